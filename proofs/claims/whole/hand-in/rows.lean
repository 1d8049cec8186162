section
theorem pk_mul (a b : Nat) : nI a * nI b = nI (a * b) := (Int32.ofNat_mul a b).symm
theorem pk_tn {n : Nat} (h : n < 2 ^ 32) : (nI n).toBitVec.toNat = n := Nat.mod_eq_of_lt h
theorem pk_and (x : Int32) {m : Int32} (k : Nat) (hm : m.toBitVec.toNat = 2 ^ k - 1) : x &&& m = nI (x.toBitVec.toNat % 2 ^ k) := by
  apply Int32.toBitVec_inj.mp
  apply BitVec.eq_of_toNat_eq
  rw [Int32.toBitVec_and, BitVec.toNat_and, hm, Nat.and_two_pow_sub_one_eq_mod]
  show _ = (BitVec.ofNat 32 _).toNat
  rw [BitVec.toNat_ofNat]
  exact (Nat.mod_eq_of_lt (Nat.lt_of_le_of_lt (Nat.mod_le _ _) x.toBitVec.isLt)).symm
theorem pk_andN {n : Nat} (h : n < 2 ^ 32) {m : Int32} (k : Nat) (hm : m.toBitVec.toNat = 2 ^ k - 1) : nI n &&& m = nI (n % 2 ^ k) := by
  rw [pk_and _ k hm, pk_tn h]
theorem pk_shr (a s : Int32) (k : Nat) (hs : (s.toBitVec.smod 32).toNat = k) : (a >>> s).toInt = a.toInt >>> k := by
  show (a.toBitVec.sshiftRight (s.toBitVec.smod 32).toNat).toInt = _
  rw [hs, BitVec.toInt_sshiftRight]
  rfl
theorem pk_shrN {n : Nat} (h : n < 2 ^ 31) (s : Int32) (k : Nat) (hs : (s.toBitVec.smod 32).toNat = k) : nI n >>> s = nI (n / 2 ^ k) := by
  apply Int32.toInt_inj.mp
  have h2 : n / 2 ^ k ≤ n := Nat.div_le_self _ _
  rw [pk_shr _ _ k hs, nI_toInt h, nI_toInt (by omega), Int.shiftRight_eq_div_pow]
  rfl
theorem bp_b (x : Int32) : x.toInt8.toInt32 &&& 255 = x &&& 255 := by
  apply Int32.toBitVec_inj.mp
  rw [Int32.toBitVec_and, Int32.toBitVec_and, Int8.toBitVec_toInt32, Int32.toBitVec_toInt8]
  apply BitVec.eq_of_getLsbD_eq
  intro i hi
  rw [BitVec.getLsbD_and, BitVec.getLsbD_and]
  have hm : ∀ i < 32, 8 ≤ i → (255 : Int32).toBitVec.getLsbD i = false := by decide
  rcases Nat.lt_or_ge i 8 with z | z
  · rw [BitVec.getLsbD_signExtend, BitVec.getLsbD_signExtend, if_pos z, if_pos hi]
    simp only [z, hi, decide_true, Bool.true_and]
  · rw [hm i hi z]; simp
/-- the distance of two pixels, as both sides reckon it -/
def sq_ab (d : Int32) : Int32 := if d < 0 then -d else d
theorem sq_abP {P : Int32 → Prop} {d : Int32} (h : P (sq_ab d)) : (0 ≤ d → P d) ∧ (¬ 0 ≤ d → P (-d)) := by
  unfold sq_ab at h
  by_cases z : d < 0
  · rw [if_pos z] at h
    exact br_f (Int32.not_le.mpr z) h
  · rw [if_neg z] at h
    exact br_t (Int32.not_lt.mp z) h
theorem sq_abQ {P : Int32 → Prop} {d : Int32} (h : P (sq_ab d)) : (0 ≤ d → P d) ∧ (¬ 0 ≤ d → ∀ y : Int32, y = -d → P y) :=
  ⟨(sq_abP h).1, fun z y e => by rw [e]; exact (sq_abP h).2 z⟩
def sq_px (a b : Nat → Int32) (i j : Nat) : Int32 := sq_ab ((a i &&& 255) - (b j &&& 255))
/-- a row's cost, summed from 0 -/
def sq_row (a b : Nat → Int32) (p q r : Nat) : Int32 :=
  0 + sq_px a b (r * 4 + 0) ((q + r) * 8 + p + 0) + sq_px a b (r * 4 + 1) ((q + r) * 8 + p + 1) + sq_px a b (r * 4 + 2) ((q + r) * 8 + p + 2) + sq_px a b (r * 4 + 3) ((q + r) * 8 + p + 3)
/-- the cost from row r on, d rows left, s summed so far, given up above m -/
def sq_go (row : Nat → Int32) (m : Int32) : Nat → Nat → Int32 → Int32
  | 0, _, s => s
  | d + 1, r, s => if s + row r ≤ m then sq_go row m d (r + 1) (s + row r) else s + row r
/-- four pixels added to a sum one by one are the row's cost added at once -/
theorem sq_asc (s a b c d : Int32) : s + a + b + c + d = s + (0 + a + b + c + d) := by
  rw [Int32.zero_add, Int32.add_assoc s a b, Int32.add_assoc s (a + b) c, Int32.add_assoc s (a + b + c) d]
theorem sq_x4 (r : Nat) : nI r * 4 = nI (r * 4) := pk_mul r 4
theorem sq_x8 (p q r : Nat) : (nI q + nI r) * 8 + nI p = nI ((q + r) * 8 + p) := by
  show (nI q + nI r) * nI 8 + nI p = _
  rw [nI_add, pk_mul, nI_add]
theorem sq_y3 {r c : Nat} (hr : r < 4) (hc : c < 4) : nI (r * 4 + c) &&& 3 = nI c := by
  rw [pk_andN (by omega) 2 (by decide), show (r * 4 + c) % 2 ^ 2 = c from by omega]
theorem sq_y2 {r c : Nat} (hr : r < 4) (hc : c < 4) : nI (r * 4 + c) >>> ((2 : Int32) &&& 31) = nI r := by
  rw [pk_shrN (by omega) _ 2 (by decide), show (r * 4 + c) / 2 ^ 2 = r from by omega]
theorem sq_yi {r c : Nat} (p q : Nat) (hr : r < 4) (hc : c < 4) : (nI q + (nI (r * 4 + c) >>> ((2 : Int32) &&& 31))) * 8 + nI p + (nI (r * 4 + c) &&& 3) = nI ((q + r) * 8 + p + c) := by
  rw [sq_y3 hr hc, sq_y2 hr hc, sq_x8, nI_add]
theorem sq_16 : nI 16 = 16 := by decide +kernel
theorem sq_64 : nI 64 = 64 := by decide +kernel
theorem sq_in16 {x : Int32} (h0 : ¬ x < 0) (h : x < 16) : vp_in x 16 := by
  obtain ⟨j, hj, rfl⟩ := nI_of h0
  rw [← sq_16, nI_ltI hj (by omega)] at h
  exact vp_in_nI h (by omega)
theorem sq_in64 {x : Int32} (h0 : ¬ x < 0) (h : x < 64) : vp_in x 64 := by
  obtain ⟨j, hj, rfl⟩ := nI_of h0
  rw [← sq_64, nI_ltI hj (by omega)] at h
  exact vp_in_nI h (by omega)
end
section
/-! the component's walks: a pixel, a row, the rows -/
theorem sq_pix {post : Int32 → Prop} {x y : Int32} (h : post (sq_ab ((x &&& 255) - (y &&& 255)))) : wpX_pixelCost post x y := by
  intro z ez
  rw [ez]
  exact sq_abP h
theorem sq_off0 {post : Int32 → Prop} {x : Int32} (h : x < 0 ∨ 4 < x) (hp : post 0) : wpX_isOffset post x := by
  by_cases z : x < 0
  · exact br_t z hp
  · exact br_f z (br_t (h.resolve_left z) hp)
theorem sq_off1 {post : Int32 → Prop} {x : Int32} (h0 : ¬ x < 0) (h4 : ¬ 4 < x) (hp : post 1) : wpX_isOffset post x := br_f h0 (br_f h4 hp)
theorem sq_xstep {post : Int32 → Prop} {m : Int32} {a b : Nat → Int32} {i j n : Nat} {s : Int32} (c : Nat) (hc : c < 4) (hi : i + c < 16) (hj : j + c < 64)
    (h : wX_rowCost_21 post (nI i) (nI j) m a b n (s + sq_px a b (i + c) (j + c)) (nI (c + 1))) : wX_rowCost_21 post (nI i) (nI j) m a b (n + 1) s (nI c) := by
  have h4 : ¬ (4 : Int32) ≤ nI c := nI_ge (b := 4) hc (by decide)
  refine br_f h4 ?_
  rw [nI_add i c, nI_add j c, nI_clamp (n := i + c) (by omega), nI_clamp (n := j + c) (by omega)]
  exact ⟨vp_in_nI hi (by omega), vp_in_nI hj (by omega), sq_pix (nm_e (nm_r (nI_1 c) h))⟩
theorem sq_44 : (4 : Int32) ≤ nI 4 := by decide +kernel
theorem sq_xrow {post : Int32 → Prop} {m : Int32} {a b : Nat → Int32} {p q r : Nat} (hp : p ≤ 4) (hq : q ≤ 4) (hr : r < 4) (h : post (sq_row a b p q r)) : wpX_rowCost post (m, a, b) (nI r) (nI p) (nI q) := by
  refine nm_r (sq_x4 r) (nm_r (sq_x8 p q r) ⟨5, ?_⟩)
  exact sq_xstep 0 (by omega) (by omega) (by omega) (sq_xstep 1 (by omega) (by omega) (by omega) (sq_xstep 2 (by omega) (by omega) (by omega) (sq_xstep 3 (by omega) (by omega) (by omega) (br_t sq_44 h))))
theorem sq_xgo {post : Int32 → Prop} {m : Int32} {a b : Nat → Int32} {p q : Nat} (hp : p ≤ 4) (hq : q ≤ 4) : ∀ (d r : Nat) (s : Int32), r + d = 4 → post (sq_go (sq_row a b p q) m d r s) → wX_sadAt_21 post (nI p) (nI q) m a b (d + 1) s (nI r) := by
  intro d
  induction d with
  | zero =>
    intro r s hr h
    have h4 : (4 : Int32) ≤ nI r := nI_le (a := 4) (by omega) (by omega)
    exact br_t h4 h
  | succ d ih =>
    intro r s hr h
    have h4 : ¬ (4 : Int32) ≤ nI r := nI_ge (b := 4) (by omega) (by decide)
    rw [sq_go] at h
    refine br_f h4 (sq_xrow hp hq (by omega) (nm_e ?_))
    by_cases z : s + sq_row a b p q r ≤ m
    · rw [if_pos z] at h
      exact br_t z (nm_r (nI_1 r) (ih (r + 1) _ (by omega) h))
    · rw [if_neg z] at h
      exact br_f z h
/-! the reference's walk: a pixel, a row of four, the rows -/
theorem sq_ystep {post : Int32 → Prop} {m : Int32} {a b : Nat → Int32} {p q r n : Nat} {s : Int32} (c : Nat) (hp : p ≤ 4) (hq : q ≤ 4) (hr : r < 4) (hc : c < 4)
    (h : wY_sadAt_81 post (wY_sadAt_25 post (nI p) (nI q) m a b n) (nI p) (nI q) s (nI (r * 4 + c)) (sq_px a b (r * 4 + c) ((q + r) * 8 + p + c)) m a b) : wY_sadAt_25 post (nI p) (nI q) m a b (n + 1) s (nI (r * 4 + c)) := by
  have h16 : ¬ (16 : Int32) ≤ nI (r * 4 + c) := nI_ge (b := 16) (by omega) (by decide)
  refine br_f h16 ⟨vp_in_nI (by omega) (by omega), ?_⟩
  rw [sq_yi p q hr hc, nI_clamp (n := r * 4 + c) (by omega), nI_clamp (n := (q + r) * 8 + p + c) (by omega)]
  exact ⟨vp_in_nI (by omega) (by omega), nm_e (sq_abQ (P := fun z => wY_sadAt_81 post (wY_sadAt_25 post (nI p) (nI q) m a b n) (nI p) (nI q) s (nI (r * 4 + c)) z m a b) h)⟩
theorem sq_mid {post : Int32 → Prop} {J : Int32 → Int32 → Prop} {x1 x2 s x5 m : Int32} {a b : Nat → Int32} {r : Nat} (c : Nat) (hr : r < 4) (hc : c < 3) (h : J (s + x5) (nI (r * 4 + (c + 1)))) : wY_sadAt_81 post J x1 x2 s (nI (r * 4 + c)) x5 m a b := by
  have z : ¬ (nI (r * 4 + c) &&& 3) = 3 := by
    rw [sq_y3 hr (by omega)]
    intro e
    have e3 : c = 3 := (nI_eq (b := 3) (by omega) (by decide)).mp e
    omega
  exact nm_e (br_f z (nm_r (nI_1 (r * 4 + c)) h))
theorem sq_end {post : Int32 → Prop} {J : Int32 → Int32 → Prop} {x1 x2 s x5 m : Int32} {a b : Nat → Int32} {r : Nat} (hr : r < 4) (h : (s + x5 ≤ m → J (s + x5) (nI (r * 4 + 4))) ∧ (¬ s + x5 ≤ m → post (s + x5))) : wY_sadAt_81 post J x1 x2 s (nI (r * 4 + 3)) x5 m a b := by
  have z : (nI (r * 4 + 3) &&& 3) = 3 := sq_y3 hr (by decide)
  exact nm_e (br_t z ⟨fun k => nm_r (nI_1 (r * 4 + 3)) (h.1 k), h.2⟩)
theorem sq_yrow {post : Int32 → Prop} {m : Int32} {a b : Nat → Int32} {p q r n : Nat} {s : Int32} (hp : p ≤ 4) (hq : q ≤ 4) (hr : r < 4)
    (h : (s + sq_row a b p q r ≤ m → wY_sadAt_25 post (nI p) (nI q) m a b n (s + sq_row a b p q r) (nI (r * 4 + 4))) ∧ (¬ s + sq_row a b p q r ≤ m → post (s + sq_row a b p q r))) : wY_sadAt_25 post (nI p) (nI q) m a b (n + 4) s (nI (r * 4)) := by
  unfold sq_row at h
  rw [← sq_asc] at h
  exact sq_ystep 0 hp hq hr (by decide) (sq_mid 0 hr (by decide) (sq_ystep 1 hp hq hr (by decide) (sq_mid 1 hr (by decide) (sq_ystep 2 hp hq hr (by decide) (sq_mid 2 hr (by decide) (sq_ystep 3 hp hq hr (by decide) (sq_end hr h)))))))
theorem sq_ygo {post : Int32 → Prop} {m : Int32} {a b : Nat → Int32} {p q : Nat} (hp : p ≤ 4) (hq : q ≤ 4) : ∀ (d r : Nat) (s : Int32), r + d = 4 → post (sq_go (sq_row a b p q) m d r s) → wY_sadAt_25 post (nI p) (nI q) m a b (d * 4 + 1) s (nI (r * 4)) := by
  intro d
  induction d with
  | zero =>
    intro r s hr h
    have h16 : (16 : Int32) ≤ nI (r * 4) := nI_le (a := 16) (by omega) (by omega)
    exact br_t h16 h
  | succ d ih =>
    intro r s hr h
    rw [show (d + 1) * 4 + 1 = d * 4 + 1 + 4 from by omega]
    rw [sq_go] at h
    refine sq_yrow hp hq (by omega) ?_
    by_cases z : s + sq_row a b p q r ≤ m
    · rw [if_pos z] at h
      refine br_t z ?_
      rw [show r * 4 + 4 = (r + 1) * 4 from by omega]
      exact ih (r + 1) _ (by omega) h
    · rw [if_neg z] at h
      exact br_f z h
/-- one answer of sadAt for both sides, from one state -/
theorem sq_sad (m : Int32) (a b : Nat → Int32) (x y : Int32) : ∃ r : Int32, (∀ post : Int32 → Prop, post r → wpX_sadAt post (m, a, b) x y) ∧ (∀ post : Int32 → Prop, post r → wpY_sadAt post (m, a, b) x y) := by
  unfold wpX_sadAt wpY_sadAt
  dsimp only
  by_cases x0 : x < 0
  · exact ⟨-1, fun post h => sq_off0 (Or.inl x0) (br_t rfl h), fun post h => br_t x0 h⟩
  by_cases x4 : 4 < x
  · exact ⟨-1, fun post h => sq_off0 (Or.inr x4) (br_t rfl h), fun post h => br_f x0 (br_t x4 h)⟩
  have h10 : ¬ (1 : Int32) = 0 := by decide
  by_cases y0 : y < 0
  · exact ⟨-1, fun post h => sq_off1 x0 x4 (br_f h10 (sq_off0 (Or.inl y0) (br_t rfl h))), fun post h => br_f x0 (br_f x4 (br_t y0 h))⟩
  by_cases y4 : 4 < y
  · exact ⟨-1, fun post h => sq_off1 x0 x4 (br_f h10 (sq_off0 (Or.inr y4) (br_t rfl h))), fun post h => br_f x0 (br_f x4 (br_f y0 (br_f (Int32.not_le.mpr y4) h)))⟩
  have yl : y ≤ 4 := Int32.not_lt.mp y4
  have xl : x ≤ 4 := Int32.not_lt.mp x4
  obtain ⟨p, hp, ep⟩ := nI_of2 (M := 4) (n := 4) (by decide) x0 xl
  obtain ⟨q, hq, eq⟩ := nI_of2 (M := 4) (n := 4) (by decide) y0 yl
  refine ⟨sq_go (sq_row a b p q) m 4 0 0, fun post h => sq_off1 x0 x4 (br_f h10 (sq_off1 y0 y4 (br_f h10 ⟨5, ?_⟩))), fun post h => br_f x0 (br_f x4 (br_f y0 (br_t yl ⟨17, ?_⟩)))⟩
  · rw [ep, eq]
    exact sq_xgo hp hq 4 0 0 rfl h
  · rw [ep, eq]
    exact sq_ygo hp hq 4 0 0 rfl h
end
section
/-- the two objects hold the same best and the same bytes -/
def i_Rel (_ : Nat) (u : SX) (v : SY) : Prop := u = v
theorem i_up {k : Nat} {u : SX} {v : SY} (h : i_Rel k u v) : i_Rel (k + 3) u v := h
theorem i_vc0 : wpX_init (fun u => wpY_init (fun v => i_Rel 0 u v)) := rfl
theorem i_vc_setCur {k : Nat} {u : SX} {v : SY} (I : i_Rel k u v) (hk : k + 3 ≤ 1536) (v1 : Int32) (v2 : Int32) : wpX_setCur (fun r u' => wpY_setCur (fun r' v' => r' = r ∧ i_Rel (k + 3) u' v') v v1 v2) u v1 v2 := by
  cases I
  obtain ⟨m, a, b⟩ := u
  by_cases h0 : v1 < 0
  · exact br_t h0 (br_t h0 ⟨rfl, rfl⟩)
  · by_cases h : v1 < 16
    · have hi := sq_in16 h0 h
      exact br_f h0 (br_t h ⟨hi, nm_e (br_f h0 (br_t h ⟨hi, nm_e ⟨bp_b v2, rfl⟩⟩))⟩)
    · exact br_f h0 (br_f h (br_f h0 (br_f h ⟨rfl, rfl⟩)))
theorem i_vc_setRef {k : Nat} {u : SX} {v : SY} (I : i_Rel k u v) (hk : k + 3 ≤ 1536) (v1 : Int32) (v2 : Int32) : wpX_setRef (fun r u' => wpY_setRef (fun r' v' => r' = r ∧ i_Rel (k + 3) u' v') v v1 v2) u v1 v2 := by
  cases I
  obtain ⟨m, a, b⟩ := u
  by_cases h0 : v1 < 0
  · exact br_t h0 (br_t h0 ⟨rfl, rfl⟩)
  · by_cases h : v1 < 64
    · have hi := sq_in64 h0 h
      exact br_f h0 (br_t h ⟨hi, nm_e (br_f h0 (br_t h ⟨hi, nm_e ⟨bp_b v2, rfl⟩⟩))⟩)
    · exact br_f h0 (br_f h (br_f h0 (br_f h ⟨rfl, rfl⟩)))
theorem i_vc_sadAt {k : Nat} {u : SX} {v : SY} (I : i_Rel k u v) (hk : k + 3 ≤ 1536) (v1 : Int32) (v2 : Int32) : wpX_sadAt (fun r => wpY_sadAt (fun r' => r' = r ∧ i_Rel (k + 3) u v) v v1 v2) u v1 v2 := by
  cases I
  obtain ⟨m, a, b⟩ := u
  obtain ⟨r, hX, hY⟩ := sq_sad m a b v1 v2
  exact hX _ (hY _ ⟨rfl, rfl⟩)
theorem i_vc_take {k : Nat} {u : SX} {v : SY} (I : i_Rel k u v) (hk : k + 3 ≤ 1536) (v1 : Int32) (v2 : Int32) : wpX_take (fun r u' => wpY_take (fun r' v' => r' = r ∧ i_Rel (k + 3) u' v') v v1 v2) u v1 v2 := by
  cases I
  obtain ⟨m, a, b⟩ := u
  obtain ⟨r, hX, hY⟩ := sq_sad m a b v1 v2
  unfold wpX_take wpY_take
  dsimp only
  refine hX _ ?_
  by_cases r0 : r < 0
  · exact br_t r0 (hY _ (br_t r0 ⟨rfl, rfl⟩))
  · by_cases rm : r < m
    · exact br_f r0 (br_t rm (hY _ (br_f r0 (br_t rm ⟨rfl, rfl⟩))))
    · exact br_f r0 (br_f rm (hY _ (br_f r0 (br_f rm ⟨rfl, rfl⟩))))
theorem i_vc_best {k : Nat} {u : SX} {v : SY} (I : i_Rel k u v) (hk : k + 3 ≤ 1536) : wpX_best (fun r => wpY_best (fun r' => r' = r ∧ i_Rel (k + 3) u v) v) u := by
  cases I
  obtain ⟨m, a, b⟩ := u
  exact ⟨rfl, rfl⟩
end
