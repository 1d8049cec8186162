theorem pk_mul (a b : Nat) : nI a * nI b = nI (a * b) := (Int32.ofNat_mul a b).symm
theorem pk_tn {n : Nat} (h : n < 2 ^ 32) : (nI n).toBitVec.toNat = n := Nat.mod_eq_of_lt h
theorem pk_and (x : Int32) {m : Int32} (k : Nat) (hm : m.toBitVec.toNat = 2 ^ k - 1) : x &&& m = nI (x.toBitVec.toNat % 2 ^ k) := by
  apply Int32.toBitVec_inj.mp
  apply BitVec.eq_of_toNat_eq
  rw [Int32.toBitVec_and, BitVec.toNat_and, hm, Nat.and_two_pow_sub_one_eq_mod]
  show _ = (BitVec.ofNat 32 _).toNat
  rw [BitVec.toNat_ofNat]
  exact (Nat.mod_eq_of_lt (Nat.lt_of_le_of_lt (Nat.mod_le _ _) x.toBitVec.isLt)).symm
theorem pk_andN {n : Nat} (h : n < 2 ^ 32) {m : Int32} (k : Nat) (hm : m.toBitVec.toNat = 2 ^ k - 1) : nI n &&& m = nI (n % 2 ^ k) := by
  rw [pk_and _ k hm, pk_tn h]
theorem pk_shr (a s : Int32) (k : Nat) (hs : (s.toBitVec.smod 32).toNat = k) : (a >>> s).toInt = a.toInt >>> k := by
  show (a.toBitVec.sshiftRight (s.toBitVec.smod 32).toNat).toInt = _
  rw [hs, BitVec.toInt_sshiftRight]
  rfl
theorem pk_shrN {n : Nat} (h : n < 2 ^ 31) (s : Int32) (k : Nat) (hs : (s.toBitVec.smod 32).toNat = k) : nI n >>> s = nI (n / 2 ^ k) := by
  apply Int32.toInt_inj.mp
  have h2 : n / 2 ^ k ≤ n := Nat.div_le_self _ _
  rw [pk_shr _ _ k hs, nI_toInt h, nI_toInt (by omega), Int.shiftRight_eq_div_pow]
  rfl
theorem bp_b (x : Int32) : x.toInt8.toInt32 &&& 255 = x &&& 255 := by
  apply Int32.toBitVec_inj.mp
  rw [Int32.toBitVec_and, Int32.toBitVec_and, Int8.toBitVec_toInt32, Int32.toBitVec_toInt8]
  apply BitVec.eq_of_getLsbD_eq
  intro i hi
  rw [BitVec.getLsbD_and, BitVec.getLsbD_and]
  have hm : ∀ i < 32, 8 ≤ i → (255 : Int32).toBitVec.getLsbD i = false := by decide
  rcases Nat.lt_or_ge i 8 with z | z
  · rw [BitVec.getLsbD_signExtend, BitVec.getLsbD_signExtend, if_pos z, if_pos hi]
    simp only [z, hi, decide_true, Bool.true_and]
  · rw [hm i hi z]; simp
/-- the distance of two pixels, as both sides reckon it -/
def sq_ab (d : Int32) : Int32 := if d < 0 then -d else d
theorem sq_abP {P : Int32 → Prop} {d : Int32} (h : P (sq_ab d)) : (0 ≤ d → P d) ∧ (¬ 0 ≤ d → P (-d)) := by
  unfold sq_ab at h
  by_cases z : d < 0
  · rw [if_pos z] at h
    exact br_f (Int32.not_le.mpr z) h
  · rw [if_neg z] at h
    exact br_t (Int32.not_lt.mp z) h
theorem sq_abQ {P : Int32 → Prop} {d : Int32} (h : P (sq_ab d)) : (0 ≤ d → P d) ∧ (¬ 0 ≤ d → ∀ y : Int32, y = -d → P y) :=
  ⟨(sq_abP h).1, fun z y e => by rw [e]; exact (sq_abP h).2 z⟩
def sq_px (a b : Nat → Int32) (i j : Nat) : Int32 := sq_ab ((a i &&& 255) - (b j &&& 255))
/-- a row's cost, summed from 0 -/
def sq_row (a b : Nat → Int32) (p q r : Nat) : Int32 :=
  0 + sq_px a b (r * 4 + 0) ((q + r) * 8 + p + 0) + sq_px a b (r * 4 + 1) ((q + r) * 8 + p + 1) + sq_px a b (r * 4 + 2) ((q + r) * 8 + p + 2) + sq_px a b (r * 4 + 3) ((q + r) * 8 + p + 3)
/-- the cost from row r on, d rows left, s summed so far, given up above m -/
def sq_go (row : Nat → Int32) (m : Int32) : Nat → Nat → Int32 → Int32
  | 0, _, s => s
  | d + 1, r, s => if s + row r ≤ m then sq_go row m d (r + 1) (s + row r) else s + row r
/-- four pixels added to a sum one by one are the row's cost added at once -/
theorem sq_asc (s a b c d : Int32) : s + a + b + c + d = s + (0 + a + b + c + d) := by
  rw [Int32.zero_add, Int32.add_assoc s a b, Int32.add_assoc s (a + b) c, Int32.add_assoc s (a + b + c) d]
theorem sq_x4 (r : Nat) : nI r * 4 = nI (r * 4) := pk_mul r 4
theorem sq_x8 (p q r : Nat) : (nI q + nI r) * 8 + nI p = nI ((q + r) * 8 + p) := by
  show (nI q + nI r) * nI 8 + nI p = _
  rw [nI_add, pk_mul, nI_add]
theorem sq_y3 {r c : Nat} (hr : r < 4) (hc : c < 4) : nI (r * 4 + c) &&& 3 = nI c := by
  rw [pk_andN (by omega) 2 (by decide), show (r * 4 + c) % 2 ^ 2 = c from by omega]
theorem sq_y2 {r c : Nat} (hr : r < 4) (hc : c < 4) : nI (r * 4 + c) >>> ((2 : Int32) &&& 31) = nI r := by
  rw [pk_shrN (by omega) _ 2 (by decide), show (r * 4 + c) / 2 ^ 2 = r from by omega]
theorem sq_yi {r c : Nat} (p q : Nat) (hr : r < 4) (hc : c < 4) : (nI q + (nI (r * 4 + c) >>> ((2 : Int32) &&& 31))) * 8 + nI p + (nI (r * 4 + c) &&& 3) = nI ((q + r) * 8 + p + c) := by
  rw [sq_y3 hr hc, sq_y2 hr hc, sq_x8, nI_add]
theorem sq_16 : nI 16 = 16 := by decide +kernel
theorem sq_64 : nI 64 = 64 := by decide +kernel
theorem sq_in16 {x : Int32} (h0 : ¬ x < 0) (h : x < 16) : vp_in x 16 := by
  obtain ⟨j, hj, rfl⟩ := nI_of h0
  rw [← sq_16, nI_ltI hj (by omega)] at h
  exact vp_in_nI h (by omega)
theorem sq_in64 {x : Int32} (h0 : ¬ x < 0) (h : x < 64) : vp_in x 64 := by
  obtain ⟨j, hj, rfl⟩ := nI_of h0
  rw [← sq_64, nI_ltI hj (by omega)] at h
  exact vp_in_nI h (by omega)
