/-- the two objects hold the same best and the same bytes -/
def i_Rel (_ : Nat) (u : SX) (v : SY) : Prop := u = v
theorem i_up {k : Nat} {u : SX} {v : SY} (h : i_Rel k u v) : i_Rel (k + 3) u v := h
theorem i_vc0 : wpX_init (fun u => wpY_init (fun v => i_Rel 0 u v)) := rfl
theorem i_vc_setCur {k : Nat} {u : SX} {v : SY} (I : i_Rel k u v) (hk : k + 3 ≤ 1536) (v1 : Int32) (v2 : Int32) : wpX_setCur (fun r u' => wpY_setCur (fun r' v' => r' = r ∧ i_Rel (k + 3) u' v') v v1 v2) u v1 v2 := by
  cases I
  obtain ⟨m, a, b⟩ := u
  by_cases h0 : v1 < 0
  · exact br_t h0 (br_t h0 ⟨rfl, rfl⟩)
  · by_cases h : v1 < 16
    · have hi := sq_in16 h0 h
      exact br_f h0 (br_t h ⟨hi, nm_e (br_f h0 (br_t h ⟨hi, nm_e ⟨bp_b v2, rfl⟩⟩))⟩)
    · exact br_f h0 (br_f h (br_f h0 (br_f h ⟨rfl, rfl⟩)))
theorem i_vc_setRef {k : Nat} {u : SX} {v : SY} (I : i_Rel k u v) (hk : k + 3 ≤ 1536) (v1 : Int32) (v2 : Int32) : wpX_setRef (fun r u' => wpY_setRef (fun r' v' => r' = r ∧ i_Rel (k + 3) u' v') v v1 v2) u v1 v2 := by
  cases I
  obtain ⟨m, a, b⟩ := u
  by_cases h0 : v1 < 0
  · exact br_t h0 (br_t h0 ⟨rfl, rfl⟩)
  · by_cases h : v1 < 64
    · have hi := sq_in64 h0 h
      exact br_f h0 (br_t h ⟨hi, nm_e (br_f h0 (br_t h ⟨hi, nm_e ⟨bp_b v2, rfl⟩⟩))⟩)
    · exact br_f h0 (br_f h (br_f h0 (br_f h ⟨rfl, rfl⟩)))
theorem i_vc_sadAt {k : Nat} {u : SX} {v : SY} (I : i_Rel k u v) (hk : k + 3 ≤ 1536) (v1 : Int32) (v2 : Int32) : wpX_sadAt (fun r => wpY_sadAt (fun r' => r' = r ∧ i_Rel (k + 3) u v) v v1 v2) u v1 v2 := by
  cases I
  obtain ⟨m, a, b⟩ := u
  obtain ⟨r, hX, hY⟩ := sq_sad m a b v1 v2
  exact hX _ (hY _ ⟨rfl, rfl⟩)
theorem i_vc_take {k : Nat} {u : SX} {v : SY} (I : i_Rel k u v) (hk : k + 3 ≤ 1536) (v1 : Int32) (v2 : Int32) : wpX_take (fun r u' => wpY_take (fun r' v' => r' = r ∧ i_Rel (k + 3) u' v') v v1 v2) u v1 v2 := by
  cases I
  obtain ⟨m, a, b⟩ := u
  obtain ⟨r, hX, hY⟩ := sq_sad m a b v1 v2
  unfold wpX_take wpY_take
  dsimp only
  refine hX _ ?_
  by_cases r0 : r < 0
  · exact br_t r0 (hY _ (br_t r0 ⟨rfl, rfl⟩))
  · by_cases rm : r < m
    · exact br_f r0 (br_t rm (hY _ (br_f r0 (br_t rm ⟨rfl, rfl⟩))))
    · exact br_f r0 (br_f rm (hY _ (br_f r0 (br_f rm ⟨rfl, rfl⟩))))
theorem i_vc_best {k : Nat} {u : SX} {v : SY} (I : i_Rel k u v) (hk : k + 3 ≤ 1536) : wpX_best (fun r => wpY_best (fun r' => r' = r ∧ i_Rel (k + 3) u v) v) u := by
  cases I
  obtain ⟨m, a, b⟩ := u
  exact ⟨rfl, rfl⟩
