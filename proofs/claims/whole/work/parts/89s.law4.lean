/-! The law: calls with arguments. -/
theorem arg_c (v : Int32) : v < 0 ∨ ∃ j, j < 2 ^ 31 ∧ v = nI j := by
  by_cases w : v < 0
  · exact Or.inl w
  · exact Or.inr (nI_of w)
theorem in_no {v : Int32} {lo hi : Nat} (hh : hi < 2 ^ 31) (hl : lo ≤ hi) (h : ¬ ∃ j, lo ≤ j ∧ j ≤ hi ∧ v = nI j) : f_Mo_in v (nI lo) (nI hi) = some 0 := by
  unfold f_Mo_in
  rcases arg_c v with w | ⟨j, hj, rfl⟩
  · rw [if_pos (Int32.lt_of_lt_of_le w (show (0 : Int32) ≤ nI lo from nI_le (a := 0) (b := lo) (by omega) (by omega)))]
  · by_cases w1 : j < lo
    · rw [if_pos (show nI j < nI lo from nI_lt w1 (by omega))]
    · rw [if_neg (show ¬ nI j < nI lo from nI_nlt (by omega) (by omega)), if_pos (show nI hi < nI j from nI_lt (by
        apply Classical.byContradiction
        intro z
        exact h ⟨j, by omega, by omega, rfl⟩) hj)]
theorem cc_no {v : Int32} (h : ¬ ∃ j, j < 36 ∧ v = nI j) (H : PH) : f_Np_checkCell v H = some (.inl 0, H) := by
  unfold f_Np_checkCell
  rcases arg_c v with w | ⟨j, hj, rfl⟩
  · rw [if_pos w]; rfl
  · have hj36 : ¬ j < 36 := fun z => h ⟨j, z, rfl⟩
    rw [if_neg (nI_pos hj), if_neg (show ¬ nI j < (36 : Int32) from nI_nlt (a := j) (b := 36) (by omega) hj)]
    rfl
theorem what_no {v : Int32} {n : Nat} (hn : n < 2 ^ 31) (h : ¬ ∃ j, j ≤ n ∧ v = nI j) (H : PH) : f_Np_checkWhat v (nI n) H = some (.inl 1, H) := by
  unfold f_Np_checkWhat
  rcases arg_c v with w | ⟨j, hj, rfl⟩
  · rw [if_pos w]; rfl
  · have hjn : ¬ j ≤ n := fun z => h ⟨j, z, rfl⟩
    rw [if_neg (nI_pos hj), if_neg (show ¬ nI j ≤ nI n from nI_ge (by omega) hj)]
    rfl
theorem mc_no {v : Int32} (h : ¬ ∃ j, j < 36 ∧ v = nI j) : f_Mo_isCell v = some 0 := by
  unfold f_Mo_isCell
  rw [show f_Mo_in v (0 : Int32) (35 : Int32) = _ from in_no (lo := 0) (hi := 35) (by omega) (by omega) fun ⟨j, _, h2, h3⟩ => h ⟨j, by omega, h3⟩, bnd_s]
  rfl
