/-! The law: calls with arguments. -/
theorem arg_c (v : Int32) : v < 0 ∨ ∃ j, j < 2 ^ 31 ∧ v = nI j := by
  by_cases w : v < 0
  · exact Or.inl w
  · exact Or.inr (nI_of w)
theorem in_no {v : Int32} {lo hi : Nat} (hh : hi < 2 ^ 31) (hl : lo ≤ hi) (h : ¬ ∃ j, lo ≤ j ∧ j ≤ hi ∧ v = nI j) : f_Mo_in v (nI lo) (nI hi) = some 0 := by
  unfold f_Mo_in
  rcases arg_c v with w | ⟨j, hj, rfl⟩
  · rw [if_pos (Int32.lt_of_lt_of_le w (show (0 : Int32) ≤ nI lo from nI_le (a := 0) (b := lo) (by omega) (by omega)))]
  · by_cases w1 : j < lo
    · rw [if_pos (show nI j < nI lo from nI_lt w1 (by omega))]
    · rw [if_neg (show ¬ nI j < nI lo from nI_nlt (by omega) (by omega)), if_pos (show nI hi < nI j from nI_lt (by
        apply Classical.byContradiction
        intro z
        exact h ⟨j, by omega, by omega, rfl⟩) hj)]
