/-! the pure statement -/
theorem law_pure (L : Nat) (hL : L ≤ 2048) (xs : Nat → Int32) : ∃ F, f_Law_law F L xs (0, fun _ => pdead) = some 1 :=
  ⟨_, law_all hL xs (Nat.le_refl _)⟩
