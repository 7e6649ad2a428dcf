/-! The law: parse, digest, undo. -/
theorem l_1383 {F L : Nat} {xs : Nat → Int32} {k : Nat → Nat → Nat → Int32 → PH → Option Int32} {i : Int32} {h : PH} (H : IVe h) (hF : 3000 + nB 36 ≤ F) : ∃ h', IVe h' ∧ b_Law_law_1383 F L xs k 0 263 278 i h = k 0 263 278 (i + 4) h' := by
  have hF3 := F3 hF
  obtain ⟨x, m, sv, tl, tx, I⟩ := H
  obtain ⟨C, _, hv, hs, hm, _⟩ := id I
  obtain ⟨v1, h1, p1, f1, q1⟩ := c_parse C hv hF3
  obtain ⟨t, M1⟩ := I.m f1
  obtain ⟨v2, h2, p2, f2, q2⟩ := m_parse M1 hv hs hF3
  refine ⟨h2, ?_, ?_⟩
  · cases hp : parR tl tx with
    | inl f =>
      rw [hp] at q1 q2
      exact I.go f1 q1.2.2 f2 q2.2 hv hs hm
    | inr y =>
      rw [hp] at q1 q2
      exact I.go f1 q1.2.2.2 f2 q2.2 (neT_v q1.1 q1.2.1) (svS_v hm hv hs) svN_le
  · have e : v1 = v2 := by
      cases hp : parR tl tx with
      | inl f =>
        rw [hp] at q1 q2
        exact q1.2.1.trans q2.1.symm
      | inr y =>
        rw [hp] at q1 q2
        exact q1.2.2.1.trans q2.1.symm
    rw [b_Law_law_1383, I.ck, bnd_s, p1, bnd2_s, M1.r.1, bnd_s, p2, bnd2_s, if_pos e]
theorem lg_self (z : Int64) : lg_cmp z z = 0 := by
  unfold lg_cmp
  simp
theorem l_1440 {F L : Nat} {xs : Nat → Int32} {k : Nat → Nat → Nat → Int32 → PH → Option Int32} {i : Int32} {h : PH} (H : IVe h) (hF : 3000 + nB 36 ≤ F) : ∃ h', IVe h' ∧ b_Law_law_1440 F L xs k 0 263 278 i h = k 0 263 278 (i + 4) h' := by
  have hF3 := F3 hF
  obtain ⟨x, m, sv, tl, tx, I⟩ := H
  obtain ⟨C, _, hv, hs, hm, _⟩ := id I
  obtain ⟨kd, pl, K', P', h1, g1, p1, C1, f1⟩ := c_digest C hv hF3
  obtain ⟨t, M1⟩ := I.m f1
  obtain ⟨h2, p2, M2, f2⟩ := m_digest M1 hv g1 hF3
  refine ⟨h2, I.go f1 C1 f2 M2 hv hs hm, ?_⟩
  rw [b_Law_law_1440, I.ck, bnd_s, p1]
  show bnd (cK h1 263 10) _ = _
  rw [M1.r.1, bnd_s, p2, bnd2_s, lg_self, if_pos rfl]
