/-! The reference's calls: solutions, guesses, trials. -/
theorem MW.mf6 {h h' : PH} {mo : Nat} {x : ST} {m : Nat} {sv : Nat → ST} {tl : Nat} {tx : Nat → Int32} {t : Int32} (H : MW h mo x m sv tl tx t) (f : Fr (fun k => k = mo + 6) h h') {g : Nat → Int32} {n : Nat} (e : h'.2 (mo + 6) = oI n g) (hn : 72 ≤ n) (hn' : n < 2 ^ 31) : MW h' mo x m sv tl tx t := by
  obtain ⟨⟨W, a0, a1⟩, b, _, _, _, q⟩ := id H
  refine H.sv a0 ((f.2 _ (by omega)).trans a0) (fun _ _ _ => rfl) (fun k h1 h2 => f.2 k (by omega)) (fun j h1 h2 => ?_)
  by_cases w6 : j = 6
  · subst w6; exact ⟨n, g, e, hn, hn', fun z => absurd rfl z⟩
  exact (q j h1 h2).fr (f.2 _ (by omega))
theorem MW.m6 {h : PH} {mo : Nat} {x : ST} {m : Nat} {sv : Nat → ST} {tl : Nat} {tx : Nat → Int32} {t : Int32} (H : MW h mo x m sv tl tx t) {g : Nat → Int32} {K : Nat → Nat → Bool} {P : Nat → Bool} {n : Nat} (e : h.2 (mo + 6) = oI n g) (hn : 72 ≤ n) (hn' : n < 2 ^ 31) (X : XA g K P) : ∃ V, MN h mo (mo + 6) V (tR x) K P := by
  obtain ⟨⟨W, a0, a1, _⟩, b, ⟨g1, c1, c2⟩, _, _, q⟩ := H
  exact ⟨W, a0, a1, Or.inr (Or.inl rfl), ⟨g1, c1, c2.1⟩, ⟨n, g, hn, hn', e, X⟩, (q 4 (by omega) (by omega)).g (by omega), (q 5 (by omega) (by omega)).g (by omega)⟩
theorem ev_of {R : RT} (hR : ROK R) {K : Nat → Nat → Bool} {P : Nat → Bool} (hp : PI K P) : ∃ L, Ev R 36 K P L := by
  have hop : opn K ≤ 36 := by
    have := cnt_neg (fun c => decide (2 ≤ sz (K c))) 36
    unfold opn
    omega
  exact Ev_ex hR 36 K P hp hop
/-- what the search writes -/
def DQ (mo : Nat) : Nat → Prop := fun k => mo ≤ k ∧ k ≤ mo + 11
theorem ds_dm {mo : Nat} : ∀ k, DQ mo k → DM mo k := fun k hk => by simp only [DQ, DM] at hk ⊢; omega
theorem m_slv {h : PH} {mo : Nat} {x : ST} {m : Nat} {sv : Nat → ST} {tl : Nat} {tx : Nat → Int32} {t : Int32} (H : MW h mo x m sv tl tx t) {K : Nat → Nat → Bool} {P : Nat → Bool} (hM : ∃ V, MN h mo (mo + 6) V (tR x) K P) (hR : ROK (tR x)) (hp : PI K P) {L : EL} (hE : Ev (tR x) 36 K P L) {lim : Nat} (hl : lim ≤ 1000) (h1 : 1 ≤ lim) {F : Nat} (hF : 3000 + nB 36 ≤ F) :
    ∃ h' s, s = rrun lim L rs0 ∧ f_Mo_solve F mo (nI lim) h = some h' ∧ MW h' mo x m sv tl tx t ∧ gI h' mo 10 17 = some (nI s.1) ∧ (s.1 ≠ 0 → gI h' mo 10 19 = some (nI s.2.2.1) ∧ ∀ c, c < 36 → aI h' (mo + 10) (nI c) = some (nI (s.2.2.2.1 c))) ∧ (∀ c, c < 36 → aI h' (mo + 11) (nI c) = some (nI (mkd (s.2.2.2.2 c)))) ∧ Fr (DQ mo) h h' := by
  obtain ⟨V, M⟩ := hM
  obtain ⟨⟨W, a0, a1⟩, b, _, _, _, q⟩ := id H
  obtain ⟨g10, z10⟩ := (q 10 (by omega) (by omega)).g (by omega)
  obtain ⟨g11, z11⟩ := (q 11 (by omega) (by omega)).g (by omega)
  obtain ⟨g7, z7⟩ := (q 7 (by omega) (by omega)).g (by omega)
  obtain ⟨g8, z8⟩ := (q 8 (by omega) (by omega)).g (by omega)
  obtain ⟨g9, z9⟩ := (q 9 (by omega) (by omega)).g (by omega)
  obtain ⟨h', st', K', P', p1, ⟨V1, g, u, w, wc, ws, M1, v17, v18, v19, ⟨s1, s1'⟩, ⟨s2, s2'⟩, s3, s4, s5, _⟩, ⟨k0, k1, k2⟩⟩ := m_solve ⟨V, g10, g11, g7, g8, g9, M, z10, z11, z7, z8, z9⟩ hR hp hE hl h1 hF
  obtain ⟨V', e0', eV⟩ := k2 W a0
  obtain ⟨n0, n1, n2, ⟨fm, n3, n4⟩, ⟨nn, fx, b1, b2, b3, b4⟩, k4, k5⟩ := id M1
  refine ⟨h', _, rfl, p1, H.sv a0 e0' (fun k hk hf => eV k ?_ ?_) (fun k h1 h2 => k1 k (by omega) (by omega)) (fun j h1 h2 => ?_), ob_I n0 (by omega) v17, fun hne => ⟨ob_I n0 (by omega) (v19 hne), fun c hc => by rw [ar_I s1 (by omega) (by omega), s1' hne c hc]⟩, fun c hc => by rw [ar_I s2 (by omega) (by omega), s2' c hc], ⟨k0, fun k hk => k1 k (by simp only [DQ] at hk; omega) (by simp only [DQ] at hk; omega)⟩⟩
  · rintro ⟨y1, y2⟩
    obtain rfl | rfl | rfl : k = 6 ∨ k = 7 ∨ k = 8 := by omega
    all_goals (rcases hf with hf | hf | hf | hf; (cases hf); all_goals omega)
  · rintro ⟨y1, y2⟩
    obtain rfl | rfl | rfl : k = 17 ∨ k = 18 ∨ k = 19 := by omega
    all_goals (rcases hf with hf | hf | hf | hf; (cases hf); all_goals omega)
  · by_cases w4 : j = 4
    · subst w4; exact mx_s k4
    by_cases w5 : j = 5
    · subst w5; exact mx_s k5
    by_cases w6 : j = 6
    · subst w6
      exact ⟨nn, fx, b3, b1, b2, fun z => absurd rfl z⟩
    by_cases w7 : j = 7
    · subst w7; exact mx_s ⟨w, s3⟩
    by_cases w8 : j = 8
    · subst w8; exact mx_s ⟨wc, s4⟩
    by_cases w9 : j = 9
    · subst w9; exact mx_s ⟨ws, s5⟩
    by_cases w10 : j = 10
    · subst w10; exact mx_s ⟨g, s1⟩
    by_cases w11 : j = 11
    · subst w11; exact mx_s ⟨u, s2⟩
    exact (q j h1 h2).fr (k1 _ (by omega) (by omega))
