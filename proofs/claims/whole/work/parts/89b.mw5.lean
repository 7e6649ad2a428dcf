/-! The reference's calls: deductions, hints, what a kind is needed for. -/
theorem RA.a {f f' : Nat → Int32} {x : ST} {K' : Nat → Nat → Bool} {P' : Nat → Bool} (H : RA f x) (r : ∀ i, 72 ≤ i → f' i = f i) (X : XA f' K' P') : RA f' (tR x, K', P', tG x, tN x, tE x) := by
  obtain ⟨⟨c2, c2'⟩, c3, c4, c5, c6⟩ := H
  refine ⟨⟨(r _ (by omega)).trans c2, fun k hk => ?_⟩, X, fun c hc => (r _ (by omega)).trans (c4 c hc), (r _ (by omega)).trans c5, fun i j hi hj => (r _ (by omega)).trans (c6 i j hi hj)⟩
  obtain ⟨r1, r2, r3, r4⟩ := c2' k hk
  exact ⟨(r _ (by omega)).trans r1, (r _ (by omega)).trans r2, (r _ (by omega)).trans r3, fun j hj => (r _ (by omega)).trans (r4 j hj)⟩
/-- what serves is written -/
theorem MW.sv {h h' : PH} {mo : Nat} {x : ST} {m : Nat} {sv : Nat → ST} {tl : Nat} {tx : Nat → Int32} {t : Int32} {V V' : Nat → Value} (H : MW h mo x m sv tl tx t) (e0 : h.2 mo = obj 10 28 V) (e0' : h'.2 mo = obj 10 28 V') (eV : ∀ k, k < 28 → (isF k = false ∨ k = 2 ∨ k = 4 ∨ k = 5) → V' k = V k) (e1 : ∀ k, mo + 1 ≤ k → k ≤ mo + 3 → h'.2 k = h.2 k) (X : MX h' mo) : MW h' mo x m sv tl tx t := by
  obtain ⟨⟨W, a0, a1, a2, a3, a4⟩, b, ⟨g1, c1, c2⟩, ⟨g2, d1, d2⟩, ⟨g3, f1, f2⟩, q⟩ := H
  have hWV : ∀ k, k < 28 → W k = V k := fun k hk => by
    have z1 := ob_g e0 hk
    rw [ob_g a0 hk] at z1
    simpa using z1
  have hu : ∀ k, k < 28 → (isF k = false ∨ k = 2 ∨ k = 4 ∨ k = 5) → V' k = W k := fun k h1 h2 => (eV k h1 h2).trans (hWV k h1).symm
  obtain ⟨m1, m2, m3, m4, m5, m6, m7, m8, m9, m10, m11, m12, m13, m14⟩ := a1
  exact ⟨⟨V', e0', ⟨(hu 0 (by omega) (Or.inl rfl)).trans m1, (hu 1 (by omega) (Or.inl rfl)).trans m2, (hu 3 (by omega) (Or.inl rfl)).trans m3, (hu 9 (by omega) (Or.inl rfl)).trans m4, (hu 10 (by omega) (Or.inl rfl)).trans m5, (hu 11 (by omega) (Or.inl rfl)).trans m6, (hu 12 (by omega) (Or.inl rfl)).trans m7, (hu 13 (by omega) (Or.inl rfl)).trans m8, (hu 14 (by omega) (Or.inl rfl)).trans m9, (hu 15 (by omega) (Or.inl rfl)).trans m10, (hu 16 (by omega) (Or.inl rfl)).trans m11, (hu 21 (by omega) (Or.inl rfl)).trans m12, (hu 24 (by omega) (Or.inl rfl)).trans m13, (hu 25 (by omega) (Or.inl rfl)).trans m14⟩, (hu 2 (by omega) (by omega)).trans a2, (hu 4 (by omega) (by omega)).trans a3, (hu 5 (by omega) (by omega)).trans a4⟩, b, ⟨g1, (e1 _ (by omega) (by omega)).trans c1, c2⟩, ⟨g2, (e1 _ (by omega) (by omega)).trans d1, d2⟩, ⟨g3, (e1 _ (by omega) (by omega)).trans f1, f2⟩, X⟩
theorem MW.ms {h h' : PH} {mo : Nat} {x : ST} {m : Nat} {sv : Nat → ST} {tl : Nat} {tx : Nat → Int32} {t : Int32} {K0 K' : Nat → Nat → Bool} {P' : Nat → Bool} {kd : Nat} {pl : Int32} (H : MW h mo x m sv tl tx t) (M : MS h h' mo (mo + 1) (tR x) K0 kd pl K' P') :
    MW h' mo (tR x, K', P', tG x, tN x, tE x) m sv tl tx t ∧ gI h' mo 10 6 = some (nI kd) ∧ gI h' mo 10 7 = some pl ∧ (∃ rm, gI h' mo 10 8 = some (nI rm) ∧ rm + tot K' = tot K0) ∧ Fr (DM mo) h h' := by
  obtain ⟨V1, rm, ⟨n0, n1, n2, ⟨fm, n3, n4⟩, ⟨nn, fx, b1, b2, b3, b4⟩, k4, k5⟩, v6, v7, v8, ht, ⟨m0, m1, m2, m3⟩⟩ := M
  obtain ⟨⟨W, a0, a1, a2, a3, a4⟩, b, ⟨g1, c1, c2⟩, ⟨g2, d1, d2⟩, ⟨g3, f1, f2⟩, q⟩ := id H
  obtain ⟨V', e0', eV⟩ := m3 W a0
  obtain ⟨f', r1, r2⟩ := m2 482 g1 c1
  have hVV : ∀ k, k < 28 → V' k = V1 k := fun k hk => by
    have z1 := ob_g e0' hk
    rw [ob_g n0 hk] at z1
    simpa using z1.symm
  have hX : XA f' K' P' := by
    obtain ⟨_, z2⟩ := oI_inj (r1.symm.trans b3)
    rw [z2]; exact b4
  have hfr : Fr (DM mo) h h' := ⟨m0, fun k hk => m1 k (by simp only [DM] at hk; omega) (by simp only [DM] at hk; omega) (by simp only [DM] at hk; omega) (by simp only [DM] at hk; omega)⟩
  have hne : ∀ k, isF k = false ∨ k = 2 ∨ k = 4 ∨ k = 5 → k ≠ 6 ∧ k ≠ 7 ∧ k ≠ 8 := fun k hk => by
    refine ⟨?_, ?_, ?_⟩ <;> (intro z; subst z; rcases hk with hk | hk | hk | hk <;> first | (cases hk; done) | omega)
  refine ⟨⟨⟨V', e0', ⟨(eV 0 (by omega) (by omega) (by omega)).trans a1.1, (eV 1 (by omega) (by omega) (by omega)).trans a1.2.1, (eV 3 (by omega) (by omega) (by omega)).trans a1.2.2.1, (eV 9 (by omega) (by omega) (by omega)).trans a1.2.2.2.1, (eV 10 (by omega) (by omega) (by omega)).trans a1.2.2.2.2.1, (eV 11 (by omega) (by omega) (by omega)).trans a1.2.2.2.2.2.1, (eV 12 (by omega) (by omega) (by omega)).trans a1.2.2.2.2.2.2.1, (eV 13 (by omega) (by omega) (by omega)).trans a1.2.2.2.2.2.2.2.1, (eV 14 (by omega) (by omega) (by omega)).trans a1.2.2.2.2.2.2.2.2.1, (eV 15 (by omega) (by omega) (by omega)).trans a1.2.2.2.2.2.2.2.2.2.1, (eV 16 (by omega) (by omega) (by omega)).trans a1.2.2.2.2.2.2.2.2.2.2.1, (eV 21 (by omega) (by omega) (by omega)).trans a1.2.2.2.2.2.2.2.2.2.2.2.1, (eV 24 (by omega) (by omega) (by omega)).trans a1.2.2.2.2.2.2.2.2.2.2.2.2.1, (eV 25 (by omega) (by omega) (by omega)).trans a1.2.2.2.2.2.2.2.2.2.2.2.2.2⟩, (eV 2 (by omega) (by omega) (by omega)).trans a2, (eV 4 (by omega) (by omega) (by omega)).trans a3, (eV 5 (by omega) (by omega) (by omega)).trans a4⟩, b, ⟨f', r1, c2.a r2 hX⟩, ⟨g2, (m1 _ (by omega) (by omega) (by omega) (by omega)).trans d1, d2⟩, ⟨g3, (m1 _ (by omega) (by omega) (by omega) (by omega)).trans f1, f2⟩, fun j h1 h2 => ?_⟩, ob_I n0 (by omega) v6, ob_I n0 (by omega) v7, ⟨rm, ob_I n0 (by omega) v8, ht⟩, hfr⟩
  by_cases w4 : j = 4
  · subst w4; exact mx_s k4
  by_cases w5 : j = 5
  · subst w5; exact mx_s k5
  exact (q j h1 h2).fr (m1 _ (by omega) (by omega) (by omega) (by omega))
theorem MW.ms6 {h h' : PH} {mo : Nat} {x : ST} {m : Nat} {sv : Nat → ST} {tl : Nat} {tx : Nat → Int32} {t : Int32} {K0 K' : Nat → Nat → Bool} {P' : Nat → Bool} {kd : Nat} {pl : Int32} (H : MW h mo x m sv tl tx t) (M : MS h h' mo (mo + 6) (tR x) K0 kd pl K' P') :
    MW h' mo x m sv tl tx t ∧ gI h' mo 10 6 = some (nI kd) ∧ gI h' mo 10 7 = some pl ∧ (∃ V, MN h' mo (mo + 6) V (tR x) K' P') ∧ Fr (DM mo) h h' := by
  obtain ⟨V1, rm, M0, v6, v7, v8, ht, ⟨m0, m1, m2, m3⟩⟩ := M
  obtain ⟨n0, n1, n2, ⟨fm, n3, n4⟩, ⟨nn, fx, b1, b2, b3, b4⟩, k4, k5⟩ := id M0
  obtain ⟨⟨W, a0, a1⟩, b, _, _, _, q⟩ := id H
  obtain ⟨V', e0', eV⟩ := m3 W a0
  obtain ⟨n6, f6, z6, s6⟩ := q 6 (by omega) (by omega)
  obtain ⟨f', r1, r2⟩ := m2 n6 f6 z6
  refine ⟨H.sv a0 e0' (fun k hk hf => eV k ?_ ?_ ?_) (fun k h1 h2 => m1 k (by omega) (by omega) (by omega) (by omega)) (fun j h1 h2 => ?_), ob_I n0 (by omega) v6, ob_I n0 (by omega) v7, ⟨V1, M0⟩, ⟨m0, fun k hk => m1 k (by simp only [DM] at hk; omega) (by simp only [DM] at hk; omega) (by simp only [DM] at hk; omega) (by simp only [DM] at hk; omega)⟩⟩
  · rintro rfl; rcases hf with hf | hf | hf | hf
    · cases hf
    all_goals omega
  · rintro rfl; rcases hf with hf | hf | hf | hf
    · cases hf
    all_goals omega
  · rintro rfl; rcases hf with hf | hf | hf | hf
    · cases hf
    all_goals omega
  · by_cases w4 : j = 4
    · subst w4; exact mx_s k4
    by_cases w5 : j = 5
    · subst w5; exact mx_s k5
    by_cases w6 : j = 6
    · subst w6; exact ⟨_, f', r1, s6⟩
    exact (q j h1 h2).fr (m1 _ (by omega) (by omega) (by omega) (by omega))
/-- the trial row holds the position -/
theorem m_load {h : PH} {mo : Nat} {x : ST} {m : Nat} {sv : Nat → ST} {tl : Nat} {tx : Nat → Int32} {t : Int32} (H : MW h mo x m sv tl tx t) {F : Nat} (hF : 3000 ≤ F) :
    ∃ h', f_Mo_copyRow F (mo + 1) (0 : Int32) (mo + 6) (0 : Int32) h = some h' ∧ MW h' mo x m sv tl tx t ∧ (∃ V, MN h' mo (mo + 6) V (tR x) (tK x) (tP x)) ∧ Fr (DM mo) h h' := by
  obtain ⟨⟨W, a0, a1⟩, b, ⟨g1, c1, c2⟩, _, _, q⟩ := id H
  obtain ⟨n6, f6, z6, s6, s7, s8⟩ := q 6 (by omega) (by omega)
  have s72 : 72 ≤ n6 := s6
  obtain ⟨h', p1, q1, r1⟩ := m_copyRow (o1 := 0) (o2 := 0) c1 z6 (by omega) (by omega) (by omega) (by omega) s7 (F := F) (by omega)
  refine ⟨h', p1, H.sv a0 ((r1.2 _ (by omega)).trans a0) (fun _ _ _ => rfl) (fun k h1 h2 => r1.2 k (by omega)) (fun j h1 h2 => ?_), ⟨W, (r1.2 _ (by omega)).trans a0, a1.1, Or.inr (Or.inl rfl), ⟨g1, (r1.2 _ (by omega)).trans c1, c2.1⟩, ⟨n6, _, s72, s7, q1, fun c hc => ?_⟩, ?_, ?_⟩, r1.mo fun k hk => by simp only [DM]; omega⟩
  · by_cases w6 : j = 6
    · subst w6; exact ⟨_, _, q1, s6, s7, s8⟩
    exact (q j h1 h2).fr (r1.2 _ (by omega))
  · have e : ∀ i, i < 72 → (if 0 ≤ i ∧ i < 0 + 72 then g1 (0 + (i - 0)) else f6 i) = g1 i := fun i hi => by
      rw [if_pos (by omega)]
      exact congrArg g1 (by omega)
    exact ⟨(e _ (by omega)).trans (c2.2.1 c hc).1, (e _ (by omega)).trans (c2.2.1 c hc).2⟩
  · obtain ⟨f9, z⟩ := (q 4 (by omega) (by omega)).g (by omega)
    exact ⟨f9, (r1.2 _ (by omega)).trans z⟩
  · obtain ⟨f9, z⟩ := (q 5 (by omega) (by omega)).g (by omega)
    exact ⟨f9, (r1.2 _ (by omega)).trans z⟩
theorem m_looks {h : PH} {mo : Nat} {x : ST} {m : Nat} {sv : Nat → ST} {tl : Nat} {tx : Nat → Int32} {t : Int32} (H : MW h mo x m sv tl tx t) (hR : ROK (tR x)) {F : Nat} (hF : 3000 ≤ F) :
    ∃ kd pl K' P' h', NX (tR x) (tK x) (tP x) kd pl K' P' ∧ f_Mo_looks F mo h = some (if kd = 0 then 0 else 1, h') ∧ MW h' mo x m sv tl tx t ∧ gI h' mo 10 6 = some (nI kd) ∧ gI h' mo 10 7 = some (if kd = 0 then -1 else nI pl) ∧ Fr (DM mo) h h' := by
  obtain ⟨h1, p1, H1, ⟨V, M1⟩, f1⟩ := m_load H hF
  obtain ⟨kd, pl, K', P', h2, g1, g2, g3⟩ := m_next M1 hR (F := F) (by omega)
  obtain ⟨H2, z6, z7, _, f2⟩ := H1.ms6 g3
  refine ⟨kd, pl, K', P', h2, g1, ?_, H2, z6, z7, f1.tr f2⟩
  unfold f_Mo_looks
  rw [H.r.2.1, bnd_s, H.r.2.2.2.2.1, bnd_s, p1, bnd_s, H1.r.2.2.2.2.1, bnd_s, H1.r.1, bnd_s, g2, bnd2_s]
  by_cases w : kd = 0
  · rw [if_pos w]; rfl
  · rw [if_neg w]; rfl
theorem m_hint {h : PH} {mo : Nat} {x : ST} {m : Nat} {sv : Nat → ST} {tl : Nat} {tx : Nat → Int32} {t : Int32} (H : MW h mo x m sv tl tx t) (hR : ROK (tR x)) {F : Nat} (hF : 3000 ≤ F) :
    ∃ kd pl K' P' h', NX (tR x) (tK x) (tP x) kd pl K' P' ∧ f_Mo_hint F mo h = some (nI kd, h') ∧ f_Mo_hintPlace F mo h = some (if kd = 0 then -1 else nI pl, h') ∧ MW h' mo x m sv tl tx 0 ∧ Fr (DM mo) h h' := by
  obtain ⟨h1, p1, H1, f1⟩ := H.t 0
  obtain ⟨kd, pl, K', P', h2, g1, g2, H2, z6, z7, f2⟩ := m_looks H1 hR hF
  refine ⟨kd, pl, K', P', h2, g1, ?_, ?_, H2, (DM.mo' f1).tr f2⟩
  · unfold f_Mo_hint
    rw [p1, bnd_s, H1.r.1, bnd_s, g2, bnd2_s]
    by_cases w : kd = 0
    · subst w; rfl
    · rw [if_neg w, if_neg (by decide), z6, bnd_s]
  · unfold f_Mo_hintPlace
    rw [p1, bnd_s, H1.r.1, bnd_s, g2, bnd2_s]
    by_cases w : kd = 0
    · subst w; rfl
    · rw [if_neg w, if_neg (by decide), z7, bnd_s]
/-- the row's log is written -/
theorem RA.L {f f' : Nat → Int32} {x : ST} {N : Nat} {E : Nat → Nat → Int32} (H : RA f x) (hR : ROK (tR x)) (e : ∀ j, j < 181 → f' j = f j) (n : f' 181 = nI N) (l : ∀ i j, i < N → j < 3 → f' (182 + 3 * i + j) = E i j) : RA f' (tR x, tK x, tP x, tG x, N, E) := by
  obtain ⟨⟨c2, c2'⟩, c3, c4, c5, c6⟩ := H
  have h8 := hR.1
  refine ⟨⟨(e _ (by omega)).trans c2, fun k hk => ?_⟩, fun c hc => ⟨(e _ (by omega)).trans (c3 c hc).1, (e _ (by omega)).trans (c3 c hc).2⟩, fun c hc => (e _ (by omega)).trans (c4 c hc), n, l⟩
  have hk' : k < rn (tR x) := hk
  have hl := (hR.2 k hk).2.1
  have := mxl_le (rk (tR x) k)
  obtain ⟨r1, r2, r3, r4⟩ := c2' k hk
  exact ⟨(e _ (by omega)).trans r1, (e _ (by omega)).trans r2, (e _ (by omega)).trans r3, fun j hj => (e _ (by
    have hj' : j < rl (tR x) k := hj
    omega)).trans (r4 j hj)⟩
theorem m_notes56 {h : PH} {mo : Nat} {V : Nat → Value} {f : Nat → Int32} {N : Nat} {a b c : Int32} (e0 : h.2 mo = obj 10 28 V) (hV : MV mo V) (e1 : h.2 (mo + 1) = oI 482 f) (hN : f 181 = nI N) (h99 : N < 100) (h6 : V 6 = .int a) (h7 : V 7 = .int b) (h8 : V 8 = .int c) (F : Nat) :
    ∃ h' g, b_Mo_notes_56 F mo h = some h' ∧ h'.2 (mo + 1) = oI 482 g ∧ (∀ j, j < 181 → g j = f j) ∧ g 181 = nI (N + 1) ∧ (∀ j, 182 ≤ j → j < 182 + 3 * N → g j = f j) ∧ g (182 + 3 * N) = a ∧ g (182 + 3 * N + 1) = b ∧ g (182 + 3 * N + 2) = c ∧ Fr (fun k => k = mo + 1) h h' := by
  obtain ⟨h3, p3, q3, r3⟩ := sti (i := 182 + 3 * N) a e1 (by omega) (by omega)
  obtain ⟨h4, p4, q4, r4⟩ := sti (i := 182 + 3 * N + 1) b q3 (by omega) (by omega)
  obtain ⟨h5, p5, q5, r5⟩ := sti (i := 182 + 3 * N + 2) c q4 (by omega) (by omega)
  obtain ⟨h6', p6, q6, r6⟩ := sti (i := 181) (nI (N + 1)) q5 (by omega) (by omega)
  have z3 := (r3.2 mo (by omega)).trans e0
  have z4 := (r4.2 mo (by omega)).trans z3
  have z5 := (r5.2 mo (by omega)).trans z4
  refine ⟨h6', _, ?_, q6, fun j hj => by rw [pk_un (by omega), pk_un (by omega), pk_un (by omega), pk_un (by omega)], pk_us, fun j h1 h2 => by rw [pk_un (by omega), pk_un (by omega), pk_un (by omega), pk_un (by omega)], by rw [pk_un (by omega), pk_un (by omega), pk_un (by omega), pk_us], by rw [pk_un (by omega), pk_un (by omega), pk_us], by rw [pk_un (by omega), pk_us], r3.tr (r4.tr (r5.tr r6))⟩
  have a5 : aI h5 (mo + 1) (nI 181) = some (nI N) := by
    rw [ar_I q5 (by omega) (by omega), pk_un (by omega), pk_un (by omega), pk_un (by omega), hN]
  rw [b_Mo_notes_56, ob_R e0 (by omega) hV.1, bnd_s, show (181 : Int32) = nI 181 from rfl, ar_I e1 (by omega) (by omega), bnd_s, hN, show (3 : Int32) * nI N = nI (3 * N) from pk_mul 3 N, show (182 : Int32) + nI (3 * N) = nI (182 + 3 * N) from nI_add 182 _, bnd_s, bnd_s, ob_I e0 (by omega) h6, bnd_s, p3, bnd_s, ob_R z3 (by omega) hV.1, bnd_s, ob_I z3 (by omega) h7, bnd_s, nI_1, p4, bnd_s, ob_R z4 (by omega) hV.1, bnd_s, ob_I z4 (by omega) h8, bnd_s, show nI (182 + 3 * N) + (2 : Int32) = nI (182 + 3 * N + 2) from nI_add _ 2, p5, bnd_s, ob_R z5 (by omega) hV.1, bnd_s, a5, bnd_s, nI_1, p6, bnd_s]
theorem m_notes {h : PH} {mo : Nat} {x : ST} {m : Nat} {sv : Nat → ST} {tl : Nat} {tx : Nat → Int32} {t : Int32} (H : MW h mo x m sv tl tx t) (hR : ROK (tR x)) (h100 : tN x ≤ 100) {kd pl rm : Nat} (e6 : gI h mo 10 6 = some (nI kd)) (e7 : gI h mo 10 7 = some (nI pl)) (e8 : gI h mo 10 8 = some (nI rm)) {F : Nat} (hF : 3000 ≤ F) :
    ∃ h', f_Mo_notes F mo h = some h' ∧ MW h' mo (tR x, tK x, tP x, tG x, lgN (tN x), lgE (tN x) (tE x) (dkx kd pl rm)) m sv tl tx t ∧ Fr (DM mo) h h' := by
  obtain ⟨⟨V, a0, a1, _⟩, _, ⟨f, c1, c2⟩, _⟩ := id H
  have v6 := gI_ob a0 (by omega) e6
  have v7 := gI_ob a0 (by omega) e7
  have v8 := gI_ob a0 (by omega) e8
  obtain ⟨_, _, _, c5, c6⟩ := id c2
  unfold f_Mo_notes
  rw [ob_R a0 (by omega) a1.1, bnd_s, show (181 : Int32) = nI 181 from rfl, ar_I c1 (by omega) (by omega), bnd_s, c5]
  by_cases w : tN x = 100
  · rw [if_pos (show nI (tN x) = (100 : Int32) from congrArg nI w)]
    obtain ⟨s, ⟨h182, g, i1, i2, i3⟩, el⟩ := LC (fun n i s => f_Mo_notes_17 F n mo (nI i) s) (fun i s => 182 ≤ i ∧ ∃ g, s.2 (mo + 1) = oI 482 g ∧ (∀ j, g j = if 182 ≤ j ∧ j < i then f (j + 3) else f j) ∧ Fr (fun k => k = mo + 1) h s) 479
      (fun n i s hi ⟨hi2, g, i1, i2, i3⟩ => by
        obtain ⟨s', p1, q1, r1⟩ := sti (i := i) (g (i + 3)) i1 (by omega) (by omega)
        refine ⟨s', ⟨by omega, _, q1, fun j => ?_, i3.tr r1⟩, ?_⟩
        · by_cases w : j = i
          · subst w
            rw [pk_us, if_pos (by omega), i2, if_neg (by omega)]
          · rw [pk_un w, i2 j]
            by_cases z : 182 ≤ j ∧ j < i
            · rw [if_pos z, if_pos (by omega)]
            · rw [if_neg z, if_neg (by omega)]
        · show f_Mo_notes_17 F (n + 1) mo (nI i) s = _
          have z0 : s.2 mo = obj 10 28 V := (i3.2 _ (by omega)).trans a0
          rw [f_Mo_notes_17, b_Mo_notes_17, if_neg (show ¬ (479 : Int32) ≤ nI i from nI_ge (a := (i)) (b := 479) (by omega) (by omega)), ob_R z0 (by omega) a1.1, bnd_s, bnd_s, show nI i + (3 : Int32) = nI (i + 3) from nI_add i 3, ar_I i1 (by omega) (by omega), bnd_s, p1, bnd_s, nI_1]) 297 182 h F rfl (by omega) ⟨by omega, f, c1, fun j => by rw [if_neg (by omega)], Fr.rf _ _⟩
    have z0 : s.2 mo = obj 10 28 V := (i3.2 _ (by omega)).trans a0
    obtain ⟨s1, p1, q1, r1⟩ := sti (i := 181) (nI 99) i1 (by omega) (by omega)
    obtain ⟨h', g', p2, q2, g181, gN, gL, ga, gb, gc, r2⟩ := m_notes56 (N := 99) ((r1.2 _ (by omega)).trans z0) a1 q1 pk_us (by omega) v6 v7 v8 F
    have fr : Fr (fun k => k = mo + 1) h h' := i3.tr (r1.tr r2)
    have hlN : lgN (tN x) = 100 := by unfold lgN; rw [if_neg (by omega), w]
    refine ⟨h', ?_, H.row fr q2 (by
      rw [hlN]
      refine c2.L hR (fun j hj => ?_) gN (fun i j hi hj => ?_)
      · rw [g181 j hj, pk_un (by omega), i2, if_neg (by omega)]
      · unfold lgE
        rw [if_neg (by omega)]
        by_cases z : i = 99
        · subst z
          rw [if_pos rfl]
          obtain rfl | rfl | rfl : j = 0 ∨ j = 1 ∨ j = 2 := by omega
          · exact ga
          · exact gb
          · exact gc
        · rw [if_neg z, gL _ (by omega) (by omega), pk_un (by omega), i2, if_pos (by omega)]
          exact (congrArg f (by omega)).trans (c6 (i + 1) j (by omega) hj)), fr.mo fun k hk => by simp only [DM]; omega⟩
    obtain ⟨n, hn⟩ : ∃ n, F - 297 = n + 1 := ⟨F - 298, by omega⟩
    refine Eq.trans el ?_
    show f_Mo_notes_17 F (F - 297) mo (nI 479) s = _
    have a181 : aI s (mo + 1) (nI 181) = some (nI 100) := by
      rw [ar_I i1 (by omega) (by omega), i2, if_neg (by omega), c5, w]
    rw [hn, f_Mo_notes_17, b_Mo_notes_17, if_pos (show (479 : Int32) ≤ nI 479 by decide), ob_R z0 (by omega) a1.1, bnd_s, show (181 : Int32) = nI 181 from rfl, a181, bnd_s, show nI 100 - (1 : Int32) = nI 99 by decide, p1, bnd_s, p2]
  · rw [if_neg (show ¬ nI (tN x) = (100 : Int32) from fun z => w ((nI_eq (a := tN x) (b := 100) (by omega) (by omega)).mp z))]
    obtain ⟨h', g', p2, q2, g181, gN, gL, ga, gb, gc, fr⟩ := m_notes56 (N := tN x) a0 a1 c1 c5 (by omega) v6 v7 v8 F
    have hlN : lgN (tN x) = tN x + 1 := by unfold lgN; rw [if_pos (by omega)]
    refine ⟨h', p2, H.row fr q2 (by
      rw [hlN]
      refine c2.L hR (fun j hj => g181 j hj) gN (fun i j hi hj => ?_)
      unfold lgE
      rw [if_pos (by omega)]
      by_cases z : i = tN x
      · subst z
        rw [if_pos rfl]
        obtain rfl | rfl | rfl : j = 0 ∨ j = 1 ∨ j = 2 := by omega
        · exact ga
        · exact gb
        · exact gc
      · rw [if_neg z, gL _ (by omega) (by omega)]
        exact c6 i j (by omega) hj), fr.mo fun k hk => by simp only [DM]; omega⟩
theorem m_ded {mo : Nat} {tl : Nat} {tx : Nat → Int32} {R : RT} {G : Nat → Nat} {m : Nat} {sv : Nat → ST} {t : Int32} (hR : ROK R) {F : Nat} (hF : 3000 ≤ F) {N : Nat} (hN : N ≤ 500) : ∀ k i n h K P l e c s', i + k = N → k + 1 ≤ n → MW h mo (R, K, P, G, l, e) m sv tl tx t → l ≤ 100 → DD R k (K, P, l, e) c s' →
    ∃ h', f_Mo_deduce_35 F n mo (nI N) (nI i) h = some (nI (i + c), h') ∧ MW h' mo (R, s'.1, s'.2.1, G, s'.2.2.1, s'.2.2.2) m sv tl tx t ∧ Fr (DM mo) h h' := by
  intro k
  induction k with
  | zero =>
    rintro i n h K P l e c s' h1 h2 H hl ⟨d1, d2⟩
    obtain ⟨n, rfl⟩ : ∃ k, n = k + 1 := ⟨n - 1, by omega⟩
    subst d1 d2
    refine ⟨h, ?_, H, Fr.rf _ _⟩
    rw [f_Mo_deduce_35, b_Mo_deduce_35, if_pos (show nI N ≤ nI i from nI_le (by omega) (by omega))]
    rfl
  | succ k ih =>
    intro i n h K P l e c s' h1 h2 H hl hd
    obtain ⟨n, rfl⟩ : ∃ k, n = k + 1 := ⟨n - 1, by omega⟩
    obtain ⟨V, M⟩ := H.mn
    obtain ⟨kd, pl, K', P', h3, g1, g2, g3⟩ := m_next M hR (F := F) (by omega)
    obtain ⟨H3, z6, z7, ⟨rm, z8, hrm⟩, f3⟩ := H.ms g3
    rw [f_Mo_deduce_35, b_Mo_deduce_35, if_neg (show ¬ nI N ≤ nI i from nI_ge (by omega) (by omega)), H.r.2.1, bnd_s, H.r.1, bnd_s, g2, bnd2_s]
    rcases hd with ⟨y1, y2, y3⟩ | ⟨kd2, pl2, rm2, K1, P1, k1, y0, y1, y2, y3, y4⟩
    · obtain ⟨u1, u2, u3, u4⟩ := NX_u g1 y1
      subst u1 u3 u4 y2 y3
      refine ⟨h3, ?_, H3, f3⟩
      rw [if_pos rfl, if_pos rfl]
      rfl
    · obtain ⟨u1, u2, u3, u4⟩ := NX_u g1 y1
      subst u1 u2 u3 u4
      have hrr : rm = rm2 := by
        have y2' : rm2 + tot K' = tot K := y2
        have hrm' : rm + tot K' = tot K := hrm
        omega
      subst hrr
      rw [if_neg y0] at z7
      obtain ⟨h4, p4, H4, f4⟩ := m_notes H3 hR (by show l ≤ 100; omega) z6 z7 z8 hF
      obtain ⟨h5, p5, H5, f5⟩ := ih (i + 1) n h4 K' P' (lgN l) (lgE l e (dkx kd pl rm)) k1 s' (by omega) (by omega) H4 (by unfold lgN; split <;> omega) y3
      refine ⟨h5, ?_, H5, f3.tr (f4.tr f5)⟩
      rw [if_neg y0, if_neg (by decide), H3.r.1, bnd_s, p4, bnd_s, nI_1, p5, y4, show i + 1 + k1 = i + (k1 + 1) by omega]
theorem m_deduce {h : PH} {mo : Nat} {x : ST} {m : Nat} {sv : Nat → ST} {tl : Nat} {tx : Nat → Int32} {t : Int32} (H : MW h mo x m sv tl tx t) (hv : VAL x) (hs : ∀ i, i < m → VAL (sv i)) {N : Nat} (hN : N ≤ 500) {F : Nat} (hF : 3000 ≤ F) {c : Nat} {K' : Nat → Nat → Bool} {P' : Nat → Bool} {l' : Nat} {e' : Nat → Nat → Int32} (hd : DD (tR x) N (tK x, tP x, tN x, tE x) c (K', P', l', e')) :
    ∃ h', f_Mo_deduce F mo (nI N) h = some (nI c, h') ∧ MW h' mo (tR x, K', P', tG x, l', e') (svN m) (svS m sv x) tl tx 0 ∧ Fr (DM mo) h h' := by
  obtain ⟨h1, p1, H1, f1⟩ := H.t 0
  obtain ⟨h2, p2, H2, f2⟩ := m_keep H1 hv hs hF
  obtain ⟨h3, p3, H3, f3⟩ := m_ded hv.1 hF hN N 0 F h2 (tK x) (tP x) (tN x) (tE x) c _ (by omega) (by omega) H2 hv.2.2.2 hd
  refine ⟨h3, ?_, H3, (DM.mo' f1).tr ((f2.mo fun k hk => by simp only [DM]; omega).tr f3)⟩
  rw [Nat.zero_add] at p3
  unfold f_Mo_deduce
  rw [show f_Mo_in (nI N) (0 : Int32) (500 : Int32) = _ from m_wh (b := 500) (by omega) (by omega), bnd_s, if_neg (by decide), b_Mo_deduce_17, p1, bnd_s, H1.th, bnd_s, if_pos rfl, H1.r.1, bnd_s, p2, bnd_s]
  exact p3
theorem m_need {mo : Nat} {x : ST} {m : Nat} {sv : Nat → ST} {tl : Nat} {tx : Nat → Int32} {t : Int32} (hR : ROK (tR x)) {F : Nat} (hF : 3000 ≤ F) {w : Nat} (hw : w < 8) : ∀ k n h K P c a, k + 1 ≤ n → MW h mo x m sv tl tx t → (∃ V, MN h mo (mo + 6) V (tR x) K P) → ND (tR x) w k K P c →
    ∃ h', f_Mo_needs_43 F n mo (nI w) (nI a) h = some (nI (a + c), h') ∧ MW h' mo x m sv tl tx t ∧ Fr (DM mo) h h' := by
  intro k
  induction k with
  | zero =>
    rintro n h K P c a hn H ⟨V, M⟩ ⟨d1, d2⟩
    obtain ⟨n, rfl⟩ : ∃ k, n = k + 1 := ⟨n - 1, by omega⟩
    obtain ⟨kd, pl, K', P', h3, g1, g2, g3⟩ := m_next M hR (F := F) (by omega)
    obtain ⟨u1, u2, u3, u4⟩ := NX_u g1 d2
    subst u1 d1
    obtain ⟨H3, z6, z7, M3, f3⟩ := H.ms6 g3
    refine ⟨h3, ?_, H3, f3⟩
    rw [f_Mo_needs_43, b_Mo_needs_43, H.r.2.2.2.2.1, bnd_s, H.r.1, bnd_s, g2, bnd2_s, if_pos rfl, if_pos rfl]
    rfl
  | succ k ih =>
    rintro n h K P c a hn H ⟨V, M⟩ ⟨kd2, pl2, K1, P1, c1, y0, y1, y2, y3⟩
    obtain ⟨n, rfl⟩ : ∃ k, n = k + 1 := ⟨n - 1, by omega⟩
    obtain ⟨kd, pl, K', P', h3, g1, g2, g3⟩ := m_next M hR (F := F) (by omega)
    obtain ⟨u1, u2, u3, u4⟩ := NX_u g1 y1
    subst u1 u2 u3 u4
    have h7 := NX_7 g1
    obtain ⟨H3, z6, z7, M3, f3⟩ := H.ms6 g3
    obtain ⟨h4, p4, H4, f4⟩ := ih n h3 K' P' c1 (a + if kd = w then 1 else 0) (by omega) H3 M3 y2
    refine ⟨h4, ?_, H4, f3.tr f4⟩
    rw [f_Mo_needs_43, b_Mo_needs_43, H.r.2.2.2.2.1, bnd_s, H.r.1, bnd_s, g2, bnd2_s, if_neg y0, if_neg (by decide), z6, bnd_s, y3, show a + (c1 + if kd = w then 1 else 0) = a + (if kd = w then 1 else 0) + c1 by omega, ← p4]
    by_cases q : kd = w
    · rw [if_pos (congrArg nI q), if_pos q, b_Mo_needs_68, nI_1]
    · rw [if_neg (fun z => q ((nI_eq (by omega) (by omega)).mp z)), if_neg q, b_Mo_needs_68]
      congr 1
      exact nI_add _ 0
theorem m_needs {h : PH} {mo : Nat} {x : ST} {m : Nat} {sv : Nat → ST} {tl : Nat} {tx : Nat → Int32} {t : Int32} (H : MW h mo x m sv tl tx t) (hv : VAL x) {w : Nat} (h1 : 1 ≤ w) (h7 : w ≤ 7) {F : Nat} (hF : 3000 ≤ F) {k c : Nat} (hk : k ≤ 252) (hd : ND (tR x) w k (tK x) (tP x) c) :
    ∃ h', f_Mo_needs F mo (nI w) h = some (nI c, h') ∧ MW h' mo x m sv tl tx 0 ∧ Fr (DM mo) h h' := by
  obtain ⟨h1', p1, H1, f1⟩ := H.t 0
  obtain ⟨h2, p2, H2, M2, f2⟩ := m_load H1 hF
  obtain ⟨h3, p3, H3, f3⟩ := m_need hv.1 hF (w := w) (by omega) k F h2 _ _ c 0 (by omega) H2 M2 hd
  refine ⟨h3, ?_, H3, (DM.mo' f1).tr (f2.tr f3)⟩
  rw [Nat.zero_add] at p3
  unfold f_Mo_needs
  rw [show f_Mo_in (nI w) (1 : Int32) (7 : Int32) = _ from m_in (lo := 1) (hi := 7) h1 h7 (by omega), bnd_s, if_neg (by decide), b_Mo_needs_16, p1, bnd_s, H1.th, bnd_s, if_pos rfl, H1.r.2.1, bnd_s, H1.r.2.2.2.2.1, bnd_s, p2, bnd_s]
  exact p3
