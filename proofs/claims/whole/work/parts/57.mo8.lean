/-! The reference: boxes and lines, pairs, the next deduction. -/
theorem meets_c : ∀ b, b < 6 → ∀ l, l < 12 → (inU l (ceU (12 + b) 0) || inU l (ceU (12 + b) 1) || inU l (ceU (12 + b) 2) || inU l (ceU (12 + b) 3) || inU l (ceU (12 + b) 4) || inU l (ceU (12 + b) 5)) = meets b l := by decide +kernel
theorem m_doMeet {b l : Nat} (hb : b < 6) (hl : l < 12) {F : Nat} (hF : 40 ≤ F) : f_Mo_doMeet F (nI b) (nI l) = some (if meets b l then 1 else 0) := by
  obtain ⟨s, ⟨w, e, hw⟩, h1⟩ := LC (fun n i (s : Int32) => f_Mo_doMeet_4 F n (nI b) (nI l) s (nI i)) (fun i s => ∃ w : Bool, s = (if w then 1 else 0) ∧ (w = true ↔ ∃ t, t < i ∧ inU l (ceU (12 + b) t) = true)) 6
    (fun n i s hi ⟨w, e, hw⟩ => by
      subst e
      have hc := ceU_lt (12 + b) (by omega) i hi
      refine ⟨if (w || inU l (ceU (12 + b) i)) then 1 else 0, ⟨_, rfl, ?_⟩, ?_⟩
      · rw [Bool.or_eq_true, hw]
        constructor
        · rintro (⟨t, h1, h2⟩ | h1)
          · exact ⟨t, by omega, h2⟩
          · exact ⟨i, by omega, h1⟩
        · rintro ⟨t, h1, h2⟩
          by_cases q : t = i
          · subst q; exact Or.inr h2
          · exact Or.inl ⟨t, by omega, h2⟩
      · show f_Mo_doMeet_4 F (n + 1) (nI b) (nI l) _ (nI i) = _
        rw [f_Mo_doMeet_4, b_Mo_doMeet_4, if_neg (show ¬ (6 : Int32) ≤ nI i from nI_ge (a := (i)) (b := 6) (by omega) (by omega))]
        cases w
        · rw [if_pos (by rfl), show (12 : Int32) + nI b = nI (12 + b) from nI_add 12 b, m_cellIn (12 + b) (by omega) i hi, bnd_s, m_isIn l (by omega) _ hc, bnd_s]
          cases q : inU l (ceU (12 + b) i)
          · rw [if_pos (by rfl), b_Mo_doMeet_34, nI_1]; rfl
          · rw [if_neg (by decide), b_Mo_doMeet_29, b_Mo_doMeet_34, nI_1]; rfl
        · rw [if_neg (by decide), b_Mo_doMeet_29, b_Mo_doMeet_34, nI_1]; rfl) 6 0 0 F rfl (by omega) ⟨false, rfl, by simp⟩
  obtain ⟨m, hm⟩ : ∃ m, F - 6 = m + 1 := ⟨F - 7, by omega⟩
  have hd : w = meets b l := by
    rw [← meets_c b hb l hl]
    apply bool_i
    rw [hw]
    simp only [Bool.or_eq_true]
    constructor
    · rintro ⟨t, ht, z⟩
      have : t = 0 ∨ t = 1 ∨ t = 2 ∨ t = 3 ∨ t = 4 ∨ t = 5 := by omega
      rcases this with rfl | rfl | rfl | rfl | rfl | rfl <;> simp [z]
    · rintro (((((z | z) | z) | z) | z) | z)
      · exact ⟨0, by omega, z⟩
      · exact ⟨1, by omega, z⟩
      · exact ⟨2, by omega, z⟩
      · exact ⟨3, by omega, z⟩
      · exact ⟨4, by omega, z⟩
      · exact ⟨5, by omega, z⟩
  unfold f_Mo_doMeet
  refine Eq.trans h1 ?_
  show f_Mo_doMeet_4 F (F - 6) (nI b) (nI l) s (nI 6) = _
  rw [hm, f_Mo_doMeet_4, b_Mo_doMeet_4, if_pos (show (6 : Int32) ≤ nI 6 from nI_le (a := 6) (b := 6) (by omega) (by omega)), e, cZ_b, bnd_s, hd]
theorem kl_6 {K : Nat → Nat → Bool} {b l d : Nat} (h : lka K (12 + b) l d) : ∀ c, c < 36 → ∀ e, isD e = true → kl K (12 + b) l d c e = k6 K b l d c e := by
  intro c hc e _
  unfold kl k6
  by_cases q : e = d
  · subst q
    have := h.2.1 c hc
    revert this
    cases K c e <;> cases inU l c <;> cases inU (12 + b) c <;> simp
  · simp [q]
theorem kl_6' {K : Nat → Nat → Bool} {b l d : Nat} (h : lka K l (12 + b) d) : ∀ c, c < 36 → ∀ e, isD e = true → kl K l (12 + b) d c e = k6 K b l d c e := by
  intro c hc e _
  unfold kl k6
  by_cases q : e = d
  · subst q
    have := h.2.1 c hc
    revert this
    cases K c e <;> cases inU l c <;> cases inU (12 + b) c <;> simp
  · simp [q]
theorem m_lock1 {h0 h : PH} {mo x : Nat} {R : RT} {K : Nat → Nat → Bool} {P : Nat → Bool} {kd : Nat} {pl : Int32} (H : MS h0 h mo x R K kd pl K P) {b l : Nat} (hb : b < 6) (hl : l < 12) {F : Nat} (hF : 40 ≤ F) (kk : Nat → Nat → Int32 → Int32 → PH → Option (Int32 × PH)) :
    ((∀ d, isD d = true → ¬ a6 K b l d) ∧ ∃ h', f_Mo_locked_19 F kk F mo x (nI b) (nI l) 1 h = kk mo x (nI b) (nI (l + 1)) h' ∧ MS h0 h' mo x R K kd pl K P) ∨
    ∃ d, isD d = true ∧ a6 K b l d ∧ (∀ e, isD e = true → e < d → ¬ a6 K b l e) ∧ YeD h0 mo x R K kd b (k6 K b l d) P (f_Mo_locked_19 F kk F mo x (nI b) (nI l) 1 h) := by
  have e12 : (12 : Int32) + nI b = nI (12 + b) := nI_add 12 b
  have hfin : ∀ (s : PH) (K' : Nat → Nat → Bool), MS h0 s mo x R K kd pl K' P → YeD h0 mo x R K kd b K' P (b_Mo_locked_64 F mo (nI b) s) := by
    intro s K' z
    obtain ⟨s2, e1, e2⟩ := z.pl (nI b)
    exact ⟨s2, by rw [b_Mo_locked_64, e1, bnd_s], e2⟩
  cases hm : meets b l
  · left
    refine ⟨fun d _ z => (by rw [z.1] at hm; cases hm), h, ?_, H⟩
    obtain ⟨m, rfl⟩ : ∃ m, F = m + 1 := ⟨F - 1, by omega⟩
    rw [f_Mo_locked_19, b_Mo_locked_19, if_neg (by decide), m_doMeet hb hl (by omega), hm, bnd_s, if_pos (by rfl), b_Mo_locked_77, nI_1]
  have hstep : ∀ n i s, isD i = true → MS h0 s mo x R K kd pl K P → (¬ a6 K b l i ∧ ∃ s', f_Mo_locked_19 F kk (n + 1) mo x (nI b) (nI l) (nI i) s = f_Mo_locked_19 F kk n mo x (nI b) (nI l) (nI (i + 1)) s' ∧ MS h0 s' mo x R K kd pl K P) ∨ (a6 K b l i ∧ YeD h0 mo x R K kd b (k6 K b l i) P (f_Mo_locked_19 F kk (n + 1) mo x (nI b) (nI l) (nI i) s)) := by
    intro n i s hd i1
    have hi := isD_b hd
    obtain ⟨V, M0⟩ := i1.mn
    rw [f_Mo_locked_19, b_Mo_locked_19, if_neg (show ¬ (7 : Int32) ≤ nI i from nI_ge (a := (i)) (b := 7) (by omega) (by omega)), m_doMeet hb hl hF, hm, bnd_s, if_neg (by decide), M0.ck, bnd_s, e12]
    rcases m_locks i1 (u := 12 + b) (o := l) (d := i) (by omega) (by omega) hd hF with ⟨g1, s1, g2, g3⟩ | ⟨g1, s1, g2, g3⟩
    rotate_left
    · right
      refine ⟨⟨hm, Or.inl g1⟩, ?_⟩
      rw [g2, bnd2_s, if_neg (by decide)]
      exact hfin s1 _ (g3.x (kl_6 g1) (fun _ _ => rfl))
    obtain ⟨V1, M1⟩ := g3.mn
    rw [g2, bnd2_s, if_pos rfl, M1.ck, bnd_s]
    rcases m_locks g3 (u := l) (o := 12 + b) (d := i) (by omega) (by omega) hd hF with ⟨y1, s2, y2, y3⟩ | ⟨y1, s2, y2, y3⟩
    rotate_left
    · right
      refine ⟨⟨hm, Or.inr y1⟩, ?_⟩
      rw [y2, bnd2_s, if_neg (by decide)]
      exact hfin s2 _ (y3.x (kl_6' y1) (fun _ _ => rfl))
    · left
      refine ⟨fun z => z.2.elim g1 y1, s2, ?_, y3⟩
      rw [y2, bnd2_s, if_pos rfl, nI_1]
  obtain ⟨j, s, j1, j2, ⟨j0, j3, j5⟩, j4, h1⟩ := LE (fun n i s => f_Mo_locked_19 F kk n mo x (nI b) (nI l) (nI i) s) (fun i s => 1 ≤ i ∧ MS h0 s mo x R K kd pl K P ∧ ∀ d, isD d = true → d < i → ¬ a6 K b l d) (fun i _ => a6 K b l i) 7
    (fun n i s hi ⟨g0, g1, g2⟩ => by
      rcases hstep n i s (isD_i g0 hi) g1 with ⟨z0, s', z1, z2⟩ | ⟨z0, _⟩
      · refine Or.inr ⟨s', ⟨by omega, z2, fun d hd hl => ?_⟩, z1⟩
        by_cases q2 : d = i
        · rw [q2]; exact z0
        · exact g2 d hd (by omega)
      · exact Or.inl z0) 6 1 h F rfl (by omega) ⟨Nat.le_refl _, H, fun d hd hl => by have := isD_b hd; omega⟩
  obtain ⟨m, hm2⟩ : ∃ m, F - (j - 1) = m + 1 := ⟨F - (j - 1) - 1, by omega⟩
  have hE : f_Mo_locked_19 F kk F mo x (nI b) (nI l) 1 h = f_Mo_locked_19 F kk (m + 1) mo x (nI b) (nI l) (nI j) s := by
    rw [← hm2]
    exact h1
  rw [hE]
  by_cases q : j < 7
  · right
    rcases hstep m j s (isD_i j0 q) j3 with ⟨z0, _⟩ | ⟨z0, z1⟩
    · exact absurd (j4 q) z0
    · exact ⟨j, isD_i j0 q, z0, j5, z1⟩
  · left
    refine ⟨fun d hd => j5 d hd (by have := isD_b hd; omega), s, ?_, j3⟩
    rw [f_Mo_locked_19, b_Mo_locked_19, if_pos (show (7 : Int32) ≤ nI j from nI_le (a := 7) (b := (j)) (by omega) (by omega)), b_Mo_locked_77, nI_1]
theorem m_locked {h0 h : PH} {mo x : Nat} {R : RT} {K : Nat → Nat → Bool} {P : Nat → Bool} {kd : Nat} {pl : Int32} (H : MS h0 h mo x R K kd pl K P) {F : Nat} (hF : 40 ≤ F) :
    (no6 K ∧ NoD h0 mo x R K kd pl K P (f_Mo_locked F mo x h)) ∨ ∃ b K', f6 K b K' ∧ YeD h0 mo x R K kd b K' P (f_Mo_locked F mo x h) := by
  have hrow : ∀ n b s, b < 6 → MS h0 s mo x R K kd pl K P → ((∀ l d, l < 12 → isD d = true → ¬ a6 K b l d) ∧ ∃ s', f_Mo_locked_2 F (n + 1) mo x (nI b) s = f_Mo_locked_2 F n mo x (nI (b + 1)) s' ∧ MS h0 s' mo x R K kd pl K P) ∨
      ∃ l d, l < 12 ∧ isD d = true ∧ a6 K b l d ∧ (∀ l' e, l' < l → isD e = true → ¬ a6 K b l' e) ∧ (∀ e, isD e = true → e < d → ¬ a6 K b l e) ∧ YeD h0 mo x R K kd b (k6 K b l d) P (f_Mo_locked_2 F (n + 1) mo x (nI b) s) := by
    intro n b s hb i1
    rw [f_Mo_locked_2, b_Mo_locked_2, if_neg (show ¬ (6 : Int32) ≤ nI b from nI_ge (a := (b)) (b := 6) (by omega) (by omega))]
    obtain ⟨j, s', j1, j2, ⟨j3, j5⟩, j4, h1⟩ := LE (fun n' i s => f_Mo_locked_10 F (f_Mo_locked_2 F n) n' mo x (nI b) (nI i) s) (fun i s => MS h0 s mo x R K kd pl K P ∧ ∀ l d, l < i → isD d = true → ¬ a6 K b l d) (fun i _ => ∃ d, isD d = true ∧ a6 K b i d) 12
      (fun n' i s hi ⟨g1, g2⟩ => by
        show _ ∨ ∃ s', _ ∧ f_Mo_locked_10 F (f_Mo_locked_2 F n) (n' + 1) mo x (nI b) (nI i) s = _
        rw [f_Mo_locked_10, b_Mo_locked_10, if_neg (show ¬ (12 : Int32) ≤ nI i from nI_ge (a := (i)) (b := 12) (by omega) (by omega))]
        rcases m_lock1 g1 hb hi hF (f_Mo_locked_10 F (f_Mo_locked_2 F n) n') with ⟨z0, s', z1, z2⟩ | ⟨d, z0, z1, _⟩
        · refine Or.inr ⟨s', ⟨z2, fun l d hl hd => ?_⟩, z1⟩
          by_cases q2 : l = i
          · rw [q2]; exact z0 d hd
          · exact g2 l d (by omega) hd
        · exact Or.inl ⟨d, z0, z1⟩) 12 0 s F rfl (by omega) ⟨i1, fun l d hl => by omega⟩
    obtain ⟨m, hm2⟩ : ∃ m, F - (j - 0) = m + 1 := ⟨F - (j - 0) - 1, by omega⟩
    have hE : f_Mo_locked_10 F (f_Mo_locked_2 F n) F mo x (nI b) 0 s = f_Mo_locked_10 F (f_Mo_locked_2 F n) (m + 1) mo x (nI b) (nI j) s' := by
      rw [← hm2]
      exact h1
    rw [hE, f_Mo_locked_10, b_Mo_locked_10]
    by_cases q : j < 12
    · right
      rw [if_neg (show ¬ (12 : Int32) ≤ nI j from nI_ge (a := (j)) (b := 12) (by omega) (by omega))]
      rcases m_lock1 j3 hb q hF (f_Mo_locked_10 F (f_Mo_locked_2 F n) m) with ⟨z0, _⟩ | ⟨d, z0, z1, z2, z3⟩
      · obtain ⟨d, y1, y2⟩ := j4 q
        exact absurd y2 (z0 d y1)
      · exact ⟨j, d, q, z0, z1, j5, z2, z3⟩
    · left
      rw [if_pos (show (12 : Int32) ≤ nI j from nI_le (a := 12) (b := (j)) (by omega) (by omega)), nI_1]
      exact ⟨fun l d hl hd => j5 l d (by omega) hd, s', rfl, j3⟩
  obtain ⟨j, s, j1, j2, ⟨j3, j5⟩, j4, h1⟩ := LE (fun n i s => f_Mo_locked_2 F n mo x (nI i) s) (fun i s => MS h0 s mo x R K kd pl K P ∧ ∀ b l d, b < i → l < 12 → isD d = true → ¬ a6 K b l d) (fun i _ => ∃ l d, l < 12 ∧ isD d = true ∧ a6 K i l d) 6
    (fun n i s hi ⟨g1, g2⟩ => by
      rcases hrow n i s hi g1 with ⟨z0, s', z1, z2⟩ | ⟨l, d, z0, z1, z2, _⟩
      · refine Or.inr ⟨s', ⟨z2, fun b l d hb hl hd => ?_⟩, z1⟩
        by_cases q2 : b = i
        · rw [q2]; exact z0 l d hl hd
        · exact g2 b l d (by omega) hl hd
      · exact Or.inl ⟨l, d, z0, z1, z2⟩) 6 0 h F rfl (by omega) ⟨H, fun b l d hb => by omega⟩
  obtain ⟨m, hm2⟩ : ∃ m, F - (j - 0) = m + 1 := ⟨F - (j - 0) - 1, by omega⟩
  have hE : f_Mo_locked F mo x h = f_Mo_locked_2 F (m + 1) mo x (nI j) s := by
    unfold f_Mo_locked
    rw [← hm2]
    exact h1
  rw [hE]
  by_cases q : j < 6
  · right
    rcases hrow m j s q j3 with ⟨z0, _⟩ | ⟨l, d, z0, z1, z2, z3, z4, z5⟩
    · obtain ⟨l, d, y1, y2, y3⟩ := j4 q
      exact absurd y3 (z0 l d y1 y2)
    · exact ⟨j, _, ⟨q, j5, l, d, z0, z1, z2, z3, z4, rfl⟩, z5⟩
  · left
    rw [f_Mo_locked_2, b_Mo_locked_2, if_pos (show (6 : Int32) ≤ nI j from nI_le (a := 6) (b := (j)) (by omega) (by omega))]
    exact ⟨fun b l d hb hl hd => j5 b l d (by omega) hl hd, s, rfl, j3⟩
