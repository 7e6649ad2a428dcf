/-! The class's reasoner: the only place of a digit. -/
theorem onl_c {K : Nat → Nat → Bool} {u d : Nat} : cnt (fun c => K c d && inU u c) 36 = 1 ↔ ∃ c, onl K u d c := by
  rw [cnt_1]
  constructor
  · rintro ⟨j, h1, h2, h3⟩
    simp only [Bool.and_eq_true] at h2 h3
    exact ⟨j, h1, h2.2, h2.1, fun e he a b => h3 e he ⟨b, a⟩⟩
  · rintro ⟨j, h1, h2, h3, h4⟩
    exact ⟨j, h1, by simp [h2, h3], fun e he a => by
      simp only [Bool.and_eq_true] at a
      exact h4 e he a.2 a.1⟩
theorem r_only_in {h : PH} {p q : Nat} {V : Nat → Value} {K : Nat → Nat → Bool} {P T S : Nat → Bool} (H : PosAt h p K P T S) (e : h.2 q = obj 3 7 V) (e0 : V 0 = .ref (q + 1)) (hs : SvSh h q) (sv : Sv V K) (hpq : q + 4 ≤ p ∨ p + 2 ≤ q) {F : Nat} (hF : 40 ≤ F) {u : Nat} (hu : u < 18) (kk : Nat → Nat → Int32 → PH → Option (Int32 × PH)) :
    ((∀ d, isD d = true → ¬ a2 K u d) → f_Rea_keepOnlyPlace_16 F kk F q p (nI u) (uVal u) 1 h = kk q p (nI (u + 1)) h) ∧
    ∀ d, isD d = true → a2 K u d → (∀ e, isD e = true → e < d → ¬ a2 K u e) → ∃ h', f_Rea_keepOnlyPlace_16 F kk F q p (nI u) (uVal u) 1 h = some (1, h') ∧ Did h h' p q K T S 2 u (k2 K u d) P := by
  obtain ⟨so, se, ma, c1, c2, c3, d1, d2, d3⟩ := sv
  have H0 := H
  obtain ⟨W, sp, pl, to, st, b0, b1, b2, b3, b4, b5, b6, b7, b8, b9⟩ := H0
  have hskip : ∀ n i, isD i = true → ¬ a2 K u i → f_Rea_keepOnlyPlace_16 F kk (n + 1) q p (nI u) (uVal u) (nI i) h = f_Rea_keepOnlyPlace_16 F kk n q p (nI u) (uVal u) (nI (i + 1)) h := by
    intro n i hd hn
    have hi := isD_b hd
    have hpl := (b6 i hd).and (uVal_S hu)
    rw [f_Rea_keepOnlyPlace_16, b_Rea_keepOnlyPlace_16, if_neg (show ¬ (6 : Int32) < nI i from nI_nlt (a := 6) (b := (i)) (by omega) (by omega)), ob_R b0 (by omega) b1, bnd_s, ar_L b5 (by omega) (by omega), bnd_s, g_isOne hpl, bnd_s]
    by_cases q1 : cnt (fun c => K c i && inU u c) 36 = 1
    · rw [if_pos q1, if_neg (by decide), ob_L e (by omega) c2, bnd_s, if_pos, b_Rea_keepOnlyPlace_72, nI_1]
      refine (hpl.and d2).lg0.mpr fun c hc => ?_
      obtain ⟨j, hj⟩ := onl_c.mp q1
      show ((K c i && inU u c) && decide (2 ≤ sz (K c))) = false
      cases w : K c i && inU u c
      · rfl
      · simp only [Bool.and_eq_true] at w
        have := hj.2.2.2 c hc w.2 w.1
        subst this
        exact decide_eq_false fun z => hn ⟨c, hj, z⟩
    · rw [if_neg q1, if_pos rfl, b_Rea_keepOnlyPlace_72, nI_1]
  constructor
  · intro hn
    obtain ⟨_, _, h1⟩ := LC (fun n i (_ : Unit) => f_Rea_keepOnlyPlace_16 F kk n q p (nI u) (uVal u) (nI i) h) (fun i _ => 1 ≤ i) 7 (fun n i s hi h1 => ⟨(), by omega, hskip n i (isD_i h1 hi) (hn i (isD_i h1 hi))⟩) 6 1 () F rfl (by omega) (Nat.le_refl 1)
    refine Eq.trans h1 ?_
    obtain ⟨m, hm⟩ : ∃ m, F - 6 = m + 1 := ⟨F - 7, by omega⟩
    show f_Rea_keepOnlyPlace_16 F kk (F - 6) q p (nI u) (uVal u) (nI 7) h = _
    rw [hm, f_Rea_keepOnlyPlace_16, b_Rea_keepOnlyPlace_16, if_pos (show (6 : Int32) < nI 7 from nI_lt (a := 6) (b := 7) (by omega) (by omega)), nI_1]
  · intro d hd ha hn
    have hi := isD_b hd
    obtain ⟨_, _, h1⟩ := LC (fun n i (_ : Unit) => f_Rea_keepOnlyPlace_16 F kk n q p (nI u) (uVal u) (nI i) h) (fun i _ => 1 ≤ i) d (fun n i s hi h1 => ⟨(), by omega, hskip n i (isD_i h1 (by omega)) (hn i (isD_i h1 (by omega)) hi)⟩) (d - 1) 1 () F (by omega) (by omega) (Nat.le_refl 1)
    obtain ⟨m, hm⟩ : ∃ m, F - (d - 1) = m + 1 := ⟨F - (d - 1) - 1, by omega⟩
    obtain ⟨c, ho, hz⟩ := ha
    have hpl := (b6 d hd).and (uVal_S hu)
    have hl : Lw (fun c => K c d && inU u c) c := ⟨by simp [ho.2.1, ho.2.2.1], fun j hj => by
      show (K j d && inU u j) = false
      cases w : K j d && inU u j
      · rfl
      · simp only [Bool.and_eq_true] at w
        have := ho.2.2.2 j (by have := ho.1; omega) w.2 w.1
        omega⟩
    obtain ⟨rm, h2, T2, g1, g2, g3, g4, g5⟩ := p_keepOnly H ho.1 hd hF
    have hK : ∀ a, a < 36 → ∀ e, isD e = true → (K a e && (decide (a = c → e = d))) = k2 K u d a e := by
      intro a ha e _
      unfold k2
      by_cases w : a = c
      · subst w
        simp [ho.2.1, ho.2.2.1]
      · have : (inU u a && K a d) = false := by
          cases w2 : inU u a && K a d
          · rfl
          · simp only [Bool.and_eq_true] at w2
            exact absurd (ho.2.2.2 a ha w2.1 w2.2) w
        simp [w, this]
    have eq2 : h2.2 q = obj 3 7 V := (g4.2 q (by simp only [PS]; omega)).trans e
    obtain ⟨h3, V3, n1, n2, n3, n4, n5, n6, _, _, _, n7⟩ := r_note 2 (nI u) (nI rm) eq2
    refine ⟨h3, ?_, ⟨T2, V3, rm, (g2.x hK (fun _ _ => rfl) (fun _ _ => rfl) (fun _ _ => rfl)).fr (n7.2 _ (by omega)) (n7.2 _ (by omega)), g3.x hK, n2, n3.trans e0, n4, n5, n6, by rw [← tot_ext hK]; exact g5, (hs.fr g4 (by simp only [PS]; omega)).fr n7 (by omega), (g4.mo fun k hk => ?_).tr (n7.mo fun k hk => ?_)⟩⟩
    · refine Eq.trans h1 ?_
      show f_Rea_keepOnlyPlace_16 F kk (F - (d - 1)) q p (nI u) (uVal u) (nI d) h = _
      rw [hm, f_Rea_keepOnlyPlace_16, b_Rea_keepOnlyPlace_16, if_neg (show ¬ (6 : Int32) < nI d from nI_nlt (a := 6) (b := (d)) (by omega) (by omega)), ob_R b0 (by omega) b1, bnd_s, ar_L b5 (by omega) (by omega), bnd_s, g_isOne hpl, bnd_s, if_pos (onl_c.mpr ⟨c, ho⟩), if_neg (by decide), ob_L e (by omega) c2, bnd_s, if_neg, g_lowest hpl ho.1 hl, bnd_s, H.ck, bnd_s, g1, bnd2_s, ob_K eq2, bnd_s, n1, bnd2_s]
      · rfl
      · intro z
        have h9 := (hpl.and d2).lg0.mp z c ho.1
        have h8 : ((K c d && inU u c) && decide (2 ≤ sz (K c))) = true := by
          simp only [Bool.and_eq_true, decide_eq_true_eq]
          exact ⟨⟨ho.2.2.1, ho.2.1⟩, hz⟩
        exact Bool.noConfusion (h8.symm.trans h9)
    · simp only [PS, WS] at hk ⊢; omega
    · simp only [WS] at hk ⊢; omega
theorem first_d {p : Nat → Prop} (h : ∃ d, isD d = true ∧ p d) : ∃ d, isD d = true ∧ p d ∧ ∀ e, isD e = true → e < d → ¬ p e := by
  obtain ⟨k, h1, h2⟩ := pk_least (fun d => isD d = true ∧ p d) h
  exact ⟨k, h1.1, h1.2, fun e he hl z => h2 e hl ⟨he, z⟩⟩
theorem r_only {h : PH} {p q : Nat} {V : Nat → Value} {K : Nat → Nat → Bool} {P T S : Nat → Bool} (H : PosAt h p K P T S) (e : h.2 q = obj 3 7 V) (e0 : V 0 = .ref (q + 1)) (hs : SvSh h q) (sv : Sv V K) (hpq : q + 4 ≤ p ∨ p + 2 ≤ q) {F : Nat} (hF : 40 ≤ F) :
    (no2 K ∧ f_Rea_keepOnlyPlace F q p h = some (0, h)) ∨ ∃ u K' h', f2 K u K' ∧ f_Rea_keepOnlyPlace F q p h = some (1, h') ∧ Did h h' p q K T S 2 u K' P := by
  obtain ⟨j, s, j1, j2, j3, j4, h1⟩ := LE (fun n i (_ : Unit) => f_Rea_keepOnlyPlace_2 F n q p (nI i) h) (fun i _ => ∀ u d, u < i → isD d = true → ¬ a2 K u d) (fun i _ => ∃ d, isD d = true ∧ a2 K i d) 18
    (fun n i s hi h1 => by
      by_cases w : ∃ d, isD d = true ∧ a2 K i d
      · exact Or.inl w
      · refine Or.inr ⟨(), fun u d hu hd z => ?_, ?_⟩
        · by_cases w2 : u = i
          · subst w2; exact w ⟨d, hd, z⟩
          · exact h1 u d (by omega) hd z
        · show f_Rea_keepOnlyPlace_2 F (n + 1) q p (nI i) h = _
          rw [f_Rea_keepOnlyPlace_2, b_Rea_keepOnlyPlace_2, if_neg (show ¬ (18 : Int32) ≤ nI i from nI_ge (a := (i)) (b := 18) (by omega) (by omega)), g_unit hi, bnd_s]
          exact (r_only_in H e e0 hs sv hpq hF hi _).1 fun d hd z => w ⟨d, hd, z⟩) 18 0 () F rfl (by omega) (fun u d hu => by omega)
  unfold f_Rea_keepOnlyPlace
  obtain ⟨m, hm⟩ : ∃ m, F - (j - 0) = m + 1 := ⟨F - j - 1, by omega⟩
  by_cases w : j < 18
  · right
    obtain ⟨d, hd, ha, hn⟩ := first_d (j4 w)
    obtain ⟨h2, g1, g2⟩ := (r_only_in H e e0 hs sv hpq hF w (f_Rea_keepOnlyPlace_2 F m)).2 d hd ha hn
    refine ⟨j, k2 K j d, h2, ⟨w, j3, d, hd, ha, hn, rfl⟩, ?_, g2⟩
    refine Eq.trans h1 ?_
    show f_Rea_keepOnlyPlace_2 F (F - (j - 0)) q p (nI j) h = _
    rw [hm, f_Rea_keepOnlyPlace_2, b_Rea_keepOnlyPlace_2, if_neg (show ¬ (18 : Int32) ≤ nI j from nI_ge (a := (j)) (b := 18) (by omega) (by omega)), g_unit w, bnd_s, g1]
  · left
    refine ⟨fun u d hu hd => j3 u d (by omega) hd, ?_⟩
    refine Eq.trans h1 ?_
    show f_Rea_keepOnlyPlace_2 F (F - (j - 0)) q p (nI j) h = _
    rw [hm, f_Rea_keepOnlyPlace_2, b_Rea_keepOnlyPlace_2, if_pos (show (18 : Int32) ≤ nI j from nI_le (a := 18) (b := (j)) (by omega) (by omega))]
