/-! The reference: pairs, the next deduction. -/
theorem alk_m {K : Nat → Nat → Bool} {a b : Nat} : nI (mkd (K b)) = nI (mkd (K a)) ↔ alk K a b := by
  have h1 := mkd_lt (K a)
  have h2 := mkd_lt (K b)
  rw [nI_eq (by omega) (by omega)]
  constructor
  · intro z d hd
    exact (mkd_inj z hd).symm
  · intro z
    exact mkd_ext fun d hd => (z d hd).symm
theorem k7_le {K : Nat → Nat → Bool} {u a b : Nat} : ∀ c, c < 36 → ∀ e, isD e = true → k7 K u a b c e = true → K c e = true := fun c _ e _ z => by
  unfold k7 at z
  rw [Bool.and_eq_true] at z
  exact z.1
theorem m_pair {h0 h : PH} {mo x : Nat} {R : RT} {K : Nat → Nat → Bool} {P : Nat → Bool} {kd : Nat} {pl : Int32} (H : MS h0 h mo x R K kd pl K P) {u i j : Nat} (hu : u < 18) (hi : i < 6) (hj : j < 6) {F : Nat} (hF : 40 ≤ F) :
    ∃ h', MS h0 h' mo x R K kd pl (k7 K u (ceU u i) (ceU u j)) P ∧ ((tot (k7 K u (ceU u i) (ceU u j)) = tot K ∧ f_Mo_pair F mo x (nI u) (nI i) (nI j) h = some (0, h')) ∨ (tot (k7 K u (ceU u i) (ceU u j)) < tot K ∧ f_Mo_pair F mo x (nI u) (nI i) (nI j) h = some (1, h'))) := by
  obtain ⟨V, M0⟩ := H.mn
  have ha := ceU_lt u hu i hi
  obtain ⟨s, y1, h1⟩ := LC (fun n t s => f_Mo_pair_12 F n mo x (nI u) (nI i) (nI j) (nI (mkd (K (ceU u i)))) (nI t) s) (fun t s => MS h0 s mo x R K kd pl (fun c e => K c e && !(K (ceU u i) e && (inU u c && decide (ixU u c < t) && !(decide (c = ceU u i) || decide (c = ceU u j))))) P) 6
    (fun n t s ht y1 => by
      obtain ⟨V1, M1⟩ := y1.mn
      have hc := ceU_lt u hu t ht
      show ∃ s', _ ∧ f_Mo_pair_12 F (n + 1) mo x (nI u) (nI i) (nI j) (nI (mkd (K (ceU u i)))) (nI t) s = _
      rw [f_Mo_pair_12, b_Mo_pair_12, if_neg (show ¬ (6 : Int32) ≤ nI t from nI_ge (a := (t)) (b := 6) (by omega) (by omega))]
      have hsk : (t = i ∨ t = j) → MS h0 s mo x R K kd pl (fun c e => K c e && !(K (ceU u i) e && (inU u c && decide (ixU u c < t + 1) && !(decide (c = ceU u i) || decide (c = ceU u j))))) P := by
        intro z
        refine y1.x (fun c hc' e _ => ?_) (fun _ _ => rfl)
        by_cases q : c = ceU u t
        · have : (decide (c = ceU u i) || decide (c = ceU u j)) = true := by
            rcases z with z | z <;> subst z <;> simp [q]
          simp [this]
        · cases q2 : inU u c
          · simp
          · have := ixU_ne hu hc' ht q2 q
            rw [dlt_ne this]
      by_cases q1 : t = i
      · rw [if_pos (congrArg nI q1)]
        exact ⟨s, hsk (Or.inl q1), by rw [b_Mo_pair_45, nI_1]⟩
      rw [if_neg (fun z => q1 ((nI_eq (by omega) (by omega)).mp z))]
      by_cases q2 : t = j
      · rw [if_pos (congrArg nI q2)]
        exact ⟨s, hsk (Or.inr q2), by rw [b_Mo_pair_45, nI_1]⟩
      rw [if_neg (fun z => q2 ((nI_eq (by omega) (by omega)).mp z)), m_cellIn u hu t ht, bnd_s, M1.ck, bnd_s]
      obtain ⟨s', t1, t2, _⟩ := y1.take hc (K (ceU u i)) hF
      refine ⟨s', t2.x (fun c hc' e _ => ?_) (fun _ _ => rfl), by rw [t1, bnd_s, b_Mo_pair_45, nI_1]⟩
      by_cases q : c = ceU u t
      · subst q
        have n1 : ¬ ceU u t = ceU u i := fun z => q1 (ceU_inj hu ht hi z)
        have n2 : ¬ ceU u t = ceU u j := fun z => q2 (ceU_inj hu ht hj z)
        simp [ixU_c u hu t ht, ceU_in u hu t ht, n1, n2]
      · cases q3 : inU u c
        · simp [q]
        · have := ixU_ne hu hc' ht q3 q
          simp [q, dlt_ne this]) 6 0 h F rfl (by omega) (H.x (fun c _ e _ => by simp) (fun _ _ => rfl))
  obtain ⟨m, hm⟩ : ∃ m, F - 6 = m + 1 := ⟨F - 7, by omega⟩
  have y2 : MS h0 s mo x R K kd pl (k7 K u (ceU u i) (ceU u j)) P := y1.x (fun c hc e _ => by
    unfold k7
    cases q : inU u c
    · simp
    · simp [(ixU_lt u hu c hc q).1]) (fun _ _ => rfl)
  obtain ⟨rm, g1, g2⟩ := y2.rem
  have hb := tot_le K
  have hE : f_Mo_pair F mo x (nI u) (nI i) (nI j) h = if nI rm ≤ (0 : Int32) then some (0, s) else some (1, s) := by
    unfold f_Mo_pair
    rw [m_cellIn u hu i hi, bnd_s, (M0.g ha).1, bnd_s]
    refine Eq.trans h1 ?_
    show f_Mo_pair_12 F (F - 6) mo x (nI u) (nI i) (nI j) (nI (mkd (K (ceU u i)))) (nI 6) s = _
    rw [hm, f_Mo_pair_12, b_Mo_pair_12, if_pos (show (6 : Int32) ≤ nI 6 from nI_le (a := 6) (b := 6) (by omega) (by omega)), g1, bnd_s]
  refine ⟨s, y2, ?_⟩
  rw [hE]
  by_cases q : rm = 0
  · exact Or.inl ⟨by omega, by rw [q, if_pos (show nI 0 ≤ (0 : Int32) by decide)]⟩
  · exact Or.inr ⟨by omega, by rw [if_neg (show ¬ nI rm ≤ (0 : Int32) from nI_nle (n := rm) (by omega) (by omega))]⟩
theorem a7_ce {K : Nat → Nat → Bool} {u i j : Nat} (hu : u < 18) (hi : i < 6) (hj : j < 6) : a7 K u (ceU u i) (ceU u j) ↔ i < j ∧ sz (K (ceU u i)) = 2 ∧ alk K (ceU u i) (ceU u j) ∧ tot (k7 K u (ceU u i) (ceU u j)) < tot K := by
  constructor
  · rintro ⟨h1, h2, h3, h4, h5, h6, c, d, g1, g2, g3, g4, g5, g6, g7⟩
    refine ⟨?_, h5, h6, ?_⟩
    · rcases Nat.lt_or_ge i j with q | q
      · exact q
      · exfalso
        rcases Nat.lt_or_ge j i with q2 | q2
        · have := ceU_mo u hu i hi j q2; omega
        · have : i = j := by omega
          rw [this] at h1; omega
    · refine smN_lt (fun c hc => sz_mono (k7_le c hc)) ⟨c, g1, sz_lt (k7_le c g1) g5 g7 ?_⟩
      unfold k7
      simp [g2, g3, g4, g6, g7]
  · rintro ⟨h1, h2, h3, h4⟩
    refine ⟨ceU_mo u hu j hj i h1, ceU_lt u hu j hj, ceU_in u hu i hi, ceU_in u hu j hj, h2, h3, ?_⟩
    apply Classical.byContradiction
    intro z
    have : tot (k7 K u (ceU u i) (ceU u j)) = tot K := tot_ext fun c hc e he => by
      unfold k7
      cases q1 : K c e
      · rfl
      · cases q2 : K (ceU u i) e
        · rfl
        · cases q3 : inU u c
          · rfl
          · by_cases q4 : c = ceU u i
            · simp [q4]
            · by_cases q5 : c = ceU u j
              · simp [q5]
              · exact absurd ⟨c, e, hc, q3, q4, q5, he, q2, q1⟩ z
    omega
theorem m_pairs {h0 h : PH} {mo x : Nat} {R : RT} {K : Nat → Nat → Bool} {P : Nat → Bool} {kd : Nat} {pl : Int32} (H : MS h0 h mo x R K kd pl K P) {F : Nat} (hF : 40 ≤ F) :
    (no7 K ∧ NoD h0 mo x R K kd pl K P (f_Mo_pairs F mo x h)) ∨ ∃ u K', f7 K u K' ∧ YeD h0 mo x R K kd u K' P (f_Mo_pairs F mo x h) := by
  have hin : ∀ kk n u i j s, u < 18 → i < 6 → j < 6 → i < j → MS h0 s mo x R K kd pl K P → (¬ a7 K u (ceU u i) (ceU u j) ∧ ∃ s', f_Mo_pairs_20 F kk (n + 1) mo x (nI u) (nI i) (nI j) s = f_Mo_pairs_20 F kk n mo x (nI u) (nI i) (nI (j + 1)) s' ∧ MS h0 s' mo x R K kd pl K P) ∨
      (a7 K u (ceU u i) (ceU u j) ∧ YeD h0 mo x R K kd u (k7 K u (ceU u i) (ceU u j)) P (f_Mo_pairs_20 F kk (n + 1) mo x (nI u) (nI i) (nI j) s)) := by
    intro kk n u i j s hu hi hj hij i1
    obtain ⟨V, M0⟩ := i1.mn
    have hsz := sz_le (K (ceU u i))
    rw [f_Mo_pairs_20, b_Mo_pairs_20, if_neg (show ¬ (6 : Int32) ≤ nI j from nI_ge (a := (j)) (b := 6) (by omega) (by omega)), m_cellIn u hu i hi, bnd_s, (M0.g (ceU_lt u hu i hi)).1, bnd_s, m_size _ hF, bnd_s]
    by_cases q1 : sz (K (ceU u i)) = 2
    rotate_left
    · left
      refine ⟨fun z => q1 z.2.2.2.2.1, s, ?_, i1⟩
      rw [if_neg (show ¬ nI (sz (K (ceU u i))) = (2 : Int32) from fun z => q1 ((nI_eq (a := sz (K (ceU u i))) (b := 2) (by omega) (by omega)).mp z)), b_Mo_pairs_77, nI_1]
    rw [if_pos (show nI (sz (K (ceU u i))) = (2 : Int32) from congrArg nI q1), m_cellIn u hu j hj, bnd_s, (M0.g (ceU_lt u hu j hj)).1, bnd_s]
    by_cases q2 : alk K (ceU u i) (ceU u j)
    rotate_left
    · left
      refine ⟨fun z => q2 z.2.2.2.2.2.1, s, ?_, i1⟩
      rw [if_neg (fun z => q2 (alk_m.mp z)), b_Mo_pairs_77, nI_1]
    rw [if_pos (alk_m.mpr q2), M0.ck, bnd_s]
    obtain ⟨s1, g1, ⟨g2, g3⟩ | ⟨g2, g3⟩⟩ := m_pair i1 hu hi hj hF
    · left
      refine ⟨fun z => ?_, s1, ?_, g1.x (tot_eq k7_le g2) (fun _ _ => rfl)⟩
      · have := ((a7_ce hu hi hj).mp z).2.2.2
        omega
      · rw [g3, bnd2_s, if_pos rfl, b_Mo_pairs_77, nI_1]
    · right
      obtain ⟨s2, e1, e2⟩ := g1.pl (nI u)
      exact ⟨(a7_ce hu hi hj).mpr ⟨hij, q1, q2, g2⟩, s2, by rw [g3, bnd2_s, if_neg (by decide), e1, bnd_s], e2⟩
  have hrow : ∀ kk n u i s, u < 18 → i < 5 → MS h0 s mo x R K kd pl K P → ((∀ j, j < 6 → i < j → ¬ a7 K u (ceU u i) (ceU u j)) ∧ ∃ s', f_Mo_pairs_10 F kk (n + 1) mo x (nI u) (nI i) s = f_Mo_pairs_10 F kk n mo x (nI u) (nI (i + 1)) s' ∧ MS h0 s' mo x R K kd pl K P) ∨
      ∃ j, j < 6 ∧ i < j ∧ a7 K u (ceU u i) (ceU u j) ∧ (∀ j', j' < j → i < j' → ¬ a7 K u (ceU u i) (ceU u j')) ∧ YeD h0 mo x R K kd u (k7 K u (ceU u i) (ceU u j)) P (f_Mo_pairs_10 F kk (n + 1) mo x (nI u) (nI i) s) := by
    intro kk n u i s hu hi i1
    rw [f_Mo_pairs_10, b_Mo_pairs_10, if_neg (show ¬ (5 : Int32) ≤ nI i from nI_ge (a := (i)) (b := 5) (by omega) (by omega)), bnd_s, nI_1]
    obtain ⟨j, s', j1, j2, ⟨j0, j3, j5⟩, j4, h1⟩ := LE (fun n' t s => f_Mo_pairs_20 F (f_Mo_pairs_10 F kk n) n' mo x (nI u) (nI i) (nI t) s) (fun t s => i < t ∧ MS h0 s mo x R K kd pl K P ∧ ∀ j', j' < t → i < j' → ¬ a7 K u (ceU u i) (ceU u j')) (fun t _ => a7 K u (ceU u i) (ceU u t)) 6
      (fun n' t s ht ⟨g0, g1, g2⟩ => by
        rcases hin (f_Mo_pairs_10 F kk n) n' u i t s hu (by omega) ht g0 g1 with ⟨z0, s', z1, z2⟩ | ⟨z0, _⟩
        · refine Or.inr ⟨s', ⟨by omega, z2, fun j' hj' hl => ?_⟩, z1⟩
          by_cases q2 : j' = t
          · rw [q2]; exact z0
          · exact g2 j' (by omega) hl
        · exact Or.inl z0) (6 - (i + 1)) (i + 1) s F (by omega) (by omega) ⟨by omega, i1, fun j' h1 h2 => by omega⟩
    obtain ⟨m, hm2⟩ : ∃ m, F - (j - (i + 1)) = m + 1 := ⟨F - (j - (i + 1)) - 1, by omega⟩
    have hE : f_Mo_pairs_20 F (f_Mo_pairs_10 F kk n) F mo x (nI u) (nI i) (nI (i + 1)) s = f_Mo_pairs_20 F (f_Mo_pairs_10 F kk n) (m + 1) mo x (nI u) (nI i) (nI j) s' := by
      rw [← hm2]
      exact h1
    rw [hE]
    by_cases q : j < 6
    · right
      rcases hin (f_Mo_pairs_10 F kk n) m u i j s' hu (by omega) q j0 j3 with ⟨z0, _⟩ | ⟨z0, z1⟩
      · exact absurd (j4 q) z0
      · exact ⟨j, q, j0, z0, j5, z1⟩
    · left
      refine ⟨fun j' h1 h2 => j5 j' (by omega) h2, s', ?_, j3⟩
      rw [f_Mo_pairs_20, b_Mo_pairs_20, if_pos (show (6 : Int32) ≤ nI j from nI_le (a := 6) (b := (j)) (by omega) (by omega)), nI_1]
  have hce : ∀ u a b, u < 18 → a7 K u a b → ∃ i j, i < 5 ∧ j < 6 ∧ i < j ∧ a = ceU u i ∧ b = ceU u j := by
    intro u a b hu z
    obtain ⟨i, hi, e1⟩ := ceU_ex hu (Nat.lt_trans z.1 z.2.1) z.2.2.1
    obtain ⟨j, hj, e2⟩ := ceU_ex hu z.2.1 z.2.2.2.1
    subst e1
    subst e2
    have := ((a7_ce hu hi hj).mp z).1
    exact ⟨i, j, by omega, hj, this, rfl, rfl⟩
  have hun : ∀ n u s, u < 18 → MS h0 s mo x R K kd pl K P → ((∀ a b, ¬ a7 K u a b) ∧ ∃ s', f_Mo_pairs_2 F (n + 1) mo x (nI u) s = f_Mo_pairs_2 F n mo x (nI (u + 1)) s' ∧ MS h0 s' mo x R K kd pl K P) ∨
      ∃ a b, a7 K u a b ∧ (∀ a' b', a' < a → ¬ a7 K u a' b') ∧ (∀ b', b' < b → ¬ a7 K u a b') ∧ YeD h0 mo x R K kd u (k7 K u a b) P (f_Mo_pairs_2 F (n + 1) mo x (nI u) s) := by
    intro n u s hu i1
    rw [f_Mo_pairs_2, b_Mo_pairs_2, if_neg (show ¬ (18 : Int32) ≤ nI u from nI_ge (a := (u)) (b := 18) (by omega) (by omega))]
    obtain ⟨i, s', j1, j2, ⟨j3, j5⟩, j4, h1⟩ := LE (fun n' t s => f_Mo_pairs_10 F (f_Mo_pairs_2 F n) n' mo x (nI u) (nI t) s) (fun t s => MS h0 s mo x R K kd pl K P ∧ ∀ i j, i < t → j < 6 → i < j → ¬ a7 K u (ceU u i) (ceU u j)) (fun t _ => ∃ j, j < 6 ∧ t < j ∧ a7 K u (ceU u t) (ceU u j)) 5
      (fun n' t s ht ⟨g1, g2⟩ => by
        rcases hrow (f_Mo_pairs_2 F n) n' u t s hu ht g1 with ⟨z0, s', z1, z2⟩ | ⟨j, z0, z1, z2, _⟩
        · refine Or.inr ⟨s', ⟨z2, fun i j hi hj hl => ?_⟩, z1⟩
          by_cases q2 : i = t
          · subst q2; exact z0 j hj hl
          · exact g2 i j (by omega) hj hl
        · exact Or.inl ⟨j, z0, z1, z2⟩) 5 0 s F rfl (by omega) ⟨i1, fun i j h1 => by omega⟩
    obtain ⟨m, hm2⟩ : ∃ m, F - (i - 0) = m + 1 := ⟨F - (i - 0) - 1, by omega⟩
    have hE : f_Mo_pairs_10 F (f_Mo_pairs_2 F n) F mo x (nI u) 0 s = f_Mo_pairs_10 F (f_Mo_pairs_2 F n) (m + 1) mo x (nI u) (nI i) s' := by
      rw [← hm2]
      exact h1
    rw [hE]
    by_cases q : i < 5
    · right
      rcases hrow (f_Mo_pairs_2 F n) m u i s' hu q j3 with ⟨z0, _⟩ | ⟨j, z0, z1, z2, z3, z4⟩
      · obtain ⟨j, y1, y2, y3⟩ := j4 q
        exact absurd y3 (z0 j y1 y2)
      · refine ⟨_, _, z2, fun a' b' hl z => ?_, fun b' hl z => ?_, z4⟩
        · obtain ⟨i', j', x1, x2, x3, rfl, rfl⟩ := hce u a' b' hu z
          have : i' < i := by
            rcases Nat.lt_trichotomy i' i with w | w | w
            · exact w
            · rw [w] at hl; omega
            · have := ceU_mo u hu i' (by omega) i w; omega
          exact j5 i' j' this x2 x3 z
        · obtain ⟨i', j', x1, x2, x3, e1, e2⟩ := hce u _ b' hu z
          have e3 := ceU_inj hu (by omega) (by omega) e1
          subst e2
          have : j' < j := by
            rcases Nat.lt_trichotomy j' j with w | w | w
            · exact w
            · rw [w] at hl; omega
            · have := ceU_mo u hu j' x2 j w; omega
          exact z3 j' this (by omega) z
    · left
      refine ⟨fun a b z => ?_, s', ?_, j3⟩
      · obtain ⟨i', j', x1, x2, x3, rfl, rfl⟩ := hce u a b hu z
        exact j5 i' j' (by omega) x2 x3 z
      · rw [f_Mo_pairs_10, b_Mo_pairs_10, if_pos (show (5 : Int32) ≤ nI i from nI_le (a := 5) (b := (i)) (by omega) (by omega)), nI_1]
  obtain ⟨j, s, j1, j2, ⟨j3, j5⟩, j4, h1⟩ := LE (fun n i s => f_Mo_pairs_2 F n mo x (nI i) s) (fun i s => MS h0 s mo x R K kd pl K P ∧ ∀ u a b, u < i → ¬ a7 K u a b) (fun i _ => ∃ a b, a7 K i a b) 18
    (fun n i s hi ⟨g1, g2⟩ => by
      rcases hun n i s hi g1 with ⟨z0, s', z1, z2⟩ | ⟨a, b, z0, _⟩
      · refine Or.inr ⟨s', ⟨z2, fun u a b hu => ?_⟩, z1⟩
        by_cases q2 : u = i
        · rw [q2]; exact z0 a b
        · exact g2 u a b (by omega)
      · exact Or.inl ⟨a, b, z0⟩) 18 0 h F rfl (by omega) ⟨H, fun u a b hu => by omega⟩
  obtain ⟨m, hm2⟩ : ∃ m, F - (j - 0) = m + 1 := ⟨F - (j - 0) - 1, by omega⟩
  have hE : f_Mo_pairs F mo x h = f_Mo_pairs_2 F (m + 1) mo x (nI j) s := by
    unfold f_Mo_pairs
    rw [← hm2]
    exact h1
  rw [hE]
  by_cases q : j < 18
  · right
    rcases hun m j s q j3 with ⟨z0, _⟩ | ⟨a, b, z0, z1, z2, z3⟩
    · obtain ⟨a, b, y1⟩ := j4 q
      exact absurd y1 (z0 a b)
    · exact ⟨j, _, ⟨q, j5, a, b, z0, z1, z2, rfl⟩, z3⟩
  · left
    rw [f_Mo_pairs_2, b_Mo_pairs_2, if_pos (show (18 : Int32) ≤ nI j from nI_le (a := 18) (b := (j)) (by omega) (by omega))]
    exact ⟨fun u a b hu => j5 u a b (by omega), s, rfl, j3⟩
