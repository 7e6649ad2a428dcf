/-! The reference's make. -/
theorem m_shuf26 {mo n : Nat} (hn2 : n ≤ 36) {F : Nat} : ∀ i m h W z f g, i < n → i + 1 ≤ m → h.2 mo = obj 10 28 W → MV mo W → W 20 = .long (lN z) → z < 2147483648 → h.2 (mo + 12) = oI 36 g → (∀ k, k < n → g k = nI (f k)) →
    ∃ h' W' g', f_Mo_shuffle_26 F m mo (nI i) h = some h' ∧ h'.2 mo = obj 10 28 W' ∧ (∀ k, k ≠ 20 → W' k = W k) ∧ W' 20 = .long (lN (shz i z)) ∧ h'.2 (mo + 12) = oI 36 g' ∧ (∀ k, k < n → g' k = nI (shf i z f k)) ∧ Fr (fun k => k = mo ∨ k = mo + 12) h h' := by
  intro i
  induction i with
  | zero =>
    intro m h W z f g hi hm e0 hV ez hz ea hg
    obtain ⟨m, rfl⟩ : ∃ k, m = k + 1 := ⟨m - 1, by omega⟩
    refine ⟨h, W, g, ?_, e0, fun _ _ => rfl, ez, ea, hg, Fr.rf _ _⟩
    rw [f_Mo_shuffle_26, b_Mo_shuffle_26, if_pos (show nI 0 ≤ (0 : Int32) by decide)]
  | succ i ih =>
    intro m h W z f g hi hm e0 hV ez hz ea hg
    obtain ⟨m, rfl⟩ : ∃ k, m = k + 1 := ⟨m - 1, by omega⟩
    obtain ⟨h1, p1, g1, f1⟩ := puti (k := 20) (.long (lN (drN z))) e0 (by omega)
    have hV1 := hV.up (.long (lN (drN z))) (k := 20) (by rfl)
    have hj : drN z / 65536 % (i + 2) < i + 2 := Nat.mod_lt _ (by omega)
    have ea1 : h1.2 (mo + 12) = oI 36 g := (f1.2 _ (by omega)).trans ea
    obtain ⟨h2, p2, g2, f2⟩ := sti (i := i + 1) (g (drN z / 65536 % (i + 2))) ea1 (by omega) (by omega)
    obtain ⟨h3, p3, g3, f3⟩ := sti (i := drN z / 65536 % (i + 2)) (g (i + 1)) g2 (by omega) (by omega)
    have z2 := (f2.2 mo (by omega)).trans g1
    have z3 := (f3.2 mo (by omega)).trans z2
    have hdraw : f_Mo_draw mo (nI (i + 1) + 1) h = some (nI (drN z / 65536 % (i + 2)), h1) := by
      unfold f_Mo_draw
      rw [ob_L e0 (by omega) ez, bnd_s, dr_z hz, p1, bnd_s, nI_1, ob_L g1 (by omega) (vu_s _ _ _), bnd_s]
      have hcd : cDL ((nI (i + 1 + 1)).toInt64) = some () := by
        unfold cDL
        rw [nI_l (by omega), if_neg]
        intro q
        have := (pk_lEQ (a := i + 1 + 1) (b := 0) (by omega) (by omega)).mp q
        omega
      rw [hcd, bnd_s, dr_i (drN_lt z) (by omega) (by omega)]
    obtain ⟨h4, W', g', y1, y2, y2', y3, y4, y5, y6⟩ := ih m h3 _ (drN z) (swp f (i + 1) (drN z / 65536 % (i + 2))) _ (by omega) (by omega) z3 hV1 (vu_s _ _ _) (drN_lt z) g3 (fun k hk => sw_i (hg k hk) (hg _ hi) (hg _ (by omega)))
    refine ⟨h4, W', g', ?_, y2, fun k hk => (y2' k hk).trans (vu_n _ _ hk), y3, y4, y5, (f1.mo fun k hk => Or.inl hk).tr ((f2.mo fun k hk => Or.inr hk).tr ((f3.mo fun k hk => Or.inr hk).tr y6))⟩
    have hr12 : ∀ s V, s.2 mo = obj 10 28 V → MV mo V → gR s mo 10 21 = some (mo + 12) := fun s V e v => ob_R e (by omega) v.2.2.2.2.2.2.2.2.2.2.2.1
    rw [f_Mo_shuffle_26, b_Mo_shuffle_26, if_neg (show ¬ nI (i + 1) ≤ (0 : Int32) from nI_nle (n := i + 1) (by omega) (by omega)), ob_K e0, bnd_s, hdraw, bnd2_s, hr12 _ _ g1 hV1, bnd_s, ar_I ea1 (by omega) (by omega), bnd_s, bnd_s, bnd_s, ar_I ea1 (by omega) (by omega), bnd_s, p2, bnd_s, hr12 _ _ z2 hV1, bnd_s, p3, bnd_s, pk_m1 i, y1]
theorem m_shuf {h : PH} {mo : Nat} {x : ST} {m : Nat} {sv : Nat → ST} {tl : Nat} {tx : Nat → Int32} {t : Int32} (H : MW h mo x m sv tl tx t) {W : Nat → Value} {z n b : Nat} (e0 : h.2 mo = obj 10 28 W) (ez : W 20 = .long (lN z)) (hz : z < 2147483648) (hn0 : 0 < n) (hn2 : n ≤ 36) {F : Nat} (hF : 3000 ≤ F) :
    ∃ h' W' g', f_Mo_shuffle F mo (nI n) (nI b) h = some h' ∧ MW h' mo x m sv tl tx t ∧ h'.2 mo = obj 10 28 W' ∧ W' 20 = .long (lN (shz (n - 1) z)) ∧ h'.2 (mo + 12) = oI 36 g' ∧ (∀ k, k < n → g' k = nI (shf (n - 1) z (fun k => b + k) k)) ∧ Fr (fun k => k = mo ∨ k = mo + 12) h h' := by
  obtain ⟨⟨W0, a0, a1, _⟩, _, _, _, _, q⟩ := id H
  have hWV : ∀ k, k < 28 → W k = W0 k := fun k hk => by
    have z1 := ob_g e0 hk
    rw [ob_g a0 hk] at z1
    simpa using z1.symm
  have hV : MV mo W := by
    obtain ⟨m1, m2, m3, m4, m5, m6, m7, m8, m9, m10, m11, m12, m13, m14⟩ := a1
    exact ⟨(hWV 0 (by omega)).trans m1, (hWV 1 (by omega)).trans m2, (hWV 3 (by omega)).trans m3, (hWV 9 (by omega)).trans m4, (hWV 10 (by omega)).trans m5, (hWV 11 (by omega)).trans m6, (hWV 12 (by omega)).trans m7, (hWV 13 (by omega)).trans m8, (hWV 14 (by omega)).trans m9, (hWV 15 (by omega)).trans m10, (hWV 16 (by omega)).trans m11, (hWV 21 (by omega)).trans m12, (hWV 24 (by omega)).trans m13, (hWV 25 (by omega)).trans m14⟩
  obtain ⟨g0, z0⟩ := (q 12 (by omega) (by omega)).g (by omega)
  obtain ⟨s, ⟨g, i1, i2, i3⟩, el⟩ := LC (fun n' i s => f_Mo_shuffle_2 F n' mo (nI n) (nI b) (nI i) s) (fun i s => ∃ g, s.2 (mo + 12) = oI 36 g ∧ (∀ k, k < i → g k = nI (b + k)) ∧ Fr (fun k => k = mo + 12) h s) n
    (fun n' i s hi ⟨g, i1, i2, i3⟩ => by
      obtain ⟨s1, p1, q1, r1⟩ := sti (i := i) (nI (b + i)) i1 (by omega) (by omega)
      refine ⟨s1, ⟨_, q1, fun k hk => ?_, i3.tr r1⟩, ?_⟩
      · by_cases w : k = i
        · subst w; exact pk_us
        · rw [pk_un w]; exact i2 k (by omega)
      · show f_Mo_shuffle_2 F (n' + 1) mo (nI n) (nI b) (nI i) s = _
        rw [f_Mo_shuffle_2, b_Mo_shuffle_2, if_neg (show ¬ nI n ≤ nI i from nI_ge (by omega) (by omega)), ob_R ((i3.2 _ (by omega)).trans e0) (by omega) hV.2.2.2.2.2.2.2.2.2.2.2.1, bnd_s, nI_add, p1, bnd_s, nI_1]) n 0 h F (Nat.zero_add _) (by omega) ⟨g0, z0, fun k hk => absurd hk (Nat.not_lt_zero k), Fr.rf _ _⟩
  have e1 := (i3.2 mo (by omega)).trans e0
  obtain ⟨h', W', g', y1, y2, y2', y3, y4, y5, y6⟩ := m_shuf26 hn2 (F := F) (n - 1) F s W z (fun k => b + k) g (by omega) (by omega) e1 hV ez hz i1 i2
  have fr : Fr (fun k => k = mo ∨ k = mo + 12) h h' := (i3.mo fun k hk => Or.inr hk).tr y6
  refine ⟨h', W', g', ?_, H.sv e0 y2 (fun k hk hf => y2' k ?_) (fun k h1 h2 => fr.2 k (by omega)) (fun j h1 h2 => ?_), y2, y3, y4, y5, fr⟩
  · obtain ⟨n', hn⟩ : ∃ k, F - n = k + 1 := ⟨F - n - 1, by omega⟩
    unfold f_Mo_shuffle
    refine Eq.trans el ?_
    show f_Mo_shuffle_2 F (F - n) mo (nI n) (nI b) (nI n) s = _
    rw [hn, f_Mo_shuffle_2, b_Mo_shuffle_2, if_pos (show nI n ≤ nI n from nI_le (Nat.le_refl _) (by omega)), bnd_s, show nI n - (1 : Int32) = nI (n - 1) from pk_sub (a := n) (b := 1) (by omega), y1]
  · rintro rfl
    rcases hf with hf | hf | hf | hf
    · cases hf
    all_goals omega
  · by_cases w : j = 12
    · subst w; exact mx_s ⟨g', y4⟩
    · exact (q j h1 h2).fr (fr.2 _ (by omega))
theorem m_make {h : PH} {mo : Nat} {x : ST} {m : Nat} {sv : Nat → ST} {tl : Nat} {tx : Nat → Int32} {t0 : Int32} (H : MW h mo x m sv tl tx t0) (hv : VAL x) (hsv : ∀ i, i < m → VAL (sv i)) {s t : Nat} (hs : s ≤ 999999) (ht : t ≤ 36) {F : Nat} (hF : 3000 + nB 36 ≤ F) :
    ∃ h', f_Mo_make F mo (nI s) (nI t) h = some (nI (mkl (ordC s) t 36 0 36 (grG s)).1, h') ∧ MW h' mo (R0, gvK (mkl (ordC s) t 36 0 36 (grG s)).2, fun _ => false, (mkl (ordC s) t 36 0 36 (grG s)).2, 0, tE x) (svN m) (svS m sv x) tl tx 0 ∧ Fr (DM mo) h h' := by
  have hF3 := F3 hF
  obtain ⟨h1, p1, H1, f1⟩ := H.t 0
  obtain ⟨h2, p2, H2, f2⟩ := m_change H1 hv hsv hF3
  obtain ⟨h3, p3, H3, f3⟩ := m_clear H2 hF3
  have H3' : MW h3 mo (x0 (tE x)) (svN m) (svS m sv x) tl tx 0 := H3
  obtain ⟨h4, p4, H4, f4, W4, q4, v4⟩ := H3'.f (k := 20) (by rfl) (by omega) (by omega) (by omega) (.long (lN s))
  obtain ⟨h5, W5, g5, p5, H5, q5, v5, d5, d5', f5⟩ := m_shuf H4 (z := s) (n := 6) (b := 1) q4 v4 (by omega) (by omega) (by omega) hF3
  -- the grid
  have hdg : ∀ k, k < 6 → g5 k = nI (dgo s k) := fun k hk => by
    rw [d5' k hk]
    unfold dgo
    exact congrArg (fun f => nI (shf 5 s f k)) (funext fun k => Nat.add_comm 1 k)
  obtain ⟨h6, ⟨G6, j1, j2, j3⟩, e6⟩ := LC (fun n i s' => f_Mo_make_61 F n mo (nI t) (nI i) s') (fun i s' => ∃ G, MW s' mo (xG (x0 (tE x)) G) (svN m) (svS m sv x) tl tx 0 ∧ Fr (fun k => k = mo + 1) h5 s' ∧ ∀ c, c < 36 → G c = if c < i then grG s c else 0) 36
    (fun n i s' hi ⟨G, j1, j2, j3⟩ => by
      have hix : (3 * (i / 6 % 2) + i / 6 / 2 + i % 6) % 6 < 6 := Nat.mod_lt _ (by omega)
      have e1 : nI i / (6 : Int32) = nI (i / 6) := pk_div (a := i) (d := 6) (by omega) (by omega) (by omega)
      have e2 : nI i - nI (i / 6) * (6 : Int32) = nI (i % 6) := by
        rw [← e1]
        exact pk_rem (a := i) (d := 6) (by omega) (by omega) (by omega)
      have e3 : nI (i / 6) / (2 : Int32) = nI (i / 6 / 2) := pk_div (a := i / 6) (d := 2) (by omega) (by omega) (by omega)
      have e4 : nI (i / 6) - nI (i / 6 / 2) * (2 : Int32) = nI (i / 6 % 2) := by
        rw [← e3]
        exact pk_rem (a := i / 6) (d := 2) (by omega) (by omega) (by omega)
      have e5 : (3 : Int32) * nI (i / 6 % 2) = nI (3 * (i / 6 % 2)) := pk_mul 3 _
      have e6 : nI (3 * (i / 6 % 2) + i / 6 / 2 + i % 6) - nI (3 * (i / 6 % 2) + i / 6 / 2 + i % 6) / (6 : Int32) * (6 : Int32) = nI ((3 * (i / 6 % 2) + i / 6 / 2 + i % 6) % 6) := pk_rem (a := 3 * (i / 6 % 2) + i / 6 / 2 + i % 6) (d := 6) (by omega) (by omega) (by omega)
      obtain ⟨f, c1, c2⟩ := j1.2.2.1
      obtain ⟨s2, t1, t2, t3⟩ := sti (i := 72 + i) (nI (grG s i)) c1 (by omega) (by omega)
      refine ⟨s2, ⟨_, j1.row t3 t2 (c2.g hi (grG s i)), j2.tr t3, fun c hc => ?_⟩, ?_⟩
      · show (if c = i then grG s i else G c) = _
        by_cases q : c = i
        · rw [if_pos q, if_pos (by omega), q]
        · rw [if_neg q, j3 c hc]
          by_cases z : c < i
          · rw [if_pos z, if_pos (by omega)]
          · rw [if_neg z, if_neg (by omega)]
      · show f_Mo_make_61 F (n + 1) mo (nI t) (nI i) s' = _
        rw [f_Mo_make_61, b_Mo_make_61, if_neg (show ¬ (36 : Int32) ≤ nI i from nI_ge (a := (i)) (b := 36) (by omega) (by omega)), e1, bnd_s, j1.r.2.1, bnd_s, j1.r.2.2.2.2.2.2.2.1, bnd_s, e2, e3, e4, e5, nI_add, nI_add, e6, ar_I ((j2.2 _ (by omega)).trans d5) (by omega) (by omega), bnd_s, hdg _ hix, show (72 : Int32) + nI i = nI (72 + i) from nI_add 72 i, show nI (dgo s ((3 * (i / 6 % 2) + i / 6 / 2 + i % 6) % 6)) = nI (grG s i) from rfl, t1, bnd_s, nI_1]) 36 0 h5 F rfl (by omega) ⟨fun _ => 0, H5, Fr.rf _ _, fun c hc => by rw [if_neg (by omega)]⟩
  have hG6 : ∀ c, c < 36 → G6 c = grG s c := fun c hc => by rw [j3 c hc, if_pos hc]
  have q6 := (j2.2 mo (by omega)).trans q5
  obtain ⟨h7, W7, g7, p7, H7, q7, v7, d7, d7', f7⟩ := m_shuf j1 (z := shz 5 s) (n := 36) (b := 0) q6 v5 (shz_lt _ _ (by omega)) (by omega) (by omega) hF3
  have hod : ∀ k, k < 36 → g7 k = nI (ordC s k) := fun k hk => by
    rw [d7' k hk]
    unfold ordC
    exact congrArg (fun f => nI (shf 35 (shz 5 s) f k)) (funext fun k => Nat.zero_add k)
  -- the givens go
  have fin : ∀ c G hh G', gvOK G → MW hh mo (xG (x0 (tE x)) G') (svN m) (svS m sv x) tl tx 0 → (∀ c, c < 36 → G' c = G c) → ∃ h', b_Mo_make_178 F mo (nI c) hh = some (nI c, h') ∧ MW h' mo (R0, gvK G, fun _ => false, G, 0, tE x) (svN m) (svS m sv x) tl tx 0 ∧ Fr (DM mo) hh h' := by
    intro c G hh G' hG HH hGe
    have HG : MW hh mo (R0, (fun _ _ => true), (fun _ => false), G, 0, tE x) (svN m) (svS m sv x) tl tx 0 := by
      obtain ⟨a, b, ⟨f, c1, c2, c3, c4, c5⟩, d⟩ := HH
      exact ⟨a, b, ⟨f, c1, c2, c3, fun c hc => (c4 c hc).trans (congrArg nI (hGe c hc)), c5⟩, d⟩
    obtain ⟨h', p, Hh, fr⟩ := m_anew HG ⟨R0_ok, fun c _ z => (by cases z), hG, by show 0 ≤ 100; omega⟩ hF3
    refine ⟨h', ?_, Hh, fr.mo fun k hk => by simp only [DM]; omega⟩
    rw [b_Mo_make_178, HH.r.1, bnd_s, p, bnd_s]
  have loop : ∀ k i n c G hh G', i + k = 36 → k + 1 ≤ n → c ≤ 36 → 36 ≤ c + i → gvOK G → MW hh mo (xG (x0 (tE x)) G') (svN m) (svS m sv x) tl tx 0 → (∀ c, c < 36 → G' c = G c) → hh.2 (mo + 12) = oI 36 g7 →
      ∃ h' , f_Mo_make_125 F n mo (nI t) (nI c) (nI i) hh = some (nI (mkl (ordC s) t k i c G).1, h') ∧ MW h' mo (R0, gvK (mkl (ordC s) t k i c G).2, fun _ => false, (mkl (ordC s) t k i c G).2, 0, tE x) (svN m) (svS m sv x) tl tx 0 ∧ Fr (DM mo) hh h' := by
    intro k
    induction k with
    | zero =>
      intro i n c G hh G' hi hn hc hci hG HH hGe hod8
      obtain ⟨n, rfl⟩ : ∃ k, n = k + 1 := ⟨n - 1, by omega⟩
      rw [f_Mo_make_125, b_Mo_make_125, if_pos (show (36 : Int32) ≤ nI i from nI_le (a := 36) (b := (i)) (by omega) (by omega))]
      exact fin c G hh G' hG HH hGe
    | succ k ih =>
      intro i n c G hh G' hi hn hc hci hG HH hGe hod8
      obtain ⟨n, rfl⟩ : ∃ k, n = k + 1 := ⟨n - 1, by omega⟩
      have hmk : mkl (ordC s) t (k + 1) i c G = if c ≤ t then (c, G) else if min 2 (NS R0 (gvK (upG G (ordC s i) 0))) = 1 then mkl (ordC s) t k (i + 1) (c - 1) (upG G (ordC s i) 0) else mkl (ordC s) t k (i + 1) c G := rfl
      rw [f_Mo_make_125, b_Mo_make_125, if_neg (show ¬ (36 : Int32) ≤ nI i from nI_ge (a := (i)) (b := 36) (by omega) (by omega)), hmk]
      by_cases w : c ≤ t
      · rw [if_pos (show nI c ≤ nI t from nI_le (by omega) (by omega)), if_pos w]
        exact fin c G hh G' hG HH hGe
      rw [if_neg (show ¬ nI c ≤ nI t from nI_ge (by omega) (by omega)), if_neg w]
      have hoc := ordC_lt (s := s) (k := i) (by omega)
      have hG'ok : gvOK G' := fun c hc => by rw [hGe c hc]; exact hG c hc
      have hG1 : ∀ c, c < 36 → upG G' (ordC s i) 0 c = upG G (ordC s i) 0 c := fun c hc => by
        unfold upG
        by_cases z : c = ordC s i
        · rw [if_pos z, if_pos z]
        · rw [if_neg z, if_neg z]; exact hGe c hc
      obtain ⟨u1, q1, U1, v1⟩ := m_without HH R0_ok hG'ok hoc hF
      have q1' : f_Mo_solutionsWithout F mo (nI (ordC s i)) (2 : Int32) hh = some (nI (min 2 (NS R0 (gvK (upG G' (ordC s i) 0)))), u1) := q1
      rw [gvK_NS hG1] at q1'
      have ho1 : u1.2 (mo + 12) = oI 36 g7 := (v1.2 _ (by simp only [DQ]; omega)).trans hod8
      clear hF
      generalize NS R0 (gvK (upG G (ordC s i) 0)) = N at q1' ⊢
      rw [HH.r.2.2.2.2.2.2.2.1, bnd_s, ar_I hod8 (by omega) (by omega), hod i (by omega), bnd_s, HH.r.1, bnd_s, q1', bnd2_s]
      by_cases w1 : min 2 N = 1
      · obtain ⟨f, c1, c2⟩ := U1.2.2.1
        obtain ⟨u2, t1, t2, t3⟩ := sti (i := 72 + ordC s i) (nI 0) c1 (by omega) (by omega)
        have U2 := U1.row t3 t2 (c2.g hoc 0)
        obtain ⟨h', y1, y2, y3⟩ := ih (i + 1) n (c - 1) (upG G (ordC s i) 0) u2 (upG G' (ordC s i) 0) (by omega) (by omega) (by omega) (by omega) (upG_ok hG (by omega)) U2 hG1 ((t3.2 _ (by omega)).trans ho1)
        rw [if_pos (show nI (min 2 N) = (1 : Int32) from congrArg nI w1), if_pos w1, U1.r.2.1, bnd_s, U1.r.2.2.2.2.2.2.2.1, bnd_s, ar_I ho1 (by omega) (by omega), hod i (by omega), bnd_s, show (72 : Int32) + nI (ordC s i) = nI (72 + ordC s i) from nI_add 72 _, show (0 : Int32) = nI 0 from rfl, t1, bnd_s, b_Mo_make_172, nI_1]
        refine ⟨h', ?_, y2, (v1.mo ds_dm).tr ((t3.mo fun k hk => by simp only [DM]; omega).tr y3)⟩
        rw [show nI c + (-1 : Int32) = nI (c - 1) from by
          obtain ⟨c', rfl⟩ : ∃ c', c = c' + 1 := ⟨c - 1, by omega⟩
          exact pk_m1 c']
        exact y1
      · obtain ⟨h', y1, y2, y3⟩ := ih (i + 1) n c G u1 G' (by omega) (by omega) (by omega) (by omega) hG U1 hGe ho1
        rw [if_neg (show ¬ nI (min 2 N) = (1 : Int32) from fun z => w1 ((nI_eq (a := min 2 N) (b := 1) (by omega) (by omega)).mp z)), if_neg w1, b_Mo_make_172, nI_1]
        exact ⟨h', y1, y2, (v1.mo ds_dm).tr y3⟩
  obtain ⟨h8, y1, y2, y3⟩ := loop 36 0 F 36 (grG s) h7 G6 (by omega) (by omega) (by omega) (by omega) (grG_ok s) H7 hG6 d7
  refine ⟨h8, ?_, y2, (DM.mo' f1).tr ((f2.mo fun k hk => by simp only [DM]; omega).tr ((f3.mo fun k hk => by simp only [DM]; omega).tr ((DM.mo' f4).tr ((f5.mo fun k hk => by simp only [DM]; omega).tr ((j2.mo fun k hk => by simp only [DM]; omega).tr ((f7.mo fun k hk => by simp only [DM]; omega).tr y3))))))⟩
  obtain ⟨n, hn⟩ : ∃ n, F - 36 = n + 1 := ⟨F - 37, by omega⟩
  unfold f_Mo_make
  rw [show f_Mo_in (nI s) (0 : Int32) (999999 : Int32) = _ from m_wh (b := 999999) (by omega) (by omega), bnd_s, if_neg (by decide), show f_Mo_in (nI t) (0 : Int32) (36 : Int32) = _ from m_wh (b := 36) (by omega) (by omega), bnd_s, if_neg (by decide), b_Mo_make_26, p1, bnd_s, H1.th, bnd_s, if_pos rfl, H1.r.1, bnd_s, p2, bnd_s, H2.r.1, bnd_s, p3, bnd_s, nI_l (by omega), p4, bnd_s, H4.r.1, bnd_s, show (6 : Int32) = nI 6 from rfl, show (1 : Int32) = nI 1 from rfl, p5, bnd_s]
  refine Eq.trans e6 ?_
  show f_Mo_make_61 F (F - 36) mo (nI t) (nI 36) h6 = _
  rw [hn, f_Mo_make_61, b_Mo_make_61, if_pos (show (36 : Int32) ≤ nI 36 from nI_le (a := 36) (b := 36) (by omega) (by omega)), j1.r.1, bnd_s, show (36 : Int32) = nI 36 from rfl, show (0 : Int32) = nI 0 from rfl, p7, bnd_s]
  exact y1
