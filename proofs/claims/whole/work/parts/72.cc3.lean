/-! The class's counting: a level, whole. -/
theorem CT.k {R : RT} {K K' : Nat → Nat → Bool} {lim a : Nat} {un : Nat → Nat → Bool} {A A' : Nat} {G : (Nat → Nat) → Prop} {V' : Nat → Value} {un' : Nat → Nat → Bool} (h : CT R K' lim a un A G V' un') (e : ∀ f, Sol R K' f ↔ Sol R K f) (eA : A = A') : CT R K lim a un A' G V' un' := by
  subst eA
  exact ⟨h.1, fun z c d hc hd => by
    rw [h.2 z c d hc hd]
    constructor
    · rintro (x | ⟨f, x1, x2, x3⟩)
      · exact Or.inl x
      · exact Or.inr ⟨f, (e f).mp x1, x2, x3⟩
    · rintro (x | ⟨f, x1, x2, x3⟩)
      · exact Or.inl x
      · exact Or.inr ⟨f, (e f).mpr x1, x2, x3⟩⟩
theorem SEEN.fr {h h' : PH} {v : Nat} {un : Nat → Nat → Bool} (H : SEEN h v un) (e : h'.2 (v + 6) = h.2 (v + 6)) : SEEN h' v un := by
  obtain ⟨g, g1, g2⟩ := H
  exact ⟨g, e.trans g1, g2⟩
theorem c_step {F : Nat} (hF : 3000 ≤ F) {R : RT} (hR : ROK R) {v r lim n : Nat} (hl : lim ≤ 1000) (hvr : r + 7 ≤ v ∨ v + 86 ≤ r) (ih : ∀ m, n = m + 1 → CLev F R v r lim m) : CLev F R v r lim n := by
  intro K P i h a un T S V rf ⟨hS1, hS2, hS3, hS4⟩ h4 h5 ha har hI hp ho hn hrf
  obtain ⟨rf, rfl⟩ : ∃ k, rf = k + 1 := ⟨rf - 1, by omega⟩
  obtain ⟨m, K', P', hmm, hc⟩ := Cln_ex hR _ K P (Nat.le_refl _)
  obtain ⟨p1, p2, p3, p4⟩ := Cln_p hR hc hp
  have hm2 := mea_le K P
  obtain ⟨h1, T1, S1, e1, H1, HP1, hI1, f1⟩ := c_clos hR (show i < 38 by omega) hvr hF (f_Sol_countLevel F rf) m (F - m - 1) 0 h K P T S K' P' hS1 hS4 hS2 hI hc (by omega)
  rw [show F - m - 1 + m + 1 = F by omega] at e1
  have f1' : ∀ k, ¬ WS (v + 10 + 2 * i) (v + 1) k → h1.2 k = h.2 k := f1.2
  simp only [WS] at f1'
  have hSe1 : SEEN h1 v un := hS3.fr (f1' _ (by omega))
  have HR1 := hS4.fr f1 fun k hk z => by simp only [UR, WS] at hk z; omega
  rw [f_Sol_countLevel, b_Sol_countLevel_0, (hS1.lv (show i < 38 by omega)).1, bnd_s, (hS1.lv (show i < 38 by omega)).2, bnd_s, show f_Sol_countLevel_10 F (f_Sol_countLevel F rf) F v r (nI i) (v + 10 + 2 * i) (0 : Int32) h = _ from e1, b_Sol_countLevel_36, HP1.ck, bnd_s, p_isFinished HP1, bnd_s]
  cases hf : fin36 K' P'
  rotate_left
  · rw [if_neg (by decide), H1.ck, bnd_s]
    obtain ⟨h2, e2, H2, S2, f2⟩ := s_note H1 h5 HP1 hSe1 (by omega) (F := F) (by omega)
    obtain ⟨z1, z2⟩ := fin_sol hR p4 p1 hf
    have hNS : NS R K = 1 := by rw [← NS_congr p2, NS_1 hR z1 z2]
    obtain ⟨w1, w2⟩ := fin36_t.mp hf
    have hu : ∀ c, c < 36 → ∀ d, isD d = true → (K' c d = true ↔ fdg K' c = d) := fun c hc d hd => by
      have hsz : sz (K' c) = 1 := by
        have := (p1 c hc (w1 c hc)).1
        have := w2 c hc
        omega
      obtain ⟨e, _, _, z⟩ := sz_1.mp hsz
      have hx := z1.1 c hc
      constructor
      · intro y
        rw [z d hd y, z _ hx.1 hx.2]
      · intro y
        rw [← y]
        exact hx.2
    refine ⟨h2, _, _, by rw [e2, bnd_s], H2, fun k k5 k10 k11 => vu_n _ _ k5, S2, (f1.mo (WS.lg (by omega))).tr (f2.mo fun k hk => by simp only [LG]; omega), ?_, fun z c d hc hd => ?_⟩
    · rw [vu_s, hNS]
      congr 2
      omega
    · show (un c d || K' c d) = true ↔ _
      rw [Bool.or_eq_true, hu c hc d hd]
      constructor
      · rintro (y | y)
        · exact Or.inl y
        · exact Or.inr ⟨fdg K', (p2 _).mp z1, trivial, y⟩
      · rintro (y | ⟨f, y1, _, y3⟩)
        · exact Or.inl y
        · right
          rw [← z2 f ((p2 f).mpr y1) c hc]
          exact y3
  rw [if_pos (by rfl), bnd_s, p_isDead HP1, bnd_s]
  cases hd : dd K'
  rotate_left
  · rw [if_neg (by decide)]
    have hNS : NS R K = 0 := by rw [← NS_congr p2, NS_0 (dead_sol hd)]
    refine ⟨h1, V, un, rfl, H1, fun _ _ _ _ => rfl, hSe1, f1.mo (WS.lg (by omega)), ?_, fun z c d hc hd' => ?_⟩
    · rw [h5, hNS]
      congr 2
      omega
    · constructor
      · exact fun y => Or.inl y
      · rintro (y | ⟨f, y1, _⟩)
        · exact y
        · exact absurd ((p2 f).mpr y1) (dead_sol hd f)
  rw [if_pos (by rfl), nI_1, if_neg (show ¬ (38 : Int32) ≤ nI (i + 1) from nI_ge (a := i + 1) (b := 38) (by omega) (by omega)), H1.ck, bnd_s]
  obtain ⟨c0, hw⟩ := stk_few p4 hf hd
  obtain ⟨ar, har'⟩ := har
  obtain ⟨h2, V2, H2, hV2, F2, hbr⟩ := s_branch (R := R) H1 har' HP1 (by omega) ⟨c0, hw.1, hw.2.1⟩ p1 (NX0_no p4 hd).1 (F := F) (by omega)
  have hSe2 : SEEN h2 v un := hSe1.fr (F2.2 _ (by omega))
  have HP2 : PosAt h2 (v + 10 + 2 * i) K' P' T1 S1 := HP1.fr (F2.2 _ (by omega)) (F2.2 _ (by omega))
  have HR2 := HR1.fr F2 fun k hk z => by simp only [UR] at hk; omega
  have Fa : Fr (LG v i) h h2 := (f1.mo (WS.lg (by omega))).tr (F2.mo fun k hk => by simp only [LG]; omega)
  have hV25 : CS5 V V2 := fun k _ k10 k11 => hV2 k k10 k11
  rcases hbr with ⟨e2, hNS⟩ | ⟨e2, x, Sx, M, v10, hx, v11, hB, hsz⟩
  · rw [e2, bnd2_s, if_pos rfl]
    have hNS' : NS R K = 0 := by rw [← NS_congr p2, hNS]
    refine ⟨h2, V2, un, rfl, H2, hV25, hSe2, Fa, ?_, fun z c d hc hd' => ?_⟩
    · rw [hV2 5 (by omega) (by omega), h5, hNS']
      congr 2
      omega
    · constructor
      · exact fun y => Or.inl y
      · rintro (y | ⟨f, y1, _⟩)
        · exact y
        · exact absurd hNS' (NS_pos hR y1)
  rw [e2, bnd2_s, if_neg (by decide), ob_L H2.1 (by omega) v10, bnd_s, ob_I H2.1 (by omega) v11, bnd_s]
  have hopn : opn K' ≠ 0 := fun z => by
    have := of_decide_eq_false (cnt_0.mp z c0 hw.1)
    exact this hw.2.1
  have hop := opn_le p3
  obtain ⟨n', hn'⟩ : ∃ k, n = k + 1 := ⟨n - 1, by omega⟩
  have ih' := ih n' hn'
  obtain ⟨s, ⟨j0, V3, un3, i1, i2, i3, i4⟩, e3⟩ := LC (fun n'' d s => f_Sol_countLevel_88 F (f_Sol_countLevel F rf) n'' v r (nI i) (v + 10 + 2 * i) x (nI (mkd M)) (nI d) s)
    (fun d s => 1 ≤ d ∧ ∃ V' un', StL s v i V' K' P' T1 S1 un' r R ∧ CS5 V V' ∧ Fr (LG v i) h s ∧ CT R K' lim a un (smN (fun d' => zsm R K' Sx M d' fun _ => true) d) (fun f => ∃ c, c < 36 ∧ Sx c = true ∧ M (f c) = true ∧ f c < d) V' un') 7
    (fun n'' d s hd7 ⟨j0, V', un', i1, i2, i3, i4⟩ => by
      have hD := isD_i j0 hd7
      show ∃ s', _ ∧ f_Sol_countLevel_88 F (f_Sol_countLevel F rf) (n'' + 1) v r (nI i) (v + 10 + 2 * i) x (nI (mkd M)) (nI d) s = _
      rw [f_Sol_countLevel_88, b_Sol_countLevel_88, if_neg (show ¬ (6 : Int32) < nI d from nI_nlt (a := 6) (b := (d)) (by omega) (by omega))]
      cases hM : M d
      · rw [if_pos ((mkd_bit M hD).mpr hM), b_Sol_countLevel_119, show f_Lng_bitCount (0 : Int64) = some (nI 0) from (CS.no.cnt).trans (by rw [cnt_0.mpr fun _ _ => rfl]), bnd_s]
        obtain ⟨m, hmF⟩ : ∃ m, F = m + 1 := ⟨F - 1, by omega⟩
        have e128 : ∀ k, f_Sol_countLevel_128 F (f_Sol_countLevel F rf) (f_Sol_countLevel_88 F (f_Sol_countLevel F rf) n'') (k + 1) v r (nI i) (v + 10 + 2 * i) x (nI (mkd M)) (nI d) 0 (nI 0) s = f_Sol_countLevel_88 F (f_Sol_countLevel F rf) n'' v r (nI i) (v + 10 + 2 * i) x (nI (mkd M)) (nI (d + 1)) s := by
          intro k
          rw [f_Sol_countLevel_128, b_Sol_countLevel_128, if_pos (show nI 0 ≤ (0 : Int32) by decide), b_Sol_countLevel_198, nI_1]
        have e128' := e128 m
        rw [← hmF] at e128'
        refine ⟨s, ⟨by omega, V', un', i1, i2, i3, ?_⟩, e128'⟩
        have hz : zsm R K' Sx M d (fun _ => true) = 0 := by
          unfold zsm
          rw [smN_ext (g := fun _ => 0) fun c _ => by simp [hM], smN_z]
        have hA : smN (fun d' => zsm R K' Sx M d' fun _ => true) (d + 1) = smN (fun d' => zsm R K' Sx M d' fun _ => true) d := by
          show _ + zsm R K' Sx M d (fun _ => true) = _
          rw [hz, Nat.add_zero]
        rw [hA]
        refine i4.g fun f _ => ⟨fun ⟨c, y1, y2, y3, y4⟩ => ⟨c, y1, y2, y3, by omega⟩, fun ⟨c, y1, y2, y3, y4⟩ => ⟨c, y1, y2, y3, ?_⟩⟩
        by_cases q : f c = d
        · rw [q, hM] at y3; cases y3
        · omega
      · rw [if_neg (fun z => by have := (mkd_bit M hD).mp z; rw [hM] at this; cases this)]
        obtain ⟨t1, t2, t3, t4⟩ := i1
        have t2' := t2
        obtain ⟨W, sp, pl, to, st, c0', c1', c2', c3', c4', c5', c6', _⟩ := t2'
        have hq : CS (x &&& sp d) fun c => Sx c && K' c d := hx.and (c6' d hD)
        rw [ob_R c0' (by omega) c1', bnd_s, ar_L c5' hd7 (by omega), bnd_s, b_Sol_countLevel_119, hq.cnt, bnd_s]
        have hz : zsm R K' Sx M d (fun c => !(Sx c && K' c d)) = 0 := by
          unfold zsm
          rw [smN_ext (g := fun _ => 0) fun c _ => ?_, smN_z]
          show (if (isD d && M d && (Sx c && K' c d) && !(Sx c && K' c d)) = true then NS R (kpO K' c d) else 0) = 0
          cases Sx c && K' c d <;> simp
        have hcn : cnt (fun c => Sx c && K' c d) 36 ≤ 36 := by have := cnt_neg (fun c => Sx c && K' c d) 36; omega
        obtain ⟨s', V4, un4, u1, u2, u3, u4, u5⟩ := c_cells hF hR (n := n') hl hvr ih' (i := i) (rf := rf) (by omega) (by omega) (P := P') (T := T1) (S := S1) hI1 p1 (by omega) (Sx := Sx) (M := M) hD hM (fun c hc hs hk => hsz c hc hs d hD hM hk) (h0 := h) (V0 := V) h4 ⟨ar, har'⟩ (a := a) (A := smN (fun d' => zsm R K' Sx M d' fun _ => true) d) (un := un) (G := fun f => ∃ c, c < 36 ∧ Sx c = true ∧ M (f c) = true ∧ f c < d) (f_Sol_countLevel_88 F (f_Sol_countLevel F rf) n'') x (nI (mkd M)) _ F s V' un' (fun c => Sx c && K' c d) (x &&& sp d) rfl (by omega) (fun c _ z => by rw [Bool.and_eq_true] at z; exact z) hq ⟨t1, t2, t3, t4⟩ i2 i3 (by
            rw [hz, Nat.add_zero]
            refine i4.g fun f hfs => ⟨fun y => Or.inl y, ?_⟩
            rintro (y | ⟨c, y1, y2, y3, y4⟩)
            · exact y
            · exfalso
              have := (hfs.1 c y1).2
              rw [y3] at this
              rw [y2, this] at y4
              cases y4)
        refine ⟨s', ⟨by omega, V4, un4, u2, u3, u4, ?_⟩, u1⟩
        refine u5.g fun f _ => ⟨?_, fun ⟨c, y1, y2, y3, y4⟩ => ?_⟩
        · rintro (⟨c, y1, y2, y3, y4⟩ | ⟨c, y1, y2, y3⟩)
          · exact ⟨c, y1, y2, y3, by omega⟩
          · exact ⟨c, y1, y2, by rw [y3]; exact hM, by omega⟩
        · by_cases q : f c = d
          · exact Or.inr ⟨c, y1, y2, q⟩
          · exact Or.inl ⟨c, y1, y2, y3, by omega⟩) 6 1 h2 F rfl (by omega) ⟨Nat.le_refl 1, V2, un, ⟨H2, HP2, hSe2, HR2⟩, hV25, Fa, by
        have hz : zsm R K' Sx M 0 (fun _ => true) = 0 := by
          unfold zsm
          rw [smN_ext (g := fun _ => 0) fun c _ => by simp [isD], smN_z]
        show CT R K' lim a un (0 + zsm R K' Sx M 0 fun _ => true) _ V2 un
        rw [hz]
        refine ⟨?_, fun z c d hc hd' => ⟨fun y => Or.inl y, ?_⟩⟩
        · rw [hV2 5 (by omega) (by omega), h5]
          congr 2
          omega
        · rintro (y | ⟨f, y1, ⟨b, b1, _, _, b4⟩, _⟩)
          · exact y
          · have := isD_b (y1.1 b b1).1
            omega⟩
  obtain ⟨m, hmF⟩ : ∃ m, F - 6 = m + 1 := ⟨F - 7, by omega⟩
  refine ⟨s, V3, un3, ?_, i1.1, i2, i1.2.2.1, i3, ?_⟩
  · refine Eq.trans e3 ?_
    show f_Sol_countLevel_88 F (f_Sol_countLevel F rf) (F - 6) v r (nI i) (v + 10 + 2 * i) x (nI (mkd M)) (nI 7) s = _
    rw [hmF, f_Sol_countLevel_88, b_Sol_countLevel_88, if_pos (show (6 : Int32) < nI 7 from nI_lt (a := 6) (b := 7) (by omega) (by omega))]
  · have hA : smN (fun d' => zsm R K' Sx M d' fun _ => true) 7 = NS R K := by
      rw [← NS_congr p2, NS_bra hR hB]
      unfold bsum zsm
      exact smN_ext fun d _ => smN_ext fun c _ => by simp
    refine (i4.g (G' := fun _ => True) fun f hfs => ⟨fun _ => trivial, fun _ => ?_⟩).k p2 hA
    obtain ⟨c, y1, y2, y3, _⟩ := hB f hfs
    exact ⟨c, y1, y2, y3, (isD_b (hfs.1 c y1).1).2⟩
theorem c_lev {F : Nat} (hF : 3000 ≤ F) {R : RT} (hR : ROK R) {v r lim : Nat} (hl : lim ≤ 1000) (hvr : r + 7 ≤ v ∨ v + 86 ≤ r) : ∀ n, CLev F R v r lim n := by
  intro n
  induction n with
  | zero => exact c_step hF hR hl hvr fun m h => by omega
  | succ n ih =>
    refine c_step hF hR hl hvr fun m h => ?_
    have : m = n := by omega
    subst this
    exact ih
