/-! The reference's search: a solution, a node, the next guess. -/
theorem SO.x {h : PH} {mo : Nat} {R : RT} {s : RS} {st : List EN} {K K' : Nat → Nat → Bool} {P P' : Nat → Bool} (H : SO h mo R s st K P) (eK : ∀ c, c < 36 → ∀ d, isD d = true → K c d = K' c d) (eP : ∀ c, c < 36 → P c = P' c) : SO h mo R s st K' P' := by
  obtain ⟨V, g, u, w, wc, ws, a0, r⟩ := H
  exact ⟨V, g, u, w, wc, ws, a0.x eK eP, r⟩
theorem m_note {h : PH} {mo : Nat} {R : RT} {s : RS} {st : List EN} {K : Nat → Nat → Bool} {P : Nat → Bool} (H : SO h mo R s st K P) (hs : ∀ c, c < 36 → sz (K c) = 1) (hc : s.1 < 1000) {F : Nat} (hF : 40 ≤ F) :
    ∃ h', f_Mo_notesSolution F mo h = some h' ∧ SO h' mo R (rno s (fdg K)) st K P ∧ SFm mo h h' := by
  obtain ⟨V, g, u, w, wc, ws, a0, a1, a2, a3, ⟨a4, a5⟩, ⟨a6, a7⟩, a8, a9, a10, a11⟩ := H
  have hsz : ∀ c, c < 36 → sz (K c) ≠ 0 := fun c q => by rw [hs c q]; omega
  have hx : ∀ c, c < 36 → isD (fdg K c) = true ∧ K c (fdg K c) = true := fun c q => by
    obtain ⟨x1, x2, _⟩ := lod_x (hsz c q)
    exact ⟨x1, x2⟩
  have hu : ∀ c, c < 36 → ∀ d, isD d = true → K c d = decide (d = fdg K c) := fun c q d hd => by
    obtain ⟨e, _, _, z⟩ := sz_1.mp (hs c q)
    apply bool_i
    rw [decide_eq_true_iff]
    constructor
    · intro y
      rw [z d hd y, z _ (hx c q).1 (hx c q).2]
    · intro y
      rw [y]
      exact (hx c q).2
  have key : ∀ (V1 : Nat → Value) (h1 : PH) (fg : Nat), SFm mo h h1 → (∀ k, k ≠ mo → h1.2 k = h.2 k) → h1.2 mo = obj 10 28 V1 → MV mo V1 → V1 17 = .int (nI (s.1 + 1)) → V1 18 = .int (nI s.2.1) → V1 19 = .int (nI fg) → (fg = if s.1 = 0 then s.2.1 else s.2.2.1) → ∃ h', f_Mo_notesSolution_35 F F mo 0 h1 = some h' ∧ SO h' mo R (rno s (fdg K)) st K P ∧ SFm mo h h' := by
    intro V1 h1 fg f1 fr e0 hV v17 v18 v19 hfg
    have hM1 : MN h1 mo (mo + 6) V1 R K P := a0.fr e0 hV (fr _ (by omega)) (fr _ (by omega)) (fr _ (by omega)) (fr _ (by omega))
    obtain ⟨s', ⟨g', u', b1, b2, b3, b4, b5⟩, h2⟩ := LC (fun n i s => f_Mo_notesSolution_35 F n mo (nI i) s) (fun i s' => ∃ g' u', s'.2 (mo + 10) = oI 36 g' ∧ s'.2 (mo + 11) = oI 36 u' ∧ Fr (fun k => k = mo + 10 ∨ k = mo + 11) h1 s' ∧ (∀ c, c < 36 → g' c = if c < i then (if s.1 = 0 then nI (fdg K c) else g c) else g c) ∧ ∀ c, c < 36 → u' c = if c < i then nI (mkd fun d => s.2.2.2.2 c d || K c d) else u c) 36
      (fun n i s' hi ⟨g', u', b1, b2, b3, b4, b5⟩ => by
        have b0 : s'.2 mo = obj 10 28 V1 := (b3.2 mo (by omega)).trans e0
        have hM : MN s' mo (mo + 6) V1 R K P := hM1.fr b0 hV (b3.2 _ (by omega)) (b3.2 _ (by omega)) (b3.2 _ (by omega)) (b3.2 _ (by omega))
        have r15 : gR s' mo 10 15 = some (mo + 10) := ob_R b0 (by omega) hV.2.2.2.2.2.2.2.2.2.1
        have i17 : gI s' mo 10 17 = some (nI (s.1 + 1)) := ob_I b0 (by omega) v17
        have r11 : gR s' mo 10 11 = some (mo + 6) := ob_R b0 (by omega) hV.2.2.2.2.2.1
        have r15' : ∀ x, gR (hset s' (mo + 10) (oI 36 x)) mo 10 16 = some (mo + 11) := fun x => ob_R ((hset_n _ _ (by omega)).trans b0) (by omega) hV.2.2.2.2.2.2.2.2.2.2.1
        have r11' : ∀ x, gR (hset s' (mo + 10) (oI 36 x)) mo 10 11 = some (mo + 6) := fun x => ob_R ((hset_n _ _ (by omega)).trans b0) (by omega) hV.2.2.2.2.2.1
        have h72 : ∀ v : Int32, v = (if s.1 = 0 then nI (fdg K i) else g i) → ∃ s2 : PH, (∃ g' u', s2.2 (mo + 10) = oI 36 g' ∧ s2.2 (mo + 11) = oI 36 u' ∧ Fr (fun k => k = mo + 10 ∨ k = mo + 11) h1 s2 ∧ (∀ c, c < 36 → g' c = if c < i + 1 then (if s.1 = 0 then nI (fdg K c) else g c) else g c) ∧ ∀ c, c < 36 → u' c = if c < i + 1 then nI (mkd fun d => s.2.2.2.2 c d || K c d) else u c) ∧ b_Mo_notesSolution_72 F (f_Mo_notesSolution_35 F n) mo (nI i) v (nI i) (mo + 10) s' = f_Mo_notesSolution_35 F n mo (nI (i + 1)) s2 := by
          intro v hv
          have hM2 : MN (hset s' (mo + 10) (oI 36 (upd g' i v))) mo (mo + 6) V1 R K P := hM.fr ((hset_n _ _ (by omega)).trans b0) hV (hset_n _ _ (by omega)) (hset_n _ _ (by omega)) (hset_n _ _ (by omega)) (hset_n _ _ (by omega))
          have e11 : (hset s' (mo + 10) (oI 36 (upd g' i v))).2 (mo + 11) = oI 36 u' := (hset_n _ _ (by omega)).trans b2
          refine ⟨hset (hset s' (mo + 10) (oI 36 (upd g' i v))) (mo + 11) (oI 36 (upd u' i (nI (mkd (s.2.2.2.2 i)) ||| nI (mkd (K i))))), ⟨_, _, (hset_n _ _ (by omega)).trans (hset_s _ _ _), hset_s _ _ _, (b3.st (S := fun k => k = mo + 10 ∨ k = mo + 11) _ (Or.inl rfl)).st (S := fun k => k = mo + 10 ∨ k = mo + 11) _ (Or.inr rfl), fun c hc => ?_, fun c hc => ?_⟩, ?_⟩
          · by_cases q : c = i
            · subst q; rw [pk_us, if_pos (by omega), hv]
            · rw [pk_un q, b4 c hc]
              by_cases z : c < i
              · rw [if_pos z, if_pos (show c < i + 1 by omega)]
              · rw [if_neg z, if_neg (by omega)]
          · by_cases q : c = i
            · subst q; rw [pk_us, if_pos (by omega), mkd_or]
            · rw [pk_un q, b5 c hc]
              by_cases z : c < i
              · rw [if_pos z, if_pos (show c < i + 1 by omega)]
              · rw [if_neg z, if_neg (by omega)]
          · rw [b_Mo_notesSolution_72, ar_sI _ b1 hi (by omega), bnd_s, r15', bnd_s, ar_I e11 hi (by omega), bnd_s, b5 i hi, if_neg (by omega), a7 i hi, r11', bnd_s, (hM2.g hi).1, bnd_s, ar_sI _ e11 hi (by omega), bnd_s, nI_1]
        show ∃ s2, _ ∧ f_Mo_notesSolution_35 F (n + 1) mo (nI i) s' = _
        rw [f_Mo_notesSolution_35, b_Mo_notesSolution_35, if_neg (show ¬ (36 : Int32) ≤ nI i from nI_ge (a := (i)) (b := 36) (by omega) (by omega)), r15, bnd_s, i17, bnd_s]
        by_cases q : s.1 = 0
        · obtain ⟨s2, z1, z2⟩ := h72 (nI (fdg K i)) (by rw [if_pos q])
          refine ⟨s2, z1, ?_⟩
          rw [q, if_pos (show nI (0 + 1) = (1 : Int32) from rfl), r11, bnd_s, (hM.g hi).1, bnd_s, m_least _ hF, bnd_s]
          exact z2
        · obtain ⟨s2, z1, z2⟩ := h72 (g' i) (by rw [b4 i hi, if_neg (by omega), if_neg q])
          refine ⟨s2, z1, ?_⟩
          rw [if_neg (show ¬ nI (s.1 + 1) = (1 : Int32) from fun z => q (by have := (nI_eq (a := s.1 + 1) (b := 1) (by omega) (by omega)).mp z; omega)), bnd_s, ar_I b1 hi (by omega), bnd_s]
          exact z2) 36 0 h1 F rfl (by omega) ⟨g, u, (fr _ (by omega)).trans a4, (fr _ (by omega)).trans a6, Fr.rf _ _, fun c _ => by rw [if_neg (by omega)], fun c _ => by rw [if_neg (by omega)]⟩
    obtain ⟨m, hm⟩ : ∃ m, F - 36 = m + 1 := ⟨F - 37, by omega⟩
    have b0 : s'.2 mo = obj 10 28 V1 := (b3.2 mo (by omega)).trans e0
    have fr2 : ∀ k, k ≠ mo → k ≠ mo + 10 → k ≠ mo + 11 → s'.2 k = h.2 k := fun k q1 q2 q3 => (b3.2 k (by omega)).trans (fr k q1)
    refine ⟨s', ?_, ⟨V1, g', u', w, wc, ws, hM1.fr b0 hV (b3.2 _ (by omega)) (b3.2 _ (by omega)) (b3.2 _ (by omega)) (b3.2 _ (by omega)), v17, v18, fun _ => by rw [v19, hfg]; rfl, ⟨b1, fun _ c hc => ?_⟩, ⟨b2, fun c hc => ?_⟩, (fr2 _ (by omega) (by omega) (by omega)).trans a8, (fr2 _ (by omega) (by omega) (by omega)).trans a9, (fr2 _ (by omega) (by omega) (by omega)).trans a10, a11⟩, f1.tr (b3.sfm fun k hk => by omega)⟩
    · refine Eq.trans h2 ?_
      show f_Mo_notesSolution_35 F (F - 36) mo (nI 36) s' = _
      rw [hm, f_Mo_notesSolution_35, b_Mo_notesSolution_35, if_pos (show (36 : Int32) ≤ nI 36 from nI_le (a := 36) (b := 36) (by omega) (by omega))]
    · rw [b4 c hc, if_pos hc]
      show _ = nI ((if s.1 = 0 then fdg K else s.2.2.2.1) c)
      by_cases q : s.1 = 0
      · rw [if_pos q, if_pos q]
      · rw [if_neg q, if_neg q, a5 q c hc]
    · rw [b5 c hc, if_pos hc]
      congr 1
      apply mkd_ext
      intro d hd
      show _ = (s.2.2.2.2 c d || decide (d = fdg K c))
      rw [hu c hc d hd]
  unfold f_Mo_notesSolution
  rw [ob_I a0.1 (by omega) a1, bnd_s, ob_P _ a0.1 (by omega), bnd_s, show nI s.1 + (1 : Int32) = nI (s.1 + 1) from nI_add _ 1]
  have e0 : (hset h mo (obj 10 28 (updV V 17 (.int (nI (s.1 + 1)))))).2 mo = obj 10 28 (updV V 17 (.int (nI (s.1 + 1)))) := hset_s _ _ _
  rw [ob_I e0 (by omega) (vu_s _ _ _), bnd_s]
  have fin : ∀ fg : Nat, (fg = if s.1 = 0 then s.2.1 else s.2.2.1) → ∃ h', b_Mo_notesSolution_30 F mo (nI fg) mo (hset h mo (obj 10 28 (updV V 17 (.int (nI (s.1 + 1)))))) = some h' ∧ SO h' mo R (rno s (fdg K)) st K P ∧ SFm mo h h' := by
    intro fg hfg
    rw [b_Mo_notesSolution_30, ob_P _ e0 (by omega), bnd_s]
    refine key _ _ fg ((sf_f a0.1 _ (by omega)).tr (sf_f e0 _ (by omega))) (fun k q => (hset_n _ _ q).trans (hset_n _ _ q)) (hset_s _ _ _) ((a0.2.1.up _ rfl).up _ rfl) ?_ ?_ (vu_s _ _ _) hfg
    · exact (vu_n _ _ (by omega)).trans (vu_s _ _ _)
    · exact (vu_n _ _ (by omega)).trans ((vu_n _ _ (by omega)).trans a2)
  by_cases q : s.1 = 0
  · rw [if_pos (show nI (s.1 + 1) = (1 : Int32) from congrArg nI (show s.1 + 1 = 1 by omega)), ob_I e0 (by omega) ((vu_n _ _ (by omega)).trans a2), bnd_s]
    exact fin s.2.1 (by rw [if_pos q])
  · rw [if_neg (show ¬ nI (s.1 + 1) = (1 : Int32) from fun z => q (by have := (nI_eq (a := s.1 + 1) (b := 1) (by omega) (by omega)).mp z; omega)), ob_I e0 (by omega) ((vu_n _ _ (by omega)).trans (a3 q)), bnd_s]
    exact fin s.2.2.1 (by rw [if_neg q])
