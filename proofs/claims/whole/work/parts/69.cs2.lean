/-! The class's search: a level. -/
/-- what a level may change -/
def LF (v i : Nat) : Nat → Prop := fun k => k = v ∨ (v + 1 ≤ k ∧ k < v + 5) ∨ (v + 7 ≤ k ∧ k < v + 10) ∨ (v + 10 + 2 * i ≤ k ∧ k < v + 86)
theorem LF.mo {v i j : Nat} (h : i ≤ j) : ∀ k, LF v j k → LF v i k := fun k hk => by
  simp only [LF] at hk ⊢
  omega
theorem SolSh.nx {h h' : PH} {v i : Nat} {V : Nat → Value} (H : SolSh h v V) (hi : i < 38) (f : Fr (WS (v + 10 + 2 * i) (v + 1)) h h') (hr : ReaOK h' (v + 1)) (hp : PosSh h' (v + 10 + 2 * i)) : SolSh h' v V := by
  obtain ⟨a0, a1, a2, ⟨f1, a3, a4⟩, ⟨g1, a5⟩, a6, ⟨g2, a7, a8⟩, a9⟩ := H
  have e : ∀ k, ¬ WS (v + 10 + 2 * i) (v + 1) k → h'.2 k = h.2 k := f.2
  simp only [WS] at e
  refine ⟨(e _ (by omega)).trans a0, a1, hr, ⟨f1, (e _ (by omega)).trans a3, a4⟩, ⟨g1, (e _ (by omega)).trans a5⟩, a6.fr (e _ (by omega)) (e _ (by omega)), ⟨g2, (e _ (by omega)).trans a7, a8⟩, fun j hj => ?_⟩
  by_cases q : j = i
  · subst q; exact hp
  · exact (a9 j hj).fr (e _ (by omega)) (e _ (by omega))
theorem WS.lf {v i : Nat} (hi : i < 38) : ∀ k, WS (v + 10 + 2 * i) (v + 1) k → LF v i k := fun k hk => by
  simp only [WS, LF] at hk ⊢
  omega
theorem s_clos {v r i : Nat} {R : RT} (hR : ROK R) (hi : i < 38) (hvr : r + 7 ≤ v ∨ v + 86 ≤ r) {F : Nat} (hF : 3000 ≤ F) (kr : Nat → Nat → Int32 → PH → Option (Int32 × PH)) {V : Nat → Value} : ∀ m n t h K P T S K' P', SolSh h v V → RulAt h r R → PosAt h (v + 10 + 2 * i) K P T S → INV R K T S → Cln R m K P K' P' → t + m < 500 →
    ∃ h' T' S', f_Sol_solveLevel_10 F kr (n + m + 1) v r (nI i) (v + 10 + 2 * i) (nI t) h = b_Sol_solveLevel_36 F kr v r (nI i) (v + 10 + 2 * i) h' ∧ SolSh h' v V ∧ PosAt h' (v + 10 + 2 * i) K' P' T' S' ∧ INV R K' T' S' ∧ Fr (WS (v + 10 + 2 * i) (v + 1)) h h' := by
  intro m
  induction m with
  | zero =>
    rintro n t h K P T S K' P' H HR HP hI ⟨e1, e2, hx⟩ ht
    subst e1 e2
    obtain ⟨kd, pl, K1, P1, h1, T1, S1, V1, rm, g1, g2, g3, g4, g5, g6, _, _, _, _, g7, g8⟩ := r_next HP HR hR hI H.2.2.1 (by omega) (by omega) (by omega) (F := F) (by omega)
    obtain ⟨u1, u2, u3, u4⟩ := NX_u g1 hx
    subst u1 u3 u4
    refine ⟨h1, T1, S1, ?_, H.nx hi g8 ⟨V1, g5, g6, g7⟩ g3.sh, g3, g4, g8⟩
    rw [f_Sol_solveLevel_10, b_Sol_solveLevel_10, if_neg (show ¬ (500 : Int32) ≤ nI t from nI_ge (a := (t)) (b := 500) (by omega) (by omega)), ob_R H.1 (by omega) H.2.1.1, bnd_s, (show cK h (v + 1) 3 = some () by obtain ⟨V2, z, _⟩ := H.2.2.1; exact ob_K z), bnd_s, g2, bnd2_s, if_pos (show nI 0 = (0 : Int32) from rfl)]
  | succ m ih =>
    rintro n t h K P T S K' P' H HR HP hI ⟨kd, pl, K1, P1, hk, hx, hc⟩ ht
    obtain ⟨kd', pl', K2, P2, h1, T1, S1, V1, rm, g1, g2, g3, g4, g5, g6, _, _, _, _, g7, g8⟩ := r_next HP HR hR hI H.2.2.1 (by omega) (by omega) (by omega) (F := F) (by omega)
    obtain ⟨u1, u2, u3, u4⟩ := NX_u g1 hx
    subst u1 u3 u4
    have hk7 : kd' < 8 := by
      rcases hx with ⟨e, _⟩ | ⟨_, z⟩
      · omega
      rcases z with ⟨e, _⟩ | ⟨_, _, z⟩
      · omega
      rcases z with ⟨e, _⟩ | ⟨_, z⟩
      · omega
      rcases z with ⟨e, _⟩ | ⟨_, z⟩
      · omega
      rcases z with ⟨e, _⟩ | ⟨_, z⟩
      · omega
      rcases z with ⟨e, _⟩ | ⟨_, z⟩
      · omega
      rcases z with ⟨e, _⟩ | ⟨_, e, _⟩
      · omega
      · omega
    obtain ⟨h2, T2, S2, z1, z2, z3, z4, z5⟩ := ih n (t + 1) h1 _ _ T1 S1 K' P' (H.nx hi g8 ⟨V1, g5, g6, g7⟩ g3.sh) (HR.fr g8 fun k hk z => by simp only [UR, WS] at hk z; omega) g3 g4 hc (by omega)
    refine ⟨h2, T2, S2, ?_, z2, z3, z4, g8.tr z5⟩
    rw [show n + (m + 1) + 1 = (n + m + 1) + 1 by omega, f_Sol_solveLevel_10, b_Sol_solveLevel_10, if_neg (show ¬ (500 : Int32) ≤ nI t from nI_ge (a := (t)) (b := 500) (by omega) (by omega)), ob_R H.1 (by omega) H.2.1.1, bnd_s, (show cK h (v + 1) 3 = some () by obtain ⟨V2, z, _⟩ := H.2.2.1; exact ob_K z), bnd_s, g2, bnd2_s, if_neg (show ¬ nI kd' = (0 : Int32) from fun z => hk ((nI_eq (a := kd') (b := 0) (by omega) (by omega)).mp z)), nI_1]
    exact z1
theorem cat6_sp {p : Nat → Bool} {L : Nat → EL} {j : Nat} (hj : isD j = true) (hp : p j = true) : ∀ k, ∃ tl, cat6 p L (j + 1 + k) = cat6 p L j ++ (none :: (L j ++ tl)) := by
  intro k
  induction k with
  | zero =>
    refine ⟨[], ?_⟩
    show cat6 p L j ++ (if isD j && p j then none :: L j else []) = _
    rw [hj, hp, List.append_nil]
    rfl
  | succ k ih =>
    obtain ⟨tl, h⟩ := ih
    refine ⟨tl ++ (if isD (j + 1 + k) && p (j + 1 + k) then none :: L (j + 1 + k) else []), ?_⟩
    show cat6 p L (j + 1 + k) ++ _ = _
    rw [h, List.append_assoc, List.cons_append, List.append_assoc]
    rfl
/-- what a level answers -/
def LA (h' : PH) (v : Nat) (V' : Nat → Value) (g : Nat) (L : EL) : Prop := match ffst L with
  | none => V' 7 = .int (nI (g + ngu L))
  | some x => V' 7 = .int (nI (g + x.1)) ∧ ∃ K' P' T' S', PosAt h' (v + 7) K' P' T' S' ∧ fdg K' = x.2 ∧ ∀ c, c < 36 → sz (K' c) = 1
theorem s_lev {v r : Nat} {R : RT} (hR : ROK R) (hvr : r + 7 ≤ v ∨ v + 86 ≤ r) {F : Nat} (hF : 3000 ≤ F) : ∀ n K P L i h g T S V rf, RulAt h r R → SolSh h v V → V 7 = .int (nI g) → PosAt h (v + 10 + 2 * i) K P T S → INV R K T S → PI K P → Ev R n K P L → n + i ≤ 36 → n + 1 ≤ rf →
    ∃ h' V', f_Sol_solveLevel F rf v r (nI i) h = some (if (ffst L).isSome then 1 else 0, h') ∧ SolSh h' v V' ∧ (∀ k, k ≠ 7 → V' k = V k) ∧ Fr (LF v i) h h' ∧ LA h' v V' g L := by
  intro n
  induction n with
  | zero =>
    intro K P L i h g T S V rf HR H hg HP hI hp hE hn hrf
    obtain ⟨rf, rfl⟩ : ∃ k, rf = k + 1 := ⟨rf - 1, by omega⟩
    obtain ⟨m, K', P', hc, hcase⟩ := hE
    obtain ⟨p1, p2, p3, p4⟩ := Cln_p hR hc hp
    have hm := Cln_m hc
    have hm2 := mea_le K P
    obtain ⟨h1, T1, S1, e1, H1, HP1, hI1, f1⟩ := s_clos hR (show i < 38 by omega) hvr hF (f_Sol_solveLevel F rf) m (F - m - 1) 0 h K P T S K' P' H HR HP hI hc (by omega)
    rw [show F - m - 1 + m + 1 = F by omega] at e1
    rw [f_Sol_solveLevel, b_Sol_solveLevel_0, (H.lv (show i < 38 by omega)).1, bnd_s, (H.lv (show i < 38 by omega)).2, bnd_s, show f_Sol_solveLevel_10 F (f_Sol_solveLevel F rf) F v r (nI i) (v + 10 + 2 * i) (0 : Int32) h = _ from e1, b_Sol_solveLevel_36, HP1.ck, bnd_s, p_isFinished HP1, bnd_s]
    rcases hcase with ⟨hf, hL⟩ | ⟨hf, hd, hL⟩
    · obtain ⟨h2, e2, HP2, f2⟩ := p_copyFrom HP1 (p := v + 7) H1.2.2.2.2.2.1 (by omega)
      rw [hf, if_neg (by decide), ob_R H1.1 (by omega) H1.2.1.2.2.2.1, bnd_s, (show cK h1 (v + 7) 1 = some () by obtain ⟨V2, sp, z, _⟩ := H1.2.2.2.2.2.1; exact ob_K z), bnd_s, e2, bnd_s]
      have hL' : ffst L = some (0, fdg K') := by rw [hL]; rfl
      refine ⟨h2, V, by rw [hL']; rfl, ?_, fun _ _ => rfl, (f1.mo (WS.lf (by omega))).tr (f2.mo fun k hk => by simp only [PS, LF] at hk ⊢; omega), ?_⟩
      · obtain ⟨a0, a1, a2, ⟨x1, a3, a4⟩, ⟨y1, a5⟩, a6, ⟨y2, a7, a8⟩, a9⟩ := H1
        have e : ∀ k, ¬ PS (v + 7) k → h2.2 k = h1.2 k := f2.2
        simp only [PS] at e
        exact ⟨(e _ (by omega)).trans a0, a1, a2.fr fun j hj => e _ (by omega), ⟨x1, (e _ (by omega)).trans a3, a4⟩, ⟨y1, (e _ (by omega)).trans a5⟩, HP2.sh, ⟨y2, (e _ (by omega)).trans a7, a8⟩, fun j hj => (a9 j hj).fr (e _ (by omega)) (e _ (by omega))⟩
      · unfold LA
        rw [hL']
        refine ⟨hg, K', P', T1, S1, HP2, rfl, fun c hc => ?_⟩
        obtain ⟨z1, z2⟩ := fin36_t.mp hf
        have := (p1 c hc (z1 c hc)).1
        have := z2 c hc
        omega
    · rw [hf, if_pos (by rfl), bnd_s, p_isDead HP1, hd, bnd_s, if_neg (by decide)]
      refine ⟨h1, V, by rw [hL]; rfl, H1, fun _ _ => rfl, f1.mo (WS.lf (by omega)), ?_⟩
      unfold LA
      rw [hL]
      exact hg
  | succ n ih =>
    intro K P L i h g T S V rf HR H hg HP hI hp hE hn hrf
    obtain ⟨rf, rfl⟩ : ∃ k, rf = k + 1 := ⟨rf - 1, by omega⟩
    obtain ⟨m, K', P', hc, hcase⟩ := hE
    obtain ⟨p1, p2, p3, p4⟩ := Cln_p hR hc hp
    have hm := Cln_m hc
    have hm2 := mea_le K P
    obtain ⟨h1, T1, S1, e1, H1, HP1, hI1, f1⟩ := s_clos hR (show i < 38 by omega) hvr hF (f_Sol_solveLevel F rf) m (F - m - 1) 0 h K P T S K' P' H HR HP hI hc (by omega)
    rw [show F - m - 1 + m + 1 = F by omega] at e1
    have HR1 := HR.fr f1 fun k hk z => by simp only [UR, WS] at hk z; omega
    rw [f_Sol_solveLevel, b_Sol_solveLevel_0, (H.lv (show i < 38 by omega)).1, bnd_s, (H.lv (show i < 38 by omega)).2, bnd_s, show f_Sol_solveLevel_10 F (f_Sol_solveLevel F rf) F v r (nI i) (v + 10 + 2 * i) (0 : Int32) h = _ from e1, b_Sol_solveLevel_36, HP1.ck, bnd_s, p_isFinished HP1, bnd_s]
    rcases hcase with ⟨hf, hL⟩ | ⟨hf, hd, hL⟩ | ⟨hf, hd, c, Ls, hw, hEs, hL⟩
    · obtain ⟨h2, e2, HP2, f2⟩ := p_copyFrom HP1 (p := v + 7) H1.2.2.2.2.2.1 (by omega)
      rw [hf, if_neg (by decide), ob_R H1.1 (by omega) H1.2.1.2.2.2.1, bnd_s, (show cK h1 (v + 7) 1 = some () by obtain ⟨V2, sp, z, _⟩ := H1.2.2.2.2.2.1; exact ob_K z), bnd_s, e2, bnd_s]
      have hL' : ffst L = some (0, fdg K') := by rw [hL]; rfl
      refine ⟨h2, V, by rw [hL']; rfl, ?_, fun _ _ => rfl, (f1.mo (WS.lf (by omega))).tr (f2.mo fun k hk => by simp only [PS, LF] at hk ⊢; omega), ?_⟩
      · obtain ⟨a0, a1, a2, ⟨x1, a3, a4⟩, ⟨y1, a5⟩, a6, ⟨y2, a7, a8⟩, a9⟩ := H1
        have e : ∀ k, ¬ PS (v + 7) k → h2.2 k = h1.2 k := f2.2
        simp only [PS] at e
        exact ⟨(e _ (by omega)).trans a0, a1, a2.fr fun j hj => e _ (by omega), ⟨x1, (e _ (by omega)).trans a3, a4⟩, ⟨y1, (e _ (by omega)).trans a5⟩, HP2.sh, ⟨y2, (e _ (by omega)).trans a7, a8⟩, fun j hj => (a9 j hj).fr (e _ (by omega)) (e _ (by omega))⟩
      · unfold LA
        rw [hL']
        refine ⟨hg, K', P', T1, S1, HP2, rfl, fun c hc => ?_⟩
        obtain ⟨z1, z2⟩ := fin36_t.mp hf
        have := (p1 c hc (z1 c hc)).1
        have := z2 c hc
        omega
    · rw [hf, if_pos (by rfl), bnd_s, p_isDead HP1, hd, bnd_s, if_neg (by decide)]
      refine ⟨h1, V, by rw [hL]; rfl, H1, fun _ _ => rfl, f1.mo (WS.lf (by omega)), ?_⟩
      unfold LA
      rw [hL]
      exact hg
    rw [hf, if_pos (by rfl), bnd_s, p_isDead HP1, hd, bnd_s, if_pos (by rfl), nI_1, if_pos (show nI (i + 1) < (38 : Int32) from nI_lt (a := i + 1) (b := 38) (by omega) (by omega)), H1.ck, bnd_s]
    obtain ⟨h2, gg, e2, y1, y2, f2⟩ := s_fewest H1 HP1 (by omega) hw (F := F) (by omega)
    have HP2 : PosAt h2 (v + 10 + 2 * i) K' P' T1 S1 := HP1.fr (f2.2 _ (by omega)) (f2.2 _ (by omega))
    have HR2 := HR1.fr f2 fun k hk z => by simp only [UR] at hk; omega
    have H2 : SolSh h2 v V := by
      obtain ⟨a0, a1, a2, ⟨x1, a3, a4⟩, ⟨z1, a5⟩, a6, ⟨z2, a7, a8⟩, a9⟩ := H1
      exact ⟨(f2.2 _ (by omega)).trans a0, a1, a2.fr fun j hj => f2.2 _ (by omega), ⟨x1, (f2.2 _ (by omega)).trans a3, a4⟩, ⟨z1, (f2.2 _ (by omega)).trans a5⟩, a6.fr (f2.2 _ (by omega)) (f2.2 _ (by omega)), ⟨gg, y1, y2⟩, fun j hj => (a9 j hj).fr (f2.2 _ (by omega)) (f2.2 _ (by omega))⟩
    have F2 : Fr (LF v i) h h2 := (f1.mo (WS.lf (by omega))).tr (f2.mo fun k hk => by simp only [LF]; omega)
    rw [e2, bnd2_s, HP2.ck, bnd_s, p_digitsOf HP2 hw.1 (by omega), bnd_s]
    have hdig : ∀ n' d s V', isD d = true → K' c d = true → SolSh s v V' → (∀ k, k ≠ 7 → V' k = V k) → V' 7 = .int (nI (g + ngu (cat6 (K' c) Ls d))) → PosAt s (v + 10 + 2 * i) K' P' T1 S1 → Fr (LF v i) h s → RulAt s r R →
        ∃ s' V2, f_Sol_solveLevel_88 F (f_Sol_solveLevel F rf) (n' + 1) v r (nI i) (v + 10 + 2 * i) (nI c) (nI (mkd (K' c))) (nI d) s = (if (ffst (Ls d)).isSome then some (1, s') else f_Sol_solveLevel_88 F (f_Sol_solveLevel F rf) n' v r (nI i) (v + 10 + 2 * i) (nI c) (nI (mkd (K' c))) (nI (d + 1)) s') ∧ SolSh s' v V2 ∧ (∀ k, k ≠ 7 → V2 k = V k) ∧ PosAt s' (v + 10 + 2 * i) K' P' T1 S1 ∧ Fr (LF v i) h s' ∧ RulAt s' r R ∧ LA s' v V2 (g + ngu (cat6 (K' c) Ls d) + 1) (Ls d) := by
      intro n' d s V' hd hk x1 x2 x3 x4 x5 x6
      have hd' := isD_b hd
      obtain ⟨b0, b1, b2, ⟨z1, b3, b4⟩, ⟨z2, b5⟩, b6, ⟨z3, b7, b8⟩, b9⟩ := x1
      have H3 : SolSh (hset s v (obj 7 12 (updV V' 7 (.int (nI (g + ngu (cat6 (K' c) Ls d) + 1)))))) v (updV V' 7 (.int (nI (g + ngu (cat6 (K' c) Ls d) + 1)))) :=
        ⟨hset_s _ _ _, ⟨(vu_n _ _ (by omega)).trans b1.1, (vu_n _ _ (by omega)).trans b1.2.1, (vu_n _ _ (by omega)).trans b1.2.2.1, (vu_n _ _ (by omega)).trans b1.2.2.2.1, (vu_n _ _ (by omega)).trans b1.2.2.2.2⟩, b2.fr fun j hj => hset_n _ _ (by omega), ⟨z1, (hset_n _ _ (by omega)).trans b3, b4⟩, ⟨z2, (hset_n _ _ (by omega)).trans b5⟩, b6.fr (hset_n _ _ (by omega)) (hset_n _ _ (by omega)), ⟨z3, (hset_n _ _ (by omega)).trans b7, b8⟩, fun j hj => (b9 j hj).fr (hset_n _ _ (by omega)) (hset_n _ _ (by omega))⟩
      have HP3 : PosAt (hset s v (obj 7 12 (updV V' 7 (.int (nI (g + ngu (cat6 (K' c) Ls d) + 1)))))) (v + 10 + 2 * i) K' P' T1 S1 := x4.fr (hset_n _ _ (by omega)) (hset_n _ _ (by omega))
      have F3 : Fr (fun k => k = v) s (hset s v (obj 7 12 (updV V' 7 (.int (nI (g + ngu (cat6 (K' c) Ls d) + 1)))))) := (Fr.rf _ _).sq _
      have hV3 : ∀ k, k ≠ 7 → (updV V' 7 (.int (nI (g + ngu (cat6 (K' c) Ls d) + 1)))) k = V k := fun k hk => (vu_n _ _ hk).trans (x2 k hk)
      have hV37 : (updV V' 7 (.int (nI (g + ngu (cat6 (K' c) Ls d) + 1)))) 7 = .int (nI (g + ngu (cat6 (K' c) Ls d) + 1)) := vu_s _ _ _
      have eg : gI s v 7 7 = some (nI (g + ngu (cat6 (K' c) Ls d))) := ob_I b0 (by omega) x3
      have ep : pV s v 7 7 (.int (nI (g + ngu (cat6 (K' c) Ls d)) + 1)) = some (hset s v (obj 7 12 (updV V' 7 (.int (nI (g + ngu (cat6 (K' c) Ls d) + 1)))))) := by
        rw [nI_1]
        exact ob_P _ b0 (by omega)
      generalize updV V' 7 (.int (nI (g + ngu (cat6 (K' c) Ls d) + 1))) = V3 at H3 HP3 F3 hV3 hV37 ep
      generalize hset s v (obj 7 12 V3) = h3 at H3 HP3 F3 ep
      have lvi := H3.lv (show i + 1 < 38 by omega)
      obtain ⟨h4, e4, HP4, F4⟩ := p_copyFrom HP3 (p := v + 10 + 2 * (i + 1)) (H3.2.2.2.2.2.2.2 (i + 1) (by omega)) (by omega)
      have e4' : ∀ k, ¬ PS (v + 10 + 2 * (i + 1)) k → h4.2 k = h3.2 k := F4.2
      simp only [PS] at e4'
      have lv4 : gR h4 v 7 1 = some (v + 5) ∧ aR h4 (v + 5) (nI (i + 1)) = some (v + 10 + 2 * (i + 1)) := by
        obtain ⟨c0, ⟨_, c1, _⟩, _, ⟨ff, c2, c3⟩, _⟩ := H3
        exact ⟨ob_R ((e4' _ (by omega)).trans c0) (by omega) c1, ar_R ((e4' _ (by omega)).trans c2) (by omega) (by omega) (by omega) (c3 _ (by omega))⟩
      obtain ⟨rr, h5, T5, e5, HP5, ht5, F5, _⟩ := p_keepOnly HP4 hw.1 hd (F := F) (by omega)
      have F45 : Fr (PS (v + 10 + 2 * (i + 1))) h3 h5 := F4.tr F5
      have H5 : SolSh h5 v V3 := by
        obtain ⟨c0, c1, c2, ⟨u1, c3, c4⟩, ⟨u2, c5⟩, c6, ⟨u3, c7, c8⟩, c9⟩ := H3
        have e : ∀ k, ¬ PS (v + 10 + 2 * (i + 1)) k → h5.2 k = h3.2 k := F45.2
        simp only [PS] at e
        refine ⟨(e _ (by omega)).trans c0, c1, c2.fr fun j hj => e _ (by omega), ⟨u1, (e _ (by omega)).trans c3, c4⟩, ⟨u2, (e _ (by omega)).trans c5⟩, c6.fr (e _ (by omega)) (e _ (by omega)), ⟨u3, (e _ (by omega)).trans c7, c8⟩, fun j hj => ?_⟩
        by_cases q : j = i + 1
        · subst q; exact HP5.sh
        · exact (c9 j hj).fr (e _ (by omega)) (e _ (by omega))
      have HR5 : RulAt h5 r R := (x6.fr F3 fun k hk z => by simp only [UR] at hk; omega).fr F45 fun k hk z => by simp only [UR, PS] at hk z; omega
      obtain ⟨h6, V6, e6, H6, hV6, F6, hA⟩ := ih (kpO K' c d) P' (Ls d) (i + 1) h5 (g + ngu (cat6 (K' c) Ls d) + 1) T5 S1 V3 rf HR5 H5 hV37 HP5 (hI1.tr hR ht5) (p1.sub kpO_sub) (hEs d hd hk) (by omega) (by omega)
      have hck3 : cK h3 (v + 10 + 2 * (i + 1)) 1 = some () := by obtain ⟨V9, sp, z, _⟩ := H3.2.2.2.2.2.2.2 (i + 1) (by omega); exact ob_K z
      refine ⟨h6, V6, ?_, H6, fun k hk => (hV6 k hk).trans (hV3 k hk), ?_, ?_, ?_, hA⟩
      · rw [f_Sol_solveLevel_88, b_Sol_solveLevel_88, if_neg (show ¬ (6 : Int32) < nI d from nI_nlt (a := 6) (b := (d)) (by omega) (by omega)), if_neg (fun z => by have := (mkd_bit (K' c) hd).mp z; rw [hk] at this; cases this), eg, bnd_s, ep, bnd_s, lvi.1, bnd_s, nI_1, lvi.2, bnd_s, hck3, bnd_s, e4, bnd_s, lv4.1, bnd_s, lv4.2, bnd_s, HP4.ck, bnd_s, e5, bnd2_s, e6, bnd2_s]
        cases hff : (ffst (Ls d)).isSome
        · rw [if_pos (by rfl), b_Sol_solveLevel_156, nI_1]
          rfl
        · rw [if_neg (by decide)]
          rfl
      · have e : ∀ k, ¬ LF v (i + 1) k → h6.2 k = h5.2 k := F6.2
        have e' : ∀ k, ¬ PS (v + 10 + 2 * (i + 1)) k → h5.2 k = h3.2 k := F45.2
        simp only [LF] at e
        simp only [PS] at e'
        exact HP3.fr ((e _ (by omega)).trans (e' _ (by omega))) ((e _ (by omega)).trans (e' _ (by omega)))
      · exact x5.tr ((F3.mo fun k hk => by simp only [LF]; omega).tr ((F45.mo fun k hk => by simp only [PS, LF] at hk ⊢; omega).tr (F6.mo (LF.mo (by omega)))))
      · exact HR5.fr F6 fun k hk z => by simp only [UR, LF] at hk z; omega
    obtain ⟨j, ⟨s, d0⟩, j1, j2, ⟨j0, VV, w1, w2, w3, w4, w5, w6, w7⟩, j4, e3⟩ := LE (fun n' d (s : PH × Unit) => f_Sol_solveLevel_88 F (f_Sol_solveLevel F rf) n' v r (nI i) (v + 10 + 2 * i) (nI c) (nI (mkd (K' c))) (nI d) s.1)
      (fun d s => 1 ≤ d ∧ ∃ V', SolSh s.1 v V' ∧ (∀ k, k ≠ 7 → V' k = V k) ∧ V' 7 = .int (nI (g + ngu (cat6 (K' c) Ls d))) ∧ PosAt s.1 (v + 10 + 2 * i) K' P' T1 S1 ∧ Fr (LF v i) h s.1 ∧ RulAt s.1 r R ∧ ffst (cat6 (K' c) Ls d) = none) (fun d _ => K' c d = true ∧ (ffst (Ls d)).isSome = true) 7
      (fun n' d s hd ⟨j0, V', w1, w2, w3, w4, w5, w6, w7⟩ => by
        have hD := isD_i j0 hd
        cases hk : K' c d
        · right
          have hcat : cat6 (K' c) Ls (d + 1) = cat6 (K' c) Ls d := by
            show cat6 (K' c) Ls d ++ (if isD d && K' c d then none :: Ls d else []) = _
            rw [hk]
            simp
          refine ⟨s, ⟨by omega, V', w1, w2, by rw [hcat]; exact w3, w4, w5, w6, by rw [hcat]; exact w7⟩, ?_⟩
          show f_Sol_solveLevel_88 F (f_Sol_solveLevel F rf) (n' + 1) v r (nI i) (v + 10 + 2 * i) (nI c) (nI (mkd (K' c))) (nI d) s.1 = _
          rw [f_Sol_solveLevel_88, b_Sol_solveLevel_88, if_neg (show ¬ (6 : Int32) < nI d from nI_nlt (a := 6) (b := (d)) (by omega) (by omega)), if_pos ((mkd_bit (K' c) hD).mpr hk), b_Sol_solveLevel_156, nI_1]
        · cases hff : (ffst (Ls d)).isSome
          · right
            obtain ⟨s', V2, t1, t2, t3, t4, t5, t6, t7⟩ := hdig n' d s.1 V' hD hk w1 w2 w3 w4 w5 w6
            have hno : ffst (Ls d) = none := by
              cases q : ffst (Ls d)
              · rfl
              · rw [q] at hff; cases hff
            have hcat : cat6 (K' c) Ls (d + 1) = cat6 (K' c) Ls d ++ (none :: Ls d) := by
              show cat6 (K' c) Ls d ++ (if isD d && K' c d then none :: Ls d else []) = _
              rw [hk, hD]
              rfl
            refine ⟨(s', ()), ⟨by omega, V2, t2, t3, ?_, t4, t5, t6, ?_⟩, ?_⟩
            · unfold LA at t7
              rw [hno] at t7
              rw [hcat, ngu_app]
              show V2 7 = .int (nI (g + (ngu (cat6 (K' c) Ls d) + (ngu (Ls d) + 1))))
              rw [show g + (ngu (cat6 (K' c) Ls d) + (ngu (Ls d) + 1)) = g + ngu (cat6 (K' c) Ls d) + 1 + ngu (Ls d) by omega]
              exact t7
            · rw [hcat, ffst_app, w7]
              show (((ffst (Ls d)).map _).map _) = none
              rw [hno]
              rfl
            · rw [hff] at t1
              exact t1
          · exact Or.inl ⟨rfl, rfl⟩) 6 1 (h2, ()) F rfl (by omega) ⟨Nat.le_refl 1, V, H2, fun _ _ => rfl, hg, HP2, F2, HR2, rfl⟩
    obtain ⟨m', hm'⟩ : ∃ k, F - (j - 1) = k + 1 := ⟨F - (j - 1) - 1, by omega⟩
    have hE3 : f_Sol_solveLevel_88 F (f_Sol_solveLevel F rf) F v r (nI i) (v + 10 + 2 * i) (nI c) (nI (mkd (K' c))) 1 h2 = f_Sol_solveLevel_88 F (f_Sol_solveLevel F rf) (m' + 1) v r (nI i) (v + 10 + 2 * i) (nI c) (nI (mkd (K' c))) (nI j) s := by
      rw [← hm']
      exact e3
    rw [hE3]
    by_cases q : j < 7
    · obtain ⟨hk, hso⟩ := j4 q
      have hD := isD_i j0 q
      obtain ⟨s', V2, t1, t2, t3, t4, t5, t6, t7⟩ := hdig m' j s VV hD hk w1 w2 w3 w4 w5 w6
      obtain ⟨x, hx⟩ := Option.isSome_iff_exists.mp hso
      have hLf : ffst L = some (x.1 + 1 + ngu (cat6 (K' c) Ls j), x.2) := by
        obtain ⟨tl, htl⟩ := cat6_sp (p := K' c) (L := Ls) hD hk (7 - (j + 1))
        rw [show j + 1 + (7 - (j + 1)) = 7 by omega] at htl
        rw [hL, htl, ffst_app, w7]
        show ((ffst (Ls j ++ tl)).map _).map _ = _
        rw [ffst_app, hx]
        rfl
      refine ⟨s', V2, ?_, t2, t3, t5, ?_⟩
      · rw [t1, hso, hLf]
        rfl
      · unfold LA at t7 ⊢
        rw [hx] at t7
        rw [hLf]
        refine ⟨?_, t7.2⟩
        show V2 7 = .int (nI (g + (x.1 + 1 + ngu (cat6 (K' c) Ls j))))
        rw [show g + (x.1 + 1 + ngu (cat6 (K' c) Ls j)) = g + ngu (cat6 (K' c) Ls j) + 1 + x.1 by omega]
        exact t7.1
    · have hj : j = 7 := by omega
      subst hj
      rw [← hL] at w3 w7
      refine ⟨s, VV, ?_, w1, w2, w5, ?_⟩
      · rw [f_Sol_solveLevel_88, b_Sol_solveLevel_88, if_pos (show (6 : Int32) < nI 7 from nI_lt (a := 6) (b := 7) (by omega) (by omega)), w7]
        rfl
      · unfold LA
        rw [w7]
        exact w3
