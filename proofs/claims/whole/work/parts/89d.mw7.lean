/-! The reference's calls: solutions, guesses, trials, needed. -/
theorem F3 {F : Nat} (hF : 3000 + nB 36 ≤ F) : 3000 ≤ F := Nat.le_trans (Nat.le_add_right _ _) hF
theorem m_slvNow {h : PH} {mo : Nat} {x : ST} {m : Nat} {sv : Nat → ST} {tl : Nat} {tx : Nat → Int32} {t : Int32} (H : MW h mo x m sv tl tx t) (hv : VAL x) {L : EL} (hE : Ev (tR x) 36 (tK x) (tP x) L) {lim : Nat} (hl : lim ≤ 1000) (h1 : 1 ≤ lim) {F : Nat} (hF : 3000 + nB 36 ≤ F) :
    ∃ h' s, s = rrun lim L rs0 ∧ f_Mo_solveNow F mo (nI lim) h = some h' ∧ MW h' mo x m sv tl tx t ∧ gI h' mo 10 17 = some (nI s.1) ∧ (s.1 ≠ 0 → gI h' mo 10 19 = some (nI s.2.2.1) ∧ ∀ c, c < 36 → aI h' (mo + 10) (nI c) = some (nI (s.2.2.2.1 c))) ∧ (∀ c, c < 36 → aI h' (mo + 11) (nI c) = some (nI (mkd (s.2.2.2.2 c)))) ∧ Fr (DM mo) h h' := by
  obtain ⟨h2, p2, H2, M2, f2⟩ := m_load H (F3 hF)
  obtain ⟨h3, s, e, p3, H3, a, b, c, f3⟩ := m_slv H2 M2 hv.1 hv.2.1 hE hl h1 hF
  refine ⟨h3, s, e, ?_, H3, a, b, c, f2.tr (f3.mo ds_dm)⟩
  unfold f_Mo_solveNow
  rw [H.r.2.1, bnd_s, H.r.2.2.2.2.1, bnd_s, p2, bnd_s, H2.r.1, bnd_s, p3, bnd_s]
theorem rs_n {R : RT} (hR : ROK R) {K : Nat → Nat → Bool} {P : Nat → Bool} (hp : PI K P) {L : EL} (hE : Ev R 36 K P L) (lim : Nat) : (rrun lim L rs0).1 = min lim (NS R K) := by
  rw [rrun_c L rs0 (Nat.zero_le _), (Ev_p hR 36 K P L hp hE).1]
  show min lim (0 + NS R K) = _
  rw [Nat.zero_add]
theorem m_solutions {h : PH} {mo : Nat} {x : ST} {m : Nat} {sv : Nat → ST} {tl : Nat} {tx : Nat → Int32} {t : Int32} (H : MW h mo x m sv tl tx t) (hv : VAL x) {q : Nat} (h1 : 1 ≤ q) (hq : q ≤ 20) {F : Nat} (hF : 3000 + nB 36 ≤ F) :
    ∃ h', f_Mo_solutions F mo (nI q) h = some (nI (min q (NS (tR x) (tK x))), h') ∧ MW h' mo x m sv tl tx 0 ∧ Fr (DM mo) h h' := by
  obtain ⟨L, hE⟩ := ev_of hv.1 hv.2.1
  obtain ⟨h1', p1, H1, f1⟩ := H.t 0
  obtain ⟨h3, s, e, p3, H3, a, b, c, f3⟩ := m_slvNow H1 hv hE (lim := q) (by omega) h1 hF
  refine ⟨h3, ?_, H3, (DM.mo' f1).tr f3⟩
  rw [e, rs_n hv.1 hv.2.1 hE] at a
  unfold f_Mo_solutions
  rw [show f_Mo_in (nI q) (1 : Int32) (20 : Int32) = _ from m_in (lo := 1) (hi := 20) h1 hq (by omega), bnd_s, if_neg (by decide), b_Mo_solutions_16, p1, bnd_s, H1.th, bnd_s, if_pos rfl, H1.r.1, bnd_s, p3, bnd_s, a, bnd_s]
theorem m_guesses {h : PH} {mo : Nat} {x : ST} {m : Nat} {sv : Nat → ST} {tl : Nat} {tx : Nat → Int32} {t : Int32} (H : MW h mo x m sv tl tx t) (hv : VAL x) {L : EL} (hE : Ev (tR x) 36 (tK x) (tP x) L) {F : Nat} (hF : 3000 + nB 36 ≤ F) :
    ∃ h', MW h' mo x m sv tl tx 0 ∧ Fr (DM mo) h h' ∧ (NS (tR x) (tK x) = 0 → f_Mo_guesses F mo h = some (-1, h')) ∧ (NS (tR x) (tK x) ≠ 0 → ∀ y, ffst L = some y → f_Mo_guesses F mo h = some (nI y.1, h')) := by
  obtain ⟨h1', p1, H1, f1⟩ := H.t 0
  obtain ⟨h3, s, e, p3, H3, a, b, c, f3⟩ := m_slvNow H1 hv hE (lim := 1) (by omega) (by omega) hF
  have hn := rs_n hv.1 hv.2.1 hE 1
  have hf := rrun_f (lim := 1) (by omega) L rs0
  unfold f_Mo_guesses
  rw [p1, bnd_s, H1.r.1, bnd_s, show f_Mo_solveNow F mo (1 : Int32) h1' = some h3 from p3, bnd_s, a, bnd_s, e, hn]
  refine ⟨h3, H3, (DM.mo' f1).tr f3, fun w => ?_, fun w y hy => ?_⟩
  · rw [w, if_pos (show nI (min 1 0) = (0 : Int32) from rfl)]
  · have hm : min 1 (NS (tR x) (tK x)) = 1 := by
      generalize NS (tR x) (tK x) = z at w ⊢
      omega
    rw [e, hn, hm] at b
    obtain ⟨y1, y2⟩ := y
    obtain ⟨q1, q2⟩ := hf y1 y2 rfl hy
    rw [hm, if_neg (by decide), (b (by decide)).1, q1, bnd_s]
    show some (nI (0 + y1), h3) = _
    rw [Nat.zero_add]
theorem m_solved {h : PH} {mo : Nat} {x : ST} {m : Nat} {sv : Nat → ST} {tl : Nat} {tx : Nat → Int32} {t : Int32} (H : MW h mo x m sv tl tx t) (hv : VAL x) {L : EL} (hE : Ev (tR x) 36 (tK x) (tP x) L) {c : Nat} (hc : c < 36) {F : Nat} (hF : 3000 + nB 36 ≤ F) :
    ∃ h', MW h' mo x m sv tl tx 0 ∧ Fr (DM mo) h h' ∧ (NS (tR x) (tK x) = 0 → f_Mo_solved F mo (nI c) h = some (0, h')) ∧ (NS (tR x) (tK x) ≠ 0 → ∀ y, ffst L = some y → f_Mo_solved F mo (nI c) h = some (nI (y.2 c), h')) := by
  obtain ⟨h1', p1, H1, f1⟩ := H.t 0
  obtain ⟨h3, s, e, p3, H3, a, b, _, f3⟩ := m_slvNow H1 hv hE (lim := 1) (by omega) (by omega) hF
  have hn := rs_n hv.1 hv.2.1 hE 1
  have hf := rrun_f (lim := 1) (by omega) L rs0
  unfold f_Mo_solved
  rw [m_cell hc, bnd_s, if_neg (by decide), b_Mo_solved_13, p1, bnd_s, H1.th, bnd_s, if_pos rfl, H1.r.1, bnd_s, show f_Mo_solveNow F mo (1 : Int32) h1' = some h3 from p3, bnd_s, a, bnd_s, e, hn]
  refine ⟨h3, H3, (DM.mo' f1).tr f3, fun w => ?_, fun w y hy => ?_⟩
  · rw [w, if_pos (show nI (min 1 0) = (0 : Int32) from rfl)]
  · have hm : min 1 (NS (tR x) (tK x)) = 1 := by
      generalize NS (tR x) (tK x) = z at w ⊢
      omega
    rw [e, hn, hm] at b
    obtain ⟨y1, y2⟩ := y
    obtain ⟨q1, q2⟩ := hf y1 y2 rfl hy
    rw [hm, if_neg (by decide), H3.r.2.2.2.2.2.1, bnd_s, (b (by decide)).2 c hc, q2, bnd_s]
theorem m_superfluous {h : PH} {mo : Nat} {x : ST} {m : Nat} {sv : Nat → ST} {tl : Nat} {tx : Nat → Int32} {t : Int32} (H : MW h mo x m sv tl tx t) (hv : VAL x) {F : Nat} (hF : 3000 + nB 36 ≤ F) :
    ∃ h', f_Mo_superfluous F mo h = some (spf x, h') ∧ MW h' mo x m sv tl tx 0 ∧ Fr (DM mo) h h' := by
  obtain ⟨L, hE⟩ := ev_of hv.1 hv.2.1
  obtain ⟨h1', p1, H1, f1⟩ := H.t 0
  obtain ⟨h3, s, e, p3, H3, a, _, u, f3⟩ := m_slvNow H1 hv hE (lim := 21) (by omega) (by omega) hF
  have hn := rs_n hv.1 hv.2.1 hE 21
  have hF3 := F3 hF
  obtain ⟨hev1, hev2, hev3, _⟩ := Ev_p hv.1 36 _ _ L hv.2.1 hE
  refine ⟨h3, ?_, H3, (DM.mo' f1).tr f3⟩
  unfold f_Mo_superfluous spf
  rw [p1, bnd_s, H1.r.1, bnd_s, show f_Mo_solveNow F mo (21 : Int32) h1' = some h3 from p3, bnd_s, a, bnd_s, e, hn]
  have hu := rrun_u (lim := 21) L rs0
  rw [hev1] at hu
  clear hF hn hev1
  generalize NS (tR x) (tK x) = N at hu ⊢
  by_cases w : N ≤ 20
  · rw [if_pos w, if_pos (show nI (min 21 N) ≤ (20 : Int32) from nI_le (a := min 21 N) (b := 20) (by omega) (by omega))]
    have hu' := hu (by show 0 + N ≤ 21; omega)
    obtain ⟨V, M⟩ := H3.mn
    obtain ⟨z, e1, h1⟩ := LC (fun n i (z : Int32) => f_Mo_superfluous_26 F n mo z (nI i) h3) (fun i z => z = nI (smN (fun c => sz fun d => tK x c d && !usd (tR x) (tK x) c d) i)) 36
      (fun n i z hi e1 => by
        subst e1
        refine ⟨_, rfl, ?_⟩
        have hsz : sz (fun d => tK x i d && !s.2.2.2.2 i d) = sz fun d => tK x i d && !usd (tR x) (tK x) i d := sz_ext fun d hd => by
          congr 2
          refine bool_i (Iff.trans ?_ usd_t.symm)
          rw [e, hu' i d]
          refine ⟨fun y => ?_, fun ⟨f, y1, y2⟩ => ?_⟩
          · rcases y with y | ⟨f, y1, y2⟩
            · cases y
            · exact ⟨f, hev2 f y1, y2⟩
          · obtain ⟨g, z1, z2⟩ := hev3 f y1
            exact Or.inr ⟨g, z1, (z2 i hi).trans y2⟩
        show f_Mo_superfluous_26 F (n + 1) mo _ (nI i) h3 = _
        rw [f_Mo_superfluous_26, b_Mo_superfluous_26, if_neg (show ¬ (36 : Int32) ≤ nI i from nI_ge (a := (i)) (b := 36) (by omega) (by omega)), H3.r.2.1, bnd_s, (M.g hi).1, bnd_s, H3.r.2.2.2.2.2.2.1, bnd_s, u i hi, bnd_s, mkd_sub, m_size _ (by omega), bnd_s, nI_add, nI_1, hsz]
        rfl) 36 0 0 F rfl (by omega) rfl
    obtain ⟨n, hn⟩ : ∃ n, F - 36 = n + 1 := ⟨F - 37, by omega⟩
    refine Eq.trans h1 ?_
    show f_Mo_superfluous_26 F (F - 36) mo z (nI 36) h3 = _
    rw [hn, f_Mo_superfluous_26, b_Mo_superfluous_26, if_pos (show (36 : Int32) ≤ nI 36 from nI_le (a := 36) (b := 36) (by omega) (by omega)), e1]
    rfl
  · rw [if_neg w, if_neg (show ¬ nI (min 21 N) ≤ (20 : Int32) from nI_ge (a := 20) (b := min 21 N) (by omega) (by omega))]
theorem m_possible {h : PH} {mo : Nat} {x : ST} {m : Nat} {sv : Nat → ST} {tl : Nat} {tx : Nat → Int32} {t : Int32} (H : MW h mo x m sv tl tx t) (hv : VAL x) {c d : Nat} (hc : c < 36) (hd : isD d = true) {F : Nat} (hF : 3000 + nB 36 ≤ F) :
    ∃ h', f_Mo_possible F mo (nI c) (nI d) h = some (if NS (tR x) (kpO (tK x) c d) = 0 then 0 else 1, h') ∧ MW h' mo x m sv tl tx 0 ∧ Fr (DM mo) h h' := by
  obtain ⟨h1, p1, H1, f1⟩ := H.t 0
  obtain ⟨h2, p2, H2, ⟨V, M2⟩, f2⟩ := m_load H1 (F3 hF)
  obtain ⟨n6, g6, b1, b2, b3, b4⟩ := M2.2.2.2.2.1
  obtain ⟨h3, p3, q3, r3⟩ := sti (i := c) (nI (mkd fun e => tK x c e && decide (e = d))) b3 (by omega) b2
  have H3 := H2.mf6 r3 q3 b1 b2
  have hp : PI (kpO (tK x) c d) (tP x) := hv.2.1.sub kpO_sub
  obtain ⟨V3, M3⟩ := H3.m6 (K := kpO (tK x) c d) (P := tP x) q3 b1 b2 fun a ha => by
    show upd g6 c _ a = nI (mkd (kpO (tK x) c d a)) ∧ upd g6 c _ (36 + a) = _
    rw [pk_un (show 36 + a ≠ c by omega)]
    refine ⟨?_, (b4 a ha).2⟩
    by_cases w : a = c
    · subst w
      rw [pk_us]
      exact congrArg nI (mkd_ext fun e _ => by unfold kpO; simp)
    · rw [pk_un w, (b4 a ha).1]
      exact congrArg nI (mkd_ext fun e _ => by unfold kpO; simp [w])
  obtain ⟨L, hE⟩ := ev_of hv.1 hp
  obtain ⟨h4, s, e, p4, H4, a, _, _, f4⟩ := m_slv H3 ⟨V3, M3⟩ hv.1 hp hE (lim := 1) (by omega) (by omega) hF
  rw [e, rs_n hv.1 hp hE] at a
  refine ⟨h4, ?_, H4, (DM.mo' f1).tr (f2.tr ((r3.mo fun k hk => by simp only [DM]; omega).tr (f4.mo ds_dm)))⟩
  unfold f_Mo_possible
  rw [m_cell hc, bnd_s, if_neg (by decide), m_dig hd, bnd_s, if_neg (by decide), b_Mo_possible_24, p1, bnd_s, H1.th, bnd_s, if_pos rfl, H1.r.2.1, bnd_s, H1.r.2.2.2.2.1, bnd_s, p2, bnd_s, H2.r.2.2.2.2.1, bnd_s, (M2.g hc).1, bnd_s, mkd_1 hd, mkd_and, p3, bnd_s, H3.r.1, bnd_s, show f_Mo_solve F mo (1 : Int32) h3 = some h4 from p4, bnd_s, a, bnd_s]
  generalize NS (tR x) (kpO (tK x) c d) = N
  by_cases w : N = 0
  · rw [w, if_pos (show nI (min 1 0) ≤ (0 : Int32) by decide), if_pos rfl]
  · have hm : min 1 N = 1 := by omega
    rw [hm, if_neg (show ¬ nI 1 ≤ (0 : Int32) by decide), if_neg w]
theorem upG_ok' {G : Nat → Nat} (h : gvOK G) {c : Nat} : gvOK (upG G c 0) := upG_ok h (by omega)
theorem m_without {h : PH} {mo : Nat} {x : ST} {m : Nat} {sv : Nat → ST} {tl : Nat} {tx : Nat → Int32} {t : Int32} (H : MW h mo x m sv tl tx t) (hR : ROK (tR x)) (hG : gvOK (tG x)) {c : Nat} (hc : c < 36) {F : Nat} (hF : 3000 + nB 36 ≤ F) :
    ∃ h', f_Mo_solutionsWithout F mo (nI c) (2 : Int32) h = some (nI (min 2 (NS (tR x) (gvK (upG (tG x) c 0)))), h') ∧ MW h' mo x m sv tl tx t ∧ Fr (DQ mo) h h' := by
  have hF3 := F3 hF
  obtain ⟨⟨W, a0, a1, _⟩, _, ⟨g1, c1, c2⟩, _, _, q⟩ := id H
  obtain ⟨n6, f6, z6, s6, s7, _⟩ := q 6 (by omega) (by omega)
  have s72 : 72 ≤ n6 := s6
  obtain ⟨s, ⟨g, i1, i2, i3⟩, el⟩ := LC (fun n i s => f_Mo_solutionsWithout_2 F n mo (nI c) (2 : Int32) (nI i) s) (fun i s => ∃ g, s.2 (mo + 6) = oI n6 g ∧ (∀ a, a < i → g a = nI (mkd (gvK (upG (tG x) c 0) a)) ∧ g (36 + a) = nI 0) ∧ Fr (fun k => k = mo + 6) h s) 36
    (fun n i s hi ⟨g, i1, i2, i3⟩ => by
      obtain ⟨s1, p1, q1, r1⟩ := sti (i := i) (nI (mkd (gvK (upG (tG x) c 0) i))) i1 (by omega) (by omega)
      obtain ⟨s2, p2, q2, r2⟩ := sti (i := 36 + i) (nI 0) q1 (by omega) (by omega)
      refine ⟨s2, ⟨_, q2, fun a ha => ?_, i3.tr (r1.tr r2)⟩, ?_⟩
      · by_cases w : a = i
        · subst w
          exact ⟨by rw [pk_un (by omega), pk_us], pk_us⟩
        · rw [pk_un (by omega), pk_un (by omega), pk_un (by omega), pk_un (by omega)]
          exact i2 a (by omega)
      · show f_Mo_solutionsWithout_2 F (n + 1) mo (nI c) _ (nI i) s = _
        have z0 : s.2 mo = obj 10 28 W := (i3.2 _ (by omega)).trans a0
        have z1 : s1.2 mo = obj 10 28 W := (r1.2 _ (by omega)).trans z0
        have ha : aI s (mo + 1) ((72 : Int32) + nI i) = some (nI (tG x i)) := by
          rw [show (72 : Int32) + nI i = nI (72 + i) from nI_add 72 i, ar_I ((i3.2 _ (by omega)).trans c1) (by omega) (by omega), c2.2.2.1 i hi]
        have h46 : b_Mo_solutionsWithout_46 F (f_Mo_solutionsWithout_2 F n) mo (nI c) (2 : Int32) (nI i) (nI (mkd (gvK (upG (tG x) c 0) i))) (nI i) (mo + 6) s = f_Mo_solutionsWithout_2 F n mo (nI c) (2 : Int32) (nI (i + 1)) s2 := by
          rw [b_Mo_solutionsWithout_46, p1, bnd_s, ob_R z1 (by omega) a1.2.2.2.2.2.1, bnd_s, show (36 : Int32) + nI i = nI (36 + i) from nI_add 36 i, show (0 : Int32) = nI 0 from rfl, p2, bnd_s, nI_1]
        have hv := anew_v (upG_ok' hG (c := c) i hi)
        have hup : upG (tG x) c 0 i = if i = c then 0 else tG x i := rfl
        rw [hup] at hv
        rw [f_Mo_solutionsWithout_2, b_Mo_solutionsWithout_2, if_neg (show ¬ (36 : Int32) ≤ nI i from nI_ge (a := (i)) (b := 36) (by omega) (by omega)), ob_R z0 (by omega) a1.2.2.2.2.2.1, bnd_s, ob_R z0 (by omega) a1.1, bnd_s, ha, bnd_s]
        by_cases w2 : i = c
        · rw [if_pos w2, if_pos (by decide)] at hv
          by_cases w : nI (tG x i) ≤ (0 : Int32)
          · rw [if_pos w, b_Mo_solutionsWithout_44, hv]; exact h46
          · rw [if_neg w, if_pos (congrArg nI w2), b_Mo_solutionsWithout_44, hv]; exact h46
        · rw [if_neg w2] at hv
          by_cases w : nI (tG x i) ≤ (0 : Int32)
          · rw [if_pos w] at hv ⊢
            rw [b_Mo_solutionsWithout_44, hv]; exact h46
          · rw [if_neg w] at hv ⊢
            rw [if_neg (fun z => w2 ((nI_eq (by omega) (by omega)).mp z)), bnd_s, ha, bnd_s, hv]; exact h46) 36 0 h F rfl (by omega) ⟨f6, z6, fun a ha => absurd ha (Nat.not_lt_zero a), Fr.rf _ _⟩
  have Hs := H.mf6 i3 i1 s72 s7
  have hp : PI (gvK (upG (tG x) c 0)) (fun _ => false) := fun a _ z => (by cases z)
  have M := Hs.m6 (K := gvK (upG (tG x) c 0)) (P := fun _ => false) i1 s72 s7 fun a ha => i2 a ha
  obtain ⟨L, hE⟩ := ev_of hR hp
  obtain ⟨h4, r, e, p4, H4, a, _, _, f4⟩ := m_slv Hs M hR hp hE (lim := 2) (by omega) (by omega) hF
  rw [e, rs_n hR hp hE] at a
  refine ⟨h4, ?_, H4, (i3.mo fun k hk => by simp only [DQ]; omega).tr f4⟩
  obtain ⟨n, hn⟩ : ∃ n, F - 36 = n + 1 := ⟨F - 37, by omega⟩
  unfold f_Mo_solutionsWithout
  refine Eq.trans el ?_
  show f_Mo_solutionsWithout_2 F (F - 36) mo (nI c) _ (nI 36) s = _
  rw [hn, f_Mo_solutionsWithout_2, b_Mo_solutionsWithout_2, if_pos (show (36 : Int32) ≤ nI 36 from nI_le (a := 36) (b := 36) (by omega) (by omega)), Hs.r.1, bnd_s, show f_Mo_solve F mo (2 : Int32) s = some h4 from p4, bnd_s, a, bnd_s]
theorem m_needed {h : PH} {mo : Nat} {x : ST} {m : Nat} {sv : Nat → ST} {tl : Nat} {tx : Nat → Int32} {t : Int32} (H : MW h mo x m sv tl tx t) (hv : VAL x) {F : Nat} (hF : 3000 + nB 36 ≤ F) :
    ∃ h', f_Mo_needed F mo h = some (nI (cnt (ndd x) 36), h') ∧ MW h' mo x m sv tl tx 0 ∧ Fr (DM mo) h h' := by
  have hF3 := F3 hF
  obtain ⟨h1, p1, H1, f1⟩ := H.t 0
  obtain ⟨⟨a, s⟩, ⟨i1, i2, i3⟩, e⟩ := LC (fun n i (s : Int32 × PH) => f_Mo_needed_9 F n mo s.1 (nI i) s.2) (fun i s => s.1 = nI (cnt (ndd x) i) ∧ MW s.2 mo x m sv tl tx 0 ∧ Fr (DM mo) h1 s.2) 36
    (fun n i s hi ⟨i1, i2, i3⟩ => by
      have hg := hv.2.2.1 i hi
      obtain ⟨f, c1, c2⟩ := i2.2.2.1
      show ∃ s', _ ∧ f_Mo_needed_9 F (n + 1) mo s.1 (nI i) s.2 = _
      rw [f_Mo_needed_9, b_Mo_needed_9, if_neg (show ¬ (36 : Int32) ≤ nI i from nI_ge (a := (i)) (b := 36) (by omega) (by omega)), i2.r.2.1, bnd_s, show (72 : Int32) + nI i = nI (72 + i) from nI_add 72 i, ar_I c1 (by omega) (by omega), bnd_s, c2.2.2.1 i hi, i1]
      by_cases q : tG x i = 0
      · rw [if_pos (show nI (tG x i) ≤ (0 : Int32) from by rw [q]; decide), b_Mo_needed_42, b_Mo_needed_43, nI_1]
        refine ⟨(nI (cnt (ndd x) i) + 0, s.2), ⟨?_, i2, i3⟩, rfl⟩
        rw [cnt_s]
        unfold ndd
        rw [decide_eq_false (show ¬ tG x i ≠ 0 from fun z => z q)]
        exact nI_add _ 0
      obtain ⟨h2, p2, H2, f2⟩ := m_without i2 hv.1 hv.2.2.1 hi hF
      rw [if_neg (show ¬ nI (tG x i) ≤ (0 : Int32) from nI_nle (n := tG x i) (by omega) (by omega)), i2.r.1, bnd_s, p2, bnd2_s]
      have hnd : ndd x i = decide (2 ≤ NS (tR x) (gvK (upG (tG x) i 0))) := by
        unfold ndd
        rw [decide_eq_true q, Bool.true_and]
      clear hF
      rw [show cnt (ndd x) i = cnt (ndd x) i from rfl]
      generalize NS (tR x) (gvK (upG (tG x) i 0)) = N at hnd ⊢
      by_cases w : 2 ≤ N
      · rw [if_neg (show ¬ nI (min 2 N) ≤ (1 : Int32) from nI_ge (a := 1) (b := min 2 N) (by omega) (by omega)), b_Mo_needed_43, nI_1, nI_1]
        refine ⟨(nI (cnt (ndd x) i + 1), h2), ⟨?_, H2, i3.tr (f2.mo ds_dm)⟩, rfl⟩
        rw [cnt_s, hnd, decide_eq_true w]
        rfl
      · rw [if_pos (show nI (min 2 N) ≤ (1 : Int32) from nI_le (a := min 2 N) (b := 1) (by omega) (by omega)), b_Mo_needed_42, b_Mo_needed_43, nI_1]
        refine ⟨(nI (cnt (ndd x) i) + 0, h2), ⟨?_, H2, i3.tr (f2.mo ds_dm)⟩, rfl⟩
        rw [cnt_s, hnd, decide_eq_false w]
        exact nI_add _ 0) 36 0 (0, h1) F rfl (by omega) ⟨rfl, H1, Fr.rf _ _⟩
  have i1' : a = nI (cnt (ndd x) 36) := i1
  obtain ⟨n, hn⟩ : ∃ n, F - 36 = n + 1 := ⟨F - 37, by omega⟩
  refine ⟨s, ?_, i2, (DM.mo' f1).tr i3⟩
  unfold f_Mo_needed
  rw [p1, bnd_s]
  refine Eq.trans e ?_
  show f_Mo_needed_9 F (F - 36) mo a (nI 36) s = _
  rw [hn, f_Mo_needed_9, b_Mo_needed_9, if_pos (show (36 : Int32) ≤ nI 36 from nI_le (a := 36) (b := 36) (by omega) (by omega)), i1']
