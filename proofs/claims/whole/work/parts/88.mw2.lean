/-! The reference's calls that begin, give, strike. -/
theorem anew_v {G : Nat → Nat} {c : Nat} (h : G c < 7) : (if nI (G c) ≤ (0 : Int32) then (126 : Int32) else (1 : Int32) <<< (nI (G c) &&& 31)) = nI (mkd (gvK G c)) := by
  by_cases z : G c = 0
  · rw [if_pos (show nI (G c) ≤ (0 : Int32) from by rw [z]; decide), mk126]
    exact congrArg nI (mkd_ext fun d _ => by unfold gvK; rw [decide_eq_true (Or.inl z)])
  · rw [if_neg (show ¬ nI (G c) ≤ (0 : Int32) from nI_nle (n := G c) (by omega) (by omega)), mkd_1 (show isD (G c) = true from decide_eq_true ⟨by omega, by omega⟩)]
    exact congrArg nI (mkd_ext fun d _ => by unfold gvK; exact decide_eq_decide.mpr ⟨fun q => Or.inr q, fun q => q.elim (fun t => absurd t z) id⟩)
theorem r_anew {h : PH} {mo : Nat} {V : Nat → Value} {f : Nat → Int32} {G : Nat → Nat} (e0 : h.2 mo = obj 10 28 V) (hV : V 0 = .ref (mo + 1)) (e1 : h.2 (mo + 1) = oI 482 f) (hg : ∀ c, c < 36 → f (72 + c) = nI (G c)) (hG : gvOK G) {F : Nat} (hF : 40 ≤ F) :
    ∃ h' g, f_Mo_beginAnew F mo h = some h' ∧ h'.2 (mo + 1) = oI 482 g ∧ (∀ j, 72 ≤ j → g j = f j) ∧ XA g (gvK G) (fun _ => false) ∧ Fr (fun k => k = mo + 1) h h' := by
  obtain ⟨s, ⟨g, i1, i2, i3, i4⟩, el⟩ := LC (fun n i s => f_Mo_beginAnew_2 F n mo (nI i) s) (fun i s => ∃ g, s.2 (mo + 1) = oI 482 g ∧ (∀ j, 72 ≤ j → g j = f j) ∧ (∀ c, c < i → g c = nI (mkd (gvK G c)) ∧ g (36 + c) = nI 0) ∧ Fr (fun k => k = mo + 1) h s) 36
    (fun n i s hi ⟨g, i1, i2, i3, i4⟩ => by
      obtain ⟨s1, p1, q1, r1⟩ := sti (i := i) (nI (mkd (gvK G i))) i1 (by omega) (by omega)
      obtain ⟨s2, p2, q2, r2⟩ := sti (i := 36 + i) (nI 0) q1 (by omega) (by omega)
      refine ⟨s2, ⟨_, q2, fun j hj => ?_, fun c hc => ?_, i4.tr (r1.tr r2)⟩, ?_⟩
      · rw [pk_un (by omega), pk_un (by omega)]
        exact i2 j hj
      · by_cases w : c = i
        · subst w
          exact ⟨by rw [pk_un (by omega), pk_us], pk_us⟩
        · rw [pk_un (by omega), pk_un (by omega), pk_un (by omega), pk_un (by omega)]
          exact i3 c (by omega)
      · show f_Mo_beginAnew_2 F (n + 1) mo (nI i) s = _
        have z0 : s.2 mo = obj 10 28 V := (i4.2 _ (by omega)).trans e0
        have z1 : s1.2 mo = obj 10 28 V := (r1.2 _ (by omega)).trans z0
        have hr := ob_R z0 (by omega) hV
        have ha : aI s (mo + 1) ((72 : Int32) + nI i) = some (nI (G i)) := by
          rw [show (72 : Int32) + nI i = nI (72 + i) from nI_add 72 i, ar_I i1 (by omega) (by omega), i2 _ (by omega), hg i hi]
        have h41 : b_Mo_beginAnew_41 F (f_Mo_beginAnew_2 F n) mo (nI i) (nI (mkd (gvK G i))) (nI i) (mo + 1) s = f_Mo_beginAnew_2 F n mo (nI (i + 1)) s2 := by
          rw [b_Mo_beginAnew_41, p1, bnd_s, ob_R z1 (by omega) hV, bnd_s, show (36 : Int32) + nI i = nI (36 + i) from nI_add 36 i, show (0 : Int32) = nI 0 from rfl, p2, bnd_s, nI_1]
        have hv := anew_v (hG i hi)
        rw [f_Mo_beginAnew_2, b_Mo_beginAnew_2, if_neg (show ¬ (36 : Int32) ≤ nI i from nI_ge (a := (i)) (b := 36) (by omega) (by omega)), hr, bnd_s, bnd_s, ha, bnd_s]
        by_cases w : nI (G i) ≤ (0 : Int32)
        · rw [if_pos w] at hv ⊢
          rw [hv]; exact h41
        · rw [if_neg w] at hv ⊢
          rw [bnd_s, ha, bnd_s, hv]; exact h41) 36 0 h F rfl (by omega) ⟨f, e1, fun _ _ => rfl, fun c hc => absurd hc (Nat.not_lt_zero c), Fr.rf _ _⟩
  obtain ⟨n, hn⟩ : ∃ n, F - 36 = n + 1 := ⟨F - 37, by omega⟩
  refine ⟨s, g, ?_, i1, i2, fun c hc => i3 c hc, i4⟩
  unfold f_Mo_beginAnew
  refine Eq.trans el ?_
  show f_Mo_beginAnew_2 F (F - 36) mo (nI 36) s = _
  rw [hn, f_Mo_beginAnew_2, b_Mo_beginAnew_2, if_pos (show (36 : Int32) ≤ nI 36 from nI_le (a := 36) (b := 36) (by omega) (by omega))]
theorem m_anew {h : PH} {mo : Nat} {x : ST} {m : Nat} {sv : Nat → ST} {tl : Nat} {tx : Nat → Int32} {t : Int32} (H : MW h mo x m sv tl tx t) (hv : VAL x) {F : Nat} (hF : 3000 ≤ F) :
    ∃ h', f_Mo_beginAnew F mo h = some h' ∧ MW h' mo (tR x, gvK (tG x), fun _ => false, tG x, tN x, tE x) m sv tl tx t ∧ Fr (fun k => k = mo + 1) h h' := by
  obtain ⟨⟨V, a0, a1, _⟩, _, ⟨f, c1, ⟨⟨c2, c2'⟩, c3, c4, c5, c6⟩⟩, _⟩ := id H
  obtain ⟨h', g, p, q, r, z, fr⟩ := r_anew a0 a1.1 c1 c4 hv.2.2.1 (F := F) (by omega)
  refine ⟨h', p, H.row fr q ⟨⟨(r _ (by omega)).trans c2, fun k hk => ?_⟩, z, fun c hc => (r _ (by omega)).trans (c4 c hc), (r _ (by omega)).trans c5, fun i j hi hj => (r _ (by omega)).trans (c6 i j hi hj)⟩, fr⟩
  obtain ⟨r1, r2, r3, r4⟩ := c2' k hk
  exact ⟨(r _ (by omega)).trans r1, (r _ (by omega)).trans r2, (r _ (by omega)).trans r3, fun j hj => (r _ (by omega)).trans (r4 j hj)⟩
def clr (x : ST) : ST := (R0, fun _ _ => true, fun _ => false, fun _ => 0, tN x, tE x)
theorem m_clear {h : PH} {mo : Nat} {x : ST} {m : Nat} {sv : Nat → ST} {tl : Nat} {tx : Nat → Int32} {t : Int32} (H : MW h mo x m sv tl tx t) {F : Nat} (hF : 3000 ≤ F) :
    ∃ h', f_Mo_clear F mo h = some h' ∧ MW h' mo (clr x) m sv tl tx t ∧ Fr (fun k => k = mo + 1) h h' := by
  obtain ⟨⟨V, a0, a1, _⟩, _, ⟨f, c1, ⟨⟨c2, c2'⟩, c3, c4, c5, c6⟩⟩, _⟩ := id H
  obtain ⟨s, ⟨g, i1, i2, i3⟩, el⟩ := LC (fun n i s => f_Mo_clear_3 F n mo (nI i) s) (fun i s => ∃ g, s.2 (mo + 1) = oI 482 g ∧ (∀ j, 181 ≤ j → g j = f j) ∧ Fr (fun k => k = mo + 1) h s) 181
    (fun n i s hi ⟨g, i1, i2, i3⟩ => by
      obtain ⟨s1, p1, q1, r1⟩ := sti (i := i) 0 i1 (by omega) (by omega)
      refine ⟨s1, ⟨_, q1, fun j hj => ?_, i3.tr r1⟩, ?_⟩
      · rw [pk_un (by omega)]; exact i2 j hj
      · show f_Mo_clear_3 F (n + 1) mo (nI i) s = _
        rw [f_Mo_clear_3, b_Mo_clear_3, if_neg (show ¬ (181 : Int32) ≤ nI i from nI_ge (a := (i)) (b := 181) (by omega) (by omega)), ob_R ((i3.2 _ (by omega)).trans a0) (by omega) a1.1, bnd_s, p1, bnd_s, nI_1]) 72 109 h F rfl (by omega) ⟨f, c1, fun _ _ => rfl, Fr.rf _ _⟩
  have z0 : s.2 mo = obj 10 28 V := (i3.2 _ (by omega)).trans a0
  obtain ⟨s1, p1, q1, r1⟩ := sti (i := 108) 0 i1 (by omega) (by omega)
  have y0 : s1.2 mo = obj 10 28 V := (r1.2 _ (by omega)).trans z0
  obtain ⟨s2, ⟨g2, j1, j2, j3, j4⟩, el2⟩ := LC (fun n i s => f_Mo_clear_33 F n mo (nI i) s) (fun i s => ∃ g2, s.2 (mo + 1) = oI 482 g2 ∧ (∀ j, 108 ≤ j → g2 j = upd g 108 0 j) ∧ (∀ c, c < i → g2 (72 + c) = nI 0) ∧ Fr (fun k => k = mo + 1) s1 s) 36
    (fun n i s hi ⟨g2, j1, j2, j3, j4⟩ => by
      obtain ⟨s3, p3, q3, r3⟩ := sti (i := 72 + i) 0 j1 (by omega) (by omega)
      refine ⟨s3, ⟨_, q3, fun j hj => ?_, fun c hc => ?_, j4.tr r3⟩, ?_⟩
      · rw [pk_un (by omega)]; exact j2 j hj
      · by_cases w : c = i
        · subst w; exact pk_us
        · rw [pk_un (by omega)]; exact j3 c (by omega)
      · show f_Mo_clear_33 F (n + 1) mo (nI i) s = _
        rw [f_Mo_clear_33, b_Mo_clear_33, if_neg (show ¬ (36 : Int32) ≤ nI i from nI_ge (a := (i)) (b := 36) (by omega) (by omega)), ob_R ((j4.2 _ (by omega)).trans y0) (by omega) a1.1, bnd_s, show (72 : Int32) + nI i = nI (72 + i) from nI_add 72 i, p3, bnd_s, nI_1]) 36 0 s1 F rfl (by omega) ⟨_, q1, fun _ _ => rfl, fun c hc => absurd hc (Nat.not_lt_zero c), Fr.rf _ _⟩
  have x0' : s2.2 mo = obj 10 28 V := (j4.2 _ (by omega)).trans y0
  obtain ⟨h', g3, p5, q5, r5, z5, fr5⟩ := r_anew (G := fun _ => 0) x0' a1.1 j1 j3 (fun _ _ => by show 0 < 7; omega) (F := F) (by omega)
  have fr : Fr (fun k => k = mo + 1) h h' := i3.tr (r1.tr (j4.tr fr5))
  refine ⟨h', ?_, H.row fr q5 ⟨⟨?_, fun k hk => absurd hk (Nat.not_lt_zero k)⟩, ?_, fun c hc => (r5 _ (by omega)).trans (j3 c hc), ?_, fun i j hi hj => ?_⟩, fr⟩
  · obtain ⟨n, hn⟩ : ∃ n, F - 72 = n + 1 := ⟨F - 73, by omega⟩
    obtain ⟨n2, hn2⟩ : ∃ n, F - 36 = n + 1 := ⟨F - 37, by omega⟩
    unfold f_Mo_clear
    refine Eq.trans el ?_
    show f_Mo_clear_3 F (F - 72) mo (nI 181) s = _
    rw [hn, f_Mo_clear_3, b_Mo_clear_3, if_pos (show (181 : Int32) ≤ nI 181 by decide), ob_R z0 (by omega) a1.1, bnd_s, show (108 : Int32) = nI 108 from rfl, p1, bnd_s]
    refine Eq.trans el2 ?_
    show f_Mo_clear_33 F (F - 36) mo (nI 36) s2 = _
    rw [hn2, f_Mo_clear_33, b_Mo_clear_33, if_pos (show (36 : Int32) ≤ nI 36 from nI_le (a := 36) (b := 36) (by omega) (by omega)), ob_K x0', bnd_s, p5, bnd_s]
  · rw [r5 _ (by omega), j2 _ (by omega), pk_us]; rfl
  · intro c hc
    refine ⟨(z5 c hc).1.trans (congrArg nI (mkd_ext fun d _ => ?_)), (z5 c hc).2⟩
    exact decide_eq_true (Or.inl rfl)
  · rw [r5 _ (by omega), j2 _ (by omega), pk_un (by omega), i2 _ (by omega)]; exact c5
  · rw [r5 _ (by omega), j2 _ (by omega), pk_un (by omega), i2 _ (by omega)]; exact c6 i j hi hj
theorem m_givens {h : PH} {mo : Nat} {x : ST} {m : Nat} {sv : Nat → ST} {tl : Nat} {tx : Nat → Int32} {t : Int32} (H : MW h mo x m sv tl tx t) (hG : gvOK (tG x)) {F : Nat} (hF : 40 ≤ F) : f_Mo_givens F mo h = some (nI (gct (tG x))) := by
  obtain ⟨f, c1, ⟨c2, c3, c4, c5, c6⟩⟩ := H.2.2.1
  obtain ⟨s, e, h1⟩ := LC (fun n i (s : Int32) => f_Mo_givens_4 F n mo s (nI i) h) (fun i s => s = nI (cnt (fun c => decide (tG x c ≠ 0)) i)) 36
    (fun n i s hi e => by
      subst e
      refine ⟨_, rfl, ?_⟩
      show f_Mo_givens_4 F (n + 1) mo _ (nI i) h = _
      have hg := hG i hi
      rw [f_Mo_givens_4, b_Mo_givens_4, if_neg (show ¬ (36 : Int32) ≤ nI i from nI_ge (a := (i)) (b := 36) (by omega) (by omega)), H.r.2.1, bnd_s, show (72 : Int32) + nI i = nI (72 + i) from nI_add 72 i, ar_I c1 (by omega) (by omega), bnd_s, c4 i hi, cnt_s]
      by_cases w : tG x i = 0
      · rw [if_pos (show nI (tG x i) ≤ (0 : Int32) from by rw [w]; decide), b_Mo_givens_28, nI_1, decide_eq_false (show ¬ tG x i ≠ 0 from fun z => z w)]
        congr 1
        exact nI_add _ 0
      · rw [if_neg (show ¬ nI (tG x i) ≤ (0 : Int32) from nI_nle (n := tG x i) (by omega) (by omega)), b_Mo_givens_28, nI_1, nI_1, decide_eq_true w]
        rfl) 36 0 0 F rfl (by omega) rfl
  obtain ⟨n, hn⟩ : ∃ n, F - 36 = n + 1 := ⟨F - 37, by omega⟩
  unfold f_Mo_givens
  refine Eq.trans h1 ?_
  show f_Mo_givens_4 F (F - 36) mo s (nI 36) h = _
  rw [hn, f_Mo_givens_4, b_Mo_givens_4, if_pos (show (36 : Int32) ≤ nI 36 from nI_le (a := 36) (b := 36) (by omega) (by omega)), e]
  rfl
theorem DM.f {mo : Nat} {h h' : PH} {S : Nat → Prop} (f : Fr S h h') (e : ∀ k, S k → DM mo k) : Fr (DM mo) h h' := f.mo e
theorem m_begin {h : PH} {mo : Nat} {x : ST} {m : Nat} {sv : Nat → ST} {tl : Nat} {tx : Nat → Int32} {t : Int32} (H : MW h mo x m sv tl tx t) (hv : VAL x) (hs : ∀ i, i < m → VAL (sv i)) {F : Nat} (hF : 3000 ≤ F) :
    ∃ h', f_Mo_begin F mo h = some (nI (cnt (tP x) 36), h') ∧ MW h' mo (x0 (tE x)) (svN m) (svS m sv x) tl tx 0 ∧ Fr (DM mo) h h' := by
  obtain ⟨h1, p1, H1, f1⟩ := H.t 0
  obtain ⟨h2, p2, H2, f2⟩ := m_change H1 hv hs hF
  obtain ⟨V, hm⟩ := H2.mn
  obtain ⟨h3, p3, H3, f3⟩ := m_clear H2 hF
  refine ⟨h3, ?_, H3, (f1.mo fun k hk => by simp only [DM]; omega).tr ((f2.mo fun k hk => by simp only [DM]; omega).tr (f3.mo fun k hk => by simp only [DM]; omega))⟩
  unfold f_Mo_begin
  rw [p1, bnd_s, H1.r.1, bnd_s, p2, bnd_s, H2.r.2.1, bnd_s, m_placed hm (by omega), bnd_s, H2.r.1, bnd_s, p3, bnd_s]
  rfl
theorem m_restart {h : PH} {mo : Nat} {x : ST} {m : Nat} {sv : Nat → ST} {tl : Nat} {tx : Nat → Int32} {t : Int32} (H : MW h mo x m sv tl tx t) (hv : VAL x) (hs : ∀ i, i < m → VAL (sv i)) {F : Nat} (hF : 3000 ≤ F) :
    ∃ h', f_Mo_restart F mo h = some (nI (gct (tG x)), h') ∧ MW h' mo (tR x, gvK (tG x), fun _ => false, tG x, 0, tE x) (svN m) (svS m sv x) tl tx 0 ∧ Fr (DM mo) h h' := by
  obtain ⟨h1, p1, H1, f1⟩ := H.t 0
  obtain ⟨h2, p2, H2, f2⟩ := m_change H1 hv hs hF
  obtain ⟨h3, p3, H3, f3⟩ := m_anew H2 (wN_v hv) hF
  refine ⟨h3, ?_, H3, (f1.mo fun k hk => by simp only [DM]; omega).tr ((f2.mo fun k hk => by simp only [DM]; omega).tr (f3.mo fun k hk => by simp only [DM]; omega))⟩
  unfold f_Mo_restart
  rw [p1, bnd_s, H1.r.1, bnd_s, p2, bnd_s, H2.r.1, bnd_s, p3, bnd_s, H3.r.1, bnd_s, m_givens H3 hv.2.2.1 (by omega), bnd_s]
  rfl
/-- a row of which one entry is written -/
theorem RA.k {f : Nat → Int32} {x : ST} (H : RA f x) {c : Nat} (hc : c < 36) (D : Nat → Bool) : RA (upd f c (nI (mkd D))) (tR x, fun a => if a = c then D else tK x a, tP x, tG x, tN x, tE x) := by
  obtain ⟨⟨c2, c2'⟩, c3, c4, c5, c6⟩ := H
  have eu : ∀ j, 36 ≤ j → upd f c (nI (mkd D)) j = f j := fun j hj => pk_un (by omega)
  refine ⟨⟨(eu _ (by omega)).trans c2, fun k hk => ?_⟩, fun a ha => ⟨?_, (eu _ (by omega)).trans (c3 a ha).2⟩, fun a ha => (eu _ (by omega)).trans (c4 a ha), (eu _ (by omega)).trans c5, fun i j hi hj => (eu _ (by omega)).trans (c6 i j hi hj)⟩
  · obtain ⟨r1, r2, r3, r4⟩ := c2' k hk
    exact ⟨(eu _ (by omega)).trans r1, (eu _ (by omega)).trans r2, (eu _ (by omega)).trans r3, fun j hj => (eu _ (by omega)).trans (r4 j hj)⟩
  · show upd f c _ a = nI (mkd (if a = c then D else tK x a))
    by_cases w : a = c
    · subst w; rw [pk_us, if_pos rfl]
    · rw [pk_un w, if_neg w]; exact (c3 a ha).1
theorem RA.g {f : Nat → Int32} {x : ST} (H : RA f x) {c : Nat} (hc : c < 36) (d : Nat) : RA (upd f (72 + c) (nI d)) (tR x, tK x, tP x, upG (tG x) c d, tN x, tE x) := by
  obtain ⟨⟨c2, c2'⟩, c3, c4, c5, c6⟩ := H
  have eu : ∀ j, (j < 72 ∨ 108 ≤ j) → upd f (72 + c) (nI d) j = f j := fun j hj => pk_un (by omega)
  refine ⟨⟨(eu _ (by omega)).trans c2, fun k hk => ?_⟩, fun a ha => ⟨(eu _ (by omega)).trans (c3 a ha).1, (eu _ (by omega)).trans (c3 a ha).2⟩, fun a ha => ?_, (eu _ (by omega)).trans c5, fun i j hi hj => (eu _ (by omega)).trans (c6 i j hi hj)⟩
  · obtain ⟨r1, r2, r3, r4⟩ := c2' k hk
    exact ⟨(eu _ (by omega)).trans r1, (eu _ (by omega)).trans r2, (eu _ (by omega)).trans r3, fun j hj => (eu _ (by omega)).trans (r4 j hj)⟩
  · show upd f (72 + c) _ (72 + a) = nI (if a = c then d else tG x a)
    by_cases w : a = c
    · subst w; rw [pk_us, if_pos rfl]
    · rw [pk_un (by omega), if_neg w]; exact c4 a ha
theorem RA.c {f : Nat → Int32} {x : ST} (H : RA f x) {K' : Nat → Nat → Bool} {P' : Nat → Bool} (eK : ∀ c, c < 36 → ∀ d, isD d = true → tK x c d = K' c d) (eP : ∀ c, c < 36 → tP x c = P' c) : RA f (tR x, K', P', tG x, tN x, tE x) := by
  obtain ⟨a, b, c⟩ := H
  exact ⟨a, fun e he => ⟨(b e he).1.trans (congrArg nI (mkd_ext fun d hd => eK e he d hd)), (b e he).2.trans (congrArg (fun z : Bool => nI z.toNat) (eP e he))⟩, c⟩
theorem MW.c {h : PH} {mo : Nat} {x : ST} {m : Nat} {sv : Nat → ST} {tl : Nat} {tx : Nat → Int32} {t : Int32} (H : MW h mo x m sv tl tx t) {K' : Nat → Nat → Bool} {P' : Nat → Bool} (eK : ∀ c, c < 36 → ∀ d, isD d = true → tK x c d = K' c d) (eP : ∀ c, c < 36 → tP x c = P' c) : MW h mo (tR x, K', P', tG x, tN x, tE x) m sv tl tx t := by
  obtain ⟨a, b, ⟨f, c, c'⟩, d⟩ := H
  exact ⟨a, b, ⟨f, c, c'.c eK eP⟩, d⟩
theorem m_in {a lo hi : Nat} (h1 : lo ≤ a) (h2 : a ≤ hi) (h3 : hi < 2 ^ 31) : f_Mo_in (nI a) (nI lo) (nI hi) = some 1 := by
  unfold f_Mo_in
  rw [if_neg (show ¬ nI a < nI lo from nI_nlt h1 (by omega)), if_neg (show ¬ nI hi < nI a from nI_nlt h2 (by omega))]
theorem m_cell {c : Nat} (hc : c < 36) : f_Mo_isCell (nI c) = some 1 := by
  unfold f_Mo_isCell
  rw [show f_Mo_in (nI c) (0 : Int32) (35 : Int32) = _ from m_in (lo := 0) (hi := 35) (by omega) (by omega) (by omega), bnd_s]
  rfl
theorem m_dig {d : Nat} (hd : isD d = true) : f_Mo_isDigit (nI d) = some 1 := by
  have := isD_b hd
  unfold f_Mo_isDigit
  rw [show f_Mo_in (nI d) (1 : Int32) (6 : Int32) = _ from m_in (lo := 1) (hi := 6) (by omega) (by omega) (by omega), bnd_s]
  rfl
theorem m_give {h : PH} {mo : Nat} {x : ST} {m : Nat} {sv : Nat → ST} {tl : Nat} {tx : Nat → Int32} {t : Int32} (H : MW h mo x m sv tl tx t) (hv : VAL x) (hs : ∀ i, i < m → VAL (sv i)) {c d : Nat} (hc : c < 36) (hd : isD d = true) {F : Nat} (hF : 3000 ≤ F) :
    ∃ h', f_Mo_give F mo (nI c) (nI d) h = some (nI (mkd (tK x c)), h') ∧ MW h' mo (tR x, kpO (tK x) c d, tP x, upG (tG x) c d, 0, tE x) (svN m) (svS m sv x) tl tx 0 ∧ Fr (DM mo) h h' := by
  obtain ⟨h1, p1, H1, f1⟩ := H.t 0
  obtain ⟨h2, p2, H2, f2⟩ := m_change H1 hv hs hF
  obtain ⟨f, c1, c2⟩ := H2.2.2.1
  obtain ⟨h3, p3, q3, r3⟩ := sti (i := c) (nI (mkd fun e => tK x c e && decide (e = d))) c1 (by omega) (by omega)
  have H3 := H2.row r3 q3 (c2.k hc _)
  obtain ⟨h4, p4, q4, r4⟩ := sti (i := 72 + c) (nI d) q3 (by omega) (by omega)
  have H4 := H3.row r4 q4 ((c2.k hc _).g hc d)
  refine ⟨h4, ?_, H4.c (fun a ha e he => ?_) (fun _ _ => rfl), (f1.mo fun k hk => by simp only [DM]; omega).tr ((f2.mo fun k hk => by simp only [DM]; omega).tr ((r3.mo fun k hk => by simp only [DM]; omega).tr (r4.mo fun k hk => by simp only [DM]; omega)))⟩
  · unfold f_Mo_give
    rw [m_cell hc, bnd_s, if_neg (by decide), m_dig hd, bnd_s, if_neg (by decide), b_Mo_give_24, p1, bnd_s, H1.r.2.2.2.2.2.2.2.2.2.2.2.2, bnd_s, if_pos rfl, H1.r.1, bnd_s, p2, bnd_s, H2.r.2.1, bnd_s, ar_I c1 (by omega) (by omega), bnd_s, (c2.2.1 c hc).1, mkd_1 hd, mkd_and, bnd_s]
    refine Eq.trans (congrArg (fun z => bnd z _) p3) ?_
    rw [bnd_s, H3.r.2.1, bnd_s, show (72 : Int32) + nI c = nI (72 + c) from nI_add 72 c, p4, bnd_s]
    rfl
  · show (if a = c then _ else tK x a) e = kpO (tK x) c d a e
    unfold kpO
    by_cases w : a = c
    · subst w; rw [if_pos rfl]; simp
    · rw [if_neg w]; simp [w]
theorem m_strike {h : PH} {mo : Nat} {x : ST} {m : Nat} {sv : Nat → ST} {tl : Nat} {tx : Nat → Int32} {t : Int32} (H : MW h mo x m sv tl tx t) (hv : VAL x) (hs : ∀ i, i < m → VAL (sv i)) {c d : Nat} (hc : c < 36) (hd : isD d = true) {F : Nat} (hF : 3000 ≤ F) :
    ∃ h', f_Mo_strike F mo (nI c) (nI d) h = some (if tK x c d then 1 else 0, h') ∧ MW h' mo (tR x, stK (tK x) c d, tP x, tG x, 0, tE x) (svN m) (svS m sv x) tl tx 0 ∧ Fr (DM mo) h h' := by
  obtain ⟨h1, p1, H1, f1⟩ := H.t 0
  obtain ⟨h2, p2, H2, f2⟩ := m_change H1 hv hs hF
  obtain ⟨f, c1, c2⟩ := H2.2.2.1
  obtain ⟨h3, p3, q3, r3⟩ := sti (i := c) (nI (mkd fun e => tK x c e && !decide (e = d))) c1 (by omega) (by omega)
  have H3 := H2.row r3 q3 (c2.k hc _)
  refine ⟨h3, ?_, H3.c (fun a ha e he => ?_) (fun _ _ => rfl), (f1.mo fun k hk => by simp only [DM]; omega).tr ((f2.mo fun k hk => by simp only [DM]; omega).tr (r3.mo fun k hk => by simp only [DM]; omega))⟩
  · unfold f_Mo_strike
    rw [m_cell hc, bnd_s, if_neg (by decide), m_dig hd, bnd_s, if_neg (by decide), b_Mo_strike_24, p1, bnd_s, H1.r.2.2.2.2.2.2.2.2.2.2.2.2, bnd_s, if_pos rfl, H1.r.1, bnd_s, p2, bnd_s, H2.r.2.1, bnd_s, ar_I c1 (by omega) (by omega), bnd_s, (c2.2.1 c hc).1, m_has _ hd, bnd_s, bnd_s, ar_I c1 (by omega) (by omega), bnd_s, (c2.2.1 c hc).1, mkd_1 hd, mkd_sub]
    refine Eq.trans (congrArg (fun z => bnd z _) p3) ?_
    rw [bnd_s, cZ_b, bnd_s]
    rfl
  · show (if a = c then (fun e => tK x c e && !decide (e = d)) else tK x a) e = stK (tK x) c d a e
    unfold stK
    by_cases w : a = c
    · subst w; rw [if_pos rfl]; simp
    · rw [if_neg w]; simp [w]
