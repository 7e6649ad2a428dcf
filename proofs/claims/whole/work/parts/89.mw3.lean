/-! The reference's calls: constraints, undo, reading, the text. -/
theorem RA.R {f f' : Nat → Int32} {x : ST} {R' : RT} (H : RA f x) (e : ∀ j, j < 108 ∨ 181 ≤ j → f' j = f j) (r : MRu f' R') : RA f' (R', tK x, tP x, tG x, tN x, tE x) := by
  obtain ⟨_, c3, c4, c5, c6⟩ := H
  exact ⟨r, fun a ha => ⟨(e _ (by omega)).trans (c3 a ha).1, (e _ (by omega)).trans (c3 a ha).2⟩, fun a ha => (e _ (by omega)).trans (c4 a ha), (e _ (by omega)).trans c5, fun i j hi hj => (e _ (by omega)).trans (c6 i j hi hj)⟩
theorem e109 (k : Nat) : (109 : Int32) + ((9 : Int32) * nI k) = nI (109 + 9 * k) := by
  rw [show (9 : Int32) * nI k = nI (9 * k) from pk_mul 9 k]
  exact nI_add 109 _
theorem m_most {w : Nat} (hw : w < 3) : f_Mo_mostCells (nI w) = some (nI (mxl w)) := by
  obtain rfl | rfl | rfl : w = 0 ∨ w = 1 ∨ w = 2 := by omega
  · rfl
  · rfl
  · rfl
theorem m_add {h : PH} {mo : Nat} {x : ST} {m : Nat} {sv : Nat → ST} {tl : Nat} {tx : Nat → Int32} {t : Int32} (H : MW h mo x m sv tl tx t) (hv : VAL x) (hs : ∀ i, i < m → VAL (sv i)) {w c s : Nat} (hc : c < 36) (hw : w < 3) (hss : if w = 0 then 1 ≤ s ∧ s ≤ 24 else s = 0) (h8 : rn (tR x) < 8) {F : Nat} (hF : 3000 ≤ F) :
    ∃ h', f_Mo_addConstraint F mo (nI w) (nI c) (nI s) h = some (nI (rn (tR x)), h') ∧ MW h' mo (exR (adR (tR x) w s) (rn (tR x)) c, tK x, tP x, tG x, 0, tE x) (svN m) (svS m sv x) tl tx 0 ∧ Fr (DM mo) h h' := by
  obtain ⟨V0, hmn⟩ := H.mn
  have h30 : f_Mo_addConstraint F mo (nI w) (nI c) (nI s) h = b_Mo_addConstraint_30 F mo (nI w) (nI c) (nI s) h := by
    unfold f_Mo_addConstraint
    rw [show f_Mo_in (nI w) (0 : Int32) (2 : Int32) = _ from m_in (lo := 0) (hi := 2) (by omega) (by omega) (by omega), bnd_s, if_neg (by decide)]
    by_cases q : w = 0
    · rw [if_pos q] at hss
      rw [if_pos (show nI w = (0 : Int32) from congrArg nI q), show f_Mo_in (nI s) (1 : Int32) (24 : Int32) = _ from m_in (lo := 1) (hi := 24) (by omega) (by omega) (by omega), bnd_s, if_neg (by decide)]
    · rw [if_neg q] at hss
      rw [if_neg (show ¬ nI w = (0 : Int32) from fun z => q ((nI_eq (a := w) (b := 0) (by omega) (by omega)).mp z)), if_pos (show nI s = (0 : Int32) from congrArg nI hss)]
  obtain ⟨h1, p1, H1, f1⟩ := H.t 0
  obtain ⟨h2, p2, H2, f2⟩ := m_change H1 hv hs hF
  obtain ⟨V2, hmn2⟩ := H2.mn
  obtain ⟨f, c1, c2⟩ := H2.2.2.1
  have e0 : h2.2 mo = obj 10 28 V2 := hmn2.1
  have hV := hmn2.2.1.1
  obtain ⟨h3, p3, q3, r3⟩ := sti (i := 109 + 9 * rn (tR x)) (nI w) c1 (by omega) (by omega)
  obtain ⟨h4, p4, q4, r4⟩ := sti (i := 110 + 9 * rn (tR x)) (nI s) q3 (by omega) (by omega)
  obtain ⟨h5, p5, q5, r5⟩ := sti (i := 111 + 9 * rn (tR x)) (nI 1) q4 (by omega) (by omega)
  obtain ⟨h6, p6, q6, r6⟩ := sti (i := 112 + 9 * rn (tR x)) (nI c) q5 (by omega) (by omega)
  obtain ⟨h7, p7, q7, r7⟩ := sti (i := 108) (nI (rn (tR x) + 1)) q6 (by omega) (by omega)
  have F37 : Fr (fun k => k = mo + 1) h2 h7 := r3.tr (r4.tr (r5.tr (r6.tr r7)))
  have hr : ∀ s, s.2 mo = h2.2 mo → gR s mo 10 0 = some (mo + 1) := fun s z => ob_R (z.trans e0) (by omega) hV
  refine ⟨h7, ?_, H2.row F37 q7 ((c2.R (R' := exR (adR (tR x) w s) (rn (tR x)) c) (fun j hj => by rw [pk_un (by omega), pk_un (by omega), pk_un (by omega), pk_un (by omega), pk_un (by omega)]) ⟨pk_us, fun k hk => ?_⟩)), (f1.mo fun k hk => by simp only [DM]; omega).tr ((f2.mo fun k hk => by simp only [DM]; omega).tr (F37.mo fun k hk => by simp only [DM]; omega))⟩
  · rw [h30, b_Mo_addConstraint_30, b_Mo_addConstraint_35, m_cell hc, bnd_s, if_neg (by decide), if_neg (by decide), hmn.n.1, bnd_s, hmn.n.2, bnd_s, if_neg (show ¬ nI (rn (tR x)) = (8 : Int32) from fun z => absurd ((nI_eq (a := rn (tR x)) (b := 8) (by omega) (by omega)).mp z) (by omega)), b_Mo_addConstraint_75, p1, bnd_s, H1.r.2.2.2.2.2.2.2.2.2.2.2.2, bnd_s, if_pos rfl, H1.r.1, bnd_s, p2, bnd_s, hmn2.n.1, bnd_s, hmn2.n.2, bnd_s, show tR (wN x) = tR x from rfl, e109, bnd_s, bnd_s, p3, bnd_s, hr h3 (r3.2 _ (by omega)), bnd_s, nI_1, show 109 + 9 * rn (tR x) + 1 = 110 + 9 * rn (tR x) by omega, p4, bnd_s, hr h4 ((r3.tr r4).2 _ (by omega)), bnd_s, show nI (109 + 9 * rn (tR x)) + (2 : Int32) = nI (111 + 9 * rn (tR x)) by rw [show nI (109 + 9 * rn (tR x)) + (2 : Int32) = nI (109 + 9 * rn (tR x) + 2) from nI_add _ 2]; congr 1; omega, show (1 : Int32) = nI 1 from rfl, p5, bnd_s, hr h5 ((r3.tr (r4.tr r5)).2 _ (by omega)), bnd_s, show nI (109 + 9 * rn (tR x)) + (3 : Int32) = nI (112 + 9 * rn (tR x)) by rw [show nI (109 + 9 * rn (tR x)) + (3 : Int32) = nI (109 + 9 * rn (tR x) + 3) from nI_add _ 3]; congr 1; omega, p6, bnd_s, hr h6 ((r3.tr (r4.tr (r5.tr r6))).2 _ (by omega)), bnd_s]
    have a6 : aI h6 (mo + 1) (nI 108) = some (nI (rn (tR x))) := by
      rw [ar_I q6 (by omega) (by omega), pk_un (by omega), pk_un (by omega), pk_un (by omega), pk_un (by omega)]
      exact congrArg some c2.1.1
    rw [show (108 : Int32) = nI 108 from rfl, a6, bnd_s, show nI (rn (tR x)) + nI 1 = nI (rn (tR x) + 1) from nI_add _ 1, p7, bnd_s, hr h7 (F37.2 _ (by omega)), bnd_s, ar_I q7 (by omega) (by omega), pk_us, bnd_s, show nI (rn (tR x) + 1) - nI 1 = nI (rn (tR x) + 1 - 1) from pk_sub (by omega), Nat.add_sub_cancel]
  · have hk' : k < rn (tR x) + 1 := hk
    by_cases q : k = rn (tR x)
    · subst q
      refine ⟨?_, ?_, ?_, fun j hj => ?_⟩
      · rw [pk_un (by omega), pk_un (by omega), pk_un (by omega), pk_un (by omega), pk_us]
        show nI w = nI (if rn (tR x) = rn (tR x) then w else _)
        rw [if_pos rfl]
      · rw [pk_un (by omega), pk_un (by omega), pk_un (by omega), pk_us]
        show nI s = nI (if rn (tR x) = rn (tR x) then s else _)
        rw [if_pos rfl]
      · rw [pk_un (by omega), pk_un (by omega), pk_us]
        show nI 1 = nI (if rn (tR x) = rn (tR x) then rl (adR (tR x) w s) (rn (tR x)) + 1 else _)
        rw [if_pos rfl, adR_r]
      · have hj' : j < (if rn (tR x) = rn (tR x) then rl (adR (tR x) w s) (rn (tR x)) + 1 else _) := hj
        rw [if_pos rfl, adR_r] at hj'
        have hj0 : j = 0 := by omega
        subst hj0
        rw [show 112 + 9 * rn (tR x) + 0 = 112 + 9 * rn (tR x) from rfl, pk_un (by omega), pk_us]
        show nI c = nI (if rn (tR x) = rn (tR x) ∧ 0 = rl (adR (tR x) w s) (rn (tR x)) then c else _)
        rw [if_pos ⟨rfl, adR_r.symm⟩]
    · have hk2 : k < rn (tR x) := by omega
      have hl := (hv.1.2 k hk2).2.1
      have hmx := mxl_le (rk (tR x) k)
      obtain ⟨r1, r2, r3', r4'⟩ := c2.1.2 k hk2
      have hrl : rl (exR (adR (tR x) w s) (rn (tR x)) c) k = rl (tR x) k := by
        show (if k = rn (tR x) then _ else (if k = rn (tR x) then 0 else rl (tR x) k)) = _
        rw [if_neg q, if_neg q]
      have eu : ∀ j, 108 < j → j < 109 + 9 * rn (tR x) → upd (upd (upd (upd (upd f (109 + 9 * rn (tR x)) (nI w)) (110 + 9 * rn (tR x)) (nI s)) (111 + 9 * rn (tR x)) (nI 1)) (112 + 9 * rn (tR x)) (nI c)) 108 (nI (rn (tR x) + 1)) j = f j := fun j h1 h2 => by rw [pk_un (by omega), pk_un (by omega), pk_un (by omega), pk_un (by omega), pk_un (by omega)]
      refine ⟨?_, ?_, ?_, fun j hj => ?_⟩
      · rw [eu _ (by omega) (by omega), r1]
        show nI (rk (tR x) k) = nI (if k = rn (tR x) then w else rk (tR x) k)
        rw [if_neg q]
      · rw [eu _ (by omega) (by omega), r2]
        show nI (rs (tR x) k) = nI (if k = rn (tR x) then s else rs (tR x) k)
        rw [if_neg q]
      · rw [eu _ (by omega) (by omega), r3', hrl]
        rfl
      · rw [hrl] at hj
        rw [eu _ (by omega) (by omega)]
        refine (r4' j hj).trans ?_
        show nI (rc (tR x) k j) = nI (if k = rn (tR x) ∧ j = rl (adR (tR x) w s) (rn (tR x)) then c else rc (tR x) k j)
        rw [if_neg (fun z => q z.1)]
theorem m_isC {h : PH} {mo : Nat} {x : ST} {m : Nat} {sv : Nat → ST} {tl : Nat} {tx : Nat → Int32} {t : Int32} (H : MW h mo x m sv tl tx t) (hv : VAL x) {k : Nat} (hk : k < rn (tR x)) : f_Mo_isConstraint mo (nI k) h = some 1 := by
  obtain ⟨V, hmn⟩ := H.mn
  have h8 := hv.1.1
  unfold f_Mo_isConstraint
  rw [hmn.n.1, bnd_s, hmn.n.2, bnd_s, show nI (rn (tR x)) - (1 : Int32) = nI (rn (tR x) - 1) from pk_sub (a := rn (tR x)) (b := 1) (by omega), show f_Mo_in (nI k) (0 : Int32) (nI (rn (tR x) - 1)) = _ from m_in (lo := 0) (by omega) (by omega) (by omega), bnd_s]
  rfl
theorem m_ext {h : PH} {mo : Nat} {x : ST} {m : Nat} {sv : Nat → ST} {tl : Nat} {tx : Nat → Int32} {t : Int32} (H : MW h mo x m sv tl tx t) (hv : VAL x) (hs : ∀ i, i < m → VAL (sv i)) {k c : Nat} (hc : c < 36) (hk : k < rn (tR x)) (hl : rl (tR x) k < mxl (rk (tR x) k)) (hm : mem (tR x) k c = false) {F : Nat} (hF : 3000 ≤ F) :
    ∃ h', f_Mo_extend F mo (nI k) (nI c) h = some (nI (rl (tR x) k + 1), h') ∧ MW h' mo (exR (tR x) k c, tK x, tP x, tG x, 0, tE x) (svN m) (svS m sv x) tl tx 0 ∧ Fr (DM mo) h h' := by
  have h8 := hv.1.1
  obtain ⟨hk3, hl6, _⟩ := hv.1.2 k hk
  have hmx := mxl_le (rk (tR x) k)
  obtain ⟨h1, p1, H1, f1⟩ := H.t 0
  obtain ⟨V1, hmn1⟩ := H1.mn
  obtain ⟨k1, k2, k3, k4⟩ := hmn1.k hv.1 hk
  obtain ⟨h2, p2, H2, f2⟩ := m_change H1 hv hs hF
  obtain ⟨V2, hmn2⟩ := H2.mn
  obtain ⟨f, c1, c2⟩ := H2.2.2.1
  obtain ⟨h3, p3, q3, r3⟩ := sti (i := 112 + 9 * k + rl (tR x) k) (nI c) c1 (by omega) (by omega)
  obtain ⟨h4, p4, q4, r4⟩ := sti (i := 111 + 9 * k) (nI (rl (tR x) k + 1)) q3 (by omega) (by omega)
  have F34 : Fr (fun k => k = mo + 1) h2 h4 := r3.tr r4
  refine ⟨h4, ?_, H2.row F34 q4 (c2.R (R' := exR (tR x) k c) (fun j hj => by rw [pk_un (by omega), pk_un (by omega)]) ⟨?_, fun i hi => ?_⟩), (f1.mo fun k hk => by simp only [DM]; omega).tr ((f2.mo fun k hk => by simp only [DM]; omega).tr (F34.mo fun k hk => by simp only [DM]; omega))⟩
  · unfold f_Mo_extend
    rw [H.r.1, bnd_s, m_isC H hv hk, bnd_s, if_neg (by decide), m_cell hc, bnd_s, if_neg (by decide), b_Mo_extend_21, p1, bnd_s, H1.r.2.2.2.2.2.2.2.2.2.2.2.2, bnd_s, if_pos rfl, H1.r.1, bnd_s, k2, bnd_s, bnd_s, m_contains hmn1 hv.1 hk hc (by omega), bnd_s, hm, if_pos (by rfl), bnd_s, k1, bnd_s, m_most (by omega), bnd_s, if_neg (show ¬ nI (rl (tR x) k) = nI (mxl (rk (tR x) k)) from fun z => absurd ((nI_eq (by omega) (by omega)).mp z) (by omega)), bnd_s, p2, bnd_s, H2.r.2.1, bnd_s, e109, show (nI (109 + 9 * k) + (3 : Int32)) + nI (rl (tR x) k) = nI (112 + 9 * k + rl (tR x) k) by rw [show nI (109 + 9 * k) + (3 : Int32) = nI (109 + 9 * k + 3) from nI_add _ 3, nI_add]; congr 1; omega, p3, bnd_s, ob_R ((r3.2 _ (by omega)).trans hmn2.1) (by omega) hmn2.2.1.1, bnd_s, show nI (109 + 9 * k) + (2 : Int32) = nI (111 + 9 * k) by rw [show nI (109 + 9 * k) + (2 : Int32) = nI (109 + 9 * k + 2) from nI_add _ 2]; congr 1; omega, nI_1, p4, bnd_s]
  · rw [pk_un (by omega), pk_un (by omega)]; exact c2.1.1
  · have hi' : i < rn (tR x) := hi
    obtain ⟨r1, r2, r3', r4'⟩ := c2.1.2 i hi'
    have hli := (hv.1.2 i hi').2.1
    have hmi := mxl_le (rk (tR x) i)
    refine ⟨by rw [pk_un (by omega), pk_un (by omega)]; exact r1, by rw [pk_un (by omega), pk_un (by omega)]; exact r2, ?_, fun j hj => ?_⟩
    · show _ = nI (if i = k then rl (tR x) k + 1 else rl (tR x) i)
      by_cases q : i = k
      · subst q; rw [pk_us, if_pos rfl]
      · rw [pk_un (by omega), pk_un (by omega), if_neg q]; exact r3'
    · have hj' : j < (if i = k then rl (tR x) k + 1 else rl (tR x) i) := hj
      show _ = nI (if i = k ∧ j = rl (tR x) k then c else rc (tR x) i j)
      by_cases q : i = k
      · subst q
        rw [if_pos rfl] at hj'
        by_cases z : j = rl (tR x) i
        · subst z
          rw [pk_un (by omega), pk_us, if_pos ⟨rfl, rfl⟩]
        · rw [pk_un (by omega), pk_un (by omega), if_neg (fun y => z y.2)]; exact r4' j (by show j < rl (tR x) i; omega)
      · rw [if_neg q] at hj'
        rw [pk_un (by omega), pk_un (by omega), if_neg (fun y => q y.1)]; exact r4' j hj'
theorem m_undo {h : PH} {mo : Nat} {x : ST} {m : Nat} {sv : Nat → ST} {tl : Nat} {tx : Nat → Int32} {t : Int32} (H : MW h mo x m sv tl tx t) (hs : ∀ i, i < m → VAL (sv i)) (hm : 0 < m) {F : Nat} (hF : 3000 ≤ F) :
    ∃ h', f_Mo_undo F mo h = some (nI (m - 1), h') ∧ MW h' mo (sv (m - 1)) (m - 1) sv tl tx 0 ∧ Fr (DM mo) h h' := by
  obtain ⟨h1, p1, H1, f1⟩ := H.t 0
  obtain ⟨⟨V, a0, a1, a2, a3, a4⟩, ⟨b1, b2⟩, ⟨g1, c1, c2⟩, ⟨g2, d1, d2⟩, ⟨g3, e1, e2⟩, g⟩ := id H1
  obtain ⟨h2, p2, q2, r2⟩ := puti (k := 2) (.int (nI (m - 1))) a0 (by omega)
  have n1 := a1.up (k := 2) (.int (nI (m - 1))) (by rfl)
  obtain ⟨s, ⟨f, i1, i2, i3⟩, el⟩ := LC (fun n i s => f_Mo_undo_37 F n mo (nI i) s) (fun i s => ∃ f, s.2 (mo + 1) = oI 482 f ∧ (∀ j, j < i → f j = g2 (482 * (m - 1) + j)) ∧ Fr (fun k => k = mo + 1) h2 s) 482
    (fun n i s hi ⟨f, i1, i2, i3⟩ => by
      obtain ⟨s', p5, q5, r5⟩ := sti (i := i) (g2 (482 * (m - 1) + i)) i1 (by omega) (by omega)
      refine ⟨s', ⟨_, q5, fun j hj => ?_, i3.tr r5⟩, ?_⟩
      · by_cases w : j = i
        · subst w; exact pk_us
        · rw [pk_un w]; exact i2 j (by omega)
      · show f_Mo_undo_37 F (n + 1) mo (nI i) s = _
        have z0 := (i3.2 mo (by omega)).trans q2
        rw [f_Mo_undo_37, b_Mo_undo_37, if_neg (show ¬ (482 : Int32) ≤ nI i from nI_ge (a := (i)) (b := 482) (by omega) (by omega)), ob_R z0 (by omega) n1.1, bnd_s, ob_R z0 (by omega) n1.2.1, bnd_s, ob_I z0 (by omega) (vu_s _ _ _), bnd_s, show (482 : Int32) * nI (m - 1) = nI (482 * (m - 1)) from pk_mul 482 _, nI_add, ar_I ((i3.2 _ (by omega)).trans ((r2.2 _ (by omega)).trans d1)) (by omega) (by omega), bnd_s, p5, bnd_s, nI_1]) 482 0 h2 F rfl (by omega) ⟨g1, (r2.2 _ (by omega)).trans c1, fun j hj => absurd hj (Nat.not_lt_zero j), Fr.rf _ _⟩
  have z0 := (i3.2 mo (by omega)).trans q2
  have es : ∀ k, k ≠ mo → k ≠ mo + 1 → s.2 k = h1.2 k := fun k k1 k2 => (i3.2 k k2).trans (r2.2 k k1)
  refine ⟨s, ?_, ⟨⟨_, z0, n1, vu_s _ _ _, (vu_n _ _ (by omega)).trans a3, (vu_n _ _ (by omega)).trans a4⟩, ⟨by omega, b2⟩, ⟨f, i1, (d2 (m - 1) (by omega)).x (hs _ (by omega)) fun j hj => i2 j hj⟩, ⟨g2, (es _ (by omega) (by omega)).trans d1, fun i hi => d2 i (by omega)⟩, ⟨g3, (es _ (by omega) (by omega)).trans e1, e2⟩, fun j h1 h2 => by
      exact (g j h1 h2).fr (es _ (by omega) (by omega))⟩, (f1.mo fun k hk => by simp only [DM]; omega).tr ((r2.mo fun k hk => by simp only [DM]; omega).tr (i3.mo fun k hk => by simp only [DM]; omega))⟩
  obtain ⟨n, hn⟩ : ∃ n, F - 482 = n + 1 := ⟨F - 483, by omega⟩
  unfold f_Mo_undo
  rw [H.r.2.2.2.2.2.2.2.2.2.2.1, bnd_s, if_neg (show ¬ nI m = (0 : Int32) from fun z => absurd ((nI_eq (a := m) (b := 0) (by omega) (by omega)).mp z) (by omega)), b_Mo_undo_13, p1, bnd_s, H1.r.2.2.2.2.2.2.2.2.2.2.2.2, bnd_s, if_pos rfl, H1.r.2.2.2.2.2.2.2.2.2.2.1, bnd_s, show nI m - (1 : Int32) = nI (m - 1) from pk_sub (a := m) (b := 1) (by omega), p2, bnd_s]
  refine Eq.trans el ?_
  show f_Mo_undo_37 F (F - 482) mo (nI 482) s = _
  rw [hn, f_Mo_undo_37, b_Mo_undo_37, if_pos (show (482 : Int32) ≤ nI 482 by decide), ob_I z0 (by omega) (vu_s _ _ _), bnd_s]
