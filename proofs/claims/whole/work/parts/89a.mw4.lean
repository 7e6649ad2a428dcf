/-! The reference's calls: reading, the text, deductions. -/
theorem m_wh {a b : Nat} (h1 : a ≤ b) (h3 : b < 2 ^ 31) : f_Mo_in (nI a) (0 : Int32) (nI b) = some 1 := m_in (lo := 0) (by omega) h1 h3
theorem m_tot {h : PH} {mo : Nat} {x : ST} {m : Nat} {sv : Nat → ST} {tl : Nat} {tx : Nat → Int32} {t : Int32} (H : MW h mo x m sv tl tx t) {F : Nat} (hF : 40 ≤ F) : f_Mo_countOf_61 F F mo (0 : Int32) (0 : Int32) h = some (nI (tot (tK x))) := by
  obtain ⟨V, hmn⟩ := H.mn
  obtain ⟨s, e, h1⟩ := LC (fun n i (s : Int32) => f_Mo_countOf_61 F n mo s (nI i) h) (fun i s => s = nI (smN (fun c => sz (tK x c)) i)) 36
    (fun n i s hi e => by
      subst e
      refine ⟨_, rfl, ?_⟩
      show f_Mo_countOf_61 F (n + 1) mo _ (nI i) h = _
      rw [f_Mo_countOf_61, b_Mo_countOf_61, if_neg (show ¬ (36 : Int32) ≤ nI i from nI_ge (a := (i)) (b := 36) (by omega) (by omega)), H.r.2.1, bnd_s, (hmn.g hi).1, bnd_s, m_size _ (by omega), bnd_s, nI_add, nI_1]
      rfl) 36 0 0 F rfl (by omega) rfl
  obtain ⟨n, hn⟩ : ∃ n, F - 36 = n + 1 := ⟨F - 37, by omega⟩
  refine Eq.trans h1 ?_
  show f_Mo_countOf_61 F (F - 36) mo s (nI 36) h = _
  rw [hn, f_Mo_countOf_61, b_Mo_countOf_61, if_pos (show (36 : Int32) ≤ nI 36 from nI_le (a := 36) (b := 36) (by omega) (by omega)), e]
  rfl
theorem m_countOf {h : PH} {mo : Nat} {x : ST} {m : Nat} {sv : Nat → ST} {tl : Nat} {tx : Nat → Int32} {t : Int32} (H : MW h mo x m sv tl tx t) (hv : VAL x) {w : Nat} (hw : w < 6) {F : Nat} (hF : 3000 ≤ F) : f_Mo_countOf F mo (nI w) h = some (cntV x w) := by
  obtain ⟨V, hmn⟩ := H.mn
  unfold f_Mo_countOf
  show (if nI w = nI 0 then _ else (if nI w = nI 1 then _ else (if nI w = nI 2 then _ else (if nI w = nI 3 then _ else (if nI w = nI 4 then _ else _))))) = _
  rw [if_nI (by omega) (by omega), if_nI (by omega) (by omega), if_nI (by omega) (by omega), if_nI (by omega) (by omega), if_nI (by omega) (by omega)]
  unfold cntV
  by_cases q0 : w = 0
  · rw [if_pos q0, if_pos q0, hmn.n.1, bnd_s, hmn.n.2, bnd_s]
  rw [if_neg q0, if_neg q0]
  by_cases q1 : w = 1
  · rw [if_pos q1, if_pos q1, H.r.1, bnd_s, m_givens H hv.2.2.1 (by omega), bnd_s]
  rw [if_neg q1, if_neg q1]
  by_cases q2 : w = 2
  · rw [if_pos q2, if_pos q2, H.r.2.1, bnd_s, m_placed hmn (by omega), bnd_s]
  rw [if_neg q2, if_neg q2]
  by_cases q3 : w = 3
  · rw [if_pos q3, if_pos q3, m_tot H (by omega)]
  rw [if_neg q3, if_neg q3]
  by_cases q4 : w = 4
  · rw [if_pos q4, if_pos q4, H.r.2.1, bnd_s, m_isDead hmn (by omega), bnd_s]
    cases dd (tK x)
    · rw [if_pos (by rfl)]; rfl
    · rw [if_neg (by decide)]; rfl
  · rw [if_neg q4, if_neg q4, H.r.2.1, bnd_s, m_isSolved hmn (by omega), bnd_s]
    cases fin36 (tK x) (tP x)
    · rw [if_pos (by rfl)]; rfl
    · rw [if_neg (by decide)]; rfl
theorem DM.mo' {mo : Nat} {h h' : PH} (f : Fr (fun j => j = mo) h h') : Fr (DM mo) h h' := f.mo fun k hk => by simp only [DM]; omega
theorem MW.th {h : PH} {mo : Nat} {x : ST} {m : Nat} {sv : Nat → ST} {tl : Nat} {tx : Nat → Int32} {t : Int32} (H : MW h mo x m sv tl tx t) : gI h mo 10 5 = some t := H.r.2.2.2.2.2.2.2.2.2.2.2.2
theorem m_cnt {h : PH} {mo : Nat} {x : ST} {m : Nat} {sv : Nat → ST} {tl : Nat} {tx : Nat → Int32} {t : Int32} (H : MW h mo x m sv tl tx t) (hv : VAL x) {w : Nat} (hw : w < 6) {F : Nat} (hF : 3000 ≤ F) : ∃ h', f_Mo_count F mo (nI w) h = some (cntV x w, h') ∧ MW h' mo x m sv tl tx 0 ∧ Fr (DM mo) h h' := by
  obtain ⟨h1, p1, H1, f1⟩ := H.t 0
  refine ⟨h1, ?_, H1, DM.mo' f1⟩
  unfold f_Mo_count
  rw [show f_Mo_in (nI w) (0 : Int32) (5 : Int32) = _ from m_wh (b := 5) (by omega) (by omega), bnd_s, if_neg (by decide), b_Mo_count_15, p1, bnd_s, H1.th, bnd_s, if_pos rfl, H1.r.1, bnd_s, m_countOf H1 hv hw hF, bnd_s]
theorem m_cand {h : PH} {mo : Nat} {x : ST} {m : Nat} {sv : Nat → ST} {tl : Nat} {tx : Nat → Int32} {t : Int32} (H : MW h mo x m sv tl tx t) {c : Nat} (hc : c < 36) : ∃ h', f_Mo_candidates mo (nI c) h = some (nI (mkd (tK x c)), h') ∧ MW h' mo x m sv tl tx 0 ∧ Fr (DM mo) h h' := by
  obtain ⟨h1, p1, H1, f1⟩ := H.t 0
  obtain ⟨V, hmn⟩ := H1.mn
  refine ⟨h1, ?_, H1, DM.mo' f1⟩
  unfold f_Mo_candidates
  rw [m_cell hc, bnd_s, if_neg (by decide), b_Mo_candidates_13, p1, bnd_s, H1.th, bnd_s, if_pos rfl, H1.r.2.1, bnd_s, (hmn.g hc).1, bnd_s]
theorem m_valueOf {h : PH} {mo : Nat} {x : ST} {m : Nat} {sv : Nat → ST} {tl : Nat} {tx : Nat → Int32} {t : Int32} (H : MW h mo x m sv tl tx t) (hv : VAL x) {c w : Nat} (hc : c < 36) (hw : w < 3) {F : Nat} (hF : 3000 ≤ F) : f_Mo_valueOf F mo (nI c) (nI w) h = some (celV x c w) := by
  obtain ⟨V, hmn⟩ := H.mn
  obtain ⟨f, c1, c2, c3, c4, c5⟩ := H.2.2.1
  unfold f_Mo_valueOf
  show (if nI w = nI 1 then _ else (if nI w = nI 0 then _ else _)) = _
  rw [if_nI (by omega) (by omega), if_nI (by omega) (by omega)]
  unfold celV
  by_cases q1 : w = 1
  · rw [if_pos q1, if_neg (by omega), if_pos q1, H.r.2.1, bnd_s, show (72 : Int32) + nI c = nI (72 + c) from nI_add 72 c, ar_I c1 (by omega) (by omega), bnd_s, c4 c hc]
  rw [if_neg q1]
  by_cases q0 : w = 0
  · rw [if_pos q0, if_pos q0, H.r.2.1, bnd_s, (hmn.g hc).2, bnd_s]
    cases hP : tP x c
    · rw [if_neg (by decide), if_neg (by decide)]
    · rw [if_pos (show nI true.toNat = (1 : Int32) from rfl), if_pos rfl, bnd_s, (hmn.g hc).1, bnd_s]
      by_cases z : sz (tK x c) = 0
      · rw [if_pos z, if_pos (show nI (mkd (tK x c)) ≤ (0 : Int32) from by rw [nmkd_z.mpr z]; decide)]
      · have hm0 : mkd (tK x c) ≠ 0 := fun y => z (mkd_z.mp y)
        have hml := mkd_lt (tK x c)
        rw [if_neg z, if_neg (show ¬ nI (mkd (tK x c)) ≤ (0 : Int32) from nI_nle (n := mkd (tK x c)) (by omega) (by omega)), bnd_s, (hmn.g hc).1, bnd_s, m_least _ (by omega), bnd_s]
  · rw [if_neg q0, if_neg q0, if_neg q1]
    obtain ⟨s, e, h1⟩ := LC (fun n i (s : Int32) => f_Mo_valueOf_60 F n mo (nI c) s (nI i) h) (fun i s => s = nI (cnt (peer (tR x) c) i)) 36
      (fun n i s hi e => by
        subst e
        refine ⟨_, rfl, ?_⟩
        show f_Mo_valueOf_60 F (n + 1) mo (nI c) _ (nI i) h = _
        rw [f_Mo_valueOf_60, b_Mo_valueOf_60, if_neg (show ¬ (36 : Int32) ≤ nI i from nI_ge (a := (i)) (b := 36) (by omega) (by omega)), H.r.1, bnd_s, m_peers hmn hv.1 hc hi (by omega), bnd_s, cnt_s]
        cases peer (tR x) c i
        · rw [if_pos (by rfl), b_Mo_valueOf_83, nI_1]
          congr 1
          exact nI_add _ 0
        · rw [if_neg (by decide), b_Mo_valueOf_83, nI_1, nI_1]
          rfl) 36 0 0 F rfl (by omega) rfl
    obtain ⟨n, hn⟩ : ∃ n, F - 36 = n + 1 := ⟨F - 37, by omega⟩
    refine Eq.trans h1 ?_
    show f_Mo_valueOf_60 F (F - 36) mo (nI c) s (nI 36) h = _
    rw [hn, f_Mo_valueOf_60, b_Mo_valueOf_60, if_pos (show (36 : Int32) ≤ nI 36 from nI_le (a := 36) (b := 36) (by omega) (by omega)), e]
theorem m_cellV {h : PH} {mo : Nat} {x : ST} {m : Nat} {sv : Nat → ST} {tl : Nat} {tx : Nat → Int32} {t : Int32} (H : MW h mo x m sv tl tx t) (hv : VAL x) {c w : Nat} (hc : c < 36) (hw : w < 3) {F : Nat} (hF : 3000 ≤ F) : ∃ h', f_Mo_cell F mo (nI c) (nI w) h = some (celV x c w, h') ∧ MW h' mo x m sv tl tx 0 ∧ Fr (DM mo) h h' := by
  obtain ⟨h1, p1, H1, f1⟩ := H.t 0
  refine ⟨h1, ?_, H1, DM.mo' f1⟩
  unfold f_Mo_cell
  rw [m_cell hc, bnd_s, if_neg (by decide), show f_Mo_in (nI w) (0 : Int32) (2 : Int32) = _ from m_wh (b := 2) (by omega) (by omega), bnd_s, if_neg (by decide), b_Mo_cell_26, p1, bnd_s, H1.th, bnd_s, if_pos rfl, H1.r.1, bnd_s, m_valueOf H1 hv hc hw hF, bnd_s]
theorem m_con {h : PH} {mo : Nat} {x : ST} {m : Nat} {sv : Nat → ST} {tl : Nat} {tx : Nat → Int32} {t : Int32} (H : MW h mo x m sv tl tx t) (hv : VAL x) {k w : Nat} (hk : k < rn (tR x)) (hw : w < 3) : ∃ h', f_Mo_constraint mo (nI k) (nI w) h = some (conV x k w, h') ∧ MW h' mo x m sv tl tx 0 ∧ Fr (DM mo) h h' := by
  have h8 := hv.1.1
  obtain ⟨h1, p1, H1, f1⟩ := H.t 0
  obtain ⟨f, c1, ⟨c2, c2'⟩, _⟩ := H1.2.2.1
  obtain ⟨r1, r2, r3, _⟩ := c2' k hk
  refine ⟨h1, ?_, H1, DM.mo' f1⟩
  unfold f_Mo_constraint conV
  rw [H.r.1, bnd_s, m_isC H hv hk, bnd_s, if_neg (by decide), show f_Mo_in (nI w) (0 : Int32) (2 : Int32) = _ from m_wh (b := 2) (by omega) (by omega), bnd_s, if_neg (by decide), b_Mo_constraint_27, p1, bnd_s, H1.th, bnd_s, if_pos rfl, H1.r.2.1, bnd_s, e109, nI_add, ar_I c1 (by omega) (by omega), bnd_s]
  obtain rfl | rfl | rfl : w = 0 ∨ w = 1 ∨ w = 2 := by omega
  · rw [if_pos rfl, show 109 + 9 * k + 0 = 109 + 9 * k from rfl, r1]
  · rw [if_neg (by omega), if_pos rfl, show 109 + 9 * k + 1 = 110 + 9 * k by omega, r2]
  · rw [if_neg (by omega), if_neg (by omega), show 109 + 9 * k + 2 = 111 + 9 * k by omega, r3]
theorem m_cellOf {h : PH} {mo : Nat} {x : ST} {m : Nat} {sv : Nat → ST} {tl : Nat} {tx : Nat → Int32} {t : Int32} (H : MW h mo x m sv tl tx t) (hv : VAL x) {k j : Nat} (hk : k < rn (tR x)) (hj : j < rl (tR x) k) : ∃ h', f_Mo_cellOf mo (nI k) (nI j) h = some (nI (rc (tR x) k j), h') ∧ MW h' mo x m sv tl tx 0 ∧ Fr (DM mo) h h' := by
  have h8 := hv.1.1
  have hl6 := (hv.1.2 k hk).2.1
  have hmx := mxl_le (rk (tR x) k)
  obtain ⟨h1, p1, H1, f1⟩ := H.t 0
  obtain ⟨V, hmn⟩ := H.mn
  obtain ⟨V1, hmn1⟩ := H1.mn
  refine ⟨h1, ?_, H1, DM.mo' f1⟩
  unfold f_Mo_cellOf
  rw [H.r.1, bnd_s, m_isC H hv hk, bnd_s, if_neg (by decide), if_neg (nI_pos (by omega)), bnd_s, (hmn.k hv.1 hk).2.1, bnd_s, if_neg (show ¬ nI (rl (tR x) k) ≤ nI j from nI_ge (by omega) (by omega)), b_Mo_cellOf_26, if_neg (by decide), b_Mo_cellOf_37, p1, bnd_s, if_neg (by decide), H1.r.1, bnd_s, (hmn1.k hv.1 hk).2.2.2 j hj, bnd_s]
theorem m_logged {h : PH} {mo : Nat} {x : ST} {m : Nat} {sv : Nat → ST} {tl : Nat} {tx : Nat → Int32} {t : Int32} (H : MW h mo x m sv tl tx t) : ∃ h', f_Mo_logged mo h = some (nI (tN x), h') ∧ MW h' mo x m sv tl tx 0 ∧ Fr (DM mo) h h' := by
  obtain ⟨h1, p1, H1, f1⟩ := H.t 0
  obtain ⟨f, c1, c2, c3, c4, c5, c6⟩ := H1.2.2.1
  refine ⟨h1, ?_, H1, DM.mo' f1⟩
  unfold f_Mo_logged
  rw [p1, bnd_s, H1.r.2.1, bnd_s, show (181 : Int32) = nI 181 from rfl, ar_I c1 (by omega) (by omega), bnd_s, c5]
theorem m_step {h : PH} {mo : Nat} {x : ST} {m : Nat} {sv : Nat → ST} {tl : Nat} {tx : Nat → Int32} {t : Int32} (H : MW h mo x m sv tl tx t) (hv : VAL x) {i j : Nat} (hi : i < tN x) (hj : j < 3) : ∃ h', f_Mo_step mo (nI i) (nI j) h = some (tE x i j, h') ∧ MW h' mo x m sv tl tx 0 ∧ Fr (DM mo) h h' := by
  have h100 := hv.2.2.2
  obtain ⟨h1, p1, H1, f1⟩ := H.t 0
  obtain ⟨f, c1, c2, c3, c4, c5, c6⟩ := H1.2.2.1
  obtain ⟨f0, d1, d2, d3, d4, d5, d6⟩ := H.2.2.1
  refine ⟨h1, ?_, H1, DM.mo' f1⟩
  unfold f_Mo_step
  rw [H.r.2.1, bnd_s, show (181 : Int32) = nI 181 from rfl, ar_I d1 (by omega) (by omega), bnd_s, d5, show nI (tN x) - (1 : Int32) = nI (tN x - 1) from pk_sub (a := tN x) (b := 1) (by omega), m_wh (by omega) (by omega), bnd_s, if_neg (by decide), show f_Mo_in (nI j) (0 : Int32) (2 : Int32) = _ from m_wh (b := 2) (by omega) (by omega), bnd_s, if_neg (by decide), b_Mo_step_37, p1, bnd_s, H1.th, bnd_s, if_pos rfl, H1.r.2.1, bnd_s, show (3 : Int32) * nI i = nI (3 * i) from pk_mul 3 i, show (182 : Int32) + nI (3 * i) = nI (182 + 3 * i) from nI_add 182 _, nI_add, ar_I c1 (by omega) (by omega), bnd_s, c6 i j hi hj]
theorem m_text {h h' : PH} {mo : Nat} {x : ST} {m : Nat} {sv : Nat → ST} {tl tl' : Nat} {tx tx' : Nat → Int32} {t : Int32} {v : Int32} {g V : Nat → _} (H : MW h mo x m sv tl tx t) (f : Fr (fun j => j = mo ∨ j = mo + 3) h h') (e : h'.2 mo = obj 10 28 (updV V 4 (.int (nI tl')))) (e0 : h.2 mo = obj 10 28 V) (hl : tl' ≤ 150) (e3 : h'.2 (mo + 3) = oI 150 g) (hg : ∀ i, i < tl' → g i = tx' i) : MW h' mo x m sv tl' tx' t := by
  obtain ⟨⟨W, a0, a1, a2, a3, a4⟩, ⟨b1, b2⟩, ⟨g1, c1, c2⟩, ⟨g2, d1, d2⟩, ⟨g3, e1, e2⟩, q⟩ := H
  have hWV : ∀ k, k < 28 → W k = V k := fun k hk => by
    have z1 := ob_g e0 hk
    rw [ob_g a0 hk] at z1
    simpa using z1
  have hu : ∀ k, isF k = false → k < 28 → updV V 4 (.int (nI tl')) k = W k := fun k h1 h2 => by
    rw [vu_n _ _ (show k ≠ 4 from fun z => by subst z; cases h1), hWV k h2]
  obtain ⟨m1, m2, m3, m4, m5, m6, m7, m8, m9, m10, m11, m12, m13, m14⟩ := a1
  refine ⟨⟨_, e, ⟨(hu 0 rfl (by omega)).trans m1, (hu 1 rfl (by omega)).trans m2, (hu 3 rfl (by omega)).trans m3, (hu 9 rfl (by omega)).trans m4, (hu 10 rfl (by omega)).trans m5, (hu 11 rfl (by omega)).trans m6, (hu 12 rfl (by omega)).trans m7, (hu 13 rfl (by omega)).trans m8, (hu 14 rfl (by omega)).trans m9, (hu 15 rfl (by omega)).trans m10, (hu 16 rfl (by omega)).trans m11, (hu 21 rfl (by omega)).trans m12, (hu 24 rfl (by omega)).trans m13, (hu 25 rfl (by omega)).trans m14⟩, ?_, vu_s _ _ _, ?_⟩, ⟨b1, hl⟩, ⟨g1, (f.2 _ (by omega)).trans c1, c2⟩, ⟨g2, (f.2 _ (by omega)).trans d1, d2⟩, ⟨g, e3, hg⟩, fun j h1 h2 => by
      exact (q j h1 h2).fr (f.2 _ (by omega))⟩
  · rw [vu_n _ _ (by omega), ← hWV 2 (by omega), a2]
  · rw [vu_n _ _ (by omega), ← hWV 5 (by omega), a4]
theorem m_clearText {h : PH} {mo : Nat} {x : ST} {m : Nat} {sv : Nat → ST} {tl : Nat} {tx : Nat → Int32} {t : Int32} (H : MW h mo x m sv tl tx t) : ∃ h', f_Mo_clearText mo h = some (nI tl, h') ∧ MW h' mo x m sv 0 tx 0 ∧ Fr (DM mo) h h' := by
  obtain ⟨h1, p1, H1, f1⟩ := H.t 0
  obtain ⟨⟨V, a0, _⟩, _, _, _, ⟨g3, e1, e2⟩, _⟩ := id H1
  obtain ⟨h2, p2, q2, r2⟩ := puti (k := 4) (.int (nI 0)) a0 (by omega)
  refine ⟨h2, ?_, m_text (v := 0) H1 (r2.mo fun k hk => Or.inl hk) q2 a0 (by omega) ((r2.2 _ (by omega)).trans e1) (fun i hi => absurd hi (Nat.not_lt_zero i)), (DM.mo' f1).tr (DM.mo' r2)⟩
  unfold f_Mo_clearText
  rw [p1, bnd_s, H1.r.2.2.2.2.2.2.2.2.2.2.2.1, bnd_s, show (0 : Int32) = nI 0 from rfl, p2, bnd_s]
theorem m_append {h : PH} {mo : Nat} {x : ST} {m : Nat} {sv : Nat → ST} {tl : Nat} {tx : Nat → Int32} {t : Int32} (H : MW h mo x m sv tl tx t) {v : Nat} (hv : v ≤ 127) (hl : tl < 150) : ∃ h', f_Mo_append mo (nI v) h = some (nI (tl + 1), h') ∧ MW h' mo x m sv (tl + 1) (txA tl tx (nI v)) 0 ∧ Fr (DM mo) h h' := by
  obtain ⟨h1, p1, H1, f1⟩ := H.t 0
  obtain ⟨⟨V, a0, a1, a2, a3, a4⟩, _, _, _, ⟨g3, e1, e2⟩, _⟩ := id H1
  obtain ⟨h2, p2, q2, r2⟩ := sti (i := tl) (nI v) e1 hl (by omega)
  have z2 := (r2.2 mo (by omega)).trans a0
  obtain ⟨h3, p3, q3, r3⟩ := puti (k := 4) (.int (nI (tl + 1))) z2 (by omega)
  have F13 : Fr (fun j => j = mo ∨ j = mo + 3) h1 h3 := (r2.mo fun k hk => Or.inr hk).tr (r3.mo fun k hk => Or.inl hk)
  refine ⟨h3, ?_, m_text (v := 0) H1 F13 q3 a0 (by omega) ((r3.2 _ (by omega)).trans q2) (fun i hi => ?_), (DM.mo' f1).tr (F13.mo fun k hk => by simp only [DM]; omega)⟩
  · unfold f_Mo_append
    rw [show f_Mo_in (nI v) (0 : Int32) (127 : Int32) = _ from m_wh (b := 127) (by omega) (by omega), bnd_s, if_neg (by decide), H.r.2.2.2.2.2.2.2.2.2.2.2.1, bnd_s, if_neg (show ¬ nI tl = (150 : Int32) from fun z => absurd ((nI_eq (a := tl) (b := 150) (by omega) (by omega)).mp z) (by omega)), b_Mo_append_30, p1, bnd_s, H1.th, bnd_s, if_pos rfl, H1.r.2.2.2.1, bnd_s, H1.r.2.2.2.2.2.2.2.2.2.2.2.1, bnd_s, p2, bnd_s, ob_I z2 (by omega) a3, bnd_s, nI_1, p3, bnd_s, ob_I q3 (by omega) (vu_s _ _ _), bnd_s]
  · show upd g3 tl (nI v) i = if i = tl then nI v else tx i
    by_cases w : i = tl
    · subst w; rw [pk_us, if_pos rfl]
    · rw [pk_un w, if_neg w]; exact e2 i (by omega)
