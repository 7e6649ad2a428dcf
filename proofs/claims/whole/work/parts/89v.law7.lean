/-! The law: constraint, cellOf, step, extend, addConstraint. -/
theorem in_no1 {v : Int32} {n : Nat} (hn : n < 2 ^ 31) (w : ¬ ∃ k, k < n ∧ v = nI k) : f_Mo_in v (0 : Int32) (nI n - (1 : Int32)) = some 0 := by
  rcases Nat.eq_zero_or_pos n with q | q
  · subst q
    unfold f_Mo_in
    rcases arg_c v with z | ⟨j, hj, rfl⟩
    · rw [if_pos z]
    · rw [if_neg (nI_pos hj), show nI 0 - (1 : Int32) = (-1 : Int32) by decide, if_pos (Int32.lt_of_lt_of_le (show (-1 : Int32) < 0 by decide) (show (0 : Int32) ≤ nI j from nI_le (a := 0) (b := j) (by omega) hj))]
  · rw [show nI n - (1 : Int32) = nI (n - 1) from pk_sub (a := n) (b := 1) (by omega)]
    exact in_no (lo := 0) (hi := n - 1) (by omega) (by omega) fun ⟨j, _, h2, h3⟩ => w ⟨j, by omega, h3⟩
theorem ccn_no {h : PH} {x : ST} {m : Nat} {sv : Nat → ST} {tl : Nat} {tx : Nat → Int32} (H : CW h x m sv tl tx) {v : Int32} (hR : ROK (tR x)) (w : ¬ ∃ k, k < rn (tR x) ∧ v = nI k) : f_Np_checkConstraint 0 v h = some (.inl 0, h) := by
  have h8 := hR.1
  obtain ⟨n1, n2, n3, n4, n5, n6, n7, _⟩ := np_hd H
  obtain ⟨⟨T0, S0, hC1, hC2⟩, _⟩ := H
  unfold f_Np_checkConstraint
  rcases arg_c v with z | ⟨j, hj, rfl⟩
  · rw [if_pos z]; rfl
  · rw [if_neg (nI_pos hj), n2, bnd_s, n4, bnd_s, (ru_ck hC1.2.2.1).2, bnd_s, if_neg (show ¬ nI j < nI (rn (tR x)) from nI_nlt (Nat.le_of_not_lt fun z => w ⟨j, z, rfl⟩) hj)]; rfl
theorem mcn_no {h : PH} {mo : Nat} {x : ST} {m : Nat} {sv : Nat → ST} {tl : Nat} {tx : Nat → Int32} {t v : Int32} (H : MW h mo x m sv tl tx t) (hv : VAL x) (w : ¬ ∃ k, k < rn (tR x) ∧ v = nI k) : f_Mo_isConstraint mo v h = some 0 := by
  obtain ⟨V, hmn⟩ := H.mn
  have h8 := hv.1.1
  unfold f_Mo_isConstraint
  rw [hmn.n.1, bnd_s, hmn.n.2, bnd_s, in_no1 (by omega) w, bnd_s]
  rfl
theorem l_553 {F L : Nat} {xs : Nat → Int32} {k : Nat → Nat → Nat → Int32 → PH → Option Int32} {i v1 v2 : Int32} {h : PH} (H : IVe h) (hF : 3000 + nB 36 ≤ F) (e1 : xI L xs (i + 1) = some v1) (e2 : xI L xs (i + 2) = some v2) : ∃ h', IVe h' ∧ b_Law_law_553 F L xs k 0 263 278 i h = k 0 263 278 (i + 4) h' := by
  have hF3 := F3 hF
  obtain ⟨x, m, sv, tl, tx, I⟩ := H
  obtain ⟨C, _, hv, hs, hm, _⟩ := id I
  have hb : b_Law_law_553 F L xs k 0 263 278 i h = LWT k i (f_Np_constraint 0 v1 v2 h) (hd2 0 1) (fun h => f_Mo_constraint 263 v1 v2 h) h := by
    rw [b_Law_law_553, e1, e2]; rfl
  rw [hb]
  by_cases w : ∃ j, j < rn (tR x) ∧ v1 = nI j
  · obtain ⟨c, hc, rfl⟩ := w
    by_cases w2 : ∃ j, j ≤ 2 ∧ v2 = nI j
    · obtain ⟨d, hd, rfl⟩ := w2
      exact st_ok I (c_con C hv.1 hc (by omega)) C (Fr.rf _ _) (fun h1 t M => m_con M hv hc (by omega)) hv hs hm
    · refine st_no I (j := 1) (c := 2) ?_ (by rfl) (by decide) fun t M => ?_
      · unfold f_Np_constraint
        rw [I.ck, bnd_s, cc_ok C hv.1 hc]
        show bndT (f_Np_checkWhat v2 (2 : Int32) h) _ = _
        rw [show f_Np_checkWhat v2 (2 : Int32) h = _ from what_no (n := 2) (by omega) w2 h]; rfl
      · obtain ⟨h2, p2, M2, f2⟩ := M.t 2
        refine ⟨0, h2, ?_, M2, DM.mo' f2⟩
        show f_Mo_constraint 263 (nI c) v2 h = _
        unfold f_Mo_constraint
        rw [M.r.1, bnd_s, m_isC M hv hc, bnd_s, if_neg (by decide), show f_Mo_in v2 (0 : Int32) (2 : Int32) = _ from in_no (lo := 0) (hi := 2) (by omega) (by omega) fun ⟨j, _, h2, h3⟩ => w2 ⟨j, h2, h3⟩, bnd_s, if_pos rfl, b_Mo_constraint_27, p2, bnd_s, M2.th, bnd_s, if_neg (by decide)]
  · refine st_no I (j := 0) (c := 1) ?_ (by rfl) (by decide) fun t M => ?_
    · unfold f_Np_constraint
      rw [I.ck, bnd_s, ccn_no C hv.1 w]; rfl
    · obtain ⟨h2, p2, M2, f2⟩ := M.t 1
      refine ⟨0, h2, ?_, M2, DM.mo' f2⟩
      show f_Mo_constraint 263 v1 v2 h = _
      unfold f_Mo_constraint
      rw [M.r.1, bnd_s, mcn_no M hv w, bnd_s, if_pos rfl, b_Mo_constraint_27, p2, bnd_s, M2.th, bnd_s, if_neg (by decide)]
theorem l_621 {F L : Nat} {xs : Nat → Int32} {k : Nat → Nat → Nat → Int32 → PH → Option Int32} {i v1 v2 : Int32} {h : PH} (H : IVe h) (hF : 3000 + nB 36 ≤ F) (e1 : xI L xs (i + 1) = some v1) (e2 : xI L xs (i + 2) = some v2) : ∃ h', IVe h' ∧ b_Law_law_621 F L xs k 0 263 278 i h = k 0 263 278 (i + 4) h' := by
  have hF3 := F3 hF
  obtain ⟨x, m, sv, tl, tx, I⟩ := H
  obtain ⟨C, _, hv, hs, hm, _⟩ := id I
  have hb : b_Law_law_621 F L xs k 0 263 278 i h = LWT k i (f_Np_cellOf 0 v1 v2 h) (hd1 0) (fun h => f_Mo_cellOf 263 v1 v2 h) h := by
    rw [b_Law_law_621, e1, e2]; rfl
  rw [hb]
  by_cases w : ∃ j, j < rn (tR x) ∧ v1 = nI j
  · obtain ⟨c, hc, rfl⟩ := w
    have hl := (hv.1.2 c hc).2.1
    have hmx := mxl_le (rk (tR x) c)
    by_cases w2 : ∃ j, j < rl (tR x) c ∧ v2 = nI j
    · obtain ⟨d, hd, rfl⟩ := w2
      exact st_ok I (c_cellOf C hv.1 hc hd) C (Fr.rf _ _) (fun h1 t M => m_cellOf M hv hc hd) hv hs hm
    · obtain ⟨n1, n2, n3, n4, _⟩ := np_hd C
      obtain ⟨T0, S0, hC1, hC2⟩ := C.1
      obtain ⟨q1, q2, q3, q4, q5, q6, _⟩ := ru_k hC1.2.2.1 hv.1 hc
      have hj2 : ∀ j, j < 2 ^ 31 → v2 = nI j → nI (rl (tR x) c) ≤ v2 ∧ ¬ v2 < nI (rl (tR x) c) := fun j hj e => by
        have hj' : rl (tR x) c ≤ j := Nat.le_of_not_lt fun z => w2 ⟨j, z, e⟩
        rw [e]
        exact ⟨nI_le hj' hj, nI_nlt hj' hj⟩
      refine st_no I (j := 0) (c := 1) ?_ (by rfl) (by decide) fun t M => ?_
      · unfold f_Np_cellOf
        rw [I.ck, bnd_s, cc_ok C hv.1 hc]
        show (if v2 < (0 : Int32) then _ else _) = _
        rcases arg_c v2 with z | ⟨j, hj, e⟩
        · rw [if_pos z]; rfl
        · have hz := (hj2 j hj e).2
          rw [if_neg (by rw [e]; exact nI_pos hj), n2, bnd_s, n4, bnd_s, q5, bnd_s, q6, bnd_s, if_neg hz]; rfl
      · obtain ⟨h2, p2, M2, f2⟩ := M.t 1
        refine ⟨0, h2, ?_, M2, DM.mo' f2⟩
        show f_Mo_cellOf 263 (nI c) v2 h = _
        unfold f_Mo_cellOf
        have hfin : b_Mo_cellOf_25 263 (nI c) v2 h = some (0, h2) := by rw [b_Mo_cellOf_25, b_Mo_cellOf_26, if_pos rfl, b_Mo_cellOf_37, p2, bnd_s, if_pos rfl]
        obtain ⟨V, hmn⟩ := M.mn
        rw [M.r.1, bnd_s, m_isC M hv hc, bnd_s, if_neg (by decide)]
        rcases arg_c v2 with z | ⟨j, hj, e⟩
        · rw [if_pos z, hfin]
        · have hz := (hj2 j hj e).1
          rw [if_neg (by rw [e]; exact nI_pos hj), bnd_s, (hmn.k hv.1 hc).2.1, bnd_s, if_pos hz, hfin]
  · refine st_no I (j := 0) (c := 1) ?_ (by rfl) (by decide) fun t M => ?_
    · unfold f_Np_cellOf
      rw [I.ck, bnd_s, ccn_no C hv.1 w]; rfl
    · obtain ⟨h2, p2, M2, f2⟩ := M.t 1
      refine ⟨0, h2, ?_, M2, DM.mo' f2⟩
      show f_Mo_cellOf 263 v1 v2 h = _
      unfold f_Mo_cellOf
      rw [M.r.1, bnd_s, mcn_no M hv w, bnd_s, if_pos rfl, b_Mo_cellOf_25, b_Mo_cellOf_26, if_pos rfl, b_Mo_cellOf_37, p2, bnd_s, if_pos rfl]
theorem bnd_xx {α β : Type} {o : Option α} {f : α → Option β} {r : β} (e : bnd o f = some r) : ∃ a, o = some a ∧ f a = some r := by
  cases o with
  | none => cases e
  | some a => exact ⟨a, rfl, e⟩
theorem lg_n {h : PH} {x : ST} {m : Nat} {sv : Nat → ST} {tl : Nat} {tx : Nat → Int32} (C : CW h x m sv tl tx) : gR h 0 9 0 = some 1 ∧ gR h 1 8 3 = some (1 + 11) ∧ gI h (1 + 11) 0 2 = some (nI (tN x)) := by
  obtain ⟨n1, n2, n3, n4, n5, n6, n7, _⟩ := np_hd C
  have e := (c_step' C).1
  unfold f_Np_logged at e
  rw [n2, bnd_s, n7, bnd_s] at e
  obtain ⟨a, ea, eb⟩ := bnd_xx e
  cases eb
  exact ⟨n2, n7, ea⟩
theorem l_964 {F L : Nat} {xs : Nat → Int32} {k : Nat → Nat → Nat → Int32 → PH → Option Int32} {i v1 v2 : Int32} {h : PH} (H : IVe h) (hF : 3000 + nB 36 ≤ F) (e1 : xI L xs (i + 1) = some v1) (e2 : xI L xs (i + 2) = some v2) : ∃ h', IVe h' ∧ b_Law_law_964 F L xs k 0 263 278 i h = k 0 263 278 (i + 4) h' := by
  have hF3 := F3 hF
  obtain ⟨x, m, sv, tl, tx, I⟩ := H
  obtain ⟨C, _, hv, hs, hm, _⟩ := id I
  have hb : b_Law_law_964 F L xs k 0 263 278 i h = LWT k i (f_Np_step 0 v1 v2 h) (hd2 0 1) (fun h => f_Mo_step 263 v1 v2 h) h := by
    rw [b_Law_law_964, e1, e2]; rfl
  rw [hb]
  have h100 := hv.2.2.2
  obtain ⟨n2, n7, n0⟩ := lg_n C
  by_cases w : ∃ j, j < tN x ∧ v1 = nI j
  · obtain ⟨c, hc, rfl⟩ := w
    by_cases w2 : ∃ j, j ≤ 2 ∧ v2 = nI j
    · obtain ⟨d, hd, rfl⟩ := w2
      exact st_ok I ((c_step' C).2.2 c d hc (by omega)).2 C (Fr.rf _ _) (fun h1 t M => m_step M hv hc (by omega)) hv hs hm
    · refine st_no I (j := 1) (c := 2) ?_ (by rfl) (by decide) fun t M => ?_
      · unfold f_Np_step
        rw [if_neg (nI_pos (by omega)), n2, bnd_s, n7, bnd_s, n0, bnd_s, if_pos (show nI c < nI (tN x) from nI_lt hc (by omega)), show f_Np_checkWhat v2 (2 : Int32) h = _ from what_no (n := 2) (by omega) w2 h]; rfl
      · obtain ⟨h2, p2, M2, f2⟩ := M.t 2
        obtain ⟨f0, d1, d2, d3, d4, d5, d6⟩ := M.2.2.1
        refine ⟨0, h2, ?_, M2, DM.mo' f2⟩
        show f_Mo_step 263 (nI c) v2 h = _
        unfold f_Mo_step
        rw [M.r.2.1, bnd_s, show (181 : Int32) = nI 181 from rfl, ar_I d1 (by omega) (by omega), bnd_s, d5, show nI (tN x) - (1 : Int32) = nI (tN x - 1) from pk_sub (a := tN x) (b := 1) (by omega), m_wh (by omega) (by omega), bnd_s, if_neg (by decide), show f_Mo_in v2 (0 : Int32) (2 : Int32) = _ from in_no (lo := 0) (hi := 2) (by omega) (by omega) fun ⟨j, _, h2, h3⟩ => w2 ⟨j, h2, h3⟩, bnd_s, if_pos rfl, b_Mo_step_37, p2, bnd_s, M2.th, bnd_s, if_neg (by decide)]
  · refine st_no I (j := 0) (c := 1) ?_ (by rfl) (by decide) fun t M => ?_
    · unfold f_Np_step
      rcases arg_c v1 with z | ⟨j, hj, rfl⟩
      · rw [if_pos z]; rfl
      · rw [if_neg (nI_pos hj), n2, bnd_s, n7, bnd_s, n0, bnd_s, if_neg (show ¬ nI j < nI (tN x) from nI_nlt (Nat.le_of_not_lt fun z => w ⟨j, z, rfl⟩) hj)]; rfl
    · obtain ⟨h2, p2, M2, f2⟩ := M.t 1
      obtain ⟨f0, d1, d2, d3, d4, d5, d6⟩ := M.2.2.1
      refine ⟨0, h2, ?_, M2, DM.mo' f2⟩
      show f_Mo_step 263 v1 v2 h = _
      unfold f_Mo_step
      rw [M.r.2.1, bnd_s, show (181 : Int32) = nI 181 from rfl, ar_I d1 (by omega) (by omega), bnd_s, d5, in_no1 (by omega) w, bnd_s, if_pos rfl, b_Mo_step_37, p2, bnd_s, M2.th, bnd_s, if_neg (by decide)]
theorem mx_no {h : PH} {x : ST} {m : Nat} {sv : Nat → ST} {tl : Nat} {tx : Nat → Int32} {t : Int32} (M : MW h 263 x m sv tl tx t) (hv : VAL x) {k c : Nat} (hc : c < 36) (hk : k < rn (tR x)) (w : ¬ (rl (tR x) k < mxl (rk (tR x) k) ∧ mem (tR x) k c = false)) {F : Nat} (hF : 3000 ≤ F) : ∃ u h2, f_Mo_extend F 263 (nI k) (nI c) h = some (u, h2) ∧ MW h2 263 x m sv tl tx 2 ∧ Fr (DM 263) h h2 := by
  have h8 := hv.1.1
  obtain ⟨hk3, hl6, _⟩ := hv.1.2 k hk
  have hmx := mxl_le (rk (tR x) k)
  obtain ⟨h1, p1, H1, f1⟩ := M.t 0
  obtain ⟨h2, p2, H2, f2⟩ := H1.t 2
  obtain ⟨V1, hmn1⟩ := H1.mn
  obtain ⟨k1, k2, k3, k4⟩ := hmn1.k hv.1 hk
  refine ⟨0, h2, ?_, H2, (DM.mo' f1).tr (DM.mo' f2)⟩
  unfold f_Mo_extend
  rw [M.r.1, bnd_s, m_isC M hv hk, bnd_s, if_neg (by decide), m_cell hc, bnd_s, if_neg (by decide), b_Mo_extend_21, p1, bnd_s, H1.th, bnd_s, if_pos rfl, H1.r.1, bnd_s, k2, bnd_s, bnd_s, m_contains hmn1 hv.1 hk hc (by omega), bnd_s]
  cases q : mem (tR x) k c with
  | true => rw [if_neg (by decide), b_Mo_extend_60, p2, bnd_s]
  | false =>
    have e : rl (tR x) k = mxl (rk (tR x) k) := by
      have : ¬ rl (tR x) k < mxl (rk (tR x) k) := fun z => w ⟨z, q⟩
      omega
    rw [if_pos (by rfl), bnd_s, k1, bnd_s, m_most (by omega), bnd_s, if_pos (congrArg nI e), b_Mo_extend_60, p2, bnd_s]
theorem cx_no {h : PH} {x : ST} {m : Nat} {sv : Nat → ST} {tl : Nat} {tx : Nat → Int32} (C : CW h x m sv tl tx) (hv : VAL x) {k c : Nat} (hc : c < 36) (hk : k < rn (tR x)) (w : ¬ (rl (tR x) k < mxl (rk (tR x) k) ∧ mem (tR x) k c = false)) {F : Nat} : f_Np_extend F 0 (nI k) (nI c) h = some (.inl 2, h) := by
  obtain ⟨n1, n2, n3, n4, n5, n6, n7, n8, n9, n10, n11, n12, _⟩ := np_hd C
  obtain ⟨T0, S0, hC1, hC2⟩ := C.1
  unfold f_Np_extend
  rw [n12, bnd_s, cc_ok C hv.1 hk]
  show bndT (f_Np_checkCell (nI c) h) _ = _
  rw [c1_ok hc]
  show bnd (gR h 0 9 0) _ = _
  rw [n2, bnd_s, n4, bnd_s, (ru_ck hC1.2.2.1).1, bnd_s, rul_has hC1.2.2.1 hv.1 hk hc, bnd_s]
  cases q : mem (tR x) k c with
  | true => rw [if_neg (by decide)]; rfl
  | false =>
    have e : ¬ rl (tR x) k < mxl (rk (tR x) k) := fun z => w ⟨z, q⟩
    rw [if_pos (by rfl), bnd_s, n4, bnd_s, (ru_ck hC1.2.2.1).1, bnd_s, rul_full hC1.2.2.1 hv.1 hk, bnd_s, if_neg e, if_neg (by decide)]; rfl
theorem l_404 {F L : Nat} {xs : Nat → Int32} {k : Nat → Nat → Nat → Int32 → PH → Option Int32} {i v1 v2 : Int32} {h : PH} (H : IVe h) (hF : 3000 + nB 36 ≤ F) (e1 : xI L xs (i + 1) = some v1) (e2 : xI L xs (i + 2) = some v2) : ∃ h', IVe h' ∧ b_Law_law_404 F L xs k 0 263 278 i h = k 0 263 278 (i + 4) h' := by
  have hF3 := F3 hF
  obtain ⟨x, m, sv, tl, tx, I⟩ := H
  obtain ⟨C, _, hv, hs, hm, _⟩ := id I
  have hb : b_Law_law_404 F L xs k 0 263 278 i h = LWT k i (f_Np_extend F 0 v1 v2 h) (hd2 0 2) (fun h => f_Mo_extend F 263 v1 v2 h) h := by
    rw [b_Law_law_404, e1, e2]; rfl
  rw [hb]
  by_cases w : ∃ j, j < rn (tR x) ∧ v1 = nI j
  · obtain ⟨c, hc, rfl⟩ := w
    by_cases w2 : ∃ j, j < 36 ∧ v2 = nI j
    · obtain ⟨d, hd, rfl⟩ := w2
      by_cases w3 : rl (tR x) c < mxl (rk (tR x) c) ∧ mem (tR x) c d = false
      · obtain ⟨h1, p1, C1, hv1, f1⟩ := c_ext C hv hd hc w3.1 w3.2 hF3
        exact st_ok I p1 C1 f1 (fun h1 t M => m_ext M hv hs hd hc w3.1 w3.2 hF3) hv1 (svS_v hm hv hs) svN_le
      · exact st_no I (j := 2) (c := 2) (cx_no C hv hd hc w3) (by rfl) (by decide) fun t M => mx_no M hv hd hc w3 hF3
    · refine st_no I (j := 0) (c := 1) ?_ (by rfl) (by decide) fun t M => ?_
      · unfold f_Np_extend
        rw [I.ck, bnd_s, cc_ok C hv.1 hc]
        show bndT (f_Np_checkCell v2 h) _ = _
        rw [cc_no w2]; rfl
      · obtain ⟨h2, p2, M2, f2⟩ := M.t 1
        refine ⟨0, h2, ?_, M2, DM.mo' f2⟩
        show f_Mo_extend F 263 (nI c) v2 h = _
        unfold f_Mo_extend
        rw [M.r.1, bnd_s, m_isC M hv hc, bnd_s, if_neg (by decide), mc_no w2, bnd_s, if_pos rfl, b_Mo_extend_16, b_Mo_extend_21, p2, bnd_s, M2.th, bnd_s, if_neg (by decide)]
  · refine st_no I (j := 0) (c := 1) ?_ (by rfl) (by decide) fun t M => ?_
    · unfold f_Np_extend
      rw [I.ck, bnd_s, ccn_no C hv.1 w]; rfl
    · obtain ⟨h2, p2, M2, f2⟩ := M.t 1
      refine ⟨0, h2, ?_, M2, DM.mo' f2⟩
      show f_Mo_extend F 263 v1 v2 h = _
      unfold f_Mo_extend
      rw [M.r.1, bnd_s, mcn_no M hv w, bnd_s, if_pos rfl, b_Mo_extend_16, b_Mo_extend_21, p2, bnd_s, M2.th, bnd_s, if_neg (by decide)]
def GDA (v1 v3 : Int32) : Prop := ∃ w s, w < 3 ∧ v1 = nI w ∧ v3 = nI s ∧ if w = 0 then 1 ≤ s ∧ s ≤ 24 else s = 0
theorem ad_kind {w : Nat} (hw : w < 3) : (nI w = (0 : Int32)) ↔ w = 0 := nI_eq (a := w) (b := 0) (by omega) (by omega)
theorem ca_no {F c : Nat} (hc : c < 36) {v1 v3 : Int32} (w : ¬ GDA v1 v3) (h : PH) : f_Np_addConstraint F 0 v1 (nI c) v3 h = some (.inl 1, h) := by
  unfold f_Np_addConstraint
  rw [c1_ok hc]
  show (if v1 < (0 : Int32) then b_Np_addConstraint_29 F h else _) = b_Np_addConstraint_29 F h
  rcases arg_c v1 with z | ⟨a, ha, rfl⟩
  · rw [if_pos z]
  · rw [if_neg (nI_pos ha)]
    by_cases q : a < 3
    · rw [if_neg (show ¬ (2 : Int32) < nI a from nI_nlt (a := 2) (b := a) (by omega) (by omega))]
      by_cases q0 : a = 0
      · subst q0
        have z := rng_no (lo := 1) (hi := 24) (v := v3) (by omega) (by omega) (fun ⟨s, h1, h2, h3⟩ => w ⟨0, s, by omega, rfl, h3, by rw [if_pos rfl]; exact ⟨h1, h2⟩⟩) (b_Np_addConstraint_29 F h)
        rw [show f_Np_leastSum (nI 0) = some 1 from rfl, bnd_s, show f_Np_greatestSum (nI 0) = some 24 from rfl, bnd_s]
        exact z _
      · have z := rng_no (lo := 0) (hi := 0) (v := v3) (by omega) (by omega) (fun ⟨s, h1, h2, h3⟩ => w ⟨a, s, q, rfl, h3, by rw [if_neg q0]; omega⟩) (b_Np_addConstraint_29 F h)
        rw [show f_Np_leastSum (nI a) = some 0 by unfold f_Np_leastSum; rw [if_neg fun y => q0 ((ad_kind q).mp y)], bnd_s, show f_Np_greatestSum (nI a) = some 0 by unfold f_Np_greatestSum; rw [if_neg fun y => q0 ((ad_kind q).mp y)], bnd_s]
        exact z _
    · rw [if_pos (show (2 : Int32) < nI a from nI_lt (a := 2) (b := a) (by omega) ha)]
theorem ma_no {F mo : Nat} {v1 v2 v3 : Int32} (w : ¬ GDA v1 v3) (h : PH) : f_Mo_addConstraint F mo v1 v2 v3 h = b_Mo_addConstraint_35 F mo v1 v2 v3 (0 : Int32) h := by
  unfold f_Mo_addConstraint
  by_cases q : ∃ a, 0 ≤ a ∧ a ≤ 2 ∧ v1 = nI a
  · obtain ⟨a, _, ha, rfl⟩ := q
    rw [show f_Mo_in (nI a) (0 : Int32) (2 : Int32) = _ from m_wh (b := 2) ha (by omega), bnd_s, if_neg (by decide)]
    by_cases q0 : a = 0
    · subst q0
      rw [if_pos (show nI 0 = (0 : Int32) from rfl), show f_Mo_in v3 (1 : Int32) (24 : Int32) = _ from in_no (lo := 1) (hi := 24) (by omega) (by omega) (fun ⟨s, h1, h2, h3⟩ => w ⟨0, s, by omega, rfl, h3, by rw [if_pos rfl]; exact ⟨h1, h2⟩⟩), bnd_s, if_pos rfl]; rfl
    · rw [if_neg (fun y => q0 ((ad_kind (by omega)).mp y)), if_neg (show ¬ v3 = (0 : Int32) from fun y => w ⟨a, 0, by omega, rfl, y, by rw [if_neg q0]⟩)]; rfl
  · rw [show f_Mo_in v1 (0 : Int32) (2 : Int32) = _ from in_no (lo := 0) (hi := 2) (by omega) (by omega) q, bnd_s, if_pos rfl]; rfl
theorem ma_ok {F mo w s : Nat} {v2 : Int32} (hw : w < 3) (hss : if w = 0 then 1 ≤ s ∧ s ≤ 24 else s = 0) (h : PH) : f_Mo_addConstraint F mo (nI w) v2 (nI s) h = b_Mo_addConstraint_35 F mo (nI w) v2 (nI s) (1 : Int32) h := by
  unfold f_Mo_addConstraint
  rw [show f_Mo_in (nI w) (0 : Int32) (2 : Int32) = _ from m_wh (b := 2) (by omega) (by omega), bnd_s, if_neg (by decide)]
  by_cases q : w = 0
  · subst q
    rw [if_pos rfl] at hss
    rw [if_pos (show nI 0 = (0 : Int32) from rfl), show f_Mo_in (nI s) (1 : Int32) (24 : Int32) = _ from m_in (lo := 1) (hi := 24) hss.1 hss.2 (by omega), bnd_s, if_neg (by decide)]; rfl
  · rw [if_neg q] at hss
    subst hss
    rw [if_neg (fun y => q ((ad_kind hw).mp y)), if_pos (show nI 0 = (0 : Int32) from rfl)]; rfl
theorem mo_add_cell {F mo : Nat} {v1 v2 v3 s0 : Int32} (w : ¬ ∃ j, j < 36 ∧ v2 = nI j) (h : PH) : b_Mo_addConstraint_35 F mo v1 v2 v3 s0 h = b_Mo_addConstraint_75 F mo v1 v2 v3 (1 : Int32) mo h := by
  rw [b_Mo_addConstraint_35, mc_no w, bnd_s, if_pos rfl]
theorem ad75 {F : Nat} {v1 v2 v3 c : Int32} {h : PH} {x : ST} {m : Nat} {sv : Nat → ST} {tl : Nat} {tx : Nat → Int32} {t : Int32} (M : MW h 263 x m sv tl tx t) (hc : ¬ c = 0) : ∃ u h2, b_Mo_addConstraint_75 F 263 v1 v2 v3 c 263 h = some (u, h2) ∧ MW h2 263 x m sv tl tx c ∧ Fr (DM 263) h h2 := by
  obtain ⟨h2, p2, M2, f2⟩ := M.t c
  refine ⟨0, h2, ?_, M2, DM.mo' f2⟩
  rw [b_Mo_addConstraint_75, p2, bnd_s, M2.th, bnd_s, if_neg hc]
theorem ca_8 {F : Nat} {h : PH} {x : ST} {m : Nat} {sv : Nat → ST} {tl : Nat} {tx : Nat → Int32} (C : CW h x m sv tl tx) {w c s : Nat} (hc : c < 36) (hw : w < 3) (hss : if w = 0 then 1 ≤ s ∧ s ≤ 24 else s = 0) (h8 : rn (tR x) = 8) : f_Np_addConstraint F 0 (nI w) (nI c) (nI s) h = some (.inl 2, h) := by
  obtain ⟨n1, n2, n3, n4, _⟩ := np_hd C
  obtain ⟨T0, S0, hC1, hC2⟩ := C.1
  have hlim : bnd (gR h 0 9 0) (fun x5 => bnd (gR h x5 8 1) fun x6 => bnd (gI h x6 4 6) fun x7 => (if x7 < (8 : Int32) then (none : Option ((Nat ⊕ Int32) × PH)) else some (.inl 2, h))) = some (.inl 2, h) := by
    rw [n2, bnd_s, n4, bnd_s, (ru_ck hC1.2.2.1).2, bnd_s, h8, if_neg (show ¬ nI 8 < (8 : Int32) by decide)]
  unfold f_Np_addConstraint
  rw [c1_ok hc]
  show (if nI w < (0 : Int32) then b_Np_addConstraint_29 F h else _) = _
  rw [if_neg (nI_pos (by omega)), if_neg (show ¬ (2 : Int32) < nI w from nI_nlt (a := 2) (b := w) (by omega) (by omega))]
  by_cases q0 : w = 0
  · subst q0
    rw [if_pos rfl] at hss
    rw [show f_Np_leastSum (nI 0) = some 1 from rfl, bnd_s, if_neg (show ¬ nI s < (1 : Int32) from nI_nlt (a := s) (b := 1) (by omega) (by omega)), show f_Np_greatestSum (nI 0) = some 24 from rfl, bnd_s, if_pos (show nI s ≤ (24 : Int32) from nI_le (a := s) (b := 24) hss.2 (by omega)), n2, bnd_s, n4, bnd_s, (ru_ck hC1.2.2.1).2, bnd_s, h8, if_neg (show ¬ nI 8 < (8 : Int32) by decide)]
  · rw [if_neg q0] at hss
    subst hss
    rw [show f_Np_leastSum (nI w) = some 0 by unfold f_Np_leastSum; rw [if_neg fun y => q0 ((ad_kind hw).mp y)], bnd_s, if_neg (show ¬ nI 0 < (0 : Int32) by decide), show f_Np_greatestSum (nI w) = some 0 by unfold f_Np_greatestSum; rw [if_neg fun y => q0 ((ad_kind hw).mp y)], bnd_s, if_pos (show nI 0 ≤ (0 : Int32) by decide), n2, bnd_s, n4, bnd_s, (ru_ck hC1.2.2.1).2, bnd_s, h8, if_neg (show ¬ nI 8 < (8 : Int32) by decide)]
theorem l_324 {F L : Nat} {xs : Nat → Int32} {k : Nat → Nat → Nat → Int32 → PH → Option Int32} {i v1 v2 v3 : Int32} {h : PH} (H : IVe h) (hF : 3000 + nB 36 ≤ F) (e1 : xI L xs (i + 1) = some v1) (e2 : xI L xs (i + 2) = some v2) (e3 : xI L xs (i + 3) = some v3) : ∃ h', IVe h' ∧ b_Law_law_324 F L xs k 0 263 278 i h = k 0 263 278 (i + 4) h' := by
  have hF3 := F3 hF
  obtain ⟨x, m, sv, tl, tx, I⟩ := H
  obtain ⟨C, _, hv, hs, hm, _⟩ := id I
  have hb : b_Law_law_324 F L xs k 0 263 278 i h = LWT k i (f_Np_addConstraint F 0 v1 v2 v3 h) (hd3 0 1 2) (fun h => f_Mo_addConstraint F 263 v1 v2 v3 h) h := by
    rw [b_Law_law_324, e1, e2, e3]; rfl
  rw [hb]
  by_cases w : ∃ j, j < 36 ∧ v2 = nI j
  · obtain ⟨c, hc, rfl⟩ := w
    by_cases w2 : GDA v1 v3
    · obtain ⟨a, s, ha, rfl, rfl, hss⟩ := w2
      by_cases w3 : rn (tR x) < 8
      · obtain ⟨h1, p1, C1, hv1, f1⟩ := c_add C hv hc ha hss w3 hF3
        exact st_ok I p1 C1 f1 (fun h1 t M => m_add M hv hs hc ha hss w3 hF3) hv1 (svS_v hm hv hs) svN_le
      · have h8 : rn (tR x) = 8 := by have := hv.1.1; omega
        refine st_no I (j := 2) (c := 3) (ca_8 C hc ha hss h8) (by rfl) (by decide) fun t M => ?_
        obtain ⟨V, hmn⟩ := M.mn
        show ∃ u h2, f_Mo_addConstraint F 263 (nI a) (nI c) (nI s) h = some (u, h2) ∧ _
        rw [ma_ok ha hss, b_Mo_addConstraint_35, m_cell hc, bnd_s, if_neg (by decide), if_neg (by decide), hmn.n.1, bnd_s, hmn.n.2, bnd_s, h8, if_pos (show nI 8 = (8 : Int32) from rfl)]
        exact ad75 M (by decide)
    · refine st_no I (j := 1) (c := 2) (ca_no hc w2 h) (by rfl) (by decide) fun t M => ?_
      show ∃ u h2, f_Mo_addConstraint F 263 v1 (nI c) v3 h = some (u, h2) ∧ _
      rw [ma_no w2, b_Mo_addConstraint_35, m_cell hc, bnd_s, if_neg (by decide), if_pos rfl]
      exact ad75 M (by decide)
  · refine st_no I (j := 0) (c := 1) ?_ (by rfl) (by decide) fun t M => ?_
    · unfold f_Np_addConstraint
      rw [cc_no w]; rfl
    · have e : ∃ s0, f_Mo_addConstraint F 263 v1 v2 v3 h = b_Mo_addConstraint_35 F 263 v1 v2 v3 s0 h := by
        by_cases w2 : GDA v1 v3
        · obtain ⟨a, s, ha, rfl, rfl, hss⟩ := w2
          exact ⟨1, ma_ok ha hss h⟩
        · exact ⟨0, ma_no w2 h⟩
      obtain ⟨s0, e⟩ := e
      show ∃ u h2, f_Mo_addConstraint F 263 v1 v2 v3 h = some (u, h2) ∧ _
      rw [e, mo_add_cell w]
      exact ad75 M (by decide)
