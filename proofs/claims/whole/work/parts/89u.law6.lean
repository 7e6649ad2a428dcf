/-! The law: strike, possible, deduce, needs, solutions, solved, append, make. -/
def LWb (X : Option ((Nat ⊕ Int32) × PH)) (hd : Nat → Option Int32) (h : PH) : Option (Int32 × PH) := bnd (cK h 0 9) fun _ => bndC X (fun x2 h3 => (if x2 = (0 : Int32) then (bnd (sL h3 278 (0 : Int32) (0 : Int64)) fun h1 => some ((0 : Int32), h1)) else (bnd (sL h3 278 (0 : Int32) (1 : Int64)) fun h1 => some ((0 : Int32), h1)))) hd
def LTb (k : Nat → Nat → Nat → Int32 → PH → Option Int32) (i x3 : Int32) (P : Option (Int32 × PH)) : Option Int32 := bnd2 P fun x8 h9 => bnd (cK h9 263 10) fun _ => bnd (f_Mo_thrown 263 h9) fun x11 => (if x11 = x3 then (if x3 = (0 : Int32) then bnd (aL h9 278 (0 : Int32)) fun x12 => (if x8 = (0 : Int32) then (if (lg_cmp x12 (0 : Int64)) = (0 : Int32) then k 0 263 278 (i + (4 : Int32)) h9 else some (0 : Int32)) else (if (lg_cmp x12 (1 : Int64)) = (0 : Int32) then k 0 263 278 (i + (4 : Int32)) h9 else some (0 : Int32))) else k 0 263 278 (i + (4 : Int32)) h9) else some (0 : Int32))
def LWTb (k : Nat → Nat → Nat → Int32 → PH → Option Int32) (i : Int32) (X : Option ((Nat ⊕ Int32) × PH)) (hd : Nat → Option Int32) (P : PH → Option (Int32 × PH)) (h : PH) : Option Int32 := bnd2 (LWb X hd h) fun x3 h4 => bnd (cK h4 263 10) fun _ => LTb k i x3 (P h4)
theorem st_okb {k : Nat → Nat → Nat → Int32 → PH → Option Int32} {i : Int32} {hd : Nat → Option Int32} {P : PH → Option (Int32 × PH)} {X : Option ((Nat ⊕ Int32) × PH)} {h h1 : PH} {x x' : ST} {m m' : Nat} {sv sv' : Nat → ST} {tl tl' : Nat} {tx tx' : Nat → Int32} {v : Int32} (I : IV h x m sv tl tx) (hX : X = some (.inr v, h1)) (C1 : CW h1 x' m' sv' tl' tx') (f1 : Fr (fun k => k < 263) h h1)
    (hP : ∀ h1' t, MW h1' 263 x m sv tl tx t → ∃ h2, P h1' = some (v, h2) ∧ MW h2 263 x' m' sv' tl' tx' 0 ∧ Fr (DM 263) h1' h2) (hv : VAL x') (hs : ∀ i, i < m' → VAL (sv' i)) (hm : m' ≤ 4) : ∃ h', IVe h' ∧ LWTb k i X hd P h = k 0 263 278 (i + 4) h' := by
  by_cases w : v = (0 : Int32)
  · obtain ⟨h1', q1, r1, ⟨t, M1⟩, o1⟩ := iv_out I f1 (0 : Int64)
    obtain ⟨h2, p2, M2, f2⟩ := hP h1' t M1
    obtain ⟨o2, o3⟩ := o1 h2 f2
    refine ⟨h2, iv_go C1 r1 f2 M2 hv hs hm o3, ?_⟩
    have hlw : LWb X hd h = some (0, h1') := by
      unfold LWb
      rw [I.ck, bnd_s, hX]
      show (if v = (0 : Int32) then _ else _) = _
      rw [if_pos w, q1, bnd_s]
    unfold LWTb LTb
    rw [hlw, bnd2_s, M1.r.1, bnd_s, p2, bnd2_s, M2.r.1, bnd_s, mo_th M2, bnd_s, if_pos rfl, if_pos rfl, o2, bnd_s, if_pos w, lg_self, if_pos rfl]
  · obtain ⟨h1', q1, r1, ⟨t, M1⟩, o1⟩ := iv_out I f1 (1 : Int64)
    obtain ⟨h2, p2, M2, f2⟩ := hP h1' t M1
    obtain ⟨o2, o3⟩ := o1 h2 f2
    refine ⟨h2, iv_go C1 r1 f2 M2 hv hs hm o3, ?_⟩
    have hlw : LWb X hd h = some (0, h1') := by
      unfold LWb
      rw [I.ck, bnd_s, hX]
      show (if v = (0 : Int32) then _ else _) = _
      rw [if_neg w, q1, bnd_s]
    unfold LWTb LTb
    rw [hlw, bnd2_s, M1.r.1, bnd_s, p2, bnd2_s, M2.r.1, bnd_s, mo_th M2, bnd_s, if_pos rfl, if_pos rfl, o2, bnd_s, if_neg w, lg_self, if_pos rfl]
theorem st_nob {k : Nat → Nat → Nat → Int32 → PH → Option Int32} {i : Int32} {hd : Nat → Option Int32} {P : PH → Option (Int32 × PH)} {X : Option ((Nat ⊕ Int32) × PH)} {h : PH} {x : ST} {m : Nat} {sv : Nat → ST} {tl : Nat} {tx : Nat → Int32} {j : Nat} {c : Int32} (I : IV h x m sv tl tx) (hX : X = some (.inl j, h)) (hc : hd j = some c) (hc0 : ¬ c = 0)
    (hP : ∀ t, MW h 263 x m sv tl tx t → ∃ u h2, P h = some (u, h2) ∧ MW h2 263 x m sv tl tx c ∧ Fr (DM 263) h h2) : ∃ h', IVe h' ∧ LWTb k i X hd P h = k 0 263 278 (i + 4) h' := by
  obtain ⟨C, ⟨t0, M0⟩, hv, hs, hm, _⟩ := id I
  obtain ⟨u, h2, p2, M2, f2⟩ := hP t0 M0
  refine ⟨h2, I.go (Fr.rf _ _) C f2 M2 hv hs hm, ?_⟩
  have hlw : LWb X hd h = some (c, h) := by
    unfold LWb
    rw [I.ck, bnd_s, hX]
    show (match hd j with | none => none | some c => some (c, h)) = _
    rw [hc]
  unfold LWTb LTb
  rw [hlw, bnd2_s, M0.r.1, bnd_s, p2, bnd2_s, M2.r.1, bnd_s, mo_th M2, bnd_s, if_pos rfl, if_neg hc0]
theorem l_249 {F L : Nat} {xs : Nat → Int32} {k : Nat → Nat → Nat → Int32 → PH → Option Int32} {i v1 v2 : Int32} {h : PH} (H : IVe h) (hF : 3000 + nB 36 ≤ F) (e1 : xI L xs (i + 1) = some v1) (e2 : xI L xs (i + 2) = some v2) : ∃ h', IVe h' ∧ b_Law_law_249 F L xs k 0 263 278 i h = k 0 263 278 (i + 4) h' := by
  have hF3 := F3 hF
  obtain ⟨x, m, sv, tl, tx, I⟩ := H
  obtain ⟨C, _, hv, hs, hm, _⟩ := id I
  have hb : b_Law_law_249 F L xs k 0 263 278 i h = LWTb k i (f_Np_strike 0 v1 v2 h) (hd2 0 1) (fun h => f_Mo_strike F 263 v1 v2 h) h := by
    rw [b_Law_law_249, e1, e2]; rfl
  rw [hb]
  by_cases w : ∃ j, j < 36 ∧ v1 = nI j
  · obtain ⟨c, hc, rfl⟩ := w
    by_cases w2 : ∃ j, isD j = true ∧ v2 = nI j
    · obtain ⟨d, hd, rfl⟩ := w2
      obtain ⟨h1, p1, C1, f1⟩ := c_strike C hv hc hd
      exact st_okb I p1 C1 f1 (fun h1 t M => m_strike M hv hs hc hd hF3) ⟨hv.1, hv.2.1.sub stK_sub, hv.2.2.1, by show 0 ≤ 100; omega⟩ (svS_v hm hv hs) svN_le
    · refine st_nob I (j := 1) (c := 2) ?_ (by rfl) (by decide) fun t M => ?_
      · unfold f_Np_strike
        rw [c1_ok hc]
        show bndT (f_Np_checkDigit v2 h) _ = _
        rw [cd_no w2]; rfl
      · obtain ⟨h2, p2, M2, f2⟩ := M.t 2
        refine ⟨0, h2, ?_, M2, DM.mo' f2⟩
        show f_Mo_strike F 263 (nI c) v2 h = _
        unfold f_Mo_strike
        rw [m_cell hc, bnd_s, if_neg (by decide), md_no w2, bnd_s, if_pos rfl, b_Mo_strike_24, p2, bnd_s, M2.th, bnd_s, if_neg (by decide)]
  · refine st_nob I (j := 0) (c := 1) ?_ (by rfl) (by decide) fun t M => ?_
    · unfold f_Np_strike
      rw [cc_no w]; rfl
    · obtain ⟨h2, p2, M2, f2⟩ := M.t 1
      refine ⟨0, h2, ?_, M2, DM.mo' f2⟩
      show f_Mo_strike F 263 v1 v2 h = _
      unfold f_Mo_strike
      rw [mc_no w, bnd_s, if_pos rfl, b_Mo_strike_24, p2, bnd_s, M2.th, bnd_s, if_neg (by decide)]
theorem l_1226 {F L : Nat} {xs : Nat → Int32} {k : Nat → Nat → Nat → Int32 → PH → Option Int32} {i v1 v2 : Int32} {h : PH} (H : IVe h) (hF : 3000 + nB 36 ≤ F) (e1 : xI L xs (i + 1) = some v1) (e2 : xI L xs (i + 2) = some v2) : ∃ h', IVe h' ∧ b_Law_law_1226 F L xs k 0 263 278 i h = k 0 263 278 (i + 4) h' := by
  have hF3 := F3 hF
  obtain ⟨x, m, sv, tl, tx, I⟩ := H
  obtain ⟨C, _, hv, hs, hm, _⟩ := id I
  have hb : b_Law_law_1226 F L xs k 0 263 278 i h = LWTb k i (f_Np_possible F 0 v1 v2 h) (hd2 0 1) (fun h => f_Mo_possible F 263 v1 v2 h) h := by
    rw [b_Law_law_1226, e1, e2]; rfl
  rw [hb]
  by_cases w : ∃ j, j < 36 ∧ v1 = nI j
  · obtain ⟨c, hc, rfl⟩ := w
    by_cases w2 : ∃ j, isD j = true ∧ v2 = nI j
    · obtain ⟨d, hd, rfl⟩ := w2
      obtain ⟨h1, p1, C1, f1⟩ := c_possible C hv hc hd hF3
      exact st_okb I p1 C1 f1 (fun h1 t M => m_possible M hv hc hd hF) hv hs hm
    · refine st_nob I (j := 1) (c := 2) ?_ (by rfl) (by decide) fun t M => ?_
      · unfold f_Np_possible
        rw [c1_ok hc]
        show bndT (f_Np_checkDigit v2 h) _ = _
        rw [cd_no w2]; rfl
      · obtain ⟨h2, p2, M2, f2⟩ := M.t 2
        refine ⟨0, h2, ?_, M2, DM.mo' f2⟩
        show f_Mo_possible F 263 (nI c) v2 h = _
        unfold f_Mo_possible
        rw [m_cell hc, bnd_s, if_neg (by decide), md_no w2, bnd_s, if_pos rfl, b_Mo_possible_24, p2, bnd_s, M2.th, bnd_s, if_neg (by decide)]
  · refine st_nob I (j := 0) (c := 1) ?_ (by rfl) (by decide) fun t M => ?_
    · unfold f_Np_possible
      rw [cc_no w]; rfl
    · obtain ⟨h2, p2, M2, f2⟩ := M.t 1
      refine ⟨0, h2, ?_, M2, DM.mo' f2⟩
      show f_Mo_possible F 263 v1 v2 h = _
      unfold f_Mo_possible
      rw [mc_no w, bnd_s, if_pos rfl, b_Mo_possible_24, p2, bnd_s, M2.th, bnd_s, if_neg (by decide)]
theorem rng_no {α : Type} {v : Int32} {lo hi : Nat} (hl : lo ≤ hi) (hh : hi < 2 ^ 31) (h : ¬ ∃ j, lo ≤ j ∧ j ≤ hi ∧ v = nI j) (a b : α) : (if v < nI lo then a else if v ≤ nI hi then b else a) = a := by
  rcases arg_c v with w | ⟨j, hj, rfl⟩
  · rw [if_pos (Int32.lt_of_lt_of_le w (show (0 : Int32) ≤ nI lo from nI_le (a := 0) (b := lo) (by omega) (by omega)))]
  · by_cases q : j < lo
    · rw [if_pos (show nI j < nI lo from nI_lt q (by omega))]
    · have q6 : ¬ j ≤ hi := fun z => h ⟨j, by omega, z, rfl⟩
      rw [if_neg (show ¬ nI j < nI lo from nI_nlt (by omega) hj), if_neg (show ¬ nI j ≤ nI hi from nI_ge (by omega) hj)]
theorem l_869 {F L : Nat} {xs : Nat → Int32} {k : Nat → Nat → Nat → Int32 → PH → Option Int32} {i v1 : Int32} {h : PH} (H : IVe h) (hF : 3000 + nB 36 ≤ F) (e1 : xI L xs (i + 1) = some v1) : ∃ h', IVe h' ∧ b_Law_law_869 F L xs k 0 263 278 i h = k 0 263 278 (i + 4) h' := by
  have hF3 := F3 hF
  obtain ⟨x, m, sv, tl, tx, I⟩ := H
  obtain ⟨C, _, hv, hs, hm, _⟩ := id I
  have hb : b_Law_law_869 F L xs k 0 263 278 i h = LWT k i (f_Np_deduce F 0 v1 h) (hd1 1) (fun h => f_Mo_deduce F 263 v1 h) h := by
    rw [b_Law_law_869, e1]; rfl
  rw [hb]
  by_cases w : ∃ j, 0 ≤ j ∧ j ≤ 500 ∧ v1 = nI j
  · obtain ⟨j, hj1, hj2, rfl⟩ := w
    obtain ⟨h1, c, K', P', l', e', p1, hd, C1, hv1, f1⟩ := c_deduce C hv hj2 hF3
    exact st_ok I p1 C1 f1 (fun h1 t M => m_deduce M hv hs hj2 hF3 hd) hv1 (svS_v hm hv hs) svN_le
  · refine st_no I (j := 1) (c := 1) ?_ (by rfl) (by decide) fun t M => ?_
    · unfold f_Np_deduce
      exact rng_no (lo := 0) (hi := 500) (by omega) (by omega) w _ _
    · obtain ⟨h2, p2, M2, f2⟩ := M.t 1
      refine ⟨0, h2, ?_, M2, DM.mo' f2⟩
      show f_Mo_deduce F 263 v1 h = _
      unfold f_Mo_deduce
      rw [show f_Mo_in v1 (0 : Int32) (500 : Int32) = _ from in_no (lo := 0) (hi := 500) (by omega) (by omega) w, bnd_s, if_pos rfl, b_Mo_deduce_17, p2, bnd_s, M2.th, bnd_s, if_neg (by decide)]
theorem l_1032 {F L : Nat} {xs : Nat → Int32} {k : Nat → Nat → Nat → Int32 → PH → Option Int32} {i v1 : Int32} {h : PH} (H : IVe h) (hF : 3000 + nB 36 ≤ F) (e1 : xI L xs (i + 1) = some v1) : ∃ h', IVe h' ∧ b_Law_law_1032 F L xs k 0 263 278 i h = k 0 263 278 (i + 4) h' := by
  have hF3 := F3 hF
  obtain ⟨x, m, sv, tl, tx, I⟩ := H
  obtain ⟨C, _, hv, hs, hm, _⟩ := id I
  have hb : b_Law_law_1032 F L xs k 0 263 278 i h = LWT k i (f_Np_needs F 0 v1 h) (hd1 1) (fun h => f_Mo_needs F 263 v1 h) h := by
    rw [b_Law_law_1032, e1]; rfl
  rw [hb]
  by_cases w : ∃ j, 1 ≤ j ∧ j ≤ 7 ∧ v1 = nI j
  · obtain ⟨j, hj1, hj2, rfl⟩ := w
    obtain ⟨h1, kk, c, hk, hd, p1, C1, f1⟩ := c_needs C hv hj1 hj2 hF3
    exact st_ok I p1 C1 f1 (fun h1 t M => m_needs M hv hj1 hj2 hF3 hk hd) hv hs hm
  · refine st_no I (j := 1) (c := 1) ?_ (by rfl) (by decide) fun t M => ?_
    · unfold f_Np_needs
      exact rng_no (lo := 1) (hi := 7) (by omega) (by omega) w _ _
    · obtain ⟨h2, p2, M2, f2⟩ := M.t 1
      refine ⟨0, h2, ?_, M2, DM.mo' f2⟩
      show f_Mo_needs F 263 v1 h = _
      unfold f_Mo_needs
      rw [show f_Mo_in v1 (1 : Int32) (7 : Int32) = _ from in_no (lo := 1) (hi := 7) (by omega) (by omega) w, bnd_s, if_pos rfl, b_Mo_needs_16, p2, bnd_s, M2.th, bnd_s, if_neg (by decide)]
theorem l_1088 {F L : Nat} {xs : Nat → Int32} {k : Nat → Nat → Nat → Int32 → PH → Option Int32} {i v1 : Int32} {h : PH} (H : IVe h) (hF : 3000 + nB 36 ≤ F) (e1 : xI L xs (i + 1) = some v1) : ∃ h', IVe h' ∧ b_Law_law_1088 F L xs k 0 263 278 i h = k 0 263 278 (i + 4) h' := by
  have hF3 := F3 hF
  obtain ⟨x, m, sv, tl, tx, I⟩ := H
  obtain ⟨C, _, hv, hs, hm, _⟩ := id I
  have hb : b_Law_law_1088 F L xs k 0 263 278 i h = LWT k i (f_Np_solutions F 0 v1 h) (hd1 1) (fun h => f_Mo_solutions F 263 v1 h) h := by
    rw [b_Law_law_1088, e1]; rfl
  rw [hb]
  by_cases w : ∃ j, 1 ≤ j ∧ j ≤ 20 ∧ v1 = nI j
  · obtain ⟨j, hj1, hj2, rfl⟩ := w
    obtain ⟨h1, p1, C1, f1⟩ := c_solutions C hv hj1 hj2 hF3
    exact st_ok I p1 C1 f1 (fun h1 t M => m_solutions M hv hj1 hj2 hF) hv hs hm
  · refine st_no I (j := 1) (c := 1) ?_ (by rfl) (by decide) fun t M => ?_
    · unfold f_Np_solutions
      exact rng_no (lo := 1) (hi := 20) (by omega) (by omega) w _ _
    · obtain ⟨h2, p2, M2, f2⟩ := M.t 1
      refine ⟨0, h2, ?_, M2, DM.mo' f2⟩
      show f_Mo_solutions F 263 v1 h = _
      unfold f_Mo_solutions
      rw [show f_Mo_in v1 (1 : Int32) (20 : Int32) = _ from in_no (lo := 1) (hi := 20) (by omega) (by omega) w, bnd_s, if_pos rfl, b_Mo_solutions_16, p2, bnd_s, M2.th, bnd_s, if_neg (by decide)]
theorem l_1157 {F L : Nat} {xs : Nat → Int32} {k : Nat → Nat → Nat → Int32 → PH → Option Int32} {i v1 : Int32} {h : PH} (H : IVe h) (hF : 3000 + nB 36 ≤ F) (e1 : xI L xs (i + 1) = some v1) : ∃ h', IVe h' ∧ b_Law_law_1157 F L xs k 0 263 278 i h = k 0 263 278 (i + 4) h' := by
  have hF3 := F3 hF
  obtain ⟨x, m, sv, tl, tx, I⟩ := H
  obtain ⟨C, _, hv, hs, hm, _⟩ := id I
  have hb : b_Law_law_1157 F L xs k 0 263 278 i h = LWT k i (f_Np_solved F 0 v1 h) (hd1 0) (fun h => f_Mo_solved F 263 v1 h) h := by
    rw [b_Law_law_1157, e1]; rfl
  rw [hb]
  by_cases w : ∃ j, j < 36 ∧ v1 = nI j
  · obtain ⟨c, hc, rfl⟩ := w
    obtain ⟨h1, C1, f1, q1⟩ := c_solved C hv hc hF3
    rcases q1 with ⟨w, p1⟩ | ⟨L', y, w, hE, hy, p1⟩
    · obtain ⟨L', hE⟩ := ev_of hv.1 hv.2.1
      refine st_ok I p1 C1 f1 (fun h1 t M => ?_) hv hs hm
      obtain ⟨h2, M2, f2, p2, _⟩ := m_solved M hv hE hc hF
      exact ⟨h2, p2 w, M2, f2⟩
    · refine st_ok I p1 C1 f1 (fun h1 t M => ?_) hv hs hm
      obtain ⟨h2, M2, f2, _, p2⟩ := m_solved M hv hE hc hF
      exact ⟨h2, p2 w y hy, M2, f2⟩
  · refine st_no I (j := 0) (c := 1) ?_ (by rfl) (by decide) fun t M => ?_
    · unfold f_Np_solved
      rw [cc_no w]; rfl
    · obtain ⟨h2, p2, M2, f2⟩ := M.t 1
      refine ⟨0, h2, ?_, M2, DM.mo' f2⟩
      show f_Mo_solved F 263 v1 h = _
      unfold f_Mo_solved
      rw [mc_no w, bnd_s, if_pos rfl, b_Mo_solved_13, p2, bnd_s, M2.th, bnd_s, if_neg (by decide)]
theorem l_1314 {F L : Nat} {xs : Nat → Int32} {k : Nat → Nat → Nat → Int32 → PH → Option Int32} {i v1 : Int32} {h : PH} (H : IVe h) (hF : 3000 + nB 36 ≤ F) (e1 : xI L xs (i + 1) = some v1) : ∃ h', IVe h' ∧ b_Law_law_1314 F L xs k 0 263 278 i h = k 0 263 278 (i + 4) h' := by
  have hF3 := F3 hF
  obtain ⟨x, m, sv, tl, tx, I⟩ := H
  obtain ⟨C, _, hv, hs, hm, _⟩ := id I
  have hb : b_Law_law_1314 F L xs k 0 263 278 i h = LWT k i (f_Np_append 0 v1 h) (hd2 1 2) (fun h => f_Mo_append 263 v1 h) h := by
    rw [b_Law_law_1314, e1]; rfl
  rw [hb]
  by_cases w : ∃ j, 0 ≤ j ∧ j ≤ 127 ∧ v1 = nI j
  · obtain ⟨j, _, hj2, rfl⟩ := w
    obtain ⟨h150, q1⟩ := c_append C (v := nI j) (nI_pos (by omega)) (show nI j ≤ (127 : Int32) from nI_le (a := j) (b := 127) hj2 (by omega))
    rcases q1 with ⟨w, p1⟩ | ⟨h1, hl, p1, C1, f1⟩
    · subst w
      refine st_no I (j := 2) (c := 2) p1 (by rfl) (by decide) fun t M => ?_
      obtain ⟨h2, p2, M2, f2⟩ := M.t 2
      refine ⟨0, h2, ?_, M2, DM.mo' f2⟩
      show f_Mo_append 263 (nI j) h = _
      unfold f_Mo_append
      rw [show f_Mo_in (nI j) (0 : Int32) (127 : Int32) = _ from m_in (lo := 0) (hi := 127) (by omega) hj2 (by omega), bnd_s, if_neg (by decide), M.r.2.2.2.2.2.2.2.2.2.2.2.1, bnd_s, if_pos (show nI 150 = (150 : Int32) from rfl), b_Mo_append_30, p2, bnd_s, M2.th, bnd_s, if_neg (by decide)]
    · exact st_ok I p1 C1 f1 (fun h1 t M => m_append M hj2 hl) hv hs hm
  · refine st_no I (j := 1) (c := 1) ?_ (by rfl) (by decide) fun t M => ?_
    · unfold f_Np_append
      exact rng_no (lo := 0) (hi := 127) (by omega) (by omega) w _ _
    · obtain ⟨h2, p2, M2, f2⟩ := M.t 1
      refine ⟨0, h2, ?_, M2, DM.mo' f2⟩
      show f_Mo_append 263 v1 h = _
      unfold f_Mo_append
      rw [show f_Mo_in v1 (0 : Int32) (127 : Int32) = _ from in_no (lo := 0) (hi := 127) (by omega) (by omega) w, bnd_s, if_pos rfl, b_Mo_append_30, p2, bnd_s, M2.th, bnd_s, if_neg (by decide)]
theorem l_485 {F L : Nat} {xs : Nat → Int32} {k : Nat → Nat → Nat → Int32 → PH → Option Int32} {i v1 v2 : Int32} {h : PH} (H : IVe h) (hF : 3000 + nB 36 ≤ F) (e1 : xI L xs (i + 1) = some v1) (e2 : xI L xs (i + 2) = some v2) : ∃ h', IVe h' ∧ b_Law_law_485 F L xs k 0 263 278 i h = k 0 263 278 (i + 4) h' := by
  have hF3 := F3 hF
  obtain ⟨x, m, sv, tl, tx, I⟩ := H
  obtain ⟨C, _, hv, hs, hm, _⟩ := id I
  have hb : b_Law_law_485 F L xs k 0 263 278 i h = LWT k i (f_Np_make F 0 v1 v2 h) (hd1 1) (fun h => f_Mo_make F 263 v1 v2 h) h := by
    rw [b_Law_law_485, e1, e2]; rfl
  rw [hb]
  have cl : ∀ h, (¬ ∃ j, 0 ≤ j ∧ j ≤ 36 ∧ v2 = nI j) → f_Np_make F 0 v1 v2 h = some (.inl 1, h) := fun h w => by
    unfold f_Np_make
    have z := rng_no (lo := 0) (hi := 36) (by omega) (by omega) w (b_Np_make_20 F h)
    split
    · rfl
    · split
      · rfl
      · exact z _
  by_cases w : ∃ j, 0 ≤ j ∧ j ≤ 999999 ∧ v1 = nI j
  · obtain ⟨a, _, ha, rfl⟩ := w
    by_cases w2 : ∃ j, 0 ≤ j ∧ j ≤ 36 ∧ v2 = nI j
    · obtain ⟨b, _, hb6, rfl⟩ := w2
      obtain ⟨h1, p1, C1, f1⟩ := c_make C hv ha hb6 hF3
      exact st_ok I p1 C1 f1 (fun h1 t M => m_make M hv hs ha hb6 hF) ⟨R0_ok, fun c _ z => (by cases z), (mkl_ok 36 0 36 (grG a) (grG_ok a) (by omega)).1, by show 0 ≤ 100; omega⟩ (svS_v hm hv hs) svN_le
    · refine st_no I (j := 1) (c := 1) (cl h w2) (by rfl) (by decide) fun t M => ?_
      obtain ⟨h2, p2, M2, f2⟩ := M.t 1
      refine ⟨0, h2, ?_, M2, DM.mo' f2⟩
      show f_Mo_make F 263 (nI a) v2 h = _
      unfold f_Mo_make
      rw [show f_Mo_in (nI a) (0 : Int32) (999999 : Int32) = _ from m_in (lo := 0) (hi := 999999) (by omega) ha (by omega), bnd_s, if_neg (by decide), show f_Mo_in v2 (0 : Int32) (36 : Int32) = _ from in_no (lo := 0) (hi := 36) (by omega) (by omega) w2, bnd_s, if_pos rfl, b_Mo_make_25, b_Mo_make_26, p2, bnd_s, M2.th, bnd_s, if_neg (by decide)]
  · refine st_no I (j := 1) (c := 1) ?_ (by rfl) (by decide) fun t M => ?_
    · unfold f_Np_make
      rcases arg_c v1 with w1 | ⟨j, hj, rfl⟩
      · rw [if_pos w1]; rfl
      · have q6 : ¬ j ≤ 999999 := fun z => w ⟨j, by omega, z, rfl⟩
        rw [if_neg (nI_pos hj), if_pos (show (999999 : Int32) < nI j from nI_lt (a := 999999) (b := j) (by omega) hj)]; rfl
    · obtain ⟨h2, p2, M2, f2⟩ := M.t 1
      refine ⟨0, h2, ?_, M2, DM.mo' f2⟩
      show f_Mo_make F 263 v1 v2 h = _
      unfold f_Mo_make
      rw [show f_Mo_in v1 (0 : Int32) (999999 : Int32) = _ from in_no (lo := 0) (hi := 999999) (by omega) (by omega) w, bnd_s, if_pos rfl, b_Mo_make_25, b_Mo_make_26, p2, bnd_s, M2.th, bnd_s, if_neg (by decide)]
