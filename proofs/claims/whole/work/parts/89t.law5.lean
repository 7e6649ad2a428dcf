/-! The law: one call with arguments, both ways. -/
def LW (X : Option ((Nat ⊕ Int32) × PH)) (hd : Nat → Option Int32) (h : PH) : Option (Int32 × PH) := bnd (cK h 0 9) fun _ => bndC X (fun x2 h3 => bnd (sL h3 278 (0 : Int32) (x2.toInt64)) fun h4 => some ((0 : Int32), h4)) hd
def LT (k : Nat → Nat → Nat → Int32 → PH → Option Int32) (i x3 : Int32) (P : Option (Int32 × PH)) : Option Int32 := bnd2 P fun x8 h9 => bnd (cK h9 263 10) fun _ => bnd (f_Mo_thrown 263 h9) fun x11 => (if x11 = x3 then (if x3 = (0 : Int32) then bnd (aL h9 278 (0 : Int32)) fun x12 => (if (lg_cmp x12 (x8.toInt64)) = (0 : Int32) then k 0 263 278 (i + (4 : Int32)) h9 else some (0 : Int32)) else k 0 263 278 (i + (4 : Int32)) h9) else some (0 : Int32))
def LWT (k : Nat → Nat → Nat → Int32 → PH → Option Int32) (i : Int32) (X : Option ((Nat ⊕ Int32) × PH)) (hd : Nat → Option Int32) (P : PH → Option (Int32 × PH)) (h : PH) : Option Int32 := bnd2 (LW X hd h) fun x3 h4 => bnd (cK h4 263 10) fun _ => LT k i x3 (P h4)
theorem mo_th {h : PH} {x : ST} {m : Nat} {sv : Nat → ST} {tl : Nat} {tx : Nat → Int32} {t : Int32} (M : MW h 263 x m sv tl tx t) : f_Mo_thrown 263 h = some t := by
  unfold f_Mo_thrown
  rw [M.th, bnd_s]
theorem st_ok {k : Nat → Nat → Nat → Int32 → PH → Option Int32} {i : Int32} {hd : Nat → Option Int32} {P : PH → Option (Int32 × PH)} {X : Option ((Nat ⊕ Int32) × PH)} {h h1 : PH} {x x' : ST} {m m' : Nat} {sv sv' : Nat → ST} {tl tl' : Nat} {tx tx' : Nat → Int32} {v : Int32} (I : IV h x m sv tl tx) (hX : X = some (.inr v, h1)) (C1 : CW h1 x' m' sv' tl' tx') (f1 : Fr (fun k => k < 263) h h1)
    (hP : ∀ h1' t, MW h1' 263 x m sv tl tx t → ∃ h2, P h1' = some (v, h2) ∧ MW h2 263 x' m' sv' tl' tx' 0 ∧ Fr (DM 263) h1' h2) (hv : VAL x') (hs : ∀ i, i < m' → VAL (sv' i)) (hm : m' ≤ 4) : ∃ h', IVe h' ∧ LWT k i X hd P h = k 0 263 278 (i + 4) h' := by
  obtain ⟨h1', q1, r1, ⟨t, M1⟩, o1⟩ := iv_out I f1 v.toInt64
  obtain ⟨h2, p2, M2, f2⟩ := hP h1' t M1
  obtain ⟨o2, o3⟩ := o1 h2 f2
  refine ⟨h2, iv_go C1 r1 f2 M2 hv hs hm o3, ?_⟩
  have hlw : LW X hd h = some (0, h1') := by
    unfold LW
    rw [I.ck, bnd_s, hX]
    show bnd (sL h1 278 (0 : Int32) v.toInt64) _ = _
    rw [q1, bnd_s]
  unfold LWT LT
  rw [hlw, bnd2_s, M1.r.1, bnd_s, p2, bnd2_s, M2.r.1, bnd_s, mo_th M2, bnd_s, if_pos rfl, if_pos rfl, o2, bnd_s, lg_self, if_pos rfl]
theorem st_no {k : Nat → Nat → Nat → Int32 → PH → Option Int32} {i : Int32} {hd : Nat → Option Int32} {P : PH → Option (Int32 × PH)} {X : Option ((Nat ⊕ Int32) × PH)} {h : PH} {x : ST} {m : Nat} {sv : Nat → ST} {tl : Nat} {tx : Nat → Int32} {j : Nat} {c : Int32} (I : IV h x m sv tl tx) (hX : X = some (.inl j, h)) (hc : hd j = some c) (hc0 : ¬ c = 0)
    (hP : ∀ t, MW h 263 x m sv tl tx t → ∃ u h2, P h = some (u, h2) ∧ MW h2 263 x m sv tl tx c ∧ Fr (DM 263) h h2) : ∃ h', IVe h' ∧ LWT k i X hd P h = k 0 263 278 (i + 4) h' := by
  obtain ⟨C, ⟨t0, M0⟩, hv, hs, hm, _⟩ := id I
  obtain ⟨u, h2, p2, M2, f2⟩ := hP t0 M0
  refine ⟨h2, I.go (Fr.rf _ _) C f2 M2 hv hs hm, ?_⟩
  have hlw : LW X hd h = some (c, h) := by
    unfold LW
    rw [I.ck, bnd_s, hX]
    show (match hd j with | none => none | some c => some (c, h)) = _
    rw [hc]
  unfold LWT LT
  rw [hlw, bnd2_s, M0.r.1, bnd_s, p2, bnd2_s, M2.r.1, bnd_s, mo_th M2, bnd_s, if_pos rfl, if_neg hc0]
theorem cd_no {v : Int32} (h : ¬ ∃ j, isD j = true ∧ v = nI j) (H : PH) : f_Np_checkDigit v H = some (.inl 1, H) := by
  unfold f_Np_checkDigit
  rcases arg_c v with w | ⟨j, hj, rfl⟩
  · rw [if_pos (Int32.lt_trans w (show (0 : Int32) < 1 by decide))]; rfl
  · by_cases q : j < 1
    · rw [if_pos (show nI j < (1 : Int32) from nI_lt (a := j) (b := 1) q (by omega))]; rfl
    · have q6 : ¬ j < 7 := fun z => h ⟨j, isD_i (by omega) z, rfl⟩
      rw [if_neg (show ¬ nI j < (1 : Int32) from nI_nlt (a := j) (b := 1) (by omega) hj), if_neg (show ¬ nI j ≤ (6 : Int32) from nI_ge (a := 6) (b := j) (by omega) hj)]
      rfl
theorem cd_ok {d : Nat} (hd : isD d = true) (h : PH) : f_Np_checkDigit (nI d) h = some (.inr (), h) := by
  have hd' := isD_b hd
  unfold f_Np_checkDigit
  rw [if_neg (show ¬ nI d < (1 : Int32) from nI_nlt (a := d) (b := 1) (by omega) (by omega)), if_pos (show nI d ≤ (6 : Int32) from nI_le (a := d) (b := 6) (by omega) (by omega))]
theorem md_no {v : Int32} (h : ¬ ∃ j, isD j = true ∧ v = nI j) : f_Mo_isDigit v = some 0 := by
  unfold f_Mo_isDigit
  rw [show f_Mo_in v (1 : Int32) (6 : Int32) = _ from in_no (lo := 1) (hi := 6) (by omega) (by omega) fun ⟨j, h1, h2, h3⟩ => h ⟨j, isD_i h1 (by omega), h3⟩, bnd_s]
  rfl
theorem l_745 {F L : Nat} {xs : Nat → Int32} {k : Nat → Nat → Nat → Int32 → PH → Option Int32} {i v1 : Int32} {h : PH} (H : IVe h) (hF : 3000 + nB 36 ≤ F) (e1 : xI L xs (i + 1) = some v1) : ∃ h', IVe h' ∧ b_Law_law_745 F L xs k 0 263 278 i h = k 0 263 278 (i + 4) h' := by
  have hF3 := F3 hF
  obtain ⟨x, m, sv, tl, tx, I⟩ := H
  obtain ⟨C, _, hv, hs, hm, _⟩ := id I
  have hb : b_Law_law_745 F L xs k 0 263 278 i h = LWT k i (f_Np_candidates F 0 v1 h) (hd1 0) (fun h => f_Mo_candidates 263 v1 h) h := by
    rw [b_Law_law_745, e1]; rfl
  rw [hb]
  by_cases w : ∃ j, j < 36 ∧ v1 = nI j
  · obtain ⟨c, hc, rfl⟩ := w
    exact st_ok I (c_cand C hc hF3) C (Fr.rf _ _) (fun h1 t M => m_cand M hc) hv hs hm
  · refine st_no I (j := 0) (c := 1) ?_ (by rfl) (by decide) fun t M => ?_
    · unfold f_Np_candidates
      rw [cc_no w]; rfl
    · obtain ⟨h2, p2, M2, f2⟩ := M.t 1
      refine ⟨0, h2, ?_, M2, DM.mo' f2⟩
      show f_Mo_candidates 263 v1 h = _
      unfold f_Mo_candidates
      rw [mc_no w, bnd_s, if_pos rfl, b_Mo_candidates_13, p2, bnd_s, M2.th, bnd_s, if_neg (by decide)]
theorem l_689 {F L : Nat} {xs : Nat → Int32} {k : Nat → Nat → Nat → Int32 → PH → Option Int32} {i v1 : Int32} {h : PH} (H : IVe h) (hF : 3000 + nB 36 ≤ F) (e1 : xI L xs (i + 1) = some v1) : ∃ h', IVe h' ∧ b_Law_law_689 F L xs k 0 263 278 i h = k 0 263 278 (i + 4) h' := by
  have hF3 := F3 hF
  obtain ⟨x, m, sv, tl, tx, I⟩ := H
  obtain ⟨C, _, hv, hs, hm, _⟩ := id I
  have hb : b_Law_law_689 F L xs k 0 263 278 i h = LWT k i (f_Np_count F 0 v1 h) (hd1 1) (fun h => f_Mo_count F 263 v1 h) h := by
    rw [b_Law_law_689, e1]; rfl
  rw [hb]
  by_cases w : ∃ j, j ≤ 5 ∧ v1 = nI j
  · obtain ⟨c, hc, rfl⟩ := w
    exact st_ok I (c_cnt C hv (by omega) hF3) C (Fr.rf _ _) (fun h1 t M => m_cnt M hv (by omega) hF3) hv hs hm
  · refine st_no I (j := 1) (c := 1) ?_ (by rfl) (by decide) fun t M => ?_
    · unfold f_Np_count
      rw [show f_Np_checkWhat v1 (5 : Int32) h = _ from what_no (n := 5) (by omega) w h]; rfl
    · obtain ⟨h2, p2, M2, f2⟩ := M.t 1
      refine ⟨0, h2, ?_, M2, DM.mo' f2⟩
      show f_Mo_count F 263 v1 h = _
      unfold f_Mo_count
      rw [show f_Mo_in v1 (0 : Int32) (5 : Int32) = _ from in_no (lo := 0) (hi := 5) (by omega) (by omega) fun ⟨j, _, h2, h3⟩ => w ⟨j, h2, h3⟩, bnd_s, if_pos rfl, b_Mo_count_15, p2, bnd_s, M2.th, bnd_s, if_neg (by decide)]
theorem l_801 {F L : Nat} {xs : Nat → Int32} {k : Nat → Nat → Nat → Int32 → PH → Option Int32} {i v1 v2 : Int32} {h : PH} (H : IVe h) (hF : 3000 + nB 36 ≤ F) (e1 : xI L xs (i + 1) = some v1) (e2 : xI L xs (i + 2) = some v2) : ∃ h', IVe h' ∧ b_Law_law_801 F L xs k 0 263 278 i h = k 0 263 278 (i + 4) h' := by
  have hF3 := F3 hF
  obtain ⟨x, m, sv, tl, tx, I⟩ := H
  obtain ⟨C, _, hv, hs, hm, _⟩ := id I
  have hb : b_Law_law_801 F L xs k 0 263 278 i h = LWT k i (f_Np_cell F 0 v1 v2 h) (hd2 0 1) (fun h => f_Mo_cell F 263 v1 v2 h) h := by
    rw [b_Law_law_801, e1, e2]; rfl
  rw [hb]
  by_cases w : ∃ j, j < 36 ∧ v1 = nI j
  · obtain ⟨c, hc, rfl⟩ := w
    by_cases w2 : ∃ j, j ≤ 2 ∧ v2 = nI j
    · obtain ⟨d, hd, rfl⟩ := w2
      exact st_ok I (c_cell C hc (by omega) hF3) C (Fr.rf _ _) (fun h1 t M => m_cellV M hv hc (by omega) hF3) hv hs hm
    · refine st_no I (j := 1) (c := 2) ?_ (by rfl) (by decide) fun t M => ?_
      · unfold f_Np_cell
        rw [c1_ok hc]
        show bndT (f_Np_checkWhat v2 (2 : Int32) h) _ = _
        rw [show f_Np_checkWhat v2 (2 : Int32) h = _ from what_no (n := 2) (by omega) w2 h]; rfl
      · obtain ⟨h2, p2, M2, f2⟩ := M.t 2
        refine ⟨0, h2, ?_, M2, DM.mo' f2⟩
        show f_Mo_cell F 263 (nI c) v2 h = _
        unfold f_Mo_cell
        rw [m_cell hc, bnd_s, if_neg (by decide), show f_Mo_in v2 (0 : Int32) (2 : Int32) = _ from in_no (lo := 0) (hi := 2) (by omega) (by omega) fun ⟨j, _, h2, h3⟩ => w2 ⟨j, h2, h3⟩, bnd_s, if_pos rfl, b_Mo_cell_26, p2, bnd_s, M2.th, bnd_s, if_neg (by decide)]
  · refine st_no I (j := 0) (c := 1) ?_ (by rfl) (by decide) fun t M => ?_
    · unfold f_Np_cell
      rw [cc_no w]; rfl
    · obtain ⟨h2, p2, M2, f2⟩ := M.t 1
      refine ⟨0, h2, ?_, M2, DM.mo' f2⟩
      show f_Mo_cell F 263 v1 v2 h = _
      unfold f_Mo_cell
      rw [mc_no w, bnd_s, if_pos rfl, b_Mo_cell_26, p2, bnd_s, M2.th, bnd_s, if_neg (by decide)]
theorem give_v {x : ST} (hv : VAL x) {c d : Nat} (hd : isD d = true) : VAL (tR x, kpO (tK x) c d, tP x, upG (tG x) c d, 0, tE x) := ⟨hv.1, hv.2.1.sub kpO_sub, fun a ha => by
  have hd' := isD_b hd
  show (if a = c then d else tG x a) < 7
  split
  · exact hd'.2
  · exact hv.2.2.1 a ha, by show 0 ≤ 100; omega⟩
theorem l_181 {F L : Nat} {xs : Nat → Int32} {k : Nat → Nat → Nat → Int32 → PH → Option Int32} {i v1 v2 : Int32} {h : PH} (H : IVe h) (hF : 3000 + nB 36 ≤ F) (e1 : xI L xs (i + 1) = some v1) (e2 : xI L xs (i + 2) = some v2) : ∃ h', IVe h' ∧ b_Law_law_181 F L xs k 0 263 278 i h = k 0 263 278 (i + 4) h' := by
  have hF3 := F3 hF
  obtain ⟨x, m, sv, tl, tx, I⟩ := H
  obtain ⟨C, _, hv, hs, hm, _⟩ := id I
  have hb : b_Law_law_181 F L xs k 0 263 278 i h = LWT k i (f_Np_give F 0 v1 v2 h) (hd2 0 1) (fun h => f_Mo_give F 263 v1 v2 h) h := by
    rw [b_Law_law_181, e1, e2]; rfl
  rw [hb]
  by_cases w : ∃ j, j < 36 ∧ v1 = nI j
  · obtain ⟨c, hc, rfl⟩ := w
    by_cases w2 : ∃ j, isD j = true ∧ v2 = nI j
    · obtain ⟨d, hd, rfl⟩ := w2
      obtain ⟨h1, p1, C1, f1⟩ := c_give C hv hc hd hF3
      exact st_ok I p1 C1 f1 (fun h1 t M => m_give M hv hs hc hd hF3) (give_v hv hd) (svS_v hm hv hs) svN_le
    · refine st_no I (j := 1) (c := 2) ?_ (by rfl) (by decide) fun t M => ?_
      · unfold f_Np_give
        rw [c1_ok hc]
        show bndT (f_Np_checkDigit v2 h) _ = _
        rw [cd_no w2]; rfl
      · obtain ⟨h2, p2, M2, f2⟩ := M.t 2
        refine ⟨0, h2, ?_, M2, DM.mo' f2⟩
        show f_Mo_give F 263 (nI c) v2 h = _
        unfold f_Mo_give
        rw [m_cell hc, bnd_s, if_neg (by decide), md_no w2, bnd_s, if_pos rfl, b_Mo_give_24, p2, bnd_s, M2.th, bnd_s, if_neg (by decide)]
  · refine st_no I (j := 0) (c := 1) ?_ (by rfl) (by decide) fun t M => ?_
    · unfold f_Np_give
      rw [cc_no w]; rfl
    · obtain ⟨h2, p2, M2, f2⟩ := M.t 1
      refine ⟨0, h2, ?_, M2, DM.mo' f2⟩
      show f_Mo_give F 263 v1 v2 h = _
      unfold f_Mo_give
      rw [mc_no w, bnd_s, if_pos rfl, b_Mo_give_24, p2, bnd_s, M2.th, bnd_s, if_neg (by decide)]
