/-! The class's calls: constraints, deductions, hints. -/
theorem Kp_R {R R' : RT} {K : Nat → Nat → Bool} {k j d : Nat} (e1 : rk R' k = rk R k) (e2 : rs R' k = rs R k) (e3 : rl R' k = rl R k) (e4 : ∀ i, i < rl R k → rc R' k i = rc R k i) (h : Kp R K k j d) : Kp R' K k j d := by
  obtain ⟨v, h1, ⟨w1, w2, w3⟩, h3⟩ := h
  refine ⟨v, fun i hi => ?_, ⟨fun z => ?_, fun z => ?_, fun z => ?_⟩, h3⟩
  · rw [e3] at hi
    rw [e4 i hi]
    exact h1 i hi
  · rw [e3, e2]; exact w1 (e1.symm.trans z)
  · rw [e3]; exact w2 (e1.symm.trans z)
  · rw [e3]; exact w3 (e1.symm.trans z)
theorem inv_add {R : RT} {K : Nat → Nat → Bool} {T S : Nat → Bool} (h : INV R K T S) (w s c : Nat) : INV (exR (adR R w s) (rn R) c) K T S := by
  have hl : ∀ k, k ≠ rn R → rl (exR (adR R w s) (rn R) c) k = rl R k := fun k hk => by
    show (if k = rn R then rl (adR R w s) (rn R) + 1 else (if k = rn R then 0 else rl R k)) = rl R k
    rw [if_neg hk, if_neg hk]
  have hln : rl (exR (adR R w s) (rn R) c) (rn R) = 1 := by
    show (if rn R = rn R then (if rn R = rn R then 0 else rl R (rn R)) + 1 else _) = 1
    rw [if_pos rfl, if_pos rfl]
  refine ⟨fun k hk z => ?_, fun k hk h2 z hT => ?_⟩
  · obtain ⟨a, b⟩ := h.1 k hk z
    exact ⟨by show k < rn R + 1; omega, by rw [hl k (by omega)]; exact b⟩
  · have hk' : k < rn R + 1 := hk
    by_cases q : k = rn R
    · subst q; rw [hln] at h2; omega
    · have hc : ∀ i, rc (exR (adR R w s) (rn R) c) k i = rc R k i := fun i => if_neg fun t => q t.1
      rw [hl k q] at h2
      have hN := h.2 k (by omega) h2 z fun j hj => by
        have := hT j (by rw [hl k q]; exact hj)
        rw [hc j] at this
        exact this
      intro j d hj hd hk2
      rw [hl k q] at hj
      rw [hc j] at hk2
      refine Kp_R ?_ ?_ (hl k q) (fun i _ => hc i) (hN j d hj hd hk2)
      · show (if k = rn R then w else rk R k) = rk R k
        rw [if_neg q]
      · show (if k = rn R then s else rs R k) = rs R k
        rw [if_neg q]
theorem inv_ext {R : RT} {K : Nat → Nat → Bool} {T S : Nat → Bool} (h : INV R K T S) (k c : Nat) : INV (exR R k c) K (fun _ => true) S := by
  refine ⟨fun i hi z => ?_, fun i hi h2 z hT => ?_⟩
  · obtain ⟨a, b⟩ := h.1 i hi z
    refine ⟨a, ?_⟩
    show 2 ≤ if i = k then rl R k + 1 else rl R i
    by_cases q : i = k
    · subst q; rw [if_pos rfl]; omega
    · rw [if_neg q]; exact b
  · have := hT 0 (by omega)
    cases this
theorem c1_ok {c : Nat} (hc : c < 36) (h : PH) : f_Np_checkCell (nI c) h = some (.inr (), h) := by
  unfold f_Np_checkCell
  rw [if_neg (nI_pos (by omega)), if_pos (show nI c < (36 : Int32) from nI_lt (a := c) (b := 36) hc (by omega))]
theorem c_add {h : PH} {x : ST} {m : Nat} {sv : Nat → ST} {tl : Nat} {tx : Nat → Int32} (H : CW h x m sv tl tx) (hv : VAL x) {w c s : Nat} (hc : c < 36) (hw : w < 3) (hs : if w = 0 then 1 ≤ s ∧ s ≤ 24 else s = 0) (h8 : rn (tR x) < 8) {F : Nat} (hF : 3000 ≤ F) : ∃ h', f_Np_addConstraint F 0 (nI w) (nI c) (nI s) h = some (.inr (nI (rn (tR x))), h') ∧ CW h' (exR (adR (tR x) w s) (rn (tR x)) c, tK x, tP x, tG x, 0, tE x) (svN m) (svS m sv x) tl tx ∧ VAL (exR (adR (tR x) w s) (rn (tR x)) c, tK x, tP x, tG x, 0, tE x) ∧ Fr (fun k => k < 263) h h' := by
  have hs25 : s < 25 := by
    by_cases q : w = 0
    · rw [if_pos q] at hs; omega
    · rw [if_neg q] at hs; omega
  obtain ⟨h1, p1, hC, hF1, hA1, hB1, f1⟩ := np_save H hv
  obtain ⟨T, S, ⟨⟨V, a0, a1⟩, b, r, ⟨g, e, e'⟩, l⟩, i⟩ := hC
  obtain ⟨h2, p2, g2, f2⟩ := log_wipe l.sh (tE x)
  have hz : ∀ k, k ≠ 12 → h2.2 k = h1.2 k := fun k h2 => f2.2 k (by omega)
  obtain ⟨h3, p3, g3, f3⟩ := rul_add (r.fe (h' := h2) fun j hj => hz _ (by omega)) hv.1 h8 w s
  have hok := adR_ok hv.1 h8 (w := w) (s := s) hw hs25
  have hln : rl (adR (tR x) w s) (rn (tR x)) = 0 := if_pos rfl
  have hmem : mem (adR (tR x) w s) (rn (tR x)) c = false := mem_f.mpr fun j hj => by omega
  have hmx : 0 < mxl (rk (adR (tR x) w s) (rn (tR x))) := by unfold mxl; split <;> omega
  obtain ⟨h4, p4, g4, f4⟩ := rul_attach g3 hok (k := rn (tR x)) (c := c) (by show rn (tR x) < rn (tR x) + 1; omega) (by omega) hc hmem (F := F) (by omega)
  have hy : ∀ k, ¬ (4 ≤ k ∧ k < 11) → h4.2 k = h2.2 k := fun k hk => (f4.2 k (by simp only [UR]; omega)).trans (f3.2 k (by simp only [UR]; omega))
  have F14 : Fr (US 1) h1 h4 := (f2.mo fun k hk => by simp only [US]; omega).tr ((f3.mo fun k hk => by simp only [UR, US] at hk ⊢; omega).tr (f4.mo fun k hk => by simp only [UR, US] at hk ⊢; omega))
  have hS : StaAt h4 1 (exR (adR (tR x) w s) (rn (tR x)) c, tK x, tP x, tG x, 0, tE x) T S := ⟨⟨V, (hy _ (by omega)).trans ((hz _ (by omega)).trans a0), a1⟩, b.fr ((hy _ (by omega)).trans (hz _ (by omega))) ((hy _ (by omega)).trans (hz _ (by omega))), g4, ⟨g, (hy _ (by omega)).trans ((hz _ (by omega)).trans e), e'⟩, g2.fr (hy _ (by omega)) (hy _ (by omega))⟩
  have hA2 : CA h2 (svN m) (svS m sv x) tl tx := hA1.fr fun k hk => hz k (by simp only [DA] at hk; omega)
  have hA3 : CA h3 (svN m) (svS m sv x) tl tx := hA2.fr fun k hk => f3.2 k (by simp only [DA, UR] at hk ⊢; omega)
  have hv' : VAL (exR (adR (tR x) w s) (rn (tR x)) c, tK x, tP x, tG x, 0, tE x) := ⟨exR_ok hok (by show rn (tR x) < rn (tR x) + 1; omega) (by omega) hc hmem, hv.2.1, hv.2.2.1, by show 0 ≤ 100; omega⟩
  refine ⟨h4, ?_, cw_fin hF1 hA1 hB1 F14 ⟨_, _, hS, inv_add i w s c⟩ hv', hv', (f1.mo fun k hk => by omega).tr (F14.mo fun k hk => by simp only [US] at hk; omega)⟩
  unfold f_Np_addConstraint
  obtain ⟨T0, S0, ⟨⟨V0, z0, z1⟩, _, zr, _⟩, _⟩ := H.1
  have k2 : h2.2 1 = obj 8 4 V := (hz _ (by omega)).trans a0
  have k3 : h3.2 1 = obj 8 4 V := (f3.2 1 (by simp only [UR]; omega)).trans k2
  have hck : cK h1 (1 + 11) 0 = some () := by obtain ⟨V9, _, z, _⟩ := l.sh; exact ob_K z
  have hck2 : cK h2 (1 + 3) 4 = some () := (ru_ck (r.fe (h' := h2) fun j hj => hz _ (by omega))).1
  have hl1 : (if (nI s) < (if w = 0 then (1 : Int32) else 0) then b_Np_addConstraint_29 F h else bnd (f_Np_greatestSum (nI w)) fun x4 => (if nI s ≤ x4 then some (Sum.inr (nI 0), h) else b_Np_addConstraint_29 F h)) = some (Sum.inr (nI 0), h) := by
    unfold f_Np_greatestSum
    by_cases q : w = 0
    · rw [if_pos q] at hs
      subst q
      rw [if_pos rfl, if_neg (show ¬ nI s < (1 : Int32) from nI_nlt (a := s) (b := 1) (by omega) (by omega)), if_pos (show nI 0 = (0 : Int32) from rfl), bnd_s, if_pos (show nI s ≤ (24 : Int32) from nI_le (a := s) (b := 24) (by omega) (by omega))]
    · rw [if_neg q] at hs
      subst hs
      rw [if_neg q, if_neg (show ¬ nI 0 < (0 : Int32) by decide), if_neg (show ¬ nI w = (0 : Int32) from fun z => q ((nI_eq (a := w) (b := 0) (by omega) (by omega)).mp z)), bnd_s, if_pos (show nI 0 ≤ (0 : Int32) by decide)]
  have hls : f_Np_leastSum (nI w) = some (if w = 0 then (1 : Int32) else 0) := by
    unfold f_Np_leastSum
    by_cases q : w = 0
    · subst q; rfl
    · rw [if_neg q, if_neg (show ¬ nI w = (0 : Int32) from fun z => q ((nI_eq (a := w) (b := 0) (by omega) (by omega)).mp z))]
  have hgs : f_Np_greatestSum (nI w) = some (if w = 0 then (24 : Int32) else 0) := by
    unfold f_Np_greatestSum
    by_cases q : w = 0
    · subst q; rfl
    · rw [if_neg q, if_neg (show ¬ nI w = (0 : Int32) from fun z => q ((nI_eq (a := w) (b := 0) (by omega) (by omega)).mp z))]
  have hlo : ¬ nI s < (if w = 0 then (1 : Int32) else 0) := by
    by_cases q : w = 0
    · rw [if_pos q] at hs ⊢
      exact nI_nlt (a := s) (b := 1) (by omega) (by omega)
    · rw [if_neg q] at hs ⊢
      subst hs
      decide
  have hhi : nI s ≤ (if w = 0 then (24 : Int32) else 0) := by
    by_cases q : w = 0
    · rw [if_pos q] at hs ⊢
      exact nI_le (a := s) (b := 24) (by omega) (by omega)
    · rw [if_neg q] at hs ⊢
      subst hs
      decide
  rw [c1_ok hc]
  show (if nI w < (0 : Int32) then _ else _) = _
  rw [if_neg (nI_pos (by omega)), if_neg (show ¬ (2 : Int32) < nI w from nI_nlt (a := 2) (b := w) (by omega) (by omega)), hls, bnd_s, if_neg hlo, hgs, bnd_s, if_pos hhi, (np_ck H.2.2.1).2, bnd_s, ob_R z0 (by omega) z1.2.1, bnd_s, (ru_ck zr).2, bnd_s, if_pos (show nI (rn (tR x)) < (8 : Int32) from nI_lt (a := rn (tR x)) (b := 8) h8 (by omega)), (np_ck H.2.2.1).1, bnd_s, p1, bnd_s, (np_ck hA1).2, bnd_s, ob_R a0 (by omega) a1.2.2.2, bnd_s, hck, bnd_s, p2, bnd_s, (np_ck hA2).2, bnd_s, ob_R k2 (by omega) a1.2.1, bnd_s, hck2, bnd_s, p3, bnd2_s, (np_ck hA3).2, bnd_s, ob_R k3 (by omega) a1.2.1, bnd_s, (ru_ck g3).1, bnd_s, p4, bnd_s]
theorem c_ext {h : PH} {x : ST} {m : Nat} {sv : Nat → ST} {tl : Nat} {tx : Nat → Int32} (H : CW h x m sv tl tx) (hv : VAL x) {k c : Nat} (hc : c < 36) (hk : k < rn (tR x)) (hl : rl (tR x) k < mxl (rk (tR x) k)) (hm : mem (tR x) k c = false) {F : Nat} (hF : 3000 ≤ F) : ∃ h', f_Np_extend F 0 (nI k) (nI c) h = some (.inr (nI (rl (tR x) k + 1)), h') ∧ CW h' (exR (tR x) k c, tK x, tP x, tG x, 0, tE x) (svN m) (svS m sv x) tl tx ∧ VAL (exR (tR x) k c, tK x, tP x, tG x, 0, tE x) ∧ Fr (fun k => k < 263) h h' := by
  have h8 := hv.1.1
  obtain ⟨h1, p1, hC, hF1, hA1, hB1, f1⟩ := np_save H hv
  obtain ⟨T, S, ⟨⟨V, a0, a1⟩, b, r, ⟨g, e, e'⟩, l⟩, i⟩ := hC
  obtain ⟨h2, p2, g2, f2⟩ := log_wipe l.sh (tE x)
  have hz : ∀ k, k ≠ 12 → h2.2 k = h1.2 k := fun k h2 => f2.2 k (by omega)
  obtain ⟨h3, p3, g3, f3⟩ := rul_attach (r.fe (h' := h2) fun j hj => hz _ (by omega)) hv.1 hk hl hc hm (F := F) (by omega)
  have hy : ∀ k, ¬ (4 ≤ k ∧ k < 11) → h3.2 k = h2.2 k := fun k hk => f3.2 k (by simp only [UR]; omega)
  have b3 : PosAt h3 (1 + 1) (tK x) (tP x) T S := b.fr ((hy _ (by omega)).trans (hz _ (by omega))) ((hy _ (by omega)).trans (hz _ (by omega)))
  obtain ⟨W, sp, pl, to, st, d0, d1, d2, d3, d4, d5, d6, d7, d8, d9⟩ := b3
  obtain ⟨h4, p4, g4, f4⟩ := puti (k := 2) (.long 68719476735) d0 (by omega)
  have hx4 : ∀ k, k ≠ 2 → h4.2 k = h3.2 k := fun k hk => f4.2 k (by omega)
  have F14 : Fr (US 1) h1 h4 := (f2.mo fun k hk => by simp only [US]; omega).tr ((f3.mo fun k hk => by simp only [UR, US] at hk ⊢; omega).tr (f4.mo fun k hk => by simp only [US]; omega))
  have hS : StaAt h4 1 (exR (tR x) k c, tK x, tP x, tG x, 0, tE x) (fun _ => true) S := ⟨⟨V, (hx4 _ (by omega)).trans ((hy _ (by omega)).trans ((hz _ (by omega)).trans a0)), a1⟩, ⟨_, sp, pl, _, st, g4, (vu_n _ _ (by omega)).trans d1, (vu_n _ _ (by omega)).trans d2, vu_s _ _ _, (vu_n _ _ (by omega)).trans d4, (hx4 _ (by omega)).trans d5, d6, d7, CS.all, d9⟩, g3.fe fun j hj => hx4 _ (by omega), ⟨g, (hx4 _ (by omega)).trans ((hy _ (by omega)).trans ((hz _ (by omega)).trans e)), e'⟩, g2.fr ((hx4 _ (by omega)).trans (hy _ (by omega))) ((hx4 _ (by omega)).trans (hy _ (by omega)))⟩
  have hA2 : CA h2 (svN m) (svS m sv x) tl tx := hA1.fr fun k hk => hz k (by simp only [DA] at hk; omega)
  have hA3 : CA h3 (svN m) (svS m sv x) tl tx := hA2.fr fun k hk => f3.2 k (by simp only [DA, UR] at hk ⊢; omega)
  have hA4 : CA h4 (svN m) (svS m sv x) tl tx := hA3.fr fun k hk => hx4 k (by simp only [DA] at hk; omega)
  have hv' : VAL (exR (tR x) k c, tK x, tP x, tG x, 0, tE x) := ⟨exR_ok hv.1 hk hl hc hm, hv.2.1, hv.2.2.1, by show 0 ≤ 100; omega⟩
  refine ⟨h4, ?_, cw_fin hF1 hA1 hB1 F14 ⟨_, _, hS, inv_ext i k c⟩ hv', hv', (f1.mo fun k hk => by omega).tr (F14.mo fun k hk => by simp only [US] at hk; omega)⟩
  unfold f_Np_extend
  obtain ⟨T0, S0, ⟨⟨V0, z0, z1⟩, _, zr, _⟩, _⟩ := H.1
  have k2 : h2.2 1 = obj 8 4 V := (hz _ (by omega)).trans a0
  have k3 : h3.2 1 = obj 8 4 V := (hy _ (by omega)).trans k2
  have k4 : h4.2 1 = obj 8 4 V := (hx4 _ (by omega)).trans k3
  have hck : cK h1 (1 + 11) 0 = some () := by obtain ⟨V9, _, z, _⟩ := l.sh; exact ob_K z
  have hck2 : cK h2 (1 + 3) 4 = some () := (ru_ck (r.fe (h' := h2) fun j hj => hz _ (by omega))).1
  have hcc : f_Np_checkConstraint 0 (nI k) h = some (.inr (), h) := by
    unfold f_Np_checkConstraint
    rw [if_neg (nI_pos (by omega)), (np_ck H.2.2.1).2, bnd_s, ob_R z0 (by omega) z1.2.1, bnd_s, (ru_ck zr).2, bnd_s, if_pos (show nI k < nI (rn (tR x)) from nI_lt hk (by omega))]
  have hk' := ru_k (hS.2.2.1) hv'.1 (k := k) hk
  rw [(np_ck H.2.2.1).1, bnd_s, hcc]
  show bndT (f_Np_checkCell (nI c) h) _ = _
  rw [c1_ok hc]
  show bnd (gR h 0 9 0) _ = _
  rw [(np_ck H.2.2.1).2, bnd_s, ob_R z0 (by omega) z1.2.1, bnd_s, (ru_ck zr).1, bnd_s, rul_has zr hv.1 hk hc, hm, bnd_s, if_pos (by rfl), bnd_s, ob_R z0 (by omega) z1.2.1, bnd_s, (ru_ck zr).1, bnd_s, rul_full zr hv.1 hk, if_pos hl, bnd_s, if_pos rfl, (np_ck H.2.2.1).1, bnd_s, p1, bnd_s, (np_ck hA1).2, bnd_s, ob_R a0 (by omega) a1.2.2.2, bnd_s, hck, bnd_s, p2, bnd_s, (np_ck hA2).2, bnd_s, ob_R k2 (by omega) a1.2.1, bnd_s, hck2, bnd_s, p3, bnd_s, (np_ck hA3).2, bnd_s, ob_R k3 (by omega) a1.1, bnd_s, p4, bnd_s, (np_ck hA4).2, bnd_s, ob_R k4 (by omega) a1.2.1, bnd_s, hk'.2.2.2.2.1, bnd_s, hk'.2.2.2.2.2.1, bnd_s]
  congr 4
  exact if_pos rfl
