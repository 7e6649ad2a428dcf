/-! A constraint is added, a cell is attached. -/
def adR (R : RT) (w s : Nat) : RT := (rn R + 1, fun i => if i = rn R then w else rk R i, fun i => if i = rn R then s else rs R i, fun i => if i = rn R then 0 else rl R i, rc R)
def exR (R : RT) (k c : Nat) : RT := (rn R, rk R, rs R, fun i => if i = k then rl R k + 1 else rl R i, fun i j => if i = k ∧ j = rl R k then c else rc R i j)
theorem adR_ok {R : RT} (hR : ROK R) (h8 : rn R < 8) {w s : Nat} (hw : w < 3) (hs : s < 25) : ROK (adR R w s) := by
  refine ⟨h8, fun k hk => ?_⟩
  have hk' : k < rn R + 1 := hk
  show (if k = rn R then w else rk R k) < 3 ∧ (if k = rn R then 0 else rl R k) ≤ mxl (if k = rn R then w else rk R k) ∧ (∀ j, j < (if k = rn R then 0 else rl R k) → rc R k j < 36) ∧ (∀ i j, i < (if k = rn R then 0 else rl R k) → j < (if k = rn R then 0 else rl R k) → rc R k i = rc R k j → i = j) ∧ (if k = rn R then s else rs R k) < 25
  by_cases q : k = rn R
  · rw [if_pos q, if_pos q, if_pos q]
    exact ⟨hw, Nat.zero_le _, fun j hj => absurd hj (Nat.not_lt_zero j), fun i j hi => absurd hi (Nat.not_lt_zero i), hs⟩
  · rw [if_neg q, if_neg q, if_neg q]
    exact hR.2 k (by omega)
theorem exR_ok {R : RT} (hR : ROK R) {k c : Nat} (hk : k < rn R) (hl : rl R k < mxl (rk R k)) (hc : c < 36) (hm : mem R k c = false) : ROK (exR R k c) := by
  refine ⟨hR.1, fun i hi => ?_⟩
  obtain ⟨r1, r2, r3, r4, r5⟩ := hR.2 i hi
  show rk R i < 3 ∧ (if i = k then rl R k + 1 else rl R i) ≤ mxl (rk R i) ∧ (∀ j, j < (if i = k then rl R k + 1 else rl R i) → (if i = k ∧ j = rl R k then c else rc R i j) < 36) ∧ (∀ a b, a < (if i = k then rl R k + 1 else rl R i) → b < (if i = k then rl R k + 1 else rl R i) → (if i = k ∧ a = rl R k then c else rc R i a) = (if i = k ∧ b = rl R k then c else rc R i b) → a = b) ∧ rs R i < 25
  by_cases q : i = k
  · subst q
    rw [if_pos rfl]
    have hm' := mem_f.mp hm
    refine ⟨r1, hl, fun j hj => ?_, fun a b ha hb e => ?_, r5⟩
    · by_cases z : j = rl R i
      · rw [if_pos ⟨rfl, z⟩]; exact hc
      · rw [if_neg (fun y => z y.2)]; exact r3 j (by omega)
    · by_cases z1 : a = rl R i <;> by_cases z2 : b = rl R i
      · omega
      · rw [if_pos ⟨rfl, z1⟩, if_neg (fun y => z2 y.2)] at e
        exact absurd e.symm (hm' b (by omega))
      · rw [if_neg (fun y => z1 y.2), if_pos ⟨rfl, z2⟩] at e
        exact absurd e (hm' a (by omega))
      · rw [if_neg (fun y => z1 y.2), if_neg (fun y => z2 y.2)] at e
        exact r4 a b (by omega) (by omega) e
  · rw [if_neg q]
    refine ⟨r1, r2, fun j hj => ?_, fun a b ha hb e => ?_, r5⟩
    · rw [if_neg (fun y => q y.1)]; exact r3 j hj
    · rw [if_neg (fun y => q y.1), if_neg (fun y => q y.1)] at e
      exact r4 a b ha hb e
theorem adR_mem {R : RT} {w s k c : Nat} (hk : k < rn R) : mem (adR R w s) k c = mem R k c := by
  unfold mem
  show decide (cnt (fun j => decide (rc R k j = c)) (if k = rn R then 0 else rl R k) ≠ 0) = _
  rw [if_neg (by omega)]
theorem adR_peer {R : RT} {w s : Nat} (a b : Nat) : peer (adR R w s) a b = peer R a b := by
  unfold peer
  congr 2
  apply bool_i
  rw [cag_t, cag_t]
  constructor
  · rintro ⟨k, h1, h2, h3, h4⟩
    have h1' : k < rn R + 1 := h1
    by_cases q : k = rn R
    · exfalso
      obtain ⟨j, hj, _⟩ := mem_t.mp h3
      have : rl (adR R w s) k = 0 := if_pos q
      omega
    · have hk : k < rn R := by omega
      rw [adR_mem hk] at h3 h4
      have h2' : (if k = rn R then w else rk R k) = 0 := h2
      rw [if_neg q] at h2'
      exact ⟨k, hk, h2', h3, h4⟩
  · rintro ⟨k, h1, h2, h3, h4⟩
    refine ⟨k, by show k < rn R + 1; omega, ?_, by rw [adR_mem h1]; exact h3, by rw [adR_mem h1]; exact h4⟩
    show (if k = rn R then w else rk R k) = 0
    rw [if_neg (by omega)]
    exact h2
theorem rul_add {h : PH} {r : Nat} {R : RT} (HR : RulAt h r R) (hR : ROK R) (h8 : rn R < 8) (w s : Nat) : ∃ h', f_Rul_add r (nI w) (nI s) h = some (nI (rn R), h') ∧ RulAt h' r (adR R w s) ∧ Fr (UR r) h h' := by
  obtain ⟨V, kd, sm, ln, cl, ar, pe, a0, a1, a2, a3, a4, a5, a6, a7, ⟨b1, b2, b3, b4, b5, b6⟩, c1, c2⟩ := HR
  obtain ⟨h1, p1, g1, f1⟩ := sti (i := rn R) (nI w) b1 h8 (by omega)
  obtain ⟨h2, p2, g2, f2⟩ := sti (i := rn R) (nI s) ((f1.2 (r + 2) (by omega)).trans b2) h8 (by omega)
  obtain ⟨h3, p3, g3, f3⟩ := sti (i := rn R) 0 ((f2.2 (r + 3) (by omega)).trans ((f1.2 (r + 3) (by omega)).trans b3)) h8 (by omega)
  have F3 : Fr (fun k => k = r + 1 ∨ k = r + 2 ∨ k = r + 3) h h3 := (f1.mo fun k hk => by omega).tr ((f2.mo fun k hk => by omega).tr (f3.mo fun k hk => by omega))
  obtain ⟨h4, p4, g4, f4⟩ := stl (i := rn R) 0 ((F3.2 (r + 5) (by omega)).trans b5) h8 (by omega)
  have z4 : h4.2 r = obj 4 7 V := (f4.2 r (by omega)).trans ((F3.2 r (by omega)).trans a0)
  obtain ⟨h5, p5, g5, f5⟩ := puti (k := 6) (.int (nI (rn R + 1))) z4 (by omega)
  have w' : ∀ k, k ≠ 6 → updV V 6 (.int (nI (rn R + 1))) k = V k := fun k hk => vu_n _ _ hk
  have fr : ∀ k, k ≠ r → k ≠ r + 1 → k ≠ r + 2 → k ≠ r + 3 → k ≠ r + 5 → h5.2 k = h.2 k := fun k x1 x2 x3 x4 x5 => (f5.2 k x1).trans ((f4.2 k x5).trans (F3.2 k (by omega)))
  have k1 := (f5.2 (r + 1) (by omega)).trans ((f4.2 (r + 1) (by omega)).trans ((f3.2 (r + 1) (by omega)).trans ((f2.2 (r + 1) (by omega)).trans g1)))
  have k2 := (f5.2 (r + 2) (by omega)).trans ((f4.2 (r + 2) (by omega)).trans ((f3.2 (r + 2) (by omega)).trans g2))
  have k3 := (f5.2 (r + 3) (by omega)).trans ((f4.2 (r + 3) (by omega)).trans g3)
  have k5 := (f5.2 (r + 5) (by omega)).trans g4
  refine ⟨h5, ?_, ⟨_, _, _, _, cl, _, pe, g5, (w' 0 (by omega)).trans a1, (w' 1 (by omega)).trans a2, (w' 2 (by omega)).trans a3, (w' 3 (by omega)).trans a4, (w' 4 (by omega)).trans a5, (w' 5 (by omega)).trans a6, vu_s _ _ _, ⟨k1, k2, k3, (fr _ (by omega) (by omega) (by omega) (by omega) (by omega)).trans b4, k5, (fr _ (by omega) (by omega) (by omega) (by omega) (by omega)).trans b6⟩, fun k hk => ?_, fun c hc => (c2 c hc).x fun e _ => (adR_peer c e).symm⟩, (F3.mo fun k hk => by simp only [UR]; omega).tr ((f4.mo fun k hk => by simp only [UR]; omega).tr (f5.mo fun k hk => by simp only [UR]; omega))⟩
  · unfold f_Rul_add
    rw [ob_I a0 (by omega) a7, bnd_s, if_pos (show nI (rn R) < (8 : Int32) from nI_lt (a := rn R) (b := 8) h8 (by omega)), bnd_s, ob_R a0 (by omega) a1, bnd_s, p1, bnd_s, ob_R ((f1.2 r (by omega)).trans a0) (by omega) a2, bnd_s, p2, bnd_s, ob_R ((f2.2 r (by omega)).trans ((f1.2 r (by omega)).trans a0)) (by omega) a3, bnd_s, p3, bnd_s, ob_R ((F3.2 r (by omega)).trans a0) (by omega) a5, bnd_s, p4, bnd_s, ob_I z4 (by omega) a7, bnd_s, nI_1, p5, bnd_s]
  · have hk' : k < rn R + 1 := hk
    show upd kd (rn R) (nI w) k = nI (if k = rn R then w else rk R k) ∧ upd sm (rn R) (nI s) k = nI (if k = rn R then s else rs R k) ∧ upd ln (rn R) 0 k = nI (if k = rn R then 0 else rl R k) ∧ (∀ j, j < (if k = rn R then 0 else rl R k) → cl (k * 6 + j) = nI (rc R k j)) ∧ CS (vp_updL ar (rn R) 0 k) (mem (adR R w s) k)
    by_cases q : k = rn R
    · subst q
      rw [pk_us, pk_us, pk_us, if_pos rfl, if_pos rfl, if_pos rfl, pk_uLs]
      refine ⟨rfl, rfl, rfl, fun j hj => absurd hj (Nat.not_lt_zero j), CS.no.x fun c _ => ?_⟩
      symm
      rw [mem_f]
      intro j hj
      have : rl (adR R w s) (rn R) = 0 := if_pos rfl
      omega
    · rw [pk_un q, pk_un q, pk_un q, if_neg q, if_neg q, if_neg q, pk_uLn q]
      obtain ⟨y1, y2, y3, y4, y5⟩ := c1 k (by omega)
      exact ⟨y1, y2, y3, y4, y5.x fun c _ => (adR_mem (by omega)).symm⟩
theorem exR_mem {R : RT} {k c i e : Nat} : mem (exR R k c) i e = if i = k then (mem R k e || decide (e = c)) else mem R i e := by
  by_cases q : i = k
  · subst q
    rw [if_pos rfl]
    apply bool_i
    rw [mem_t, Bool.or_eq_true, mem_t, decide_eq_true_iff]
    have hl : rl (exR R i c) i = rl R i + 1 := if_pos rfl
    rw [hl]
    constructor
    · rintro ⟨j, hj, z⟩
      have z' : (if i = i ∧ j = rl R i then c else rc R i j) = e := z
      by_cases y : j = rl R i
      · rw [if_pos ⟨rfl, y⟩] at z'
        exact Or.inr z'.symm
      · rw [if_neg (fun t => y t.2)] at z'
        exact Or.inl ⟨j, by omega, z'⟩
    · rintro (⟨j, hj, z⟩ | z)
      · refine ⟨j, by omega, ?_⟩
        show (if i = i ∧ j = rl R i then c else rc R i j) = e
        rw [if_neg (by omega)]
        exact z
      · refine ⟨rl R i, by omega, ?_⟩
        show (if i = i ∧ rl R i = rl R i then c else rc R i (rl R i)) = e
        rw [if_pos ⟨rfl, rfl⟩]
        exact z.symm
  · rw [if_neg q]
    apply bool_i
    rw [mem_t, mem_t]
    have hl : rl (exR R k c) i = rl R i := if_neg q
    rw [hl]
    have hc : ∀ j, rc (exR R k c) i j = rc R i j := fun j => if_neg fun t => q t.1
    constructor
    · rintro ⟨j, hj, z⟩
      exact ⟨j, hj, (hc j).symm.trans z⟩
    · rintro ⟨j, hj, z⟩
      exact ⟨j, hj, (hc j).trans z⟩
theorem exR_peer {R : RT} {k c : Nat} (hk : k < rn R) (a b : Nat) : peer (exR R k c) a b = (peer R a b || (decide (rk R k = 0) && (mem (exR R k c) k a && mem (exR R k c) k b) && !decide (a = b))) := by
  have hc : cag (exR R k c) a b = (cag R a b || (decide (rk R k = 0) && (mem (exR R k c) k a && mem (exR R k c) k b))) := by
    apply bool_i
    rw [Bool.or_eq_true, cag_t, cag_t, Bool.and_eq_true, Bool.and_eq_true, decide_eq_true_iff]
    constructor
    · rintro ⟨i, h1, h2, h3, h4⟩
      by_cases q : i = k
      · subst q
        exact Or.inr ⟨h2, h3, h4⟩
      · rw [exR_mem, if_neg q] at h3 h4
        exact Or.inl ⟨i, h1, h2, h3, h4⟩
    · rintro (⟨i, h1, h2, h3, h4⟩ | ⟨h2, h3, h4⟩)
      · refine ⟨i, h1, h2, ?_, ?_⟩
        · rw [exR_mem]
          by_cases q : i = k
          · subst q; rw [if_pos rfl, h3]; rfl
          · rw [if_neg q]; exact h3
        · rw [exR_mem]
          by_cases q : i = k
          · subst q; rw [if_pos rfl, h4]; rfl
          · rw [if_neg q]; exact h4
      · exact ⟨k, hk, h2, h3, h4⟩
  unfold peer
  rw [hc]
  cases upr a b <;> cases cag R a b <;> cases decide (a = b) <;> cases (decide (rk R k = 0) && (mem (exR R k c) k a && mem (exR R k c) k b)) <;> rfl
theorem rul_full {h : PH} {r : Nat} {R : RT} (HR : RulAt h r R) (hR : ROK R) {k : Nat} (hk : k < rn R) : f_Rul_isFull r (nI k) h = some (if rl R k < mxl (rk R k) then 0 else 1) := by
  obtain ⟨r1, r2, r3, r4, r5⟩ := hR.2 k hk
  have h6 := mxl_le (rk R k)
  obtain ⟨q1, q2, q3, q4, q5, q6, _⟩ := ru_k HR hR hk
  unfold f_Rul_isFull mxl
  rw [q5, bnd_s, q6, bnd_s, q1, bnd_s, q2, bnd_s]
  by_cases w : rk R k = 2
  · rw [if_pos (show nI (rk R k) = (2 : Int32) from congrArg nI w), if_pos w]
    unfold b_Rul_isFull_22
    by_cases z : rl R k < 6
    · rw [if_pos (show nI (rl R k) < (6 : Int32) from nI_lt (a := (rl R k)) (b := 6) (by omega) (by omega)), if_pos z]
    · rw [if_neg (show ¬ nI (rl R k) < (6 : Int32) from nI_nlt (a := (rl R k)) (b := 6) (by omega) (by omega)), if_neg z]
  · rw [if_neg (show ¬ nI (rk R k) = (2 : Int32) from fun z => w ((nI_eq (a := rk R k) (b := 2) (by omega) (by omega)).mp z)), if_neg w]
    unfold b_Rul_isFull_22
    by_cases z : rl R k < 4
    · rw [if_pos (show nI (rl R k) < (4 : Int32) from nI_lt (a := (rl R k)) (b := 4) (by omega) (by omega)), if_pos z]
    · rw [if_neg (show ¬ nI (rl R k) < (4 : Int32) from nI_nlt (a := (rl R k)) (b := 4) (by omega) (by omega)), if_neg z]
theorem rul_has {h : PH} {r : Nat} {R : RT} (HR : RulAt h r R) (hR : ROK R) {k c : Nat} (hk : k < rn R) (hc : c < 36) : f_Rul_has r (nI k) (nI c) h = some (if mem R k c then 1 else 0) := by
  have h8 := hR.1
  obtain ⟨V, kd, sm, ln, cl, ar, pe, a0, a1, a2, a3, a4, a5, a6, a7, ⟨b1, b2, b3, b4, b5, b6⟩, c1, c2⟩ := HR
  obtain ⟨y1, y2, y3, y4, y5⟩ := c1 k hk
  unfold f_Rul_has
  rw [ob_R a0 (by omega) a5, bnd_s, ar_L b5 (by omega) (by omega), bnd_s]
  cases q : mem R k c
  · rw [if_pos ((y5.bit0 hc).mpr q)]; rfl
  · rw [if_neg (fun z => by rw [(y5.bit0 hc).mp z] at q; cases q)]; rfl
theorem rul_attach {h : PH} {r : Nat} {R : RT} (HR : RulAt h r R) (hR : ROK R) {k c : Nat} (hk : k < rn R) (hl : rl R k < mxl (rk R k)) (hc : c < 36) (hm : mem R k c = false) {F : Nat} (hF : 40 ≤ F) : ∃ h', f_Rul_attach F r (nI k) (nI c) h = some h' ∧ RulAt h' r (exR R k c) ∧ Fr (UR r) h h' := by
  have h8 := hR.1
  have hR' := exR_ok hR hk hl hc hm
  obtain ⟨r1, r2, r3, r4, r5⟩ := hR.2 k hk
  have h6 := mxl_le (rk R k)
  have hfull := rul_full HR hR hk
  obtain ⟨V, kd, sm, ln, cl, ar, pe, a0, a1, a2, a3, a4, a5, a6, a7, ⟨b1, b2, b3, b4, b5, b6⟩, c1, c2⟩ := HR
  obtain ⟨y1, y2, y3, y4, y5⟩ := c1 k hk
  have e6 : nI k * (6 : Int32) = nI (k * 6) := pk_mul k 6
  obtain ⟨h1, p1, g1, f1⟩ := sti (i := k * 6 + rl R k) (nI c) b4 (by omega) (by omega)
  have z1 : h1.2 r = obj 4 7 V := (f1.2 r (by omega)).trans a0
  have l1 : h1.2 (r + 3) = oI 8 ln := (f1.2 _ (by omega)).trans b3
  obtain ⟨h2, p2, g2, f2⟩ := sti (i := k) (nI (rl R k + 1)) l1 (by omega) (by omega)
  have z2 : h2.2 r = obj 4 7 V := (f2.2 r (by omega)).trans z1
  have l2 : h2.2 (r + 5) = oL 8 ar := (f2.2 _ (by omega)).trans ((f1.2 _ (by omega)).trans b5)
  obtain ⟨h3, p3, g3, f3⟩ := stl (i := k) (ar k ||| ((1 : Int64) <<< ((nI c).toInt64 &&& 63))) l2 (by omega) (by omega)
  have z3 : h3.2 r = obj 4 7 V := (f3.2 r (by omega)).trans z2
  have F3 : Fr (fun j => j = r + 3 ∨ j = r + 4 ∨ j = r + 5) h h3 := (f1.mo fun k hk => by omega).tr ((f2.mo fun k hk => by omega).tr (f3.mo fun k hk => by omega))
  have hA : CS (ar k ||| ((1 : Int64) <<< ((nI c).toInt64 &&& 63))) (mem (exR R k c) k) := (y5.or (CS.one hc)).x fun e _ => by rw [exR_mem, if_pos rfl]
  have hcell : ∀ i j, i < rn R → j < rl (exR R k c) i → upd cl (k * 6 + rl R k) (nI c) (i * 6 + j) = nI (rc (exR R k c) i j) := by
    intro i j hi hj
    obtain ⟨t1, t2, t3, t4, t5⟩ := c1 i hi
    obtain ⟨u1, u2, u3, u4, u5⟩ := hR'.2 i hi
    have h6' := mxl_le (rk (exR R k c) i)
    show _ = nI (if i = k ∧ j = rl R k then c else rc R i j)
    by_cases q : i = k ∧ j = rl R k
    · rw [if_pos q, q.1, q.2, pk_us]
    · rw [if_neg q, pk_un (fun z => q (by omega))]
      by_cases w : i = k
      · have hj' : j < rl R k + 1 := by
          have : rl (exR R k c) i = rl R k + 1 := if_pos w
          omega
        subst w
        exact t4 j (by omega)
      · have hj' : j < rl R i := by
          have : rl (exR R k c) i = rl R i := if_neg w
          omega
        exact t4 j hj'
  have base : ∀ s, (∀ j, j ≠ r + 6 → s.2 j = h3.2 j) → s.1 = h3.1 → (∃ pe', s.2 (r + 6) = oL 36 pe' ∧ ∀ c', c' < 36 → CS (pe' c') (peer (exR R k c) c')) → RulAt s r (exR R k c) ∧ Fr (UR r) h s := by
    rintro s fr e1 ⟨pe', q1, q2⟩
    refine ⟨⟨V, kd, sm, _, _, _, pe', (fr _ (by omega)).trans z3, a1, a2, a3, a4, a5, a6, a7, ⟨(fr _ (by omega)).trans ((F3.2 _ (by omega)).trans b1), (fr _ (by omega)).trans ((F3.2 _ (by omega)).trans b2), (fr _ (by omega)).trans ((f3.2 _ (by omega)).trans g2), (fr _ (by omega)).trans ((f3.2 _ (by omega)).trans ((f2.2 _ (by omega)).trans g1)), (fr _ (by omega)).trans g3, q1⟩, fun i hi => ?_, q2⟩, ⟨e1.trans F3.1, fun j hj => ?_⟩⟩
    · obtain ⟨t1, t2, t3, t4, t5⟩ := c1 i hi
      refine ⟨t1, t2, ?_, fun j hj => hcell i j hi hj, ?_⟩
      · show upd ln k (nI (rl R k + 1)) i = nI (if i = k then rl R k + 1 else rl R i)
        by_cases q : i = k
        · rw [if_pos q, q, pk_us]
        · rw [if_neg q, pk_un q]; exact t3
      · by_cases q : i = k
        · subst q; rw [pk_uLs]; exact hA
        · rw [pk_uLn q]
          exact t5.x fun e _ => by rw [exR_mem, if_neg q]
    · simp only [UR] at hj
      exact (fr j (by omega)).trans (F3.2 j (by omega))
  have hhead : f_Rul_attach F r (nI k) (nI c) h = if nI (rk R k) = (0 : Int32) then f_Rul_attach_71 F F r (nI k) 0 h3 else some h3 := by
    unfold f_Rul_attach
    rw [if_neg (nI_pos (by omega)), ob_I a0 (by omega) a7, bnd_s, if_neg (show ¬ nI (rn R) ≤ nI k from nI_ge (by omega) (by omega)), ob_K a0, bnd_s, hfull, bnd_s, if_pos hl, if_pos rfl, ob_R a0 (by omega) a4, bnd_s, ob_R a0 (by omega) a3, bnd_s, ar_I b3 (by omega) (by omega), bnd_s, y3, e6, nI_add, p1, bnd_s, ob_R z1 (by omega) a3, bnd_s, ar_I l1 (by omega) (by omega), bnd_s, y3, nI_1, p2, bnd_s, ob_R z2 (by omega) a5, bnd_s, ar_L l2 (by omega) (by omega), bnd_s, p3, bnd_s, ob_R z3 (by omega) a1, bnd_s, ar_I ((F3.2 _ (by omega)).trans b1) (by omega) (by omega), bnd_s, y1]
  rw [hhead]
  by_cases w : rk R k = 0
  rotate_left
  · rw [if_neg (show ¬ nI (rk R k) = (0 : Int32) from fun z => w ((nI_eq (a := rk R k) (b := 0) (by omega) (by omega)).mp z))]
    obtain ⟨q1, q2⟩ := base h3 (fun _ _ => rfl) rfl ⟨pe, (F3.2 _ (by omega)).trans b6, fun c' hc' => (c2 c' hc').x fun e _ => by rw [exR_peer hk, decide_eq_false w]; simp⟩
    exact ⟨h3, rfl, q1, q2⟩
  rw [if_pos (show nI (rk R k) = (0 : Int32) from congrArg nI w)]
  have hl' : rl (exR R k c) k = rl R k + 1 := if_pos rfl
  have hc3 := (hR'.2 k hk).2.2.1
  have hc4 := (hR'.2 k hk).2.2.2.1
  obtain ⟨s, ⟨pe', i1, i2, i3⟩, e⟩ := LC (fun n i s => f_Rul_attach_71 F n r (nI k) (nI i) s) (fun i s => ∃ pe', s.2 (r + 6) = oL 36 pe' ∧ Fr (fun j => j = r + 6) h3 s ∧ ∀ a, a < 36 → CS (pe' a) fun b => peer R a b || (decide (cnt (fun j => decide (rc (exR R k c) k j = a)) i ≠ 0) && (mem (exR R k c) k b && !decide (b = a)))) (rl R k + 1)
    (fun n i s hi ⟨pe', i1, i2, i3⟩ => by
      have z0 : s.2 r = obj 4 7 V := (i2.2 _ (by omega)).trans z3
      have l3 : s.2 (r + 3) = oI 8 (upd ln k (nI (rl R k + 1))) := (i2.2 _ (by omega)).trans ((f3.2 _ (by omega)).trans g2)
      have l4 : s.2 (r + 4) = oI 48 (upd cl (k * 6 + rl R k) (nI c)) := (i2.2 _ (by omega)).trans ((f3.2 _ (by omega)).trans ((f2.2 _ (by omega)).trans g1))
      have l5 : s.2 (r + 5) = oL 8 (vp_updL ar k (ar k ||| ((1 : Int64) <<< ((nI c).toInt64 &&& 63)))) := (i2.2 _ (by omega)).trans g3
      have hci := hc3 i (by omega)
      have hcellAt : f_Rul_cellAt r (nI k) (nI i) s = some (nI (rc (exR R k c) k i)) := by
        unfold f_Rul_cellAt
        rw [ob_R z0 (by omega) a4, bnd_s, e6, nI_add, ar_I l4 (by omega) (by omega), bnd_s, hcell k i hk (by omega)]
      refine ⟨hset s (r + 6) (oL 36 (vp_updL pe' (rc (exR R k c) k i) (pe' (rc (exR R k c) k i) ||| ((ar k ||| ((1 : Int64) <<< ((nI c).toInt64 &&& 63))) &&& (((1 : Int64) <<< ((nI (rc (exR R k c) k i)).toInt64 &&& 63)) ^^^ (-1 : Int64)))))), ⟨_, hset_s _ _ _, i2.sq _, fun a ha => ?_⟩, ?_⟩
      · by_cases q : a = rc (exR R k c) k i
        · rw [q, pk_uLs]
          refine ((i3 _ hci).or (hA.sub (CS.one hci))).x fun b _ => ?_
          have h0 : decide (cnt (fun j => decide (rc (exR R k c) k j = rc (exR R k c) k i)) (i + 1) ≠ 0) = true := decide_eq_true (by
            rw [cnt_s, decide_eq_true (show rc (exR R k c) k i = rc (exR R k c) k i from rfl)]
            show _ + 1 ≠ 0
            omega)
          rw [h0]
          cases peer R (rc (exR R k c) k i) b <;> cases decide (cnt (fun j => decide (rc (exR R k c) k j = rc (exR R k c) k i)) i ≠ 0) <;> cases mem (exR R k c) k b <;> cases decide (b = rc (exR R k c) k i) <;> rfl
        · rw [pk_uLn q]
          refine (i3 a ha).x fun b _ => ?_
          rw [cnt_s, decide_eq_false (show ¬ rc (exR R k c) k i = a from fun z => q z.symm)]
          rfl
      · show f_Rul_attach_71 F (n + 1) r (nI k) (nI i) s = _
        rw [f_Rul_attach_71, b_Rul_attach_71, ob_R z0 (by omega) a3, bnd_s, ar_I l3 (by omega) (by omega), bnd_s, pk_us, if_neg (show ¬ nI (rl R k + 1) ≤ nI i from nI_ge (by omega) (by omega)), ob_K z0, bnd_s, hcellAt, bnd_s, ob_R z0 (by omega) a6, bnd_s, ar_L i1 hci (by omega), bnd_s, ob_R z0 (by omega) a5, bnd_s, ar_L l5 (by omega) (by omega), bnd_s, pk_uLs, ar_sL _ i1 hci (by omega), bnd_s, nI_1]) (rl R k + 1) 0 h3 F (by omega) (by omega) ⟨pe, (F3.2 _ (by omega)).trans b6, Fr.rf _ _, fun a ha => (c2 a ha).x fun b _ => by
        have : cnt (fun j => decide (rc (exR R k c) k j = a)) 0 = 0 := rfl
        rw [this]
        simp⟩
  obtain ⟨m, hmF⟩ : ∃ m, F - (rl R k + 1) = m + 1 := ⟨F - (rl R k + 1) - 1, by omega⟩
  obtain ⟨q1, q2⟩ := base s (fun j hj => i2.2 j hj) i2.1 ⟨pe', i1, fun a ha => (i3 a ha).x fun b _ => by
    rw [exR_peer hk, decide_eq_true w]
    have hmm : decide (cnt (fun j => decide (rc (exR R k c) k j = a)) (rl R k + 1) ≠ 0) = mem (exR R k c) k a := by
      unfold mem
      rw [hl']
    rw [hmm]
    have hab : decide (b = a) = decide (a = b) := decide_eq_decide.mpr ⟨Eq.symm, Eq.symm⟩
    rw [hab]
    cases peer R a b <;> cases mem (exR R k c) k a <;> cases mem (exR R k c) k b <;> cases decide (a = b) <;> rfl⟩
  refine ⟨s, ?_, q1, q2⟩
  refine Eq.trans e ?_
  show f_Rul_attach_71 F (F - (rl R k + 1)) r (nI k) (nI (rl R k + 1)) s = _
  rw [hmF, f_Rul_attach_71, b_Rul_attach_71, ob_R ((i2.2 _ (by omega)).trans z3) (by omega) a3, bnd_s, ar_I ((i2.2 _ (by omega)).trans ((f3.2 _ (by omega)).trans g2)) (by omega) (by omega), bnd_s, pk_us, if_pos (show nI (rl R k + 1) ≤ nI (rl R k + 1) from nI_le (by omega) (by omega))]
