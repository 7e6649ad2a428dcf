/-! The class's calls that read; the text; the digest. -/
def cntV (x : ST) (w : Nat) : Int32 := if w = 0 then nI (rn (tR x)) else if w = 1 then nI (gct (tG x)) else if w = 2 then nI (cnt (tP x) 36) else if w = 3 then nI (tot (tK x)) else if w = 4 then (if dd (tK x) then 1 else 0) else (if fin36 (tK x) (tP x) then 1 else 0)
def celV (x : ST) (c w : Nat) : Int32 := if w = 0 then (if tP x c then (if sz (tK x c) = 0 then 0 else nI (lod (tK x c))) else 0) else if w = 1 then nI (tG x c) else nI (cnt (peer (tR x) c) 36)
theorem what_ok {w n : Nat} (hw : w ≤ n) (hn : n < 2 ^ 31) (h : PH) : f_Np_checkWhat (nI w) (nI n) h = some (.inr (), h) := by
  unfold f_Np_checkWhat
  rw [if_neg (nI_pos (by omega)), if_pos (show nI w ≤ nI n from nI_le hw hn)]
theorem if_nI {α : Type} {w c : Nat} (hw : w < 2 ^ 31) (hc : c < 2 ^ 31) (a b : α) : (if nI w = nI c then a else b) = if w = c then a else b := by
  by_cases q : w = c
  · rw [if_pos (congrArg nI q), if_pos q]
  · rw [if_neg (fun z => q ((nI_eq hw hc).mp z)), if_neg q]
theorem c_cnt {h : PH} {x : ST} {m : Nat} {sv : Nat → ST} {tl : Nat} {tx : Nat → Int32} (H : CW h x m sv tl tx) (hv : VAL x) {w : Nat} (hw : w < 6) {F : Nat} (hF : 3000 ≤ F) : f_Np_count F 0 (nI w) h = some (.inr (cntV x w), h) := by
  obtain ⟨n1, n2, n3, n4, n5, n6, n7, _⟩ := np_hd H
  obtain ⟨⟨T0, S0, hC1, hC2⟩, _⟩ := H
  have hC := hC1
  obtain ⟨⟨V, a0, a1⟩, b, r, ⟨g, e, e'⟩, l⟩ := hC
  have hb := b
  obtain ⟨W, sp, pl, to, st, c0, c1, c2, c3, c4, c5, c6, c7, _⟩ := hb
  unfold f_Np_count
  rw [show f_Np_checkWhat (nI w) (5 : Int32) h = _ from what_ok (n := 5) (by omega) (by omega) h]
  show (if nI w = nI 0 then _ else (if nI w = nI 1 then _ else (if nI w = nI 2 then _ else (if nI w = nI 3 then _ else (if nI w = nI 4 then _ else _))))) = _
  rw [if_nI (by omega) (by omega), if_nI (by omega) (by omega), if_nI (by omega) (by omega), if_nI (by omega) (by omega), if_nI (by omega) (by omega)]
  unfold cntV
  by_cases q0 : w = 0
  · rw [if_pos q0, if_pos q0, n2, bnd_s, n4, bnd_s, (ru_ck r).2, bnd_s]
  rw [if_neg q0, if_neg q0]
  by_cases q1 : w = 1
  · rw [if_pos q1, if_pos q1, n2, bnd_s, ob_K a0, bnd_s, sta_gc hC1 hv.2.2.1 (by omega), bnd_s]
  rw [if_neg q1, if_neg q1]
  by_cases q2 : w = 2
  · rw [if_pos q2, if_pos q2, n2, bnd_s, n3, bnd_s, ob_L c0 (by omega) c2, bnd_s, c7.cnt, bnd_s]
  rw [if_neg q2, if_neg q2]
  by_cases q3 : w = 3
  · rw [if_pos q3, if_pos q3, n2, bnd_s, n3, bnd_s, b.ck, bnd_s, p_candidateCount b (by omega), bnd_s]
  rw [if_neg q3, if_neg q3]
  by_cases q4 : w = 4
  · rw [if_pos q4, if_pos q4, n2, bnd_s, n3, bnd_s, b.ck, bnd_s, p_isDead b, bnd_s]
    cases dd (tK x)
    · rw [if_pos (by rfl)]; rfl
    · rw [if_neg (by decide)]; rfl
  · rw [if_neg q4, if_neg q4, n2, bnd_s, n3, bnd_s, b.ck, bnd_s, p_isFinished b, bnd_s]
    cases fin36 (tK x) (tP x)
    · rw [if_pos (by rfl)]; rfl
    · rw [if_neg (by decide)]; rfl
theorem c_cand {h : PH} {x : ST} {m : Nat} {sv : Nat → ST} {tl : Nat} {tx : Nat → Int32} (H : CW h x m sv tl tx) {c : Nat} (hc : c < 36) {F : Nat} (hF : 3000 ≤ F) : f_Np_candidates F 0 (nI c) h = some (.inr (nI (mkd (tK x c))), h) := by
  obtain ⟨n1, n2, n3, n4, n5, n6, n7, _⟩ := np_hd H
  obtain ⟨⟨T0, S0, hC1, hC2⟩, _⟩ := H
  unfold f_Np_candidates
  rw [c1_ok hc]
  show bnd (gR h 0 9 0) _ = _
  rw [n2, bnd_s, n3, bnd_s, hC1.2.1.ck, bnd_s, p_digitsOf hC1.2.1 hc (by omega), bnd_s]
theorem c_cell {h : PH} {x : ST} {m : Nat} {sv : Nat → ST} {tl : Nat} {tx : Nat → Int32} (H : CW h x m sv tl tx) {c w : Nat} (hc : c < 36) (hw : w < 3) {F : Nat} (hF : 3000 ≤ F) : f_Np_cell F 0 (nI c) (nI w) h = some (.inr (celV x c w), h) := by
  obtain ⟨n1, n2, n3, n4, n5, n6, n7, _⟩ := np_hd H
  obtain ⟨⟨T0, S0, hC1, hC2⟩, _⟩ := H
  obtain ⟨⟨V, a0, a1⟩, b, r, ⟨g, e, e'⟩, l⟩ := hC1
  have hb := b
  obtain ⟨W, sp, pl, to, st, c0, c1, c2, c3, c4, c5, c6, c7, _⟩ := hb
  obtain ⟨V2, kd, sm, ln, cl, ar, pe, d0, d1, d2, d3, d4, d5, d6, d7, ⟨f1, f2, f3, f4, f5, f6⟩, k1, k2⟩ := r
  unfold f_Np_cell
  rw [c1_ok hc]
  show bndT (f_Np_checkWhat (nI w) (2 : Int32) h) _ = _
  rw [show f_Np_checkWhat (nI w) (2 : Int32) h = _ from what_ok (n := 2) (by omega) (by omega) h]
  show (if nI w = nI 0 then _ else (if nI w = nI 1 then _ else _)) = _
  rw [if_nI (by omega) (by omega), if_nI (by omega) (by omega)]
  unfold celV
  by_cases q0 : w = 0
  · rw [if_pos q0, if_pos q0, n2, bnd_s, n3, bnd_s, ob_L c0 (by omega) c2, bnd_s]
    cases q : tP x c
    · rw [if_pos ((c7.bit0 hc).mpr q)]; rfl
    · rw [if_neg (fun z => by rw [(c7.bit0 hc).mp z] at q; cases q), bnd_s, n3, bnd_s, b.ck, bnd_s, p_lowest b hc (by omega), bnd_s]; rfl
  rw [if_neg q0, if_neg q0]
  by_cases q1 : w = 1
  · rw [if_pos q1, if_pos q1, n2, bnd_s, n6, bnd_s, ar_I e hc (by omega), bnd_s, e' c hc]
  · rw [if_neg q1, if_neg q1, n2, bnd_s, n4, bnd_s, ob_R d0 (by omega) d6, bnd_s, ar_L f6 hc (by omega), bnd_s, (k2 c hc).cnt, bnd_s]
theorem cc_ok {h : PH} {x : ST} {m : Nat} {sv : Nat → ST} {tl : Nat} {tx : Nat → Int32} (H : CW h x m sv tl tx) (hR : ROK (tR x)) {k : Nat} (hk : k < rn (tR x)) : f_Np_checkConstraint 0 (nI k) h = some (.inr (), h) := by
  have h8 := hR.1
  obtain ⟨n1, n2, n3, n4, n5, n6, n7, _⟩ := np_hd H
  obtain ⟨⟨T0, S0, hC1, hC2⟩, _⟩ := H
  unfold f_Np_checkConstraint
  rw [if_neg (nI_pos (by omega)), n2, bnd_s, n4, bnd_s, (ru_ck hC1.2.2.1).2, bnd_s, if_pos (show nI k < nI (rn (tR x)) from nI_lt hk (by omega))]
def conV (x : ST) (k w : Nat) : Int32 := if w = 0 then nI (rk (tR x) k) else if w = 1 then nI (rs (tR x) k) else nI (rl (tR x) k)
theorem c_con {h : PH} {x : ST} {m : Nat} {sv : Nat → ST} {tl : Nat} {tx : Nat → Int32} (H : CW h x m sv tl tx) (hR : ROK (tR x)) {k w : Nat} (hk : k < rn (tR x)) (hw : w < 3) : f_Np_constraint 0 (nI k) (nI w) h = some (.inr (conV x k w), h) := by
  obtain ⟨n1, n2, n3, n4, n5, n6, n7, n8, n9, n10, n11, n12, _⟩ := np_hd H
  have hcc := cc_ok H hR hk
  obtain ⟨⟨T0, S0, hC1, hC2⟩, _⟩ := H
  obtain ⟨q1, q2, q3, q4, q5, q6, _⟩ := ru_k hC1.2.2.1 hR hk
  unfold f_Np_constraint
  rw [n12, bnd_s, hcc]
  show bndT (f_Np_checkWhat (nI w) (2 : Int32) h) _ = _
  rw [show f_Np_checkWhat (nI w) (2 : Int32) h = _ from what_ok (n := 2) (by omega) (by omega) h]
  show (if nI w = nI 0 then _ else (if nI w = nI 1 then _ else _)) = _
  rw [if_nI (by omega) (by omega), if_nI (by omega) (by omega)]
  unfold conV
  by_cases w0 : w = 0
  · rw [if_pos w0, if_pos w0, n2, bnd_s, n4, bnd_s, q1, bnd_s, q2, bnd_s]
  rw [if_neg w0, if_neg w0]
  by_cases w1 : w = 1
  · rw [if_pos w1, if_pos w1, n2, bnd_s, n4, bnd_s, q3, bnd_s, q4, bnd_s]
  · rw [if_neg w1, if_neg w1, n2, bnd_s, n4, bnd_s, q5, bnd_s, q6, bnd_s]
theorem c_step' {h : PH} {x : ST} {m : Nat} {sv : Nat → ST} {tl : Nat} {tx : Nat → Int32} (H : CW h x m sv tl tx) : f_Np_logged 0 h = some (nI (tN x)) ∧ tN x ≤ 100 ∧ ∀ i j, i < tN x → j < 3 → f_Log_valueAt (1 + 11) (nI i) (nI j) h = some (tE x i j) ∧ f_Np_step 0 (nI i) (nI j) h = some (.inr (tE x i j), h) := by
  obtain ⟨n1, n2, n3, n4, n5, n6, n7, _⟩ := np_hd H
  obtain ⟨⟨T0, S0, hC1, hC2⟩, _⟩ := H
  have sr := sta_r hC1
  obtain ⟨V, q, f, a0, a1, a2, a3, a4, a5, a6, a7⟩ := hC1.2.2.2.2
  have hva : ∀ i j, i < tN x → j < 3 → f_Log_valueAt (1 + 11) (nI i) (nI j) h = some (tE x i j) := by
    intro i j hi hj
    unfold f_Log_valueAt
    have e1 : (nI q + nI i) - (nI q + nI i) / (100 : Int32) * (100 : Int32) = nI ((q + i) % 100) := by
      rw [nI_add]
      exact pk_rem (a := q + i) (d := 100) (by omega) (by omega) (by omega)
    have hlt : (q + i) % 100 < 100 := Nat.mod_lt _ (by omega)
    rw [ob_R a0 (by omega) a1, bnd_s, ob_I a0 (by omega) a2, bnd_s, e1, show nI ((q + i) % 100) * (3 : Int32) = nI ((q + i) % 100 * 3) from pk_mul _ 3, nI_add, ar_I a6 (by omega) (by omega), bnd_s, a7 i j hi hj]
  refine ⟨?_, a5, fun i j hi hj => ⟨hva i j hi hj, ?_⟩⟩
  · unfold f_Np_logged
    rw [n2, bnd_s, n7, bnd_s, ob_I a0 (by omega) a3, bnd_s]
  · unfold f_Np_step
    rw [if_neg (nI_pos (by omega)), n2, bnd_s, n7, bnd_s, ob_I a0 (by omega) a3, bnd_s, if_pos (show nI i < nI (tN x) from nI_lt hi (by omega)), show f_Np_checkWhat (nI j) (2 : Int32) h = _ from what_ok (n := 2) (by omega) (by omega) h]
    show bnd (gR h 0 9 0) _ = _
    rw [n2, bnd_s, n7, bnd_s, sr.2.2.2.2.2, bnd_s, hva i j hi hj, bnd_s]
theorem ca_txt {h h' : PH} {m : Nat} {sv : Nat → ST} {tl tl' : Nat} {tx tx' : Nat → Int32} (H : CA h m sv tl tx) (T : TxAt h' tl' tx') (e : ∀ k, DA k → k ≠ 28 → k ≠ 29 → h'.2 k = h.2 k) : CA h' m sv tl' tx' := by
  simp only [DA] at e
  obtain ⟨V, q, f, a0, a1, a2, a3, a4, a5, a6, ⟨a7, a8⟩, a9, a10, a11⟩ := H
  exact ⟨V, q, f, (e _ (by omega) (by omega) (by omega)).trans a0, a1, a2, a3, a4, a5, a6.fr fun k hk => e k (by simp only [US] at hk; omega) (by simp only [US] at hk; omega) (by simp only [US] at hk; omega), ⟨(e _ (by omega) (by omega) (by omega)).trans a7, a8⟩, fun k hk => (a9 k hk).fr fun j hj => e j (by simp only [US] at hj; omega) (by simp only [US] at hj; omega) (by simp only [US] at hj; omega), fun i hi => (a10 i hi).fr fun j hj => e j (by simp only [US] at hj; omega) (by simp only [US] at hj; omega) (by simp only [US] at hj; omega), T⟩
theorem cw_txt {h h' : PH} {x : ST} {m : Nat} {sv : Nat → ST} {tl tl' : Nat} {tx tx' : Nat → Int32} (H : CW h x m sv tl tx) (T : TxAt h' tl' tx') (f : Fr (fun k => k = 28 ∨ k = 29) h h') : CW h' x m sv tl' tx' := by
  obtain ⟨a, b, c, d⟩ := H
  exact ⟨a.fr fun k hk => f.2 k (by simp only [US] at hk; omega), b.fr fun k h1 h2 => f.2 k (by omega), ca_txt c T fun k _ h1 h2 => f.2 k (by omega), d.fr fun k hk => f.2 k (by simp only [DB] at hk; omega)⟩
def txA (tl : Nat) (tx : Nat → Int32) (v : Int32) : Nat → Int32 := fun i => if i = tl then v else tx i
theorem c_append {h : PH} {x : ST} {m : Nat} {sv : Nat → ST} {tl : Nat} {tx : Nat → Int32} (H : CW h x m sv tl tx) {v : Int32} (h0 : ¬ v < 0) (h1 : v ≤ 127) : tl ≤ 150 ∧ ((tl = 150 ∧ f_Np_append 0 v h = some (.inl 2, h)) ∨ ∃ h', tl < 150 ∧ f_Np_append 0 v h = some (.inr (nI (tl + 1)), h') ∧ CW h' x m sv (tl + 1) (txA tl tx v) ∧ Fr (fun k => k < 263) h h') := by
  have n13 := (np_hd H).2.2.2.2.2.2.2.2.2.2.2.2
  have hA := H.2.2.1
  obtain ⟨_, _, _, _, _, _, _, _, _, _, _, _, _, V, f, a0, a1, a2, a3, a4, a5⟩ := hA
  refine ⟨a3, ?_⟩
  unfold f_Np_append
  rw [if_neg h0, if_pos h1, n13, bnd_s, ob_I a0 (by omega) a2, bnd_s]
  by_cases w : tl = 150
  · left
    exact ⟨w, by rw [if_neg (show ¬ nI tl < (150 : Int32) from nI_nlt (a := (tl)) (b := 150) (by omega) (by omega))]⟩
  right
  obtain ⟨h2, p2, g2, f2⟩ := sti (i := tl) v a4 (by omega) (by omega)
  obtain ⟨h3, p3, g3, f3⟩ := puti (k := 1) (.int (nI (tl + 1))) ((f2.2 28 (by omega)).trans a0) (by omega)
  have F3 : Fr (fun k => k = 28 ∨ k = 29) h h3 := (f2.mo fun k hk => Or.inr hk).tr (f3.mo fun k hk => Or.inl hk)
  have H3 : CW h3 x m sv (tl + 1) (txA tl tx v) := cw_txt H ⟨_, _, g3, (vu_n _ _ (by omega)).trans a1, vu_s _ _ _, by omega, (f3.2 29 (by omega)).trans g2, fun i hi => by
    unfold txA
    by_cases q : i = tl
    · rw [if_pos q, q, pk_us]
    · rw [if_neg q, pk_un q]; exact a5 i (by omega)⟩ F3
  have n13' := (np_hd H3).2.2.2.2.2.2.2.2.2.2.2.2
  refine ⟨h3, by omega, ?_, H3, F3.mo fun k hk => by omega⟩
  have hadd : f_Txt_add 28 v h = some h3 := by
    unfold f_Txt_add
    rw [ob_I a0 (by omega) a2, bnd_s, if_neg (show ¬ (150 : Int32) ≤ nI tl from nI_ge (a := (tl)) (b := 150) (by omega) (by omega)), ob_R a0 (by omega) a1, bnd_s, bnd_s, p2, bnd_s, ob_I ((f2.2 28 (by omega)).trans a0) (by omega) a2, bnd_s, nI_1, p3, bnd_s]
  rw [if_pos (show nI tl < (150 : Int32) from nI_lt (a := (tl)) (b := 150) (by omega) (by omega)), bnd_s, ob_K a0, bnd_s, hadd, bnd_s, n13', bnd_s, ob_I g3 (by omega) (vu_s _ _ _), bnd_s]
theorem c_clearText {h : PH} {x : ST} {m : Nat} {sv : Nat → ST} {tl : Nat} {tx : Nat → Int32} (H : CW h x m sv tl tx) : ∃ h', f_Np_clearText 0 h = some (nI tl, h') ∧ CW h' x m sv 0 tx ∧ Fr (fun k => k < 263) h h' := by
  have n13 := (np_hd H).2.2.2.2.2.2.2.2.2.2.2.2
  have hA := H.2.2.1
  obtain ⟨_, _, _, _, _, _, _, _, _, _, _, _, _, V, f, a0, a1, a2, a3, a4, a5⟩ := hA
  obtain ⟨h3, p3, g3, f3⟩ := puti (k := 1) (.int (0 : Int32)) a0 (by omega)
  have F3 : Fr (fun k => k = 28 ∨ k = 29) h h3 := f3.mo fun k hk => Or.inl hk
  refine ⟨h3, ?_, cw_txt H ⟨_, _, g3, (vu_n _ _ (by omega)).trans a1, vu_s _ _ _, by omega, (f3.2 29 (by omega)).trans a4, fun i hi => by omega⟩ F3, F3.mo fun k hk => by omega⟩
  unfold f_Np_clearText
  rw [n13, bnd_s, ob_I a0 (by omega) a2, bnd_s, bnd_s, p3, bnd_s]
