/-! The class's search: its object, the cell with the fewest candidates. -/
def SolSh (h : PH) (v : Nat) (V : Nat → Value) : Prop :=
  h.2 v = obj 7 12 V ∧ (V 0 = .ref (v + 1) ∧ V 1 = .ref (v + 5) ∧ V 2 = .ref (v + 6) ∧ V 3 = .ref (v + 7) ∧ V 8 = .ref (v + 9)) ∧ ReaOK h (v + 1) ∧ (∃ f, h.2 (v + 5) = oR 1 38 f ∧ ∀ i, i < 38 → f i = some (v + 10 + 2 * i)) ∧ (∃ g, h.2 (v + 6) = oL 7 g) ∧ PosSh h (v + 7) ∧ (∃ g, h.2 (v + 9) = oL 8 g ∧ g 7 = 0) ∧ ∀ i, i < 38 → PosSh h (v + 10 + 2 * i)
theorem PosSh.fr {h h' : PH} {p : Nat} (H : PosSh h p) (e0 : h'.2 p = h.2 p) (e1 : h'.2 (p + 1) = h.2 (p + 1)) : PosSh h' p := by
  obtain ⟨V, sp, a0, a1, a2⟩ := H
  exact ⟨V, sp, e0.trans a0, a1, e1.trans a2⟩
theorem ReaOK.fr {h h' : PH} {q : Nat} (H : ReaOK h q) (e : ∀ j, j < 4 → h'.2 (q + j) = h.2 (q + j)) : ReaOK h' q := by
  obtain ⟨V, a0, a1, W, f, g, b0, b1, b2, b3, b4⟩ := H
  exact ⟨V, (e 0 (by omega)).trans a0, a1, W, f, g, (e 1 (by omega)).trans b0, b1, b2, (e 2 (by omega)).trans b3, (e 3 (by omega)).trans b4⟩
theorem SolSh.lv {h : PH} {v : Nat} {V : Nat → Value} (H : SolSh h v V) {i : Nat} (hi : i < 38) : gR h v 7 1 = some (v + 5) ∧ aR h (v + 5) (nI i) = some (v + 10 + 2 * i) := by
  obtain ⟨a0, ⟨_, a1, _⟩, _, ⟨f, f1, f2⟩, _⟩ := H
  exact ⟨ob_R a0 (by omega) a1, ar_R f1 (by omega) hi (by omega) (f2 i hi)⟩
theorem SolSh.ck {h : PH} {v : Nat} {V : Nat → Value} (H : SolSh h v V) : cK h v 7 = some () := ob_K H.1
theorem sv_k {k : Nat} (hk : 1 ≤ k) (n : Nat) (b : Bool) : (decide (k ≤ n) || (decide (k - 1 ≤ n) && b)) = decide (k ≤ n + b.toNat) := by
  apply bool_i
  cases b
  · simp
  · simp only [Bool.and_true, Bool.or_eq_true, decide_eq_true_iff, Bool.toNat_true]
    omega
theorem s_rank {h : PH} {v p : Nat} {V : Nat → Value} {K : Nat → Nat → Bool} {P T S : Nat → Bool} (H : SolSh h v V) (HP : PosAt h p K P T S) (hp : p ≠ v + 9 ∧ p + 1 ≠ v + 9) {F : Nat} (hF : 40 ≤ F) :
    ∃ h' g, f_Sol_rank F v p h = some h' ∧ h'.2 (v + 9) = oL 8 g ∧ g 7 = 0 ∧ (∀ k, 1 ≤ k → k < 7 → CS (g k) fun c => decide (k ≤ sz (K c))) ∧ Fr (fun k => k = v + 9) h h' := by
  obtain ⟨a0, ⟨_, _, _, _, a5⟩, _, _, _, _, ⟨g0, b1, b2⟩, _⟩ := H
  obtain ⟨W, sp, pl, to, st, c0, c1, c2, c3, c4, c5, c6, _⟩ := HP
  have r8 : ∀ {s : PH}, Fr (fun k => k = v + 9) h s → gR s v 7 8 = some (v + 9) := fun f => ob_R ((f.2 v (by omega)).trans a0) (by omega) a5
  obtain ⟨s1, ⟨i0, g1, i1, i2, i3, i4⟩, e1⟩ := LC (fun n i s => f_Sol_rank_2 F n v p (nI i) s) (fun i s => 1 ≤ i ∧ ∃ g, s.2 (v + 9) = oL 8 g ∧ g 7 = 0 ∧ Fr (fun k => k = v + 9) h s ∧ ∀ k, 1 ≤ k → k < i → g k = 0) 7
    (fun n i s hi ⟨i0, g, i1, i2, i3, i4⟩ => by
      refine ⟨hset s (v + 9) (oL 8 (vp_updL g i 0)), ⟨by omega, _, hset_s _ _ _, ?_, i3.sq _, fun k h1 h2 => ?_⟩, ?_⟩
      · rw [pk_uLn (by omega)]; exact i2
      · by_cases q : k = i
        · subst q; exact pk_uLs
        · rw [pk_uLn q]; exact i4 k h1 (by omega)
      · show f_Sol_rank_2 F (n + 1) v p (nI i) s = _
        rw [f_Sol_rank_2, b_Sol_rank_2, if_neg (show ¬ (6 : Int32) < nI i from nI_nlt (a := 6) (b := (i)) (by omega) (by omega)), r8 i3, bnd_s, ar_sL _ i1 (by omega) (by omega), bnd_s, nI_1]) 6 1 h F rfl (by omega) ⟨by omega, g0, b1, b2, Fr.rf _ _, fun k h1 h2 => by omega⟩
  have inner : ∀ n' d s g, isD d = true → s.2 (v + 9) = oL 8 g → g 7 = 0 → Fr (fun k => k = v + 9) h s → (∀ k, 1 ≤ k → k < 7 → CS (g k) fun c => decide (k ≤ sz fun e => decide (e < d) && K c e)) →
      ∃ s' g', f_Sol_rank_40 F (f_Sol_rank_23 F n') F v p (nI d) (sp d) (6 : Int32) s = f_Sol_rank_23 F n' v p (nI (d + 1)) s' ∧ s'.2 (v + 9) = oL 8 g' ∧ g' 7 = 0 ∧ Fr (fun k => k = v + 9) h s' ∧ ∀ k, 1 ≤ k → k < 7 → CS (g' k) fun c => decide (k ≤ sz fun e => decide (e < d + 1) && K c e) := by
    intro n' d s g hd y1 y2 y3 y4
    have hnew : ∀ {x y : Int64} {k : Nat}, 1 ≤ k → CS x (fun c => decide (k ≤ sz fun e => decide (e < d) && K c e)) → CS y (fun c => decide (k - 1 ≤ sz fun e => decide (e < d) && K c e)) → CS (x ||| (y &&& sp d)) fun c => decide (k ≤ sz fun e => decide (e < d + 1) && K c e) := by
      intro x y k hk hx hy
      refine (hx.or (hy.and (c6 d hd))).x fun c _ => ?_
      rw [sz_os (K c) hd]
      exact sv_k hk _ _
    obtain ⟨s2, ⟨g', z1, z2, z3, z4⟩, e2⟩ := LC (fun n i s => f_Sol_rank_40 F (f_Sol_rank_23 F n') n v p (nI d) (sp d) (nI (6 - i)) s) (fun i s => ∃ g, s.2 (v + 9) = oL 8 g ∧ g 7 = 0 ∧ Fr (fun k => k = v + 9) h s ∧ ∀ k, 1 ≤ k → k < 7 → CS (g k) fun c => decide (k ≤ sz fun e => decide (e < (if 6 - i < k then d + 1 else d)) && K c e)) 5
      (fun n i s hi ⟨g, z1, z2, z3, z4⟩ => by
        have em : nI (6 - i) - (1 : Int32) = nI (6 - i - 1) := pk_sub (a := 6 - i) (b := 1) (by omega)
        have en : nI (6 - i) + (-1 : Int32) = nI (6 - (i + 1)) := by
          rw [show 6 - i = 6 - (i + 1) + 1 by omega]
          exact pk_m1 _
        refine ⟨hset s (v + 9) (oL 8 (vp_updL g (6 - i) (g (6 - i) ||| (g (6 - i - 1) &&& sp d)))), ⟨_, hset_s _ _ _, ?_, z3.sq _, fun k h1 h2 => ?_⟩, ?_⟩
        · rw [pk_uLn (by omega)]; exact z2
        · by_cases q : k = 6 - i
          · subst q
            rw [pk_uLs, if_pos (by omega)]
            have x1 := z4 (6 - i) h1 h2
            have x2 := z4 (6 - i - 1) (by omega) (by omega)
            rw [if_neg (by omega)] at x1 x2
            exact hnew h1 x1 x2
          · rw [pk_uLn q]
            have x1 := z4 k h1 h2
            by_cases w : 6 - i < k
            · rw [if_pos w] at x1
              rw [if_pos (by omega)]
              exact x1
            · rw [if_neg w] at x1
              rw [if_neg (by omega)]
              exact x1
        · show f_Sol_rank_40 F (f_Sol_rank_23 F n') (n + 1) v p (nI d) (sp d) (nI (6 - i)) s = _
          rw [f_Sol_rank_40, b_Sol_rank_40, if_neg (show ¬ nI (6 - i) ≤ (1 : Int32) from nI_ge (a := 1) (b := (6 - i)) (by omega) (by omega)), r8 z3, bnd_s, ar_L z1 (by omega) (by omega), bnd_s, bnd_s, em, ar_L z1 (by omega) (by omega), bnd_s, ar_sL _ z1 (by omega) (by omega), bnd_s, en]) 5 0 s F rfl (by omega) ⟨g, y1, y2, y3, fun k h1 h2 => by rw [if_neg (by omega)]; exact y4 k h1 h2⟩
    obtain ⟨m, hm⟩ : ∃ m, F - 5 = m + 1 := ⟨F - 6, by omega⟩
    refine ⟨hset s2 (v + 9) (oL 8 (vp_updL g' 1 (g' 1 ||| sp d))), _, ?_, hset_s _ _ _, by rw [pk_uLn (by omega)]; exact z2, z3.sq _, fun k h1 h2 => ?_⟩
    · refine Eq.trans e2 ?_
      show f_Sol_rank_40 F (f_Sol_rank_23 F n') (F - 5) v p (nI d) (sp d) (nI 1) s2 = _
      rw [hm, f_Sol_rank_40, b_Sol_rank_40, if_pos (show nI 1 ≤ (1 : Int32) by decide), r8 z3, bnd_s, show (1 : Int32) = nI 1 from rfl, ar_L z1 (by omega) (by omega), bnd_s, ar_sL _ z1 (by omega) (by omega), bnd_s, nI_add]
    · by_cases q : k = 1
      · subst q
        rw [pk_uLs]
        have x1 := z4 1 h1 h2
        rw [if_neg (by omega)] at x1
        refine (x1.or (c6 d hd)).x fun c _ => ?_
        rw [sz_os (K c) hd]
        exact sv_c _ _
      · rw [pk_uLn q]
        have x1 := z4 k h1 h2
        rw [if_pos (by omega)] at x1
        exact x1
  obtain ⟨s3, ⟨j0, g3, j1, j2, j3, j4⟩, e3⟩ := LC (fun n i s => f_Sol_rank_23 F n v p (nI i) s) (fun i s => 1 ≤ i ∧ ∃ g, s.2 (v + 9) = oL 8 g ∧ g 7 = 0 ∧ Fr (fun k => k = v + 9) h s ∧ ∀ k, 1 ≤ k → k < 7 → CS (g k) fun c => decide (k ≤ sz fun e => decide (e < i) && K c e)) 7
    (fun n i s hi ⟨j0, g, j1, j2, j3, j4⟩ => by
      have hd := isD_i j0 hi
      obtain ⟨s', g', x1, x2, x3, x4, x5⟩ := inner n i s g hd j1 j2 j3 j4
      refine ⟨s', ⟨by omega, g', x2, x3, x4, x5⟩, ?_⟩
      show f_Sol_rank_23 F (n + 1) v p (nI i) s = _
      rw [f_Sol_rank_23, b_Sol_rank_23, if_neg (show ¬ (6 : Int32) < nI i from nI_nlt (a := 6) (b := (i)) (by omega) (by omega)), ob_R ((j3.2 p (by omega)).trans c0) (by omega) c1, bnd_s, ar_L ((j3.2 (p + 1) (by omega)).trans c5) (by omega) (by omega), bnd_s]
      exact x1) 6 1 s1 F rfl (by omega) ⟨by omega, g1, i1, i2, i3, fun k h1 h2 => by
        rw [i4 k h1 h2]
        exact CS.no.x fun c _ => by rw [sz_o1]; exact (decide_eq_false (by omega)).symm⟩
  obtain ⟨m, hm⟩ : ∃ m, F - 6 = m + 1 := ⟨F - 7, by omega⟩
  refine ⟨s3, g3, ?_, j1, j2, fun k h1 h2 => (j4 k h1 h2).x fun c _ => by rw [sz_oe], j3⟩
  unfold f_Sol_rank
  refine Eq.trans e1 ?_
  show f_Sol_rank_2 F (F - 6) v p (nI 7) s1 = _
  rw [hm, f_Sol_rank_2, b_Sol_rank_2, if_pos (show (6 : Int32) < nI 7 from nI_lt (a := 6) (b := 7) (by omega) (by omega))]
  refine Eq.trans e3 ?_
  show f_Sol_rank_23 F (F - 6) v p (nI 7) s3 = _
  rw [hm, f_Sol_rank_23, b_Sol_rank_23, if_pos (show (6 : Int32) < nI 7 from nI_lt (a := 6) (b := 7) (by omega) (by omega))]
/-- cells with just k candidates -/
theorem rk_k {g : Nat → Int64} {K : Nat → Nat → Bool} (h7 : g 7 = 0) (h : ∀ k, 1 ≤ k → k < 7 → CS (g k) fun c => decide (k ≤ sz (K c))) {k : Nat} (h1 : 1 ≤ k) (h2 : k < 7) : CS (g k &&& (g (k + 1) ^^^ (-1 : Int64))) fun c => decide (sz (K c) = k) := by
  by_cases q : k = 6
  · subst q
    rw [h7]
    refine ((h 6 h1 h2).sub CS.no).x fun c _ => ?_
    have := sz_le (K c)
    apply bool_i
    simp only [Bool.not_false, Bool.and_true, decide_eq_true_iff]
    omega
  · refine ((h k h1 h2).sub (h (k + 1) (by omega) (by omega))).x fun c _ => ?_
    apply bool_i
    simp only [Bool.and_eq_true, Bool.not_eq_true', decide_eq_true_iff, decide_eq_false_iff_not]
    omega
theorem s_fewest {h : PH} {v p : Nat} {V : Nat → Value} {K : Nat → Nat → Bool} {P T S : Nat → Bool} (H : SolSh h v V) (HP : PosAt h p K P T S) (hp : p ≠ v + 9 ∧ p + 1 ≠ v + 9) {c : Nat} (hc : Few K c) {F : Nat} (hF : 40 ≤ F) :
    ∃ h' g, f_Sol_cellWithFewest F v p h = some (nI c, h') ∧ h'.2 (v + 9) = oL 8 g ∧ g 7 = 0 ∧ Fr (fun k => k = v + 9) h h' := by
  obtain ⟨h1, g, e1, x1, x2, x3, x4⟩ := s_rank H HP hp hF
  have r8 : gR h1 v 7 8 = some (v + 9) := ob_R ((x4.2 v (by omega)).trans H.1) (by omega) H.2.1.2.2.2.2
  have hs := sz_le (K c)
  have h2 := hc.2.1
  have hstep : ∀ n i, 2 ≤ i → i < sz (K c) → f_Sol_cellWithFewest_7 F (n + 1) v (nI i) h1 = f_Sol_cellWithFewest_7 F n v (nI (i + 1)) h1 := by
    intro n i h3 h4
    rw [f_Sol_cellWithFewest_7, b_Sol_cellWithFewest_7, if_neg (show ¬ (6 : Int32) < nI i from nI_nlt (a := 6) (b := (i)) (by omega) (by omega)), r8, bnd_s, ar_L x1 (by omega) (by omega), bnd_s, bnd_s, nI_1, ar_L x1 (by omega) (by omega), bnd_s, bnd_s, if_pos ((rk_k x2 x3 (by omega) (by omega)).lg0.mpr fun e he => decide_eq_false fun z => ?_)]
    have := hc.2.2.1 e he (by omega)
    omega
  obtain ⟨_, _, e2⟩ := LC (fun n i (_ : Unit) => f_Sol_cellWithFewest_7 F n v (nI i) h1) (fun i _ => 2 ≤ i) (sz (K c)) (fun n i s hi h3 => ⟨(), by omega, hstep n i h3 hi⟩) (sz (K c) - 2) 2 () F (by omega) (by omega) (Nat.le_refl 2)
  obtain ⟨m, hm⟩ : ∃ m, F - (sz (K c) - 2) = m + 1 := ⟨F - (sz (K c) - 2) - 1, by omega⟩
  have hl : Lw (fun e => decide (sz (K e) = sz (K c))) c := ⟨by simp, fun e he => decide_eq_false fun z => by
    have := hc.2.2.2 e he (by omega)
    omega⟩
  refine ⟨h1, g, ?_, x1, x2, x4⟩
  unfold f_Sol_cellWithFewest
  rw [H.ck, bnd_s, e1, bnd_s]
  refine Eq.trans e2 ?_
  show f_Sol_cellWithFewest_7 F (F - (sz (K c) - 2)) v (nI (sz (K c))) h1 = _
  have hC := rk_k x2 x3 (k := sz (K c)) (by omega) (by omega)
  rw [hm, f_Sol_cellWithFewest_7, b_Sol_cellWithFewest_7, if_neg (show ¬ (6 : Int32) < nI (sz (K c)) from nI_nlt (a := 6) (b := sz (K c)) (by omega) (by omega)), r8, bnd_s, ar_L x1 (by omega) (by omega), bnd_s, bnd_s, nI_1, ar_L x1 (by omega) (by omega), bnd_s, bnd_s, if_neg fun z => by
    have := hC.lg0.mp z c hc.1
    simp at this, g_lowest hC hc.1 hl, bnd_s]
