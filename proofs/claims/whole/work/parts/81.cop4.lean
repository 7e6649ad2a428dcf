/-! The class's calls: solutions, guesses, trials. -/
theorem c_count {h : PH} {x : ST} {m : Nat} {sv : Nat → ST} {tl : Nat} {tx : Nat → Int32} (H : CW h x m sv tl tx) (hv : VAL x) {q : Nat} (h1 : 1 ≤ q) (hq : q ≤ 1000) {F : Nat} (hF : 3000 ≤ F) :
    ∃ h', f_Sol_countSolutions F 36 (1 + 1) (1 + 3) (nI q) h = some (nI (min q (NS (tR x) (tK x))), h') ∧ CW h' x m sv tl tx ∧ (NS (tR x) (tK x) < q → SCO h' 36 (tR x) (tK x)) ∧ Fr (fun k => 36 ≤ k ∧ k < 122) h h' := by
  obtain ⟨⟨T, S, hC1, hC2⟩, ⟨W, L, s1, s2, s3, s4, s5⟩, hA, hB⟩ := H
  obtain ⟨h', W', p1, g1, g2, g3, g4, f⟩ := s_count s1 s3 hC1.2.1 hC1.2.2.1 hv.1 hC2 hv.2.1 (by omega) (by omega) h1 hq hF
  have e : ∀ k, ¬ (36 ≤ k ∧ k < 122) → h'.2 k = h.2 k := fun k hk => f.2 k (by simp only [LG]; omega)
  have e7 : ∀ k, k = 36 + 7 ∨ k = 36 + 7 + 1 → h'.2 k = h.2 k := fun k hk => f.2 k (by simp only [LG]; omega)
  refine ⟨h', p1, ⟨⟨T, S, hC1.fr fun k hk => e k (by simp only [US] at hk; omega), hC2⟩, ⟨W', L, g1, by obtain ⟨z, hz⟩ := s2; exact ⟨z, (g2 7 (Or.inr rfl)).trans hz⟩, g3, s4, ?_⟩, hA.fr fun k hk => e k (by simp only [DA] at hk; omega), hB.fr fun k hk => e k (by simp only [DB] at hk; omega)⟩, g4, f.mo fun k hk => by simp only [LG] at hk; omega⟩
  rcases s5 with z | ⟨z1, z2⟩
  · exact Or.inl ((g2 6 (Or.inl rfl)).trans z)
  · exact Or.inr ⟨(g2 6 (Or.inl rfl)).trans z1, z2.fr (e7 _ (Or.inl rfl)) (e7 _ (Or.inr rfl)) (g2 7 (Or.inr rfl))⟩
theorem c_guess {h : PH} {x : ST} {m : Nat} {sv : Nat → ST} {tl : Nat} {tx : Nat → Int32} (H : CW h x m sv tl tx) (hv : VAL x) {F : Nat} (hF : 3000 ≤ F) :
    ∃ z h' W L, f_Sol_countGuesses F 36 (1 + 1) (1 + 3) h = some (z, h') ∧ Ev (tR x) 36 (tK x) (tP x) L ∧ W 7 = .int z ∧ SolSh h' 36 W ∧ LA h' 36 W 0 L ∧ CW h' x m sv tl tx ∧ Fr (fun k => 36 ≤ k ∧ k < 122) h h' := by
  obtain ⟨⟨T, S, hC1, hC2⟩, ⟨W, L, s1, s2, s3, s4, s5⟩, hA, hB⟩ := H
  obtain ⟨z, h', W', p1, g1, g2, g3, g4, g5, f⟩ := s_guess s1 s2 s5 s4 hC1.2.1 hC1.2.2.1 hv.1 hC2 hv.2.1 (by omega) (by omega) hF
  have e : ∀ k, ¬ (36 ≤ k ∧ k < 122) → h'.2 k = h.2 k := fun k hk => f.2 k (by simp only [LF]; omega)
  refine ⟨z, h', W', L, p1, s4, g1, g2, g4, ⟨⟨T, S, hC1.fr fun k hk => e k (by simp only [US] at hk; omega), hC2⟩, ⟨W', L, g2, ⟨z, g1⟩, s3.fr (f.2 _ (by simp only [LF]; omega)) (g5 4 (by omega) (by omega)) (g5 5 (by omega) (by omega)), s4, Or.inr ⟨g3, g4⟩⟩, hA.fr fun k hk => e k (by simp only [DA] at hk; omega), hB.fr fun k hk => e k (by simp only [DB] at hk; omega)⟩, f.mo fun k hk => by simp only [LF] at hk; omega⟩
/-- the head that all of these calls share -/
theorem np_hd {h : PH} {x : ST} {m : Nat} {sv : Nat → ST} {tl : Nat} {tx : Nat → Int32} (H : CW h x m sv tl tx) : gR h 0 9 8 = some 36 ∧ gR h 0 9 0 = some 1 ∧ gR h 1 8 0 = some (1 + 1) ∧ gR h 1 8 1 = some (1 + 3) ∧ cK h 36 7 = some () ∧ gR h 1 8 2 = some (1 + 10) ∧ gR h 1 8 3 = some (1 + 11) ∧ gR h 0 9 6 = some 30 ∧ gR h 0 9 9 = some 122 ∧ cK h 122 7 = some () ∧ cK h 30 1 = some () ∧ cK h 0 9 = some () ∧ gR h 0 9 5 = some 28 := by
  obtain ⟨⟨T, S, hC1, hC2⟩, ⟨W, L, s1, _⟩, hA, hB⟩ := H
  have nr := np_r hA
  have sr := sta_r hC1
  obtain ⟨W2, hW2⟩ := hB.2.2.1
  exact ⟨nr.2.2.2.1, nr.1, sr.1, sr.2.1, ob_K s1.1, sr.2.2.1, sr.2.2.2.1, nr.2.1, nr.2.2.2.2.1, ob_K hW2.1, by obtain ⟨V9, sp, z, _⟩ := hB.1; exact ob_K z, nr.2.2.2.2.2.2.1, nr.2.2.2.2.2.1⟩
theorem c_solutions {h : PH} {x : ST} {m : Nat} {sv : Nat → ST} {tl : Nat} {tx : Nat → Int32} (H : CW h x m sv tl tx) (hv : VAL x) {q : Nat} (h1 : 1 ≤ q) (hq : q ≤ 20) {F : Nat} (hF : 3000 ≤ F) : ∃ h', f_Np_solutions F 0 (nI q) h = some (.inr (nI (min q (NS (tR x) (tK x)))), h') ∧ CW h' x m sv tl tx ∧ Fr (fun k => k < 263) h h' := by
  obtain ⟨h', p1, g1, g2, f⟩ := c_count H hv h1 (by omega) hF
  obtain ⟨n1, n2, n3, n4, n5, _⟩ := np_hd H
  refine ⟨h', ?_, g1, f.mo fun k hk => by omega⟩
  unfold f_Np_solutions
  rw [if_neg (show ¬ nI q < (1 : Int32) from nI_nlt (a := q) (b := 1) (by omega) (by omega)), if_pos (show nI q ≤ (20 : Int32) from nI_le (a := q) (b := 20) (by omega) (by omega)), n1, bnd_s, n2, bnd_s, n3, bnd_s, bnd_s, n4, bnd_s, n5, bnd_s, p1, bnd2_s]
theorem ffst_ex {R : RT} (hR : ROK R) {n : Nat} {K : Nat → Nat → Bool} {P : Nat → Bool} {L : EL} (hp : PI K P) (hE : Ev R n K P L) (h : NS R K ≠ 0) : ∃ y, ffst L = some y := by
  cases q : ffst L with
  | none =>
    have := (ffst_n L).mp q
    rw [(Ev_p hR n K P L hp hE).1] at this
    exact absurd this h
  | some y => exact ⟨y, rfl⟩
theorem c_guesses {h : PH} {x : ST} {m : Nat} {sv : Nat → ST} {tl : Nat} {tx : Nat → Int32} (H : CW h x m sv tl tx) (hv : VAL x) {F : Nat} (hF : 3000 ≤ F) : ∃ h', CW h' x m sv tl tx ∧ Fr (fun k => k < 263) h h' ∧ ((NS (tR x) (tK x) = 0 ∧ f_Np_guesses F 0 h = some (-1, h')) ∨ ∃ L y, NS (tR x) (tK x) ≠ 0 ∧ Ev (tR x) 36 (tK x) (tP x) L ∧ ffst L = some y ∧ f_Np_guesses F 0 h = some (nI y.1, h')) := by
  obtain ⟨h', p1, g1, g2, f⟩ := c_count H hv (q := 1) (by omega) (by omega) hF
  obtain ⟨n1, n2, n3, n4, n5, _⟩ := np_hd H
  obtain ⟨m1, m2, m3, m4, m5, _⟩ := np_hd g1
  unfold f_Np_guesses
  rw [n1, bnd_s, n2, bnd_s, n3, bnd_s, bnd_s, n4, bnd_s, n5, bnd_s, show f_Sol_countSolutions F 36 (1 + 1) (1 + 3) 1 h = _ from p1, bnd2_s]
  by_cases w : NS (tR x) (tK x) = 0
  · refine ⟨h', g1, f.mo fun k hk => by omega, Or.inl ⟨w, ?_⟩⟩
    rw [w, if_pos (show nI (min 1 0) = (0 : Int32) from rfl)]
  · obtain ⟨z, h2, W, L, q1, q2, q3, q4, q5, q6, q7⟩ := c_guess g1 hv hF
    obtain ⟨y, hy⟩ := ffst_ex hv.1 hv.2.1 q2 w
    refine ⟨h2, q6, (f.mo fun k hk => by omega).tr (q7.mo fun k hk => by omega), Or.inr ⟨L, y, w, q2, hy, ?_⟩⟩
    have hm : min 1 (NS (tR x) (tK x)) = 1 := by omega
    unfold LA at q5
    rw [hy] at q5
    have hz : z = nI y.1 := by
      have := q5.1
      rw [q3, Nat.zero_add] at this
      cases this
      rfl
    rw [hm, if_neg (show ¬ nI 1 = (0 : Int32) by decide), m1, bnd_s, m2, bnd_s, m3, bnd_s, bnd_s, m4, bnd_s, m5, bnd_s, q1, bnd2_s, hz]
theorem c_solved {h : PH} {x : ST} {m : Nat} {sv : Nat → ST} {tl : Nat} {tx : Nat → Int32} (H : CW h x m sv tl tx) (hv : VAL x) {c : Nat} (hc : c < 36) {F : Nat} (hF : 3000 ≤ F) : ∃ h', CW h' x m sv tl tx ∧ Fr (fun k => k < 263) h h' ∧ ((NS (tR x) (tK x) = 0 ∧ f_Np_solved F 0 (nI c) h = some (.inr 0, h')) ∨ ∃ L y, NS (tR x) (tK x) ≠ 0 ∧ Ev (tR x) 36 (tK x) (tP x) L ∧ ffst L = some y ∧ f_Np_solved F 0 (nI c) h = some (.inr (nI (y.2 c)), h')) := by
  obtain ⟨h', p1, g1, g2, f⟩ := c_count H hv (q := 1) (by omega) (by omega) hF
  obtain ⟨n1, n2, n3, n4, n5, _⟩ := np_hd H
  obtain ⟨m1, m2, m3, m4, m5, _⟩ := np_hd g1
  unfold f_Np_solved
  rw [c1_ok hc]
  show ∃ h', _ ∧ _ ∧ ((_ ∧ (bnd (gR h 0 9 8) _ = _)) ∨ ∃ L y, _ ∧ _ ∧ _ ∧ (bnd (gR h 0 9 8) _ = _))
  rw [n1, bnd_s, n2, bnd_s, n3, bnd_s, bnd_s, n4, bnd_s, n5, bnd_s, show f_Sol_countSolutions F 36 (1 + 1) (1 + 3) 1 h = _ from p1, bnd2_s]
  by_cases w : NS (tR x) (tK x) = 0
  · refine ⟨h', g1, f.mo fun k hk => by omega, Or.inl ⟨w, ?_⟩⟩
    rw [w, if_pos (show nI (min 1 0) = (0 : Int32) from rfl)]
  · obtain ⟨z, h2, W, L, q1, q2, q3, q4, q5, q6, q7⟩ := c_guess g1 hv hF
    obtain ⟨y, hy⟩ := ffst_ex hv.1 hv.2.1 q2 w
    refine ⟨h2, q6, (f.mo fun k hk => by omega).tr (q7.mo fun k hk => by omega), Or.inr ⟨L, y, w, q2, hy, ?_⟩⟩
    have hm : min 1 (NS (tR x) (tK x)) = 1 := by omega
    unfold LA at q5
    rw [hy] at q5
    obtain ⟨_, K', P', T', S', k1, k2, k3⟩ := q5
    have hs := k3 c hc
    rw [hm, if_neg (show ¬ nI 1 = (0 : Int32) by decide), m1, bnd_s, m2, bnd_s, m3, bnd_s, bnd_s, m4, bnd_s, m5, bnd_s, q1, bnd2_s, (np_hd q6).1, bnd_s, ob_R q4.1 (by omega) q4.2.1.2.2.2.1, bnd_s, k1.ck, bnd_s, p_lowest k1 hc (by omega), bnd_s, if_neg (by omega)]
    rw [← k2]
    rfl
noncomputable def usd (R : RT) (K : Nat → Nat → Bool) (c d : Nat) : Bool := @decide (∃ f, Sol R K f ∧ f c = d) (Classical.propDecidable _)
theorem usd_t {R : RT} {K : Nat → Nat → Bool} {c d : Nat} : usd R K c d = true ↔ ∃ f, Sol R K f ∧ f c = d := by
  unfold usd
  rw [@decide_eq_true_iff _ (Classical.propDecidable _)]
noncomputable def spf (x : ST) : Int32 := if NS (tR x) (tK x) ≤ 20 then nI (tot fun c d => tK x c d && !usd (tR x) (tK x) c d) else -1
theorem c_superfluous {h : PH} {x : ST} {m : Nat} {sv : Nat → ST} {tl : Nat} {tx : Nat → Int32} (H : CW h x m sv tl tx) (hv : VAL x) {F : Nat} (hF : 3000 ≤ F) : ∃ h', f_Np_superfluous F 0 h = some (spf x, h') ∧ CW h' x m sv tl tx ∧ Fr (fun k => k < 263) h h' := by
  obtain ⟨h', p1, g1, g2, f⟩ := c_count H hv (q := 21) (by omega) (by omega) hF
  obtain ⟨n1, n2, n3, n4, n5, _⟩ := np_hd H
  obtain ⟨m1, m2, m3, m4, m5, _⟩ := np_hd g1
  refine ⟨h', ?_, g1, f.mo fun k hk => by omega⟩
  unfold f_Np_superfluous spf
  rw [n1, bnd_s, n2, bnd_s, n3, bnd_s, bnd_s, n4, bnd_s, n5, bnd_s, show f_Sol_countSolutions F 36 (1 + 1) (1 + 3) 21 h = _ from p1, bnd2_s]
  by_cases w : NS (tR x) (tK x) ≤ 20
  · obtain ⟨un, hu1, hu2⟩ := g2 (by omega)
    obtain ⟨⟨T, S, hC1, hC2⟩, ⟨W, L, s1, _⟩, _⟩ := g1
    rw [if_pos w, if_pos (show nI (min 21 (NS (tR x) (tK x))) ≤ (20 : Int32) from nI_le (a := min 21 (NS (tR x) (tK x))) (b := 20) (by omega) (by omega)), m1, bnd_s, m2, bnd_s, m3, bnd_s, m5, bnd_s, s_unseen s1 hu1 hC1.2.1 (by omega), bnd_s]
    congr 3
    refine tot_ext fun c hc d hd => ?_
    congr 2
    exact bool_i ((hu2 c d hc hd).trans usd_t.symm)
  · rw [if_neg w, if_neg (show ¬ nI (min 21 (NS (tR x) (tK x))) ≤ (20 : Int32) from nI_ge (a := 20) (b := min 21 (NS (tR x) (tK x))) (by omega) (by omega))]
/-- the trial solver knows nothing -/
def TrF (h : PH) : Prop := ∃ W, SolSh h 122 W ∧ W 4 = .int 0 ∧ W 5 = .int 0
theorem c_tcount {h : PH} {x : ST} {m : Nat} {sv : Nat → ST} {tl : Nat} {tx : Nat → Int32} (H : CW h x m sv tl tx) (hR : ROK (tR x)) (hT : TrF h) {K : Nat → Nat → Bool} {P T S : Nat → Bool} (hP : PosAt h 30 K P T S) (hI : INV (tR x) K T S) (hp : PI K P) {q : Nat} (h1 : 1 ≤ q) (hq : q ≤ 1000) {F : Nat} (hF : 3000 ≤ F) :
    ∃ h', f_Sol_countSolutions F 122 30 (1 + 3) (nI q) h = some (nI (min q (NS (tR x) K)), h') ∧ CW h' x m sv tl tx ∧ Fr (fun k => 122 ≤ k ∧ k < 208) h h' := by
  obtain ⟨⟨T0, S0, hC1, hC2⟩, hS, hA, hB⟩ := H
  obtain ⟨W, s1, s4, s5⟩ := hT
  have hc : CCH h 122 (tR x) K W := ⟨0, 0, s4, s5, by omega, by omega, fun z => absurd z (Nat.lt_irrefl 0)⟩
  obtain ⟨h', W', p1, g1, g2, g3, g4, f⟩ := s_count s1 hc hP hC1.2.2.1 hR hI hp (by omega) (by omega) h1 hq hF
  have e : ∀ k, ¬ (122 ≤ k ∧ k < 208) → h'.2 k = h.2 k := fun k hk => f.2 k (by simp only [LG]; omega)
  refine ⟨h', p1, ⟨⟨T0, S0, hC1.fr fun k hk => e k (by simp only [US] at hk; omega), hC2⟩, hS.fr fun k h1 h2 => e k (by omega), hA.fr fun k hk => e k (by simp only [DA] at hk; omega), ?_⟩, f.mo fun k hk => by simp only [LG] at hk; omega⟩
  obtain ⟨a, b, _, ⟨W2, d⟩, ⟨f, g⟩, f2, g2⟩ := hB
  exact ⟨a.fr (e _ (by omega)) (e _ (by omega)), b.fr fun j hj => e _ (by omega), ⟨W', g1⟩, ⟨W2, (e _ (by omega)).trans d⟩, ⟨f, (e _ (by omega)).trans g⟩, f2, (e _ (by omega)).trans g2⟩
theorem c_tforget {h : PH} {x : ST} {m : Nat} {sv : Nat → ST} {tl : Nat} {tx : Nat → Int32} (H : CW h x m sv tl tx) : ∃ h', f_Sol_forget 122 h = some h' ∧ CW h' x m sv tl tx ∧ TrF h' ∧ Fr (fun k => k = 122) h h' := by
  obtain ⟨⟨T0, S0, hC1, hC2⟩, hS, hA, ⟨a, b, ⟨W, c⟩, ⟨W2, d⟩, ⟨ff, g⟩, f2, g2⟩⟩ := H
  obtain ⟨h', W', p1, g1, w4, w5, w6, w7, f⟩ := sol_forget c
  have e : ∀ k, k ≠ 122 → h'.2 k = h.2 k := f.2
  exact ⟨h', p1, ⟨⟨T0, S0, hC1.fr fun k hk => e k (by simp only [US] at hk; omega), hC2⟩, hS.fr fun k h1 h2 => e k (by omega), hA.fr fun k hk => e k (by simp only [DA] at hk; omega), ⟨a.fr (e _ (by omega)) (e _ (by omega)), b.fr fun j hj => e _ (by omega), ⟨W', g1⟩, ⟨W2, (e _ (by omega)).trans d⟩, ⟨ff, (e _ (by omega)).trans g⟩, f2, (e _ (by omega)).trans g2⟩⟩, ⟨W', g1, w4, w5⟩, f⟩
theorem cw_pos {h h' : PH} {x : ST} {m : Nat} {sv : Nat → ST} {tl : Nat} {tx : Nat → Int32} (H : CW h x m sv tl tx) (f : Fr (PS 30) h h') (hp : PosSh h' 30) : CW h' x m sv tl tx := cw_tr H (f.mo fun k hk => by simp only [PS, WS] at hk ⊢; omega) hp (H.2.2.2.2.1.fr fun j hj => f.2 _ (by simp only [PS]; omega))
theorem c_possible {h : PH} {x : ST} {m : Nat} {sv : Nat → ST} {tl : Nat} {tx : Nat → Int32} (H : CW h x m sv tl tx) (hv : VAL x) {c d : Nat} (hc : c < 36) (hd : isD d = true) {F : Nat} (hF : 3000 ≤ F) : ∃ h', f_Np_possible F 0 (nI c) (nI d) h = some (.inr (if NS (tR x) (kpO (tK x) c d) = 0 then 0 else 1), h') ∧ CW h' x m sv tl tx ∧ Fr (fun k => k < 263) h h' := by
  have hd' := isD_b hd
  obtain ⟨h1, T, S, p1, g1, hI, H1, hs1, f1⟩ := c_trial H
  obtain ⟨rm, h2, T2, p2, g2, t2, f2, _⟩ := p_keepOnly g1 hc hd (F := F) (by omega)
  have H2 := cw_pos H1 f2 g2.sh
  obtain ⟨h3, p3, H3, hT3, f3⟩ := c_tforget H2
  have g3 : PosAt h3 30 (kpO (tK x) c d) (tP x) T2 S := g2.fr (f3.2 _ (by omega)) (f3.2 _ (by omega))
  obtain ⟨h4, p4, H4, f4⟩ := c_tcount H3 hv.1 hT3 g3 (hI.tr hv.1 t2) (hv.2.1.sub kpO_sub) (q := 1) (by omega) (by omega) hF
  obtain ⟨n1, n2, n3, n4, n5, n6, n7, n8, n9, n10, n11, _⟩ := np_hd H
  obtain ⟨a1, a2, a3, a4, a5, a6, a7, a8, a9, a10, a11, _⟩ := np_hd H1
  obtain ⟨b1, b2, b3, b4, b5, b6, b7, b8, b9, b10, b11, _⟩ := np_hd H2
  obtain ⟨d1, d2, d3, d4, d5, d6, d7, d8, d9, d10, d11, _⟩ := np_hd H3
  have c2 : f_Np_checkDigit (nI d) h = some (.inr (), h) := by
    unfold f_Np_checkDigit
    rw [if_neg (show ¬ nI d < (1 : Int32) from nI_nlt (a := d) (b := 1) (by omega) (by omega)), if_pos (show nI d ≤ (6 : Int32) from nI_le (a := d) (b := 6) (by omega) (by omega))]
  refine ⟨h4, ?_, H4, (f1.mo fun k hk => by simp only [PS] at hk; omega).tr ((f2.mo fun k hk => by simp only [PS] at hk; omega).tr ((f3.mo fun k hk => by omega).tr (f4.mo fun k hk => by omega)))⟩
  unfold f_Np_possible
  rw [c1_ok hc]
  show bndT (f_Np_checkDigit (nI d) h) _ = _
  rw [c2]
  show bnd (gR h 0 9 6) _ = _
  rw [n8, bnd_s, n2, bnd_s, n3, bnd_s, n11, bnd_s, p1, bnd_s, a8, bnd_s, a11, bnd_s, p2, bnd2_s, b9, bnd_s, b10, bnd_s, p3, bnd_s, d9, bnd_s, d8, bnd_s, d2, bnd_s, d4, bnd_s, d10, bnd_s, show f_Sol_countSolutions F 122 30 (1 + 3) 1 h3 = _ from p4, bnd2_s]
  by_cases w : NS (tR x) (kpO (tK x) c d) = 0
  · rw [w, if_pos (show nI (min 1 0) ≤ (0 : Int32) by decide), if_pos rfl]
  · have hm : min 1 (NS (tR x) (kpO (tK x) c d)) = 1 := by omega
    rw [hm, if_neg (show ¬ nI 1 ≤ (0 : Int32) by decide), if_neg w]
def xG (x : ST) (G : Nat → Nat) : ST := (tR x, tK x, tP x, G, tN x, tE x)
theorem cw_setG {h : PH} {x : ST} {m : Nat} {sv : Nat → ST} {tl : Nat} {tx : Nat → Int32} (H : CW h x m sv tl tx) {c : Nat} (hc : c < 36) (d : Nat) : ∃ h', sI h (1 + 10) (nI c) (nI d) = some h' ∧ CW h' (xG x (upG (tG x) c d)) m sv tl tx ∧ Fr (fun k => k = 11) h h' := by
  obtain ⟨⟨T0, S0, ⟨⟨V, a0, a1⟩, b, r, ⟨g, e, e'⟩, l⟩, hC2⟩, hS, hA, hB⟩ := H
  obtain ⟨h', p1, g1, f⟩ := sti (i := c) (nI d) e hc (by omega)
  have ee : ∀ k, k ≠ 11 → h'.2 k = h.2 k := fun k hk => f.2 k (by omega)
  refine ⟨h', p1, ⟨⟨T0, S0, ⟨⟨V, (ee _ (by omega)).trans a0, a1⟩, b.fr (ee _ (by omega)) (ee _ (by omega)), r.fe fun j hj => ee _ (by omega), ⟨_, g1, fun a ha => ?_⟩, l.fr (ee _ (by omega)) (ee _ (by omega))⟩, hC2⟩, hS.fr fun k h1 h2 => ee k (by omega), hA.fr fun k hk => ee k (by simp only [DA] at hk; omega), hB.fr fun k hk => ee k (by simp only [DB] at hk; omega)⟩, f.mo fun k hk => by omega⟩
  show upd g c (nI d) a = nI (if a = c then d else tG x a)
  by_cases q : a = c
  · rw [if_pos q, q, pk_us]
  · rw [if_neg q, pk_un q]; exact e' a ha
theorem upG_ok {G : Nat → Nat} (h : gvOK G) {c d : Nat} (hd : d < 7) : gvOK (upG G c d) := fun a ha => by
  unfold upG
  split
  · exact hd
  · exact h a ha
def GT : Nat → Prop := fun k => k = 30 ∨ k = 31 ∨ (122 ≤ k ∧ k < 208)
/-- a trial of the givens -/
theorem c_gtrial {h : PH} {x : ST} {m : Nat} {sv : Nat → ST} {tl : Nat} {tx : Nat → Int32} (H : CW h x m sv tl tx) (hR : ROK (tR x)) (hG : gvOK (tG x)) {F : Nat} (hF : 3000 ≤ F) : ∃ h1 h2, f_Np_beginTrial F 0 h = some h1 ∧ CW h1 x m sv tl tx ∧ f_Sol_countSolutions F 122 30 (1 + 3) (2 : Int32) h1 = some (nI (min 2 (NS (tR x) (gvK (tG x)))), h2) ∧ CW h2 x m sv tl tx ∧ Fr GT h h2 := by
  obtain ⟨n1, n2, n3, n4, n5, n6, n7, n8, n9, n10, n11, _⟩ := np_hd H
  have H0 := H
  obtain ⟨⟨T0, S0, ⟨⟨V, a0, a1⟩, b, r, ⟨g, e, e'⟩, l⟩, hC2⟩, hS, hA, hB⟩ := H0
  obtain ⟨h1, p1, g1, f1⟩ := p_beginWith (p := 30) (a := 1 + 10) hB.1 e e' hG (by omega) (F := F) (by omega)
  have H1 := cw_pos H f1 g1.sh
  obtain ⟨h2, p2, H2, hT2, f2⟩ := c_tforget H1
  obtain ⟨h3, p3, H3, f3⟩ := c_tcount H2 hR hT2 (g1.fr (f2.2 _ (by omega)) (f2.2 _ (by omega))) inv_new (fun c _ z => (by cases z)) (q := 2) (by omega) (by omega) hF
  obtain ⟨b1, b2, b3, b4, b5, b6, b7, b8, b9, b10, b11, _⟩ := np_hd H1
  refine ⟨h2, h3, ?_, H2, p3, H3, (f1.mo fun k hk => by simp only [PS, GT] at hk ⊢; omega).tr ((f2.mo fun k hk => by simp only [GT]; omega).tr (f3.mo fun k hk => by simp only [GT]; omega))⟩
  unfold f_Np_beginTrial
  rw [n8, bnd_s, n2, bnd_s, n6, bnd_s, n11, bnd_s, p1, bnd_s, b9, bnd_s, b10, bnd_s, p2, bnd_s]
/-- givens without which there is more than one solution -/
noncomputable def ndd (x : ST) (c : Nat) : Bool := decide (tG x c ≠ 0) && decide (2 ≤ NS (tR x) (gvK (upG (tG x) c 0)))
theorem upG_b {G : Nat → Nat} {c d : Nat} : upG (upG G c d) c (G c) = G := by
  funext a
  unfold upG
  by_cases q : a = c
  · rw [if_pos q, q]
  · rw [if_neg q, if_neg q]
theorem c_needed {h : PH} {x : ST} {m : Nat} {sv : Nat → ST} {tl : Nat} {tx : Nat → Int32} (H : CW h x m sv tl tx) (hv : VAL x) {F : Nat} (hF : 3000 ≤ F) : ∃ h', f_Np_needed F 0 h = some (nI (cnt (ndd x) 36), h') ∧ CW h' x m sv tl tx ∧ Fr (fun k => k < 263) h h' := by
  obtain ⟨⟨a, s⟩, ⟨i1, i2, i3⟩, e⟩ := LC (fun n i (s : Int32 × PH) => f_Np_needed_4 F n 0 s.1 (nI i) s.2) (fun i s => s.1 = nI (cnt (ndd x) i) ∧ CW s.2 x m sv tl tx ∧ Fr (fun k => k < 263) h s.2) 36
    (fun n i s hi ⟨i1, i2, i3⟩ => by
      have hg := hv.2.2.1 i hi
      obtain ⟨n1, n2, n3, n4, n5, n6, n7, n8, n9, n10, n11, n12, _⟩ := np_hd i2
      have i2' := i2
      obtain ⟨⟨T0, S0, ⟨⟨V, a0, a1⟩, b, r, ⟨g, e, e'⟩, l⟩, hC2⟩, _⟩ := i2'
      show ∃ s', _ ∧ f_Np_needed_4 F (n + 1) 0 s.1 (nI i) s.2 = _
      rw [f_Np_needed_4, b_Np_needed_4, if_neg (show ¬ (36 : Int32) ≤ nI i from nI_ge (a := (i)) (b := 36) (by omega) (by omega)), n2, bnd_s, n6, bnd_s, ar_I e hi (by omega), bnd_s, e' i hi]
      by_cases q : tG x i = 0
      · rw [if_pos (show nI (tG x i) = (0 : Int32) from congrArg nI q), b_Np_needed_79, nI_1]
        refine ⟨(s.1, s.2), ⟨?_, i2, i3⟩, rfl⟩
        rw [cnt_s, i1]
        unfold ndd
        rw [decide_eq_false (show ¬ tG x i ≠ 0 from fun z => z q)]
        rfl
      rw [if_neg (show ¬ nI (tG x i) = (0 : Int32) from fun z => q ((nI_eq (a := tG x i) (b := 0) (by omega) (by omega)).mp z)), bnd_s, n6, bnd_s]
      obtain ⟨h1, p1, H1, f1⟩ := cw_setG i2 hi 0
      obtain ⟨h2, h3, p2, H2, p3, H3, f3⟩ := c_gtrial H1 hv.1 (upG_ok hv.2.2.1 (by omega)) hF
      obtain ⟨h4, p4, H4, f4⟩ := cw_setG H3 hi (tG x i)
      have hx : xG (xG x (upG (tG x) i 0)) (upG (tG (xG x (upG (tG x) i 0))) i (tG x i)) = x := by
        show (tR x, tK x, tP x, upG (upG (tG x) i 0) i (tG x i), tN x, tE x) = x
        rw [upG_b]
        rfl
      rw [hx] at H4
      obtain ⟨b1, b2, b3, b4, b5, b6, b7, b8, b9, b10, b11, b12, _⟩ := np_hd H1
      obtain ⟨c1, c2, c3, c4, c5, c6, c7, c8, c9, c10, c11, _⟩ := np_hd H2
      obtain ⟨d1, d2, d3, d4, d5, d6, d7, d8, d9, d10, d11, _⟩ := np_hd H3
      have fin : ∀ z : Nat, nI (cnt (ndd x) i) + nI z = nI (cnt (ndd x) (i + 1)) → b_Np_needed_67 F (f_Np_needed_4 F n) 0 (nI i) (nI (tG x i)) (nI z) (nI (cnt (ndd x) i)) h3 = f_Np_needed_4 F n 0 (nI (cnt (ndd x) (i + 1))) (nI (i + 1)) h4 := by
        intro z hz
        rw [b_Np_needed_67, d2, bnd_s, d6, bnd_s, p4, bnd_s, hz, b_Np_needed_79, nI_1]
      refine ⟨(nI (cnt (ndd x) (i + 1)), h4), ⟨rfl, H4, i3.tr ((f1.mo fun k hk => by omega).tr ((f3.mo fun k hk => by simp only [GT] at hk; omega).tr (f4.mo fun k hk => by omega)))⟩, ?_⟩
      rw [show sI s.2 (1 + 10) (nI i) 0 = some h1 from p1, bnd_s, b12, bnd_s, p2, bnd_s, c9, bnd_s, c8, bnd_s, c2, bnd_s, c4, bnd_s, c10, bnd_s, p3, bnd2_s, i1]
      show (if nI (min 2 (NS (tR x) (gvK (upG (tG x) i 0)))) ≤ (1 : Int32) then _ else _) = _
      by_cases w : 2 ≤ NS (tR x) (gvK (upG (tG x) i 0))
      · rw [if_neg (show ¬ nI (min 2 (NS (tR x) (gvK (upG (tG x) i 0)))) ≤ (1 : Int32) from nI_ge (a := 1) (b := min 2 (NS (tR x) (gvK (upG (tG x) i 0)))) (by omega) (by omega))]
        exact fin 1 (by
          rw [nI_add, cnt_s]
          unfold ndd
          rw [decide_eq_true q, decide_eq_true w]
          rfl)
      · rw [if_pos (show nI (min 2 (NS (tR x) (gvK (upG (tG x) i 0)))) ≤ (1 : Int32) from nI_le (a := min 2 (NS (tR x) (gvK (upG (tG x) i 0)))) (b := 1) (by omega) (by omega))]
        exact fin 0 (by
          rw [nI_add, cnt_s]
          unfold ndd
          rw [decide_eq_true q, decide_eq_false w]
          rfl)) 36 0 (0, h) F rfl (by omega) ⟨rfl, H, Fr.rf _ _⟩
  obtain ⟨mm, hm⟩ : ∃ m, F - 36 = m + 1 := ⟨F - 37, by omega⟩
  refine ⟨s, ?_, i2, i3⟩
  unfold f_Np_needed
  refine Eq.trans e ?_
  show f_Np_needed_4 F (F - 36) 0 a (nI 36) s = _
  rw [hm, f_Np_needed_4, b_Np_needed_4, if_pos (show (36 : Int32) ≤ nI 36 from nI_le (a := 36) (b := 36) (by omega) (by omega)), show a = _ from i1]
