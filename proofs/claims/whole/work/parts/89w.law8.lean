/-! The law: the dispatch, the loop, the start. -/
theorem l_23 {F L : Nat} {xs : Nat → Int32} {k : Nat → Nat → Nat → Int32 → PH → Option Int32} {i v0 v1 v2 v3 : Int32} {h : PH} (H : IVe h) (hF : 3000 + nB 36 ≤ F) (e0 : xI L xs i = some v0) (e1 : xI L xs (i + 1) = some v1) (e2 : xI L xs (i + 2) = some v2) (e3 : xI L xs (i + 3) = some v3) (hl : ¬ (Int32.ofNat L) - (4 : Int32) < i) : ∃ h', IVe h' ∧ b_Law_law_23 F L xs k 0 263 278 i h = k 0 263 278 (i + 4) h' := by
  rw [b_Law_law_23, if_neg hl, e0, bnd_s]
  by_cases c0 : (v0 &&& (31 : Int32)) = (0 : Int32)
  · rw [if_pos c0]; exact l_168 H hF
  rw [if_neg c0]
  by_cases c1 : (v0 &&& (31 : Int32)) = (1 : Int32)
  · rw [if_pos c1]; exact l_181 H hF e1 e2
  rw [if_neg c1]
  by_cases c2 : (v0 &&& (31 : Int32)) = (2 : Int32)
  · rw [if_pos c2]; exact l_249 H hF e1 e2
  rw [if_neg c2]
  by_cases c3 : (v0 &&& (31 : Int32)) = (3 : Int32)
  · rw [if_pos c3]; exact l_324 H hF e1 e2 e3
  rw [if_neg c3]
  by_cases c4 : (v0 &&& (31 : Int32)) = (4 : Int32)
  · rw [if_pos c4]; exact l_404 H hF e1 e2
  rw [if_neg c4]
  by_cases c5 : (v0 &&& (31 : Int32)) = (5 : Int32)
  · rw [if_pos c5]; exact l_472 H hF
  rw [if_neg c5]
  by_cases c6 : (v0 &&& (31 : Int32)) = (6 : Int32)
  · rw [if_pos c6]; exact l_485 H hF e1 e2
  rw [if_neg c6]
  by_cases c7 : (v0 &&& (31 : Int32)) = (7 : Int32)
  · rw [if_pos c7]; exact l_553 H hF e1 e2
  rw [if_neg c7]
  by_cases c8 : (v0 &&& (31 : Int32)) = (8 : Int32)
  · rw [if_pos c8]; exact l_621 H hF e1 e2
  rw [if_neg c8]
  by_cases c9 : (v0 &&& (31 : Int32)) = (9 : Int32)
  · rw [if_pos c9]; exact l_689 H hF e1
  rw [if_neg c9]
  by_cases c10 : (v0 &&& (31 : Int32)) = (10 : Int32)
  · rw [if_pos c10]; exact l_745 H hF e1
  rw [if_neg c10]
  by_cases c11 : (v0 &&& (31 : Int32)) = (11 : Int32)
  · rw [if_pos c11]; exact l_801 H hF e1 e2
  rw [if_neg c11]
  by_cases c12 : (v0 &&& (31 : Int32)) = (12 : Int32)
  · rw [if_pos c12]; exact l_869 H hF e1
  rw [if_neg c12]
  by_cases c13 : (v0 &&& (31 : Int32)) = (13 : Int32)
  · rw [if_pos c13]; exact l_925 H hF
  rw [if_neg c13]
  by_cases c14 : (v0 &&& (31 : Int32)) = (14 : Int32)
  · rw [if_pos c14]; exact l_938 H hF
  rw [if_neg c14]
  by_cases c15 : (v0 &&& (31 : Int32)) = (15 : Int32)
  · rw [if_pos c15]; exact l_951 H
  rw [if_neg c15]
  by_cases c16 : (v0 &&& (31 : Int32)) = (16 : Int32)
  · rw [if_pos c16]; exact l_964 H hF e1 e2
  rw [if_neg c16]
  by_cases c17 : (v0 &&& (31 : Int32)) = (17 : Int32)
  · rw [if_pos c17]; exact l_1032 H hF e1
  rw [if_neg c17]
  by_cases c18 : (v0 &&& (31 : Int32)) = (18 : Int32)
  · rw [if_pos c18]; exact l_1088 H hF e1
  rw [if_neg c18]
  by_cases c19 : (v0 &&& (31 : Int32)) = (19 : Int32)
  · rw [if_pos c19]; exact l_1144 H hF
  rw [if_neg c19]
  by_cases c20 : (v0 &&& (31 : Int32)) = (20 : Int32)
  · rw [if_pos c20]; exact l_1157 H hF e1
  rw [if_neg c20]
  by_cases c21 : (v0 &&& (31 : Int32)) = (21 : Int32)
  · rw [if_pos c21]; exact l_1213 H hF
  rw [if_neg c21]
  by_cases c22 : (v0 &&& (31 : Int32)) = (22 : Int32)
  · rw [if_pos c22]; exact l_1226 H hF e1 e2
  rw [if_neg c22]
  by_cases c23 : (v0 &&& (31 : Int32)) = (23 : Int32)
  · rw [if_pos c23]; exact l_1301 H hF
  rw [if_neg c23]
  by_cases c24 : (v0 &&& (31 : Int32)) = (24 : Int32)
  · rw [if_pos c24]; exact l_1314 H hF e1
  rw [if_neg c24]
  by_cases c25 : (v0 &&& (31 : Int32)) = (25 : Int32)
  · rw [if_pos c25]; exact l_1370 H
  rw [if_neg c25]
  by_cases c26 : (v0 &&& (31 : Int32)) = (26 : Int32)
  · rw [if_pos c26]; exact l_1383 H hF
  rw [if_neg c26]
  by_cases c27 : (v0 &&& (31 : Int32)) = (27 : Int32)
  · rw [if_pos c27]; exact l_1396 H hF
  rw [if_neg c27]
  by_cases c28 : (v0 &&& (31 : Int32)) = (28 : Int32)
  · rw [if_pos c28]; exact l_1440 H hF
  rw [if_neg c28]
  exact ⟨h, H, rfl⟩
theorem xI_nI {L : Nat} {xs : Nat → Int32} {j : Nat} (hj : j < L) (hL : L < 2 ^ 31) : xI L xs (nI j) = some (xs j) := by
  have e : (nI j).toNatClampNeg = j := nI_clamp (by omega)
  unfold xI
  rw [e, if_neg (fun z => by
    rcases z with z | z
    · exact nI_pos (by omega) z
    · omega)]
theorem l_pre {L s : Nat} (hL : L ≤ 2048) (q : 4 * s + 4 ≤ L) (xs : Nat → Int32) : xI L xs (nI (4 * s)) = some (xs (4 * s)) ∧ xI L xs (nI (4 * s) + 1) = some (xs (4 * s + 1)) ∧ xI L xs (nI (4 * s) + 2) = some (xs (4 * s + 2)) ∧ xI L xs (nI (4 * s) + 3) = some (xs (4 * s + 3)) ∧ ¬ (Int32.ofNat L) - (4 : Int32) < nI (4 * s) := by
  refine ⟨xI_nI (by omega) (by omega), (congrArg (xI L xs) (nI_add (4 * s) 1)).trans (xI_nI (by omega) (by omega)), (congrArg (xI L xs) (nI_add (4 * s) 2)).trans (xI_nI (by omega) (by omega)), (congrArg (xI L xs) (nI_add (4 * s) 3)).trans (xI_nI (by omega) (by omega)), ?_⟩
  rw [show (Int32.ofNat L) - (4 : Int32) = nI (L - 4) from pk_sub (a := L) (b := 4) (by omega)]
  exact nI_nlt (by omega) (by omega)
theorem l_stp {F L : Nat} (hL : L ≤ 2048) {xs : Nat → Int32} (hF : 3000 + nB 36 ≤ F) : ∀ s h k, IVe h → 4 * s + 4 ≤ L → ∃ h', IVe h' ∧ b_Law_law_23 F L xs k 0 263 278 (nI (4 * s)) h = k 0 263 278 (nI (4 * s) + 4) h' := by
  intro s h k H q
  obtain ⟨a, b, c, d, e⟩ := l_pre hL q xs
  exact l_23 H hF a b c d e
theorem law_loop {F L : Nat} (hL : L ≤ 2048) {xs : Nat → Int32} (st : ∀ s h k, IVe h → 4 * s + 4 ≤ L → ∃ h', IVe h' ∧ b_Law_law_23 F L xs k 0 263 278 (nI (4 * s)) h = k 0 263 278 (nI (4 * s) + 4) h') : ∀ n s h, IVe h → 4 * s ≤ L → L < 4 * (n + s) → f_Law_law_23 F L xs n 0 263 278 (nI (4 * s)) h = some 1 := by
  intro n
  induction n with
  | zero => intro s h _ h1 h2; omega
  | succ n ih =>
    intro s h H h1 h2
    rw [f_Law_law_23]
    by_cases q : 4 * s + 4 ≤ L
    · obtain ⟨h', H', e⟩ := st s h (f_Law_law_23 F L xs n) H q
      rw [e, show nI (4 * s) + (4 : Int32) = nI (4 * (s + 1)) from nI_add (4 * s) 4]
      exact ih (s + 1) h' H' (by omega) (by omega)
    · have hl : (Int32.ofNat L) - (4 : Int32) < nI (4 * s) := by
        by_cases q4 : 4 ≤ L
        · rw [show (Int32.ofNat L) - (4 : Int32) = nI (L - 4) from pk_sub (a := L) (b := 4) (by omega)]
          exact nI_lt (by omega) (by omega)
        · obtain rfl : s = 0 := by omega
          obtain rfl | rfl | rfl | rfl : L = 0 ∨ L = 1 ∨ L = 2 ∨ L = 3 := by omega
          all_goals decide
      rw [b_Law_law_23, if_pos hl]
theorem law_start (F L : Nat) (xs : Nat → Int32) (hF3 : 3000 ≤ F) : ∃ h5, IVe h5 ∧ f_Law_law F L xs (0, fun _ => pdead) = f_Law_law_23 F L xs 600 0 263 278 (0 : Int32) h5 := by
  obtain ⟨h1, y1, n1, g1, o1⟩ := nO_e (0, fun _ => pdead) 9 (show (cT 9).2.2 = 13 from rfl)
  obtain ⟨h2, y2, n2, C2, hv⟩ := i_np g1 n1 (fun _ _ => 0) (fun _ => x0 (fun _ _ => 0)) (fun _ => 0) hF3
  obtain ⟨h3, y3, n3, g3, o3⟩ := nO_e h2 10 (show (cT 10).2.2 = 28 from rfl)
  rw [n2] at n3 g3 o3
  obtain ⟨h4, y4, n4, M4, o4⟩ := i_mo g3 n3 (fun _ _ => 0) (fun _ => x0 (fun _ _ => 0)) (fun _ => 0) hF3
  obtain ⟨h5, y5, n5, g5, o5⟩ := newH_e h4 (oL 1 (fun _ => 0))
  rw [n4] at g5 o5
  have H5 : IVe h5 := ⟨_, 0, _, 0, _, C2.fr fun k hk => by rw [o5 k (by omega), o4 k hk, o3 k (by omega)], ⟨0, M4.fr fun k hk => o5 k (by simp only [DM] at hk; omega)⟩, hv, fun i hi => absurd hi (Nat.not_lt_zero i), by omega, _, g5⟩
  refine ⟨h5, H5, ?_⟩
  unfold f_Law_law
  rw [y1, bnd_s]
  show bnd (f_Np_init F 0 h1) _ = _
  rw [y2, bnd_s, y3, bnd_s, n2, y4, bnd_s, n4, y5, bnd_s]
theorem law_all {F L : Nat} (hL : L ≤ 2048) (xs : Nat → Int32) (hF : 3000 + nB 36 ≤ F) : f_Law_law F L xs (0, fun _ => pdead) = some 1 := by
  obtain ⟨h5, H5, e⟩ := law_start F L xs (F3 hF)
  have st := l_stp hL (xs := xs) hF
  clear hF
  exact e.trans (law_loop hL st 600 0 h5 H5 (by omega) (by omega))
