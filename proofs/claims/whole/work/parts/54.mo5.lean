/-! The reference: cages and arrows. -/
/-- the i-th digit of the code N -/
def dg (N i : Nat) : Nat := 1 + N / 6 ^ i % 6
theorem dg_D (N i : Nat) : isD (dg N i) = true := isD_i (by unfold dg; omega) (by unfold dg; omega)
theorem dg_s (N i : Nat) : dg N (i + 1) = dg (N / 6) i := by
  unfold dg
  rw [Nat.div_div_eq_div_mul, Nat.pow_succ, Nat.mul_comm]
theorem dg_ex : ∀ (n : Nat) (v : Nat → Nat), (∀ i, i < n → isD (v i) = true) → ∃ N, N < 6 ^ n ∧ ∀ i, i < n → dg N i = v i := by
  intro n
  induction n with
  | zero => intro v _; exact ⟨0, by decide, fun i hi => by omega⟩
  | succ n ih =>
    intro v hv
    obtain ⟨N, h1, h2⟩ := ih (fun i => v (i + 1)) fun i hi => hv (i + 1) (by omega)
    have h0 := isD_b (hv 0 (by omega))
    refine ⟨(v 0 - 1) + 6 * N, by rw [Nat.pow_succ]; omega, fun i hi => ?_⟩
    cases i with
    | zero =>
      show 1 + (v 0 - 1 + 6 * N) / 6 ^ 0 % 6 = v 0
      rw [Nat.pow_zero, Nat.div_one]
      omega
    | succ i =>
      rw [dg_s, show (v 0 - 1 + 6 * N) / 6 = N by omega]
      exact h2 i (by omega)
theorem dg_inj : ∀ (n N M : Nat), N < 6 ^ n → M < 6 ^ n → (∀ i, i < n → dg N i = dg M i) → N = M := by
  intro n
  induction n with
  | zero => intro N M h1 h2 _; rw [Nat.pow_zero] at h1 h2; omega
  | succ n ih =>
    intro N M h1 h2 h
    rw [Nat.pow_succ] at h1 h2
    have h3 := ih (N / 6) (M / 6) (by omega) (by omega) fun i hi => by
      rw [← dg_s, ← dg_s]
      exact h (i + 1) (by omega)
    have h4 := h 0 (by omega)
    unfold dg at h4
    rw [Nat.pow_zero, Nat.div_one, Nat.div_one] at h4
    omega
/-- the two small rows -/
def UN (h : PH) (mo n : Nat) (U : Nat → Nat → Bool) : Prop := ∃ f, h.2 (mo + 4) = oI 4 f ∧ ∀ j, j < n → f j = nI (mkd (U j))
def DI (h : PH) (mo n : Nat) (v : Nat → Nat) : Prop := ∃ f, h.2 (mo + 5) = oI 4 f ∧ ∀ j, j < n → f j = nI (v j)
theorem p6_le {n : Nat} (h : n ≤ 4) : 6 ^ n ≤ 1296 := Nat.le_trans (Nat.pow_le_pow_right (by omega) h) (by decide)
theorem MN.r {h : PH} {mo x : Nat} {V : Nat → Value} {R : RT} {K : Nat → Nat → Bool} {P : Nat → Bool} (H : MN h mo x V R K P) : gR h mo 10 9 = some (mo + 4) ∧ gR h mo 10 10 = some (mo + 5) := ⟨ob_R H.1 (by omega) H.2.1.2.2.2.1, ob_R H.1 (by omega) H.2.1.2.2.2.2.1⟩
theorem MS.a45 {h0 h : PH} {mo x a : Nat} {R : RT} {K0 K : Nat → Nat → Bool} {P : Nat → Bool} {kd : Nat} {pl : Int32} (H : MS h0 h mo x R K0 kd pl K P) (ha : a = mo + 4 ∨ a = mo + 5) (g : Nat → Int32) : MS h0 (hset h a (oI 4 g)) mo x R K0 kd pl K P := by
  obtain ⟨V, rm, a0, a1, a2, a3, a4, a5⟩ := H
  obtain ⟨b1, b2⟩ := a0.a45 ha g
  exact ⟨V, rm, b1, a1, a2, a3, a4, a5.tr b2⟩
theorem m_lays {h0 h : PH} {mo x : Nat} {R : RT} {K0 K : Nat → Nat → Bool} {P : Nat → Bool} {kd : Nat} {pl : Int32} (H : MS h0 h mo x R K0 kd pl K P) (hR : ROK R) {k : Nat} (hk : k < rn R) (h4 : rl R k ≤ 4) {N : Nat} (hN : N < 6 ^ rl R k) {F : Nat} (hF : 40 ≤ F) :
    ∃ h' ok, f_Mo_laysWay F mo x (nI k) (nI N) h = some (if ok then 1 else 0, h') ∧ MS h0 h' mo x R K0 kd pl K P ∧ h'.2 (mo + 4) = h.2 (mo + 4) ∧ DI h' mo (rl R k) (dg N) ∧ (ok = true ↔ ∀ j, j < rl R k → K (rc R k j) (dg N j) = true) := by
  obtain ⟨r1, r2, r3, r4, r5⟩ := hR.2 k hk
  have h6 := p6_le h4
  obtain ⟨⟨a, b, s⟩, ⟨i1, ok, i2, i3, i4, i5, i6⟩, h1⟩ := LC (fun n i (s : Int32 × Int32 × PH) => f_Mo_laysWay_9 F n mo x (nI k) s.1 s.2.1 (nI i) s.2.2)
    (fun i s => s.1 = nI (N / 6 ^ i) ∧ ∃ ok : Bool, s.2.1 = (if ok then 1 else 0) ∧ MS h0 s.2.2 mo x R K0 kd pl K P ∧ s.2.2.2 (mo + 4) = h.2 (mo + 4) ∧ DI s.2.2 mo i (dg N) ∧ (ok = true ↔ ∀ j, j < i → K (rc R k j) (dg N j) = true)) (rl R k)
    (fun n i s hi ⟨i1, ok, i2, i3, i4, i5, i6⟩ => by
      obtain ⟨V, M0⟩ := i3.mn
      obtain ⟨q1, q2, q3, q4⟩ := M0.k hR hk
      obtain ⟨f, f1, f2⟩ := i5
      have hle : N / 6 ^ i ≤ N := Nat.div_le_self _ _
      have e1 : nI (N / 6 ^ i) / (6 : Int32) = nI (N / 6 ^ (i + 1)) := by
        rw [show nI (N / 6 ^ i) / (6 : Int32) = nI (N / 6 ^ i / 6) from pk_div (a := N / 6 ^ i) (d := 6) (by omega) (by omega) (by omega), Nat.div_div_eq_div_mul, Nat.pow_succ]
      have e2 : (1 : Int32) + (nI (N / 6 ^ i) - nI (N / 6 ^ i) / (6 : Int32) * (6 : Int32)) = nI (dg N i) := by
        rw [show nI (N / 6 ^ i) - nI (N / 6 ^ i) / (6 : Int32) * (6 : Int32) = nI (N / 6 ^ i % 6) from pk_rem (a := N / 6 ^ i) (d := 6) (by omega) (by omega) (by omega)]
        exact nI_add 1 _
      have m1 := i3.a45 (Or.inr rfl) (upd f i (nI (dg N i)))
      obtain ⟨V1, M1⟩ := m1.mn
      have hD : DI (hset s.2.2 (mo + 5) (oI 4 (upd f i (nI (dg N i))))) mo (i + 1) (dg N) := ⟨_, hset_s _ _ _, fun j hj => by
        by_cases q : j = i
        · subst q; rw [pk_us]
        · rw [pk_un q]; exact f2 j (by omega)⟩
      have hc := r3 i hi
      have hB : ∀ b : Bool, (b = true ↔ ok = true ∧ K (rc R k i) (dg N i) = true) → (b = true ↔ ∀ j, j < i + 1 → K (rc R k j) (dg N j) = true) := by
        intro b hb
        rw [hb, i6]
        constructor
        · rintro ⟨z1, z2⟩ j hj
          by_cases q : j = i
          · subst q; exact z2
          · exact z1 j (by omega)
        · exact fun z => ⟨fun j hj => z j (by omega), z i (by omega)⟩
      show ∃ s', _ ∧ f_Mo_laysWay_9 F (n + 1) mo x (nI k) s.1 s.2.1 (nI i) s.2.2 = _
      rw [f_Mo_laysWay_9, b_Mo_laysWay_9, M0.ck, bnd_s, q2, bnd_s, if_neg (show ¬ nI (rl R k) ≤ nI i from nI_ge (a := (i)) (b := (rl R k)) (by omega) (by omega)), M0.r.2, bnd_s, i1, e2, ar_sI _ f1 (by omega) (by omega), bnd_s, e1, bnd_s, i2]
      cases hok : ok
      · refine ⟨(nI (N / 6 ^ (i + 1)), 0, hset s.2.2 (mo + 5) (oI 4 (upd f i (nI (dg N i))))), ⟨rfl, false, rfl, m1, (hset_n _ _ (by omega)).trans i4, hD, hB false (by simp [hok])⟩, ?_⟩
        rw [if_pos (by rfl), b_Mo_laysWay_71, b_Mo_laysWay_72, nI_1]
      · have hq := (M1.k hR hk).2.2.2 i hi
        have hdd : aI (hset s.2.2 (mo + 5) (oI 4 (upd f i (nI (dg N i))))) (mo + 5) (nI i) = some (nI (dg N i)) := by
          rw [ar_I (hset_s _ _ _) (show i < 4 by omega) (by omega), pk_us]
        rw [if_neg (by decide), M1.ck, bnd_s, hq, bnd_s, (M1.g hc).1, bnd_s, M1.r.2, bnd_s, hdd, bnd_s, m_has _ (dg_D N i), bnd_s]
        cases hK : K (rc R k i) (dg N i)
        · refine ⟨(nI (N / 6 ^ (i + 1)), 0, hset s.2.2 (mo + 5) (oI 4 (upd f i (nI (dg N i))))), ⟨rfl, false, rfl, m1, (hset_n _ _ (by omega)).trans i4, hD, hB false (by simp [hK])⟩, ?_⟩
          rw [if_pos (by rfl), b_Mo_laysWay_71, b_Mo_laysWay_72, nI_1]
        · refine ⟨(nI (N / 6 ^ (i + 1)), 1, hset s.2.2 (mo + 5) (oI 4 (upd f i (nI (dg N i))))), ⟨rfl, true, rfl, m1, (hset_n _ _ (by omega)).trans i4, hD, hB true (by simp [hK, hok])⟩, ?_⟩
          rw [if_neg (by decide), b_Mo_laysWay_72, nI_1]) (rl R k) 0 (nI N, 1, h) F (by omega) (by omega) ⟨by rw [Nat.pow_zero, Nat.div_one], true, rfl, H, rfl, by
      obtain ⟨V, M0⟩ := H.mn
      obtain ⟨f, hf⟩ := M0.2.2.2.2.2.2
      exact ⟨f, hf, fun j hj => by omega⟩, by simp⟩
  obtain ⟨m, hm⟩ : ∃ m, F - rl R k = m + 1 := ⟨F - rl R k - 1, by omega⟩
  obtain ⟨V, M0⟩ := i3.mn
  obtain ⟨q1, q2, q3, q4⟩ := M0.k hR hk
  refine ⟨s, ok, ?_, i3, i4, i5, i6⟩
  unfold f_Mo_laysWay
  refine Eq.trans h1 ?_
  show f_Mo_laysWay_9 F (F - rl R k) mo x (nI k) a b (nI (rl R k)) s = _
  rw [hm, f_Mo_laysWay_9, b_Mo_laysWay_9, M0.ck, bnd_s, q2, bnd_s, if_pos (show nI (rl R k) ≤ nI (rl R k) from nI_le (by omega) (by omega)), show b = _ from i2, cZ_b, bnd_s]
theorem smN_6 {v : Nat → Nat} : ∀ {n : Nat}, (∀ i, i < n → isD (v i) = true) → smN v n ≤ 6 * n := by
  intro n
  induction n with
  | zero => intro _; exact Nat.le_refl _
  | succ n ih =>
    intro h
    have h1 := ih fun i hi => h i (by omega)
    have h2 := isD_b (h n (by omega))
    show smN v n + v n ≤ _
    omega
theorem m_isWay {h0 h : PH} {mo x : Nat} {R : RT} {K0 K : Nat → Nat → Bool} {P : Nat → Bool} {kd : Nat} {pl : Int32} (H : MS h0 h mo x R K0 kd pl K P) (hR : ROK R) {k : Nat} (hk : k < rn R) (h4 : rl R k ≤ 4) (h2 : 2 ≤ rl R k) (hw : rk R k < 2) {v : Nat → Nat} (hv : ∀ j, isD (v j) = true) (hd : DI h mo (rl R k) v) {F : Nat} (hF : 40 ≤ F) :
    ∃ b : Bool, f_Mo_isWay F mo (nI k) h = some (if b then 1 else 0) ∧ (b = true ↔ Way R k v) := by
  obtain ⟨V, M0⟩ := H.mn
  obtain ⟨q1, q2, q3, q4⟩ := M0.k hR hk
  obtain ⟨r1, r2, r3, r4, r5⟩ := hR.2 k hk
  obtain ⟨f, f1, f2⟩ := hd
  have hg : ∀ i, i < rl R k → aI h (mo + 5) (nI i) = some (nI (v i)) := fun i hi => by rw [ar_I f1 (by omega) (by omega), f2 i hi]
  have hin : ∀ n' i (t : Int32) (b : Bool), i < rl R k → ∃ b' : Bool, f_Mo_isWay_33 F (f_Mo_isWay_14 F n') F mo (nI k) (nI (rl R k)) t (if b then 1 else 0) (nI i) 0 h = f_Mo_isWay_14 F n' mo (nI k) (nI (rl R k)) t (if b' then 1 else 0) (nI (i + 1)) h ∧ (b' = true ↔ b = true ∧ ∀ j, j < i → v i ≠ v j) := by
    intro n' i t b hi
    obtain ⟨s, ⟨b', e, hb⟩, h1⟩ := LC (fun n j (s : Int32) => f_Mo_isWay_33 F (f_Mo_isWay_14 F n') n mo (nI k) (nI (rl R k)) t s (nI i) (nI j) h) (fun j s => ∃ b' : Bool, s = (if b' then 1 else 0) ∧ (b' = true ↔ b = true ∧ ∀ j', j' < j → v i ≠ v j')) i
      (fun n j s hj ⟨b', e, hb⟩ => by
        subst e
        refine ⟨if (b' && !decide (v i = v j)) then 1 else 0, ⟨_, rfl, ?_⟩, ?_⟩
        · rw [Bool.and_eq_true, hb, Bool.not_eq_true', decide_eq_false_iff_not]
          constructor
          · rintro ⟨⟨z1, z2⟩, z3⟩
            refine ⟨z1, fun j' hj' => ?_⟩
            by_cases q : j' = j
            · subst q; exact z3
            · exact z2 j' (by omega)
          · exact fun z => ⟨⟨z.1, fun j' hj' => z.2 j' (by omega)⟩, z.2 j (by omega)⟩
        · show f_Mo_isWay_33 F (f_Mo_isWay_14 F n') (n + 1) mo (nI k) (nI (rl R k)) t _ (nI i) (nI j) h = _
          have b1 := isD_b (hv i)
          have b2 := isD_b (hv j)
          rw [f_Mo_isWay_33, b_Mo_isWay_33, if_neg (show ¬ nI i ≤ nI j from nI_ge (a := (j)) (b := (i)) (by omega) (by omega))]
          cases b'
          · rw [if_pos (by rfl), b_Mo_isWay_66, b_Mo_isWay_67, nI_1]; rfl
          · rw [if_neg (by decide), M0.r.2, bnd_s, hg i hi, bnd_s, bnd_s, hg j (by omega), bnd_s]
            by_cases q : v i = v j
            · rw [if_pos (congrArg nI q), b_Mo_isWay_66, b_Mo_isWay_67, nI_1, decide_eq_true q]; rfl
            · rw [if_neg (fun z => q ((nI_eq (by omega) (by omega)).mp z)), b_Mo_isWay_67, nI_1, decide_eq_false q]; rfl) i 0 (if b then 1 else 0) F (by omega) (by omega) ⟨b, rfl, by simp⟩
    obtain ⟨m, hm⟩ : ∃ m, F - i = m + 1 := ⟨F - i - 1, by omega⟩
    refine ⟨b', ?_, hb⟩
    refine Eq.trans h1 ?_
    show f_Mo_isWay_33 F (f_Mo_isWay_14 F n') (F - i) mo (nI k) (nI (rl R k)) t s (nI i) (nI i) h = _
    rw [hm, f_Mo_isWay_33, b_Mo_isWay_33, if_pos (show nI i ≤ nI i from nI_le (by omega) (by omega)), e, nI_1]
  obtain ⟨⟨t, c⟩, ⟨i1, b, i2, i3⟩, h1⟩ := LC (fun n i (s : Int32 × Int32) => f_Mo_isWay_14 F n mo (nI k) (nI (rl R k)) s.1 s.2 (nI i) h) (fun i s => s.1 = nI (smN v i) ∧ ∃ b : Bool, s.2 = (if b then 1 else 0) ∧ (b = true ↔ ∀ a c, a < i → c < a → v a ≠ v c)) (rl R k)
    (fun n i s hi ⟨i1, b, i2, i3⟩ => by
      obtain ⟨b', g1, g2⟩ := hin n i (nI (smN v i) + nI (v i)) b hi
      refine ⟨(nI (smN v (i + 1)), if b' then 1 else 0), ⟨rfl, b', rfl, ?_⟩, ?_⟩
      · rw [g2, i3]
        constructor
        · rintro ⟨z1, z2⟩ a c ha hc
          by_cases q : a = i
          · subst q; exact z2 c hc
          · exact z1 a c (by omega) hc
        · exact fun z => ⟨fun a c ha hc => z a c (by omega) hc, fun j hj => z i j (by omega) hj⟩
      · show f_Mo_isWay_14 F (n + 1) mo (nI k) (nI (rl R k)) s.1 s.2 (nI i) h = _
        rw [f_Mo_isWay_14, b_Mo_isWay_14, if_neg (show ¬ nI (rl R k) ≤ nI i from nI_ge (a := (i)) (b := (rl R k)) (by omega) (by omega)), M0.r.2, bnd_s, hg i hi, bnd_s, i1, i2, g1, nI_add]
        rfl) (rl R k) 0 (0, 1) F (by omega) (by omega) ⟨rfl, true, rfl, by simp⟩
  obtain ⟨m, hm⟩ : ∃ m, F - rl R k = m + 1 := ⟨F - rl R k - 1, by omega⟩
  have hE : f_Mo_isWay F mo (nI k) h = f_Mo_isWay_14 F (m + 1) mo (nI k) (nI (rl R k)) t c (nI (rl R k)) h := by
    unfold f_Mo_isWay
    rw [M0.ck, bnd_s, q2, bnd_s, ← hm]
    exact h1
  have hsm := smN_6 (n := rl R k) fun i _ => hv i
  replace i1 : t = nI (smN v (rl R k)) := i1
  replace i2 : c = if b then 1 else 0 := i2
  rw [hE, f_Mo_isWay_14, b_Mo_isWay_14, if_pos (show nI (rl R k) ≤ nI (rl R k) from nI_le (by omega) (by omega)), M0.ck, bnd_s, q1, bnd_s, i1, i2]
  have b0 := isD_b (hv 0)
  unfold Way
  by_cases w : rk R k = 0
  · rw [if_pos (show nI (rk R k) = (0 : Int32) from congrArg nI w)]
    cases b
    · refine ⟨false, by rw [if_pos (by rfl), b_Mo_isWay_116]; rfl, ?_⟩
      constructor
      · intro z; cases z
      · rintro ⟨z, _⟩
        exact i3.mpr fun a c ha hc => (z w).2 a c ha hc
    · rw [if_neg (by decide), M0.n.1, bnd_s, q3, bnd_s]
      by_cases q : smN v (rl R k) = rs R k
      · refine ⟨true, by rw [if_pos (congrArg nI q)]; rfl, ?_⟩
        exact iff_of_true rfl ⟨fun _ => ⟨q, fun i j hi hj => i3.mp rfl i j hi hj⟩, fun z => by omega, fun z => by omega⟩
      · refine ⟨false, by rw [if_neg (fun z => q ((nI_eq (by omega) (by omega)).mp z)), b_Mo_isWay_116]; rfl, ?_⟩
        exact iff_of_false (by simp) fun z => q (z.1 w).1
  · have w1 : rk R k = 1 := by omega
    have e0 : aI h (mo + 5) (0 : Int32) = some (nI (v 0)) := hg 0 (by omega)
    have e2 : (2 : Int32) * nI (v 0) = nI (2 * v 0) := pk_mul 2 _
    rw [if_neg (show ¬ nI (rk R k) = (0 : Int32) from fun z => w ((nI_eq (a := rk R k) (b := 0) (by omega) (by omega)).mp z)), M0.r.2, bnd_s, e0, bnd_s, e2]
    by_cases q : smN v (rl R k) = 2 * v 0
    · refine ⟨true, by rw [if_pos (congrArg nI q)]; rfl, ?_⟩
      exact iff_of_true rfl ⟨fun z => by omega, fun _ => q, fun z => by omega⟩
    · refine ⟨false, by rw [if_neg (fun z => q ((nI_eq (by omega) (by omega)).mp z))]; rfl, ?_⟩
      exact iff_of_false (by simp) fun z => q (z.2.1 w1)
