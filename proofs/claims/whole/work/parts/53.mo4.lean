/-! The reference: thermometers. -/
theorem tot_mono {K L : Nat → Nat → Bool} (h : ∀ a, a < 36 → ∀ e, isD e = true → K a e = true → L a e = true) : tot K ≤ tot L := smN_le fun c hc => sz_mono (h c hc)
theorem tot_eq {K L : Nat → Nat → Bool} (h : ∀ a, a < 36 → ∀ e, isD e = true → K a e = true → L a e = true) (ht : tot K = tot L) : ∀ a, a < 36 → ∀ e, isD e = true → K a e = L a e := by
  intro a ha e he
  cases q : K a e
  · cases q2 : L a e
    · rfl
    · exfalso
      have : tot K < tot L := smN_lt (fun c hc => sz_mono (h c hc)) ⟨a, ha, sz_lt (h a ha) he q2 q⟩
      omega
  · exact (h a ha e he q).symm
theorem sift_le {R : RT} {K : Nat → Nat → Bool} {k : Nat} : ∀ a, a < 36 → ∀ e, isD e = true → sift R K k a e = true → K a e = true := fun a _ e _ z => (sift_t.mp z).1
theorem ab_b : ∀ a, a < 8 → f_Mo_above (nI a) = some (nI (mkd fun d => decide (a < d))) := by decide +kernel
theorem be_b : ∀ a, a < 8 → f_Mo_below (nI a) = some (nI (mkd fun d => decide (d < a))) := by decide +kernel
/-- the lower and the upper neighbour's mask -/
def nlo (Y : Nat → Nat → Bool) (i : Nat) : Nat → Bool := fun d => decide (i = 0) || decide (lod (Y (i - 1)) < d)
def nhi (n : Nat) (Y : Nat → Nat → Bool) (i : Nat) : Nat → Bool := fun d => decide (n ≤ i + 1) || decide (d < hid (Y (i + 1)))
theorem mk126 : (126 : Int32) = nI (mkd fun _ => true) := rfl
theorem m_tstep {h0 h : PH} {mo x : Nat} {R : RT} {K0 Kc : Nat → Nat → Bool} {P : Nat → Bool} {kd : Nat} {pl : Int32} (H : MS h0 h mo x R K0 kd pl Kc P) (hR : ROK R) {k i : Nat} (hk : k < rn R) (hi : i < rl R k) (i5 : Int32) {F m : Nat} (hF : 40 ≤ F) (kk : Nat → Nat → Int32 → Int32 → Int32 → PH → Option (Int32 × PH)) :
    ∃ h', f_Mo_thermometer_32 F kk (m + 1) mo x (nI k) (nI (rl R k)) i5 (nI i) h = f_Mo_thermometer_32 F kk m mo x (nI k) (nI (rl R k)) i5 (nI (i + 1)) h' ∧
      MS h0 h' mo x R K0 kd pl (fun a e => Kc a e && !(decide (a = rc R k i) && !nbr (rl R k) (fun j => Kc (rc R k j)) i e)) P := by
  obtain ⟨V, H0⟩ := H.mn
  obtain ⟨q1, q2, q3, q4⟩ := H0.k hR hk
  obtain ⟨r1, r2, r3, r4, r5⟩ := hR.2 k hk
  have h6 := mxl_le (rk R k)
  have hc := r3 i hi
  have h142 : ∀ lo hh : Nat → Bool, ∃ h', b_Mo_thermometer_142 F (f_Mo_thermometer_32 F kk m) mo x (nI k) (nI (rl R k)) i5 (nI i) (nI (mkd hh)) (nI (mkd lo)) h = f_Mo_thermometer_32 F kk m mo x (nI k) (nI (rl R k)) i5 (nI (i + 1)) h' ∧
      MS h0 h' mo x R K0 kd pl (fun a e => Kc a e && !(decide (a = rc R k i) && !(lo e && hh e))) P := by
    intro lo hh
    obtain ⟨h', e1, e2, _⟩ := H.take hc (fun e => true && !(lo e && hh e)) hF
    refine ⟨h', ?_, e2.x (fun a _ e _ => by simp) (fun _ _ => rfl)⟩
    rw [b_Mo_thermometer_142, H0.ck, bnd_s, q4 i hi, bnd_s, bnd_s, mkd_and, mk126, mkd_sub, e1, bnd_s, nI_1]
  have h89 : ∀ lo : Nat → Bool, ∃ h', b_Mo_thermometer_89 F (f_Mo_thermometer_32 F kk m) mo x (nI k) (nI (rl R k)) i5 (nI i) (nI (mkd lo)) (126 : Int32) h = f_Mo_thermometer_32 F kk m mo x (nI k) (nI (rl R k)) i5 (nI (i + 1)) h' ∧
      MS h0 h' mo x R K0 kd pl (fun a e => Kc a e && !(decide (a = rc R k i) && !(lo e && nhi (rl R k) (fun j => Kc (rc R k j)) i e))) P := by
    intro lo
    have e1 : nI (rl R k) - (1 : Int32) = nI (rl R k - 1) := pk_sub (a := rl R k) (b := 1) (by omega)
    have hcg : ∀ hh : Nat → Bool, (∀ e, isD e = true → hh e = nhi (rl R k) (fun j => Kc (rc R k j)) i e) → ∃ h', b_Mo_thermometer_142 F (f_Mo_thermometer_32 F kk m) mo x (nI k) (nI (rl R k)) i5 (nI i) (nI (mkd hh)) ((126 : Int32) &&& nI (mkd lo)) h = f_Mo_thermometer_32 F kk m mo x (nI k) (nI (rl R k)) i5 (nI (i + 1)) h' ∧
        MS h0 h' mo x R K0 kd pl (fun a e => Kc a e && !(decide (a = rc R k i) && !(lo e && nhi (rl R k) (fun j => Kc (rc R k j)) i e))) P := by
      intro hh he
      obtain ⟨h', g1, g2⟩ := h142 (fun d => true && lo d) hh
      refine ⟨h', ?_, g2.x (fun a _ e hd => by simp [he e hd]) (fun _ _ => rfl)⟩
      rw [mk126, mkd_and]
      exact g1
    rw [b_Mo_thermometer_89, e1]
    by_cases w : i = rl R k - 1
    · rw [if_pos (congrArg nI w)]
      exact hcg (fun _ => true) fun e _ => by unfold nhi; rw [decide_eq_true (show rl R k ≤ i + 1 by omega)]; rfl
    · have hc2 := r3 (i + 1) (by omega)
      rw [if_neg (fun z => w ((nI_eq (by omega) (by omega)).mp z)), H0.ck, bnd_s, nI_1, q4 (i + 1) (by omega), bnd_s, (H0.g hc2).1, bnd_s]
      by_cases w2 : sz (Kc (rc R k (i + 1))) = 0
      · rw [if_pos (nmkd_z.mpr w2)]
        exact hcg (fun _ => false) fun e _ => by unfold nhi; rw [hid_n w2, decide_eq_false (show ¬ rl R k ≤ i + 1 by omega)]; rfl
      · rw [if_neg (fun z => w2 (nmkd_z.mp z)), bnd_s, bnd_s, (H0.g hc2).1, bnd_s, m_greatest _ hF, bnd_s, be_b _ (hid_lt _), bnd_s]
        exact hcg _ fun e _ => by unfold nhi; rw [decide_eq_false (show ¬ rl R k ≤ i + 1 by omega)]; rfl
  have hcg : ∀ lo : Nat → Bool, (∀ e, isD e = true → lo e = nlo (fun j => Kc (rc R k j)) i e) → ∃ h', b_Mo_thermometer_89 F (f_Mo_thermometer_32 F kk m) mo x (nI k) (nI (rl R k)) i5 (nI i) (nI (mkd lo)) (126 : Int32) h = f_Mo_thermometer_32 F kk m mo x (nI k) (nI (rl R k)) i5 (nI (i + 1)) h' ∧
      MS h0 h' mo x R K0 kd pl (fun a e => Kc a e && !(decide (a = rc R k i) && !nbr (rl R k) (fun j => Kc (rc R k j)) i e)) P := by
    intro lo he
    obtain ⟨h', g1, g2⟩ := h89 lo
    exact ⟨h', g1, g2.x (fun a _ e hd => by rw [he e hd]; rfl) (fun _ _ => rfl)⟩
  rw [f_Mo_thermometer_32, b_Mo_thermometer_32, if_neg (show ¬ nI (rl R k) ≤ nI i from nI_ge (a := (i)) (b := (rl R k)) (by omega) (by omega))]
  by_cases w : i = 0
  · rw [if_pos (show nI i = (0 : Int32) from congrArg nI w)]
    exact hcg (fun _ => true) fun e _ => by unfold nlo; rw [decide_eq_true w]; rfl
  · have e2 : nI i - (1 : Int32) = nI (i - 1) := pk_sub (a := i) (b := 1) (by omega)
    have hc2 := r3 (i - 1) (by omega)
    rw [if_neg (show ¬ nI i = (0 : Int32) from fun z => w ((nI_eq (a := i) (b := 0) (by omega) (by omega)).mp z)), H0.ck, bnd_s, e2, q4 (i - 1) (by omega), bnd_s, (H0.g hc2).1, bnd_s]
    by_cases w2 : sz (Kc (rc R k (i - 1))) = 0
    · rw [if_pos (nmkd_z.mpr w2)]
      exact hcg (fun _ => false) fun e hd => by
        have := isD_b hd
        unfold nlo
        rw [lod_n w2, decide_eq_false w, decide_eq_false (show ¬ 7 < e by omega)]
        rfl
    · rw [if_neg (fun z => w2 (nmkd_z.mp z)), bnd_s, bnd_s, (H0.g hc2).1, bnd_s, m_least _ hF, bnd_s, ab_b _ (lod_lt _), bnd_s]
      exact hcg _ fun e _ => by unfold nlo; rw [decide_eq_false w]; rfl
/-- between the sweeps -/
def TS (R : RT) (K : Nat → Nat → Bool) (k : Nat) (Kc : Nat → Nat → Bool) : Prop := (∀ a, a < 36 → (∀ j, j < rl R k → rc R k j ≠ a) → ∀ e, isD e = true → Kc a e = K a e) ∧ Swp (rl R k) (fun j => K (rc R k j)) fun j => Kc (rc R k j)
theorem m_tround {h0 h : PH} {mo x : Nat} {R : RT} {K0 K Kb : Nat → Nat → Bool} {P : Nat → Bool} {kd : Nat} {pl : Int32} (H : MS h0 h mo x R K0 kd pl Kb P) (hR : ROK R) {k : Nat} (hk : k < rn R) (hw : TS R K k Kb) {rm : Nat} (hrm : rm + tot Kb = tot K0) {F : Nat} (hF : 40 ≤ F) (kk : Nat → Nat → Int32 → Int32 → Int32 → PH → Option (Int32 × PH)) :
    ∃ h' Kc, MS h0 h' mo x R K0 kd pl Kc P ∧ TS R K k Kc ∧ ∃ c : Bool, f_Mo_thermometer_32 F kk F mo x (nI k) (nI (rl R k)) (nI rm) 0 h = kk mo x (nI k) (nI (rl R k)) (if c then 1 else 0) h' ∧ (c = true → tot Kc < tot Kb) ∧ (c = false → ∀ j, j < rl R k → ∀ d, isD d = true → Kc (rc R k j) d = true → nbr (rl R k) (fun j => Kc (rc R k j)) j d = true) := by
  obtain ⟨r1, r2, r3, r4, r5⟩ := hR.2 k hk
  have h6 := mxl_le (rk R k)
  obtain ⟨s, ⟨Kc, i1, i2, i3, i4⟩, h1⟩ := LC (fun n i s => f_Mo_thermometer_32 F kk n mo x (nI k) (nI (rl R k)) (nI rm) (nI i) s)
    (fun i s => ∃ Kc, MS h0 s mo x R K0 kd pl Kc P ∧ TS R K k Kc ∧ (∀ a, a < 36 → ∀ e, isD e = true → Kc a e = true → Kb a e = true) ∧ (tot Kc = tot Kb → ∀ j, j < i → ∀ d, isD d = true → Kb (rc R k j) d = true → nbr (rl R k) (fun j => Kb (rc R k j)) j d = true)) (rl R k)
    (fun n i s hi ⟨Kc, i1, i2, i3, i4⟩ => by
      obtain ⟨s', e1, e2⟩ := m_tstep i1 hR hk hi (nI rm) (m := n) hF kk
      have hsub : ∀ a, a < 36 → ∀ e, isD e = true → (Kc a e && !(decide (a = rc R k i) && !nbr (rl R k) (fun j => Kc (rc R k j)) i e)) = true → Kc a e = true := fun a _ e _ z => by
        rw [Bool.and_eq_true] at z
        exact z.1
      have hsub2 : ∀ a, a < 36 → ∀ e, isD e = true → (Kc a e && !(decide (a = rc R k i) && !nbr (rl R k) (fun j => Kc (rc R k j)) i e)) = true → Kb a e = true := fun a ha e he z => i3 a ha e he (hsub a ha e he z)
      refine ⟨s', ⟨_, e2, ⟨fun a ha hn e he => ?_, i2.2.s hi fun j hj d _ => ?_⟩, hsub2, fun ht j hj d hd hb => ?_⟩, e1⟩
      · have : ¬ a = rc R k i := fun z => hn i hi z.symm
        show (Kc a e && !(decide (a = rc R k i) && !nbr (rl R k) (fun j => Kc (rc R k j)) i e)) = K a e
        rw [decide_eq_false this, ← i2.1 a ha hn e he]
        simp
      · by_cases q : j = i
        · subst q; simp
        · have : ¬ rc R k j = rc R k i := fun z => q (r4 j i hj hi z)
          simp [q, this]
      · have t1 := tot_mono hsub
        have t2 := tot_mono i3
        have t3 : tot Kc = tot Kb := by omega
        have t4 := tot_eq i3 t3
        by_cases q : j = i
        · subst q
          have t5 := tot_eq hsub2 ht (rc R k j) (r3 j hi) d hd
          rw [hb, Bool.and_eq_true] at t5
          have t6 := t5.2
          rw [nbr_x (Z := fun j => Kb (rc R k j)) (fun a ha e he => t4 _ (r3 a ha) e he) hi] at t6
          simpa using t6
        · exact i4 t3 j (by omega) d hd hb) (rl R k) 0 h F (by omega) (by omega) ⟨Kb, H, hw, fun _ _ _ _ z => z, fun _ j hj => by omega⟩
  obtain ⟨m, hm⟩ : ∃ m, F - rl R k = m + 1 := ⟨F - rl R k - 1, by omega⟩
  obtain ⟨rm2, g1, g2⟩ := i1.rem
  have ht := tot_mono i3
  have hb1 := tot_le K0
  have hE : f_Mo_thermometer_32 F kk F mo x (nI k) (nI (rl R k)) (nI rm) 0 h = f_Mo_thermometer_32 F kk (m + 1) mo x (nI k) (nI (rl R k)) (nI rm) (nI (rl R k)) s := by
    rw [← hm]
    exact h1
  refine ⟨s, Kc, i1, i2, ?_⟩
  rw [hE, f_Mo_thermometer_32, b_Mo_thermometer_32, if_pos (show nI (rl R k) ≤ nI (rl R k) from nI_le (by omega) (by omega)), g1, bnd_s]
  by_cases q : rm2 ≤ rm
  · refine ⟨false, ?_, fun z => (by cases z), fun _ j hj d hd hy => ?_⟩
    · rw [if_pos (show nI rm2 ≤ nI rm from nI_le (by omega) (by omega)), b_Mo_thermometer_184]
      rfl
    · have t3 : tot Kc = tot Kb := by omega
      have t4 := tot_eq i3 t3
      rw [nbr_x (Z := fun j => Kb (rc R k j)) (fun a ha e he => t4 _ (r3 a ha) e he) hj]
      exact i4 t3 j hj d hd (by rw [← t4 _ (r3 j hj) d hd]; exact hy)
  · refine ⟨true, ?_, fun _ => by omega, fun z => (by cases z)⟩
    rw [if_neg (show ¬ nI rm2 ≤ nI rm from nI_ge (by omega) (by omega)), b_Mo_thermometer_184]
    rfl
theorem TS.fix {R : RT} {K Kc : Nat → Nat → Bool} {k : Nat} (hR : ROK R) (hk : k < rn R) (h2 : rk R k = 2) (hw : TS R K k Kc) (hf : ∀ j, j < rl R k → ∀ d, isD d = true → Kc (rc R k j) d = true → nbr (rl R k) (fun j => Kc (rc R k j)) j d = true) : ∀ a, a < 36 → ∀ e, isD e = true → Kc a e = sift R K k a e := by
  obtain ⟨r1, r2, r3, r4, r5⟩ := hR.2 k hk
  intro a ha e he
  apply bool_i
  rw [sift_t]
  by_cases q : ∃ j, j < rl R k ∧ rc R k j = a
  · obtain ⟨j, hj, rfl⟩ := q
    have := hw.2.fix h2 hf hj he
    constructor
    · intro z
      have z1 := this.mp z
      exact ⟨(Kp_isD hj z1).2, fun j' hj' e' => by rw [r4 j' j hj' hj e']; exact z1⟩
    · rintro ⟨_, z⟩
      exact this.mpr (z j hj rfl)
  · have hn : ∀ j, j < rl R k → rc R k j ≠ a := fun j hj z => q ⟨j, hj, z⟩
    rw [hw.1 a ha hn e he]
    exact ⟨fun z => ⟨z, fun j hj e' => absurd e' (hn j hj)⟩, fun z => z.1⟩
/-- the end of a constraint's deduction -/
theorem a3_end {h0 h' : PH} {mo x : Nat} {R : RT} {K : Nat → Nat → Bool} {P : Nat → Bool} {kd : Nat} {pl : Int32} {w k : Nat} (hw : rk R k = w) (h2 : 2 ≤ rl R k) (H : MS h0 h' mo x R K kd pl (sift R K k) P) {o : Option (Int32 × PH)} (ho : o = bnd (gI h' mo 10 8) fun x1 => if x1 ≤ (0 : Int32) then some (0, h') else some (1, h')) :
    (¬ a3 R K w k ∧ NoD h0 mo x R K kd pl K P o) ∨ (a3 R K w k ∧ ∃ h', o = some (1, h') ∧ MS h0 h' mo x R K kd pl (sift R K k) P) := by
  obtain ⟨rm, g1, g2⟩ := H.rem
  have hb := tot_le K
  rw [g1, bnd_s] at ho
  by_cases q : rm = 0
  · left
    refine ⟨fun z => by have := z.2.2; omega, h', ?_, H.x (tot_eq sift_le (by omega)) (fun _ _ => rfl)⟩
    rw [ho, q]
    exact if_pos (by decide)
  · right
    refine ⟨⟨hw, h2, by omega⟩, h', ?_, H⟩
    rw [ho, if_neg (show ¬ nI rm ≤ (0 : Int32) from nI_nle (n := rm) (by omega) (by omega))]
theorem m_therm {h0 h : PH} {mo x : Nat} {R : RT} {K : Nat → Nat → Bool} {P : Nat → Bool} {kd : Nat} {pl : Int32} (H : MS h0 h mo x R K kd pl K P) (hR : ROK R) {k : Nat} (hk : k < rn R) (hw : rk R k = 2) {F : Nat} (hF : 2000 ≤ F) :
    (¬ a3 R K 2 k ∧ NoD h0 mo x R K kd pl K P (f_Mo_thermometer F mo x (nI k) h)) ∨ (a3 R K 2 k ∧ ∃ h', f_Mo_thermometer F mo x (nI k) h = some (1, h') ∧ MS h0 h' mo x R K kd pl (sift R K k) P) := by
  obtain ⟨V, H0⟩ := H.mn
  obtain ⟨q1, q2, q3, q4⟩ := H0.k hR hk
  obtain ⟨r1, r2, r3, r4, r5⟩ := hR.2 k hk
  have h6 := mxl_le (rk R k)
  have key : ∀ M Kc g n, MS h0 g mo x R K kd pl Kc P → TS R K k Kc → tot Kc ≤ M → M + 2 ≤ n → ∃ h' m, MS h0 h' mo x R K kd pl (sift R K k) P ∧ f_Mo_thermometer_18 F n mo x (nI k) (nI (rl R k)) 1 g = f_Mo_thermometer_18 F (m + 1) mo x (nI k) (nI (rl R k)) 0 h' := by
    intro M
    induction M with
    | zero =>
      intro Kc g n g1 g2 g3 g4
      obtain ⟨n, rfl⟩ : ∃ m, n = m + 1 := ⟨n - 1, by omega⟩
      obtain ⟨rm, g5, g6⟩ := g1.rem
      obtain ⟨h', Kd, y1, y2, c, y3, y4, y5⟩ := m_tround g1 hR hk g2 g6 (F := F) (by omega) (f_Mo_thermometer_18 F n)
      cases c
      · refine ⟨h', n - 1, y1.x (TS.fix hR hk hw y2 (y5 rfl)) (fun _ _ => rfl), ?_⟩
        rw [f_Mo_thermometer_18, b_Mo_thermometer_18, if_neg (by decide), g5, bnd_s, y3, show n - 1 + 1 = n by omega]
        rfl
      · have := y4 rfl
        omega
    | succ M ih =>
      intro Kc g n g1 g2 g3 g4
      obtain ⟨n, rfl⟩ : ∃ m, n = m + 1 := ⟨n - 1, by omega⟩
      obtain ⟨rm, g5, g6⟩ := g1.rem
      obtain ⟨h', Kd, y1, y2, c, y3, y4, y5⟩ := m_tround g1 hR hk g2 g6 (F := F) (by omega) (f_Mo_thermometer_18 F n)
      cases c
      · refine ⟨h', n - 1, y1.x (TS.fix hR hk hw y2 (y5 rfl)) (fun _ _ => rfl), ?_⟩
        rw [f_Mo_thermometer_18, b_Mo_thermometer_18, if_neg (by decide), g5, bnd_s, y3, show n - 1 + 1 = n by omega]
        rfl
      · have := y4 rfl
        obtain ⟨h2, m, z1, z2⟩ := ih Kd h' n y1 y2 (by omega) (by omega)
        refine ⟨h2, m, z1, ?_⟩
        rw [f_Mo_thermometer_18, b_Mo_thermometer_18, if_neg (by decide), g5, bnd_s, y3]
        exact z2
  have hb := tot_le K
  unfold f_Mo_thermometer
  rw [H0.ck, bnd_s, q2, bnd_s]
  by_cases w : rl R k ≤ 1
  · left
    obtain ⟨rm, g5, g6⟩ := H.rem
    have h0 : rm = 0 := by omega
    refine ⟨fun z => by have := z.2.1; omega, h, ?_, H⟩
    rw [if_pos (show nI (rl R k) ≤ (1 : Int32) from nI_le (a := (rl R k)) (b := 1) (by omega) (by omega)), b_Mo_thermometer_16]
    obtain ⟨n, rfl⟩ : ∃ m, F = m + 1 := ⟨F - 1, by omega⟩
    rw [f_Mo_thermometer_18, b_Mo_thermometer_18, if_pos rfl, g5, bnd_s, h0]
    exact if_pos (by decide)
  · obtain ⟨h', m, y1, y2⟩ := key (tot K) K h F H ⟨fun _ _ _ _ _ => rfl, fun _ _ _ _ z => z, fun v hv j hj => (hv.1 j hj).2⟩ (Nat.le_refl _) (by omega)
    rw [if_neg (show ¬ nI (rl R k) ≤ (1 : Int32) from nI_ge (a := 1) (b := (rl R k)) (by omega) (by omega)), b_Mo_thermometer_16, y2]
    exact a3_end hw (by omega) y1 (by rw [f_Mo_thermometer_18, b_Mo_thermometer_18, if_pos rfl])
