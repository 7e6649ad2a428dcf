/-! The reference: dead, solved, peers, units. -/
theorem cZ_b (b : Bool) : cZ (if b then 1 else 0) = some () := by cases b <;> rfl
theorem m_isDead {h : PH} {mo x : Nat} {V : Nat → Value} {R : RT} {K : Nat → Nat → Bool} {P : Nat → Bool} (H : MN h mo x V R K P) {F : Nat} (hF : 40 ≤ F) : f_Mo_isDead F x h = some (if dd K then 1 else 0) := by
  obtain ⟨s, ⟨b, e, hb⟩, h1⟩ := LC (fun n i (s : Int32) => f_Mo_isDead_4 F n x s (nI i) h) (fun i s => ∃ b : Bool, s = (if b then 1 else 0) ∧ (b = true ↔ ∃ c, c < i ∧ sz (K c) = 0)) 36
    (fun n i s hi ⟨b, e, hb⟩ => by
      subst e
      refine ⟨if (b || decide (sz (K i) = 0)) then 1 else 0, ⟨_, rfl, ?_⟩, ?_⟩
      · rw [Bool.or_eq_true, hb, decide_eq_true_iff]
        constructor
        · rintro (⟨c, h1, h2⟩ | h1)
          · exact ⟨c, by omega, h2⟩
          · exact ⟨i, by omega, h1⟩
        · rintro ⟨c, h1, h2⟩
          by_cases q : c = i
          · subst q; exact Or.inr h2
          · exact Or.inl ⟨c, by omega, h2⟩
      · show f_Mo_isDead_4 F (n + 1) x _ (nI i) h = _
        rw [f_Mo_isDead_4, b_Mo_isDead_4, if_neg (show ¬ (36 : Int32) ≤ nI i from nI_ge (a := (i)) (b := 36) (by omega) (by omega))]
        cases b
        · rw [if_pos (by rfl), (H.g hi).1, bnd_s]
          by_cases q : sz (K i) = 0
          · rw [if_pos (nmkd_z.mpr q), b_Mo_isDead_20, b_Mo_isDead_25, nI_1, decide_eq_true q]; rfl
          · rw [if_neg (fun z => q (nmkd_z.mp z)), b_Mo_isDead_25, nI_1, decide_eq_false q]; rfl
        · rw [if_neg (by decide), b_Mo_isDead_20, b_Mo_isDead_25, nI_1]; rfl) 36 0 0 F rfl (by omega) ⟨false, rfl, by simp⟩
  obtain ⟨m, hm⟩ : ∃ m, F - 36 = m + 1 := ⟨F - 37, by omega⟩
  have hd : b = dd K := by
    cases q : dd K
    · cases b
      · rfl
      · obtain ⟨c, h1, h2⟩ := hb.mp rfl
        exact absurd h2 (dd_f.mp q c h1)
    · cases q2 : b
      · exfalso
        have : dd K = false := dd_f.mpr fun c hc z => by
          have := hb.mpr ⟨c, hc, z⟩
          rw [q2] at this
          cases this
        rw [q] at this
        cases this
      · rfl
  unfold f_Mo_isDead
  refine Eq.trans h1 ?_
  show f_Mo_isDead_4 F (F - 36) x s (nI 36) h = _
  rw [hm, f_Mo_isDead_4, b_Mo_isDead_4, if_pos (show (36 : Int32) ≤ nI 36 from nI_le (a := 36) (b := 36) (by omega) (by omega)), e, cZ_b, bnd_s, hd]
theorem cnt_s (p : Nat → Bool) (k : Nat) : cnt p (k + 1) = cnt p k + (p k).toNat := by
  rw [cnt]
  cases p k <;> rfl
theorem cnt_neg (p : Nat → Bool) : ∀ k, cnt p k + cnt (fun c => !p c) k = k := by
  intro k
  induction k with
  | zero => rfl
  | succ k ih =>
    rw [cnt_s, cnt_s]
    cases p k <;> simp <;> omega
theorem m_placed {h : PH} {mo x : Nat} {V : Nat → Value} {R : RT} {K : Nat → Nat → Bool} {P : Nat → Bool} (H : MN h mo x V R K P) {F : Nat} (hF : 40 ≤ F) : f_Mo_placedMany F x h = some (nI (cnt P 36)) := by
  obtain ⟨s, e, h1⟩ := LC (fun n i (s : Int32) => f_Mo_placedMany_4 F n x s (nI i) h) (fun i s => s = nI (cnt P i)) 36
    (fun n i s hi e => by
      subst e
      refine ⟨_, rfl, ?_⟩
      show f_Mo_placedMany_4 F (n + 1) x _ (nI i) h = _
      rw [f_Mo_placedMany_4, b_Mo_placedMany_4, if_neg (show ¬ (36 : Int32) ≤ nI i from nI_ge (a := (i)) (b := 36) (by omega) (by omega)), (H.g hi).2, bnd_s, nI_add, nI_1, cnt_s]) 36 0 0 F rfl (by omega) rfl
  obtain ⟨m, hm⟩ : ∃ m, F - 36 = m + 1 := ⟨F - 37, by omega⟩
  unfold f_Mo_placedMany
  refine Eq.trans h1 ?_
  show f_Mo_placedMany_4 F (F - 36) x s (nI 36) h = _
  rw [hm, f_Mo_placedMany_4, b_Mo_placedMany_4, if_pos (show (36 : Int32) ≤ nI 36 from nI_le (a := 36) (b := 36) (by omega) (by omega)), e]
theorem m_isSolved {h : PH} {mo x : Nat} {V : Nat → Value} {R : RT} {K : Nat → Nat → Bool} {P : Nat → Bool} (H : MN h mo x V R K P) {F : Nat} (hF : 40 ≤ F) : f_Mo_isSolved F x h = some (if fin36 K P then 1 else 0) := by
  unfold f_Mo_isSolved fin36
  have hn := cnt_neg P 36
  rw [m_placed H hF, bnd_s]
  by_cases q : cnt P 36 = 36
  · rw [if_pos (show nI (cnt P 36) = (36 : Int32) from congrArg nI q), m_isDead H hF, bnd_s, decide_eq_true (show cnt (fun c => !P c) 36 = 0 by omega)]
    cases dd K
    · rw [if_pos (by rfl)]; rfl
    · rw [if_neg (by decide)]; rfl
  · rw [if_neg (show ¬ nI (cnt P 36) = (36 : Int32) from fun z => q ((nI_eq (a := cnt P 36) (b := 36) (by omega) (by omega)).mp z)), decide_eq_false (show ¬ cnt (fun c => !P c) 36 = 0 by omega)]
    rfl
theorem m_contains {h : PH} {mo x : Nat} {V : Nat → Value} {R : RT} {K : Nat → Nat → Bool} {P : Nat → Bool} (H : MN h mo x V R K P) (hR : ROK R) {k c : Nat} (hk : k < rn R) (hc : c < 36) {F : Nat} (hF : 40 ≤ F) : f_Mo_contains F mo (nI k) (nI c) h = some (if mem R k c then 1 else 0) := by
  obtain ⟨k1, k2, k3, k4⟩ := H.k hR hk
  obtain ⟨r1, r2, r3, r4, r5⟩ := hR.2 k hk
  have h6 := mxl_le (rk R k)
  obtain ⟨s, ⟨b, e, hb⟩, h1⟩ := LC (fun n i (s : Int32) => f_Mo_contains_5 F n mo (nI k) (nI c) s (nI i) h) (fun i s => ∃ b : Bool, s = (if b then 1 else 0) ∧ (b = true ↔ ∃ j, j < i ∧ rc R k j = c)) (rl R k)
    (fun n i s hi ⟨b, e, hb⟩ => by
      subst e
      have hc' := r3 i hi
      refine ⟨if (b || decide (rc R k i = c)) then 1 else 0, ⟨_, rfl, ?_⟩, ?_⟩
      · rw [Bool.or_eq_true, hb, decide_eq_true_iff]
        constructor
        · rintro (⟨c, h1, h2⟩ | h1)
          · exact ⟨c, by omega, h2⟩
          · exact ⟨i, by omega, h1⟩
        · rintro ⟨j, h1, h2⟩
          by_cases q : j = i
          · subst q; exact Or.inr h2
          · exact Or.inl ⟨j, by omega, h2⟩
      · show f_Mo_contains_5 F (n + 1) mo (nI k) (nI c) _ (nI i) h = _
        rw [f_Mo_contains_5, b_Mo_contains_5, H.ck, bnd_s, k2, bnd_s, if_neg (show ¬ nI (rl R k) ≤ nI i from nI_ge (a := (i)) (b := (rl R k)) (by omega) (by omega))]
        cases b
        · rw [if_pos (by rfl), bnd_s, k4 i hi, bnd_s]
          by_cases q : rc R k i = c
          · rw [if_pos (congrArg nI q), b_Mo_contains_30, b_Mo_contains_35, nI_1, decide_eq_true q]; rfl
          · rw [if_neg (fun z => q ((nI_eq (by omega) (by omega)).mp z)), b_Mo_contains_35, nI_1, decide_eq_false q]; rfl
        · rw [if_neg (by decide), b_Mo_contains_30, b_Mo_contains_35, nI_1]; rfl) (rl R k) 0 0 F (by omega) (by omega) ⟨false, rfl, by simp⟩
  obtain ⟨m, hm⟩ : ∃ m, F - rl R k = m + 1 := ⟨F - rl R k - 1, by omega⟩
  have hd : b = mem R k c := bool_i (hb.trans mem_t.symm)
  unfold f_Mo_contains
  refine Eq.trans h1 ?_
  show f_Mo_contains_5 F (F - rl R k) mo (nI k) (nI c) s (nI (rl R k)) h = _
  rw [hm, f_Mo_contains_5, b_Mo_contains_5, H.ck, bnd_s, k2, bnd_s, if_pos (show nI (rl R k) ≤ nI (rl R k) from nI_le (by omega) (by omega)), e, cZ_b, bnd_s, hd]
theorem m_boxOf : ∀ c, c < 36 → f_Mo_boxOf (nI c) = some (nI (2 * (c / 12) + c % 6 / 3)) := by decide +kernel
theorem m_isIn : ∀ u, u < 18 → ∀ c, c < 36 → f_Mo_isIn (nI u) (nI c) = some (if inU u c then 1 else 0) := by decide +kernel
/-- the i-th cell of a unit -/
def ceU (u i : Nat) : Nat := if u < 6 then 6 * u + i else if u < 12 then 6 * i + u - 6 else 6 * (2 * ((u - 12) / 2) + i / 3) + 3 * ((u - 12) % 2) + i % 3
theorem m_cellIn : ∀ u, u < 18 → ∀ i, i < 6 → f_Mo_cellIn (nI u) (nI i) = some (nI (ceU u i)) := by decide +kernel
theorem ceU_lt : ∀ u, u < 18 → ∀ i, i < 6 → ceU u i < 36 := by decide +kernel
theorem ceU_in : ∀ u, u < 18 → ∀ i, i < 6 → inU u (ceU u i) = true := by decide +kernel
theorem ceU_mo : ∀ u, u < 18 → ∀ i, i < 6 → ∀ j, j < i → ceU u j < ceU u i := by decide +kernel
theorem ceU_ex0 : ∀ u, u < 18 → ∀ c, c < 36 → inU u c = true → ceU u 0 = c ∨ ceU u 1 = c ∨ ceU u 2 = c ∨ ceU u 3 = c ∨ ceU u 4 = c ∨ ceU u 5 = c := by decide +kernel
theorem ceU_ex {u c : Nat} (hu : u < 18) (hc : c < 36) (h : inU u c = true) : ∃ i, i < 6 ∧ ceU u i = c := by
  rcases ceU_ex0 u hu c hc h with q | q | q | q | q | q
  · exact ⟨0, by omega, q⟩
  · exact ⟨1, by omega, q⟩
  · exact ⟨2, by omega, q⟩
  · exact ⟨3, by omega, q⟩
  · exact ⟨4, by omega, q⟩
  · exact ⟨5, by omega, q⟩
theorem ceU_inj {u i j : Nat} (hu : u < 18) (hi : i < 6) (hj : j < 6) (h : ceU u i = ceU u j) : i = j := by
  rcases Nat.lt_trichotomy i j with q | q | q
  · have := ceU_mo u hu j hj i q; omega
  · exact q
  · have := ceU_mo u hu i hi j q; omega
theorem m_peers {h : PH} {mo x : Nat} {V : Nat → Value} {R : RT} {K : Nat → Nat → Bool} {P : Nat → Bool} (H : MN h mo x V R K P) (hR : ROK R) {a b : Nat} (ha : a < 36) (hb : b < 36) {F : Nat} (hF : 40 ≤ F) : f_Mo_arePeers F mo (nI a) (nI b) h = some (if peer R a b then 1 else 0) := by
  have h8 := hR.1
  have hloop : ∀ u : Bool, f_Mo_arePeers_42 F F mo (nI a) (nI b) (if u then 1 else 0) 0 h = some (if (u || cag R a b) && !decide (a = b) then 1 else 0) := by
    intro u
    have h99 : ∀ w : Bool, b_Mo_arePeers_99 F (nI a) (nI b) (if w then 1 else 0) h = some (if w && !decide (a = b) then 1 else 0) := by
      intro w
      unfold b_Mo_arePeers_99
      cases w
      · rw [if_pos (by rfl)]; rfl
      · rw [if_neg (by decide)]
        by_cases q : a = b
        · rw [if_pos (congrArg nI q)]; simp [q]
        · rw [if_neg (fun z => q ((nI_eq (by omega) (by omega)).mp z))]; simp [q]
    obtain ⟨j, s, j1, j2, ⟨w, e, hw⟩, j4, h1⟩ := LE (fun n i (s : Int32) => f_Mo_arePeers_42 F n mo (nI a) (nI b) s (nI i) h) (fun i s => ∃ w : Bool, s = (if w then 1 else 0) ∧ (w = true ↔ u = true ∨ ∃ k, k < i ∧ rk R k = 0 ∧ mem R k a = true ∧ mem R k b = true)) (fun i s => s = 1) (rn R)
      (fun n i s hi ⟨w, e, hw⟩ => by
        cases w
        rotate_left
        · exact Or.inl e
        right
        obtain ⟨k1, k2, k3, k4⟩ := H.k hR hi
        have hr3 := (hR.2 i hi).1
        refine ⟨if (decide (rk R i = 0) && mem R i a && mem R i b) then 1 else 0, ⟨_, rfl, ?_⟩, ?_⟩
        · simp only [Bool.and_eq_true, decide_eq_true_iff]
          constructor
          · rintro ⟨⟨z1, z2⟩, z3⟩
            exact Or.inr ⟨i, by omega, z1, z2, z3⟩
          · rintro (z | ⟨k, z0, z1, z2, z3⟩)
            · have := hw.mpr (Or.inl z)
              cases this
            · by_cases q : k = i
              · subst q; exact ⟨⟨z1, z2⟩, z3⟩
              · have := hw.mpr (Or.inr ⟨k, by omega, z1, z2, z3⟩)
                cases this
        · show f_Mo_arePeers_42 F (n + 1) mo (nI a) (nI b) s (nI i) h = _
          rw [f_Mo_arePeers_42, b_Mo_arePeers_42, H.n.1, bnd_s, H.n.2, bnd_s, if_neg (show ¬ nI (rn R) ≤ nI i from nI_ge (a := (i)) (b := (rn R)) (by omega) (by omega)), e, if_pos (by rfl), H.ck, bnd_s, k1, bnd_s]
          by_cases q : rk R i = 0
          · rw [if_pos (show nI (rk R i) = (0 : Int32) from congrArg nI q), bnd_s, m_contains H hR hi ha hF, bnd_s, decide_eq_true q]
            cases q1 : mem R i a
            · rw [if_pos (by rfl), b_Mo_arePeers_91, b_Mo_arePeers_92, nI_1]; rfl
            · rw [if_neg (by decide), bnd_s, m_contains H hR hi hb hF, bnd_s]
              cases q2 : mem R i b
              · rw [if_pos (by rfl), b_Mo_arePeers_91, b_Mo_arePeers_92, nI_1]; rfl
              · rw [if_neg (by decide), b_Mo_arePeers_92, nI_1]; rfl
          · rw [if_neg (show ¬ nI (rk R i) = (0 : Int32) from fun z => q ((nI_eq (a := rk R i) (b := 0) (by omega) (by omega)).mp z)), b_Mo_arePeers_91, b_Mo_arePeers_92, nI_1, decide_eq_false q]; rfl) (rn R) 0 (if u then 1 else 0) F (by omega) (by omega) ⟨u, rfl, by simp⟩
    obtain ⟨m, hm⟩ : ∃ m, F - (j - 0) = m + 1 := ⟨F - (j - 0) - 1, by omega⟩
    refine Eq.trans h1 ?_
    show f_Mo_arePeers_42 F (F - (j - 0)) mo (nI a) (nI b) s (nI j) h = _
    rw [hm, f_Mo_arePeers_42, b_Mo_arePeers_42, H.n.1, bnd_s, H.n.2, bnd_s]
    by_cases q : j < rn R
    · have hs := j4 q
      have hw1 : w = true := by
        cases w
        · rw [e] at hs; exact absurd hs (by decide)
        · rfl
      have hu : (u || cag R a b) = true := by
        rw [Bool.or_eq_true, cag_t]
        rcases hw.mp hw1 with z | ⟨k, z0, z1⟩
        · exact Or.inl z
        · exact Or.inr ⟨k, by omega, z1⟩
      rw [if_neg (show ¬ nI (rn R) ≤ nI j from nI_ge (a := (j)) (b := (rn R)) (by omega) (by omega)), hs, if_neg (by decide), hu]
      exact h99 true
    · have hj : j = rn R := by omega
      subst hj
      rw [if_pos (show nI (rn R) ≤ nI (rn R) from nI_le (by omega) (by omega)), e, h99]
      have : w = (u || cag R a b) := bool_i (by rw [Bool.or_eq_true, cag_t]; exact hw)
      rw [this]
  unfold f_Mo_arePeers peer
  have e1 : ∀ c, c < 36 → nI c / (6 : Int32) = nI (c / 6) := fun c hc => pk_div (a := c) (d := 6) (by omega) (by omega) (by omega)
  have e2 : ∀ c, c < 36 → nI c - nI (c / 6) * (6 : Int32) = nI (c % 6) := fun c hc => by
    have := pk_rem (a := c) (d := 6) (by omega) (by omega) (by omega)
    rw [← e1 c hc]
    exact this
  have hU : ∀ u : Bool, u = (decide (a / 6 = b / 6) || decide (a % 6 = b % 6) || decide (2 * (a / 12) + a % 6 / 3 = 2 * (b / 12) + b % 6 / 3)) → ((u || cag R a b) && !decide (a = b)) = ((upr a b || cag R a b) && !decide (a = b)) := by
    intro u hu
    unfold upr
    rw [← hu]
    cases u <;> cases cag R a b <;> cases decide (a = b) <;> rfl
  rw [e1 a ha, e1 b hb]
  by_cases q1 : a / 6 = b / 6
  · rw [if_pos (congrArg nI q1), b_Mo_arePeers_33, b_Mo_arePeers_38]
    exact (hloop true).trans (by rw [hU true (by simp [q1])])
  rw [if_neg (fun z => q1 ((nI_eq (by omega) (by omega)).mp z)), e2 a ha, e2 b hb]
  by_cases q2 : a % 6 = b % 6
  · rw [if_pos (congrArg nI q2), b_Mo_arePeers_33, b_Mo_arePeers_38]
    exact (hloop true).trans (by rw [hU true (by simp [q2])])
  rw [if_neg (fun z => q2 ((nI_eq (by omega) (by omega)).mp z)), m_boxOf a ha, bnd_s, m_boxOf b hb, bnd_s]
  by_cases q3 : 2 * (a / 12) + a % 6 / 3 = 2 * (b / 12) + b % 6 / 3
  · rw [if_pos (congrArg nI q3), b_Mo_arePeers_33, b_Mo_arePeers_38]
    exact (hloop true).trans (by rw [hU true (by simp [q3])])
  · rw [if_neg (fun z => q3 ((nI_eq (by omega) (by omega)).mp z)), b_Mo_arePeers_38]
    exact (hloop false).trans (by rw [hU false (by simp [q1, q2, q3])])
