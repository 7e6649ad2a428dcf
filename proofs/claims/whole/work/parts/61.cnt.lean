/-! How many solutions; deductions end. -/
theorem smN_z : ∀ k, smN (fun _ => 0) k = 0 := by
  intro k
  induction k with
  | zero => rfl
  | succ k ih => exact ih
theorem cnt_part2 (p : Nat → Bool) (q : Nat → Nat → Nat → Bool) (a b : Nat) : ∀ k, (∀ N, N < k → (p N).toNat = smN (fun d => smN (fun c => (q d c N).toNat) a) b) → cnt p k = smN (fun d => smN (fun c => cnt (q d c) k) a) b := by
  intro k
  induction k with
  | zero =>
    intro _
    show 0 = _
    have : ∀ d, smN (fun c => cnt (q d c) 0) a = 0 := fun d => smN_z a
    rw [smN_ext (g := fun _ => 0) fun d _ => this d, smN_z]
  | succ k ih =>
    intro h
    rw [cnt_s, ih fun N hN => h N (by omega), h k (by omega), ← smN_add]
    apply smN_ext
    intro d _
    rw [← smN_add]
    apply smN_ext
    intro c _
    rw [cnt_s]
noncomputable def sbl (R : RT) (K : Nat → Nat → Bool) (N : Nat) : Bool := @decide (Sol R K (dg N)) (Classical.propDecidable _)
theorem sbl_t {R : RT} {K : Nat → Nat → Bool} {N : Nat} : sbl R K N = true ↔ Sol R K (dg N) := by
  unfold sbl
  rw [@decide_eq_true_iff _ (Classical.propDecidable _)]
def NC : Nat := 6 ^ 36
noncomputable def NS (R : RT) (K : Nat → Nat → Bool) : Nat := cnt (sbl R K) NC
theorem Sol_x {R : RT} (hR : ROK R) {K : Nat → Nat → Bool} {f g : Nat → Nat} (h : Sol R K f) (e : ∀ c, c < 36 → f c = g c) : Sol R K g := by
  refine ⟨fun c hc => by rw [← e c hc]; exact h.1 c hc, fun a b ha hb z => by rw [← e a ha, ← e b hb]; exact h.2.1 a b ha hb z, fun k hk h2 => ?_⟩
  exact Way_x (by omega) (fun i hi => e _ ((hR.2 k hk).2.2.1 i hi)) (h.2.2 k hk h2)
theorem Sol_code {R : RT} (hR : ROK R) {K : Nat → Nat → Bool} {f : Nat → Nat} (h : Sol R K f) : ∃ N, N < NC ∧ sbl R K N = true ∧ ∀ c, c < 36 → dg N c = f c := by
  obtain ⟨N, h1, h2⟩ := dg_ex 36 f fun i hi => (h.1 i hi).1
  exact ⟨N, h1, sbl_t.mpr (Sol_x hR h fun c hc => (h2 c hc).symm), h2⟩
theorem NS_congr {R : RT} {K L : Nat → Nat → Bool} (h : ∀ f, Sol R K f ↔ Sol R L f) : NS R K = NS R L := cnt_congr fun N _ => bool_i (by rw [sbl_t, sbl_t]; exact h _)
theorem NS_0 {R : RT} {K : Nat → Nat → Bool} (h : ∀ f, ¬ Sol R K f) : NS R K = 0 := cnt_0.mpr fun N _ => by
  cases q : sbl R K N
  · rfl
  · exact absurd (sbl_t.mp q) (h _)
theorem NS_1 {R : RT} (hR : ROK R) {K : Nat → Nat → Bool} {f : Nat → Nat} (h : Sol R K f) (hu : ∀ g, Sol R K g → ∀ c, c < 36 → g c = f c) : NS R K = 1 := by
  obtain ⟨N, h1, h2, h3⟩ := Sol_code hR h
  exact cnt_1.mpr ⟨N, h1, h2, fun M hM z => dg_inj 36 M N hM h1 fun i hi => (hu _ (sbl_t.mp z) i hi).trans (h3 i hi).symm⟩
theorem NS_ex {R : RT} {K : Nat → Nat → Bool} (h : NS R K ≠ 0) : ∃ f, Sol R K f := by
  apply Classical.byContradiction
  intro q
  exact h (NS_0 fun f z => q ⟨f, z⟩)
/-- one cell keeps one digit -/
def kpO (K : Nat → Nat → Bool) (c d : Nat) : Nat → Nat → Bool := fun a e => K a e && decide (a = c → e = d)
theorem kpO_sub {K : Nat → Nat → Bool} {c d : Nat} : ∀ a, a < 36 → ∀ e, isD e = true → kpO K c d a e = true → K a e = true := fun a _ e _ z => by
  unfold kpO at z
  rw [Bool.and_eq_true] at z
  exact z.1
theorem kpO_sol {R : RT} {K : Nat → Nat → Bool} {c d : Nat} (hc : c < 36) (f : Nat → Nat) : Sol R (kpO K c d) f ↔ Sol R K f ∧ f c = d := by
  constructor
  · intro h
    refine ⟨h.mono kpO_sub, ?_⟩
    have := (h.1 c hc).2
    unfold kpO at this
    simp only [Bool.and_eq_true, decide_eq_true_iff] at this
    exact this.2 trivial
  · rintro ⟨h1, h2⟩
    refine h1.cut fun a ha => ?_
    unfold kpO
    rw [(h1.1 a ha).2]
    by_cases q : a = c
    · subst q; simp [h2]
    · simp [q]
/-- a place to branch: each solution takes just one of the ways -/
def Bra (R : RT) (K : Nat → Nat → Bool) (S M : Nat → Bool) : Prop := ∀ f, Sol R K f → ∃ c, c < 36 ∧ S c = true ∧ M (f c) = true ∧ ∀ e, e < 36 → S e = true → M (f e) = true → e = c
noncomputable def bsum (R : RT) (K : Nat → Nat → Bool) (S M : Nat → Bool) : Nat := smN (fun d => smN (fun c => if isD d && M d && (S c && K c d) then NS R (kpO K c d) else 0) 36) 7
theorem NS_bra {R : RT} (hR : ROK R) {K : Nat → Nat → Bool} {S M : Nat → Bool} (hB : Bra R K S M) : NS R K = bsum R K S M := by
  unfold NS bsum
  have h := cnt_part2 (sbl R K) (fun d c N => (isD d && M d && (S c && K c d)) && sbl R (kpO K c d) N) 36 7 NC fun N _ => by
    cases q : sbl R K N
    · have : ∀ d, d < 7 → smN (fun c => ((isD d && M d && (S c && K c d)) && sbl R (kpO K c d) N).toNat) 36 = 0 := by
        intro d _
        rw [smN_ext (g := fun _ => 0) fun c hc => ?_, smN_z]
        have : sbl R (kpO K c d) N = false := by
          cases w : sbl R (kpO K c d) N
          · rfl
          · have := sbl_t.mpr ((kpO_sol hc _).mp (sbl_t.mp w)).1
            rw [q] at this
            cases this
        rw [this]
        simp
      rw [smN_ext (g := fun _ => 0) this, smN_z]
      rfl
    · have hs := sbl_t.mp q
      obtain ⟨c, h1, h2, h3, h4⟩ := hB _ hs
      have hd := (hs.1 c h1).1
      have hk := (hs.1 c h1).2
      rw [smN_one (j := dg N c) (isD_b hd).2 fun d hd' hn => ?_]
      · rw [smN_one (j := c) h1 fun e he hn => ?_]
        · have : sbl R (kpO K c (dg N c)) N = true := sbl_t.mpr ((kpO_sol h1 _).mpr ⟨hs, rfl⟩)
          rw [this, hd, h3, h2, hk]
          rfl
        · cases w : ((isD (dg N c) && M (dg N c) && (S e && K e (dg N c))) && sbl R (kpO K e (dg N c)) N)
          · rfl
          · simp only [Bool.and_eq_true] at w
            have e1 := ((kpO_sol he _).mp (sbl_t.mp w.2)).2
            exact absurd (h4 e he w.1.2.1 (by rw [e1]; exact w.1.1.2)) hn
      · rw [smN_ext (g := fun _ => 0) fun e he => ?_, smN_z]
        cases w : ((isD d && M d && (S e && K e d)) && sbl R (kpO K e d) N)
        · rfl
        · simp only [Bool.and_eq_true] at w
          have e1 := ((kpO_sol he _).mp (sbl_t.mp w.2)).2
          have e2 := h4 e he w.1.2.1 (by rw [e1]; exact w.1.1.2)
          subst e2
          exact absurd e1.symm hn
  rw [h]
  apply smN_ext
  intro d _
  apply smN_ext
  intro c _
  cases q : isD d && M d && (S c && K c d)
  · exact cnt_0.mpr fun N _ => by simp
  · exact cnt_congr fun N _ => by simp
theorem bra_cell {R : RT} {K : Nat → Nat → Bool} {c : Nat} (hc : c < 36) : Bra R K (fun e => decide (e = c)) fun _ => true := fun f _ => ⟨c, hc, by simp, rfl, fun e _ z _ => by simpa using z⟩
theorem bra_unit {R : RT} {K : Nat → Nat → Bool} {u d : Nat} (hu : u < 18) (hd : isD d = true) : Bra R K (fun e => K e d && inU u e) fun e => decide (e = d) := fun f h => by
  obtain ⟨c, hc, h1, h2⟩ := h.has hu hd
  refine ⟨c, hc, ?_, decide_eq_true h2, fun e he z1 z2 => ?_⟩
  · have := (h.1 c hc).2
    rw [h2] at this
    simp [h1, this]
  · rw [Bool.and_eq_true] at z1
    have z3 : f e = d := by simpa using z2
    apply Classical.byContradiction
    intro n
    exact h.ne hu he hc z1.2 h1 n (z3.trans h2.symm)
/-- what a deduction takes away, and what a placed cell counts -/
def mea (K : Nat → Nat → Bool) (P : Nat → Bool) : Nat := tot K + cnt (fun c => !P c) 36
theorem mea_le (K : Nat → Nat → Bool) (P : Nat → Bool) : mea K P ≤ 252 := by
  have := tot_le K
  have := cnt_neg (fun c => !P c) 36
  unfold mea
  omega
theorem cnt_lt {p q : Nat → Bool} {j : Nat} : ∀ {k : Nat}, (∀ i, i < k → p i = true → q i = true) → j < k → p j = false → q j = true → cnt p k < cnt q k := by
  intro k h hj hp hq
  rw [← smN_cnt, ← smN_cnt]
  refine smN_lt (fun i hi => ?_) ⟨j, hj, by rw [hp, hq]; decide⟩
  cases w : p i
  · exact Nat.zero_le _
  · rw [h i hi w]; exact Nat.le_refl _
theorem tot_lt {K L : Nat → Nat → Bool} (h : ∀ a, a < 36 → ∀ e, isD e = true → K a e = true → L a e = true) {c d : Nat} (hc : c < 36) (hd : isD d = true) (h1 : L c d = true) (h2 : K c d = false) : tot K < tot L := smN_lt (fun c hc => sz_mono (h c hc)) ⟨c, hc, sz_lt (h c hc) hd h1 h2⟩
theorem NX_mea {R : RT} {K : Nat → Nat → Bool} {P : Nat → Bool} {kd pl : Nat} {K' : Nat → Nat → Bool} {P' : Nat → Bool} (h : NX R K P kd pl K' P') (hk : kd ≠ 0) : mea K' P' < mea K P := by
  have hs := NX_sub h
  have ht := tot_mono hs
  unfold mea
  rcases h with ⟨e, _⟩ | ⟨_, h⟩
  · exact absurd e hk
  rcases h with ⟨_, h1, h2, _, _, e'⟩ | ⟨_, e', h⟩
  · subst e'
    have : cnt (fun c => !pl1 P pl c) 36 < cnt (fun c => !P c) 36 := cnt_lt (j := pl) (fun i _ z => by
      unfold pl1 at z
      cases q : P i
      · rfl
      · simp [q] at z) h1 (by unfold pl1; simp) (by simp [h2.1])
    omega
  subst e'
  have key : tot K' < tot K := by
    rcases h with ⟨_, h1, _, d', hd, ⟨c, ho, hz⟩, _, e⟩ | ⟨_, h⟩
    · subst e
      obtain ⟨e, he, w1, w2⟩ : ∃ e, isD e = true ∧ K c e = true ∧ e ≠ d' := by
        apply Classical.byContradiction
        intro z
        have : sz (K c) = 1 := sz_1.mpr ⟨d', hd, ho.2.2.1, fun e he w => by
          apply Classical.byContradiction
          intro n
          exact z ⟨e, he, w, n⟩⟩
        omega
      exact tot_lt hs ho.1 he w1 (by unfold k2; simp [ho.2.1, ho.2.2.1, w2])
    rcases h with ⟨_, _, h2, _, e⟩ | ⟨_, h⟩
    · subst e; exact h2.2.2
    rcases h with ⟨_, _, h2, _, e⟩ | ⟨_, h⟩
    · subst e; exact h2.2.2
    rcases h with ⟨_, _, h2, _, e⟩ | ⟨_, h⟩
    · subst e; exact h2.2.2
    rcases h with ⟨_, _, _, l, d', hl, hd, ha, _, _, e⟩ | ⟨_, _, h1, _, a, b, ha, _, _, e⟩
    · subst e
      rcases ha.2 with ⟨_, _, c, x1, x2, x3, x4⟩ | ⟨_, _, c, x1, x2, x3, x4⟩
      · exact tot_lt hs x1 hd x4 (by unfold k6; simp [x2, x3])
      · exact tot_lt hs x1 hd x4 (by unfold k6; simp [x2, x3])
    · subst e
      obtain ⟨_, _, _, _, _, _, c, d, x1, x2, x3, x4, x5, x6, x7⟩ := ha
      exact tot_lt hs x1 x5 x7 (by unfold k7; simp [x2, x3, x4, x6])
  omega
