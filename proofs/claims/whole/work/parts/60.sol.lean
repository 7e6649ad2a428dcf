/-! Solutions; deductions keep them. -/
def Sol (R : RT) (K : Nat → Nat → Bool) (f : Nat → Nat) : Prop :=
  (∀ c, c < 36 → isD (f c) = true ∧ K c (f c) = true) ∧ (∀ a b, a < 36 → b < 36 → upr a b = true → f a ≠ f b) ∧ ∀ k, k < rn R → 2 ≤ rl R k → Way R k fun j => f (rc R k j)
theorem upr_in {u a b : Nat} (hu : u < 18) (ha : a < 36) (hb : b < 36) (h1 : inU u a = true) (h2 : inU u b = true) (n : a ≠ b) : upr a b = true := (upr_u ha hb).mpr ⟨n, u, hu, h1, h2⟩
theorem Sol.ne {R : RT} {K : Nat → Nat → Bool} {f : Nat → Nat} (h : Sol R K f) {u a b : Nat} (hu : u < 18) (ha : a < 36) (hb : b < 36) (h1 : inU u a = true) (h2 : inU u b = true) (n : a ≠ b) : f a ≠ f b := h.2.1 a b ha hb (upr_in hu ha hb h1 h2 n)
/-- six different digits are all six -/
theorem six_all {v : Nat → Nat} (hv : ∀ i, i < 6 → isD (v i) = true) (hn : ∀ i j, i < 6 → j < i → v i ≠ v j) {d : Nat} (hd : isD d = true) : ∃ i, i < 6 ∧ v i = d := by
  have key : ∀ k, k ≤ 6 → ∃ p : Nat → Bool, sz p = k ∧ ∀ e, isD e = true → (p e = true ↔ ∃ i, i < k ∧ v i = e) := by
    intro k
    induction k with
    | zero => intro _; exact ⟨fun _ => false, rfl, fun e _ => by simp⟩
    | succ k ih =>
      intro hk
      obtain ⟨p, h1, h2⟩ := ih (by omega)
      refine ⟨fun e => p e || decide (e = v k), ?_, fun e he => ?_⟩
      · have hs := sz_split (fun e => p e || decide (e = v k)) p
        have e1 : sz (fun d => (p d || decide (d = v k)) && p d) = sz p := sz_ext fun e _ => by cases p e <;> simp
        have hpk : p (v k) = false := by
          cases q : p (v k)
          · rfl
          · obtain ⟨i, hi, hq⟩ := (h2 (v k) (hv k (by omega))).mp q
            exact absurd hq.symm (hn k i (by omega) hi)
        have e2 : sz (fun d => (p d || decide (d = v k)) && !p d) = 1 := sz_1.mpr ⟨v k, hv k (by omega), by simp [hpk], fun e _ z => by
          cases q : p e
          · simpa [q] using z
          · simp [q] at z⟩
        have hs' : sz (fun d => (p d || decide (d = v k)) && p d) + sz (fun d => (p d || decide (d = v k)) && !p d) = sz fun e => p e || decide (e = v k) := hs
        omega
      · rw [Bool.or_eq_true, decide_eq_true_iff, h2 e he]
        constructor
        · rintro (⟨i, hi, q⟩ | q)
          · exact ⟨i, by omega, q⟩
          · exact ⟨k, by omega, q.symm⟩
        · rintro ⟨i, hi, q⟩
          by_cases w : i = k
          · subst w; exact Or.inr q.symm
          · exact Or.inl ⟨i, by omega, q⟩
  obtain ⟨p, h1, h2⟩ := key 6 (Nat.le_refl 6)
  apply (h2 d hd).mp
  unfold sz at h1
  have g : ∀ b : Bool, b.toNat ≤ 1 := Bool.toNat_le
  have := g (p 1)
  have := g (p 2)
  have := g (p 3)
  have := g (p 4)
  have := g (p 5)
  have := g (p 6)
  have t : ∀ b : Bool, b.toNat = 1 → b = true := by decide
  rcases isD_c hd with rfl | rfl | rfl | rfl | rfl | rfl <;> exact t _ (by omega)
theorem Sol.has {R : RT} {K : Nat → Nat → Bool} {f : Nat → Nat} (h : Sol R K f) {u d : Nat} (hu : u < 18) (hd : isD d = true) : ∃ c, c < 36 ∧ inU u c = true ∧ f c = d := by
  obtain ⟨i, hi, q⟩ := six_all (v := fun i => f (ceU u i)) (fun i hi => (h.1 _ (ceU_lt u hu i hi)).1) (fun i j hi hj => h.ne hu (ceU_lt u hu i hi) (ceU_lt u hu j (by omega)) (ceU_in u hu i hi) (ceU_in u hu j (by omega)) (fun z => by
    have := ceU_mo u hu i hi j hj
    omega)) hd
  exact ⟨_, ceU_lt u hu i hi, ceU_in u hu i hi, q⟩
theorem Sol.cut {R : RT} {K L : Nat → Nat → Bool} {f : Nat → Nat} (h : Sol R K f) (hl : ∀ c, c < 36 → L c (f c) = true) : Sol R L f := ⟨fun c hc => ⟨(h.1 c hc).1, hl c hc⟩, h.2⟩
theorem Sol.mono {R : RT} {K L : Nat → Nat → Bool} {f : Nat → Nat} (h : Sol R L f) (hl : ∀ c, c < 36 → ∀ d, isD d = true → L c d = true → K c d = true) : Sol R K f := h.cut fun c hc => hl c hc _ (h.1 c hc).1 (h.1 c hc).2
theorem Sol.cag {R : RT} {K : Nat → Nat → Bool} {f : Nat → Nat} (h : Sol R K f) {a b : Nat} (hp : peer R a b = true) (ha : a < 36) (hb : b < 36) : f a ≠ f b := by
  unfold peer at hp
  rw [Bool.and_eq_true, Bool.or_eq_true, Bool.not_eq_true', decide_eq_false_iff_not] at hp
  rcases hp.1 with q | q
  · exact h.2.1 a b ha hb q
  · obtain ⟨k, hk, k0, m1, m2⟩ := cag_t.mp q
    obtain ⟨i, hi, e1⟩ := mem_t.mp m1
    obtain ⟨j, hj, e2⟩ := mem_t.mp m2
    have hij : i ≠ j := fun z => hp.2 (by rw [← e1, ← e2, z])
    have hw := (h.2.2 k hk (by omega)).1 k0
    rw [← e1, ← e2]
    rcases Nat.lt_or_ge i j with w | w
    · exact (hw.2 j i hj w).symm
    · exact hw.2 i j hi (by omega)
theorem sol_k1 {R : RT} {K : Nat → Nat → Bool} {P : Nat → Bool} {c : Nat} (hc : c < 36) (ha : a1 K P c) {f : Nat → Nat} (h : Sol R K f) : Sol R (k1 R K c) f := by
  refine h.cut fun e he => ?_
  unfold k1
  rw [(h.1 e he).2]
  cases q : peer R c e
  · rfl
  · obtain ⟨d, _, _, hu⟩ := sz_1.mp ha.2
    cases w : K c (f e)
    · rfl
    · have e1 := hu _ (h.1 e he).1 w
      have e2 := hu _ (h.1 c hc).1 (h.1 c hc).2
      exact absurd (e2.trans e1.symm) (h.cag q hc he)
theorem sol_k2 {R : RT} {K : Nat → Nat → Bool} {u d : Nat} (hu : u < 18) (hd : isD d = true) (ha : a2 K u d) {f : Nat → Nat} (h : Sol R K f) : Sol R (k2 K u d) f := by
  obtain ⟨c, ⟨o1, o2, o3, o4⟩, _⟩ := ha
  obtain ⟨e, he, h1, h2⟩ := h.has hu hd
  have hec : e = c := o4 e he h1 (by rw [← h2]; exact (h.1 e he).2)
  refine h.cut fun a ha => ?_
  unfold k2
  rw [(h.1 a ha).2]
  cases q1 : inU u a
  · rfl
  · cases q2 : K a d
    · rfl
    · have : a = c := o4 a ha q1 q2
      subst this
      subst hec
      simp [h2]
theorem sol_k3 {R : RT} {K : Nat → Nat → Bool} {k : Nat} (hk : k < rn R) (h2 : 2 ≤ rl R k) (hR : ROK R) {f : Nat → Nat} (h : Sol R K f) : Sol R (sift R K k) f := by
  refine h.cut fun c hc => ?_
  rw [sift_t]
  refine ⟨(h.1 c hc).2, fun j hj e => ?_⟩
  exact ⟨fun j => f (rc R k j), fun i hi => h.1 _ ((hR.2 k hk).2.2.1 i hi), h.2.2 k hk h2, by show f (rc R k j) = f c; rw [e]⟩
theorem sol_lk {R : RT} {K : Nat → Nat → Bool} {u o d : Nat} (hu : u < 18) (ho : o < 18) (hd : isD d = true) (ha : lka K u o d) {f : Nat → Nat} (h : Sol R K f) : Sol R (kl K u o d) f := by
  refine h.cut fun c hc => ?_
  unfold kl
  rw [(h.1 c hc).2]
  by_cases q : f c = d
  · cases q1 : inU o c
    · simp
    · cases q2 : inU u c
      · exfalso
        obtain ⟨e, he, h1, h2⟩ := h.has hu hd
        have h3 := ha.2.1 e he h1 (by rw [← h2]; exact (h.1 e he).2)
        exact h.ne ho hc he q1 h3 (fun z => by rw [z, h1] at q2; cases q2) (q.trans h2.symm)
      · simp
  · simp [q]
theorem sol_k6 {R : RT} {K : Nat → Nat → Bool} {b l d : Nat} (hb : b < 6) (hl : l < 12) (hd : isD d = true) (ha : a6 K b l d) {f : Nat → Nat} (h : Sol R K f) : Sol R (k6 K b l d) f := by
  rcases ha.2 with q | q
  · exact (sol_lk (by omega) (by omega) hd q h).mono fun c hc e he z => by rw [← kl_6 q c hc e he]; exact z
  · exact (sol_lk (by omega) (by omega) hd q h).mono fun c hc e he z => by rw [← kl_6' q c hc e he]; exact z
theorem sz_2 {p : Nat → Bool} (h : sz p = 2) {x y z : Nat} (hx : isD x = true) (hy : isD y = true) (hz : isD z = true) (px : p x = true) (py : p y = true) (pz : p z = true) (nxy : x ≠ y) : z = x ∨ z = y := by
  apply Classical.byContradiction
  intro q
  have h1 := sz_split p fun d => decide (d = x)
  have h2 : sz (fun d => p d && decide (d = x)) = 1 := sz_1.mpr ⟨x, hx, by simp [px], fun e _ w => by
    rw [Bool.and_eq_true, decide_eq_true_iff] at w
    exact w.2⟩
  have h3 : sz (fun d => p d && !decide (d = x)) = 1 := by omega
  obtain ⟨w, _, _, hu⟩ := sz_1.mp h3
  have e1 := hu y hy (by simp [py]; exact fun w => nxy w.symm)
  have e2 := hu z hz (by simp [pz]; exact fun w => q (Or.inl w))
  exact q (Or.inr (e2.trans e1.symm))
theorem sol_k7 {R : RT} {K : Nat → Nat → Bool} {u a b : Nat} (hu : u < 18) (ha : a7 K u a b) {f : Nat → Nat} (h : Sol R K f) : Sol R (k7 K u a b) f := by
  obtain ⟨h1, h2, h3, h4, h5, h6, _⟩ := ha
  refine h.cut fun c hc => ?_
  unfold k7
  rw [(h.1 c hc).2]
  by_cases q1 : c = a
  · simp [q1]
  by_cases q2 : c = b
  · simp [q2]
  cases q3 : inU u c
  · simp
  cases q4 : K a (f c)
  · simp
  exfalso
  have hA := h.1 a (by omega)
  have hB := h.1 b h2
  have hb : K a (f b) = true := by rw [h6 _ hB.1]; exact hB.2
  rcases sz_2 h5 hA.1 hB.1 (h.1 c hc).1 hA.2 hb q4 (h.ne hu (by omega) h2 h3 h4 (by omega)) with z | z
  · exact h.ne hu hc (by omega) q3 h3 q1 z
  · exact h.ne hu hc h2 q3 h4 q2 z
/-- what a deduction does -/
theorem NX_sub {R : RT} {K : Nat → Nat → Bool} {P : Nat → Bool} {kd pl : Nat} {K' : Nat → Nat → Bool} {P' : Nat → Bool} (h : NX R K P kd pl K' P') : ∀ c, c < 36 → ∀ d, isD d = true → K' c d = true → K c d = true := by
  rcases h with ⟨_, _, e, _⟩ | ⟨_, h⟩
  · subst e; exact fun _ _ _ _ z => z
  rcases h with ⟨_, _, _, _, e, _⟩ | ⟨_, _, h⟩
  · subst e
    intro c _ d _ z
    unfold k1 at z
    rw [Bool.and_eq_true] at z
    exact z.1
  rcases h with ⟨_, _, _, d', _, _, _, e⟩ | ⟨_, h⟩
  · subst e
    intro c _ d _ z
    unfold k2 at z
    rw [Bool.and_eq_true] at z
    exact z.1
  rcases h with ⟨_, _, _, _, e⟩ | ⟨_, h⟩
  · subst e; exact sift_le
  rcases h with ⟨_, _, _, _, e⟩ | ⟨_, h⟩
  · subst e; exact sift_le
  rcases h with ⟨_, _, _, _, e⟩ | ⟨_, h⟩
  · subst e; exact sift_le
  rcases h with ⟨_, _, _, l, d', _, _, _, _, _, e⟩ | ⟨_, _, _, _, a, b, _, _, _, e⟩
  · subst e
    intro c _ d _ z
    unfold k6 at z
    rw [Bool.and_eq_true] at z
    exact z.1
  · subst e; exact k7_le
theorem NX_sol {R : RT} (hR : ROK R) {K : Nat → Nat → Bool} {P : Nat → Bool} {kd pl : Nat} {K' : Nat → Nat → Bool} {P' : Nat → Bool} (h : NX R K P kd pl K' P') (f : Nat → Nat) : Sol R K' f ↔ Sol R K f := by
  refine ⟨fun z => z.mono (NX_sub h), fun s => ?_⟩
  rcases h with ⟨_, _, e, _⟩ | ⟨_, h⟩
  · subst e; exact s
  rcases h with ⟨_, h1, h2, _, e, _⟩ | ⟨_, _, h⟩
  · subst e; exact sol_k1 h1 h2 s
  rcases h with ⟨_, h1, _, d', hd, ha, _, e⟩ | ⟨_, h⟩
  · subst e; exact sol_k2 h1 hd ha s
  rcases h with ⟨_, h1, h2, _, e⟩ | ⟨_, h⟩
  · subst e; exact sol_k3 h1 h2.2.1 hR s
  rcases h with ⟨_, h1, h2, _, e⟩ | ⟨_, h⟩
  · subst e; exact sol_k3 h1 h2.2.1 hR s
  rcases h with ⟨_, h1, h2, _, e⟩ | ⟨_, h⟩
  · subst e; exact sol_k3 h1 h2.2.1 hR s
  rcases h with ⟨_, h1, _, l, d', hl, hd, ha, _, _, e⟩ | ⟨_, _, h1, _, a, b, ha, _, _, e⟩
  · subst e; exact sol_k6 h1 hl hd ha s
  · subst e; exact sol_k7 h1 ha s
/-- placed cells: one digit at most, and their unit peers lack it -/
def PI (K : Nat → Nat → Bool) (P : Nat → Bool) : Prop := ∀ c, c < 36 → P c = true → sz (K c) ≤ 1 ∧ ∀ e, e < 36 → upr c e = true → ∀ d, isD d = true → K c d = true → K e d = false
theorem PI.sub {K K' : Nat → Nat → Bool} {P : Nat → Bool} (h : PI K P) (hs : ∀ c, c < 36 → ∀ d, isD d = true → K' c d = true → K c d = true) : PI K' P := fun c hc hp => by
  obtain ⟨h1, h2⟩ := h c hc hp
  refine ⟨Nat.le_trans (sz_mono (hs c hc)) h1, fun e he hu d hd z => ?_⟩
  cases q : K' e d
  · rfl
  · have := h2 e he hu d hd (hs c hc d hd z)
    rw [hs e he d hd q] at this
    cases this
theorem NX_PI {R : RT} {K : Nat → Nat → Bool} {P : Nat → Bool} {kd pl : Nat} {K' : Nat → Nat → Bool} {P' : Nat → Bool} (h : NX R K P kd pl K' P') (hp : PI K P) : PI K' P' := by
  have hs := NX_sub h
  rcases h with ⟨_, _, _, e, _⟩ | ⟨_, h⟩
  · subst e; exact hp.sub hs
  rcases h with ⟨_, h1, h2, _, e, e'⟩ | ⟨_, e, h⟩
  · subst e
    subst e'
    have hq := hp.sub hs
    intro c hc z
    unfold pl1 at z
    rw [Bool.or_eq_true, decide_eq_true_iff] at z
    rcases z with z | z
    · exact hq c hc z
    · subst z
      refine ⟨Nat.le_trans (sz_mono (hs c hc)) (by rw [h2.2]; exact Nat.le_refl 1), fun e he hu d hd w => ?_⟩
      have hpe : peer R c e = true := by
        unfold peer
        have := (upr_u hc he).mp hu
        simp [hu, this.1]
      have hw := hs c hc d hd w
      unfold k1
      simp [hpe, hw]
  · subst e; exact hp.sub hs
