/-! Sets of digits and of cells; sums; loops; objects by their fields. -/
def mkd (p : Nat → Bool) : Nat := 2 * (p 1).toNat + 4 * (p 2).toNat + 8 * (p 3).toNat + 16 * (p 4).toNat + 32 * (p 5).toNat + 64 * (p 6).toNat
def sz (p : Nat → Bool) : Nat := (p 1).toNat + (p 2).toNat + (p 3).toNat + (p 4).toNat + (p 5).toNat + (p 6).toNat
def lod (p : Nat → Bool) : Nat := if p 1 then 1 else if p 2 then 2 else if p 3 then 3 else if p 4 then 4 else if p 5 then 5 else if p 6 then 6 else 7
def hid (p : Nat → Bool) : Nat := if p 6 then 6 else if p 5 then 5 else if p 4 then 4 else if p 3 then 3 else if p 2 then 2 else if p 1 then 1 else 0
def isD (d : Nat) : Bool := decide (1 ≤ d ∧ d < 7)
theorem isD_c {d : Nat} (h : isD d = true) : d = 1 ∨ d = 2 ∨ d = 3 ∨ d = 4 ∨ d = 5 ∨ d = 6 := by
  have := of_decide_eq_true h
  omega
theorem isD_i {d : Nat} (h1 : 1 ≤ d) (h2 : d < 7) : isD d = true := decide_eq_true ⟨h1, h2⟩
theorem isD_b {d : Nat} (h : isD d = true) : 1 ≤ d ∧ d < 7 := of_decide_eq_true h
theorem mkd_lt (p : Nat → Bool) : mkd p < 128 := by
  unfold mkd
  have := Bool.toNat_le (p 1)
  have := Bool.toNat_le (p 2)
  have := Bool.toNat_le (p 3)
  have := Bool.toNat_le (p 4)
  have := Bool.toNat_le (p 5)
  have := Bool.toNat_le (p 6)
  omega
theorem mkd_b0 : ∀ a b c d e f : Bool, ∀ i, i < 32 → bt (nI (2 * a.toNat + 4 * b.toNat + 8 * c.toNat + 16 * d.toNat + 32 * e.toNat + 64 * f.toNat)) i = (decide (i = 1) && a || decide (i = 2) && b || decide (i = 3) && c || decide (i = 4) && d || decide (i = 5) && e || decide (i = 6) && f) := by decide +kernel
theorem mkd_b (p : Nat → Bool) (i : Nat) : bt (nI (mkd p)) i = (isD i && p i) := by
  by_cases h : i < 32
  · unfold mkd
    rw [mkd_b0 _ _ _ _ _ _ i h]
    unfold isD
    by_cases h1 : i = 1
    · subst h1; simp
    by_cases h2 : i = 2
    · subst h2; simp
    by_cases h3 : i = 3
    · subst h3; simp
    by_cases h4 : i = 4
    · subst h4; simp
    by_cases h5 : i = 5
    · subst h5; simp
    by_cases h6 : i = 6
    · subst h6; simp
    have : ¬ (1 ≤ i ∧ i < 7) := by omega
    simp [h1, h2, h3, h4, h5, h6, this]
  · rw [b_big (by omega)]
    unfold isD
    have : ¬ (1 ≤ i ∧ i < 7) := by omega
    simp [this]
theorem mkd_ext {p q : Nat → Bool} (h : ∀ d, isD d = true → p d = q d) : mkd p = mkd q := by
  unfold mkd
  rw [h 1 rfl, h 2 rfl, h 3 rfl, h 4 rfl, h 5 rfl, h 6 rfl]
theorem sz_ext {p q : Nat → Bool} (h : ∀ d, isD d = true → p d = q d) : sz p = sz q := by
  unfold sz
  rw [h 1 rfl, h 2 rfl, h 3 rfl, h 4 rfl, h 5 rfl, h 6 rfl]
theorem lod_ext {p q : Nat → Bool} (h : ∀ d, isD d = true → p d = q d) : lod p = lod q := by
  unfold lod
  rw [h 1 rfl, h 2 rfl, h 3 rfl, h 4 rfl, h 5 rfl, h 6 rfl]
theorem mkd_of {x : Int32} {p : Nat → Bool} (h : ∀ i, i < 32 → bt x i = (isD i && p i)) : x = nI (mkd p) := b_ext fun i hi => (h i hi).trans (mkd_b p i).symm
theorem mkd_inj {p q : Nat → Bool} (h : mkd p = mkd q) {d : Nat} (hd : isD d = true) : p d = q d := by
  have h1 := mkd_b p d
  rw [h, mkd_b q d, hd] at h1
  simpa using h1.symm
theorem mkd_and (p q : Nat → Bool) : nI (mkd p) &&& nI (mkd q) = nI (mkd fun d => p d && q d) := mkd_of fun i _ => by
  rw [b_and, mkd_b, mkd_b]
  cases isD i <;> simp
theorem mkd_or (p q : Nat → Bool) : nI (mkd p) ||| nI (mkd q) = nI (mkd fun d => p d || q d) := mkd_of fun i _ => by
  rw [b_or, mkd_b, mkd_b]
  cases isD i <;> simp
theorem mkd_sub (p q : Nat → Bool) : nI (mkd p) &&& (nI (mkd q) ^^^ (-1)) = nI (mkd fun d => p d && !q d) := mkd_of fun i hi => by
  rw [b_and, b_not, mkd_b, mkd_b]
  cases isD i <;> simp [hi]
theorem mkd_0 : mkd (fun _ => false) = 0 := rfl
theorem mkd_all : mkd (fun _ => true) = 126 := rfl
theorem mkd_1 {d : Nat} (hd : isD d = true) : (1 : Int32) <<< (nI d &&& 31) = nI (mkd fun e => decide (e = d)) := mkd_of fun i _ => by
  have := isD_b hd
  rw [b_1shl (by omega)]
  unfold isD
  by_cases h : i = d
  · subst h
    simp [this]
  · simp [h]
theorem mkd_bit (p : Nat → Bool) {d : Nat} (hd : isD d = true) : ((nI (mkd p) >>> (nI d &&& 31)) &&& 1 = 0) ↔ p d = false := by
  have := isD_b hd
  rw [b_bit0 (by omega), mkd_b, hd]
  simp
theorem mkd_bit1 (p : Nat → Bool) {d : Nat} (hd : isD d = true) : (nI (mkd p) >>> (nI d &&& 31)) &&& 1 = if p d then 1 else 0 := by
  have := isD_b hd
  rw [b_bit (by omega), mkd_b, hd]
  simp
theorem mkd_z0 : ∀ a b c d e f : Bool, 2 * a.toNat + 4 * b.toNat + 8 * c.toNat + 16 * d.toNat + 32 * e.toNat + 64 * f.toNat = 0 → a.toNat + b.toNat + c.toNat + d.toNat + e.toNat + f.toNat = 0 := by decide
theorem sz_0 {p : Nat → Bool} : sz p = 0 ↔ ∀ d, isD d = true → p d = false := by
  constructor
  · intro h d hd
    unfold sz at h
    have hz : ∀ b : Bool, b.toNat = 0 → b = false := by decide
    rcases isD_c hd with rfl | rfl | rfl | rfl | rfl | rfl <;> exact hz _ (by omega)
  · intro h
    rw [sz_ext (q := fun _ => false) h]
    rfl
theorem mkd_z {p : Nat → Bool} : mkd p = 0 ↔ sz p = 0 := by
  constructor
  · intro h
    exact mkd_z0 _ _ _ _ _ _ h
  · intro h
    rw [mkd_ext (q := fun _ => false) (sz_0.mp h)]
    rfl
theorem nmkd_z {p : Nat → Bool} : nI (mkd p) = 0 ↔ sz p = 0 := by
  rw [← mkd_z]
  have := mkd_lt p
  exact nI_eq (a := mkd p) (b := 0) (by omega) (by omega)
theorem sz_le (p : Nat → Bool) : sz p ≤ 6 := by
  unfold sz
  have := Bool.toNat_le (p 1)
  have := Bool.toNat_le (p 2)
  have := Bool.toNat_le (p 3)
  have := Bool.toNat_le (p 4)
  have := Bool.toNat_le (p 5)
  have := Bool.toNat_le (p 6)
  omega
theorem sz_split (p q : Nat → Bool) : sz (fun d => p d && q d) + sz (fun d => p d && !q d) = sz p := by
  have h : ∀ a b : Bool, (a && b).toNat + (a && !b).toNat = a.toNat := by decide
  unfold sz
  have := h (p 1) (q 1)
  have := h (p 2) (q 2)
  have := h (p 3) (q 3)
  have := h (p 4) (q 4)
  have := h (p 5) (q 5)
  have := h (p 6) (q 6)
  simp only []
  omega
theorem sz_mono {p q : Nat → Bool} (h : ∀ d, isD d = true → p d = true → q d = true) : sz p ≤ sz q := by
  have h1 := sz_split q p
  have h2 : sz (fun d => q d && p d) = sz p := sz_ext fun d hd => by
    cases hp : p d
    · simp
    · simp [h d hd hp]
  omega
theorem sz_lt {p q : Nat → Bool} (h : ∀ d, isD d = true → p d = true → q d = true) {e : Nat} (he : isD e = true) (h1 : q e = true) (h2 : p e = false) : sz p < sz q := by
  have h1' := sz_split q p
  have h2' : sz (fun d => q d && p d) = sz p := sz_ext fun d hd => by
    cases hp : p d
    · simp
    · simp [h d hd hp]
  have h3 : sz (fun d => q d && !p d) ≠ 0 := by
    intro q0
    have := sz_0.mp q0 e he
    simp [h1, h2] at this
  omega
theorem sz_1b : ∀ a b c d e f : Bool, a.toNat + b.toNat + c.toNat + d.toNat + e.toNat + f.toNat = 1 → (a = true ∧ b = false ∧ c = false ∧ d = false ∧ e = false ∧ f = false) ∨ (a = false ∧ b = true ∧ c = false ∧ d = false ∧ e = false ∧ f = false) ∨ (a = false ∧ b = false ∧ c = true ∧ d = false ∧ e = false ∧ f = false) ∨ (a = false ∧ b = false ∧ c = false ∧ d = true ∧ e = false ∧ f = false) ∨ (a = false ∧ b = false ∧ c = false ∧ d = false ∧ e = true ∧ f = false) ∨ (a = false ∧ b = false ∧ c = false ∧ d = false ∧ e = false ∧ f = true) := by
  intro a b c d e f
  cases a <;> cases b <;> cases c <;> cases d <;> cases e <;> cases f <;> simp
theorem sz_1 {p : Nat → Bool} : sz p = 1 ↔ ∃ d, isD d = true ∧ p d = true ∧ ∀ e, isD e = true → p e = true → e = d := by
  constructor
  · intro h
    rcases sz_1b _ _ _ _ _ _ h with q | q | q | q | q | q <;> obtain ⟨q1, q2, q3, q4, q5, q6⟩ := q
    · exact ⟨1, rfl, q1, fun e he h => by rcases isD_c he with rfl | rfl | rfl | rfl | rfl | rfl <;> simp_all⟩
    · exact ⟨2, rfl, q2, fun e he h => by rcases isD_c he with rfl | rfl | rfl | rfl | rfl | rfl <;> simp_all⟩
    · exact ⟨3, rfl, q3, fun e he h => by rcases isD_c he with rfl | rfl | rfl | rfl | rfl | rfl <;> simp_all⟩
    · exact ⟨4, rfl, q4, fun e he h => by rcases isD_c he with rfl | rfl | rfl | rfl | rfl | rfl <;> simp_all⟩
    · exact ⟨5, rfl, q5, fun e he h => by rcases isD_c he with rfl | rfl | rfl | rfl | rfl | rfl <;> simp_all⟩
    · exact ⟨6, rfl, q6, fun e he h => by rcases isD_c he with rfl | rfl | rfl | rfl | rfl | rfl <;> simp_all⟩
  · rintro ⟨d, hd, h1, h2⟩
    have : sz p = sz fun e => decide (e = d) := sz_ext fun e he => by
      by_cases q : e = d
      · subst q; simp [h1]
      · cases h3 : p e
        · simp [q]
        · exact absurd (h2 e he h3) q
    rw [this]
    rcases isD_c hd with rfl | rfl | rfl | rfl | rfl | rfl <;> rfl
theorem lod_s {p : Nat → Bool} {d : Nat} (hd : isD d = true) (h1 : p d = true) (h2 : ∀ e, isD e = true → e < d → p e = false) : lod p = d := by
  unfold lod
  rcases isD_c hd with rfl | rfl | rfl | rfl | rfl | rfl
  · simp [h1]
  · simp [h1, h2 1 rfl (by omega)]
  · simp [h1, h2 1 rfl (by omega), h2 2 rfl (by omega)]
  · simp [h1, h2 1 rfl (by omega), h2 2 rfl (by omega), h2 3 rfl (by omega)]
  · simp [h1, h2 1 rfl (by omega), h2 2 rfl (by omega), h2 3 rfl (by omega), h2 4 rfl (by omega)]
  · simp [h1, h2 1 rfl (by omega), h2 2 rfl (by omega), h2 3 rfl (by omega), h2 4 rfl (by omega), h2 5 rfl (by omega)]
theorem lod_n {p : Nat → Bool} (h : sz p = 0) : lod p = 7 := by
  rw [lod_ext (q := fun _ => false) (sz_0.mp h)]
  rfl
theorem sz_ex {p : Nat → Bool} (h : sz p ≠ 0) : ∃ d, isD d = true ∧ p d = true := by
  apply Classical.byContradiction
  intro q
  apply h
  apply sz_0.mpr
  intro d hd
  cases h1 : p d
  · rfl
  · exact absurd ⟨d, hd, h1⟩ q
theorem lod_x {p : Nat → Bool} (h : sz p ≠ 0) : isD (lod p) = true ∧ p (lod p) = true ∧ ∀ e, isD e = true → e < lod p → p e = false := by
  obtain ⟨d, hd, h1⟩ := sz_ex h
  unfold lod
  split
  · exact ⟨rfl, by assumption, fun e he hl => by rcases isD_c he with rfl | rfl | rfl | rfl | rfl | rfl <;> omega⟩
  split
  · exact ⟨rfl, by assumption, fun e he hl => by rcases isD_c he with rfl | rfl | rfl | rfl | rfl | rfl <;> simp_all⟩
  split
  · exact ⟨rfl, by assumption, fun e he hl => by rcases isD_c he with rfl | rfl | rfl | rfl | rfl | rfl <;> simp_all⟩
  split
  · exact ⟨rfl, by assumption, fun e he hl => by rcases isD_c he with rfl | rfl | rfl | rfl | rfl | rfl <;> simp_all⟩
  split
  · exact ⟨rfl, by assumption, fun e he hl => by rcases isD_c he with rfl | rfl | rfl | rfl | rfl | rfl <;> simp_all⟩
  split
  · exact ⟨rfl, by assumption, fun e he hl => by rcases isD_c he with rfl | rfl | rfl | rfl | rfl | rfl <;> simp_all⟩
  · exfalso
    rcases isD_c hd with rfl | rfl | rfl | rfl | rfl | rfl <;> simp_all
theorem hid_x {p : Nat → Bool} (h : sz p ≠ 0) : isD (hid p) = true ∧ p (hid p) = true ∧ ∀ e, isD e = true → hid p < e → p e = false := by
  obtain ⟨d, hd, h1⟩ := sz_ex h
  unfold hid
  split
  · exact ⟨rfl, by assumption, fun e he hl => by rcases isD_c he with rfl | rfl | rfl | rfl | rfl | rfl <;> omega⟩
  split
  · exact ⟨rfl, by assumption, fun e he hl => by rcases isD_c he with rfl | rfl | rfl | rfl | rfl | rfl <;> simp_all⟩
  split
  · exact ⟨rfl, by assumption, fun e he hl => by rcases isD_c he with rfl | rfl | rfl | rfl | rfl | rfl <;> simp_all⟩
  split
  · exact ⟨rfl, by assumption, fun e he hl => by rcases isD_c he with rfl | rfl | rfl | rfl | rfl | rfl <;> simp_all⟩
  split
  · exact ⟨rfl, by assumption, fun e he hl => by rcases isD_c he with rfl | rfl | rfl | rfl | rfl | rfl <;> simp_all⟩
  split
  · exact ⟨rfl, by assumption, fun e he hl => by rcases isD_c he with rfl | rfl | rfl | rfl | rfl | rfl <;> simp_all⟩
  · exfalso
    rcases isD_c hd with rfl | rfl | rfl | rfl | rfl | rfl <;> simp_all
theorem hid_n {p : Nat → Bool} (h : sz p = 0) : hid p = 0 := by
  have h0 := sz_0.mp h
  unfold hid
  simp [h0 1 rfl, h0 2 rfl, h0 3 rfl, h0 4 rfl, h0 5 rfl, h0 6 rfl]
/-- a sum -/
def smN (f : Nat → Nat) : Nat → Nat
  | 0 => 0
  | k + 1 => smN f k + f k
theorem smN_ext {f g : Nat → Nat} : ∀ {k : Nat}, (∀ i, i < k → f i = g i) → smN f k = smN g k := by
  intro k
  induction k with
  | zero => intro _; rfl
  | succ k ih => intro h; show smN f k + f k = smN g k + g k; rw [ih fun i hi => h i (by omega), h k (by omega)]
theorem smN_add (f g : Nat → Nat) : ∀ k, smN (fun i => f i + g i) k = smN f k + smN g k := by
  intro k
  induction k with
  | zero => rfl
  | succ k ih => show smN (fun i => f i + g i) k + (f k + g k) = smN f k + f k + (smN g k + g k); rw [ih]; omega
theorem smN_le {f g : Nat → Nat} : ∀ {k : Nat}, (∀ i, i < k → f i ≤ g i) → smN f k ≤ smN g k := by
  intro k
  induction k with
  | zero => intro _; exact Nat.le_refl _
  | succ k ih => intro h; exact Nat.add_le_add (ih fun i hi => h i (by omega)) (h k (by omega))
theorem smN_lt {f g : Nat → Nat} : ∀ {k : Nat}, (∀ i, i < k → f i ≤ g i) → (∃ i, i < k ∧ f i < g i) → smN f k < smN g k := by
  intro k
  induction k with
  | zero => rintro _ ⟨i, hi, _⟩; omega
  | succ k ih =>
    rintro h ⟨i, hi, hl⟩
    by_cases q : i = k
    · subst q
      exact Nat.add_lt_add_of_le_of_lt (smN_le fun j hj => h j (by omega)) hl
    · exact Nat.add_lt_add_of_lt_of_le (ih (fun j hj => h j (by omega)) ⟨i, by omega, hl⟩) (h k (by omega))
theorem smN_cnt (p : Nat → Bool) : ∀ k, smN (fun i => (p i).toNat) k = cnt p k := by
  intro k
  induction k with
  | zero => rfl
  | succ k ih =>
    show smN (fun i => (p i).toNat) k + (p k).toNat = cnt p (k + 1)
    rw [ih, cnt]
    cases p k <;> rfl
theorem smN_one {f : Nat → Nat} {j : Nat} : ∀ {k : Nat}, j < k → (∀ i, i < k → i ≠ j → f i = 0) → smN f k = f j := by
  intro k
  induction k with
  | zero => intro h; omega
  | succ k ih =>
    intro hj h
    show smN f k + f k = f j
    by_cases q : j = k
    · subst q
      rw [smN_ext (g := fun _ => 0) fun i hi => h i (by omega) (by omega)]
      have : ∀ k, smN (fun _ => 0) k = 0 := by
        intro k
        induction k with
        | zero => rfl
        | succ k ih => exact ih
      rw [this]
      omega
    · rw [ih (by omega) fun i hi hn => h i (by omega) hn, h k (by omega) (by omega)]
      omega
/-- how many candidates -/
def tot (K : Nat → Nat → Bool) : Nat := smN (fun c => sz (K c)) 36
theorem tot_ext {K L : Nat → Nat → Bool} (h : ∀ c, c < 36 → ∀ d, isD d = true → K c d = L c d) : tot K = tot L := smN_ext fun c hc => sz_ext (h c hc)
theorem tot_cut (K : Nat → Nat → Bool) (f : Nat → Nat → Bool) : smN (fun c => sz fun d => K c d && f c d) 36 + tot (fun c d => K c d && !f c d) = tot K := by
  unfold tot
  rw [← smN_add]
  exact smN_ext fun c _ => sz_split (K c) (f c)
theorem tot_cut1 (K : Nat → Nat → Bool) (C : Nat → Bool) {d : Nat} (hd : isD d = true) : cnt (fun c => K c d && C c) 36 + tot (fun c e => K c e && !(decide (e = d) && C c)) = tot K := by
  rw [← tot_cut K fun c e => decide (e = d) && C c, ← smN_cnt]
  congr 1
  apply smN_ext
  intro c _
  show _ = sz fun e => K c e && (decide (e = d) && C c)
  unfold sz
  rcases isD_c hd with rfl | rfl | rfl | rfl | rfl | rfl <;> simp
theorem tot_le (K : Nat → Nat → Bool) : tot K ≤ 216 := by
  have h : ∀ k, smN (fun _ => 6) k = 6 * k := by
    intro k
    induction k with
    | zero => rfl
    | succ k ih => show smN (fun _ => 6) k + 6 = _; rw [ih]; omega
  have h1 : tot K ≤ smN (fun _ => 6) 36 := smN_le fun c _ => sz_le _
  rw [h] at h1
  exact h1
/-- a loop that ends behind e -/
theorem LC {σ β : Type} (f : Nat → Nat → σ → β) (I : Nat → σ → Prop) (e : Nat) (hs : ∀ n i s, i < e → I i s → ∃ s', I (i + 1) s' ∧ f (n + 1) i s = f n (i + 1) s') :
    ∀ k i s n, i + k = e → k ≤ n → I i s → ∃ s', I e s' ∧ f n i s = f (n - k) e s' := by
  intro k
  induction k with
  | zero => intro i s n h1 h2 h3; exact ⟨s, by rw [← h1]; exact h3, by rw [← h1]; rfl⟩
  | succ k ih =>
    intro i s n h1 h2 h3
    obtain ⟨n, rfl⟩ : ∃ m, n = m + 1 := ⟨n - 1, by omega⟩
    obtain ⟨s1, h4, h5⟩ := hs n i s (by omega) h3
    obtain ⟨s2, h6, h7⟩ := ih (i + 1) s1 n (by omega) (by omega) h4
    exact ⟨s2, h6, by rw [h5, h7]; congr 1; omega⟩
/-- a loop that ends at e, or is left before -/
theorem LE {σ β : Type} (f : Nat → Nat → σ → β) (I C : Nat → σ → Prop) (e : Nat) (hs : ∀ n i s, i < e → I i s → C i s ∨ ∃ s', I (i + 1) s' ∧ f (n + 1) i s = f n (i + 1) s') :
    ∀ k i s n, i + k = e → k ≤ n → I i s → ∃ j s', i ≤ j ∧ j ≤ e ∧ I j s' ∧ (j < e → C j s') ∧ f n i s = f (n - (j - i)) j s' := by
  intro k
  induction k with
  | zero => intro i s n h1 h2 h3; exact ⟨i, s, Nat.le_refl _, by omega, h3, fun q => by omega, by rw [Nat.sub_self]; rfl⟩
  | succ k ih =>
    intro i s n h1 h2 h3
    obtain ⟨n, rfl⟩ : ∃ m, n = m + 1 := ⟨n - 1, by omega⟩
    rcases hs n i s (by omega) h3 with h4 | ⟨s1, h4, h5⟩
    · exact ⟨i, s, Nat.le_refl _, by omega, h3, fun _ => h4, by rw [Nat.sub_self]; rfl⟩
    · obtain ⟨j, s2, h6, h7, h8, h9, h10⟩ := ih (i + 1) s1 n (by omega) (by omega) h4
      exact ⟨j, s2, by omega, h7, h8, h9, by rw [h5, h10]; congr 1; omega⟩
/-- an object by its fields -/
def obj (ci n : Nat) (V : Nat → Value) : PC := oO ci ((List.range n).map V)
theorem ob_g {h : PH} {a ci n k : Nat} {V : Nat → Value} (e : h.2 a = obj ci n V) (hk : k < n) : gV h a ci k = some (V k) := by
  unfold gV
  rw [e]
  show (if ci = ci then ((List.range n).map V)[k]? else none) = _
  rw [if_pos rfl, List.getElem?_map, List.getElem?_range hk]
  rfl
theorem ob_I {h : PH} {a ci n k : Nat} {V : Nat → Value} {v : Int32} (e : h.2 a = obj ci n V) (hk : k < n) (hv : V k = .int v) : gI h a ci k = some v := by
  unfold gI
  rw [ob_g e hk, hv]
theorem ob_L {h : PH} {a ci n k : Nat} {V : Nat → Value} {v : Int64} (e : h.2 a = obj ci n V) (hk : k < n) (hv : V k = .long v) : gL h a ci k = some v := by
  unfold gL
  rw [ob_g e hk, hv]
theorem ob_R {h : PH} {a ci n k : Nat} {V : Nat → Value} {v : Nat} (e : h.2 a = obj ci n V) (hk : k < n) (hv : V k = .ref v) : gR h a ci k = some v := by
  unfold gR
  rw [ob_g e hk, hv]
theorem ob_K {h : PH} {a ci n : Nat} {V : Nat → Value} (e : h.2 a = obj ci n V) : cK h a ci = some () := by
  unfold cK
  rw [e]
  exact if_pos rfl
theorem ob_set (ci n k : Nat) (V : Nat → Value) (v : Value) : (Sum.inl (ci, ((List.range n).map V).set k v) : PC) = obj ci n (updV V k v) := by
  unfold obj
  congr 2
  apply List.ext_getElem?
  intro i
  by_cases hi : i < n
  · by_cases q : k = i
    · subst q
      rw [List.getElem?_set_self (by simpa using hi), List.getElem?_map, List.getElem?_range hi]
      simp [updV]
    · rw [List.getElem?_set_ne q, List.getElem?_map, List.getElem?_map, List.getElem?_range hi]
      simp [updV, Ne.symm q]
  · rw [List.getElem?_eq_none (by simp; omega), List.getElem?_eq_none (by simp; omega)]
theorem ob_P {h : PH} {a ci n k : Nat} {V : Nat → Value} (v : Value) (e : h.2 a = obj ci n V) (hk : k < n) : pV h a ci k v = some (hset h a (obj ci n (updV V k v))) := by
  unfold pV
  rw [e]
  show (if ci = ci ∧ k < ((List.range n).map V).length then some (hset h a (.inl (ci, ((List.range n).map V).set k v))) else none) = _
  rw [if_pos ⟨rfl, by simpa using hk⟩, ob_set]
theorem ar_I {h : PH} {a n i : Nat} {f : Nat → Int32} (e : h.2 a = oI n f) (hi : i < n) (hn : n < 2 ^ 31) : aI h a (nI i) = some (f i) := by
  unfold aI
  rw [e]
  show (if nI i < 0 ∨ n ≤ (nI i).toNatClampNeg then none else some (f (nI i).toNatClampNeg)) = _
  rw [if_neg (nI_in hi hn), nI_clamp (by omega)]
theorem ar_L {h : PH} {a n i : Nat} {f : Nat → Int64} (e : h.2 a = oL n f) (hi : i < n) (hn : n < 2 ^ 31) : aL h a (nI i) = some (f i) := by
  unfold aL
  rw [e]
  show (if nI i < 0 ∨ n ≤ (nI i).toNatClampNeg then none else some (f (nI i).toNatClampNeg)) = _
  rw [if_neg (nI_in hi hn), nI_clamp (by omega)]
theorem ar_R {h : PH} {a t n i r : Nat} {f : Nat → Option Nat} (e : h.2 a = oR t n f) (ht : t < 2) (hi : i < n) (hn : n < 2 ^ 31) (hf : f i = some r) : aR h a (nI i) = some r := by
  unfold aR
  rw [e]
  show (if nI i < 0 ∨ n ≤ (nI i).toNatClampNeg ∨ 2 ≤ t then none else f (nI i).toNatClampNeg) = _
  rw [if_neg (fun q => by
    rcases q with q | q | q
    · exact nI_in hi hn (Or.inl q)
    · exact nI_in hi hn (Or.inr q)
    · omega), nI_clamp (by omega), hf]
theorem ar_sI {h : PH} {a n i : Nat} {f : Nat → Int32} (v : Int32) (e : h.2 a = oI n f) (hi : i < n) (hn : n < 2 ^ 31) : sI h a (nI i) v = some (hset h a (oI n (upd f i v))) := by
  unfold sI
  rw [e]
  show (if nI i < 0 ∨ n ≤ (nI i).toNatClampNeg then none else some (hset h a (oI n (upd f (nI i).toNatClampNeg v)))) = _
  rw [if_neg (nI_in hi hn), nI_clamp (by omega)]
theorem ar_sL {h : PH} {a n i : Nat} {f : Nat → Int64} (v : Int64) (e : h.2 a = oL n f) (hi : i < n) (hn : n < 2 ^ 31) : sL h a (nI i) v = some (hset h a (oL n (vp_updL f i v))) := by
  unfold sL
  rw [e]
  show (if nI i < 0 ∨ n ≤ (nI i).toNatClampNeg then none else some (hset h a (oL n (vp_updL f (nI i).toNatClampNeg v)))) = _
  rw [if_neg (nI_in hi hn), nI_clamp (by omega)]
theorem cp_I {h : PH} {a b n0 n1 n : Nat} {f g : Nat → Int32} (e0 : h.2 a = oI n0 f) (e1 : h.2 b = oI n1 g) (h0 : n ≤ n0) (h1 : n ≤ n1) (hn : n < 2 ^ 31) : cpI h a 0 b 0 (nI n) = some (hset h b (oI n1 (va_cpy f g 0 0 n))) := by
  unfold cpI
  rw [e0, e1]
  show (if ¬ (0 : Int32) < 0 ∧ ¬ (0 : Int32) < 0 ∧ ¬ nI n < 0 ∧ (0 : Int32).toNatClampNeg + (nI n).toNatClampNeg ≤ n0 ∧ (0 : Int32).toNatClampNeg + (nI n).toNatClampNeg ≤ n1 then some (hset h b (oI n1 (va_cpy f g (0 : Int32).toNatClampNeg (0 : Int32).toNatClampNeg (nI n).toNatClampNeg))) else none) = _
  rw [nI_clamp hn, show (0 : Int32).toNatClampNeg = 0 from rfl, if_pos ⟨by decide, by decide, nI_pos hn, by omega, by omega⟩]
theorem cp_L {h : PH} {a b n0 n1 n : Nat} {f g : Nat → Int64} (e0 : h.2 a = oL n0 f) (e1 : h.2 b = oL n1 g) (h0 : n ≤ n0) (h1 : n ≤ n1) (hn : n < 2 ^ 31) : cpL h a 0 b 0 (nI n) = some (hset h b (oL n1 (va_cpy f g 0 0 n))) := by
  unfold cpL
  rw [e0, e1]
  show (if ¬ (0 : Int32) < 0 ∧ ¬ (0 : Int32) < 0 ∧ ¬ nI n < 0 ∧ (0 : Int32).toNatClampNeg + (nI n).toNatClampNeg ≤ n0 ∧ (0 : Int32).toNatClampNeg + (nI n).toNatClampNeg ≤ n1 then some (hset h b (oL n1 (va_cpy f g (0 : Int32).toNatClampNeg (0 : Int32).toNatClampNeg (nI n).toNatClampNeg))) else none) = _
  rw [nI_clamp hn, show (0 : Int32).toNatClampNeg = 0 from rfl, if_pos ⟨by decide, by decide, nI_pos hn, by omega, by omega⟩]
theorem vu_s (V : Nat → Value) (k : Nat) (v : Value) : updV V k v k = v := by simp [updV]
theorem vu_n (V : Nat → Value) {k j : Nat} (v : Value) (n : j ≠ k) : updV V k v j = V j := by simp [updV, n]
/-- nothing but S has changed -/
def Fr (S : Nat → Prop) (h h' : PH) : Prop := h'.1 = h.1 ∧ ∀ k, ¬ S k → h'.2 k = h.2 k
theorem Fr.rf (S : Nat → Prop) (h : PH) : Fr S h h := ⟨rfl, fun _ _ => rfl⟩
theorem Fr.tr {S : Nat → Prop} {h h1 h2 : PH} (a : Fr S h h1) (b : Fr S h1 h2) : Fr S h h2 := ⟨b.1.trans a.1, fun k q => (b.2 k q).trans (a.2 k q)⟩
theorem Fr.mo {S T : Nat → Prop} {h h1 : PH} (a : Fr S h h1) (b : ∀ k, S k → T k) : Fr T h h1 := ⟨a.1, fun k q => a.2 k fun z => q (b k z)⟩
theorem Fr.st {S : Nat → Prop} {h h1 : PH} {a : Nat} (c : PC) (b : Fr S h h1) (s : S a) : Fr S h (hset h1 a c) := ⟨b.1, fun k q => (hset_n h1 c (fun z => q (by rw [z]; exact s))).trans (b.2 k q)⟩
theorem Fr.sq {q : Nat} {h h1 : PH} (c : PC) (b : Fr (fun k => k = q) h h1) : Fr (fun k => k = q) h (hset h1 q c) := b.st (S := fun k => k = q) c rfl
/-- a long that is a set of cells -/
def CS (v : Int64) (f : Nat → Bool) : Prop := ∀ c, c < 64 → tb v c = (decide (c < 36) && f c)
theorem CS.x {v : Int64} {f g : Nat → Bool} (h : CS v f) (e : ∀ c, c < 36 → f c = g c) : CS v g := fun c hc => by
  rw [h c hc]
  by_cases q : c < 36
  · simp [e c q]
  · simp [q]
theorem CS.u {v w : Int64} {f g : Nat → Bool} (h : CS v f) (h1 : CS w g) (e : ∀ c, c < 36 → f c = g c) : v = w := t_ext fun i hi => by rw [(h.x e) i hi, h1 i hi]
theorem CS.e {v w : Int64} {f g : Nat → Bool} (h : CS v f) (h1 : CS w g) : v = w ↔ ∀ c, c < 36 → f c = g c := by
  constructor
  · intro q c hc
    subst q
    have h2 := h c (by omega)
    rw [h1 c (by omega)] at h2
    simpa [hc] using h2.symm
  · exact h.u h1
theorem CS.and {v w : Int64} {f g : Nat → Bool} (h : CS v f) (h1 : CS w g) : CS (v &&& w) fun c => f c && g c := fun c hc => by
  rw [t_and, h c hc, h1 c hc]
  cases decide (c < 36) <;> simp
theorem CS.or {v w : Int64} {f g : Nat → Bool} (h : CS v f) (h1 : CS w g) : CS (v ||| w) fun c => f c || g c := fun c hc => by
  rw [t_or, h c hc, h1 c hc]
  cases decide (c < 36) <;> simp
theorem CS.sub {v w : Int64} {f g : Nat → Bool} (h : CS v f) (h1 : CS w g) : CS (v &&& (w ^^^ (-1))) fun c => f c && !g c := fun c hc => by
  rw [t_and, t_not, h c hc, h1 c hc]
  by_cases q : c < 36 <;> simp [q, hc]
theorem CS.all : CS 68719476735 fun _ => true := fun c _ => by rw [t_all]; simp
theorem CS.no : CS 0 fun _ => false := fun c _ => by rw [t_0]; simp
theorem CS.one {c : Nat} (hc : c < 36) : CS ((1 : Int64) <<< ((nI c).toInt64 &&& 63)) fun e => decide (e = c) := fun e _ => by
  rw [t_1shl (by omega)]
  by_cases q : e = c
  · subst q; simp [hc]
  · simp [q]
theorem CS.zero {v : Int64} {f : Nat → Bool} (h : CS v f) : v = 0 ↔ ∀ c, c < 36 → f c = false := h.e CS.no
theorem CS.lg0 {v : Int64} {f : Nat → Bool} (h : CS v f) : lg_cmp v 0 = 0 ↔ ∀ c, c < 36 → f c = false := lgc.trans h.zero
theorem CS.lg {v w : Int64} {f g : Nat → Bool} (h : CS v f) (h1 : CS w g) : lg_cmp v w = 0 ↔ ∀ c, c < 36 → f c = g c := lgc.trans (h.e h1)
theorem CS.bit {v : Int64} {f : Nat → Bool} (h : CS v f) {c : Nat} (hc : c < 36) : (v >>> ((nI c).toInt64 &&& 63)) &&& 1 = if f c then 1 else 0 := by
  rw [t_bit (by omega), h c (by omega)]
  simp [hc]
theorem CS.bit0 {v : Int64} {f : Nat → Bool} (h : CS v f) {c : Nat} (hc : c < 36) : lg_cmp ((v >>> ((nI c).toInt64 &&& 63)) &&& 1) 0 = 0 ↔ f c = false := by
  rw [h.bit hc, lgc]
  cases f c <;> simp
theorem CS.cnt {v : Int64} {f : Nat → Bool} (h : CS v f) : f_Lng_bitCount v = some (nI (cnt f 36)) := by
  rw [f_bitCount, show (64 : Nat) = 36 + 28 from rfl, cnt_congr (q := fun c => decide (c < 36) && f c) (fun i hi => h i (by omega)), cnt_big (a := 36) (fun i hi => by simp; omega)]
  rw [cnt_congr (p := fun c => decide (c < 36) && f c) (q := f) fun i hi => by simp [hi]]
