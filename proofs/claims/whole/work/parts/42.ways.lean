/-! Ways to fill a constraint. -/
/-- the digits from place i on, m of them, fill the rest of the sum -/
def Ch (O : Nat → Nat → Bool) (df : Bool) : Nat → Nat → Nat → (Nat → Bool) → (Nat → Nat) → Prop
  | 0, _, rest, _, _ => rest = 0
  | m + 1, i, rest, U, v => isD (v i) = true ∧ O i (v i) = true ∧ U (v i) = false ∧ v i ≤ rest ∧ Ch O df m (i + 1) (rest - v i) (fun d => df && (U d || decide (d = v i))) v
theorem Ch_le {O : Nat → Nat → Bool} {df : Bool} : ∀ {m i rest : Nat} {U : Nat → Bool} {v : Nat → Nat}, Ch O df m i rest U v → rest ≤ 6 * m ∧ m ≤ rest := by
  intro m
  induction m with
  | zero => intro i rest U v h; have : rest = 0 := h; omega
  | succ m ih =>
    intro i rest U v h
    obtain ⟨h1, h2, h3, h4, h5⟩ := h
    have := ih h5
    have := isD_b h1
    omega
theorem Ch_v {O : Nat → Nat → Bool} {df : Bool} : ∀ {m i rest : Nat} {U : Nat → Bool} {v w : Nat → Nat}, (∀ j, i ≤ j → v j = w j) → Ch O df m i rest U v → Ch O df m i rest U w := by
  intro m
  induction m with
  | zero => intro i rest U v w _ h; exact h
  | succ m ih =>
    intro i rest U v w e h
    obtain ⟨h1, h2, h3, h4, h5⟩ := h
    rw [e i (Nat.le_refl _)] at h1 h2 h3 h4 h5
    exact ⟨h1, h2, h3, h4, ih (fun j hj => e j (by omega)) h5⟩
theorem smN_shift (v : Nat → Nat) : ∀ k, smN v (k + 1) = v 0 + smN (fun i => v (i + 1)) k := by
  intro k
  induction k with
  | zero => show 0 + v 0 = v 0 + 0; omega
  | succ k ih => show smN v (k + 1) + v (k + 1) = v 0 + (smN (fun i => v (i + 1)) k + v (k + 1)); omega
theorem Ch_i {O : Nat → Nat → Bool} {df : Bool} : ∀ {m i rest : Nat} {U : Nat → Bool} {v : Nat → Nat}, (df = false → ∀ d, U d = false) →
    (Ch O df m i rest U v ↔ (∀ j, i ≤ j → j < i + m → isD (v j) = true ∧ O j (v j) = true ∧ U (v j) = false) ∧ smN (fun t => v (i + t)) m = rest ∧ (df = true → ∀ a b, i ≤ b → b < a → a < i + m → v a ≠ v b)) := by
  intro m
  induction m with
  | zero =>
    intro i rest U v hU
    show rest = 0 ↔ _
    constructor
    · intro h
      exact ⟨fun j h1 h2 => by omega, h.symm, fun _ a b h1 h2 h3 => by omega⟩
    · rintro ⟨_, h, _⟩
      exact h.symm
  | succ m ih =>
    intro i rest U v hU
    have ih' := ih (i := i + 1) (rest := rest - v i) (U := fun d => df && (U d || decide (d = v i))) (v := v) (fun h d => by simp [h])
    show (isD (v i) = true ∧ O i (v i) = true ∧ U (v i) = false ∧ v i ≤ rest ∧ _) ↔ _
    rw [ih']
    have hs : smN (fun t => v (i + t)) (m + 1) = v i + smN (fun t => v (i + 1 + t)) m := by
      rw [smN_shift]
      congr 1
      exact smN_ext fun t _ => by congr 1; omega
    rw [hs]
    constructor
    · rintro ⟨h1, h2, h3, h4, h5, h6, h7⟩
      refine ⟨fun j hj hl => ?_, by omega, fun hd a b q1 q2 q3 => ?_⟩
      · by_cases w : j = i
        · subst w; exact ⟨h1, h2, h3⟩
        · obtain ⟨x1, x2, x3⟩ := h5 j (by omega) (by omega)
          refine ⟨x1, x2, ?_⟩
          cases hdf : df
          · exact hU hdf _
          · simp only [hdf, Bool.true_and, Bool.or_eq_false_iff] at x3
            exact x3.1
      · by_cases w : b = i
        · subst w
          have := (h5 a (by omega) (by omega)).2.2
          simp only [hd, Bool.true_and, Bool.or_eq_false_iff, decide_eq_false_iff_not] at this
          exact this.2
        · exact h7 hd a b (by omega) q2 (by omega)
    · rintro ⟨h1, h2, h3⟩
      obtain ⟨x1, x2, x3⟩ := h1 i (Nat.le_refl _) (by omega)
      refine ⟨x1, x2, x3, by omega, fun j hj hl => ?_, by omega, fun hd a b q1 q2 q3 => h3 hd a b (by omega) q2 (by omega)⟩
      obtain ⟨y1, y2, y3⟩ := h1 j (by omega) (by omega)
      refine ⟨y1, y2, ?_⟩
      cases hdf : df
      · simp
      · have := h3 hdf j i (Nat.le_refl _) (by omega) (by omega)
        simp [y3, this]
theorem Kp_isD {R : RT} {K : Nat → Nat → Bool} {k j d : Nat} (hj : j < rl R k) (h : Kp R K k j d) : isD d = true ∧ K (rc R k j) d = true := by
  obtain ⟨v, h1, _, h3⟩ := h
  subst h3
  exact h1 j hj
theorem Kp_cage {R : RT} {K : Nat → Nat → Bool} {k j d : Nat} (hk : rk R k = 0) : Kp R K k j d ↔ ∃ v, Ch (fun i => K (rc R k i)) true (rl R k) 0 (rs R k) (fun _ => false) v ∧ v j = d := by
  unfold Kp Way
  constructor
  · rintro ⟨v, h1, ⟨h2, _, _⟩, h3⟩
    refine ⟨v, (Ch_i (fun q => by cases q)).mpr ⟨fun i _ hi => ?_, ?_, fun _ a b _ q2 q3 => (h2 hk).2 a b (by omega) q2⟩, h3⟩
    · obtain ⟨x1, x2⟩ := h1 i (by omega)
      exact ⟨x1, x2, rfl⟩
    · rw [← (h2 hk).1]
      exact smN_ext fun t _ => by congr 1; omega
  · rintro ⟨v, h1, h3⟩
    obtain ⟨x1, x2, x3⟩ := (Ch_i (fun q => by cases q)).mp h1
    refine ⟨v, fun i hi => ⟨(x1 i (by omega) (by omega)).1, (x1 i (by omega) (by omega)).2.1⟩, ⟨fun _ => ⟨?_, fun i j hi hj => x3 rfl i j (by omega) hj (by omega)⟩, fun q => by omega, fun q => by omega⟩, h3⟩
    rw [← x2]
    exact smN_ext fun t _ => by congr 1; omega
theorem Kp_arrow {R : RT} {K : Nat → Nat → Bool} {k j d : Nat} (hk : rk R k = 1) (hn : 1 ≤ rl R k) : Kp R K k j d ↔ ∃ t v, isD t = true ∧ K (rc R k 0) t = true ∧ Ch (fun i => K (rc R k i)) false (rl R k - 1) 1 t (fun _ => false) v ∧ (if j = 0 then t else v j) = d := by
  obtain ⟨n, hn'⟩ : ∃ n, rl R k = n + 1 := ⟨rl R k - 1, by omega⟩
  unfold Kp Way
  rw [hn']
  constructor
  · rintro ⟨v, h1, ⟨_, h2, _⟩, h3⟩
    obtain ⟨x1, x2⟩ := h1 0 (by omega)
    refine ⟨v 0, v, x1, x2, (Ch_i (fun _ _ => rfl)).mpr ⟨fun i _ hi => ?_, ?_, fun q => by cases q⟩, ?_⟩
    · obtain ⟨y1, y2⟩ := h1 i (by omega)
      exact ⟨y1, y2, rfl⟩
    · have := h2 hk
      rw [smN_shift] at this
      have e : smN (fun t => v (1 + t)) (n + 1 - 1) = smN (fun i => v (i + 1)) n := smN_ext fun t _ => by congr 1; omega
      rw [e]
      omega
    · split
      · rename_i q; subst q; exact h3
      · exact h3
  · rintro ⟨t, v, h0, h1, h2, h3⟩
    obtain ⟨x1, x2, _⟩ := (Ch_i (fun _ _ => rfl)).mp h2
    refine ⟨fun i => if i = 0 then t else v i, fun i hi => ?_, ⟨fun q => by omega, fun _ => ?_, fun q => by omega⟩, h3⟩
    · by_cases w : i = 0
      · subst w; exact ⟨h0, h1⟩
      · simp only [w, if_false]
        exact ⟨(x1 i (by omega) (by omega)).1, (x1 i (by omega) (by omega)).2.1⟩
    · rw [smN_shift]
      have e : smN (fun i => if i + 1 = 0 then t else v (i + 1)) n = smN (fun t => v (1 + t)) (n + 1 - 1) := smN_ext fun i _ => by
        show (if i + 1 = 0 then t else v (i + 1)) = v (1 + i)
        rw [if_neg (by omega), Nat.add_comm]
      rw [e, x2]
      show t + t = 2 * t
      omega
theorem hid_ext {p q : Nat → Bool} (h : ∀ d, isD d = true → p d = q d) : hid p = hid q := by
  unfold hid
  rw [h 1 rfl, h 2 rfl, h 3 rfl, h 4 rfl, h 5 rfl, h 6 rfl]
/-- what the neighbours on a thermometer leave -/
def nbr (n : Nat) (Y : Nat → Nat → Bool) (i d : Nat) : Bool := (decide (i = 0) || decide (lod (Y (i - 1)) < d)) && (decide (n ≤ i + 1) || decide (d < hid (Y (i + 1))))
/-- ascending digits -/
def Asc (n : Nat) (O : Nat → Nat → Bool) (v : Nat → Nat) : Prop := (∀ i, i < n → isD (v i) = true ∧ O i (v i) = true) ∧ ∀ i, i + 1 < n → v i < v (i + 1)
theorem lod_le {p : Nat → Bool} {d : Nat} (hd : isD d = true) (h : p d = true) : lod p ≤ d := by
  have hz : sz p ≠ 0 := fun z => by rw [sz_0.mp z d hd] at h; cases h
  obtain ⟨_, _, h3⟩ := lod_x hz
  rcases Nat.lt_or_ge d (lod p) with q | q
  · rw [h3 d hd q] at h; cases h
  · exact q
theorem hid_le {p : Nat → Bool} {d : Nat} (hd : isD d = true) (h : p d = true) : d ≤ hid p := by
  have hz : sz p ≠ 0 := fun z => by rw [sz_0.mp z d hd] at h; cases h
  obtain ⟨_, _, h3⟩ := hid_x hz
  rcases Nat.lt_or_ge (hid p) d with q | q
  · rw [h3 d hd q] at h; cases h
  · exact q
theorem Asc_nbr {n : Nat} {O Y : Nat → Nat → Bool} {v : Nat → Nat} (h : Asc n O v) (hY : ∀ j, j < n → Y j (v j) = true) {i : Nat} (hi : i < n) : nbr n Y i (v i) = true := by
  unfold nbr
  rw [Bool.and_eq_true, Bool.or_eq_true, Bool.or_eq_true, decide_eq_true_iff, decide_eq_true_iff, decide_eq_true_iff, decide_eq_true_iff]
  constructor
  · by_cases w : i = 0
    · exact Or.inl w
    · right
      have h1 := h.2 (i - 1) (by omega)
      rw [show i - 1 + 1 = i by omega] at h1
      exact Nat.lt_of_le_of_lt (lod_le (h.1 (i - 1) (by omega)).1 (hY (i - 1) (by omega))) h1
  · by_cases w : n ≤ i + 1
    · exact Or.inl w
    · right
      exact Nat.lt_of_lt_of_le (h.2 i (by omega)) (hid_le (h.1 (i + 1) (by omega)).1 (hY (i + 1) (by omega)))
theorem sz_of {p : Nat → Bool} {d : Nat} (hd : isD d = true) (h : p d = true) : sz p ≠ 0 := fun z => by rw [sz_0.mp z d hd] at h; cases h
theorem nbr_lo {n : Nat} {Y : Nat → Nat → Bool} {i d : Nat} (h : nbr n Y i d = true) (h0 : i ≠ 0) : lod (Y (i - 1)) < d := by
  unfold nbr at h
  rw [Bool.and_eq_true, Bool.or_eq_true, Bool.or_eq_true, decide_eq_true_iff, decide_eq_true_iff] at h
  rcases h.1 with q | q
  · exact absurd q h0
  · exact q
theorem nbr_hi {n : Nat} {Y : Nat → Nat → Bool} {i d : Nat} (h : nbr n Y i d = true) (h0 : i + 1 < n) : d < hid (Y (i + 1)) := by
  unfold nbr at h
  rw [Bool.and_eq_true, Bool.or_eq_true, Bool.or_eq_true, decide_eq_true_iff, decide_eq_true_iff, decide_eq_true_iff, decide_eq_true_iff] at h
  rcases h.2 with q | q
  · omega
  · exact q
/-- where nothing more can be removed each digit is part of a way -/
theorem fix_way {n : Nat} {O Y : Nat → Nat → Bool} (hO : ∀ j, j < n → ∀ d, isD d = true → Y j d = true → O j d = true) (hf : ∀ j, j < n → ∀ d, isD d = true → Y j d = true → nbr n Y j d = true) {j d : Nat} (hj : j < n) (hd : isD d = true) (h : Y j d = true) :
    ∃ v, Asc n O v ∧ v j = d := by
  have hdn : ∀ m, m ≤ j → sz (Y (j - m)) ≠ 0 := by
    intro m
    induction m with
    | zero => intro _; exact sz_of hd h
    | succ m ih =>
      intro hm
      have h1 := ih (by omega)
      obtain ⟨x1, x2, _⟩ := lod_x h1
      have h2 := nbr_lo (hf (j - m) (by omega) _ x1 x2) (by omega)
      intro z
      rw [show j - (m + 1) = j - m - 1 by omega] at z
      rw [lod_n z] at h2
      have := isD_b x1
      omega
  have hup : ∀ m, j + m < n → sz (Y (j + m)) ≠ 0 := by
    intro m
    induction m with
    | zero => intro _; exact sz_of hd h
    | succ m ih =>
      intro hm
      have h1 := ih (by omega)
      obtain ⟨x1, x2, _⟩ := lod_x h1
      have h2 := nbr_hi (hf (j + m) (by omega) _ x1 x2) (by omega)
      intro z
      rw [show j + m + 1 = j + (m + 1) by omega, hid_n z] at h2
      omega
  have hall : ∀ i, i < n → sz (Y i) ≠ 0 := by
    intro i hi
    rcases Nat.lt_or_ge i j with q | q
    · have := hdn (j - i) (by omega)
      rwa [show j - (j - i) = i by omega] at this
    · have := hup (i - j) (by omega)
      rwa [show j + (i - j) = i by omega] at this
  refine ⟨fun i => if i < j then lod (Y i) else if i = j then d else hid (Y i), ⟨fun i hi => ?_, fun i hi => ?_⟩, by simp⟩
  · show isD (if i < j then lod (Y i) else if i = j then d else hid (Y i)) = true ∧ O i (if i < j then lod (Y i) else if i = j then d else hid (Y i)) = true
    split
    · obtain ⟨x1, x2, _⟩ := lod_x (hall i hi)
      exact ⟨x1, hO i hi _ x1 x2⟩
    split
    · rename_i q; subst q; exact ⟨hd, hO _ hi _ hd h⟩
    · obtain ⟨x1, x2, _⟩ := hid_x (hall i hi)
      exact ⟨x1, hO i hi _ x1 x2⟩
  · show (if i < j then lod (Y i) else if i = j then d else hid (Y i)) < (if i + 1 < j then lod (Y (i + 1)) else if i + 1 = j then d else hid (Y (i + 1)))
    rcases Nat.lt_trichotomy (i + 1) j with q | q | q
    · rw [if_pos (by omega), if_pos q]
      obtain ⟨x1, x2, _⟩ := lod_x (hall (i + 1) (by omega))
      have := nbr_lo (hf (i + 1) (by omega) _ x1 x2) (by omega)
      rwa [Nat.add_sub_cancel] at this
    · rw [if_pos (by omega), if_neg (by omega), if_pos q]
      subst q
      have := nbr_lo (hf (i + 1) hj _ hd h) (by omega)
      rwa [Nat.add_sub_cancel] at this
    · rw [if_neg (by omega)]
      rw [if_neg (show ¬ i + 1 < j by omega), if_neg (show ¬ i + 1 = j by omega)]
      split
      · rename_i w
        subst w
        exact nbr_hi (hf i hj _ hd h) hi
      · obtain ⟨x1, x2, _⟩ := hid_x (hall i (by omega))
        exact nbr_hi (hf i (by omega) _ x1 x2) hi
theorem Kp_therm {R : RT} {K : Nat → Nat → Bool} {k j d : Nat} (hk : rk R k = 2) : Kp R K k j d ↔ ∃ v, Asc (rl R k) (fun i => K (rc R k i)) v ∧ v j = d := by
  unfold Kp Way
  constructor
  · rintro ⟨v, h1, ⟨_, _, h2⟩, h3⟩
    exact ⟨v, ⟨h1, h2 hk⟩, h3⟩
  · rintro ⟨v, ⟨h1, h2⟩, h3⟩
    exact ⟨v, h1, ⟨fun q => by omega, fun q => by omega, fun _ => h2⟩, h3⟩
/-- what is left between the sweeps: nothing of a way is gone -/
def Swp (n : Nat) (O Y : Nat → Nat → Bool) : Prop := (∀ j, j < n → ∀ d, isD d = true → Y j d = true → O j d = true) ∧ ∀ v, Asc n O v → ∀ j, j < n → Y j (v j) = true
theorem Swp.s {n : Nat} {O Y Y' : Nat → Nat → Bool} (h : Swp n O Y) {i : Nat} (hi : i < n) (e : ∀ j, j < n → ∀ d, isD d = true → Y' j d = (Y j d && (!decide (j = i) || nbr n Y i d))) : Swp n O Y' := by
  refine ⟨fun j hj d hd q => ?_, fun v hv j hj => ?_⟩
  · rw [e j hj d hd, Bool.and_eq_true] at q
    exact h.1 j hj d hd q.1
  · rw [e j hj (v j) (hv.1 j hj).1, h.2 v hv j hj]
    by_cases w : j = i
    · subst w
      rw [Asc_nbr hv (h.2 v hv) hj]
      simp
    · simp [w]
theorem Swp.fix {R : RT} {K : Nat → Nat → Bool} {k : Nat} (hk : rk R k = 2) {Y : Nat → Nat → Bool} (h : Swp (rl R k) (fun i => K (rc R k i)) Y) (hf : ∀ j, j < rl R k → ∀ d, isD d = true → Y j d = true → nbr (rl R k) Y j d = true) {j d : Nat} (hj : j < rl R k) (hd : isD d = true) : Y j d = true ↔ Kp R K k j d := by
  rw [Kp_therm hk]
  constructor
  · intro q
    exact fix_way h.1 hf hj hd q
  · rintro ⟨v, h1, h2⟩
    subst h2
    exact h.2 v h1 j hj
