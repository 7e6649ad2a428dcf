/-! Bits: Int32 by its bits is a starting text (BITS.to-paste), Int64 alike. -/
def bt (x : Int32) (i : Nat) : Bool := x.toBitVec.getLsbD i
theorem b_ext {x y : Int32} (h : ∀ i, i < 32 → bt x i = bt y i) : x = y := Int32.toBitVec_inj.mp (BitVec.eq_of_getLsbD_eq (fun i hi => h i hi))
theorem b_or (x y : Int32) (i : Nat) : bt (x ||| y) i = (bt x i || bt y i) := by unfold bt; rw [Int32.toBitVec_or, BitVec.getLsbD_or]
theorem b_and (x y : Int32) (i : Nat) : bt (x &&& y) i = (bt x i && bt y i) := by unfold bt; rw [Int32.toBitVec_and, BitVec.getLsbD_and]
theorem b_xor (x y : Int32) (i : Nat) : bt (x ^^^ y) i = (bt x i ^^ bt y i) := by unfold bt; rw [Int32.toBitVec_xor, BitVec.getLsbD_xor]
theorem b_big {x : Int32} {i : Nat} (h : 32 ≤ i) : bt x i = false := BitVec.getLsbD_of_ge _ _ h
theorem b_255 (i : Nat) : bt 255 i = decide (i < 8) := by
  rcases Nat.lt_or_ge i 32 with h | h
  · exact (by decide +kernel : ∀ i, i < 32 → bt 255 i = decide (i < 8)) i h
  · rw [b_big h, decide_eq_false (by omega)]
theorem b_65535 (i : Nat) : bt 65535 i = decide (i < 16) := by
  rcases Nat.lt_or_ge i 32 with h | h
  · exact (by decide +kernel : ∀ i, i < 32 → bt 65535 i = decide (i < 16)) i h
  · rw [b_big h, decide_eq_false (by omega)]
theorem b_m1 : ∀ i, i < 32 → bt (-1) i = true := by decide +kernel
theorem b_0 (i : Nat) : bt 0 i = false := BitVec.getLsbD_zero
theorem s_l : ∀ n, n < 32 → ((nI n &&& 31).toBitVec.smod 32).toNat = n := by decide +kernel
theorem s_u : ∀ n, n < 32 → (((nI n).toUInt32 &&& Int32.toUInt32 31).toBitVec % 32).toNat = n := by decide +kernel
theorem b_shl (n : Nat) (hn : n < 32) (x : Int32) {i : Nat} (hi : i < 32) : bt (x <<< (nI n &&& 31)) i = (decide (n ≤ i) && bt x (i - n)) := by
  unfold bt
  rw [Int32.toBitVec_shiftLeft]
  show (x.toBitVec <<< ((nI n &&& 31).toBitVec.smod 32).toNat).getLsbD i = _
  rw [s_l n hn, BitVec.getLsbD_shiftLeft]
  rcases Nat.lt_or_ge i n with h | h
  · simp [h, Nat.not_le.mpr h]
  · simp [hi, h, Nat.not_lt.mpr h]
theorem b_ushr (n : Nat) (hn : n < 32) (x : Int32) (i : Nat) : bt ((x.toUInt32 >>> ((nI n).toUInt32 &&& Int32.toUInt32 31)).toInt32) i = bt x (n + i) := by
  show (x.toUInt32 >>> ((nI n).toUInt32 &&& Int32.toUInt32 31)).toBitVec.getLsbD i = x.toUInt32.toBitVec.getLsbD (n + i)
  rw [UInt32.toBitVec_shiftRight]
  show (x.toUInt32.toBitVec >>> (((nI n).toUInt32 &&& Int32.toUInt32 31).toBitVec % 32).toNat).getLsbD i = _
  rw [s_u n hn, BitVec.getLsbD_ushiftRight]
theorem b_sshr (n : Nat) (hn : n < 32) (x : Int32) {i : Nat} (hi : i < 32) : bt (x >>> (nI n &&& 31)) i = if n + i < 32 then bt x (n + i) else bt x 31 := by
  unfold bt
  rw [Int32.toBitVec_shiftRight]
  show (x.toBitVec.sshiftRight ((nI n &&& 31).toBitVec.smod 32).toNat).getLsbD i = _
  rw [s_l n hn, BitVec.getLsbD_sshiftRight, BitVec.msb_eq_getLsbD_last]
  simp [hi]
theorem b_shl8 (x : Int32) {i : Nat} (hi : i < 32) : bt (x <<< ((8 : Int32) &&& 31)) i = (decide (8 ≤ i) && bt x (i - 8)) := b_shl 8 (by omega) x hi
theorem b_shl16 (x : Int32) {i : Nat} (hi : i < 32) : bt (x <<< ((16 : Int32) &&& 31)) i = (decide (16 ≤ i) && bt x (i - 16)) := b_shl 16 (by omega) x hi
theorem b_shl24 (x : Int32) {i : Nat} (hi : i < 32) : bt (x <<< ((24 : Int32) &&& 31)) i = (decide (24 ≤ i) && bt x (i - 24)) := b_shl 24 (by omega) x hi
theorem b_sshr8 (x : Int32) {i : Nat} (hi : i < 32) : bt (x >>> ((8 : Int32) &&& 31)) i = if 8 + i < 32 then bt x (8 + i) else bt x 31 := b_sshr 8 (by omega) x hi
/-! ===== Int64 by its bits: tb x i ===== -/
def tb (x : Int64) (i : Nat) : Bool := x.toBitVec.getLsbD i
theorem t_ext {x y : Int64} (h : ∀ i, i < 64 → tb x i = tb y i) : x = y := Int64.toBitVec_inj.mp (BitVec.eq_of_getLsbD_eq (fun i hi => h i hi))
theorem t_or (x y : Int64) (i : Nat) : tb (x ||| y) i = (tb x i || tb y i) := by unfold tb; rw [Int64.toBitVec_or, BitVec.getLsbD_or]
theorem t_and (x y : Int64) (i : Nat) : tb (x &&& y) i = (tb x i && tb y i) := by unfold tb; rw [Int64.toBitVec_and, BitVec.getLsbD_and]
theorem t_xor (x y : Int64) (i : Nat) : tb (x ^^^ y) i = (tb x i ^^ tb y i) := by unfold tb; rw [Int64.toBitVec_xor, BitVec.getLsbD_xor]
theorem t_big {x : Int64} {i : Nat} (h : 64 ≤ i) : tb x i = false := BitVec.getLsbD_of_ge _ _ h
theorem t_m1 : ∀ i, i < 64 → tb (-1) i = true := by decide +kernel
theorem t_0 (i : Nat) : tb 0 i = false := BitVec.getLsbD_zero
theorem t_1 (i : Nat) : tb 1 i = decide (i = 0) := by
  rcases Nat.lt_or_ge i 64 with h | h
  · exact (by decide +kernel : ∀ i, i < 64 → tb 1 i = decide (i = 0)) i h
  · rw [t_big h, decide_eq_false (by omega)]
theorem t_all (i : Nat) : tb 68719476735 i = decide (i < 36) := by
  rcases Nat.lt_or_ge i 64 with h | h
  · exact (by decide +kernel : ∀ i, i < 64 → tb 68719476735 i = decide (i < 36)) i h
  · rw [t_big h, decide_eq_false (by omega)]
theorem t_not (x : Int64) (i : Nat) : tb (x ^^^ (-1)) i = (decide (i < 64) && !tb x i) := by
  rw [t_xor]
  rcases Nat.lt_or_ge i 64 with h | h
  · rw [t_m1 i h]; simp [h]
  · rw [t_big h, t_big h]; simp [Nat.not_lt.mpr h]
theorem t_sl : ∀ n, n < 64 → (((nI n).toInt64 &&& 63).toBitVec.smod 64).toNat = n := by decide +kernel
theorem t_su : ∀ n, n < 64 → (((nI n).toInt64.toUInt64 &&& Int64.toUInt64 63).toBitVec % 64).toNat = n := by decide +kernel
theorem t_shl (n : Nat) (hn : n < 64) (x : Int64) {i : Nat} (hi : i < 64) : tb (x <<< ((nI n).toInt64 &&& 63)) i = (decide (n ≤ i) && tb x (i - n)) := by
  unfold tb
  rw [Int64.toBitVec_shiftLeft]
  show (x.toBitVec <<< (((nI n).toInt64 &&& 63).toBitVec.smod 64).toNat).getLsbD i = _
  rw [t_sl n hn, BitVec.getLsbD_shiftLeft]
  rcases Nat.lt_or_ge i n with h | h
  · simp [h, Nat.not_le.mpr h]
  · simp [hi, h, Nat.not_lt.mpr h]
theorem t_1shl {c : Nat} (hc : c < 64) (i : Nat) : tb ((1 : Int64) <<< ((nI c).toInt64 &&& 63)) i = decide (i = c) := by
  rcases Nat.lt_or_ge i 64 with h | h
  · rw [t_shl c hc 1 h, t_1]
    by_cases q : i = c
    · subst q; simp
    · rcases Nat.lt_or_ge i c with g | g
      · simp [Nat.not_le.mpr g, q]
      · simp [q]; omega
  · rw [t_big h, decide_eq_false (by omega)]
theorem t_sshr (n : Nat) (hn : n < 64) (x : Int64) {i : Nat} (hi : i < 64) : tb (x >>> ((nI n).toInt64 &&& 63)) i = if n + i < 64 then tb x (n + i) else tb x 63 := by
  unfold tb
  rw [Int64.toBitVec_shiftRight]
  show (x.toBitVec.sshiftRight (((nI n).toInt64 &&& 63).toBitVec.smod 64).toNat).getLsbD i = _
  rw [t_sl n hn, BitVec.getLsbD_sshiftRight, BitVec.msb_eq_getLsbD_last]
  simp [hi]
theorem t_ushr (n : Nat) (hn : n < 64) (x : Int64) (i : Nat) : tb ((x.toUInt64 >>> ((nI n).toInt64.toUInt64 &&& Int64.toUInt64 63)).toInt64) i = tb x (n + i) := by
  show (x.toUInt64 >>> ((nI n).toInt64.toUInt64 &&& Int64.toUInt64 63)).toBitVec.getLsbD i = x.toUInt64.toBitVec.getLsbD (n + i)
  rw [UInt64.toBitVec_shiftRight]
  show (x.toUInt64.toBitVec >>> (((nI n).toInt64.toUInt64 &&& Int64.toUInt64 63).toBitVec % 64).toNat).getLsbD i = _
  rw [t_su n hn, BitVec.getLsbD_ushiftRight]
/-- one bit by a shift -/
theorem t_bit {c : Nat} (hc : c < 64) (x : Int64) : (x >>> ((nI c).toInt64 &&& 63)) &&& 1 = if tb x c then 1 else 0 := by
  apply t_ext
  intro i hi
  rw [t_and, t_1]
  by_cases q : i = 0
  · subst q
    rw [t_sshr c hc x (by omega)]
    simp only [Nat.add_zero, hc, if_true]
    cases tb x c <;> simp [t_0, t_1]
  · cases tb x c <;> simp [t_0, t_1, q]
theorem lgc {x y : Int64} : lg_cmp x y = 0 ↔ x = y := by
  unfold lg_cmp
  by_cases h : x = y
  · subst h
    have : ¬ x > x := Int64.lt_irrefl
    simp [this]
  · by_cases g : x > y
    · simp [g, h]
    · simp [g, h]
theorem b_1shl {c : Nat} (hc : c < 32) (i : Nat) : bt ((1 : Int32) <<< (nI c &&& 31)) i = decide (i = c) := by
  rcases Nat.lt_or_ge i 32 with h | h
  · have b1 : ∀ i, i < 32 → bt 1 i = decide (i = 0) := by decide +kernel
    rw [b_shl c hc 1 h, b1 _ (by omega)]
    by_cases q : i = c
    · subst q; simp
    · rcases Nat.lt_or_ge i c with g | g
      · simp [Nat.not_le.mpr g, q]
      · simp [q]; omega
  · rw [b_big h, decide_eq_false (by omega)]
theorem b_1 (i : Nat) : bt 1 i = decide (i = 0) := by
  rcases Nat.lt_or_ge i 32 with h | h
  · exact (by decide +kernel : ∀ i, i < 32 → bt 1 i = decide (i = 0)) i h
  · rw [b_big h, decide_eq_false (by omega)]
theorem b_not (x : Int32) (i : Nat) : bt (x ^^^ (-1)) i = (decide (i < 32) && !bt x i) := by
  rw [b_xor]
  rcases Nat.lt_or_ge i 32 with h | h
  · rw [b_m1 i h]; simp [h]
  · rw [b_big h, b_big h]; simp [Nat.not_lt.mpr h]
theorem b_126 (i : Nat) : bt 126 i = decide (1 ≤ i ∧ i < 7) := by
  rcases Nat.lt_or_ge i 32 with h | h
  · exact (by decide +kernel : ∀ i, i < 32 → bt 126 i = decide (1 ≤ i ∧ i < 7)) i h
  · rw [b_big h, decide_eq_false (by omega)]
theorem b_bit {c : Nat} (hc : c < 32) (x : Int32) : (x >>> (nI c &&& 31)) &&& 1 = if bt x c then 1 else 0 := by
  apply b_ext
  intro i hi
  rw [b_and, b_1]
  by_cases q : i = 0
  · subst q
    rw [b_sshr c hc x (by omega)]
    simp only [Nat.add_zero, hc, if_true]
    cases bt x c <;> simp [b_0, b_1]
  · cases bt x c <;> simp [b_0, b_1, q]
theorem b_bit0 {c : Nat} (hc : c < 32) (x : Int32) : ((x >>> (nI c &&& 31)) &&& 1 = 0) ↔ bt x c = false := by
  rw [b_bit hc]
  cases bt x c <;> simp
/-- counting -/
def cnt (p : Nat → Bool) : Nat → Nat
  | 0 => 0
  | k + 1 => cnt p k + (if p k then 1 else 0)
theorem cnt_le (p : Nat → Bool) : ∀ k, cnt p k ≤ k := by
  intro k
  induction k with
  | zero => exact Nat.le_refl _
  | succ k ih => unfold cnt; split <;> omega
theorem cnt_congr {p q : Nat → Bool} : ∀ {k : Nat}, (∀ i, i < k → p i = q i) → cnt p k = cnt q k := by
  intro k
  induction k with
  | zero => intro _; rfl
  | succ k ih => intro h; unfold cnt; rw [ih (fun i hi => h i (by omega)), h k (by omega)]
theorem cnt_0 {p : Nat → Bool} : ∀ {k : Nat}, cnt p k = 0 ↔ ∀ i, i < k → p i = false := by
  intro k
  induction k with
  | zero => exact ⟨fun _ i hi => absurd hi (Nat.not_lt_zero i), fun _ => rfl⟩
  | succ k ih =>
    unfold cnt
    constructor
    · intro h i hi
      have h1 : cnt p k = 0 := by omega
      by_cases q : i = k
      · subst q
        cases hp : p i with
        | false => rfl
        | true => rw [hp] at h; simp at h
      · exact ih.mp h1 i (by omega)
    · intro h
      rw [ih.mpr (fun i hi => h i (by omega)), h k (by omega)]
      rfl
theorem cnt_add (p : Nat → Bool) (a : Nat) : ∀ b, cnt p (a + b) = cnt p a + cnt (fun i => p (a + i)) b := by
  intro b
  induction b with
  | zero => rfl
  | succ b ih =>
    show cnt p (a + b) + (if p (a + b) then 1 else 0) = cnt p a + (cnt (fun i => p (a + i)) b + (if p (a + b) then 1 else 0))
    rw [ih, Nat.add_assoc]
theorem cnt_big {p : Nat → Bool} {a : Nat} (h : ∀ i, a ≤ i → p i = false) : ∀ b, cnt p (a + b) = cnt p a := by
  intro b
  have h0 : cnt (fun i => p (a + i)) b = 0 := cnt_0.mpr (fun i _ => h _ (Nat.le_add_right a i))
  rw [cnt_add, h0]
  rfl
theorem cnt_or {p q r : Nat → Bool} : ∀ {k : Nat}, (∀ i, i < k → r i = (p i || q i)) → (∀ i, i < k → p i = true → q i = false) → cnt r k = cnt p k + cnt q k := by
  intro k
  induction k with
  | zero => intro _ _; rfl
  | succ k ih =>
    intro h g
    have h1 := ih (fun i hi => h i (by omega)) (fun i hi => g i (by omega))
    have h2 := h k (by omega)
    have h3 := g k (by omega)
    unfold cnt
    rw [h1, h2]
    cases hp : p k with
    | false => simp; omega
    | true => rw [h3 hp]; simp; omega
theorem cnt_1 {p : Nat → Bool} : ∀ {k : Nat}, cnt p k = 1 ↔ ∃ j, j < k ∧ p j = true ∧ ∀ i, i < k → p i = true → i = j := by
  intro k
  induction k with
  | zero => exact ⟨fun h => (by cases h), fun ⟨j, h, _⟩ => absurd h (Nat.not_lt_zero j)⟩
  | succ k ih =>
    unfold cnt
    cases hp : p k with
    | false =>
      simp only [Bool.false_eq_true, if_false, Nat.add_zero]
      rw [ih]
      constructor
      · rintro ⟨j, h1, h2, h3⟩
        refine ⟨j, by omega, h2, fun i hi hq => ?_⟩
        by_cases e : i = k
        · subst e; rw [hp] at hq; cases hq
        · exact h3 i (by omega) hq
      · rintro ⟨j, h1, h2, h3⟩
        have : j ≠ k := fun e => by subst e; rw [hp] at h2; cases h2
        exact ⟨j, by omega, h2, fun i hi hq => h3 i (by omega) hq⟩
    | true =>
      simp only [if_true]
      constructor
      · intro h
        have h0 : cnt p k = 0 := by omega
        refine ⟨k, by omega, hp, fun i hi hq => ?_⟩
        by_cases e : i = k
        · exact e
        · rw [cnt_0.mp h0 i (by omega)] at hq; cases hq
      · rintro ⟨j, h1, h2, h3⟩
        have e := h3 k (by omega) hp
        rw [cnt_0.mpr (fun i hi => by
          cases hq : p i with
          | false => rfl
          | true => exact absurd ((h3 i (by omega) hq).trans e.symm) (by omega))]
