/-! Long.bitCount: the ones among 64 bits. -/
def mk (c : Nat) : Nat → Nat
  | 0 => 0
  | k + 1 => 256 * mk c k + c
/-- a byte-wise map -/
def mb (f : Nat → Nat) : Nat → Nat → Nat
  | 0, _ => 0
  | k + 1, n => 256 * mb f k (n / 256) + f (n % 256)
theorem and_256 (a b c d : Nat) (hb : b < 256) (hd : d < 256) : (256 * a + b) &&& (256 * c + d) = 256 * (a &&& c) + (b &&& d) := by
  apply Nat.eq_of_testBit_eq
  intro i
  have hbd : (b &&& d) < 2 ^ 8 := Nat.and_lt_two_pow b hd
  rw [Nat.testBit_and, show 256 * a + b = 2 ^ 8 * a + b from rfl, show 256 * c + d = 2 ^ 8 * c + d from rfl, show 256 * (a &&& c) + (b &&& d) = 2 ^ 8 * (a &&& c) + (b &&& d) from rfl,
    Nat.testBit_two_pow_mul_add a hb, Nat.testBit_two_pow_mul_add c hd, Nat.testBit_two_pow_mul_add (a &&& c) hbd]
  split
  · rw [Nat.testBit_and]
  · rw [Nat.testBit_and]
def pt1 (r : Nat) : Nat := r - ((r / 2) &&& 85)
def pt2 (r : Nat) : Nat := (r &&& 51) + ((r / 4) &&& 51)
def pu (r : Nat) : Nat := pt2 (pt1 r)
def pb (r : Nat) : Nat := cnt (fun i => r.testBit i) 8
theorem pd1 : ∀ c, c < 2 → ∀ r, r < 256 → (128 * c + r / 2) &&& 85 = (r / 2) &&& 85 ∧ ((r / 2) &&& 85) ≤ r ∧ pt1 r < 256 := by decide +kernel
theorem pd2 : ∀ c, c < 4 → ∀ r, r < 256 → (64 * c + r / 4) &&& 51 = (r / 4) &&& 51 := by decide +kernel
theorem pd3 : ∀ r, r < 256 → pu r < 256 ∧ pu r % 16 < 5 := by decide +kernel
theorem pd4 : ∀ c, c < 5 → ∀ r, r < 256 → pu r + 16 * c + pu r / 16 < 256 ∧ (pu r + 16 * c + pu r / 16) &&& 15 = pb r := by decide +kernel
theorem ps1 : ∀ k n, n < 256 ^ k → n - ((n / 2) &&& mk 85 k) = mb pt1 k n := by
  intro k
  induction k with
  | zero => intro n h; have : n = 0 := by simp at h; omega
            subst this; rfl
  | succ k ih =>
    intro n h
    have hq : n / 256 < 256 ^ k := by rw [Nat.pow_succ] at h; omega
    have hr : n % 256 < 256 := Nat.mod_lt _ (by decide)
    obtain ⟨e1, e2, -⟩ := pd1 (n / 256 % 2) (by omega) (n % 256) hr
    have e3 : n / 2 = 256 * (n / 256 / 2) + (128 * (n / 256 % 2) + n % 256 / 2) := by omega
    have e4 := ih (n / 256) hq
    have e5 : (n / 256 / 2 &&& mk 85 k) ≤ n / 256 := Nat.le_trans Nat.and_le_left (Nat.div_le_self _ _)
    rw [e3, mk, and_256 _ _ _ _ (by omega) (by decide), e1, mb, ← e4]
    unfold pt1
    omega
theorem ps2 : ∀ k n, n < 256 ^ k → (n &&& mk 51 k) + ((n / 4) &&& mk 51 k) = mb pt2 k n := by
  intro k
  induction k with
  | zero => intro n h; have : n = 0 := by simp at h; omega
            subst this; rfl
  | succ k ih =>
    intro n h
    have hq : n / 256 < 256 ^ k := by rw [Nat.pow_succ] at h; omega
    have hr : n % 256 < 256 := Nat.mod_lt _ (by decide)
    have e1 := pd2 (n / 256 % 4) (by omega) (n % 256) hr
    have e3 : n / 4 = 256 * (n / 256 / 4) + (64 * (n / 256 % 4) + n % 256 / 4) := by omega
    have e0 : n = 256 * (n / 256) + n % 256 := by omega
    have e4 := ih (n / 256) hq
    have e6 : n &&& mk 51 (k + 1) = 256 * (n / 256 &&& mk 51 k) + (n % 256 &&& 51) := by
      have h9 := and_256 (n / 256) (n % 256) (mk 51 k) 51 hr (by decide)
      rw [← e0] at h9
      exact h9
    rw [e6, e3, mk, and_256 _ _ _ _ (by omega) (by decide), e1, mb, ← e4]
    unfold pt2
    omega
theorem mb_lt (f : Nat → Nat) (hf : ∀ r, r < 256 → f r < 256) : ∀ k n, mb f k n < 256 ^ k := by
  intro k
  induction k with
  | zero => intro n; show 0 < 1; omega
  | succ k ih =>
    intro n
    have h1 := ih (n / 256)
    have h2 := hf (n % 256) (Nat.mod_lt _ (by decide))
    rw [mb, Nat.pow_succ]
    omega
theorem mb_mb (f g : Nat → Nat) (hf : ∀ r, r < 256 → f r < 256) : ∀ k n, mb g k (mb f k n) = mb (fun r => g (f r)) k n := by
  intro k
  induction k with
  | zero => intro n; rfl
  | succ k ih =>
    intro n
    have h2 := hf (n % 256) (Nat.mod_lt _ (by decide))
    have e1 : mb f (k + 1) n / 256 = mb f k (n / 256) := by rw [mb]; omega
    have e2 : mb f (k + 1) n % 256 = f (n % 256) := by rw [mb]; omega
    show 256 * mb g k (mb f (k + 1) n / 256) + g (mb f (k + 1) n % 256) = _
    rw [e1, e2, ih]
    rfl
theorem mb_low (f : Nat → Nat) (hf : ∀ r, r < 256 → f r < 256) (k n : Nat) : mb f k n % 16 < 5 ∨ ∃ m, mb f k n % 16 = f (m % 256) % 16 := by
  cases k with
  | zero => left; show 0 % 16 < 5; decide
  | succ k => right; exact ⟨n, by rw [mb]; omega⟩
theorem ps3 : ∀ k n, ((mb pu k n + mb pu k n / 16) &&& mk 15 k) = mb pb k n := by
  intro k
  induction k with
  | zero => intro n; simp [mb, mk]
  | succ k ih =>
    intro n
    have hr : n % 256 < 256 := Nat.mod_lt _ (by decide)
    have hu := (pd3 _ hr).1
    have hc : mb pu k (n / 256) % 16 < 5 := by
      rcases mb_low pu (fun r h => (pd3 r h).1) k (n / 256) with h | ⟨m, h⟩
      · exact h
      · rw [h]; exact (pd3 _ (Nat.mod_lt _ (by decide))).2
    obtain ⟨g1, g2⟩ := pd4 _ hc _ hr
    have e1 : mb pu (k + 1) n + mb pu (k + 1) n / 16 = 256 * (mb pu k (n / 256) + mb pu k (n / 256) / 16) + (pu (n % 256) + 16 * (mb pu k (n / 256) % 16) + pu (n % 256) / 16) := by
      rw [mb]
      omega
    rw [e1, mk, and_256 _ _ _ _ g1 (by decide), ih, g2]
    rfl
/-- the sum of the bytes -/
def sbf (f : Nat → Nat) : Nat → Nat → Nat
  | 0, _ => 0
  | k + 1, n => sbf f k (n / 256) + f (n % 256)
def sb8 (k n : Nat) : Nat := sbf pb k n
theorem mb_s (f : Nat → Nat) (k n : Nat) : mb f (k + 1) n = 256 * mb f k (n / 256) + f (n % 256) := rfl
theorem sbf_s (f : Nat → Nat) (k n : Nat) : sbf f (k + 1) n = sbf f k (n / 256) + f (n % 256) := rfl
theorem pb_le (r : Nat) : pb r ≤ 8 := cnt_le _ 8
theorem dv1 (m a z : Nat) (h : a < m) : (a + m * z) / m = z := by
  rw [Nat.add_mul_div_left _ _ (by omega), Nat.div_eq_of_lt h, Nat.zero_add]
theorem pl2 {y Z1 Z2 Z3 b0 b1 b2 : Nat} (e0 : y = 256 * Z1 + b0) (e1 : Z1 = 256 * Z2 + b1) (e2 : Z2 = 256 * Z3 + b2) : y + Z1 = (b0 + b1) + 256 * (b1 + b2) + 65536 * (Z2 + Z3) := by omega
theorem pl3 {S0 S2 S4 c0 c1 c2 c3 : Nat} (e0 : S0 = c0 + 256 * c1 + 65536 * S2) (e2 : S2 = c2 + 256 * c3 + 65536 * S4) : S0 + S2 = (c0 + c2) + 256 * (c1 + c3) + 65536 * (S2 + S4) := by omega
theorem pl4 {T T2 T4 e0 e1 e2 e3 : Nat} (h0 : T = e0 + 256 * e1 + 65536 * T2) (h2 : T2 = e2 + 256 * e3 + 65536 * T4) : T = (e0 + 256 * e1 + 65536 * e2 + 16777216 * e3) + 4294967296 * T4 := by omega
theorem pl5 {e0 e1 e2 e3 : Nat} (h0 : e0 ≤ 32) (h1 : e1 ≤ 32) (h2 : e2 ≤ 32) (h3 : e3 ≤ 32) : e0 + 256 * e1 + 65536 * e2 + 16777216 * e3 < 4294967296 := by omega
theorem pl6 {c0 c1 : Nat} (h0 : c0 ≤ 16) (h1 : c1 ≤ 16) : c0 + 256 * c1 < 65536 := by omega
theorem pl7 {T T4 a b k m : Nat} (h0 : T = a + 256 * k) (h1 : T4 = b + 256 * m) (h : a + b < 128) : (T + T4) % 128 = a + b := by omega
theorem ps4' (b0 b1 b2 b3 b4 b5 b6 Z1 Z2 Z3 Z4 Z5 Z6 Z7 y : Nat) (h0 : b0 ≤ 8) (h1 : b1 ≤ 8) (h2 : b2 ≤ 8) (h3 : b3 ≤ 8) (h4 : b4 ≤ 8) (h5 : b5 ≤ 8) (h6 : b6 ≤ 8) (h7 : Z7 ≤ 8)
    (e0 : y = 256 * Z1 + b0) (e1 : Z1 = 256 * Z2 + b1) (e2 : Z2 = 256 * Z3 + b2) (e3 : Z3 = 256 * Z4 + b3) (e4 : Z4 = 256 * Z5 + b4) (e5 : Z5 = 256 * Z6 + b5) (e6 : Z6 = 256 * Z7 + b6) :
    (((y + y / 256) + (y + y / 256) / 65536) + ((y + y / 256) + (y + y / 256) / 65536) / 4294967296) % 128 = b0 + b1 + b2 + b3 + b4 + b5 + b6 + Z7 := by
  have d1 : y / 256 = Z1 := by rw [e0, Nat.add_comm]; exact dv1 256 b0 Z1 (by clear e0 e1 e2 e3 e4 e5 e6; omega)
  rw [d1]
  have s0 := pl2 e0 e1 e2
  have s2 := pl2 e2 e3 e4
  have s4 := pl2 e4 e5 e6
  have s6 : Z6 + Z7 = (b6 + Z7) + 256 * Z7 := by clear e0 e1 e2 e3 e4 e5 s0 s2 s4 d1; omega
  clear d1 e0 e1 e2 e3 e4 e5 e6
  generalize y + Z1 = S0 at s0 ⊢
  generalize Z2 + Z3 = S2 at s0 s2
  generalize Z4 + Z5 = S4 at s2 s4
  generalize Z6 + Z7 = S6 at s4 s6
  have d3 : S0 / 65536 = S2 := by
    rw [s0]
    exact dv1 65536 _ S2 (pl6 (by clear s0 s2 s4 s6; omega) (by clear s0 s2 s4 s6; omega))
  rw [d3]
  have t0 := pl3 s0 s2
  have t2 := pl3 s2 s4
  have t4 : S4 + S6 = (b4 + b5 + (b6 + Z7)) + 256 * ((b5 + b6) + 256 * S6 + Z7) := by clear s0 s2 t0 t2 d3; omega
  have u0 := pl4 t0 t2
  have d6 : (S0 + S2) / 4294967296 = S4 + S6 := by
    rw [u0]
    exact dv1 4294967296 _ _ (pl5 (by clear s0 s2 s4 s6 t0 t2 t4 u0 d3; omega) (by clear s0 s2 s4 s6 t0 t2 t4 u0 d3; omega) (by clear s0 s2 s4 s6 t0 t2 t4 u0 d3; omega) (by clear s0 s2 s4 s6 t0 t2 t4 u0 d3; omega))
  rw [d6]
  have v0 : S0 + S2 = ((b0 + b1) + (b2 + b3)) + 256 * ((b1 + b2) + (b3 + b4) + 256 * (S2 + S4)) := by rw [t0]; clear s0 s2 s4 s6 t0 t2 t4 u0 d3 d6; omega
  rw [pl7 v0 t4 (by clear s0 s2 s4 s6 t0 t2 t4 u0 d3 d6 v0; omega)]
  clear s0 s2 s4 s6 t0 t2 t4 u0 d3 d6 v0
  omega
theorem ps4g (f : Nat → Nat) (hf : ∀ r, f r ≤ 8) (n : Nat) : (((mb f 8 n + mb f 8 n / 256) + (mb f 8 n + mb f 8 n / 256) / 65536) + ((mb f 8 n + mb f 8 n / 256) + (mb f 8 n + mb f 8 n / 256) / 65536) / 4294967296) % 128 = sbf f 8 n := by
  have z : ∀ m, mb f 1 m = f (m % 256) := fun m => by rw [mb_s f 0 m]; show 256 * 0 + _ = _; omega
  have h := ps4' (f (n % 256)) (f (n / 256 % 256)) (f (n / 256 / 256 % 256)) (f (n / 256 / 256 / 256 % 256)) (f (n / 256 / 256 / 256 / 256 % 256)) (f (n / 256 / 256 / 256 / 256 / 256 % 256)) (f (n / 256 / 256 / 256 / 256 / 256 / 256 % 256))
    (mb f 7 (n / 256)) (mb f 6 (n / 256 / 256)) (mb f 5 (n / 256 / 256 / 256)) (mb f 4 (n / 256 / 256 / 256 / 256)) (mb f 3 (n / 256 / 256 / 256 / 256 / 256)) (mb f 2 (n / 256 / 256 / 256 / 256 / 256 / 256)) (mb f 1 (n / 256 / 256 / 256 / 256 / 256 / 256 / 256)) (mb f 8 n)
    (hf _) (hf _) (hf _) (hf _) (hf _) (hf _) (hf _) (by rw [z]; exact hf _) (mb_s f 7 _) (mb_s f 6 _) (mb_s f 5 _) (mb_s f 4 _) (mb_s f 3 _) (mb_s f 2 _) (mb_s f 1 _)
  rw [h, z, sbf_s f 7, sbf_s f 6, sbf_s f 5, sbf_s f 4, sbf_s f 3, sbf_s f 2, sbf_s f 1, sbf_s f 0]
  show _ = 0 + _ + _ + _ + _ + _ + _ + _ + _
  omega
theorem ps4 (n : Nat) : (((mb pb 8 n + mb pb 8 n / 256) + (mb pb 8 n + mb pb 8 n / 256) / 65536) + ((mb pb 8 n + mb pb 8 n / 256) + (mb pb 8 n + mb pb 8 n / 256) / 65536) / 4294967296) % 128 = sb8 8 n := ps4g pb pb_le n
theorem cnt_bytes : ∀ k n, n < 256 ^ k → sb8 k n = cnt (fun i => n.testBit i) (8 * k) := by
  intro k
  induction k with
  | zero => intro n _; rfl
  | succ k ih =>
    intro n h
    have hq : n / 256 < 256 ^ k := by rw [Nat.pow_succ] at h; omega
    have e : 8 * (k + 1) = 8 + 8 * k := by omega
    rw [e, cnt_add, show sb8 (k + 1) n = sb8 k (n / 256) + pb (n % 256) from rfl, ih _ hq]
    have h1 : pb (n % 256) = cnt (fun i => n.testBit i) 8 := by
      refine cnt_congr fun i hi => ?_
      rw [show (256 : Nat) = 2 ^ 8 from rfl, Nat.testBit_mod_two_pow]
      simp [hi]
    have h2 : cnt (fun i => (n / 256).testBit i) (8 * k) = cnt (fun i => n.testBit (8 + i)) (8 * k) := by
      refine cnt_congr fun i _ => ?_
      rw [show (256 : Nat) = 2 ^ 8 from rfl, Nat.testBit_div_two_pow, Nat.add_comm]
    rw [h1, h2]
    omega
/-- the bits of a number below 2^64, as the machine has it -/
theorem uN_eq (x : Int64) (i : Nat) : x.toBitVec.toNat.testBit i = tb x i := rfl
def un (x : Int64) : Nat := x.toBitVec.toNat
theorem un_lt (x : Int64) : un x < 18446744073709551616 := x.toBitVec.isLt
theorem un_inj {x y : Int64} (h : un x = un y) : x = y := Int64.toBitVec_inj.mp (BitVec.eq_of_toNat_eq h)
theorem un_and (x y : Int64) : un (x &&& y) = un x &&& un y := by unfold un; rw [Int64.toBitVec_and, BitVec.toNat_and]
theorem un_add (x y : Int64) : un (x + y) = (un x + un y) % 18446744073709551616 := by unfold un; rw [Int64.toBitVec_add, BitVec.toNat_add]
theorem un_sub (x y : Int64) : un (x - y) = (18446744073709551616 - un y + un x) % 18446744073709551616 := by unfold un; rw [Int64.toBitVec_sub, BitVec.toNat_sub]
theorem un_shr (x : Int64) (k : Nat) (hk : k < 64) : un ((x.toUInt64 >>> ((nI k).toInt64.toUInt64 &&& Int64.toUInt64 63)).toInt64) = un x / 2 ^ k := by
  show (x.toUInt64 >>> ((nI k).toInt64.toUInt64 &&& Int64.toUInt64 63)).toBitVec.toNat = _
  rw [UInt64.toBitVec_shiftRight]
  show (x.toUInt64.toBitVec >>> (((nI k).toInt64.toUInt64 &&& Int64.toUInt64 63).toBitVec % 64).toNat).toNat = _
  rw [t_su k hk, BitVec.toNat_ushiftRight, Nat.shiftRight_eq_div_pow]
  rfl
