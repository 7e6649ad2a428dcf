/-! Long.bitCount, told -/
theorem mb_bd (f : Nat → Nat) (c : Nat) (hf : ∀ r, r < 256 → f r ≤ c) : ∀ k n, 255 * mb f k n + c ≤ c * 256 ^ k := by
  intro k
  induction k with
  | zero => intro n; show 255 * 0 + c ≤ c * 1; omega
  | succ k ih =>
    intro n
    have h1 := ih (n / 256)
    have h2 := hf (n % 256) (Nat.mod_lt _ (by decide))
    rw [mb_s, Nat.pow_succ, ← Nat.mul_assoc]
    generalize mb f k (n / 256) = a at h1 ⊢
    generalize f (n % 256) = b at h2 ⊢
    generalize c * 256 ^ k = p at h1 ⊢
    omega
theorem b_nI (n i : Nat) : bt (nI n) i = (decide (i < 32) && n.testBit i) := by
  show (BitVec.ofNat 32 n).getLsbD i = _
  rw [BitVec.getLsbD_ofNat]
theorem low7 (y : Int64) : y.toInt32 &&& (127 : Int32) = nI (un y % 128) := by
  apply b_ext
  intro i hi
  have h127 : ∀ i, i < 32 → bt 127 i = decide (i < 7) := by decide +kernel
  rw [b_and, h127 i hi, b_nI, show (128 : Nat) = 2 ^ 7 from rfl, Nat.testBit_mod_two_pow]
  have h1 : bt y.toInt32 i = (un y).testBit i := by
    show (y.toBitVec.signExtend 32).getLsbD i = y.toBitVec.getLsbD i
    rw [BitVec.getLsbD_signExtend]
    simp [hi]
    omega
  rw [h1]
  simp [hi, Bool.and_comm]
theorem f_bitCount (x : Int64) : f_Lng_bitCount x = some (nI (cnt (tb x) 64)) := by
  have hx : un x < 256 ^ 8 := un_lt x
  have e1 : un (x - (((x.toUInt64 >>> (((1 : Int32)).toInt64.toUInt64 &&& Int64.toUInt64 63)).toInt64) &&& (6148914691236517205 : Int64))) = mb pt1 8 (un x) := by
    have h1 := ps1 8 (un x) hx
    have g : (un x / 2 &&& mk 85 8) ≤ un x := Nat.le_trans Nat.and_le_left (Nat.div_le_self _ _)
    have g2 : un (((x.toUInt64 >>> (((1 : Int32)).toInt64.toUInt64 &&& Int64.toUInt64 63)).toInt64) &&& (6148914691236517205 : Int64)) = un x / 2 &&& mk 85 8 := by
      rw [un_and]
      have h2 := un_shr x 1 (by decide)
      rw [show un (6148914691236517205 : Int64) = mk 85 8 by decide +kernel]
      exact congrArg (fun z => z &&& mk 85 8) h2
    rw [un_sub, g2, ← h1]
    have := un_lt x
    omega
  have hm1 : ∀ r, r < 256 → pt1 r < 256 := fun r h => (pd1 0 (by decide) r h).2.2
  have hm2 : ∀ r, r < 256 → pu r < 256 := fun r h => (pd3 r h).1
  unfold f_Lng_bitCount
  simp only [bnd_s]
  generalize x - (((x.toUInt64 >>> (((1 : Int32)).toInt64.toUInt64 &&& Int64.toUInt64 63)).toInt64) &&& (6148914691236517205 : Int64)) = y1 at e1 ⊢
  have l1 : mb pt1 8 (un x) < 256 ^ 8 := mb_lt _ hm1 _ _
  have e2 : un ((y1 &&& (3689348814741910323 : Int64)) + (((y1.toUInt64 >>> (((2 : Int32)).toInt64.toUInt64 &&& Int64.toUInt64 63)).toInt64) &&& (3689348814741910323 : Int64))) = mb pu 8 (un x) := by
    have h1 := ps2 8 (mb pt1 8 (un x)) l1
    rw [mb_mb _ _ hm1] at h1
    have h2 := un_shr y1 2 (by decide)
    rw [un_add, un_and, un_and, show un (3689348814741910323 : Int64) = mk 51 8 by decide +kernel]
    have h3 : un ((y1.toUInt64 >>> (((2 : Int32)).toInt64.toUInt64 &&& Int64.toUInt64 63)).toInt64) = un y1 / 4 := h2
    rw [h3, e1, h1]
    exact Nat.mod_eq_of_lt (mb_lt _ hm2 _ _)
  generalize (y1 &&& (3689348814741910323 : Int64)) + (((y1.toUInt64 >>> (((2 : Int32)).toInt64.toUInt64 &&& Int64.toUInt64 63)).toInt64) &&& (3689348814741910323 : Int64)) = y2 at e2 ⊢
  have b2 := mb_bd pu 68 (by decide +kernel) 8 (un x)
  have e3 : un ((y2 + ((y2.toUInt64 >>> (((4 : Int32)).toInt64.toUInt64 &&& Int64.toUInt64 63)).toInt64)) &&& (1085102592571150095 : Int64)) = mb pb 8 (un x) := by
    have h2 : un ((y2.toUInt64 >>> (((4 : Int32)).toInt64.toUInt64 &&& Int64.toUInt64 63)).toInt64) = un y2 / 16 := un_shr y2 4 (by decide)
    rw [un_and, un_add, h2, e2, show un (1085102592571150095 : Int64) = mk 15 8 by decide +kernel]
    rw [Nat.mod_eq_of_lt (by omega)]
    exact ps3 8 (un x)
  generalize (y2 + ((y2.toUInt64 >>> (((4 : Int32)).toInt64.toUInt64 &&& Int64.toUInt64 63)).toInt64)) &&& (1085102592571150095 : Int64) = y3 at e3 ⊢
  clear b2
  have b3 := mb_bd pb 8 (fun r _ => pb_le r) 8 (un x)
  have hs := ps4 (un x)
  rw [← e3] at b3 hs
  have e4 : un (y3 + ((y3.toUInt64 >>> (((8 : Int32)).toInt64.toUInt64 &&& Int64.toUInt64 63)).toInt64)) = un y3 + un y3 / 256 := by
    have h2 : un ((y3.toUInt64 >>> (((8 : Int32)).toInt64.toUInt64 &&& Int64.toUInt64 63)).toInt64) = un y3 / 256 := un_shr y3 8 (by decide)
    rw [un_add, h2, Nat.mod_eq_of_lt (by omega)]
  generalize y3 + ((y3.toUInt64 >>> (((8 : Int32)).toInt64.toUInt64 &&& Int64.toUInt64 63)).toInt64) = y4 at e4 ⊢
  have e5 : un (y4 + ((y4.toUInt64 >>> (((16 : Int32)).toInt64.toUInt64 &&& Int64.toUInt64 63)).toInt64)) = un y4 + un y4 / 65536 := by
    have h2 : un ((y4.toUInt64 >>> (((16 : Int32)).toInt64.toUInt64 &&& Int64.toUInt64 63)).toInt64) = un y4 / 65536 := un_shr y4 16 (by decide)
    rw [un_add, h2, Nat.mod_eq_of_lt (by omega)]
  generalize y4 + ((y4.toUInt64 >>> (((16 : Int32)).toInt64.toUInt64 &&& Int64.toUInt64 63)).toInt64) = y5 at e5 ⊢
  have e6 : un (y5 + ((y5.toUInt64 >>> (((32 : Int32)).toInt64.toUInt64 &&& Int64.toUInt64 63)).toInt64)) = un y5 + un y5 / 4294967296 := by
    have h2 : un ((y5.toUInt64 >>> (((32 : Int32)).toInt64.toUInt64 &&& Int64.toUInt64 63)).toInt64) = un y5 / 4294967296 := un_shr y5 32 (by decide)
    rw [un_add, h2, Nat.mod_eq_of_lt (by omega)]
  generalize y5 + ((y5.toUInt64 >>> (((32 : Int32)).toInt64.toUInt64 &&& Int64.toUInt64 63)).toInt64) = y6 at e6 ⊢
  rw [← e4, ← e5, ← e6] at hs
  have hc := cnt_bytes 8 (un x) hx
  rw [hs.trans hc |> (fun h => (low7 y6).trans (congrArg nI h))]
  rfl
