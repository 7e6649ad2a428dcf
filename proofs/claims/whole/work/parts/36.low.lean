/-! The lowest one of a set of cells. -/
/-- j is the lowest one of a set -/
def Lw (f : Nat → Bool) (j : Nat) : Prop := f j = true ∧ ∀ i, i < j → f i = false
theorem Lw.u {f : Nat → Bool} {i j : Nat} (a : Lw f i) (b : Lw f j) : i = j := by
  rcases Nat.lt_trichotomy i j with h | h | h
  · have := b.2 i h
    rw [a.1] at this
    cases this
  · exact h
  · have := a.2 j h
    rw [b.1] at this
    cases this
theorem Lw.ex {f : Nat → Bool} : ∀ {n : Nat}, (∃ i, i < n ∧ f i = true) → ∃ j, j < n ∧ Lw f j := by
  intro n
  induction n with
  | zero => rintro ⟨i, h, _⟩; omega
  | succ n ih =>
    rintro ⟨i, h, h1⟩
    by_cases q : ∃ i, i < n ∧ f i = true
    · obtain ⟨j, h2, h3⟩ := ih q
      exact ⟨j, by omega, h3⟩
    · refine ⟨n, by omega, ?_, fun k hk => ?_⟩
      · have : i = n := by
          apply Classical.byContradiction
          intro z
          exact q ⟨i, by omega, h1⟩
        rw [← this]
        exact h1
      · cases z : f k
        · rfl
        · exact absurd ⟨k, hk, z⟩ q
theorem nat_dec {n j : Nat} (h : Lw (fun i => n.testBit i) j) (i : Nat) : (n - 1).testBit i = if i < j then true else if i = j then false else n.testBit i := by
  obtain ⟨h1, h2⟩ := h
  have hm : n % 2 ^ j = 0 := Nat.eq_of_testBit_eq fun i => by
    rw [Nat.testBit_mod_two_pow, Nat.zero_testBit]
    by_cases q : i < j
    · rw [show n.testBit i = false from h2 i q]; simp
    · simp [q]
  have hn : n = 2 ^ j * (n / 2 ^ j) := by have := Nat.div_add_mod n (2 ^ j); omega
  have ho : n / 2 ^ j % 2 = 1 := by
    have : n.testBit j = true := h1
    rw [Nat.testBit_eq_decide_div_mod_eq] at this
    exact of_decide_eq_true this
  generalize hm' : n / 2 ^ j = m at *
  have hp : 0 < 2 ^ j := Nat.two_pow_pos j
  obtain ⟨q, rfl⟩ : ∃ q, m = 2 * q + 1 := ⟨m / 2, by omega⟩
  have e : n - 1 = 2 ^ j * (2 * q) + (2 ^ j - 1) := by
    rw [hn, Nat.mul_add, Nat.mul_one]
    omega
  rw [e, Nat.testBit_two_pow_mul_add _ (by omega), Nat.testBit_two_pow_sub_one]
  by_cases c : i < j
  · rw [if_pos c, if_pos c]
    exact decide_eq_true c
  · rw [if_neg c, if_neg c]
    by_cases c2 : i = j
    · rw [if_pos c2, c2, Nat.sub_self]
      simp [Nat.testBit_zero]
    · rw [if_neg c2, hn]
      have e2 : 2 ^ j * (2 * q + 1) = 2 ^ j * (2 * q + 1) + 0 := rfl
      rw [e2, Nat.testBit_two_pow_mul_add _ (by omega), if_neg c]
      obtain ⟨k, hk⟩ : ∃ k, i - j = k + 1 := ⟨i - j - 1, by omega⟩
      rw [hk, Nat.testBit_succ, Nat.testBit_succ]
      congr 1
      omega
theorem un_1 : un 1 = 1 := rfl
theorem un_pos {v : Int64} {j : Nat} (h : tb v j = true) : 0 < un v := by
  rcases Nat.eq_zero_or_pos (un v) with q | q
  · have : (un v).testBit j = true := h
    rw [q, Nat.zero_testBit] at this
    cases this
  · exact q
theorem t_dec {v : Int64} {j : Nat} (h : Lw (tb v) j) (i : Nat) : tb (v - 1) i = if i < j then true else if i = j then false else tb v i := by
  have h0 := un_pos h.1
  have h1 := un_lt v
  have e : un (v - 1) = un v - 1 := by
    rw [un_sub, un_1]
    omega
  show (un (v - 1)).testBit i = _
  rw [e]
  exact nat_dec (n := un v) h i
theorem t_neg {v : Int64} {j : Nat} (h : Lw (tb v) j) {i : Nat} (hi : i < 64) : tb (-v) i = !tb (v - 1) i := by
  have h0 := un_pos h.1
  have h1 := un_lt v
  have e : un (v - 1) = un v - 1 := by
    rw [un_sub, un_1]
    omega
  have e2 : un (-v) = 2 ^ 64 - (un (v - 1) + 1) := by
    unfold un at *
    rw [Int64.toBitVec_neg, BitVec.toNat_neg, e]
    omega
  show (un (-v)).testBit i = !(un (v - 1)).testBit i
  rw [e2, Nat.testBit_two_pow_sub_succ (by rw [e]; omega)]
  simp [hi]
theorem t_dec1 {v : Int64} {j : Nat} (h : Lw (tb v) j) {i : Nat} : tb (v &&& (v - 1)) i = (tb v i && !decide (i = j)) := by
  rw [t_and, t_dec h]
  by_cases c : i < j
  · have := h.2 i c
    simp [this]
  · by_cases c2 : i = j
    · subst c2
      simp
    · simp [c, c2]
theorem t_low {v : Int64} {j : Nat} (h : Lw (tb v) j) {i : Nat} (hi : i < 64) : tb (v &&& -v) i = decide (i = j) := by
  rw [t_and, t_neg h hi, t_dec h]
  by_cases c : i < j
  · have h1 := h.2 i c
    rw [h1]
    simp
    omega
  · by_cases c2 : i = j
    · subst c2
      simp [h.1]
    · simp [c, c2]
theorem CS.lw {v : Int64} {f : Nat → Bool} (h : CS v f) {j : Nat} (hj : j < 36) (hl : Lw f j) : Lw (tb v) j := ⟨by rw [h j (by omega), hl.1]; simp [hj], fun i hi => by rw [h i (by omega), hl.2 i hi]; simp⟩
theorem CS.dec {v : Int64} {f : Nat → Bool} (h : CS v f) {j : Nat} (hj : j < 36) (hl : Lw f j) : CS (v &&& (v - 1)) fun c => f c && !decide (c = j) := fun c hc => by
  rw [t_dec1 (h.lw hj hl), h c hc, Bool.and_assoc]
theorem CS.low {v : Int64} {f : Nat → Bool} (h : CS v f) {j : Nat} (hj : j < 36) (hl : Lw f j) : CS (v &&& -v) fun c => decide (c = j) := fun c hc => by
  rw [t_low (h.lw hj hl) hc]
  by_cases q : c = j
  · subst q; simp [hj]
  · simp [q]
theorem g_lowest {v : Int64} {f : Nat → Bool} (h : CS v f) {j : Nat} (hj : j < 36) (hl : Lw f j) : f_Grd_lowest v = some (nI j) := by
  unfold f_Grd_lowest
  have h1 := h.low hj hl
  have h2 : Lw (tb (v &&& -v)) j := h1.lw hj ⟨by simp, fun i hi => by simp; omega⟩
  have h3 : CS ((v &&& -v) - 1) fun c => decide (c < j) := fun c hc => by
    rw [t_dec h2, h1 c hc]
    by_cases q : c < j
    · simp [q]; omega
    · by_cases q2 : c = j
      · simp [q2]
      · simp [q, q2]
  rw [h3.cnt, bnd_s]
  congr 2
  rw [show (36 : Nat) = j + (36 - j) by omega, cnt_big fun i hi => by simp; omega]
  rw [cnt_congr (q := fun _ => true) fun i hi => by simp [hi]]
  have : ∀ k, cnt (fun _ => true) k = k := by
    intro k
    induction k with
    | zero => rfl
    | succ k ih => rw [cnt, ih]; rfl
  exact this j
theorem cnt1_lw {f : Nat → Bool} {n j : Nat} (hj : j < n) (hl : Lw f j) : cnt f n = 1 ↔ ∀ i, i < n → (f i && !decide (i = j)) = false := by
  rw [cnt_1]
  constructor
  · rintro ⟨k, h1, h2, h3⟩ i hi
    have e := h3 j hj hl.1
    subst e
    cases q : f i
    · rfl
    · simp [h3 i hi q]
  · intro h
    refine ⟨j, hj, hl.1, fun i hi h1 => ?_⟩
    have := h i hi
    rw [h1] at this
    simpa using this
theorem g_isOne {v : Int64} {f : Nat → Bool} (h : CS v f) : f_Grd_isOne v = some (if cnt f 36 = 1 then 1 else 0) := by
  unfold f_Grd_isOne
  by_cases q : ∃ i, i < 36 ∧ f i = true
  · obtain ⟨j, hj, hl⟩ := Lw.ex q
    rw [if_neg fun z => by
      have := h.lg0.mp z j hj
      rw [hl.1] at this
      cases this]
    by_cases q2 : cnt f 36 = 1
    · rw [if_pos ((h.dec hj hl).lg0.mpr ((cnt1_lw hj hl).mp q2)), if_pos q2]
    · rw [if_neg fun z => q2 ((cnt1_lw hj hl).mpr ((h.dec hj hl).lg0.mp z)), if_neg q2]
  · have h0 : ∀ i, i < 36 → f i = false := fun i hi => by
      cases z : f i
      · rfl
      · exact absurd ⟨i, hi, z⟩ q
    rw [if_pos (h.lg0.mpr h0), if_neg (by rw [cnt_0.mpr h0]; omega)]
theorem g_neigh {c : Nat} (hc : c < 36) : ∃ x, f_Grd_neighbours (nI c) = some x ∧ CS x (upr c) := by
  have e1 : nI c / (6 : Int32) = nI (c / 6) := pk_div (a := c) (d := 6) (by omega) (by omega) (by omega)
  have e2 : nI c - nI c / (6 : Int32) * (6 : Int32) = nI (c % 6) := pk_rem (a := c) (d := 6) (by omega) (by omega) (by omega)
  have e3 : nI (c / 6) / (2 : Int32) = nI (c / 6 / 2) := pk_div (a := c / 6) (d := 2) (by omega) (by omega) (by omega)
  have e4 : nI (c % 6) / (3 : Int32) = nI (c % 6 / 3) := pk_div (a := c % 6) (d := 3) (by omega) (by omega) (by omega)
  have e5 : (2 : Int32) * nI (c / 6 / 2) = nI (2 * (c / 6 / 2)) := pk_mul 2 _
  have e6 : (6 : Int32) + nI (c % 6) = nI (6 + c % 6) := nI_add 6 _
  have e7 : (12 : Int32) + (nI (2 * (c / 6 / 2)) + nI (c % 6 / 3)) = nI (12 + (2 * (c / 6 / 2) + c % 6 / 3)) := by rw [nI_add]; exact nI_add 12 _
  refine ⟨_, ?_, (((uVal_S (u := c / 6) (by omega)).or (uVal_S (u := 6 + c % 6) (by omega))).or (uVal_S (u := 12 + (2 * (c / 6 / 2) + c % 6 / 3)) (by omega))).sub (CS.one hc) |>.x fun e he => ?_⟩
  · unfold f_Grd_neighbours
    rw [e2, e1, bnd_s, bnd_s, e3, e4, e5, bnd_s, g_unit (by omega), bnd_s, e6, g_unit (by omega), bnd_s, e7, g_unit (by omega), bnd_s]
  · unfold upr inU
    rw [if_pos (by omega), if_neg (by omega), if_pos (by omega), if_neg (by omega), if_neg (by omega)]
    have h1 : (e / 6 = c / 6) = (c / 6 = e / 6) := propext ⟨Eq.symm, Eq.symm⟩
    have h2 : (e % 6 = 6 + c % 6 - 6) = (c % 6 = e % 6) := propext ⟨fun _ => by omega, fun _ => by omega⟩
    have h3 : (2 * (e / 12) + e % 6 / 3 = 12 + (2 * (c / 6 / 2) + c % 6 / 3) - 12) = (2 * (c / 12) + c % 6 / 3 = 2 * (e / 12) + e % 6 / 3) := propext ⟨fun _ => by omega, fun _ => by omega⟩
    have h4 : (e = c) = (c = e) := propext ⟨Eq.symm, Eq.symm⟩
    simp only [h1, h2, h3, h4]
