/-! What the reference's constructor makes. -/
def chn (a : Nat) (K : PH → Option PH) : List (Nat × Nat) → PH → Option PH
  | [], h => K h
  | y :: l, h => bnd (some (newH h (oI y.2 (fun _ => 0)))) fun h1 => bnd (pV h1 a 10 y.1 (.ref h.1)) fun h2 => chn a K l h2
def chV (a : Nat) : List (Nat × Nat) → Nat → (Nat → Value) → Nat → Value
  | [], _, V => V
  | y :: l, n, V => chV a l (n + 1) (updV V y.1 (.ref (a + n)))
theorem chn_s {a : Nat} {K : PH → Option PH} : ∀ (l : List (Nat × Nat)) (n : Nat) (h : PH) (V : Nat → Value), (∀ y ∈ l, y.1 < 28) → h.2 a = obj 10 28 V → h.1 = a + n → n ≠ 0 → ∃ h', chn a K l h = K h' ∧ h'.1 = a + n + l.length ∧ h'.2 a = obj 10 28 (chV a l n V) ∧ (∀ j y, l[j]? = some y → h'.2 (a + n + j) = oI y.2 (fun _ => 0)) ∧ ∀ j, j ≠ a → j < a + n → h'.2 j = h.2 j := by
  intro l
  induction l with
  | nil =>
    intro n h V _ e ha _
    exact ⟨h, rfl, ha, e, fun j y hj => by simp at hj, fun _ _ _ => rfl⟩
  | cons y l ih =>
    intro n h V hl e ha hn
    obtain ⟨h1, k1, n1, g1, c1, o1⟩ := i_st (k := y.1) e ha hn (oI y.2 (fun _ => 0)) (hl y (by simp))
    obtain ⟨h2, k2, n2, g2, c2, o2⟩ := ih (n + 1) h1 _ (fun z hz => hl z (by simp [hz])) g1 n1 (by omega)
    refine ⟨h2, (k1 _).trans k2, by rw [n2, List.length_cons]; omega, g2, fun j z hj => ?_, fun j h1 h2 => (o2 j h1 (by omega)).trans (o1 j h1 (by omega))⟩
    cases j with
    | zero =>
      simp at hj
      subst hj
      exact (o2 (a + n) (by omega) (by omega)).trans c1
    | succ j =>
      have := c2 j z (by simpa using hj)
      rw [show a + n + (j + 1) = a + (n + 1) + j by omega]
      exact this
def mol : List (Nat × Nat) := [(0, 482), (1, 1928), (3, 150), (9, 4), (10, 4), (11, 72), (12, 2664), (13, 37), (14, 37), (15, 36), (16, 36), (21, 36), (24, 72), (25, 36)]
theorem i_mo1 {h : PH} {a : Nat} (e : h.2 a = obj 10 28 (dvl 10)) (ha : h.1 = a + 1) (F : Nat) : ∃ h' W, f_Mo_init F a h = f_Mo_init_120 F F a (0 : Int32) h' ∧ h'.1 = a + 15 ∧ h'.2 a = obj 10 28 W ∧ MV a W ∧ (W 2 = .int (nI 0) ∧ W 4 = .int (nI 0) ∧ W 5 = .int 0) ∧ h'.2 (a + 1) = oI 482 (fun _ => 0) ∧ h'.2 (a + 2) = oI 1928 (fun _ => 0) ∧ h'.2 (a + 3) = oI 150 (fun _ => 0) ∧ MX h' a ∧ ∀ k, k < a → h'.2 k = h.2 k := by
  obtain ⟨h', k, n, g, c, o⟩ := chn_s (a := a) (K := fun h => f_Mo_init_120 F F a (0 : Int32) h) mol 1 h (dvl 10) (by decide) e ha (by omega)
  refine ⟨h', _, k, n, g, ⟨rfl, rfl, rfl, rfl, rfl, rfl, rfl, rfl, rfl, rfl, rfl, rfl, rfl, rfl⟩, ⟨rfl, rfl, rfl⟩, c 0 _ rfl, c 1 _ rfl, c 2 _ rfl, fun j h1 h2 => mx_s ⟨fun _ => 0, ?_⟩, fun j hj => o j (by omega) (by omega)⟩
  obtain rfl | rfl | rfl | rfl | rfl | rfl | rfl | rfl | rfl | rfl | rfl : j = 4 ∨ j = 5 ∨ j = 6 ∨ j = 7 ∨ j = 8 ∨ j = 9 ∨ j = 10 ∨ j = 11 ∨ j = 12 ∨ j = 13 ∨ j = 14 := by omega
  · exact c 3 _ rfl
  · exact c 4 _ rfl
  · exact c 5 _ rfl
  · exact c 6 _ rfl
  · exact c 7 _ rfl
  · exact c 8 _ rfl
  · exact c 9 _ rfl
  · exact c 10 _ rfl
  · exact c 11 _ rfl
  · exact c 12 _ rfl
  · exact c 13 _ rfl
theorem i_mo {h : PH} {a : Nat} (e : h.2 a = obj 10 28 (dvl 10)) (ha : h.1 = a + 1) (E : Nat → Nat → Int32) (sv : Nat → ST) (tx : Nat → Int32) {F : Nat} (hF : 3000 ≤ F) : ∃ h', f_Mo_init F a h = some h' ∧ h'.1 = a + 15 ∧ MW h' a (x0 E) 0 sv 0 tx 0 ∧ ∀ k, k < a → h'.2 k = h.2 k := by
  obtain ⟨h14, W, pre, n14, g14, hV, hf, b1, b2, b3, mx, q0⟩ := i_mo1 e ha F
  obtain ⟨s, ⟨g, i1, i2, i3⟩, el⟩ := LC (fun n i s => f_Mo_init_120 F n a (nI i) s) (fun i s => ∃ g, s.2 (a + 1) = oI 482 g ∧ (∀ j, g j = if j < i then 126 else 0) ∧ Fr (fun k => k = a + 1) h14 s) 36
    (fun n i s hi ⟨g, i1, i2, i3⟩ => by
      obtain ⟨s1, p1, q1, r1⟩ := sti (i := i) (126 : Int32) i1 (by omega) (by omega)
      refine ⟨s1, ⟨_, q1, fun j => ?_, i3.tr r1⟩, ?_⟩
      · by_cases w : j = i
        · subst w; rw [pk_us, if_pos (by omega)]
        · rw [pk_un w, i2 j]
          by_cases z : j < i
          · rw [if_pos z, if_pos (by omega)]
          · rw [if_neg z, if_neg (by omega)]
      · show f_Mo_init_120 F (n + 1) a (nI i) s = _
        rw [f_Mo_init_120, b_Mo_init_120, if_neg (show ¬ (36 : Int32) ≤ nI i from nI_ge (a := (i)) (b := 36) (by omega) (by omega)), ob_R ((i3.2 _ (by omega)).trans g14) (by omega) hV.1, bnd_s, p1, bnd_s, nI_1]) 36 0 h14 F rfl (by omega) ⟨_, b1, fun j => by rw [if_neg (by omega)], Fr.rf _ _⟩
  obtain ⟨n, hn⟩ : ∃ n, F - 36 = n + 1 := ⟨F - 37, by omega⟩
  have z : ∀ k, k ≠ a + 1 → s.2 k = h14.2 k := i3.2
  refine ⟨s, ?_, by rw [i3.1, n14], ⟨⟨W, (z _ (by omega)).trans g14, hV, hf⟩, ⟨by omega, by omega⟩, ⟨g, i1, ⟨by rw [i2, if_neg (by omega)]; rfl, fun k hk => absurd hk (Nat.not_lt_zero k)⟩, fun c hc => ⟨by rw [i2, if_pos hc]; rfl, by rw [i2, if_neg (by omega)]; rfl⟩, fun c hc => by rw [i2, if_neg (by omega)]; rfl, by rw [i2, if_neg (by omega)]; rfl, fun i j hi => absurd hi (Nat.not_lt_zero i)⟩, ⟨_, (z _ (by omega)).trans b2, fun i hi => absurd hi (Nat.not_lt_zero i)⟩, ⟨_, (z _ (by omega)).trans b3, fun i hi => absurd hi (Nat.not_lt_zero i)⟩, fun j h1 h2 => (mx j h1 h2).fr (z _ (by omega))⟩, fun k hk => (z k (by omega)).trans (q0 k hk)⟩
  · rw [pre]
    refine Eq.trans el ?_
    show f_Mo_init_120 F (F - 36) a (nI 36) s = _
    rw [hn, f_Mo_init_120, b_Mo_init_120, if_pos (show (36 : Int32) ≤ nI 36 from nI_le (a := 36) (b := 36) (by omega) (by omega))]
