/-! What the class's constructor makes: the whole. -/
theorem i_np1 {h : PH} (e : h.2 0 = obj 9 13 (dvl 9)) (ha : h.1 = 1) (E : Nat → Nat → Int32) (tx : Nat → Int32) {F : Nat} (hF : 3000 ≤ F) : ∃ h' V, f_Np_init F 0 h = f_Np_init_118 F 5 0 (0 : Int32) h' ∧ h'.1 = 211 ∧ h'.2 0 = obj 9 13 V ∧ NPv V ∧ V 3 = .int (nI 0) ∧ V 4 = .int (nI 0) ∧ StaAt h' 1 (x0 E) (fun _ => true) (fun _ => false) ∧ StaSh h' 14 ∧ h'.2 27 = oR 0 4 (fun _ => none) ∧ TxAt h' 0 tx ∧ PosSh h' 30 ∧ ReaOK h' 32 ∧ SolF h' ∧ (∃ W, SolSh h' 122 W) ∧ (∃ W, h'.2 208 = obj 5 1 W) ∧ (∃ f, h'.2 209 = oI 6 f) ∧ ∃ f, h'.2 210 = oI 36 f := by
  obtain ⟨h1, k1, D1, a1, f1⟩ := k_sta (k := 0) (n := 1) ⟨e, ha⟩ (by decide) (by decide) E hF
  obtain ⟨h2, k2, D2, a2, f2⟩ := k_sta (k := 1) (n := 14) D1 (by decide) (by decide) E hF
  obtain ⟨h3, k3, D3, a3, f3⟩ := k_arr (k := 2) (n := 27) D2 (by decide) (by decide) (oR 0 4 (fun _ => none))
  obtain ⟨h4, k4, D4, ⟨W4, b4, c4, d4⟩, a4, f4⟩ := k_txt (k := 5) (n := 28) D3 (by decide) (by decide)
  obtain ⟨h5, k5, D5, a5, f5⟩ := k_pos (k := 6) (n := 30) D4 (by decide) (by decide) hF
  obtain ⟨h6, k6, D6, a6, f6⟩ := k_rea (k := 7) (n := 32) D5 (by decide) (by decide)
  obtain ⟨h7, k7, D7, ⟨W7, a7, b7⟩, f7⟩ := k_sol (k := 8) (n := 36) D6 (by decide) (by decide) hF
  obtain ⟨h8, k8, D8, ⟨W8, a8, _⟩, f8⟩ := k_sol (k := 9) (n := 122) D7 (by decide) (by decide) hF
  obtain ⟨h9, k9, D9, ⟨W9, a9⟩, f9⟩ := k_shu (k := 10) (n := 208) D8 (by decide) (by decide)
  obtain ⟨h10, k10, D10, a10, f10⟩ := k_arr (k := 11) (n := 209) D9 (by decide) (by decide) (oI 6 (fun _ => 0))
  obtain ⟨h11, k11, D11, a11, f11⟩ := k_arr (k := 12) (n := 210) D10 (by decide) (by decide) (oI 36 (fun _ => 0))
  have pre : f_Np_init F 0 h = f_Np_init_118 F 5 0 (0 : Int32) h11 := by
    unfold f_Np_init
    rw [k1, k2, k3, k4, k5, k6, k7, k8, k9, k10, k11]
  clear k1 k2 k3 k4 k5 k6 k7 k8 k9 k10 k11 D1 D2 D3 D4 D5 D6 D7 D8 D9 D10 e ha hF
  have t9 : Kp0 209 h9 h11 := fun j h1 h2 => (f11 j h1 (by omega)).trans (f10 j h1 h2)
  have t8 : Kp0 208 h8 h11 := fun j h1 h2 => (t9 j h1 (by omega)).trans (f9 j h1 h2)
  have t7 : Kp0 122 h7 h11 := fun j h1 h2 => (t8 j h1 (by omega)).trans (f8 j h1 h2)
  have t6 : Kp0 36 h6 h11 := fun j h1 h2 => (t7 j h1 (by omega)).trans (f7 j h1 h2)
  have t5 : Kp0 32 h5 h11 := fun j h1 h2 => (t6 j h1 (by omega)).trans (f6 j h1 h2)
  have t4 : Kp0 30 h4 h11 := fun j h1 h2 => (t5 j h1 (by omega)).trans (f5 j h1 h2)
  have t3 : Kp0 28 h3 h11 := fun j h1 h2 => (t4 j h1 (by omega)).trans (f4 j h1 h2)
  have t2 : Kp0 27 h2 h11 := fun j h1 h2 => (t3 j h1 (by omega)).trans (f3 j h1 h2)
  have t1 : Kp0 14 h1 h11 := fun j h1 h2 => (t2 j h1 (by omega)).trans (f2 j h1 h2)
  refine ⟨h11, _, pre, D11.2, D11.1, ⟨rfl, rfl, rfl, rfl, rfl, rfl, rfl, rfl, rfl, rfl, rfl⟩, rfl, rfl, ?_, ?_, ?_, ?_, ?_, ?_, ?_, ?_, ?_, ?_, ⟨_, a11⟩⟩
  · exact a1.fr fun j hj => t1 j (by simp only [US] at hj; omega) (by simp only [US] at hj; omega)
  · exact a2.sh.fr fun j hj => t2 j (by simp only [US] at hj; omega) (by simp only [US] at hj; omega)
  · exact (t3 27 (by omega) (by omega)).trans a3
  · exact ⟨W4, _, (t4 28 (by omega) (by omega)).trans b4, c4, d4, by omega, (t4 29 (by omega) (by omega)).trans a4, fun i hi => absurd hi (Nat.not_lt_zero i)⟩
  · exact a5.fr (t5 _ (by omega) (by omega)) (t5 _ (by omega) (by omega))
  · exact a6.fr fun j hj => t6 _ (by omega) (by omega)
  · exact ⟨W7, a7.fr fun j h1 h2 => t7 _ (by omega) (by omega), b7⟩
  · exact ⟨W8, a8.fr fun j h1 h2 => t8 _ (by omega) (by omega)⟩
  · exact ⟨W9, (t9 208 (by omega) (by omega)).trans a9⟩
  · exact ⟨_, (f11 209 (by omega) (by omega)).trans a10⟩
theorem i_sav {h12 : PH} {V : Nat → Value} (g12 : h12.2 0 = obj 9 13 V) (w1 : V 2 = .ref 27) (m12 : h12.1 = 211) {f0 : Nat → Option Nat} (e5 : h12.2 27 = oR 0 4 f0) {F : Nat} (hF : 3000 ≤ F) :
    ∃ s f, f_Np_init_118 F 5 0 (0 : Int32) h12 = some s ∧ s.1 = 263 ∧ (∀ k, k < 211 → k ≠ 27 → s.2 k = h12.2 k) ∧ s.2 27 = oR 0 4 f ∧ (∀ j, j < 4 → f j = some (211 + 13 * j)) ∧ ∀ j, j < 4 → StaSh s (211 + 13 * j) := by
  obtain ⟨s, ⟨i1, i2, ⟨f, i3, i4⟩, i5⟩, el⟩ := LC (fun n i s => f_Np_init_118 F n 0 (nI i) s) (fun i s => s.1 = 211 + 13 * i ∧ (∀ k, k < 211 → k ≠ 27 → s.2 k = h12.2 k) ∧ (∃ f, s.2 27 = oR 0 4 f ∧ ∀ j, j < i → f j = some (211 + 13 * j)) ∧ ∀ j, j < i → StaSh s (211 + 13 * j)) 4
    (fun n i s hi ⟨i1, i2, ⟨f, i3, i4⟩, i5⟩ => by
      obtain ⟨t1, y1, u1, v1, w1'⟩ := nO_e s 8 cT8
      rw [i1] at u1 v1 w1'
      obtain ⟨t2, y2, u2, v2, w2⟩ := i_sta v1 u1 (fun _ _ => 0) hF
      obtain ⟨⟨V9, b1, b2⟩, _⟩ := id v2
      obtain ⟨t3, y3, v3, w3⟩ := sR_e (i := i) (v := 211 + 13 * i) ((w2 27 (by omega)).trans ((w1' 27 (by omega)).trans i3)) b1 rfl (by omega) hi (by omega)
      have e3 : ∀ k, k ≠ 27 → k < 211 + 13 * i → t3.2 k = s.2 k := fun k k1 k2 => by rw [w3.2 k k1, w2 k k2, w1' k (by omega)]
      refine ⟨t3, ⟨by rw [w3.1, u2]; omega, fun k k1 k2 => (e3 k k2 (by omega)).trans (i2 k k1 k2), ⟨_, v3, fun j hj => ?_⟩, fun j hj => ?_⟩, ?_⟩
      · by_cases q : j = i
        · subst q; simp [va_up]
        · simp [va_up, q]; exact i4 j (by omega)
      · by_cases q : j = i
        · subst q
          exact v2.sh.fr fun k hk => w3.2 k (by simp only [US] at hk; omega)
        · exact (i5 j (by omega)).fr fun k hk => e3 k (by simp only [US] at hk; omega) (by simp only [US] at hk; omega)
      · show f_Np_init_118 F (n + 1) 0 (nI i) s = _
        rw [f_Np_init_118, b_Np_init_118, if_neg (show ¬ (4 : Int32) ≤ nI i from nI_ge (a := (i)) (b := 4) (by omega) (by omega)), ob_R ((i2 0 (by omega) (by omega)).trans g12) (by omega) w1, bnd_s, y1, bnd_s, i1, y2, bnd_s, y3, bnd_s, nI_1]) 4 0 h12 5 rfl (by omega) ⟨by rw [m12], fun _ _ _ => rfl, ⟨f0, e5, fun j hj => absurd hj (Nat.not_lt_zero j)⟩, fun j hj => absurd hj (Nat.not_lt_zero j)⟩
  refine ⟨s, f, ?_, i1, i2, i3, i4, i5⟩
  refine Eq.trans el ?_
  show f_Np_init_118 F 1 0 (nI 4) s = _
  rw [f_Np_init_118, b_Np_init_118, if_pos (show (4 : Int32) ≤ nI 4 from nI_le (a := 4) (b := 4) (by omega) (by omega))]
theorem i_np {h : PH} (e : h.2 0 = obj 9 13 (dvl 9)) (ha : h.1 = 1) (E : Nat → Nat → Int32) (sv : Nat → ST) (tx : Nat → Int32) {F : Nat} (hF : 3000 ≤ F) : ∃ h', f_Np_init F 0 h = some h' ∧ h'.1 = 263 ∧ CW h' (x0 E) 0 sv 0 tx ∧ VAL (x0 E) := by
  obtain ⟨h1, V, pre, n1, g1, hV, v3, v4, s1, s14, c27, tx0, p30, r32, sf, s122, s208, s209, s210⟩ := i_np1 e ha E tx hF
  obtain ⟨s, f, el, i1, i2, i3, i4, i5⟩ := i_sav g1 hV.2.2.1 n1 c27 hF
  have hx0 : VAL (x0 E) := ⟨R0_ok, fun c _ z => (by cases z), fun c _ => (by show 0 < 7; omega), by show 0 ≤ 100; omega⟩
  have hinv : INV (tR (x0 E)) (tK (x0 E)) (fun _ => true) (fun _ => false) := ⟨fun k _ z => (by cases z), fun k hk => absurd hk (Nat.not_lt_zero k)⟩
  refine ⟨s, pre.trans el, i1, ⟨⟨_, _, s1.fr fun k hk => i2 k (by simp only [US] at hk; omega) (by simp only [US] at hk; omega), hinv⟩, ?_, ?_, ?_⟩, hx0⟩
  · exact (sf.fr fun k h1 h2 => i2 k (by omega) (by omega)).c hx0
  · exact ⟨V, 0, f, (i2 0 (by omega) (by omega)).trans g1, hV, v3, v4, by omega, by omega, s14.fr fun k hk => i2 k (by simp only [US] at hk; omega) (by simp only [US] at hk; omega), ⟨i3, i4⟩, i5, fun i hi => absurd hi (Nat.not_lt_zero i), tx0.fr (i2 _ (by omega) (by omega)) (i2 _ (by omega) (by omega))⟩
  · obtain ⟨W, c⟩ := s122
    obtain ⟨W2, d⟩ := s208
    obtain ⟨g, d2⟩ := s209
    obtain ⟨g2, d3⟩ := s210
    exact ⟨p30.fr (i2 _ (by omega) (by omega)) (i2 _ (by omega) (by omega)), r32.fr fun j hj => i2 _ (by omega) (by omega), ⟨W, c.fr fun k h1 h2 => i2 _ (by omega) (by omega)⟩, ⟨W2, (i2 _ (by omega) (by omega)).trans d⟩, ⟨g, (i2 _ (by omega) (by omega)).trans d2⟩, g2, (i2 _ (by omega) (by omega)).trans d3⟩
