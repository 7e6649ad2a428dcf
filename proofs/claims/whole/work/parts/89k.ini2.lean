/-! What the constructors make: the whole desks. -/
theorem cT1 : (cT 1).2.2 = 4 := rfl
theorem cT3 : (cT 3).2.2 = 7 := rfl
theorem cT6 : (cT 6).2.2 = 4 := rfl
theorem cT7 : (cT 7).2.2 = 12 := rfl
theorem cT8 : (cT 8).2.2 = 4 := rfl
theorem sR_e {h : PH} {a t n i v c : Nat} {fs : List Value} {f : Nat → Option Nat} (e : h.2 a = oR t n f) (ev : h.2 v = oO c fs) (hc : c = rcl t) (ht : t < 2) (hi : i < n) (hn : n < 2 ^ 31) : ∃ h', sR h a (nI i) v = some h' ∧ h'.2 a = oR t n (va_up f i (some v)) ∧ Fr (fun k => k = a) h h' := by
  refine ⟨_, ?_, hset_s _ _ _, (Fr.rf _ _).sq _⟩
  unfold sR
  rw [e, ev]
  show (if ¬ (nI i < 0 ∨ n ≤ (nI i).toNatClampNeg) ∧ t < 2 ∧ c = rcl t then _ else none) = _
  rw [nI_clamp (by omega), if_pos ⟨fun z => z.elim (nI_pos (by omega)) (by omega), ht, hc⟩]
theorem i_rea {h : PH} {a : Nat} (e : h.2 a = obj 3 7 (dvl 3)) (ha : h.1 = a + 1) : ∃ h', f_Rea_init a h = some h' ∧ h'.1 = a + 4 ∧ ReaOK h' a ∧ ∀ k, k < a → h'.2 k = h.2 k := by
  obtain ⟨h1, z1, n1, s1, o1⟩ := nO_e h 6 cT6
  rw [ha] at n1 s1 o1
  obtain ⟨h2, z2, n2, s2, o2⟩ := newH_e h1 (oI 6 (fun _ => 0))
  rw [n1] at n2 s2 o2
  obtain ⟨h3, p3, g3, f3⟩ := puti (k := 0) (.ref h1.1) ((o2 (a + 1) (by omega)).trans s1) (by omega)
  obtain ⟨h4, z4, n4, s4, o4⟩ := newH_e h3 (oI 6 (fun _ => 0))
  have m3 : h3.1 = a + 3 := by rw [f3.1, n2]
  rw [m3] at n4 s4 o4
  obtain ⟨h5, p5, g5, f5⟩ := puti (k := 1) (.ref h3.1) ((o4 (a + 1) (by omega)).trans g3) (by omega)
  obtain ⟨h6, p6, g6, f6⟩ := puti (k := 0) (.ref h.1) ((f5.2 a (by omega)).trans ((o4 a (by omega)).trans ((f3.2 a (by omega)).trans ((o2 a (by omega)).trans ((o1 a (by omega)).trans e))))) (by omega)
  refine ⟨h6, ?_, by rw [f6.1, f5.1, n4], ⟨_, g6, by rw [vu_s, ha], _, _, _, (f6.2 _ (by omega)).trans g5, ?_, ?_, (f6.2 _ (by omega)).trans ((f5.2 _ (by omega)).trans ((o4 _ (by omega)).trans ((f3.2 _ (by omega)).trans s2))), (f6.2 _ (by omega)).trans ((f5.2 _ (by omega)).trans s4)⟩, fun k hk => by rw [f6.2 k (by omega), f5.2 k (by omega), o4 k (by omega), f3.2 k (by omega), o2 k (by omega), o1 k (by omega)]⟩
  · unfold f_Rea_init f_Siv_init
    rw [z1, bnd_s, z2, bnd_s, ha, p3, bnd_s, z4, bnd_s, p5, bnd_s, bnd_s, ← ha, p6, bnd_s]
  · rw [vu_n _ _ (by omega), vu_s, n1]
  · rw [vu_s, m3]
theorem i_lev {h12 : PH} {a : Nat} {W : Nat → Value} {f0 : Nat → Option Nat} (g12 : h12.2 a = obj 7 12 W) (w1 : W 1 = .ref (a + 5)) (m12 : h12.1 = a + 10) (e5 : h12.2 (a + 5) = oR 1 38 f0) {F : Nat} (hF : 3000 ≤ F) :
    ∃ s f, f_Sol_init_53 F 39 a (0 : Int32) h12 = some s ∧ s.1 = a + 86 ∧ (∀ k, k < a + 10 → k ≠ a + 5 → s.2 k = h12.2 k) ∧ s.2 (a + 5) = oR 1 38 f ∧ (∀ j, j < 38 → f j = some (a + 10 + 2 * j)) ∧ ∀ j, j < 38 → PosSh s (a + 10 + 2 * j) := by
  obtain ⟨s, ⟨i1, i2, ⟨f, i3, i4⟩, i5⟩, el⟩ := LC (fun n i s => f_Sol_init_53 F n a (nI i) s) (fun i s => s.1 = a + 10 + 2 * i ∧ (∀ k, k < a + 10 → k ≠ a + 5 → s.2 k = h12.2 k) ∧ (∃ f, s.2 (a + 5) = oR 1 38 f ∧ ∀ j, j < i → f j = some (a + 10 + 2 * j)) ∧ ∀ j, j < i → PosSh s (a + 10 + 2 * j)) 38
    (fun n i s hi ⟨i1, i2, ⟨f, i3, i4⟩, i5⟩ => by
      obtain ⟨t1, y1, u1, v1, w1'⟩ := nO_e s 1 cT1
      rw [i1] at u1 v1 w1'
      obtain ⟨t2, y2, u2, v2, w2⟩ := i_pos v1 u1 hF
      obtain ⟨V9, sp, b1, b2, b3⟩ := v2.sh
      obtain ⟨t3, y3, v3, w3⟩ := sR_e (i := i) (v := a + 10 + 2 * i) ((w2 (a + 5) (by omega)).trans ((w1' (a + 5) (by omega)).trans i3)) b1 rfl (by omega) hi (by omega)
      refine ⟨t3, ⟨by rw [w3.1, u2]; omega, fun k k1 k2 => by rw [w3.2 k k2, w2 k (by omega), w1' k (by omega), i2 k k1 k2], ⟨_, v3, fun j hj => ?_⟩, fun j hj => ?_⟩, ?_⟩
      · by_cases q : j = i
        · subst q; simp [va_up]
        · simp [va_up, q]; exact i4 j (by omega)
      · by_cases q : j = i
        · subst q
          exact v2.sh.fr (w3.2 _ (by omega)) (w3.2 _ (by omega))
        · exact (i5 j (by omega)).fr (by rw [w3.2 _ (by omega), w2 _ (by omega), w1' _ (by omega)]) (by rw [w3.2 _ (by omega), w2 _ (by omega), w1' _ (by omega)])
      · show f_Sol_init_53 F (n + 1) a (nI i) s = _
        rw [f_Sol_init_53, b_Sol_init_53, if_neg (show ¬ (38 : Int32) ≤ nI i from nI_ge (a := (i)) (b := 38) (by omega) (by omega)), ob_R ((i2 a (by omega) (by omega)).trans g12) (by omega) w1, bnd_s, y1, bnd_s, i1, y2, bnd_s, y3, bnd_s, nI_1]) 38 0 h12 39 rfl (by omega) ⟨by rw [m12], fun _ _ _ => rfl, ⟨f0, e5, fun j hj => absurd hj (Nat.not_lt_zero j)⟩, fun j hj => absurd hj (Nat.not_lt_zero j)⟩
  refine ⟨s, f, ?_, by rw [i1], i2, i3, i4, i5⟩
  refine Eq.trans el ?_
  show f_Sol_init_53 F 1 a (nI 38) s = _
  rw [f_Sol_init_53, b_Sol_init_53, if_pos (show (38 : Int32) ≤ nI 38 from nI_le (a := 38) (b := 38) (by omega) (by omega))]
theorem i_sol1 {h : PH} {a : Nat} (e : h.2 a = obj 7 12 (dvl 7)) (ha : h.1 = a + 1) {F : Nat} (hF : 3000 ≤ F) : ∃ h' W, f_Sol_init F a h = f_Sol_init_53 F 39 a (0 : Int32) h' ∧ h'.1 = a + 10 ∧ h'.2 a = obj 7 12 W ∧ (W 0 = .ref (a + 1) ∧ W 1 = .ref (a + 5) ∧ W 2 = .ref (a + 6) ∧ W 3 = .ref (a + 7) ∧ W 8 = .ref (a + 9)) ∧ (W 4 = .int 0 ∧ W 5 = .int 0 ∧ W 6 = .int 0 ∧ W 7 = .int 0) ∧ ReaOK h' (a + 1) ∧ h'.2 (a + 5) = oR 1 38 (fun _ => none) ∧ (∃ g, h'.2 (a + 6) = oL 7 g) ∧ PosSh h' (a + 7) ∧ (∃ g, h'.2 (a + 9) = oL 8 g ∧ g 7 = 0) ∧ ∀ k, k < a → h'.2 k = h.2 k := by
  obtain ⟨h1, z1, n1, s1, o1⟩ := nO_e h 3 cT3
  rw [ha] at n1 s1 o1
  obtain ⟨h2, p2, n2, g2, o2⟩ := i_rea s1 n1
  obtain ⟨h3, p3, g3, f3⟩ := puti (k := 0) (.ref h.1) ((o2 a (by omega)).trans ((o1 a (by omega)).trans e)) (by omega)
  have m3 : h3.1 = a + 5 := by rw [f3.1, n2]
  obtain ⟨h4, z4, n4, s4, o4⟩ := newH_e h3 (oR 1 38 (fun _ => none))
  rw [m3] at n4 s4 o4
  obtain ⟨h5, p5, g5, f5⟩ := puti (k := 1) (.ref h3.1) ((o4 a (by omega)).trans g3) (by omega)
  have m5 : h5.1 = a + 6 := by rw [f5.1, n4]
  obtain ⟨h6, z6, n6, s6, o6⟩ := newH_e h5 (oL 7 (fun _ => 0))
  rw [m5] at n6 s6 o6
  obtain ⟨h7, p7, g7, f7⟩ := puti (k := 2) (.ref h5.1) ((o6 a (by omega)).trans g5) (by omega)
  have m7 : h7.1 = a + 7 := by rw [f7.1, n6]
  obtain ⟨h8, z8, n8, s8, o8⟩ := nO_e h7 1 cT1
  rw [m7] at n8 s8 o8
  obtain ⟨h9, p9, n9, g9, o9⟩ := i_pos s8 n8 hF
  obtain ⟨h10, p10, g10, f10⟩ := puti (k := 3) (.ref h7.1) ((o9 a (by omega)).trans ((o8 a (by omega)).trans g7)) (by omega)
  have m10 : h10.1 = a + 9 := by rw [f10.1, n9]
  obtain ⟨h11, z11, n11, s11, o11⟩ := newH_e h10 (oL 8 (fun _ => 0))
  rw [m10] at n11 s11 o11
  obtain ⟨h12, p12, g12, f12⟩ := puti (k := 8) (.ref h10.1) ((o11 a (by omega)).trans g10) (by omega)
  have m12 : h12.1 = a + 10 := by rw [f12.1, n11]
  have q12 : ∀ k, k ≠ a → k < a + 9 → h12.2 k = h9.2 k := fun k k1 k2 => by rw [f12.2 k k1, o11 k (by omega), f10.2 k k1]
  have q9 : ∀ k, k ≠ a → k < a + 7 → h12.2 k = h7.2 k := fun k k1 k2 => by rw [q12 k k1 (by omega), o9 k k2, o8 k (by omega)]
  have q7 : ∀ k, k ≠ a → k < a + 6 → h12.2 k = h5.2 k := fun k k1 k2 => by rw [q9 k k1 (by omega), f7.2 k k1, o6 k (by omega)]
  have q5 : ∀ k, k ≠ a → k < a + 5 → h12.2 k = h3.2 k := fun k k1 k2 => by rw [q7 k k1 (by omega), f5.2 k k1, o4 k (by omega)]
  generalize hW : updV (updV (updV (updV (updV (dvl 7) 0 (.ref h.1)) 1 (.ref h3.1)) 2 (.ref h5.1)) 3 (.ref h7.1)) 8 (.ref h10.1) = W at g12
  have w1 : W 1 = .ref (a + 5) := by rw [← hW]; simp [updV, m3]
  have hre : ∀ j, j < 4 → h12.2 (a + 1 + j) = h2.2 (a + 1 + j) := fun j hj => by rw [q5 _ (by omega) (by omega), f3.2 _ (by omega)]
  refine ⟨h12, W, ?_, m12, g12, ?_, ?_, g2.fr hre, ?_, ?_, ?_, ⟨_, (f12.2 _ (by omega)).trans s11, rfl⟩, ?_⟩
  · unfold f_Sol_init
    rw [z1, bnd_s, ha, p2, bnd_s, ← ha, p3, bnd_s, z4, bnd_s, p5, bnd_s, z6, bnd_s, p7, bnd_s, z8, bnd_s, m7, p9, bnd_s, ← m7, p10, bnd_s, z11, bnd_s, p12, bnd_s]
  · rw [← hW]
    exact ⟨by simp [updV, ha], by simp [updV, m3], by simp [updV, m5], by simp [updV, m7], by simp [updV, m10]⟩
  · rw [← hW]
    exact ⟨rfl, rfl, rfl, rfl⟩
  · exact (q7 _ (by omega) (by omega)).trans ((f5.2 _ (by omega)).trans s4)
  · exact ⟨_, (q9 _ (by omega) (by omega)).trans ((f7.2 _ (by omega)).trans s6)⟩
  · exact g9.sh.fr (q12 _ (by omega) (by omega)) (q12 _ (by omega) (by omega))
  · intro k hk
    have e1 := q5 k (by omega) (by omega)
    have e2 := f3.2 k (by omega)
    have e3 := o2 k (by omega)
    have e4 := o1 k (by omega)
    rw [e1, e2, e3, e4]
theorem i_sol {h : PH} {a : Nat} (e : h.2 a = obj 7 12 (dvl 7)) (ha : h.1 = a + 1) {F : Nat} (hF : 3000 ≤ F) : ∃ h' W, f_Sol_init F a h = some h' ∧ h'.1 = a + 86 ∧ SolSh h' a W ∧ W 4 = .int 0 ∧ W 5 = .int 0 ∧ W 6 = .int 0 ∧ (∃ z, W 7 = .int z) ∧ ∀ k, k < a → h'.2 k = h.2 k := by
  obtain ⟨h12, W, p, m12, g12, ⟨w0, w1, w2, w3, w8⟩, ⟨w4, w5, w6, w7⟩, c1, c2, ⟨g6, c3⟩, c4, ⟨g9, c5, c6⟩, c7⟩ := i_sol1 e ha hF
  obtain ⟨s, f, el, i1, i2, i3, i4, i5⟩ := i_lev g12 w1 m12 c2 hF
  exact ⟨s, W, p.trans el, i1, ⟨(i2 a (by omega) (by omega)).trans g12, ⟨w0, w1, w2, w3, w8⟩, c1.fr fun j hj => i2 _ (by omega) (by omega), ⟨f, i3, i4⟩, ⟨g6, (i2 _ (by omega) (by omega)).trans c3⟩, c4.fr (i2 _ (by omega) (by omega)) (i2 _ (by omega) (by omega)), ⟨g9, (i2 _ (by omega) (by omega)).trans c5, c6⟩, i5⟩, w4, w5, w6, ⟨0, w7⟩, fun k hk => (i2 k (by omega) (by omega)).trans (c7 k hk)⟩
