/-! What the constructors make. -/
def dvl (ci : Nat) : Nat → Value := fun k => defaultValue (cTy ci k)
theorem newH_e (h : PH) (c : PC) : ∃ h1, newH h c = h1 ∧ h1.1 = h.1 + 1 ∧ h1.2 h.1 = c ∧ ∀ k, k ≠ h.1 → h1.2 k = h.2 k := ⟨_, rfl, rfl, newH_s _ _, fun _ hk => newH_n _ _ hk⟩
theorem nO_e (h : PH) (ci : Nat) {n : Nat} (hn : (cT ci).2.2 = n) : ∃ h1, nO h ci = h1 ∧ h1.1 = h.1 + 1 ∧ h1.2 h.1 = obj ci n (dvl ci) ∧ ∀ k, k ≠ h.1 → h1.2 k = h.2 k := by
  subst hn
  exact newH_e h _
theorem i_pos {h : PH} {a : Nat} {V : Nat → Value} (e : h.2 a = obj 1 4 V) (ha : h.1 = a + 1) {F : Nat} (hF : 3000 ≤ F) : ∃ h', f_Pos_init F a h = some h' ∧ h'.1 = a + 2 ∧ PosAt h' a (fun _ _ => true) (fun _ => false) (fun _ => true) (fun _ => false) ∧ ∀ k, k < a → h'.2 k = h.2 k := by
  obtain ⟨h1, z1, n1, s1, o1⟩ := newH_e h (oL 7 (fun _ => 0))
  obtain ⟨h2, p2, g2, f2⟩ := puti (k := 0) (.ref h.1) ((o1 a (by omega)).trans e) (by omega)
  have sh : PosSh h2 a := ⟨_, _, g2, by rw [vu_s, ha], by rw [f2.2 _ (by omega), ← ha]; exact s1⟩
  obtain ⟨h3, p3, g3, f3⟩ := p_openAll sh (F := F) (by omega)
  refine ⟨h3, ?_, by rw [f3.1, f2.1, n1, ha], g3, fun k hk => by rw [f3.2 k (by simp only [PS]; omega), f2.2 k (by omega), o1 k (by omega)]⟩
  unfold f_Pos_init
  rw [z1, bnd_s, p2, bnd_s, ob_K g2, bnd_s, p3, bnd_s]
theorem i_log {h : PH} {a : Nat} (e : h.2 a = obj 0 3 (dvl 0)) (ha : h.1 = a + 1) (E : Nat → Nat → Int32) : ∃ h', f_Log_init a h = some h' ∧ h'.1 = a + 2 ∧ LogAt h' a 0 E ∧ ∀ k, k < a → h'.2 k = h.2 k := by
  obtain ⟨h1, z1, n1, s1, o1⟩ := newH_e h (oI 300 (fun _ => 0))
  obtain ⟨h2, p2, g2, f2⟩ := puti (k := 0) (.ref h.1) ((o1 a (by omega)).trans e) (by omega)
  refine ⟨h2, ?_, by rw [f2.1, n1, ha], ⟨_, 0, _, g2, by rw [vu_s, ha], (vu_n _ _ (by omega)).trans rfl, (vu_n _ _ (by omega)).trans rfl, by omega, by omega, by rw [f2.2 _ (by omega), ← ha]; exact s1, fun i j hi => absurd hi (Nat.not_lt_zero i)⟩, fun k hk => by rw [f2.2 k (by omega), o1 k (by omega)]⟩
  unfold f_Log_init
  rw [z1, bnd_s, p2, bnd_s]
theorem rul_iw (F : Nat) : ∀ n, f_Rul_init_54 F n = f_Rul_wipe_7 F n := by
  intro n
  induction n with
  | zero => rfl
  | succ n ih =>
    rw [f_Rul_init_54, f_Rul_wipe_7, ih]
    rfl
theorem i_rul {h : PH} {a : Nat} (e : h.2 a = obj 4 7 (dvl 4)) (ha : h.1 = a + 1) {F : Nat} (hF : 3000 ≤ F) : ∃ h', f_Rul_init F a h = some h' ∧ h'.1 = a + 7 ∧ RulAt h' a R0 ∧ ∀ k, k < a → h'.2 k = h.2 k := by
  obtain ⟨h1, z1, n1, s1, o1⟩ := newH_e h (oI 8 (fun _ => 0))
  obtain ⟨h2, p2, g2, f2⟩ := puti (k := 0) (.ref h.1) ((o1 a (by omega)).trans e) (by omega)
  obtain ⟨h3, z3, n3, s3, o3⟩ := newH_e h2 (oI 8 (fun _ => 0))
  have m2 : h2.1 = a + 2 := by rw [f2.1, n1, ha]
  obtain ⟨h4, p4, g4, f4⟩ := puti (k := 1) (.ref h2.1) ((o3 a (by omega)).trans g2) (by omega)
  obtain ⟨h5, z5, n5, s5, o5⟩ := newH_e h4 (oI 8 (fun _ => 0))
  have m4 : h4.1 = a + 3 := by rw [f4.1, n3, m2]
  obtain ⟨h6, p6, g6, f6⟩ := puti (k := 2) (.ref h4.1) ((o5 a (by omega)).trans g4) (by omega)
  obtain ⟨h7, z7, n7, s7, o7⟩ := newH_e h6 (oI 48 (fun _ => 0))
  have m6 : h6.1 = a + 4 := by rw [f6.1, n5, m4]
  obtain ⟨h8, p8, g8, f8⟩ := puti (k := 3) (.ref h6.1) ((o7 a (by omega)).trans g6) (by omega)
  obtain ⟨h9, z9, n9, s9, o9⟩ := newH_e h8 (oL 8 (fun _ => 0))
  have m8 : h8.1 = a + 5 := by rw [f8.1, n7, m6]
  obtain ⟨h10, p10, g10, f10⟩ := puti (k := 4) (.ref h8.1) ((o9 a (by omega)).trans g8) (by omega)
  obtain ⟨h11, z11, n11, s11, o11⟩ := newH_e h10 (oL 36 (fun _ => 0))
  have m10 : h10.1 = a + 6 := by rw [f10.1, n9, m8]
  obtain ⟨h12, p12, g12, f12⟩ := puti (k := 5) (.ref h10.1) ((o11 a (by omega)).trans g10) (by omega)
  have m12 : h12.1 = a + 7 := by rw [f12.1, n11, m10]
  rw [ha] at s1
  rw [m2] at s3
  rw [m4] at s5
  rw [m6] at s7
  rw [m8] at s9
  rw [m10] at s11
  have q12 : ∀ k, k ≠ a → k ≠ a + 6 → h12.2 k = h10.2 k := fun k hk h6 => (f12.2 k hk).trans (o11 k (by omega))
  have q10 : ∀ k, k ≠ a → k ≠ a + 5 → h10.2 k = h8.2 k := fun k hk h6 => (f10.2 k hk).trans (o9 k (by omega))
  have q8 : ∀ k, k ≠ a → k ≠ a + 4 → h8.2 k = h6.2 k := fun k hk h6 => (f8.2 k hk).trans (o7 k (by omega))
  have q6 : ∀ k, k ≠ a → k ≠ a + 3 → h6.2 k = h4.2 k := fun k hk h6 => (f6.2 k hk).trans (o5 k (by omega))
  have q4 : ∀ k, k ≠ a → k ≠ a + 2 → h4.2 k = h2.2 k := fun k hk h6 => (f4.2 k hk).trans (o3 k (by omega))
  have q2 : ∀ k, k ≠ a → k ≠ a + 1 → h2.2 k = h.2 k := fun k hk h6 => (f2.2 k hk).trans (o1 k (by omega))
  have hsh : RulSh h12 a := by
    refine ⟨_, _, _, _, _, _, _, g12, ⟨?_, ?_, ?_, ?_, ?_, ?_⟩, ((q12 _ (by omega) (by omega)).trans ((q10 _ (by omega) (by omega)).trans ((q8 _ (by omega) (by omega)).trans ((q6 _ (by omega) (by omega)).trans ((q4 _ (by omega) (by omega)).trans ((f2.2 _ (by omega)).trans s1)))))), ((q12 _ (by omega) (by omega)).trans ((q10 _ (by omega) (by omega)).trans ((q8 _ (by omega) (by omega)).trans ((q6 _ (by omega) (by omega)).trans ((f4.2 _ (by omega)).trans s3))))), ((q12 _ (by omega) (by omega)).trans ((q10 _ (by omega) (by omega)).trans ((q8 _ (by omega) (by omega)).trans ((f6.2 _ (by omega)).trans s5)))), ((q12 _ (by omega) (by omega)).trans ((q10 _ (by omega) (by omega)).trans ((f8.2 _ (by omega)).trans s7))), ((q12 _ (by omega) (by omega)).trans ((f10.2 _ (by omega)).trans s9)), (f12.2 _ (by omega)).trans s11⟩
    · simp [updV, ha]
    · simp [updV, m2]
    · simp [updV, m4]
    · simp [updV, m6]
    · simp [updV, m8]
    · simp [updV, m10]
  obtain ⟨h13, p13, g13, f13⟩ := rul_wipe hsh (F := F) (by omega)
  have hsame : pV h12 a 4 6 (.int (0 : Int32)) = some h12 := by
    rw [ob_P (.int (0 : Int32)) g12 (by omega)]
    congr 1
    have hV : ∀ W : Nat → Value, W 6 = .int 0 → updV W 6 (.int (0 : Int32)) = W := fun W hW => by
      funext k
      unfold updV
      split
      · rename_i z; rw [z, hW]
      · rfl
    rw [hV _ (by simp [updV]; rfl), ← g12]
    unfold hset
    refine Prod.ext rfl (funext fun k => ?_)
    simp
    intro z
    rw [z]
  refine ⟨h13, ?_, by rw [f13.1, m12], g13, fun k hk => by rw [f13.2 k (by simp only [UR]; omega), q12 k (by omega) (by omega), q10 k (by omega) (by omega), q8 k (by omega) (by omega), q6 k (by omega) (by omega), q4 k (by omega) (by omega), q2 k (by omega) (by omega)]⟩
  unfold f_Rul_init
  rw [z1, bnd_s, p2, bnd_s, z3, bnd_s, p4, bnd_s, z5, bnd_s, p6, bnd_s, z7, bnd_s, p8, bnd_s, z9, bnd_s, p10, bnd_s, z11, bnd_s, p12, bnd_s, rul_iw]
  unfold f_Rul_wipe at p13
  rw [hsame, bnd_s] at p13
  exact p13
theorem i_sta {h : PH} {a : Nat} (e : h.2 a = obj 8 4 (dvl 8)) (ha : h.1 = a + 1) (E : Nat → Nat → Int32) {F : Nat} (hF : 3000 ≤ F) : ∃ h', f_Sta_init F a h = some h' ∧ h'.1 = a + 13 ∧ StaAt h' a (x0 E) (fun _ => true) (fun _ => false) ∧ ∀ k, k < a → h'.2 k = h.2 k := by
  obtain ⟨h1, z1, n1, s1, o1⟩ := nO_e h 1 (n := 4) rfl
  rw [ha] at n1 s1 o1
  obtain ⟨h2, p2, n2, g2, o2⟩ := i_pos s1 n1 hF
  obtain ⟨h3, p3, g3, f3⟩ := puti (k := 0) (.ref h.1) ((o2 a (by omega)).trans ((o1 a (by omega)).trans e)) (by omega)
  have m3 : h3.1 = a + 3 := by rw [f3.1, n2]
  obtain ⟨h4, z4, n4, s4, o4⟩ := nO_e h3 4 (n := 7) rfl
  rw [m3] at n4 s4 o4
  obtain ⟨h5, p5, n5, g5, o5⟩ := i_rul s4 n4 hF
  obtain ⟨h6, p6, g6, f6⟩ := puti (k := 1) (.ref h3.1) ((o5 a (by omega)).trans ((o4 a (by omega)).trans g3)) (by omega)
  have m6 : h6.1 = a + 10 := by rw [f6.1, n5]
  obtain ⟨h7, z7, n7, s7, o7⟩ := newH_e h6 (oI 36 (fun _ => 0))
  rw [m6] at n7 s7 o7
  obtain ⟨h8, p8, g8, f8⟩ := puti (k := 2) (.ref h6.1) ((o7 a (by omega)).trans g6) (by omega)
  have m8 : h8.1 = a + 11 := by rw [f8.1, n7]
  obtain ⟨h9, z9, n9, s9, o9⟩ := nO_e h8 0 (n := 3) rfl
  rw [m8] at n9 s9 o9
  obtain ⟨h10, p10, n10, g10, o10⟩ := i_log s9 n9 E
  obtain ⟨h11, p11, g11, f11⟩ := puti (k := 3) (.ref h8.1) ((o10 a (by omega)).trans ((o9 a (by omega)).trans g8)) (by omega)
  have q11 : ∀ k, k ≠ a → k < a + 11 → h11.2 k = h8.2 k := fun k k1 k2 => by rw [f11.2 k k1, o10 k k2, o9 k (by omega)]
  have q8 : ∀ k, k ≠ a → k < a + 10 → h11.2 k = h6.2 k := fun k k1 k2 => by rw [q11 k k1 (by omega), f8.2 k k1, o7 k (by omega)]
  have q6 : ∀ k, k ≠ a → k < a + 3 → h11.2 k = h3.2 k := fun k k1 k2 => by rw [q8 k k1 (by omega), f6.2 k k1, o5 k k2, o4 k (by omega)]
  refine ⟨h11, ?_, by rw [f11.1, n10], ⟨⟨_, g11, ?_, ?_, ?_, ?_⟩, ?_, ?_, ⟨_, (q11 _ (by omega) (by omega)).trans ((f8.2 _ (by omega)).trans s7), fun _ _ => rfl⟩, g10.fr (f11.2 _ (by omega)) (f11.2 _ (by omega))⟩, fun k hk => by rw [q6 k (by omega) (by omega), f3.2 k (by omega), o2 k (by omega), o1 k (by omega)]⟩
  · unfold f_Sta_init
    rw [z1, bnd_s, ha, p2, bnd_s, ← ha, p3, bnd_s, z4, bnd_s, m3, p5, bnd_s, ← m3, p6, bnd_s, z7, bnd_s, p8, bnd_s, z9, bnd_s, m8, p10, bnd_s, ← m8, p11, bnd_s]
  · simp [updV, ha]
  · simp [updV, m3]
  · simp [updV, m6]
  · simp [updV, m8]
  · exact g2.fr ((q6 _ (by omega) (by omega)).trans (f3.2 _ (by omega))) ((q6 _ (by omega) (by omega)).trans (f3.2 _ (by omega)))
  · exact g5.fe fun j hj => (q8 _ (by omega) (by omega)).trans (f6.2 _ (by omega))
