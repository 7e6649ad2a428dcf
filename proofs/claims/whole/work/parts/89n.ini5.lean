/-! What the class's constructor makes: its steps. -/
def Dk (h : PH) (n : Nat) (V : Nat → Value) : Prop := h.2 0 = obj 9 13 V ∧ h.1 = n
def Kp0 (n : Nat) (h h' : PH) : Prop := ∀ j, j ≠ 0 → j < n → h'.2 j = h.2 j
theorem k_sta {h : PH} {n k : Nat} {V : Nat → Value} (H : Dk h n V) (hn : n ≠ 0) (hk : k < 13) (E : Nat → Nat → Int32) {F : Nat} (hF : 3000 ≤ F) : ∃ h', (∀ K : PH → Option PH, (bnd (some (nO h 8)) fun h1 => bnd (f_Sta_init F h.1 h1) fun h2 => bnd (pV h2 0 9 k (.ref h.1)) K) = K h') ∧ Dk h' (n + 13) (updV V k (.ref n)) ∧ StaAt h' n (x0 E) (fun _ => true) (fun _ => false) ∧ Kp0 n h h' := by
  obtain ⟨e, ha⟩ := H
  obtain ⟨h1, z1, n1, s1, o1⟩ := nO_e h 8 cT8
  rw [ha] at n1 s1 o1
  obtain ⟨h2, p2, n2, g2, o2⟩ := i_sta s1 n1 E hF
  obtain ⟨h3, p3, g3, f3⟩ := puti (k := k) (.ref n) ((o2 0 (by omega)).trans ((o1 0 (by omega)).trans e)) hk
  exact ⟨h3, fun K => by rw [bnd_s, z1, ha, p2, bnd_s, p3, bnd_s], ⟨g3, by rw [f3.1, n2]⟩, g2.fr fun j hj => f3.2 j (by simp only [US] at hj; omega), fun j h1 h2 => by rw [f3.2 j h1, o2 j h2, o1 j (by omega)]⟩
theorem k_arr {h : PH} {n k : Nat} {V : Nat → Value} (H : Dk h n V) (hn : n ≠ 0) (hk : k < 13) (c : PC) : ∃ h', (∀ K : PH → Option PH, (bnd (some (newH h c)) fun h1 => bnd (pV h1 0 9 k (.ref h.1)) K) = K h') ∧ Dk h' (n + 1) (updV V k (.ref n)) ∧ h'.2 n = c ∧ Kp0 n h h' := by
  obtain ⟨e, ha⟩ := H
  obtain ⟨h1, z1, n1, s1, o1⟩ := newH_e h c
  rw [ha] at n1 s1 o1
  obtain ⟨h3, p3, g3, f3⟩ := puti (k := k) (.ref n) ((o1 0 (by omega)).trans e) hk
  exact ⟨h3, fun K => by rw [bnd_s, z1, ha, p3, bnd_s], ⟨g3, by rw [f3.1, n1]⟩, (f3.2 _ hn).trans s1, fun j h1 h2 => by rw [f3.2 j h1, o1 j (by omega)]⟩
theorem k_txt {h : PH} {n k : Nat} {V : Nat → Value} (H : Dk h n V) (hn : n ≠ 0) (hk : k < 13) : ∃ h', (∀ K : PH → Option PH, (bnd (some (nO h 2)) fun h1 => bnd (f_Txt_init h.1 h1) fun h2 => bnd (pV h2 0 9 k (.ref h.1)) K) = K h') ∧ Dk h' (n + 2) (updV V k (.ref n)) ∧ (∃ W, h'.2 n = obj 2 4 W ∧ W 0 = .ref (n + 1) ∧ W 1 = .int (nI 0)) ∧ h'.2 (n + 1) = oI 150 (fun _ => 0) ∧ Kp0 n h h' := by
  obtain ⟨e, ha⟩ := H
  obtain ⟨h1, z1, n1, s1, o1⟩ := nO_e h 2 (n := 4) rfl
  rw [ha] at n1 s1 o1
  obtain ⟨h2, z2, n2, s2, o2⟩ := newH_e h1 (oI 150 (fun _ => 0))
  rw [n1] at n2 s2 o2
  obtain ⟨h3, p3, g3, f3⟩ := puti (k := 0) (.ref (n + 1)) ((o2 n (by omega)).trans s1) (by omega)
  obtain ⟨h4, p4, g4, f4⟩ := puti (k := k) (.ref n) ((f3.2 0 (by omega)).trans ((o2 0 (by omega)).trans ((o1 0 (by omega)).trans e))) hk
  refine ⟨h4, fun K => ?_, ⟨g4, by rw [f4.1, f3.1, n2]⟩, ⟨_, (f4.2 _ hn).trans g3, vu_s _ _ _, (vu_n _ _ (by omega)).trans rfl⟩, (f4.2 _ (by omega)).trans ((f3.2 _ (by omega)).trans s2), fun j h1 h2 => by rw [f4.2 j h1, f3.2 j (by omega), o2 j (by omega), o1 j (by omega)]⟩
  unfold f_Txt_init
  rw [bnd_s, z1, z2, bnd_s, n1, ha, p3, bnd_s, bnd_s, p4, bnd_s]
theorem k_pos {h : PH} {n k : Nat} {V : Nat → Value} (H : Dk h n V) (hn : n ≠ 0) (hk : k < 13) {F : Nat} (hF : 3000 ≤ F) : ∃ h', (∀ K : PH → Option PH, (bnd (some (nO h 1)) fun h1 => bnd (f_Pos_init F h.1 h1) fun h2 => bnd (pV h2 0 9 k (.ref h.1)) K) = K h') ∧ Dk h' (n + 2) (updV V k (.ref n)) ∧ PosSh h' n ∧ Kp0 n h h' := by
  obtain ⟨e, ha⟩ := H
  obtain ⟨h1, z1, n1, s1, o1⟩ := nO_e h 1 cT1
  rw [ha] at n1 s1 o1
  obtain ⟨h2, p2, n2, g2, o2⟩ := i_pos s1 n1 hF
  obtain ⟨h3, p3, g3, f3⟩ := puti (k := k) (.ref n) ((o2 0 (by omega)).trans ((o1 0 (by omega)).trans e)) hk
  exact ⟨h3, fun K => by rw [bnd_s, z1, ha, p2, bnd_s, p3, bnd_s], ⟨g3, by rw [f3.1, n2]⟩, g2.sh.fr (f3.2 _ (by omega)) (f3.2 _ (by omega)), fun j h1 h2 => by rw [f3.2 j h1, o2 j h2, o1 j (by omega)]⟩
theorem k_rea {h : PH} {n k : Nat} {V : Nat → Value} (H : Dk h n V) (hn : n ≠ 0) (hk : k < 13) : ∃ h', (∀ K : PH → Option PH, (bnd (some (nO h 3)) fun h1 => bnd (f_Rea_init h.1 h1) fun h2 => bnd (pV h2 0 9 k (.ref h.1)) K) = K h') ∧ Dk h' (n + 4) (updV V k (.ref n)) ∧ ReaOK h' n ∧ Kp0 n h h' := by
  obtain ⟨e, ha⟩ := H
  obtain ⟨h1, z1, n1, s1, o1⟩ := nO_e h 3 cT3
  rw [ha] at n1 s1 o1
  obtain ⟨h2, p2, n2, g2, o2⟩ := i_rea s1 n1
  obtain ⟨h3, p3, g3, f3⟩ := puti (k := k) (.ref n) ((o2 0 (by omega)).trans ((o1 0 (by omega)).trans e)) hk
  exact ⟨h3, fun K => by rw [bnd_s, z1, ha, p2, bnd_s, p3, bnd_s], ⟨g3, by rw [f3.1, n2]⟩, g2.fr fun j hj => f3.2 _ (by omega), fun j h1 h2 => by rw [f3.2 j h1, o2 j h2, o1 j (by omega)]⟩
theorem k_sol {h : PH} {n k : Nat} {V : Nat → Value} (H : Dk h n V) (hn : n ≠ 0) (hk : k < 13) {F : Nat} (hF : 3000 ≤ F) : ∃ h', (∀ K : PH → Option PH, (bnd (some (nO h 7)) fun h1 => bnd (f_Sol_init F h.1 h1) fun h2 => bnd (pV h2 0 9 k (.ref h.1)) K) = K h') ∧ Dk h' (n + 86) (updV V k (.ref n)) ∧ (∃ W, SolSh h' n W ∧ W 4 = .int 0 ∧ W 5 = .int 0 ∧ W 6 = .int 0 ∧ ∃ z, W 7 = .int z) ∧ Kp0 n h h' := by
  obtain ⟨e, ha⟩ := H
  obtain ⟨h1, z1, n1, s1, o1⟩ := nO_e h 7 cT7
  rw [ha] at n1 s1 o1
  obtain ⟨h2, W, p2, n2, g2, w4, w5, w6, w7, o2⟩ := i_sol s1 n1 hF
  obtain ⟨h3, p3, g3, f3⟩ := puti (k := k) (.ref n) ((o2 0 (by omega)).trans ((o1 0 (by omega)).trans e)) hk
  exact ⟨h3, fun K => by rw [bnd_s, z1, ha, p2, bnd_s, p3, bnd_s], ⟨g3, by rw [f3.1, n2]⟩, ⟨W, g2.fr fun j h1 h2 => f3.2 j (by omega), w4, w5, w6, w7⟩, fun j h1 h2 => by rw [f3.2 j h1, o2 j h2, o1 j (by omega)]⟩
theorem k_shu {h : PH} {n k : Nat} {V : Nat → Value} (H : Dk h n V) (hn : n ≠ 0) (hk : k < 13) : ∃ h', (∀ K : PH → Option PH, (bnd (some (nO h 5)) fun h1 => bnd (f_Shu_init h.1 h1) fun h2 => bnd (pV h2 0 9 k (.ref h.1)) K) = K h') ∧ Dk h' (n + 1) (updV V k (.ref n)) ∧ (∃ W, h'.2 n = obj 5 1 W) ∧ Kp0 n h h' := by
  obtain ⟨e, ha⟩ := H
  obtain ⟨h1, z1, n1, s1, o1⟩ := nO_e h 5 (n := 1) rfl
  rw [ha] at n1 s1 o1
  obtain ⟨h3, p3, g3, f3⟩ := puti (k := k) (.ref n) ((o1 0 (by omega)).trans e) hk
  exact ⟨h3, fun K => by rw [bnd_s, z1, ha]; unfold f_Shu_init; rw [bnd_s, p3, bnd_s], ⟨g3, by rw [f3.1, n1]⟩, ⟨_, (f3.2 _ hn).trans s1⟩, fun j h1 h2 => by rw [f3.2 j h1, o1 j (by omega)]⟩
