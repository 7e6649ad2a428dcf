/-! constructors, by program. -/
theorem d_Log_init_0 : decode prog_3_method_1_code 0 = .ok (.aload_n 0, 1) := by decide +kernel
theorem d_Log_init_1 : decode prog_3_method_1_code 1 = .ok (.invokespecial 1, 3) := by decide +kernel
theorem d_Log_init_4 : decode prog_3_method_1_code 4 = .ok (.aload_n 0, 1) := by decide +kernel
theorem d_Log_init_5 : decode prog_3_method_1_code 5 = .ok (.sipush 300, 3) := by decide +kernel
theorem d_Log_init_8 : decode prog_3_method_1_code 8 = .ok (.newarray .int, 2) := by decide +kernel
theorem d_Log_init_10 : decode prog_3_method_1_code 10 = .ok (.putfield 9, 3) := by decide +kernel
theorem d_Log_init_13 : decode prog_3_method_1_code 13 = .ok (.return_, 1) := by decide +kernel
def f_Log_init (a0 : Nat) (h : PH) : Option PH :=
  bnd (some (newH h (oI 300 (fun _ => 0)))) fun h1 => bnd (pV h1 a0 0 0 (.ref h.1)) fun h2 => some h2
theorem g_Log_init_0 {l : Launch} {E : ET} {d : Nat} (hd : 2 ≤ d) {h9 : PH} (a0 : Nat) (h : PH) (hf : f_Log_init a0 h = some h9) : Go l E m_Log_init (rm d 1 300) (KI (KM E 1 300 (PoE none h9 0))) 0 0 h 0 0 [(0, .ref a0)] [] := by
  unfold f_Log_init at hf
  refine go_aload_n 0 d_Log_init_0 rfl ?_
  refine go_obj d_Log_init_1 ob_Log_1 ⟨by show 1 ≤ d; omega, by show 60 ≤ 60 * d; omega⟩ (Nat.le_of_ble_eq_true rfl) ?_
  refine go_aload_n 0 d_Log_init_4 rfl ?_
  refine go_sipush (300 : Int32) d_Log_init_5 (by decide) ?_
  obtain ⟨h1, e_h1, hf⟩ := bnd_x hf
  refine go_newaI 300 d_Log_init_8 ac_int (by decide +kernel) ⟨by show _ ≤ 1; omega, by show _ ≤ 300; omega⟩ ?_
  rw [Option.some.inj e_h1]
  change Go _ _ _ _ _ (0 + 1) (0 + 300) _ _ _ _ _
  obtain ⟨h2, e_h2, hf⟩ := bnd_x hf
  refine go_putF d_Log_init_10 e_h2 fl_Log_9 rfl rfl rfl (Or.inl ⟨_, rfl⟩) ?_
  have e9 := Option.some.inj hf
  subst e9
  refine go_toI ?_
  refine go_widen (k := 1) (n := 300) (by omega) (by omega) ?_
  exact go_vret d_Log_init_13 rfl ⟨rfl, rfl, rfl⟩
theorem c_Log_init {l : Launch} {E : ET} {d : Nat} (hd : 2 ≤ d) {h9 : PH} {a0 : Nat} {h : PH} (hf : f_Log_init a0 h = some h9) : FnC l E m_Log_init d 1 300 [.ref a0] h (PoE none h9 0) :=
  FnC.of (by decide +kernel) (Nat.le_of_ble_eq_true rfl) (g_Log_init_0 hd a0 h hf)
theorem d_Pos_init_0 : decode prog_4_method_1_code 0 = .ok (.aload_n 0, 1) := by decide +kernel
theorem d_Pos_init_1 : decode prog_4_method_1_code 1 = .ok (.invokespecial 3, 3) := by decide +kernel
theorem d_Pos_init_4 : decode prog_4_method_1_code 4 = .ok (.aload_n 0, 1) := by decide +kernel
theorem d_Pos_init_5 : decode prog_4_method_1_code 5 = .ok (.bipush 7, 2) := by decide +kernel
theorem d_Pos_init_7 : decode prog_4_method_1_code 7 = .ok (.newarray .long, 2) := by decide +kernel
theorem d_Pos_init_9 : decode prog_4_method_1_code 9 = .ok (.putfield 9, 3) := by decide +kernel
theorem d_Pos_init_12 : decode prog_4_method_1_code 12 = .ok (.aload_n 0, 1) := by decide +kernel
theorem d_Pos_init_13 : decode prog_4_method_1_code 13 = .ok (.invokevirtual 15, 3) := by decide +kernel
theorem d_Pos_init_16 : decode prog_4_method_1_code 16 = .ok (.return_, 1) := by decide +kernel
def f_Pos_init (F : Nat) (a0 : Nat) (h : PH) : Option PH :=
  bnd (some (newH h (oL 7 (fun _ => 0)))) fun h1 => bnd (pV h1 a0 1 0 (.ref h.1)) fun h2 => bnd (cK h2 a0 1) fun _ => bnd (f_Pos_openAll F a0 h2) fun h4 => some h4
theorem g_Pos_init_0 {l : Launch} {E : ET} {d : Nat} (hd : 2 ≤ d) {F : Nat} {h9 : PH} (a0 : Nat) (h : PH) (hf : f_Pos_init F a0 h = some h9) : Go l E m_Pos_init (rm d 1 7) (KI (KM E 1 7 (PoE none h9 0))) 0 0 h 0 0 [(0, .ref a0)] [] := by
  unfold f_Pos_init at hf
  refine go_aload_n 0 d_Pos_init_0 rfl ?_
  refine go_obj d_Pos_init_1 ob_Pos_3 ⟨by show 1 ≤ d; omega, by show 60 ≤ 60 * d; omega⟩ (Nat.le_of_ble_eq_true rfl) ?_
  refine go_aload_n 0 d_Pos_init_4 rfl ?_
  refine go_bipush (7 : Int32) d_Pos_init_5 (by decide) ?_
  obtain ⟨h1, e_h1, hf⟩ := bnd_x hf
  refine go_newaL 7 d_Pos_init_7 ac_long (by decide +kernel) ⟨by show _ ≤ 1; omega, by show _ ≤ 7; omega⟩ ?_
  rw [Option.some.inj e_h1]
  change Go _ _ _ _ _ (0 + 1) (0 + 7) _ _ _ _ _
  obtain ⟨h2, e_h2, hf⟩ := bnd_x hf
  refine go_putF d_Pos_init_9 e_h2 fl_Pos_9 rfl rfl rfl (Or.inl ⟨_, rfl⟩) ?_
  refine go_aload_n 0 d_Pos_init_12 rfl ?_
  obtain ⟨_, e3, hf⟩ := bnd_x hf
  obtain ⟨h4, e_x4, hf⟩ := bnd_x hf
  refine go_callV_N (As := []) (st := []) (c_Pos_openAll (d := d - 1) (by omega) e_x4) lk_Pos_15 rfl rfl e3 (by decide) rfl (⟨by show d - 1 + 1 ≤ d; omega, by show 60 * (d - 1) + 60 ≤ 60 * d; omega⟩) (Nat.le_of_ble_eq_true rfl) ⟨by show _ + 0 ≤ 1; omega, by show _ + 0 ≤ 7; omega⟩ d_Pos_init_13 ?_
  have e9 := Option.some.inj hf
  subst e9
  refine go_toI ?_
  refine go_widen (k := 1) (n := 7) (by omega) (by omega) ?_
  exact go_vret d_Pos_init_16 rfl ⟨rfl, rfl, rfl⟩
theorem c_Pos_init {l : Launch} {E : ET} {d : Nat} (hd : 2 ≤ d) {F : Nat} {h9 : PH} {a0 : Nat} {h : PH} (hf : f_Pos_init F a0 h = some h9) : FnC l E m_Pos_init d 1 7 [.ref a0] h (PoE none h9 0) :=
  FnC.of (by decide +kernel) (Nat.le_of_ble_eq_true rfl) (g_Pos_init_0 hd a0 h hf)
theorem d_Txt_init_0 : decode prog_5_method_1_code 0 = .ok (.aload_n 0, 1) := by decide +kernel
theorem d_Txt_init_1 : decode prog_5_method_1_code 1 = .ok (.invokespecial 3, 3) := by decide +kernel
theorem d_Txt_init_4 : decode prog_5_method_1_code 4 = .ok (.aload_n 0, 1) := by decide +kernel
theorem d_Txt_init_5 : decode prog_5_method_1_code 5 = .ok (.sipush 150, 3) := by decide +kernel
theorem d_Txt_init_8 : decode prog_5_method_1_code 8 = .ok (.newarray .int, 2) := by decide +kernel
theorem d_Txt_init_10 : decode prog_5_method_1_code 10 = .ok (.putfield 11, 3) := by decide +kernel
theorem d_Txt_init_13 : decode prog_5_method_1_code 13 = .ok (.return_, 1) := by decide +kernel
def f_Txt_init (a0 : Nat) (h : PH) : Option PH :=
  bnd (some (newH h (oI 150 (fun _ => 0)))) fun h1 => bnd (pV h1 a0 2 0 (.ref h.1)) fun h2 => some h2
theorem g_Txt_init_0 {l : Launch} {E : ET} {d : Nat} (hd : 2 ≤ d) {h9 : PH} (a0 : Nat) (h : PH) (hf : f_Txt_init a0 h = some h9) : Go l E m_Txt_init (rm d 1 150) (KI (KM E 1 150 (PoE none h9 0))) 0 0 h 0 0 [(0, .ref a0)] [] := by
  unfold f_Txt_init at hf
  refine go_aload_n 0 d_Txt_init_0 rfl ?_
  refine go_obj d_Txt_init_1 ob_Txt_3 ⟨by show 1 ≤ d; omega, by show 60 ≤ 60 * d; omega⟩ (Nat.le_of_ble_eq_true rfl) ?_
  refine go_aload_n 0 d_Txt_init_4 rfl ?_
  refine go_sipush (150 : Int32) d_Txt_init_5 (by decide) ?_
  obtain ⟨h1, e_h1, hf⟩ := bnd_x hf
  refine go_newaI 150 d_Txt_init_8 ac_int (by decide +kernel) ⟨by show _ ≤ 1; omega, by show _ ≤ 150; omega⟩ ?_
  rw [Option.some.inj e_h1]
  change Go _ _ _ _ _ (0 + 1) (0 + 150) _ _ _ _ _
  obtain ⟨h2, e_h2, hf⟩ := bnd_x hf
  refine go_putF d_Txt_init_10 e_h2 fl_Txt_11 rfl rfl rfl (Or.inl ⟨_, rfl⟩) ?_
  have e9 := Option.some.inj hf
  subst e9
  refine go_toI ?_
  refine go_widen (k := 1) (n := 150) (by omega) (by omega) ?_
  exact go_vret d_Txt_init_13 rfl ⟨rfl, rfl, rfl⟩
theorem c_Txt_init {l : Launch} {E : ET} {d : Nat} (hd : 2 ≤ d) {h9 : PH} {a0 : Nat} {h : PH} (hf : f_Txt_init a0 h = some h9) : FnC l E m_Txt_init d 1 150 [.ref a0] h (PoE none h9 0) :=
  FnC.of (by decide +kernel) (Nat.le_of_ble_eq_true rfl) (g_Txt_init_0 hd a0 h hf)
theorem d_Siv_init_0 : decode prog_9_method_1_code 0 = .ok (.aload_n 0, 1) := by decide +kernel
theorem d_Siv_init_1 : decode prog_9_method_1_code 1 = .ok (.invokespecial 3, 3) := by decide +kernel
theorem d_Siv_init_4 : decode prog_9_method_1_code 4 = .ok (.aload_n 0, 1) := by decide +kernel
theorem d_Siv_init_5 : decode prog_9_method_1_code 5 = .ok (.bipush 6, 2) := by decide +kernel
theorem d_Siv_init_7 : decode prog_9_method_1_code 7 = .ok (.newarray .int, 2) := by decide +kernel
theorem d_Siv_init_9 : decode prog_9_method_1_code 9 = .ok (.putfield 11, 3) := by decide +kernel
theorem d_Siv_init_12 : decode prog_9_method_1_code 12 = .ok (.aload_n 0, 1) := by decide +kernel
theorem d_Siv_init_13 : decode prog_9_method_1_code 13 = .ok (.bipush 6, 2) := by decide +kernel
theorem d_Siv_init_15 : decode prog_9_method_1_code 15 = .ok (.newarray .int, 2) := by decide +kernel
theorem d_Siv_init_17 : decode prog_9_method_1_code 17 = .ok (.putfield 15, 3) := by decide +kernel
theorem d_Siv_init_20 : decode prog_9_method_1_code 20 = .ok (.return_, 1) := by decide +kernel
def f_Siv_init (a0 : Nat) (h : PH) : Option PH :=
  bnd (some (newH h (oI 6 (fun _ => 0)))) fun h1 => bnd (pV h1 a0 6 0 (.ref h.1)) fun h2 => bnd (some (newH h2 (oI 6 (fun _ => 0)))) fun h3 => bnd (pV h3 a0 6 1 (.ref h2.1)) fun h4 => some h4
theorem g_Siv_init_0 {l : Launch} {E : ET} {d : Nat} (hd : 2 ≤ d) {h9 : PH} (a0 : Nat) (h : PH) (hf : f_Siv_init a0 h = some h9) : Go l E m_Siv_init (rm d 2 12) (KI (KM E 2 12 (PoE none h9 0))) 0 0 h 0 0 [(0, .ref a0)] [] := by
  unfold f_Siv_init at hf
  refine go_aload_n 0 d_Siv_init_0 rfl ?_
  refine go_obj d_Siv_init_1 ob_Siv_3 ⟨by show 1 ≤ d; omega, by show 60 ≤ 60 * d; omega⟩ (Nat.le_of_ble_eq_true rfl) ?_
  refine go_aload_n 0 d_Siv_init_4 rfl ?_
  refine go_bipush (6 : Int32) d_Siv_init_5 (by decide) ?_
  obtain ⟨h1, e_h1, hf⟩ := bnd_x hf
  refine go_newaI 6 d_Siv_init_7 ac_int (by decide +kernel) ⟨by show _ ≤ 2; omega, by show _ ≤ 12; omega⟩ ?_
  rw [Option.some.inj e_h1]
  change Go _ _ _ _ _ (0 + 1) (0 + 6) _ _ _ _ _
  obtain ⟨h2, e_h2, hf⟩ := bnd_x hf
  refine go_putF d_Siv_init_9 e_h2 fl_Siv_11 rfl rfl rfl (Or.inl ⟨_, rfl⟩) ?_
  refine go_aload_n 0 d_Siv_init_12 rfl ?_
  refine go_bipush (6 : Int32) d_Siv_init_13 (by decide) ?_
  obtain ⟨h3, e_h3, hf⟩ := bnd_x hf
  refine go_newaI 6 d_Siv_init_15 ac_int (by decide +kernel) ⟨by show _ ≤ 2; omega, by show _ ≤ 12; omega⟩ ?_
  rw [Option.some.inj e_h3]
  change Go _ _ _ _ _ (0 + 2) (0 + 12) _ _ _ _ _
  obtain ⟨h4, e_h4, hf⟩ := bnd_x hf
  refine go_putF d_Siv_init_17 e_h4 fl_Siv_15 rfl rfl rfl (Or.inl ⟨_, rfl⟩) ?_
  have e9 := Option.some.inj hf
  subst e9
  refine go_toI ?_
  refine go_widen (k := 2) (n := 12) (by omega) (by omega) ?_
  exact go_vret d_Siv_init_20 rfl ⟨rfl, rfl, rfl⟩
theorem c_Siv_init {l : Launch} {E : ET} {d : Nat} (hd : 2 ≤ d) {h9 : PH} {a0 : Nat} {h : PH} (hf : f_Siv_init a0 h = some h9) : FnC l E m_Siv_init d 2 12 [.ref a0] h (PoE none h9 0) :=
  FnC.of (by decide +kernel) (Nat.le_of_ble_eq_true rfl) (g_Siv_init_0 hd a0 h hf)
theorem d_Rea_init_0 : decode prog_6_method_1_code 0 = .ok (.aload_n 0, 1) := by decide +kernel
theorem d_Rea_init_1 : decode prog_6_method_1_code 1 = .ok (.invokespecial 3, 3) := by decide +kernel
theorem d_Rea_init_4 : decode prog_6_method_1_code 4 = .ok (.aload_n 0, 1) := by decide +kernel
theorem d_Rea_init_5 : decode prog_6_method_1_code 5 = .ok (.new 9, 3) := by decide +kernel
theorem d_Rea_init_8 : decode prog_6_method_1_code 8 = .ok (.dup, 1) := by decide +kernel
theorem d_Rea_init_9 : decode prog_6_method_1_code 9 = .ok (.invokespecial 11, 3) := by decide +kernel
theorem d_Rea_init_12 : decode prog_6_method_1_code 12 = .ok (.putfield 12, 3) := by decide +kernel
theorem d_Rea_init_15 : decode prog_6_method_1_code 15 = .ok (.return_, 1) := by decide +kernel
def f_Rea_init (a0 : Nat) (h : PH) : Option PH :=
  bnd (some (nO h 6)) fun h1 => bnd (f_Siv_init h.1 h1) fun h2 => bnd (pV h2 a0 3 0 (.ref h.1)) fun h3 => some h3
theorem g_Rea_init_0 {l : Launch} {E : ET} {d : Nat} (hd : 3 ≤ d) {h9 : PH} (a0 : Nat) (h : PH) (hf : f_Rea_init a0 h = some h9) : Go l E m_Rea_init (rm d 3 16) (KI (KM E 3 16 (PoE none h9 0))) 0 0 h 0 0 [(0, .ref a0)] [] := by
  unfold f_Rea_init at hf
  refine go_aload_n 0 d_Rea_init_0 rfl ?_
  refine go_obj d_Rea_init_1 ob_Rea_3 ⟨by show 1 ≤ d; omega, by show 60 ≤ 60 * d; omega⟩ (Nat.le_of_ble_eq_true rfl) ?_
  refine go_aload_n 0 d_Rea_init_4 rfl ?_
  obtain ⟨h1, e_h1, hf⟩ := bnd_x hf
  refine go_new d_Rea_init_5 nw_Rea_9 ⟨by show _ ≤ 3; omega, by show _ + 4 ≤ 16; omega⟩ ?_
  rw [Option.some.inj e_h1]
  change Go _ _ _ _ _ (0 + 1) (0 + 4) _ _ _ _ _
  refine go_dup d_Rea_init_8 rfl ?_
  obtain ⟨h2, e_h2, hf⟩ := bnd_x hf
  refine go_callC (As := []) (st := [.ref h.1, .ref a0]) (c_Siv_init (d := d - 1) (by omega) e_h2) lk_Rea_11 rfl rfl ⟨by show d - 1 + 1 ≤ d; omega, by show 60 * (d - 1) + 60 ≤ 60 * d; omega⟩ (Nat.le_of_ble_eq_true rfl) ⟨by show _ ≤ 3; omega, by show _ ≤ 16; omega⟩ d_Rea_init_9 ?_
  change Go _ _ _ _ _ (0 + 3) (0 + 16) _ _ _ _ _
  obtain ⟨h3, e_h3, hf⟩ := bnd_x hf
  refine go_putF d_Rea_init_12 e_h3 fl_Rea_12 rfl rfl rfl (Or.inr ⟨_, rfl⟩) ?_
  have e9 := Option.some.inj hf
  subst e9
  refine go_toI ?_
  refine go_widen (k := 3) (n := 16) (by omega) (by omega) ?_
  exact go_vret d_Rea_init_15 rfl ⟨rfl, rfl, rfl⟩
theorem c_Rea_init {l : Launch} {E : ET} {d : Nat} (hd : 3 ≤ d) {h9 : PH} {a0 : Nat} {h : PH} (hf : f_Rea_init a0 h = some h9) : FnC l E m_Rea_init d 3 16 [.ref a0] h (PoE none h9 0) :=
  FnC.of (by decide +kernel) (Nat.le_of_ble_eq_true rfl) (g_Rea_init_0 hd a0 h hf)
theorem d_Rul_init_0 : decode prog_7_method_1_code 0 = .ok (.aload_n 0, 1) := by decide +kernel
theorem d_Rul_init_1 : decode prog_7_method_1_code 1 = .ok (.invokespecial 3, 3) := by decide +kernel
theorem d_Rul_init_4 : decode prog_7_method_1_code 4 = .ok (.aload_n 0, 1) := by decide +kernel
theorem d_Rul_init_5 : decode prog_7_method_1_code 5 = .ok (.bipush 8, 2) := by decide +kernel
theorem d_Rul_init_7 : decode prog_7_method_1_code 7 = .ok (.newarray .int, 2) := by decide +kernel
theorem d_Rul_init_9 : decode prog_7_method_1_code 9 = .ok (.putfield 9, 3) := by decide +kernel
theorem d_Rul_init_12 : decode prog_7_method_1_code 12 = .ok (.aload_n 0, 1) := by decide +kernel
theorem d_Rul_init_13 : decode prog_7_method_1_code 13 = .ok (.bipush 8, 2) := by decide +kernel
theorem d_Rul_init_15 : decode prog_7_method_1_code 15 = .ok (.newarray .int, 2) := by decide +kernel
theorem d_Rul_init_17 : decode prog_7_method_1_code 17 = .ok (.putfield 15, 3) := by decide +kernel
theorem d_Rul_init_20 : decode prog_7_method_1_code 20 = .ok (.aload_n 0, 1) := by decide +kernel
theorem d_Rul_init_21 : decode prog_7_method_1_code 21 = .ok (.bipush 8, 2) := by decide +kernel
theorem d_Rul_init_23 : decode prog_7_method_1_code 23 = .ok (.newarray .int, 2) := by decide +kernel
theorem d_Rul_init_25 : decode prog_7_method_1_code 25 = .ok (.putfield 18, 3) := by decide +kernel
theorem d_Rul_init_28 : decode prog_7_method_1_code 28 = .ok (.aload_n 0, 1) := by decide +kernel
theorem d_Rul_init_29 : decode prog_7_method_1_code 29 = .ok (.bipush 48, 2) := by decide +kernel
theorem d_Rul_init_31 : decode prog_7_method_1_code 31 = .ok (.newarray .int, 2) := by decide +kernel
theorem d_Rul_init_33 : decode prog_7_method_1_code 33 = .ok (.putfield 21, 3) := by decide +kernel
theorem d_Rul_init_36 : decode prog_7_method_1_code 36 = .ok (.aload_n 0, 1) := by decide +kernel
theorem d_Rul_init_37 : decode prog_7_method_1_code 37 = .ok (.bipush 8, 2) := by decide +kernel
theorem d_Rul_init_39 : decode prog_7_method_1_code 39 = .ok (.newarray .long, 2) := by decide +kernel
theorem d_Rul_init_41 : decode prog_7_method_1_code 41 = .ok (.putfield 24, 3) := by decide +kernel
theorem d_Rul_init_44 : decode prog_7_method_1_code 44 = .ok (.aload_n 0, 1) := by decide +kernel
theorem d_Rul_init_45 : decode prog_7_method_1_code 45 = .ok (.bipush 36, 2) := by decide +kernel
theorem d_Rul_init_47 : decode prog_7_method_1_code 47 = .ok (.newarray .long, 2) := by decide +kernel
theorem d_Rul_init_49 : decode prog_7_method_1_code 49 = .ok (.putfield 28, 3) := by decide +kernel
theorem d_Rul_init_52 : decode prog_7_method_1_code 52 = .ok (.iconst 0, 1) := by decide +kernel
theorem d_Rul_init_53 : decode prog_7_method_1_code 53 = .ok (.istore_n 1, 1) := by decide +kernel
theorem d_Rul_init_54 : decode prog_7_method_1_code 54 = .ok (.iload_n 1, 1) := by decide +kernel
theorem d_Rul_init_55 : decode prog_7_method_1_code 55 = .ok (.bipush 36, 2) := by decide +kernel
theorem d_Rul_init_57 : decode prog_7_method_1_code 57 = .ok (.if_icmp .ge 19, 3) := by decide +kernel
theorem d_Rul_init_60 : decode prog_7_method_1_code 60 = .ok (.aload_n 0, 1) := by decide +kernel
theorem d_Rul_init_61 : decode prog_7_method_1_code 61 = .ok (.getfield 28, 3) := by decide +kernel
theorem d_Rul_init_64 : decode prog_7_method_1_code 64 = .ok (.iload_n 1, 1) := by decide +kernel
theorem d_Rul_init_65 : decode prog_7_method_1_code 65 = .ok (.iload_n 1, 1) := by decide +kernel
theorem d_Rul_init_66 : decode prog_7_method_1_code 66 = .ok (.invokestatic 31, 3) := by decide +kernel
theorem d_Rul_init_69 : decode prog_7_method_1_code 69 = .ok (.lastore, 1) := by decide +kernel
theorem d_Rul_init_70 : decode prog_7_method_1_code 70 = .ok (.iinc 1 1, 3) := by decide +kernel
theorem d_Rul_init_73 : decode prog_7_method_1_code 73 = .ok (.goto (-19), 3) := by decide +kernel
theorem d_Rul_init_76 : decode prog_7_method_1_code 76 = .ok (.return_, 1) := by decide +kernel
def b_Rul_init_54 (F : Nat) (k54 : Nat → Int32 → PH → Option PH) (a0 : Nat) (i1 : Int32) (h : PH) : Option PH :=
  (if (36 : Int32) ≤ i1 then some h else bnd (gR h a0 4 5) fun x1 => bnd (f_Grd_neighbours i1) fun x2 => bnd (sL h x1 i1 x2) fun h3 => k54 a0 (i1 + (1 : Int32)) h3)
def f_Rul_init_54 (F : Nat) : Nat → Nat → Int32 → PH → Option PH
  | 0 => fun _ _ _ => none
  | n + 1 => b_Rul_init_54 F (f_Rul_init_54 F n)
theorem t_Rul_init_54 {l : Launch} {E : ET} {d : Nat} (hd : 3 ≤ d) {F : Nat} {h9 : PH} : ∀ (n kc ks : Nat) (a0 : Nat) (i1 : Int32) (h : PH), kc + 0 * n ≤ 6 ∧ ks + 0 * n ≤ 116 → f_Rul_init_54 F n a0 i1 h = some h9 → Go l E m_Rul_init (rm d 6 116) (KI (KM E 6 116 (PoE none h9 0))) kc ks h 0 54 [(0, .ref a0), (1, .int i1)] [] := by
  intro n
  induction n with
  | zero => intro kc ks a0 i1 h _ hf; cases hf
  | succ n ih =>
    intro kc ks a0 i1 h hc hf
    change b_Rul_init_54 F (f_Rul_init_54 F n) a0 i1 h = some h9 at hf
    unfold b_Rul_init_54 at hf
    refine go_iload_n 1 d_Rul_init_54 rfl ?_
    refine go_bipush (36 : Int32) d_Rul_init_55 (by decide) ?_
    refine go_icmp_ge 76 d_Rul_init_57 (by decide) (fun q4 => ?_) (fun q4 => ?_)
    · rw [if_pos q4] at hf
      have e9 := Option.some.inj hf
      subst e9
      refine go_toI ?_
      refine go_widen (k := 6) (n := 116) (by omega) (by omega) ?_
      exact go_vret d_Rul_init_76 rfl ⟨rfl, rfl, rfl⟩
    · rw [if_neg q4] at hf
      refine go_aload_n 0 d_Rul_init_60 rfl ?_
      obtain ⟨x1, e_x1, hf⟩ := bnd_x hf
      refine go_get d_Rul_init_61 (gR_x e_x1) fl_Rul_28 ?_
      refine go_iload_n 1 d_Rul_init_64 rfl ?_
      refine go_iload_n 1 d_Rul_init_65 rfl ?_
      obtain ⟨x2, e_x2, hf⟩ := bnd_x hf
      refine go_callS_L (As := [.int i1]) (st := [.int i1, .ref x1]) (c_Grd_neighbours (d := d - 1) (by omega) e_x2) lk_Rul_31 rfl rfl (⟨by show d - 1 + 1 ≤ d; omega, by show 60 * (d - 1) + 60 ≤ 60 * d; omega⟩) (Nat.le_of_ble_eq_true rfl) ⟨by show _ + 0 ≤ 6; omega, by show _ + 0 ≤ 116; omega⟩ d_Rul_init_66 ?_
      obtain ⟨h3, e_h3, hf⟩ := bnd_x hf
      refine go_lastore d_Rul_init_69 e_h3 ?_
      refine go_iinc (lv' := [(1, .int (i1 + (1 : Int32))), (0, .ref a0)]) 1 (i1 + (1 : Int32)) d_Rul_init_70 rfl rfl rfl (by decide) ?_
      refine go_goto 54 d_Rul_init_73 (by decide) ?_
      refine go_sub (lv' := [(0, .ref a0), (1, .int (i1 + (1 : Int32)))]) [1, 0] rfl ?_
      exact ih _ _ a0 (i1 + (1 : Int32)) h3 (by omega) hf
def f_Rul_init (F : Nat) (a0 : Nat) (h : PH) : Option PH :=
  bnd (some (newH h (oI 8 (fun _ => 0)))) fun h1 => bnd (pV h1 a0 4 0 (.ref h.1)) fun h2 => bnd (some (newH h2 (oI 8 (fun _ => 0)))) fun h3 => bnd (pV h3 a0 4 1 (.ref h2.1)) fun h4 => bnd (some (newH h4 (oI 8 (fun _ => 0)))) fun h5 => bnd (pV h5 a0 4 2 (.ref h4.1)) fun h6 => bnd (some (newH h6 (oI 48 (fun _ => 0)))) fun h7 => bnd (pV h7 a0 4 3 (.ref h6.1)) fun h8 => bnd (some (newH h8 (oL 8 (fun _ => 0)))) fun h9 => bnd (pV h9 a0 4 4 (.ref h8.1)) fun h10 => bnd (some (newH h10 (oL 36 (fun _ => 0)))) fun h11 => bnd (pV h11 a0 4 5 (.ref h10.1)) fun h12 => f_Rul_init_54 F F a0 (0 : Int32) h12
theorem g_Rul_init_0 {l : Launch} {E : ET} {d : Nat} (hd : 3 ≤ d) {F : Nat} {h9 : PH} (a0 : Nat) (h : PH) (hf : f_Rul_init F a0 h = some h9) : Go l E m_Rul_init (rm d 6 116) (KI (KM E 6 116 (PoE none h9 0))) 0 0 h 0 0 [(0, .ref a0)] [] := by
  unfold f_Rul_init at hf
  refine go_aload_n 0 d_Rul_init_0 rfl ?_
  refine go_obj d_Rul_init_1 ob_Rul_3 ⟨by show 1 ≤ d; omega, by show 60 ≤ 60 * d; omega⟩ (Nat.le_of_ble_eq_true rfl) ?_
  refine go_aload_n 0 d_Rul_init_4 rfl ?_
  refine go_bipush (8 : Int32) d_Rul_init_5 (by decide) ?_
  obtain ⟨h1, e_h1, hf⟩ := bnd_x hf
  refine go_newaI 8 d_Rul_init_7 ac_int (by decide +kernel) ⟨by show _ ≤ 6; omega, by show _ ≤ 116; omega⟩ ?_
  rw [Option.some.inj e_h1]
  change Go _ _ _ _ _ (0 + 1) (0 + 8) _ _ _ _ _
  obtain ⟨h2, e_h2, hf⟩ := bnd_x hf
  refine go_putF d_Rul_init_9 e_h2 fl_Rul_9 rfl rfl rfl (Or.inl ⟨_, rfl⟩) ?_
  refine go_aload_n 0 d_Rul_init_12 rfl ?_
  refine go_bipush (8 : Int32) d_Rul_init_13 (by decide) ?_
  obtain ⟨h3, e_h3, hf⟩ := bnd_x hf
  refine go_newaI 8 d_Rul_init_15 ac_int (by decide +kernel) ⟨by show _ ≤ 6; omega, by show _ ≤ 116; omega⟩ ?_
  rw [Option.some.inj e_h3]
  change Go _ _ _ _ _ (0 + 2) (0 + 16) _ _ _ _ _
  obtain ⟨h4, e_h4, hf⟩ := bnd_x hf
  refine go_putF d_Rul_init_17 e_h4 fl_Rul_15 rfl rfl rfl (Or.inl ⟨_, rfl⟩) ?_
  refine go_aload_n 0 d_Rul_init_20 rfl ?_
  refine go_bipush (8 : Int32) d_Rul_init_21 (by decide) ?_
  obtain ⟨h5, e_h5, hf⟩ := bnd_x hf
  refine go_newaI 8 d_Rul_init_23 ac_int (by decide +kernel) ⟨by show _ ≤ 6; omega, by show _ ≤ 116; omega⟩ ?_
  rw [Option.some.inj e_h5]
  change Go _ _ _ _ _ (0 + 3) (0 + 24) _ _ _ _ _
  obtain ⟨h6, e_h6, hf⟩ := bnd_x hf
  refine go_putF d_Rul_init_25 e_h6 fl_Rul_18 rfl rfl rfl (Or.inl ⟨_, rfl⟩) ?_
  refine go_aload_n 0 d_Rul_init_28 rfl ?_
  refine go_bipush (48 : Int32) d_Rul_init_29 (by decide) ?_
  obtain ⟨h7, e_h7, hf⟩ := bnd_x hf
  refine go_newaI 48 d_Rul_init_31 ac_int (by decide +kernel) ⟨by show _ ≤ 6; omega, by show _ ≤ 116; omega⟩ ?_
  rw [Option.some.inj e_h7]
  change Go _ _ _ _ _ (0 + 4) (0 + 72) _ _ _ _ _
  obtain ⟨h8, e_h8, hf⟩ := bnd_x hf
  refine go_putF d_Rul_init_33 e_h8 fl_Rul_21 rfl rfl rfl (Or.inl ⟨_, rfl⟩) ?_
  refine go_aload_n 0 d_Rul_init_36 rfl ?_
  refine go_bipush (8 : Int32) d_Rul_init_37 (by decide) ?_
  obtain ⟨h9, e_h9, hf⟩ := bnd_x hf
  refine go_newaL 8 d_Rul_init_39 ac_long (by decide +kernel) ⟨by show _ ≤ 6; omega, by show _ ≤ 116; omega⟩ ?_
  rw [Option.some.inj e_h9]
  change Go _ _ _ _ _ (0 + 5) (0 + 80) _ _ _ _ _
  obtain ⟨h10, e_h10, hf⟩ := bnd_x hf
  refine go_putF d_Rul_init_41 e_h10 fl_Rul_24 rfl rfl rfl (Or.inl ⟨_, rfl⟩) ?_
  refine go_aload_n 0 d_Rul_init_44 rfl ?_
  refine go_bipush (36 : Int32) d_Rul_init_45 (by decide) ?_
  obtain ⟨h11, e_h11, hf⟩ := bnd_x hf
  refine go_newaL 36 d_Rul_init_47 ac_long (by decide +kernel) ⟨by show _ ≤ 6; omega, by show _ ≤ 116; omega⟩ ?_
  rw [Option.some.inj e_h11]
  change Go _ _ _ _ _ (0 + 6) (0 + 116) _ _ _ _ _
  obtain ⟨h12, e_h12, hf⟩ := bnd_x hf
  refine go_putF d_Rul_init_49 e_h12 fl_Rul_28 rfl rfl rfl (Or.inl ⟨_, rfl⟩) ?_
  refine go_iconst (0 : Int32) d_Rul_init_52 (by decide) ?_
  refine go_istore_n (lv' := [(1, .int (0 : Int32)), (0, .ref a0)]) d_Rul_init_53 rfl (by decide) ?_
  refine go_sub (lv' := [(0, .ref a0), (1, .int (0 : Int32))]) [1, 0] rfl ?_
  exact t_Rul_init_54 hd F _ _ a0 (0 : Int32) h12 (by omega) hf
theorem c_Rul_init {l : Launch} {E : ET} {d : Nat} (hd : 3 ≤ d) {F : Nat} {h9 : PH} {a0 : Nat} {h : PH} (hf : f_Rul_init F a0 h = some h9) : FnC l E m_Rul_init d 6 116 [.ref a0] h (PoE none h9 0) :=
  FnC.of (by decide +kernel) (Nat.le_of_ble_eq_true rfl) (g_Rul_init_0 hd a0 h hf)
theorem d_Shu_init_0 : decode prog_8_method_1_code 0 = .ok (.aload_n 0, 1) := by decide +kernel
theorem d_Shu_init_1 : decode prog_8_method_1_code 1 = .ok (.invokespecial 1, 3) := by decide +kernel
theorem d_Shu_init_4 : decode prog_8_method_1_code 4 = .ok (.return_, 1) := by decide +kernel
def f_Shu_init (a0 : Nat) (h : PH) : Option PH :=
  some h
theorem g_Shu_init_0 {l : Launch} {E : ET} {d : Nat} (hd : 2 ≤ d) {h9 : PH} (a0 : Nat) (h : PH) (hf : f_Shu_init a0 h = some h9) : Go l E m_Shu_init (rm d 0 0) (KI (KM E 0 0 (PoE none h9 0))) 0 0 h 0 0 [(0, .ref a0)] [] := by
  unfold f_Shu_init at hf
  refine go_aload_n 0 d_Shu_init_0 rfl ?_
  refine go_obj d_Shu_init_1 ob_Shu_1 ⟨by show 1 ≤ d; omega, by show 60 ≤ 60 * d; omega⟩ (Nat.le_of_ble_eq_true rfl) ?_
  have e9 := Option.some.inj hf
  subst e9
  refine go_toI ?_
  refine go_widen (k := 0) (n := 0) (by omega) (by omega) ?_
  exact go_vret d_Shu_init_4 rfl ⟨rfl, rfl, rfl⟩
theorem c_Shu_init {l : Launch} {E : ET} {d : Nat} (hd : 2 ≤ d) {h9 : PH} {a0 : Nat} {h : PH} (hf : f_Shu_init a0 h = some h9) : FnC l E m_Shu_init d 0 0 [.ref a0] h (PoE none h9 0) :=
  FnC.of (by decide +kernel) (Nat.le_of_ble_eq_true rfl) (g_Shu_init_0 hd a0 h hf)
theorem d_Sol_init_0 : decode prog_10_method_1_code 0 = .ok (.aload_n 0, 1) := by decide +kernel
theorem d_Sol_init_1 : decode prog_10_method_1_code 1 = .ok (.invokespecial 3, 3) := by decide +kernel
theorem d_Sol_init_4 : decode prog_10_method_1_code 4 = .ok (.aload_n 0, 1) := by decide +kernel
theorem d_Sol_init_5 : decode prog_10_method_1_code 5 = .ok (.new 9, 3) := by decide +kernel
theorem d_Sol_init_8 : decode prog_10_method_1_code 8 = .ok (.dup, 1) := by decide +kernel
theorem d_Sol_init_9 : decode prog_10_method_1_code 9 = .ok (.invokespecial 11, 3) := by decide +kernel
theorem d_Sol_init_12 : decode prog_10_method_1_code 12 = .ok (.putfield 12, 3) := by decide +kernel
theorem d_Sol_init_15 : decode prog_10_method_1_code 15 = .ok (.aload_n 0, 1) := by decide +kernel
theorem d_Sol_init_16 : decode prog_10_method_1_code 16 = .ok (.bipush 38, 2) := by decide +kernel
theorem d_Sol_init_18 : decode prog_10_method_1_code 18 = .ok (.anewarray 18, 3) := by decide +kernel
theorem d_Sol_init_21 : decode prog_10_method_1_code 21 = .ok (.putfield 20, 3) := by decide +kernel
theorem d_Sol_init_24 : decode prog_10_method_1_code 24 = .ok (.aload_n 0, 1) := by decide +kernel
theorem d_Sol_init_25 : decode prog_10_method_1_code 25 = .ok (.bipush 7, 2) := by decide +kernel
theorem d_Sol_init_27 : decode prog_10_method_1_code 27 = .ok (.newarray .long, 2) := by decide +kernel
theorem d_Sol_init_29 : decode prog_10_method_1_code 29 = .ok (.putfield 24, 3) := by decide +kernel
theorem d_Sol_init_32 : decode prog_10_method_1_code 32 = .ok (.aload_n 0, 1) := by decide +kernel
theorem d_Sol_init_33 : decode prog_10_method_1_code 33 = .ok (.new 18, 3) := by decide +kernel
theorem d_Sol_init_36 : decode prog_10_method_1_code 36 = .ok (.dup, 1) := by decide +kernel
theorem d_Sol_init_37 : decode prog_10_method_1_code 37 = .ok (.invokespecial 28, 3) := by decide +kernel
theorem d_Sol_init_40 : decode prog_10_method_1_code 40 = .ok (.putfield 29, 3) := by decide +kernel
theorem d_Sol_init_43 : decode prog_10_method_1_code 43 = .ok (.aload_n 0, 1) := by decide +kernel
theorem d_Sol_init_44 : decode prog_10_method_1_code 44 = .ok (.bipush 8, 2) := by decide +kernel
theorem d_Sol_init_46 : decode prog_10_method_1_code 46 = .ok (.newarray .long, 2) := by decide +kernel
theorem d_Sol_init_48 : decode prog_10_method_1_code 48 = .ok (.putfield 33, 3) := by decide +kernel
theorem d_Sol_init_51 : decode prog_10_method_1_code 51 = .ok (.iconst 0, 1) := by decide +kernel
theorem d_Sol_init_52 : decode prog_10_method_1_code 52 = .ok (.istore_n 1, 1) := by decide +kernel
theorem d_Sol_init_53 : decode prog_10_method_1_code 53 = .ok (.iload_n 1, 1) := by decide +kernel
theorem d_Sol_init_54 : decode prog_10_method_1_code 54 = .ok (.bipush 38, 2) := by decide +kernel
theorem d_Sol_init_56 : decode prog_10_method_1_code 56 = .ok (.if_icmp .ge 22, 3) := by decide +kernel
theorem d_Sol_init_59 : decode prog_10_method_1_code 59 = .ok (.aload_n 0, 1) := by decide +kernel
theorem d_Sol_init_60 : decode prog_10_method_1_code 60 = .ok (.getfield 20, 3) := by decide +kernel
theorem d_Sol_init_63 : decode prog_10_method_1_code 63 = .ok (.iload_n 1, 1) := by decide +kernel
theorem d_Sol_init_64 : decode prog_10_method_1_code 64 = .ok (.new 18, 3) := by decide +kernel
theorem d_Sol_init_67 : decode prog_10_method_1_code 67 = .ok (.dup, 1) := by decide +kernel
theorem d_Sol_init_68 : decode prog_10_method_1_code 68 = .ok (.invokespecial 28, 3) := by decide +kernel
theorem d_Sol_init_71 : decode prog_10_method_1_code 71 = .ok (.aastore, 1) := by decide +kernel
theorem d_Sol_init_72 : decode prog_10_method_1_code 72 = .ok (.iinc 1 1, 3) := by decide +kernel
theorem d_Sol_init_75 : decode prog_10_method_1_code 75 = .ok (.goto (-22), 3) := by decide +kernel
theorem d_Sol_init_78 : decode prog_10_method_1_code 78 = .ok (.return_, 1) := by decide +kernel
def b_Sol_init_53 (F : Nat) (k53 : Nat → Int32 → PH → Option PH) (a0 : Nat) (i1 : Int32) (h : PH) : Option PH :=
  (if (38 : Int32) ≤ i1 then some h else bnd (gR h a0 7 1) fun x1 => bnd (some (nO h 1)) fun h2 => bnd (f_Pos_init F h.1 h2) fun h3 => bnd (sR h3 x1 i1 h.1) fun h4 => k53 a0 (i1 + (1 : Int32)) h4)
def f_Sol_init_53 (F : Nat) : Nat → Nat → Int32 → PH → Option PH
  | 0 => fun _ _ _ => none
  | n + 1 => b_Sol_init_53 F (f_Sol_init_53 F n)
theorem t_Sol_init_53 {l : Launch} {E : ET} {d : Nat} (hd : 4 ≤ d) {F : Nat} {h9 : PH} : ∀ (n kc ks : Nat) (a0 : Nat) (i1 : Int32) (h : PH), kc + 2 * n ≤ 87 ∧ ks + 11 * n ≤ 516 → f_Sol_init_53 F n a0 i1 h = some h9 → Go l E m_Sol_init (rm d 87 516) (KI (KM E 87 516 (PoE none h9 0))) kc ks h 0 53 [(0, .ref a0), (1, .int i1)] [] := by
  intro n
  induction n with
  | zero => intro kc ks a0 i1 h _ hf; cases hf
  | succ n ih =>
    intro kc ks a0 i1 h hc hf
    change b_Sol_init_53 F (f_Sol_init_53 F n) a0 i1 h = some h9 at hf
    unfold b_Sol_init_53 at hf
    refine go_iload_n 1 d_Sol_init_53 rfl ?_
    refine go_bipush (38 : Int32) d_Sol_init_54 (by decide) ?_
    refine go_icmp_ge 78 d_Sol_init_56 (by decide) (fun q5 => ?_) (fun q5 => ?_)
    · rw [if_pos q5] at hf
      have e9 := Option.some.inj hf
      subst e9
      refine go_toI ?_
      refine go_widen (k := 87) (n := 516) (by omega) (by omega) ?_
      exact go_vret d_Sol_init_78 rfl ⟨rfl, rfl, rfl⟩
    · rw [if_neg q5] at hf
      refine go_aload_n 0 d_Sol_init_59 rfl ?_
      obtain ⟨x1, e_x1, hf⟩ := bnd_x hf
      refine go_get d_Sol_init_60 (gR_x e_x1) fl_Sol_20 ?_
      refine go_iload_n 1 d_Sol_init_63 rfl ?_
      obtain ⟨h2, e_h2, hf⟩ := bnd_x hf
      refine go_new d_Sol_init_64 nw_Sol_18 ⟨by show _ ≤ 87; omega, by show _ + 4 ≤ 516; omega⟩ ?_
      rw [Option.some.inj e_h2]
      change Go _ _ _ _ _ (kc + 1) (ks + 4) _ _ _ _ _
      refine go_dup d_Sol_init_67 rfl ?_
      obtain ⟨h3, e_h3, hf⟩ := bnd_x hf
      refine go_callC (As := []) (st := [.ref h.1, .int i1, .ref x1]) (c_Pos_init (d := d - 1) (by omega) e_h3) lk_Sol_28 rfl rfl ⟨by show d - 1 + 1 ≤ d; omega, by show 60 * (d - 1) + 60 ≤ 60 * d; omega⟩ (Nat.le_of_ble_eq_true rfl) ⟨by show _ ≤ 87; omega, by show _ ≤ 516; omega⟩ d_Sol_init_68 ?_
      change Go _ _ _ _ _ (kc + 2) (ks + 11) _ _ _ _ _
      obtain ⟨h4, e_h4, hf⟩ := bnd_x hf
      refine go_aastore e_h4 d_Sol_init_71 ?_
      refine go_iinc (lv' := [(1, .int (i1 + (1 : Int32))), (0, .ref a0)]) 1 (i1 + (1 : Int32)) d_Sol_init_72 rfl rfl rfl (by decide) ?_
      refine go_goto 53 d_Sol_init_75 (by decide) ?_
      refine go_sub (lv' := [(0, .ref a0), (1, .int (i1 + (1 : Int32)))]) [1, 0] rfl ?_
      exact ih _ _ a0 (i1 + (1 : Int32)) h4 (by omega) hf
def f_Sol_init (F : Nat) (a0 : Nat) (h : PH) : Option PH :=
  bnd (some (nO h 3)) fun h1 => bnd (f_Rea_init h.1 h1) fun h2 => bnd (pV h2 a0 7 0 (.ref h.1)) fun h3 => bnd (some (newH h3 (oR 1 38 (fun _ => none)))) fun h4 => bnd (pV h4 a0 7 1 (.ref h3.1)) fun h5 => bnd (some (newH h5 (oL 7 (fun _ => 0)))) fun h6 => bnd (pV h6 a0 7 2 (.ref h5.1)) fun h7 => bnd (some (nO h7 1)) fun h8 => bnd (f_Pos_init F h7.1 h8) fun h9 => bnd (pV h9 a0 7 3 (.ref h7.1)) fun h10 => bnd (some (newH h10 (oL 8 (fun _ => 0)))) fun h11 => bnd (pV h11 a0 7 8 (.ref h10.1)) fun h12 => f_Sol_init_53 F 39 a0 (0 : Int32) h12
theorem g_Sol_init_0 {l : Launch} {E : ET} {d : Nat} (hd : 4 ≤ d) {F : Nat} {h9 : PH} (a0 : Nat) (h : PH) (hf : f_Sol_init F a0 h = some h9) : Go l E m_Sol_init (rm d 87 516) (KI (KM E 87 516 (PoE none h9 0))) 0 0 h 0 0 [(0, .ref a0)] [] := by
  unfold f_Sol_init at hf
  refine go_aload_n 0 d_Sol_init_0 rfl ?_
  refine go_obj d_Sol_init_1 ob_Sol_3 ⟨by show 1 ≤ d; omega, by show 60 ≤ 60 * d; omega⟩ (Nat.le_of_ble_eq_true rfl) ?_
  refine go_aload_n 0 d_Sol_init_4 rfl ?_
  obtain ⟨h1, e_h1, hf⟩ := bnd_x hf
  refine go_new d_Sol_init_5 nw_Sol_9 ⟨by show _ ≤ 87; omega, by show _ + 7 ≤ 516; omega⟩ ?_
  rw [Option.some.inj e_h1]
  change Go _ _ _ _ _ (0 + 1) (0 + 7) _ _ _ _ _
  refine go_dup d_Sol_init_8 rfl ?_
  obtain ⟨h2, e_h2, hf⟩ := bnd_x hf
  refine go_callC (As := []) (st := [.ref h.1, .ref a0]) (c_Rea_init (d := d - 1) (by omega) e_h2) lk_Sol_11 rfl rfl ⟨by show d - 1 + 1 ≤ d; omega, by show 60 * (d - 1) + 60 ≤ 60 * d; omega⟩ (Nat.le_of_ble_eq_true rfl) ⟨by show _ ≤ 87; omega, by show _ ≤ 516; omega⟩ d_Sol_init_9 ?_
  change Go _ _ _ _ _ (0 + 4) (0 + 23) _ _ _ _ _
  obtain ⟨h3, e_h3, hf⟩ := bnd_x hf
  refine go_putF d_Sol_init_12 e_h3 fl_Sol_12 rfl rfl rfl (Or.inr ⟨_, rfl⟩) ?_
  refine go_aload_n 0 d_Sol_init_15 rfl ?_
  refine go_bipush (38 : Int32) d_Sol_init_16 (by decide) ?_
  obtain ⟨h4, e_h4, hf⟩ := bnd_x hf
  refine go_newq1 38 d_Sol_init_18 nq_Sol_18 (by decide +kernel) ⟨by show _ ≤ 87; omega, by show _ ≤ 516; omega⟩ ?_
  rw [Option.some.inj e_h4]
  change Go _ _ _ _ _ (0 + 5) (0 + 61) _ _ _ _ _
  obtain ⟨h5, e_h5, hf⟩ := bnd_x hf
  refine go_putF d_Sol_init_21 e_h5 fl_Sol_20 rfl rfl rfl (Or.inl ⟨_, rfl⟩) ?_
  refine go_aload_n 0 d_Sol_init_24 rfl ?_
  refine go_bipush (7 : Int32) d_Sol_init_25 (by decide) ?_
  obtain ⟨h6, e_h6, hf⟩ := bnd_x hf
  refine go_newaL 7 d_Sol_init_27 ac_long (by decide +kernel) ⟨by show _ ≤ 87; omega, by show _ ≤ 516; omega⟩ ?_
  rw [Option.some.inj e_h6]
  change Go _ _ _ _ _ (0 + 6) (0 + 68) _ _ _ _ _
  obtain ⟨h7, e_h7, hf⟩ := bnd_x hf
  refine go_putF d_Sol_init_29 e_h7 fl_Sol_24 rfl rfl rfl (Or.inl ⟨_, rfl⟩) ?_
  refine go_aload_n 0 d_Sol_init_32 rfl ?_
  obtain ⟨h8, e_h8, hf⟩ := bnd_x hf
  refine go_new d_Sol_init_33 nw_Sol_18 ⟨by show _ ≤ 87; omega, by show _ + 4 ≤ 516; omega⟩ ?_
  rw [Option.some.inj e_h8]
  change Go _ _ _ _ _ (0 + 7) (0 + 72) _ _ _ _ _
  refine go_dup d_Sol_init_36 rfl ?_
  obtain ⟨h9, e_h9, hf⟩ := bnd_x hf
  refine go_callC (As := []) (st := [.ref h7.1, .ref a0]) (c_Pos_init (d := d - 1) (by omega) e_h9) lk_Sol_28 rfl rfl ⟨by show d - 1 + 1 ≤ d; omega, by show 60 * (d - 1) + 60 ≤ 60 * d; omega⟩ (Nat.le_of_ble_eq_true rfl) ⟨by show _ ≤ 87; omega, by show _ ≤ 516; omega⟩ d_Sol_init_37 ?_
  change Go _ _ _ _ _ (0 + 8) (0 + 79) _ _ _ _ _
  obtain ⟨h10, e_h10, hf⟩ := bnd_x hf
  refine go_putF d_Sol_init_40 e_h10 fl_Sol_29 rfl rfl rfl (Or.inr ⟨_, rfl⟩) ?_
  refine go_aload_n 0 d_Sol_init_43 rfl ?_
  refine go_bipush (8 : Int32) d_Sol_init_44 (by decide) ?_
  obtain ⟨h11, e_h11, hf⟩ := bnd_x hf
  refine go_newaL 8 d_Sol_init_46 ac_long (by decide +kernel) ⟨by show _ ≤ 87; omega, by show _ ≤ 516; omega⟩ ?_
  rw [Option.some.inj e_h11]
  change Go _ _ _ _ _ (0 + 9) (0 + 87) _ _ _ _ _
  obtain ⟨h12, e_h12, hf⟩ := bnd_x hf
  refine go_putF d_Sol_init_48 e_h12 fl_Sol_33 rfl rfl rfl (Or.inl ⟨_, rfl⟩) ?_
  refine go_iconst (0 : Int32) d_Sol_init_51 (by decide) ?_
  refine go_istore_n (lv' := [(1, .int (0 : Int32)), (0, .ref a0)]) d_Sol_init_52 rfl (by decide) ?_
  refine go_sub (lv' := [(0, .ref a0), (1, .int (0 : Int32))]) [1, 0] rfl ?_
  exact t_Sol_init_53 hd 39 _ _ a0 (0 : Int32) h12 (by omega) hf
theorem c_Sol_init {l : Launch} {E : ET} {d : Nat} (hd : 4 ≤ d) {F : Nat} {h9 : PH} {a0 : Nat} {h : PH} (hf : f_Sol_init F a0 h = some h9) : FnC l E m_Sol_init d 87 516 [.ref a0] h (PoE none h9 0) :=
  FnC.of (by decide +kernel) (Nat.le_of_ble_eq_true rfl) (g_Sol_init_0 hd a0 h hf)
theorem d_Sta_init_0 : decode prog_11_method_1_code 0 = .ok (.aload_n 0, 1) := by decide +kernel
theorem d_Sta_init_1 : decode prog_11_method_1_code 1 = .ok (.invokespecial 3, 3) := by decide +kernel
theorem d_Sta_init_4 : decode prog_11_method_1_code 4 = .ok (.aload_n 0, 1) := by decide +kernel
theorem d_Sta_init_5 : decode prog_11_method_1_code 5 = .ok (.new 9, 3) := by decide +kernel
theorem d_Sta_init_8 : decode prog_11_method_1_code 8 = .ok (.dup, 1) := by decide +kernel
theorem d_Sta_init_9 : decode prog_11_method_1_code 9 = .ok (.invokespecial 11, 3) := by decide +kernel
theorem d_Sta_init_12 : decode prog_11_method_1_code 12 = .ok (.putfield 12, 3) := by decide +kernel
theorem d_Sta_init_15 : decode prog_11_method_1_code 15 = .ok (.aload_n 0, 1) := by decide +kernel
theorem d_Sta_init_16 : decode prog_11_method_1_code 16 = .ok (.new 18, 3) := by decide +kernel
theorem d_Sta_init_19 : decode prog_11_method_1_code 19 = .ok (.dup, 1) := by decide +kernel
theorem d_Sta_init_20 : decode prog_11_method_1_code 20 = .ok (.invokespecial 20, 3) := by decide +kernel
theorem d_Sta_init_23 : decode prog_11_method_1_code 23 = .ok (.putfield 21, 3) := by decide +kernel
theorem d_Sta_init_26 : decode prog_11_method_1_code 26 = .ok (.aload_n 0, 1) := by decide +kernel
theorem d_Sta_init_27 : decode prog_11_method_1_code 27 = .ok (.bipush 36, 2) := by decide +kernel
theorem d_Sta_init_29 : decode prog_11_method_1_code 29 = .ok (.newarray .int, 2) := by decide +kernel
theorem d_Sta_init_31 : decode prog_11_method_1_code 31 = .ok (.putfield 25, 3) := by decide +kernel
theorem d_Sta_init_34 : decode prog_11_method_1_code 34 = .ok (.aload_n 0, 1) := by decide +kernel
theorem d_Sta_init_35 : decode prog_11_method_1_code 35 = .ok (.new 29, 3) := by decide +kernel
theorem d_Sta_init_38 : decode prog_11_method_1_code 38 = .ok (.dup, 1) := by decide +kernel
theorem d_Sta_init_39 : decode prog_11_method_1_code 39 = .ok (.invokespecial 31, 3) := by decide +kernel
theorem d_Sta_init_42 : decode prog_11_method_1_code 42 = .ok (.putfield 32, 3) := by decide +kernel
theorem d_Sta_init_45 : decode prog_11_method_1_code 45 = .ok (.return_, 1) := by decide +kernel
def f_Sta_init (F : Nat) (a0 : Nat) (h : PH) : Option PH :=
  bnd (some (nO h 1)) fun h1 => bnd (f_Pos_init F h.1 h1) fun h2 => bnd (pV h2 a0 8 0 (.ref h.1)) fun h3 => bnd (some (nO h3 4)) fun h4 => bnd (f_Rul_init F h3.1 h4) fun h5 => bnd (pV h5 a0 8 1 (.ref h3.1)) fun h6 => bnd (some (newH h6 (oI 36 (fun _ => 0)))) fun h7 => bnd (pV h7 a0 8 2 (.ref h6.1)) fun h8 => bnd (some (nO h8 0)) fun h9 => bnd (f_Log_init h8.1 h9) fun h10 => bnd (pV h10 a0 8 3 (.ref h8.1)) fun h11 => some h11
theorem g_Sta_init_0 {l : Launch} {E : ET} {d : Nat} (hd : 4 ≤ d) {F : Nat} {h9 : PH} (a0 : Nat) (h : PH) (hf : f_Sta_init F a0 h = some h9) : Go l E m_Sta_init (rm d 12 473) (KI (KM E 12 473 (PoE none h9 0))) 0 0 h 0 0 [(0, .ref a0)] [] := by
  unfold f_Sta_init at hf
  refine go_aload_n 0 d_Sta_init_0 rfl ?_
  refine go_obj d_Sta_init_1 ob_Sta_3 ⟨by show 1 ≤ d; omega, by show 60 ≤ 60 * d; omega⟩ (Nat.le_of_ble_eq_true rfl) ?_
  refine go_aload_n 0 d_Sta_init_4 rfl ?_
  obtain ⟨h1, e_h1, hf⟩ := bnd_x hf
  refine go_new d_Sta_init_5 nw_Sta_9 ⟨by show _ ≤ 12; omega, by show _ + 4 ≤ 473; omega⟩ ?_
  rw [Option.some.inj e_h1]
  change Go _ _ _ _ _ (0 + 1) (0 + 4) _ _ _ _ _
  refine go_dup d_Sta_init_8 rfl ?_
  obtain ⟨h2, e_h2, hf⟩ := bnd_x hf
  refine go_callC (As := []) (st := [.ref h.1, .ref a0]) (c_Pos_init (d := d - 1) (by omega) e_h2) lk_Sta_11 rfl rfl ⟨by show d - 1 + 1 ≤ d; omega, by show 60 * (d - 1) + 60 ≤ 60 * d; omega⟩ (Nat.le_of_ble_eq_true rfl) ⟨by show _ ≤ 12; omega, by show _ ≤ 473; omega⟩ d_Sta_init_9 ?_
  change Go _ _ _ _ _ (0 + 2) (0 + 11) _ _ _ _ _
  obtain ⟨h3, e_h3, hf⟩ := bnd_x hf
  refine go_putF d_Sta_init_12 e_h3 fl_Sta_12 rfl rfl rfl (Or.inr ⟨_, rfl⟩) ?_
  refine go_aload_n 0 d_Sta_init_15 rfl ?_
  obtain ⟨h4, e_h4, hf⟩ := bnd_x hf
  refine go_new d_Sta_init_16 nw_Sta_18 ⟨by show _ ≤ 12; omega, by show _ + 7 ≤ 473; omega⟩ ?_
  rw [Option.some.inj e_h4]
  change Go _ _ _ _ _ (0 + 3) (0 + 18) _ _ _ _ _
  refine go_dup d_Sta_init_19 rfl ?_
  obtain ⟨h5, e_h5, hf⟩ := bnd_x hf
  refine go_callC (As := []) (st := [.ref h3.1, .ref a0]) (c_Rul_init (d := d - 1) (by omega) e_h5) lk_Sta_20 rfl rfl ⟨by show d - 1 + 1 ≤ d; omega, by show 60 * (d - 1) + 60 ≤ 60 * d; omega⟩ (Nat.le_of_ble_eq_true rfl) ⟨by show _ ≤ 12; omega, by show _ ≤ 473; omega⟩ d_Sta_init_20 ?_
  change Go _ _ _ _ _ (0 + 9) (0 + 134) _ _ _ _ _
  obtain ⟨h6, e_h6, hf⟩ := bnd_x hf
  refine go_putF d_Sta_init_23 e_h6 fl_Sta_21 rfl rfl rfl (Or.inr ⟨_, rfl⟩) ?_
  refine go_aload_n 0 d_Sta_init_26 rfl ?_
  refine go_bipush (36 : Int32) d_Sta_init_27 (by decide) ?_
  obtain ⟨h7, e_h7, hf⟩ := bnd_x hf
  refine go_newaI 36 d_Sta_init_29 ac_int (by decide +kernel) ⟨by show _ ≤ 12; omega, by show _ ≤ 473; omega⟩ ?_
  rw [Option.some.inj e_h7]
  change Go _ _ _ _ _ (0 + 10) (0 + 170) _ _ _ _ _
  obtain ⟨h8, e_h8, hf⟩ := bnd_x hf
  refine go_putF d_Sta_init_31 e_h8 fl_Sta_25 rfl rfl rfl (Or.inl ⟨_, rfl⟩) ?_
  refine go_aload_n 0 d_Sta_init_34 rfl ?_
  obtain ⟨h9, e_h9, hf⟩ := bnd_x hf
  refine go_new d_Sta_init_35 nw_Sta_29 ⟨by show _ ≤ 12; omega, by show _ + 3 ≤ 473; omega⟩ ?_
  rw [Option.some.inj e_h9]
  change Go _ _ _ _ _ (0 + 11) (0 + 173) _ _ _ _ _
  refine go_dup d_Sta_init_38 rfl ?_
  obtain ⟨h10, e_h10, hf⟩ := bnd_x hf
  refine go_callC (As := []) (st := [.ref h8.1, .ref a0]) (c_Log_init (d := d - 1) (by omega) e_h10) lk_Sta_31 rfl rfl ⟨by show d - 1 + 1 ≤ d; omega, by show 60 * (d - 1) + 60 ≤ 60 * d; omega⟩ (Nat.le_of_ble_eq_true rfl) ⟨by show _ ≤ 12; omega, by show _ ≤ 473; omega⟩ d_Sta_init_39 ?_
  change Go _ _ _ _ _ (0 + 12) (0 + 473) _ _ _ _ _
  obtain ⟨h11, e_h11, hf⟩ := bnd_x hf
  refine go_putF d_Sta_init_42 e_h11 fl_Sta_32 rfl rfl rfl (Or.inr ⟨_, rfl⟩) ?_
  have e9 := Option.some.inj hf
  subst e9
  refine go_toI ?_
  refine go_widen (k := 12) (n := 473) (by omega) (by omega) ?_
  exact go_vret d_Sta_init_45 rfl ⟨rfl, rfl, rfl⟩
theorem c_Sta_init {l : Launch} {E : ET} {d : Nat} (hd : 4 ≤ d) {F : Nat} {h9 : PH} {a0 : Nat} {h : PH} (hf : f_Sta_init F a0 h = some h9) : FnC l E m_Sta_init d 12 473 [.ref a0] h (PoE none h9 0) :=
  FnC.of (by decide +kernel) (Nat.le_of_ble_eq_true rfl) (g_Sta_init_0 hd a0 h hf)
theorem d_Np_init_0 : decode prog_1_method_1_code 0 = .ok (.aload_n 0, 1) := by decide +kernel
theorem d_Np_init_1 : decode prog_1_method_1_code 1 = .ok (.invokespecial 1, 3) := by decide +kernel
theorem d_Np_init_4 : decode prog_1_method_1_code 4 = .ok (.aload_n 0, 1) := by decide +kernel
theorem d_Np_init_5 : decode prog_1_method_1_code 5 = .ok (.new 7, 3) := by decide +kernel
theorem d_Np_init_8 : decode prog_1_method_1_code 8 = .ok (.dup, 1) := by decide +kernel
theorem d_Np_init_9 : decode prog_1_method_1_code 9 = .ok (.invokespecial 9, 3) := by decide +kernel
theorem d_Np_init_12 : decode prog_1_method_1_code 12 = .ok (.putfield 10, 3) := by decide +kernel
theorem d_Np_init_15 : decode prog_1_method_1_code 15 = .ok (.aload_n 0, 1) := by decide +kernel
theorem d_Np_init_16 : decode prog_1_method_1_code 16 = .ok (.new 7, 3) := by decide +kernel
theorem d_Np_init_19 : decode prog_1_method_1_code 19 = .ok (.dup, 1) := by decide +kernel
theorem d_Np_init_20 : decode prog_1_method_1_code 20 = .ok (.invokespecial 9, 3) := by decide +kernel
theorem d_Np_init_23 : decode prog_1_method_1_code 23 = .ok (.putfield 16, 3) := by decide +kernel
theorem d_Np_init_26 : decode prog_1_method_1_code 26 = .ok (.aload_n 0, 1) := by decide +kernel
theorem d_Np_init_27 : decode prog_1_method_1_code 27 = .ok (.iconst 4, 1) := by decide +kernel
theorem d_Np_init_28 : decode prog_1_method_1_code 28 = .ok (.anewarray 7, 3) := by decide +kernel
theorem d_Np_init_31 : decode prog_1_method_1_code 31 = .ok (.putfield 19, 3) := by decide +kernel
theorem d_Np_init_34 : decode prog_1_method_1_code 34 = .ok (.aload_n 0, 1) := by decide +kernel
theorem d_Np_init_35 : decode prog_1_method_1_code 35 = .ok (.new 23, 3) := by decide +kernel
theorem d_Np_init_38 : decode prog_1_method_1_code 38 = .ok (.dup, 1) := by decide +kernel
theorem d_Np_init_39 : decode prog_1_method_1_code 39 = .ok (.invokespecial 25, 3) := by decide +kernel
theorem d_Np_init_42 : decode prog_1_method_1_code 42 = .ok (.putfield 26, 3) := by decide +kernel
theorem d_Np_init_45 : decode prog_1_method_1_code 45 = .ok (.aload_n 0, 1) := by decide +kernel
theorem d_Np_init_46 : decode prog_1_method_1_code 46 = .ok (.new 30, 3) := by decide +kernel
theorem d_Np_init_49 : decode prog_1_method_1_code 49 = .ok (.dup, 1) := by decide +kernel
theorem d_Np_init_50 : decode prog_1_method_1_code 50 = .ok (.invokespecial 32, 3) := by decide +kernel
theorem d_Np_init_53 : decode prog_1_method_1_code 53 = .ok (.putfield 33, 3) := by decide +kernel
theorem d_Np_init_56 : decode prog_1_method_1_code 56 = .ok (.aload_n 0, 1) := by decide +kernel
theorem d_Np_init_57 : decode prog_1_method_1_code 57 = .ok (.new 37, 3) := by decide +kernel
theorem d_Np_init_60 : decode prog_1_method_1_code 60 = .ok (.dup, 1) := by decide +kernel
theorem d_Np_init_61 : decode prog_1_method_1_code 61 = .ok (.invokespecial 39, 3) := by decide +kernel
theorem d_Np_init_64 : decode prog_1_method_1_code 64 = .ok (.putfield 40, 3) := by decide +kernel
theorem d_Np_init_67 : decode prog_1_method_1_code 67 = .ok (.aload_n 0, 1) := by decide +kernel
theorem d_Np_init_68 : decode prog_1_method_1_code 68 = .ok (.new 44, 3) := by decide +kernel
theorem d_Np_init_71 : decode prog_1_method_1_code 71 = .ok (.dup, 1) := by decide +kernel
theorem d_Np_init_72 : decode prog_1_method_1_code 72 = .ok (.invokespecial 46, 3) := by decide +kernel
theorem d_Np_init_75 : decode prog_1_method_1_code 75 = .ok (.putfield 47, 3) := by decide +kernel
theorem d_Np_init_78 : decode prog_1_method_1_code 78 = .ok (.aload_n 0, 1) := by decide +kernel
theorem d_Np_init_79 : decode prog_1_method_1_code 79 = .ok (.new 44, 3) := by decide +kernel
theorem d_Np_init_82 : decode prog_1_method_1_code 82 = .ok (.dup, 1) := by decide +kernel
theorem d_Np_init_83 : decode prog_1_method_1_code 83 = .ok (.invokespecial 46, 3) := by decide +kernel
theorem d_Np_init_86 : decode prog_1_method_1_code 86 = .ok (.putfield 51, 3) := by decide +kernel
theorem d_Np_init_89 : decode prog_1_method_1_code 89 = .ok (.aload_n 0, 1) := by decide +kernel
theorem d_Np_init_90 : decode prog_1_method_1_code 90 = .ok (.new 54, 3) := by decide +kernel
theorem d_Np_init_93 : decode prog_1_method_1_code 93 = .ok (.dup, 1) := by decide +kernel
theorem d_Np_init_94 : decode prog_1_method_1_code 94 = .ok (.invokespecial 56, 3) := by decide +kernel
theorem d_Np_init_97 : decode prog_1_method_1_code 97 = .ok (.putfield 57, 3) := by decide +kernel
theorem d_Np_init_100 : decode prog_1_method_1_code 100 = .ok (.aload_n 0, 1) := by decide +kernel
theorem d_Np_init_101 : decode prog_1_method_1_code 101 = .ok (.bipush 6, 2) := by decide +kernel
theorem d_Np_init_103 : decode prog_1_method_1_code 103 = .ok (.newarray .int, 2) := by decide +kernel
theorem d_Np_init_105 : decode prog_1_method_1_code 105 = .ok (.putfield 61, 3) := by decide +kernel
theorem d_Np_init_108 : decode prog_1_method_1_code 108 = .ok (.aload_n 0, 1) := by decide +kernel
theorem d_Np_init_109 : decode prog_1_method_1_code 109 = .ok (.bipush 36, 2) := by decide +kernel
theorem d_Np_init_111 : decode prog_1_method_1_code 111 = .ok (.newarray .int, 2) := by decide +kernel
theorem d_Np_init_113 : decode prog_1_method_1_code 113 = .ok (.putfield 65, 3) := by decide +kernel
theorem d_Np_init_116 : decode prog_1_method_1_code 116 = .ok (.iconst 0, 1) := by decide +kernel
theorem d_Np_init_117 : decode prog_1_method_1_code 117 = .ok (.istore_n 1, 1) := by decide +kernel
theorem d_Np_init_118 : decode prog_1_method_1_code 118 = .ok (.iload_n 1, 1) := by decide +kernel
theorem d_Np_init_119 : decode prog_1_method_1_code 119 = .ok (.iconst 4, 1) := by decide +kernel
theorem d_Np_init_120 : decode prog_1_method_1_code 120 = .ok (.if_icmp .ge 22, 3) := by decide +kernel
theorem d_Np_init_123 : decode prog_1_method_1_code 123 = .ok (.aload_n 0, 1) := by decide +kernel
theorem d_Np_init_124 : decode prog_1_method_1_code 124 = .ok (.getfield 19, 3) := by decide +kernel
theorem d_Np_init_127 : decode prog_1_method_1_code 127 = .ok (.iload_n 1, 1) := by decide +kernel
theorem d_Np_init_128 : decode prog_1_method_1_code 128 = .ok (.new 7, 3) := by decide +kernel
theorem d_Np_init_131 : decode prog_1_method_1_code 131 = .ok (.dup, 1) := by decide +kernel
theorem d_Np_init_132 : decode prog_1_method_1_code 132 = .ok (.invokespecial 9, 3) := by decide +kernel
theorem d_Np_init_135 : decode prog_1_method_1_code 135 = .ok (.aastore, 1) := by decide +kernel
theorem d_Np_init_136 : decode prog_1_method_1_code 136 = .ok (.iinc 1 1, 3) := by decide +kernel
theorem d_Np_init_139 : decode prog_1_method_1_code 139 = .ok (.goto (-21), 3) := by decide +kernel
theorem d_Np_init_142 : decode prog_1_method_1_code 142 = .ok (.return_, 1) := by decide +kernel
def b_Np_init_118 (F : Nat) (k118 : Nat → Int32 → PH → Option PH) (a0 : Nat) (i1 : Int32) (h : PH) : Option PH :=
  (if (4 : Int32) ≤ i1 then some h else bnd (gR h a0 9 2) fun x1 => bnd (some (nO h 8)) fun h2 => bnd (f_Sta_init F h.1 h2) fun h3 => bnd (sR h3 x1 i1 h.1) fun h4 => k118 a0 (i1 + (1 : Int32)) h4)
def f_Np_init_118 (F : Nat) : Nat → Nat → Int32 → PH → Option PH
  | 0 => fun _ _ _ => none
  | n + 1 => b_Np_init_118 F (f_Np_init_118 F n)
theorem t_Np_init_118 {l : Launch} {E : ET} {d : Nat} (hd : 5 ≤ d) {F : Nat} {h9 : PH} : ∀ (n kc ks : Nat) (a0 : Nat) (i1 : Int32) (h : PH), kc + 13 * n ≤ 279 ∧ ks + 477 * n ≤ 4630 → f_Np_init_118 F n a0 i1 h = some h9 → Go l E m_Np_init (rm d 279 4630) (KI (KM E 279 4630 (PoE none h9 0))) kc ks h 0 118 [(0, .ref a0), (1, .int i1)] [] := by
  intro n
  induction n with
  | zero => intro kc ks a0 i1 h _ hf; cases hf
  | succ n ih =>
    intro kc ks a0 i1 h hc hf
    change b_Np_init_118 F (f_Np_init_118 F n) a0 i1 h = some h9 at hf
    unfold b_Np_init_118 at hf
    refine go_iload_n 1 d_Np_init_118 rfl ?_
    refine go_iconst (4 : Int32) d_Np_init_119 (by decide) ?_
    refine go_icmp_ge 142 d_Np_init_120 (by decide) (fun q5 => ?_) (fun q5 => ?_)
    · rw [if_pos q5] at hf
      have e9 := Option.some.inj hf
      subst e9
      refine go_toI ?_
      refine go_widen (k := 279) (n := 4630) (by omega) (by omega) ?_
      exact go_vret d_Np_init_142 rfl ⟨rfl, rfl, rfl⟩
    · rw [if_neg q5] at hf
      refine go_aload_n 0 d_Np_init_123 rfl ?_
      obtain ⟨x1, e_x1, hf⟩ := bnd_x hf
      refine go_get d_Np_init_124 (gR_x e_x1) fl_Np_19 ?_
      refine go_iload_n 1 d_Np_init_127 rfl ?_
      obtain ⟨h2, e_h2, hf⟩ := bnd_x hf
      refine go_new d_Np_init_128 nw_Np_7 ⟨by show _ ≤ 279; omega, by show _ + 4 ≤ 4630; omega⟩ ?_
      rw [Option.some.inj e_h2]
      change Go _ _ _ _ _ (kc + 1) (ks + 4) _ _ _ _ _
      refine go_dup d_Np_init_131 rfl ?_
      obtain ⟨h3, e_h3, hf⟩ := bnd_x hf
      refine go_callC (As := []) (st := [.ref h.1, .int i1, .ref x1]) (c_Sta_init (d := d - 1) (by omega) e_h3) lk_Np_9 rfl rfl ⟨by show d - 1 + 1 ≤ d; omega, by show 60 * (d - 1) + 60 ≤ 60 * d; omega⟩ (Nat.le_of_ble_eq_true rfl) ⟨by show _ ≤ 279; omega, by show _ ≤ 4630; omega⟩ d_Np_init_132 ?_
      change Go _ _ _ _ _ (kc + 13) (ks + 477) _ _ _ _ _
      obtain ⟨h4, e_h4, hf⟩ := bnd_x hf
      refine go_aastore e_h4 d_Np_init_135 ?_
      refine go_iinc (lv' := [(1, .int (i1 + (1 : Int32))), (0, .ref a0)]) 1 (i1 + (1 : Int32)) d_Np_init_136 rfl rfl rfl (by decide) ?_
      refine go_goto 118 d_Np_init_139 (by decide) ?_
      refine go_sub (lv' := [(0, .ref a0), (1, .int (i1 + (1 : Int32)))]) [1, 0] rfl ?_
      exact ih _ _ a0 (i1 + (1 : Int32)) h4 (by omega) hf
def f_Np_init (F : Nat) (a0 : Nat) (h : PH) : Option PH :=
  bnd (some (nO h 8)) fun h1 => bnd (f_Sta_init F h.1 h1) fun h2 => bnd (pV h2 a0 9 0 (.ref h.1)) fun h3 => bnd (some (nO h3 8)) fun h4 => bnd (f_Sta_init F h3.1 h4) fun h5 => bnd (pV h5 a0 9 1 (.ref h3.1)) fun h6 => bnd (some (newH h6 (oR 0 4 (fun _ => none)))) fun h7 => bnd (pV h7 a0 9 2 (.ref h6.1)) fun h8 => bnd (some (nO h8 2)) fun h9 => bnd (f_Txt_init h8.1 h9) fun h10 => bnd (pV h10 a0 9 5 (.ref h8.1)) fun h11 => bnd (some (nO h11 1)) fun h12 => bnd (f_Pos_init F h11.1 h12) fun h13 => bnd (pV h13 a0 9 6 (.ref h11.1)) fun h14 => bnd (some (nO h14 3)) fun h15 => bnd (f_Rea_init h14.1 h15) fun h16 => bnd (pV h16 a0 9 7 (.ref h14.1)) fun h17 => bnd (some (nO h17 7)) fun h18 => bnd (f_Sol_init F h17.1 h18) fun h19 => bnd (pV h19 a0 9 8 (.ref h17.1)) fun h20 => bnd (some (nO h20 7)) fun h21 => bnd (f_Sol_init F h20.1 h21) fun h22 => bnd (pV h22 a0 9 9 (.ref h20.1)) fun h23 => bnd (some (nO h23 5)) fun h24 => bnd (f_Shu_init h23.1 h24) fun h25 => bnd (pV h25 a0 9 10 (.ref h23.1)) fun h26 => bnd (some (newH h26 (oI 6 (fun _ => 0)))) fun h27 => bnd (pV h27 a0 9 11 (.ref h26.1)) fun h28 => bnd (some (newH h28 (oI 36 (fun _ => 0)))) fun h29 => bnd (pV h29 a0 9 12 (.ref h28.1)) fun h30 => f_Np_init_118 F 5 a0 (0 : Int32) h30
theorem g_Np_init_0 {l : Launch} {E : ET} {d : Nat} (hd : 5 ≤ d) {F : Nat} {h9 : PH} (a0 : Nat) (h : PH) (hf : f_Np_init F a0 h = some h9) : Go l E m_Np_init (rm d 279 4630) (KI (KM E 279 4630 (PoE none h9 0))) 0 0 h 0 0 [(0, .ref a0)] [] := by
  unfold f_Np_init at hf
  refine go_aload_n 0 d_Np_init_0 rfl ?_
  refine go_obj d_Np_init_1 ob_Np_1 ⟨by show 1 ≤ d; omega, by show 60 ≤ 60 * d; omega⟩ (Nat.le_of_ble_eq_true rfl) ?_
  refine go_aload_n 0 d_Np_init_4 rfl ?_
  obtain ⟨h1, e_h1, hf⟩ := bnd_x hf
  refine go_new d_Np_init_5 nw_Np_7 ⟨by show _ ≤ 279; omega, by show _ + 4 ≤ 4630; omega⟩ ?_
  rw [Option.some.inj e_h1]
  change Go _ _ _ _ _ (0 + 1) (0 + 4) _ _ _ _ _
  refine go_dup d_Np_init_8 rfl ?_
  obtain ⟨h2, e_h2, hf⟩ := bnd_x hf
  refine go_callC (As := []) (st := [.ref h.1, .ref a0]) (c_Sta_init (d := d - 1) (by omega) e_h2) lk_Np_9 rfl rfl ⟨by show d - 1 + 1 ≤ d; omega, by show 60 * (d - 1) + 60 ≤ 60 * d; omega⟩ (Nat.le_of_ble_eq_true rfl) ⟨by show _ ≤ 279; omega, by show _ ≤ 4630; omega⟩ d_Np_init_9 ?_
  change Go _ _ _ _ _ (0 + 13) (0 + 477) _ _ _ _ _
  obtain ⟨h3, e_h3, hf⟩ := bnd_x hf
  refine go_putF d_Np_init_12 e_h3 fl_Np_10 rfl rfl rfl (Or.inr ⟨_, rfl⟩) ?_
  refine go_aload_n 0 d_Np_init_15 rfl ?_
  obtain ⟨h4, e_h4, hf⟩ := bnd_x hf
  refine go_new d_Np_init_16 nw_Np_7 ⟨by show _ ≤ 279; omega, by show _ + 4 ≤ 4630; omega⟩ ?_
  rw [Option.some.inj e_h4]
  change Go _ _ _ _ _ (0 + 14) (0 + 481) _ _ _ _ _
  refine go_dup d_Np_init_19 rfl ?_
  obtain ⟨h5, e_h5, hf⟩ := bnd_x hf
  refine go_callC (As := []) (st := [.ref h3.1, .ref a0]) (c_Sta_init (d := d - 1) (by omega) e_h5) lk_Np_9 rfl rfl ⟨by show d - 1 + 1 ≤ d; omega, by show 60 * (d - 1) + 60 ≤ 60 * d; omega⟩ (Nat.le_of_ble_eq_true rfl) ⟨by show _ ≤ 279; omega, by show _ ≤ 4630; omega⟩ d_Np_init_20 ?_
  change Go _ _ _ _ _ (0 + 26) (0 + 954) _ _ _ _ _
  obtain ⟨h6, e_h6, hf⟩ := bnd_x hf
  refine go_putF d_Np_init_23 e_h6 fl_Np_16 rfl rfl rfl (Or.inr ⟨_, rfl⟩) ?_
  refine go_aload_n 0 d_Np_init_26 rfl ?_
  refine go_iconst (4 : Int32) d_Np_init_27 (by decide) ?_
  obtain ⟨h7, e_h7, hf⟩ := bnd_x hf
  refine go_newq0 4 d_Np_init_28 nq_Np_7 (by decide +kernel) ⟨by show _ ≤ 279; omega, by show _ ≤ 4630; omega⟩ ?_
  rw [Option.some.inj e_h7]
  change Go _ _ _ _ _ (0 + 27) (0 + 958) _ _ _ _ _
  obtain ⟨h8, e_h8, hf⟩ := bnd_x hf
  refine go_putF d_Np_init_31 e_h8 fl_Np_19 rfl rfl rfl (Or.inl ⟨_, rfl⟩) ?_
  refine go_aload_n 0 d_Np_init_34 rfl ?_
  obtain ⟨h9, e_h9, hf⟩ := bnd_x hf
  refine go_new d_Np_init_35 nw_Np_23 ⟨by show _ ≤ 279; omega, by show _ + 4 ≤ 4630; omega⟩ ?_
  rw [Option.some.inj e_h9]
  change Go _ _ _ _ _ (0 + 28) (0 + 962) _ _ _ _ _
  refine go_dup d_Np_init_38 rfl ?_
  obtain ⟨h10, e_h10, hf⟩ := bnd_x hf
  refine go_callC (As := []) (st := [.ref h8.1, .ref a0]) (c_Txt_init (d := d - 1) (by omega) e_h10) lk_Np_25 rfl rfl ⟨by show d - 1 + 1 ≤ d; omega, by show 60 * (d - 1) + 60 ≤ 60 * d; omega⟩ (Nat.le_of_ble_eq_true rfl) ⟨by show _ ≤ 279; omega, by show _ ≤ 4630; omega⟩ d_Np_init_39 ?_
  change Go _ _ _ _ _ (0 + 29) (0 + 1112) _ _ _ _ _
  obtain ⟨h11, e_h11, hf⟩ := bnd_x hf
  refine go_putF d_Np_init_42 e_h11 fl_Np_26 rfl rfl rfl (Or.inr ⟨_, rfl⟩) ?_
  refine go_aload_n 0 d_Np_init_45 rfl ?_
  obtain ⟨h12, e_h12, hf⟩ := bnd_x hf
  refine go_new d_Np_init_46 nw_Np_30 ⟨by show _ ≤ 279; omega, by show _ + 4 ≤ 4630; omega⟩ ?_
  rw [Option.some.inj e_h12]
  change Go _ _ _ _ _ (0 + 30) (0 + 1116) _ _ _ _ _
  refine go_dup d_Np_init_49 rfl ?_
  obtain ⟨h13, e_h13, hf⟩ := bnd_x hf
  refine go_callC (As := []) (st := [.ref h11.1, .ref a0]) (c_Pos_init (d := d - 1) (by omega) e_h13) lk_Np_32 rfl rfl ⟨by show d - 1 + 1 ≤ d; omega, by show 60 * (d - 1) + 60 ≤ 60 * d; omega⟩ (Nat.le_of_ble_eq_true rfl) ⟨by show _ ≤ 279; omega, by show _ ≤ 4630; omega⟩ d_Np_init_50 ?_
  change Go _ _ _ _ _ (0 + 31) (0 + 1123) _ _ _ _ _
  obtain ⟨h14, e_h14, hf⟩ := bnd_x hf
  refine go_putF d_Np_init_53 e_h14 fl_Np_33 rfl rfl rfl (Or.inr ⟨_, rfl⟩) ?_
  refine go_aload_n 0 d_Np_init_56 rfl ?_
  obtain ⟨h15, e_h15, hf⟩ := bnd_x hf
  refine go_new d_Np_init_57 nw_Np_37 ⟨by show _ ≤ 279; omega, by show _ + 7 ≤ 4630; omega⟩ ?_
  rw [Option.some.inj e_h15]
  change Go _ _ _ _ _ (0 + 32) (0 + 1130) _ _ _ _ _
  refine go_dup d_Np_init_60 rfl ?_
  obtain ⟨h16, e_h16, hf⟩ := bnd_x hf
  refine go_callC (As := []) (st := [.ref h14.1, .ref a0]) (c_Rea_init (d := d - 1) (by omega) e_h16) lk_Np_39 rfl rfl ⟨by show d - 1 + 1 ≤ d; omega, by show 60 * (d - 1) + 60 ≤ 60 * d; omega⟩ (Nat.le_of_ble_eq_true rfl) ⟨by show _ ≤ 279; omega, by show _ ≤ 4630; omega⟩ d_Np_init_61 ?_
  change Go _ _ _ _ _ (0 + 35) (0 + 1146) _ _ _ _ _
  obtain ⟨h17, e_h17, hf⟩ := bnd_x hf
  refine go_putF d_Np_init_64 e_h17 fl_Np_40 rfl rfl rfl (Or.inr ⟨_, rfl⟩) ?_
  refine go_aload_n 0 d_Np_init_67 rfl ?_
  obtain ⟨h18, e_h18, hf⟩ := bnd_x hf
  refine go_new d_Np_init_68 nw_Np_44 ⟨by show _ ≤ 279; omega, by show _ + 12 ≤ 4630; omega⟩ ?_
  rw [Option.some.inj e_h18]
  change Go _ _ _ _ _ (0 + 36) (0 + 1158) _ _ _ _ _
  refine go_dup d_Np_init_71 rfl ?_
  obtain ⟨h19, e_h19, hf⟩ := bnd_x hf
  refine go_callC (As := []) (st := [.ref h17.1, .ref a0]) (c_Sol_init (d := d - 1) (by omega) e_h19) lk_Np_46 rfl rfl ⟨by show d - 1 + 1 ≤ d; omega, by show 60 * (d - 1) + 60 ≤ 60 * d; omega⟩ (Nat.le_of_ble_eq_true rfl) ⟨by show _ ≤ 279; omega, by show _ ≤ 4630; omega⟩ d_Np_init_72 ?_
  change Go _ _ _ _ _ (0 + 123) (0 + 1674) _ _ _ _ _
  obtain ⟨h20, e_h20, hf⟩ := bnd_x hf
  refine go_putF d_Np_init_75 e_h20 fl_Np_47 rfl rfl rfl (Or.inr ⟨_, rfl⟩) ?_
  refine go_aload_n 0 d_Np_init_78 rfl ?_
  obtain ⟨h21, e_h21, hf⟩ := bnd_x hf
  refine go_new d_Np_init_79 nw_Np_44 ⟨by show _ ≤ 279; omega, by show _ + 12 ≤ 4630; omega⟩ ?_
  rw [Option.some.inj e_h21]
  change Go _ _ _ _ _ (0 + 124) (0 + 1686) _ _ _ _ _
  refine go_dup d_Np_init_82 rfl ?_
  obtain ⟨h22, e_h22, hf⟩ := bnd_x hf
  refine go_callC (As := []) (st := [.ref h20.1, .ref a0]) (c_Sol_init (d := d - 1) (by omega) e_h22) lk_Np_46 rfl rfl ⟨by show d - 1 + 1 ≤ d; omega, by show 60 * (d - 1) + 60 ≤ 60 * d; omega⟩ (Nat.le_of_ble_eq_true rfl) ⟨by show _ ≤ 279; omega, by show _ ≤ 4630; omega⟩ d_Np_init_83 ?_
  change Go _ _ _ _ _ (0 + 211) (0 + 2202) _ _ _ _ _
  obtain ⟨h23, e_h23, hf⟩ := bnd_x hf
  refine go_putF d_Np_init_86 e_h23 fl_Np_51 rfl rfl rfl (Or.inr ⟨_, rfl⟩) ?_
  refine go_aload_n 0 d_Np_init_89 rfl ?_
  obtain ⟨h24, e_h24, hf⟩ := bnd_x hf
  refine go_new d_Np_init_90 nw_Np_54 ⟨by show _ ≤ 279; omega, by show _ + 1 ≤ 4630; omega⟩ ?_
  rw [Option.some.inj e_h24]
  change Go _ _ _ _ _ (0 + 212) (0 + 2203) _ _ _ _ _
  refine go_dup d_Np_init_93 rfl ?_
  obtain ⟨h25, e_h25, hf⟩ := bnd_x hf
  refine go_callC (As := []) (st := [.ref h23.1, .ref a0]) (c_Shu_init (d := d - 1) (by omega) e_h25) lk_Np_56 rfl rfl ⟨by show d - 1 + 1 ≤ d; omega, by show 60 * (d - 1) + 60 ≤ 60 * d; omega⟩ (Nat.le_of_ble_eq_true rfl) ⟨by show _ ≤ 279; omega, by show _ ≤ 4630; omega⟩ d_Np_init_94 ?_
  change Go _ _ _ _ _ (0 + 212) (0 + 2203) _ _ _ _ _
  obtain ⟨h26, e_h26, hf⟩ := bnd_x hf
  refine go_putF d_Np_init_97 e_h26 fl_Np_57 rfl rfl rfl (Or.inr ⟨_, rfl⟩) ?_
  refine go_aload_n 0 d_Np_init_100 rfl ?_
  refine go_bipush (6 : Int32) d_Np_init_101 (by decide) ?_
  obtain ⟨h27, e_h27, hf⟩ := bnd_x hf
  refine go_newaI 6 d_Np_init_103 ac_int (by decide +kernel) ⟨by show _ ≤ 279; omega, by show _ ≤ 4630; omega⟩ ?_
  rw [Option.some.inj e_h27]
  change Go _ _ _ _ _ (0 + 213) (0 + 2209) _ _ _ _ _
  obtain ⟨h28, e_h28, hf⟩ := bnd_x hf
  refine go_putF d_Np_init_105 e_h28 fl_Np_61 rfl rfl rfl (Or.inl ⟨_, rfl⟩) ?_
  refine go_aload_n 0 d_Np_init_108 rfl ?_
  refine go_bipush (36 : Int32) d_Np_init_109 (by decide) ?_
  obtain ⟨h29, e_h29, hf⟩ := bnd_x hf
  refine go_newaI 36 d_Np_init_111 ac_int (by decide +kernel) ⟨by show _ ≤ 279; omega, by show _ ≤ 4630; omega⟩ ?_
  rw [Option.some.inj e_h29]
  change Go _ _ _ _ _ (0 + 214) (0 + 2245) _ _ _ _ _
  obtain ⟨h30, e_h30, hf⟩ := bnd_x hf
  refine go_putF d_Np_init_113 e_h30 fl_Np_65 rfl rfl rfl (Or.inl ⟨_, rfl⟩) ?_
  refine go_iconst (0 : Int32) d_Np_init_116 (by decide) ?_
  refine go_istore_n (lv' := [(1, .int (0 : Int32)), (0, .ref a0)]) d_Np_init_117 rfl (by decide) ?_
  refine go_sub (lv' := [(0, .ref a0), (1, .int (0 : Int32))]) [1, 0] rfl ?_
  exact t_Np_init_118 hd 5 _ _ a0 (0 : Int32) h30 (by omega) hf
theorem c_Np_init {l : Launch} {E : ET} {d : Nat} (hd : 5 ≤ d) {F : Nat} {h9 : PH} {a0 : Nat} {h : PH} (hf : f_Np_init F a0 h = some h9) : FnC l E m_Np_init d 279 4630 [.ref a0] h (PoE none h9 0) :=
  FnC.of (by decide +kernel) (Nat.le_of_ble_eq_true rfl) (g_Np_init_0 hd a0 h hf)
theorem d_Mo_init_0 : decode prog_13_method_1_code 0 = .ok (.aload_n 0, 1) := by decide +kernel
theorem d_Mo_init_1 : decode prog_13_method_1_code 1 = .ok (.invokespecial 1, 3) := by decide +kernel
theorem d_Mo_init_4 : decode prog_13_method_1_code 4 = .ok (.aload_n 0, 1) := by decide +kernel
theorem d_Mo_init_5 : decode prog_13_method_1_code 5 = .ok (.sipush 482, 3) := by decide +kernel
theorem d_Mo_init_8 : decode prog_13_method_1_code 8 = .ok (.newarray .int, 2) := by decide +kernel
theorem d_Mo_init_10 : decode prog_13_method_1_code 10 = .ok (.putfield 7, 3) := by decide +kernel
theorem d_Mo_init_13 : decode prog_13_method_1_code 13 = .ok (.aload_n 0, 1) := by decide +kernel
theorem d_Mo_init_14 : decode prog_13_method_1_code 14 = .ok (.sipush 1928, 3) := by decide +kernel
theorem d_Mo_init_17 : decode prog_13_method_1_code 17 = .ok (.newarray .int, 2) := by decide +kernel
theorem d_Mo_init_19 : decode prog_13_method_1_code 19 = .ok (.putfield 13, 3) := by decide +kernel
theorem d_Mo_init_22 : decode prog_13_method_1_code 22 = .ok (.aload_n 0, 1) := by decide +kernel
theorem d_Mo_init_23 : decode prog_13_method_1_code 23 = .ok (.sipush 150, 3) := by decide +kernel
theorem d_Mo_init_26 : decode prog_13_method_1_code 26 = .ok (.newarray .int, 2) := by decide +kernel
theorem d_Mo_init_28 : decode prog_13_method_1_code 28 = .ok (.putfield 16, 3) := by decide +kernel
theorem d_Mo_init_31 : decode prog_13_method_1_code 31 = .ok (.aload_n 0, 1) := by decide +kernel
theorem d_Mo_init_32 : decode prog_13_method_1_code 32 = .ok (.iconst 4, 1) := by decide +kernel
theorem d_Mo_init_33 : decode prog_13_method_1_code 33 = .ok (.newarray .int, 2) := by decide +kernel
theorem d_Mo_init_35 : decode prog_13_method_1_code 35 = .ok (.putfield 19, 3) := by decide +kernel
theorem d_Mo_init_38 : decode prog_13_method_1_code 38 = .ok (.aload_n 0, 1) := by decide +kernel
theorem d_Mo_init_39 : decode prog_13_method_1_code 39 = .ok (.iconst 4, 1) := by decide +kernel
theorem d_Mo_init_40 : decode prog_13_method_1_code 40 = .ok (.newarray .int, 2) := by decide +kernel
theorem d_Mo_init_42 : decode prog_13_method_1_code 42 = .ok (.putfield 22, 3) := by decide +kernel
theorem d_Mo_init_45 : decode prog_13_method_1_code 45 = .ok (.aload_n 0, 1) := by decide +kernel
theorem d_Mo_init_46 : decode prog_13_method_1_code 46 = .ok (.bipush 72, 2) := by decide +kernel
theorem d_Mo_init_48 : decode prog_13_method_1_code 48 = .ok (.newarray .int, 2) := by decide +kernel
theorem d_Mo_init_50 : decode prog_13_method_1_code 50 = .ok (.putfield 25, 3) := by decide +kernel
theorem d_Mo_init_53 : decode prog_13_method_1_code 53 = .ok (.aload_n 0, 1) := by decide +kernel
theorem d_Mo_init_54 : decode prog_13_method_1_code 54 = .ok (.sipush 2664, 3) := by decide +kernel
theorem d_Mo_init_57 : decode prog_13_method_1_code 57 = .ok (.newarray .int, 2) := by decide +kernel
theorem d_Mo_init_59 : decode prog_13_method_1_code 59 = .ok (.putfield 28, 3) := by decide +kernel
theorem d_Mo_init_62 : decode prog_13_method_1_code 62 = .ok (.aload_n 0, 1) := by decide +kernel
theorem d_Mo_init_63 : decode prog_13_method_1_code 63 = .ok (.bipush 37, 2) := by decide +kernel
theorem d_Mo_init_65 : decode prog_13_method_1_code 65 = .ok (.newarray .int, 2) := by decide +kernel
theorem d_Mo_init_67 : decode prog_13_method_1_code 67 = .ok (.putfield 31, 3) := by decide +kernel
theorem d_Mo_init_70 : decode prog_13_method_1_code 70 = .ok (.aload_n 0, 1) := by decide +kernel
theorem d_Mo_init_71 : decode prog_13_method_1_code 71 = .ok (.bipush 37, 2) := by decide +kernel
theorem d_Mo_init_73 : decode prog_13_method_1_code 73 = .ok (.newarray .int, 2) := by decide +kernel
theorem d_Mo_init_75 : decode prog_13_method_1_code 75 = .ok (.putfield 34, 3) := by decide +kernel
theorem d_Mo_init_78 : decode prog_13_method_1_code 78 = .ok (.aload_n 0, 1) := by decide +kernel
theorem d_Mo_init_79 : decode prog_13_method_1_code 79 = .ok (.bipush 36, 2) := by decide +kernel
theorem d_Mo_init_81 : decode prog_13_method_1_code 81 = .ok (.newarray .int, 2) := by decide +kernel
theorem d_Mo_init_83 : decode prog_13_method_1_code 83 = .ok (.putfield 37, 3) := by decide +kernel
theorem d_Mo_init_86 : decode prog_13_method_1_code 86 = .ok (.aload_n 0, 1) := by decide +kernel
theorem d_Mo_init_87 : decode prog_13_method_1_code 87 = .ok (.bipush 36, 2) := by decide +kernel
theorem d_Mo_init_89 : decode prog_13_method_1_code 89 = .ok (.newarray .int, 2) := by decide +kernel
theorem d_Mo_init_91 : decode prog_13_method_1_code 91 = .ok (.putfield 40, 3) := by decide +kernel
theorem d_Mo_init_94 : decode prog_13_method_1_code 94 = .ok (.aload_n 0, 1) := by decide +kernel
theorem d_Mo_init_95 : decode prog_13_method_1_code 95 = .ok (.bipush 36, 2) := by decide +kernel
theorem d_Mo_init_97 : decode prog_13_method_1_code 97 = .ok (.newarray .int, 2) := by decide +kernel
theorem d_Mo_init_99 : decode prog_13_method_1_code 99 = .ok (.putfield 43, 3) := by decide +kernel
theorem d_Mo_init_102 : decode prog_13_method_1_code 102 = .ok (.aload_n 0, 1) := by decide +kernel
theorem d_Mo_init_103 : decode prog_13_method_1_code 103 = .ok (.bipush 72, 2) := by decide +kernel
theorem d_Mo_init_105 : decode prog_13_method_1_code 105 = .ok (.newarray .int, 2) := by decide +kernel
theorem d_Mo_init_107 : decode prog_13_method_1_code 107 = .ok (.putfield 46, 3) := by decide +kernel
theorem d_Mo_init_110 : decode prog_13_method_1_code 110 = .ok (.aload_n 0, 1) := by decide +kernel
theorem d_Mo_init_111 : decode prog_13_method_1_code 111 = .ok (.bipush 36, 2) := by decide +kernel
theorem d_Mo_init_113 : decode prog_13_method_1_code 113 = .ok (.newarray .int, 2) := by decide +kernel
theorem d_Mo_init_115 : decode prog_13_method_1_code 115 = .ok (.putfield 49, 3) := by decide +kernel
theorem d_Mo_init_118 : decode prog_13_method_1_code 118 = .ok (.iconst 0, 1) := by decide +kernel
theorem d_Mo_init_119 : decode prog_13_method_1_code 119 = .ok (.istore_n 1, 1) := by decide +kernel
theorem d_Mo_init_120 : decode prog_13_method_1_code 120 = .ok (.iload_n 1, 1) := by decide +kernel
theorem d_Mo_init_121 : decode prog_13_method_1_code 121 = .ok (.bipush 36, 2) := by decide +kernel
theorem d_Mo_init_123 : decode prog_13_method_1_code 123 = .ok (.if_icmp .ge 17, 3) := by decide +kernel
theorem d_Mo_init_126 : decode prog_13_method_1_code 126 = .ok (.aload_n 0, 1) := by decide +kernel
theorem d_Mo_init_127 : decode prog_13_method_1_code 127 = .ok (.getfield 7, 3) := by decide +kernel
theorem d_Mo_init_130 : decode prog_13_method_1_code 130 = .ok (.iload_n 1, 1) := by decide +kernel
theorem d_Mo_init_131 : decode prog_13_method_1_code 131 = .ok (.bipush 126, 2) := by decide +kernel
theorem d_Mo_init_133 : decode prog_13_method_1_code 133 = .ok (.iastore, 1) := by decide +kernel
theorem d_Mo_init_134 : decode prog_13_method_1_code 134 = .ok (.iinc 1 1, 3) := by decide +kernel
theorem d_Mo_init_137 : decode prog_13_method_1_code 137 = .ok (.goto (-17), 3) := by decide +kernel
theorem d_Mo_init_140 : decode prog_13_method_1_code 140 = .ok (.return_, 1) := by decide +kernel
def b_Mo_init_120 (F : Nat) (k120 : Nat → Int32 → PH → Option PH) (a0 : Nat) (i1 : Int32) (h : PH) : Option PH :=
  (if (36 : Int32) ≤ i1 then some h else bnd (gR h a0 10 0) fun x1 => bnd (sI h x1 i1 (126 : Int32)) fun h2 => k120 a0 (i1 + (1 : Int32)) h2)
def f_Mo_init_120 (F : Nat) : Nat → Nat → Int32 → PH → Option PH
  | 0 => fun _ _ _ => none
  | n + 1 => b_Mo_init_120 F (f_Mo_init_120 F n)
theorem t_Mo_init_120 {l : Launch} {E : ET} {d : Nat} (hd : 2 ≤ d) {F : Nat} {h9 : PH} : ∀ (n kc ks : Nat) (a0 : Nat) (i1 : Int32) (h : PH), kc + 0 * n ≤ 14 ∧ ks + 0 * n ≤ 5594 → f_Mo_init_120 F n a0 i1 h = some h9 → Go l E m_Mo_init (rm d 14 5594) (KI (KM E 14 5594 (PoE none h9 0))) kc ks h 0 120 [(0, .ref a0), (1, .int i1)] [] := by
  intro n
  induction n with
  | zero => intro kc ks a0 i1 h _ hf; cases hf
  | succ n ih =>
    intro kc ks a0 i1 h hc hf
    change b_Mo_init_120 F (f_Mo_init_120 F n) a0 i1 h = some h9 at hf
    unfold b_Mo_init_120 at hf
    refine go_iload_n 1 d_Mo_init_120 rfl ?_
    refine go_bipush (36 : Int32) d_Mo_init_121 (by decide) ?_
    refine go_icmp_ge 140 d_Mo_init_123 (by decide) (fun q3 => ?_) (fun q3 => ?_)
    · rw [if_pos q3] at hf
      have e9 := Option.some.inj hf
      subst e9
      refine go_toI ?_
      refine go_widen (k := 14) (n := 5594) (by omega) (by omega) ?_
      exact go_vret d_Mo_init_140 rfl ⟨rfl, rfl, rfl⟩
    · rw [if_neg q3] at hf
      refine go_aload_n 0 d_Mo_init_126 rfl ?_
      obtain ⟨x1, e_x1, hf⟩ := bnd_x hf
      refine go_get d_Mo_init_127 (gR_x e_x1) fl_Mo_7 ?_
      refine go_iload_n 1 d_Mo_init_130 rfl ?_
      refine go_bipush (126 : Int32) d_Mo_init_131 (by decide) ?_
      obtain ⟨h2, e_h2, hf⟩ := bnd_x hf
      refine go_iastore d_Mo_init_133 e_h2 ?_
      refine go_iinc (lv' := [(1, .int (i1 + (1 : Int32))), (0, .ref a0)]) 1 (i1 + (1 : Int32)) d_Mo_init_134 rfl rfl rfl (by decide) ?_
      refine go_goto 120 d_Mo_init_137 (by decide) ?_
      refine go_sub (lv' := [(0, .ref a0), (1, .int (i1 + (1 : Int32)))]) [1, 0] rfl ?_
      exact ih _ _ a0 (i1 + (1 : Int32)) h2 (by omega) hf
def f_Mo_init (F : Nat) (a0 : Nat) (h : PH) : Option PH :=
  bnd (some (newH h (oI 482 (fun _ => 0)))) fun h1 => bnd (pV h1 a0 10 0 (.ref h.1)) fun h2 => bnd (some (newH h2 (oI 1928 (fun _ => 0)))) fun h3 => bnd (pV h3 a0 10 1 (.ref h2.1)) fun h4 => bnd (some (newH h4 (oI 150 (fun _ => 0)))) fun h5 => bnd (pV h5 a0 10 3 (.ref h4.1)) fun h6 => bnd (some (newH h6 (oI 4 (fun _ => 0)))) fun h7 => bnd (pV h7 a0 10 9 (.ref h6.1)) fun h8 => bnd (some (newH h8 (oI 4 (fun _ => 0)))) fun h9 => bnd (pV h9 a0 10 10 (.ref h8.1)) fun h10 => bnd (some (newH h10 (oI 72 (fun _ => 0)))) fun h11 => bnd (pV h11 a0 10 11 (.ref h10.1)) fun h12 => bnd (some (newH h12 (oI 2664 (fun _ => 0)))) fun h13 => bnd (pV h13 a0 10 12 (.ref h12.1)) fun h14 => bnd (some (newH h14 (oI 37 (fun _ => 0)))) fun h15 => bnd (pV h15 a0 10 13 (.ref h14.1)) fun h16 => bnd (some (newH h16 (oI 37 (fun _ => 0)))) fun h17 => bnd (pV h17 a0 10 14 (.ref h16.1)) fun h18 => bnd (some (newH h18 (oI 36 (fun _ => 0)))) fun h19 => bnd (pV h19 a0 10 15 (.ref h18.1)) fun h20 => bnd (some (newH h20 (oI 36 (fun _ => 0)))) fun h21 => bnd (pV h21 a0 10 16 (.ref h20.1)) fun h22 => bnd (some (newH h22 (oI 36 (fun _ => 0)))) fun h23 => bnd (pV h23 a0 10 21 (.ref h22.1)) fun h24 => bnd (some (newH h24 (oI 72 (fun _ => 0)))) fun h25 => bnd (pV h25 a0 10 24 (.ref h24.1)) fun h26 => bnd (some (newH h26 (oI 36 (fun _ => 0)))) fun h27 => bnd (pV h27 a0 10 25 (.ref h26.1)) fun h28 => f_Mo_init_120 F F a0 (0 : Int32) h28
theorem g_Mo_init_0 {l : Launch} {E : ET} {d : Nat} (hd : 2 ≤ d) {F : Nat} {h9 : PH} (a0 : Nat) (h : PH) (hf : f_Mo_init F a0 h = some h9) : Go l E m_Mo_init (rm d 14 5594) (KI (KM E 14 5594 (PoE none h9 0))) 0 0 h 0 0 [(0, .ref a0)] [] := by
  unfold f_Mo_init at hf
  refine go_aload_n 0 d_Mo_init_0 rfl ?_
  refine go_obj d_Mo_init_1 ob_Mo_1 ⟨by show 1 ≤ d; omega, by show 60 ≤ 60 * d; omega⟩ (Nat.le_of_ble_eq_true rfl) ?_
  refine go_aload_n 0 d_Mo_init_4 rfl ?_
  refine go_sipush (482 : Int32) d_Mo_init_5 (by decide) ?_
  obtain ⟨h1, e_h1, hf⟩ := bnd_x hf
  refine go_newaI 482 d_Mo_init_8 ac_int (by decide +kernel) ⟨by show _ ≤ 14; omega, by show _ ≤ 5594; omega⟩ ?_
  rw [Option.some.inj e_h1]
  change Go _ _ _ _ _ (0 + 1) (0 + 482) _ _ _ _ _
  obtain ⟨h2, e_h2, hf⟩ := bnd_x hf
  refine go_putF d_Mo_init_10 e_h2 fl_Mo_7 rfl rfl rfl (Or.inl ⟨_, rfl⟩) ?_
  refine go_aload_n 0 d_Mo_init_13 rfl ?_
  refine go_sipush (1928 : Int32) d_Mo_init_14 (by decide) ?_
  obtain ⟨h3, e_h3, hf⟩ := bnd_x hf
  refine go_newaI 1928 d_Mo_init_17 ac_int (by decide +kernel) ⟨by show _ ≤ 14; omega, by show _ ≤ 5594; omega⟩ ?_
  rw [Option.some.inj e_h3]
  change Go _ _ _ _ _ (0 + 2) (0 + 2410) _ _ _ _ _
  obtain ⟨h4, e_h4, hf⟩ := bnd_x hf
  refine go_putF d_Mo_init_19 e_h4 fl_Mo_13 rfl rfl rfl (Or.inl ⟨_, rfl⟩) ?_
  refine go_aload_n 0 d_Mo_init_22 rfl ?_
  refine go_sipush (150 : Int32) d_Mo_init_23 (by decide) ?_
  obtain ⟨h5, e_h5, hf⟩ := bnd_x hf
  refine go_newaI 150 d_Mo_init_26 ac_int (by decide +kernel) ⟨by show _ ≤ 14; omega, by show _ ≤ 5594; omega⟩ ?_
  rw [Option.some.inj e_h5]
  change Go _ _ _ _ _ (0 + 3) (0 + 2560) _ _ _ _ _
  obtain ⟨h6, e_h6, hf⟩ := bnd_x hf
  refine go_putF d_Mo_init_28 e_h6 fl_Mo_16 rfl rfl rfl (Or.inl ⟨_, rfl⟩) ?_
  refine go_aload_n 0 d_Mo_init_31 rfl ?_
  refine go_iconst (4 : Int32) d_Mo_init_32 (by decide) ?_
  obtain ⟨h7, e_h7, hf⟩ := bnd_x hf
  refine go_newaI 4 d_Mo_init_33 ac_int (by decide +kernel) ⟨by show _ ≤ 14; omega, by show _ ≤ 5594; omega⟩ ?_
  rw [Option.some.inj e_h7]
  change Go _ _ _ _ _ (0 + 4) (0 + 2564) _ _ _ _ _
  obtain ⟨h8, e_h8, hf⟩ := bnd_x hf
  refine go_putF d_Mo_init_35 e_h8 fl_Mo_19 rfl rfl rfl (Or.inl ⟨_, rfl⟩) ?_
  refine go_aload_n 0 d_Mo_init_38 rfl ?_
  refine go_iconst (4 : Int32) d_Mo_init_39 (by decide) ?_
  obtain ⟨h9, e_h9, hf⟩ := bnd_x hf
  refine go_newaI 4 d_Mo_init_40 ac_int (by decide +kernel) ⟨by show _ ≤ 14; omega, by show _ ≤ 5594; omega⟩ ?_
  rw [Option.some.inj e_h9]
  change Go _ _ _ _ _ (0 + 5) (0 + 2568) _ _ _ _ _
  obtain ⟨h10, e_h10, hf⟩ := bnd_x hf
  refine go_putF d_Mo_init_42 e_h10 fl_Mo_22 rfl rfl rfl (Or.inl ⟨_, rfl⟩) ?_
  refine go_aload_n 0 d_Mo_init_45 rfl ?_
  refine go_bipush (72 : Int32) d_Mo_init_46 (by decide) ?_
  obtain ⟨h11, e_h11, hf⟩ := bnd_x hf
  refine go_newaI 72 d_Mo_init_48 ac_int (by decide +kernel) ⟨by show _ ≤ 14; omega, by show _ ≤ 5594; omega⟩ ?_
  rw [Option.some.inj e_h11]
  change Go _ _ _ _ _ (0 + 6) (0 + 2640) _ _ _ _ _
  obtain ⟨h12, e_h12, hf⟩ := bnd_x hf
  refine go_putF d_Mo_init_50 e_h12 fl_Mo_25 rfl rfl rfl (Or.inl ⟨_, rfl⟩) ?_
  refine go_aload_n 0 d_Mo_init_53 rfl ?_
  refine go_sipush (2664 : Int32) d_Mo_init_54 (by decide) ?_
  obtain ⟨h13, e_h13, hf⟩ := bnd_x hf
  refine go_newaI 2664 d_Mo_init_57 ac_int (by decide +kernel) ⟨by show _ ≤ 14; omega, by show _ ≤ 5594; omega⟩ ?_
  rw [Option.some.inj e_h13]
  change Go _ _ _ _ _ (0 + 7) (0 + 5304) _ _ _ _ _
  obtain ⟨h14, e_h14, hf⟩ := bnd_x hf
  refine go_putF d_Mo_init_59 e_h14 fl_Mo_28 rfl rfl rfl (Or.inl ⟨_, rfl⟩) ?_
  refine go_aload_n 0 d_Mo_init_62 rfl ?_
  refine go_bipush (37 : Int32) d_Mo_init_63 (by decide) ?_
  obtain ⟨h15, e_h15, hf⟩ := bnd_x hf
  refine go_newaI 37 d_Mo_init_65 ac_int (by decide +kernel) ⟨by show _ ≤ 14; omega, by show _ ≤ 5594; omega⟩ ?_
  rw [Option.some.inj e_h15]
  change Go _ _ _ _ _ (0 + 8) (0 + 5341) _ _ _ _ _
  obtain ⟨h16, e_h16, hf⟩ := bnd_x hf
  refine go_putF d_Mo_init_67 e_h16 fl_Mo_31 rfl rfl rfl (Or.inl ⟨_, rfl⟩) ?_
  refine go_aload_n 0 d_Mo_init_70 rfl ?_
  refine go_bipush (37 : Int32) d_Mo_init_71 (by decide) ?_
  obtain ⟨h17, e_h17, hf⟩ := bnd_x hf
  refine go_newaI 37 d_Mo_init_73 ac_int (by decide +kernel) ⟨by show _ ≤ 14; omega, by show _ ≤ 5594; omega⟩ ?_
  rw [Option.some.inj e_h17]
  change Go _ _ _ _ _ (0 + 9) (0 + 5378) _ _ _ _ _
  obtain ⟨h18, e_h18, hf⟩ := bnd_x hf
  refine go_putF d_Mo_init_75 e_h18 fl_Mo_34 rfl rfl rfl (Or.inl ⟨_, rfl⟩) ?_
  refine go_aload_n 0 d_Mo_init_78 rfl ?_
  refine go_bipush (36 : Int32) d_Mo_init_79 (by decide) ?_
  obtain ⟨h19, e_h19, hf⟩ := bnd_x hf
  refine go_newaI 36 d_Mo_init_81 ac_int (by decide +kernel) ⟨by show _ ≤ 14; omega, by show _ ≤ 5594; omega⟩ ?_
  rw [Option.some.inj e_h19]
  change Go _ _ _ _ _ (0 + 10) (0 + 5414) _ _ _ _ _
  obtain ⟨h20, e_h20, hf⟩ := bnd_x hf
  refine go_putF d_Mo_init_83 e_h20 fl_Mo_37 rfl rfl rfl (Or.inl ⟨_, rfl⟩) ?_
  refine go_aload_n 0 d_Mo_init_86 rfl ?_
  refine go_bipush (36 : Int32) d_Mo_init_87 (by decide) ?_
  obtain ⟨h21, e_h21, hf⟩ := bnd_x hf
  refine go_newaI 36 d_Mo_init_89 ac_int (by decide +kernel) ⟨by show _ ≤ 14; omega, by show _ ≤ 5594; omega⟩ ?_
  rw [Option.some.inj e_h21]
  change Go _ _ _ _ _ (0 + 11) (0 + 5450) _ _ _ _ _
  obtain ⟨h22, e_h22, hf⟩ := bnd_x hf
  refine go_putF d_Mo_init_91 e_h22 fl_Mo_40 rfl rfl rfl (Or.inl ⟨_, rfl⟩) ?_
  refine go_aload_n 0 d_Mo_init_94 rfl ?_
  refine go_bipush (36 : Int32) d_Mo_init_95 (by decide) ?_
  obtain ⟨h23, e_h23, hf⟩ := bnd_x hf
  refine go_newaI 36 d_Mo_init_97 ac_int (by decide +kernel) ⟨by show _ ≤ 14; omega, by show _ ≤ 5594; omega⟩ ?_
  rw [Option.some.inj e_h23]
  change Go _ _ _ _ _ (0 + 12) (0 + 5486) _ _ _ _ _
  obtain ⟨h24, e_h24, hf⟩ := bnd_x hf
  refine go_putF d_Mo_init_99 e_h24 fl_Mo_43 rfl rfl rfl (Or.inl ⟨_, rfl⟩) ?_
  refine go_aload_n 0 d_Mo_init_102 rfl ?_
  refine go_bipush (72 : Int32) d_Mo_init_103 (by decide) ?_
  obtain ⟨h25, e_h25, hf⟩ := bnd_x hf
  refine go_newaI 72 d_Mo_init_105 ac_int (by decide +kernel) ⟨by show _ ≤ 14; omega, by show _ ≤ 5594; omega⟩ ?_
  rw [Option.some.inj e_h25]
  change Go _ _ _ _ _ (0 + 13) (0 + 5558) _ _ _ _ _
  obtain ⟨h26, e_h26, hf⟩ := bnd_x hf
  refine go_putF d_Mo_init_107 e_h26 fl_Mo_46 rfl rfl rfl (Or.inl ⟨_, rfl⟩) ?_
  refine go_aload_n 0 d_Mo_init_110 rfl ?_
  refine go_bipush (36 : Int32) d_Mo_init_111 (by decide) ?_
  obtain ⟨h27, e_h27, hf⟩ := bnd_x hf
  refine go_newaI 36 d_Mo_init_113 ac_int (by decide +kernel) ⟨by show _ ≤ 14; omega, by show _ ≤ 5594; omega⟩ ?_
  rw [Option.some.inj e_h27]
  change Go _ _ _ _ _ (0 + 14) (0 + 5594) _ _ _ _ _
  obtain ⟨h28, e_h28, hf⟩ := bnd_x hf
  refine go_putF d_Mo_init_115 e_h28 fl_Mo_49 rfl rfl rfl (Or.inl ⟨_, rfl⟩) ?_
  refine go_iconst (0 : Int32) d_Mo_init_118 (by decide) ?_
  refine go_istore_n (lv' := [(1, .int (0 : Int32)), (0, .ref a0)]) d_Mo_init_119 rfl (by decide) ?_
  refine go_sub (lv' := [(0, .ref a0), (1, .int (0 : Int32))]) [1, 0] rfl ?_
  exact t_Mo_init_120 hd F _ _ a0 (0 : Int32) h28 (by omega) hf
theorem c_Mo_init {l : Launch} {E : ET} {d : Nat} (hd : 2 ≤ d) {F : Nat} {h9 : PH} {a0 : Nat} {h : PH} (hf : f_Mo_init F a0 h = some h9) : FnC l E m_Mo_init d 14 5594 [.ref a0] h (PoE none h9 0) :=
  FnC.of (by decide +kernel) (Nat.le_of_ble_eq_true rfl) (g_Mo_init_0 hd a0 h hf)
