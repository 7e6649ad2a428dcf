/-! 09.small: methods as functions, by program. -/
theorem d_Log_wipe_0 : decode prog_3_method_2_code 0 = .ok (.aload_n 0, 1) := by decide +kernel
theorem d_Log_wipe_1 : decode prog_3_method_2_code 1 = .ok (.iconst 0, 1) := by decide +kernel
theorem d_Log_wipe_2 : decode prog_3_method_2_code 2 = .ok (.putfield 13, 3) := by decide +kernel
theorem d_Log_wipe_5 : decode prog_3_method_2_code 5 = .ok (.aload_n 0, 1) := by decide +kernel
theorem d_Log_wipe_6 : decode prog_3_method_2_code 6 = .ok (.iconst 0, 1) := by decide +kernel
theorem d_Log_wipe_7 : decode prog_3_method_2_code 7 = .ok (.putfield 17, 3) := by decide +kernel
theorem d_Log_wipe_10 : decode prog_3_method_2_code 10 = .ok (.return_, 1) := by decide +kernel
def f_Log_wipe (a0 : Nat) (h : PH) : Option PH :=
  bnd (pV h a0 0 1 (.int (0 : Int32))) fun h1 => bnd (pV h1 a0 0 2 (.int (0 : Int32))) fun h2 => some h2
theorem g_Log_wipe_0 {l : Launch} {E : ET} {d : Nat} (hd : 1 ≤ d) {h9 : PH} {x : Nat}  (a0 : Nat) (h : PH) (hf : f_Log_wipe a0 h = some h9) : Go l E m_Log_wipe (rm d 0 0) (KM E 0 0 (PoE none h9 x)) 0 0 h x 0 [(0, .ref a0)] [] := by
  unfold f_Log_wipe at hf
  refine go_aload_n 0 d_Log_wipe_0 rfl ?_
  refine go_iconst (0 : Int32) d_Log_wipe_1 (by decide) ?_
  obtain ⟨h1, e_h1, hf⟩ := bnd_x hf
  refine go_putI d_Log_wipe_2 e_h1 fl_Log_13 rfl rfl ?_
  refine go_aload_n 0 d_Log_wipe_5 rfl ?_
  refine go_iconst (0 : Int32) d_Log_wipe_6 (by decide) ?_
  obtain ⟨h2, e_h2, hf⟩ := bnd_x hf
  refine go_putI d_Log_wipe_7 e_h2 fl_Log_17 rfl rfl ?_
  have e9 := Option.some.inj hf
  subst e9
  exact go_vret d_Log_wipe_10 rfl ⟨rfl, rfl, rfl⟩
theorem c_Log_wipe {l : Launch} {E : ET} {d : Nat} (hd : 1 ≤ d) {h9 : PH} {x : Nat} {a0 : Nat} {h : PH} (hf : f_Log_wipe a0 h = some h9) : Fn l E m_Log_wipe d 0 0 [.ref a0] h x (PoE none h9 x) :=
  Fn.of (by decide +kernel) (Nat.le_of_ble_eq_true rfl) (g_Log_wipe_0 hd a0 h hf)
theorem d_Log_copyFrom_0 : decode prog_3_method_3_code 0 = .ok (.aload_n 1, 1) := by decide +kernel
theorem d_Log_copyFrom_1 : decode prog_3_method_3_code 1 = .ok (.getfield 9, 3) := by decide +kernel
theorem d_Log_copyFrom_4 : decode prog_3_method_3_code 4 = .ok (.iconst 0, 1) := by decide +kernel
theorem d_Log_copyFrom_5 : decode prog_3_method_3_code 5 = .ok (.aload_n 0, 1) := by decide +kernel
theorem d_Log_copyFrom_6 : decode prog_3_method_3_code 6 = .ok (.getfield 9, 3) := by decide +kernel
theorem d_Log_copyFrom_9 : decode prog_3_method_3_code 9 = .ok (.iconst 0, 1) := by decide +kernel
theorem d_Log_copyFrom_10 : decode prog_3_method_3_code 10 = .ok (.sipush 300, 3) := by decide +kernel
theorem d_Log_copyFrom_13 : decode prog_3_method_3_code 13 = .ok (.invokestatic 20, 3) := by decide +kernel
theorem d_Log_copyFrom_16 : decode prog_3_method_3_code 16 = .ok (.aload_n 0, 1) := by decide +kernel
theorem d_Log_copyFrom_17 : decode prog_3_method_3_code 17 = .ok (.aload_n 1, 1) := by decide +kernel
theorem d_Log_copyFrom_18 : decode prog_3_method_3_code 18 = .ok (.getfield 13, 3) := by decide +kernel
theorem d_Log_copyFrom_21 : decode prog_3_method_3_code 21 = .ok (.putfield 13, 3) := by decide +kernel
theorem d_Log_copyFrom_24 : decode prog_3_method_3_code 24 = .ok (.aload_n 0, 1) := by decide +kernel
theorem d_Log_copyFrom_25 : decode prog_3_method_3_code 25 = .ok (.aload_n 1, 1) := by decide +kernel
theorem d_Log_copyFrom_26 : decode prog_3_method_3_code 26 = .ok (.getfield 17, 3) := by decide +kernel
theorem d_Log_copyFrom_29 : decode prog_3_method_3_code 29 = .ok (.putfield 17, 3) := by decide +kernel
theorem d_Log_copyFrom_32 : decode prog_3_method_3_code 32 = .ok (.return_, 1) := by decide +kernel
def f_Log_copyFrom (a0 : Nat) (a1 : Nat) (h : PH) : Option PH :=
  bnd (gR h a1 0 0) fun x1 => bnd (gR h a0 0 0) fun x2 => bnd (cpI h x1 (0 : Int32) x2 (0 : Int32) (300 : Int32)) fun h3 => bnd (gI h3 a1 0 1) fun x4 => bnd (pV h3 a0 0 1 (.int x4)) fun h5 => bnd (gI h5 a1 0 2) fun x6 => bnd (pV h5 a0 0 2 (.int x6)) fun h7 => some h7
theorem g_Log_copyFrom_0 {l : Launch} {E : ET} {d : Nat} (hd : 2 ≤ d) {h9 : PH} {x : Nat}  (a0 : Nat) (a1 : Nat) (h : PH) (hf : f_Log_copyFrom a0 a1 h = some h9) : Go l E m_Log_copyFrom (rm d 0 0) (KM E 0 0 (PoE none h9 x)) 0 0 h x 0 [(0, .ref a0), (1, .ref a1)] [] := by
  unfold f_Log_copyFrom at hf
  refine go_aload_n 1 d_Log_copyFrom_0 rfl ?_
  obtain ⟨x1, e_x1, hf⟩ := bnd_x hf
  refine go_get d_Log_copyFrom_1 (gR_x e_x1) fl_Log_9 ?_
  refine go_iconst (0 : Int32) d_Log_copyFrom_4 (by decide) ?_
  refine go_aload_n 0 d_Log_copyFrom_5 rfl ?_
  obtain ⟨x2, e_x2, hf⟩ := bnd_x hf
  refine go_get d_Log_copyFrom_6 (gR_x e_x2) fl_Log_9 ?_
  refine go_iconst (0 : Int32) d_Log_copyFrom_9 (by decide) ?_
  refine go_sipush (300 : Int32) d_Log_copyFrom_10 (by decide) ?_
  obtain ⟨h3, e_h3, hf⟩ := bnd_x hf
  refine go_copyI d_Log_copyFrom_13 e_h3 cl_Log_20 (rm_n (by omega)) (Nat.le_of_ble_eq_true rfl) ?_
  refine go_aload_n 0 d_Log_copyFrom_16 rfl ?_
  refine go_aload_n 1 d_Log_copyFrom_17 rfl ?_
  obtain ⟨x4, e_x4, hf⟩ := bnd_x hf
  refine go_get d_Log_copyFrom_18 (gI_x e_x4) fl_Log_13 ?_
  obtain ⟨h5, e_h5, hf⟩ := bnd_x hf
  refine go_putI d_Log_copyFrom_21 e_h5 fl_Log_13 rfl rfl ?_
  refine go_aload_n 0 d_Log_copyFrom_24 rfl ?_
  refine go_aload_n 1 d_Log_copyFrom_25 rfl ?_
  obtain ⟨x6, e_x6, hf⟩ := bnd_x hf
  refine go_get d_Log_copyFrom_26 (gI_x e_x6) fl_Log_17 ?_
  obtain ⟨h7, e_h7, hf⟩ := bnd_x hf
  refine go_putI d_Log_copyFrom_29 e_h7 fl_Log_17 rfl rfl ?_
  have e9 := Option.some.inj hf
  subst e9
  exact go_vret d_Log_copyFrom_32 rfl ⟨rfl, rfl, rfl⟩
theorem c_Log_copyFrom {l : Launch} {E : ET} {d : Nat} (hd : 2 ≤ d) {h9 : PH} {x : Nat} {a0 : Nat} {a1 : Nat} {h : PH} (hf : f_Log_copyFrom a0 a1 h = some h9) : Fn l E m_Log_copyFrom d 0 0 [.ref a0, .ref a1] h x (PoE none h9 x) :=
  Fn.of (by decide +kernel) (Nat.le_of_ble_eq_true rfl) (g_Log_copyFrom_0 hd a0 a1 h hf)
theorem d_Log_add_0 : decode prog_3_method_4_code 0 = .ok (.aload_n 0, 1) := by decide +kernel
theorem d_Log_add_1 : decode prog_3_method_4_code 1 = .ok (.getfield 13, 3) := by decide +kernel
theorem d_Log_add_4 : decode prog_3_method_4_code 4 = .ok (.aload_n 0, 1) := by decide +kernel
theorem d_Log_add_5 : decode prog_3_method_4_code 5 = .ok (.getfield 17, 3) := by decide +kernel
theorem d_Log_add_8 : decode prog_3_method_4_code 8 = .ok (.iadd, 1) := by decide +kernel
theorem d_Log_add_9 : decode prog_3_method_4_code 9 = .ok (.bipush 100, 2) := by decide +kernel
theorem d_Log_add_11 : decode prog_3_method_4_code 11 = .ok (.irem, 1) := by decide +kernel
theorem d_Log_add_12 : decode prog_3_method_4_code 12 = .ok (.iconst 3, 1) := by decide +kernel
theorem d_Log_add_13 : decode prog_3_method_4_code 13 = .ok (.imul, 1) := by decide +kernel
theorem d_Log_add_14 : decode prog_3_method_4_code 14 = .ok (.istore 4, 2) := by decide +kernel
theorem d_Log_add_16 : decode prog_3_method_4_code 16 = .ok (.aload_n 0, 1) := by decide +kernel
theorem d_Log_add_17 : decode prog_3_method_4_code 17 = .ok (.getfield 9, 3) := by decide +kernel
theorem d_Log_add_20 : decode prog_3_method_4_code 20 = .ok (.iload 4, 2) := by decide +kernel
theorem d_Log_add_22 : decode prog_3_method_4_code 22 = .ok (.iload_n 1, 1) := by decide +kernel
theorem d_Log_add_23 : decode prog_3_method_4_code 23 = .ok (.iastore, 1) := by decide +kernel
theorem d_Log_add_24 : decode prog_3_method_4_code 24 = .ok (.aload_n 0, 1) := by decide +kernel
theorem d_Log_add_25 : decode prog_3_method_4_code 25 = .ok (.getfield 9, 3) := by decide +kernel
theorem d_Log_add_28 : decode prog_3_method_4_code 28 = .ok (.iload 4, 2) := by decide +kernel
theorem d_Log_add_30 : decode prog_3_method_4_code 30 = .ok (.iconst 1, 1) := by decide +kernel
theorem d_Log_add_31 : decode prog_3_method_4_code 31 = .ok (.iadd, 1) := by decide +kernel
theorem d_Log_add_32 : decode prog_3_method_4_code 32 = .ok (.iload_n 2, 1) := by decide +kernel
theorem d_Log_add_33 : decode prog_3_method_4_code 33 = .ok (.iastore, 1) := by decide +kernel
theorem d_Log_add_34 : decode prog_3_method_4_code 34 = .ok (.aload_n 0, 1) := by decide +kernel
theorem d_Log_add_35 : decode prog_3_method_4_code 35 = .ok (.getfield 9, 3) := by decide +kernel
theorem d_Log_add_38 : decode prog_3_method_4_code 38 = .ok (.iload 4, 2) := by decide +kernel
theorem d_Log_add_40 : decode prog_3_method_4_code 40 = .ok (.iconst 2, 1) := by decide +kernel
theorem d_Log_add_41 : decode prog_3_method_4_code 41 = .ok (.iadd, 1) := by decide +kernel
theorem d_Log_add_42 : decode prog_3_method_4_code 42 = .ok (.iload_n 3, 1) := by decide +kernel
theorem d_Log_add_43 : decode prog_3_method_4_code 43 = .ok (.iastore, 1) := by decide +kernel
theorem d_Log_add_44 : decode prog_3_method_4_code 44 = .ok (.aload_n 0, 1) := by decide +kernel
theorem d_Log_add_45 : decode prog_3_method_4_code 45 = .ok (.getfield 17, 3) := by decide +kernel
theorem d_Log_add_48 : decode prog_3_method_4_code 48 = .ok (.bipush 100, 2) := by decide +kernel
theorem d_Log_add_50 : decode prog_3_method_4_code 50 = .ok (.if_icmp .ge 16, 3) := by decide +kernel
theorem d_Log_add_53 : decode prog_3_method_4_code 53 = .ok (.aload_n 0, 1) := by decide +kernel
theorem d_Log_add_54 : decode prog_3_method_4_code 54 = .ok (.dup, 1) := by decide +kernel
theorem d_Log_add_55 : decode prog_3_method_4_code 55 = .ok (.getfield 17, 3) := by decide +kernel
theorem d_Log_add_58 : decode prog_3_method_4_code 58 = .ok (.iconst 1, 1) := by decide +kernel
theorem d_Log_add_59 : decode prog_3_method_4_code 59 = .ok (.iadd, 1) := by decide +kernel
theorem d_Log_add_60 : decode prog_3_method_4_code 60 = .ok (.putfield 17, 3) := by decide +kernel
theorem d_Log_add_63 : decode prog_3_method_4_code 63 = .ok (.goto 16, 3) := by decide +kernel
theorem d_Log_add_66 : decode prog_3_method_4_code 66 = .ok (.aload_n 0, 1) := by decide +kernel
theorem d_Log_add_67 : decode prog_3_method_4_code 67 = .ok (.aload_n 0, 1) := by decide +kernel
theorem d_Log_add_68 : decode prog_3_method_4_code 68 = .ok (.getfield 13, 3) := by decide +kernel
theorem d_Log_add_71 : decode prog_3_method_4_code 71 = .ok (.iconst 1, 1) := by decide +kernel
theorem d_Log_add_72 : decode prog_3_method_4_code 72 = .ok (.iadd, 1) := by decide +kernel
theorem d_Log_add_73 : decode prog_3_method_4_code 73 = .ok (.bipush 100, 2) := by decide +kernel
theorem d_Log_add_75 : decode prog_3_method_4_code 75 = .ok (.irem, 1) := by decide +kernel
theorem d_Log_add_76 : decode prog_3_method_4_code 76 = .ok (.putfield 13, 3) := by decide +kernel
theorem d_Log_add_79 : decode prog_3_method_4_code 79 = .ok (.return_, 1) := by decide +kernel
def f_Log_add (a0 : Nat) (i1 : Int32) (i2 : Int32) (i3 : Int32) (h : PH) : Option PH :=
  bnd (gI h a0 0 1) fun x1 => bnd (gI h a0 0 2) fun x2 => bnd (some (((x1 + x2) - (x1 + x2) / (100 : Int32) * (100 : Int32)) * (3 : Int32))) fun y3 => bnd (gR h a0 0 0) fun x4 => bnd (sI h x4 y3 i1) fun h5 => bnd (gR h5 a0 0 0) fun x6 => bnd (sI h5 x6 (y3 + (1 : Int32)) i2) fun h7 => bnd (gR h7 a0 0 0) fun x8 => bnd (sI h7 x8 (y3 + (2 : Int32)) i3) fun h9 => bnd (gI h9 a0 0 2) fun x10 => (if (100 : Int32) ≤ x10 then bnd (gI h9 a0 0 1) fun x11 => bnd (pV h9 a0 0 1 (.int ((x11 + (1 : Int32)) - (x11 + (1 : Int32)) / (100 : Int32) * (100 : Int32)))) fun h12 => some h12 else bnd (gI h9 a0 0 2) fun x13 => bnd (pV h9 a0 0 2 (.int (x13 + (1 : Int32)))) fun h14 => some h14)
theorem g_Log_add_0 {l : Launch} {E : ET} {d : Nat} (hd : 1 ≤ d) {h9 : PH} {x : Nat}  (a0 : Nat) (i1 : Int32) (i2 : Int32) (i3 : Int32) (h : PH) (hf : f_Log_add a0 i1 i2 i3 h = some h9) : Go l E m_Log_add (rm d 0 0) (KM E 0 0 (PoE none h9 x)) 0 0 h x 0 [(0, .ref a0), (1, .int i1), (2, .int i2), (3, .int i3)] [] := by
  unfold f_Log_add at hf
  refine go_aload_n 0 d_Log_add_0 rfl ?_
  obtain ⟨x1, e_x1, hf⟩ := bnd_x hf
  refine go_get d_Log_add_1 (gI_x e_x1) fl_Log_13 ?_
  refine go_aload_n 0 d_Log_add_4 rfl ?_
  obtain ⟨x2, e_x2, hf⟩ := bnd_x hf
  refine go_get d_Log_add_5 (gI_x e_x2) fl_Log_17 ?_
  refine go_iadd d_Log_add_8 ?_
  refine go_bipush (100 : Int32) d_Log_add_9 (by decide) ?_
  refine go_irem d_Log_add_11 (by decide) ?_
  refine go_iconst (3 : Int32) d_Log_add_12 (by decide) ?_
  refine go_imul d_Log_add_13 ?_
  obtain ⟨y3, e_y3, hf⟩ := bnd_x hf
  refine go_nmI e_y3 ?_
  refine go_istore (lv' := [(4, .int y3), (0, .ref a0), (1, .int i1), (2, .int i2), (3, .int i3)]) d_Log_add_14 rfl (by decide) ?_
  refine go_aload_n 1 d_Log_add_16 rfl ?_
  obtain ⟨x4, e_x4, hf⟩ := bnd_x hf
  refine go_get d_Log_add_17 (gR_x e_x4) fl_Log_9 ?_
  refine go_iload 0 d_Log_add_20 rfl ?_
  refine go_iload_n 2 d_Log_add_22 rfl ?_
  obtain ⟨h5, e_h5, hf⟩ := bnd_x hf
  refine go_iastore d_Log_add_23 e_h5 ?_
  refine go_aload_n 1 d_Log_add_24 rfl ?_
  obtain ⟨x6, e_x6, hf⟩ := bnd_x hf
  refine go_get d_Log_add_25 (gR_x e_x6) fl_Log_9 ?_
  refine go_iload 0 d_Log_add_28 rfl ?_
  refine go_iconst (1 : Int32) d_Log_add_30 (by decide) ?_
  refine go_iadd d_Log_add_31 ?_
  refine go_iload_n 3 d_Log_add_32 rfl ?_
  obtain ⟨h7, e_h7, hf⟩ := bnd_x hf
  refine go_iastore d_Log_add_33 e_h7 ?_
  refine go_aload_n 1 d_Log_add_34 rfl ?_
  obtain ⟨x8, e_x8, hf⟩ := bnd_x hf
  refine go_get d_Log_add_35 (gR_x e_x8) fl_Log_9 ?_
  refine go_iload 0 d_Log_add_38 rfl ?_
  refine go_iconst (2 : Int32) d_Log_add_40 (by decide) ?_
  refine go_iadd d_Log_add_41 ?_
  refine go_iload_n 4 d_Log_add_42 rfl ?_
  obtain ⟨h9, e_h9, hf⟩ := bnd_x hf
  refine go_iastore d_Log_add_43 e_h9 ?_
  refine go_aload_n 1 d_Log_add_44 rfl ?_
  obtain ⟨x10, e_x10, hf⟩ := bnd_x hf
  refine go_get d_Log_add_45 (gI_x e_x10) fl_Log_17 ?_
  refine go_bipush (100 : Int32) d_Log_add_48 (by decide) ?_
  refine go_icmp_ge 66 d_Log_add_50 (by decide) (fun q15 => ?_) (fun q15 => ?_)
  · rw [if_pos q15] at hf
    refine go_aload_n 1 d_Log_add_66 rfl ?_
    refine go_aload_n 1 d_Log_add_67 rfl ?_
    obtain ⟨x11, e_x11, hf⟩ := bnd_x hf
    refine go_get d_Log_add_68 (gI_x e_x11) fl_Log_13 ?_
    refine go_iconst (1 : Int32) d_Log_add_71 (by decide) ?_
    refine go_iadd d_Log_add_72 ?_
    refine go_bipush (100 : Int32) d_Log_add_73 (by decide) ?_
    refine go_irem d_Log_add_75 (by decide) ?_
    obtain ⟨h12, e_h12, hf⟩ := bnd_x hf
    refine go_putI d_Log_add_76 e_h12 fl_Log_13 rfl rfl ?_
    have e9 := Option.some.inj hf
    subst e9
    exact go_vret d_Log_add_79 rfl ⟨rfl, rfl, rfl⟩
  · rw [if_neg q15] at hf
    refine go_aload_n 1 d_Log_add_53 rfl ?_
    refine go_dup d_Log_add_54 rfl ?_
    obtain ⟨x13, e_x13, hf⟩ := bnd_x hf
    refine go_get d_Log_add_55 (gI_x e_x13) fl_Log_17 ?_
    refine go_iconst (1 : Int32) d_Log_add_58 (by decide) ?_
    refine go_iadd d_Log_add_59 ?_
    obtain ⟨h14, e_h14, hf⟩ := bnd_x hf
    refine go_putI d_Log_add_60 e_h14 fl_Log_17 rfl rfl ?_
    refine go_goto 79 d_Log_add_63 (by decide) ?_
    have e9 := Option.some.inj hf
    subst e9
    exact go_vret d_Log_add_79 rfl ⟨rfl, rfl, rfl⟩
theorem c_Log_add {l : Launch} {E : ET} {d : Nat} (hd : 1 ≤ d) {h9 : PH} {x : Nat} {a0 : Nat} {i1 : Int32} {i2 : Int32} {i3 : Int32} {h : PH} (hf : f_Log_add a0 i1 i2 i3 h = some h9) : Fn l E m_Log_add d 0 0 [.ref a0, .int i1, .int i2, .int i3] h x (PoE none h9 x) :=
  Fn.of (by decide +kernel) (Nat.le_of_ble_eq_true rfl) (g_Log_add_0 hd a0 i1 i2 i3 h hf)
theorem d_Log_valueAt_0 : decode prog_3_method_5_code 0 = .ok (.aload_n 0, 1) := by decide +kernel
theorem d_Log_valueAt_1 : decode prog_3_method_5_code 1 = .ok (.getfield 9, 3) := by decide +kernel
theorem d_Log_valueAt_4 : decode prog_3_method_5_code 4 = .ok (.aload_n 0, 1) := by decide +kernel
theorem d_Log_valueAt_5 : decode prog_3_method_5_code 5 = .ok (.getfield 13, 3) := by decide +kernel
theorem d_Log_valueAt_8 : decode prog_3_method_5_code 8 = .ok (.iload_n 1, 1) := by decide +kernel
theorem d_Log_valueAt_9 : decode prog_3_method_5_code 9 = .ok (.iadd, 1) := by decide +kernel
theorem d_Log_valueAt_10 : decode prog_3_method_5_code 10 = .ok (.bipush 100, 2) := by decide +kernel
theorem d_Log_valueAt_12 : decode prog_3_method_5_code 12 = .ok (.irem, 1) := by decide +kernel
theorem d_Log_valueAt_13 : decode prog_3_method_5_code 13 = .ok (.iconst 3, 1) := by decide +kernel
theorem d_Log_valueAt_14 : decode prog_3_method_5_code 14 = .ok (.imul, 1) := by decide +kernel
theorem d_Log_valueAt_15 : decode prog_3_method_5_code 15 = .ok (.iload_n 2, 1) := by decide +kernel
theorem d_Log_valueAt_16 : decode prog_3_method_5_code 16 = .ok (.iadd, 1) := by decide +kernel
theorem d_Log_valueAt_17 : decode prog_3_method_5_code 17 = .ok (.iaload, 1) := by decide +kernel
theorem d_Log_valueAt_18 : decode prog_3_method_5_code 18 = .ok (.ireturn, 1) := by decide +kernel
def f_Log_valueAt (a0 : Nat) (i1 : Int32) (i2 : Int32) (h : PH) : Option Int32 :=
  bnd (gR h a0 0 0) fun x1 => bnd (gI h a0 0 1) fun x2 => bnd (aI h x1 ((((x2 + i1) - (x2 + i1) / (100 : Int32) * (100 : Int32)) * (3 : Int32)) + i2)) fun x3 => some x3
theorem g_Log_valueAt_0 {l : Launch} {E : ET} {d : Nat} (hd : 1 ≤ d) {r : Int32} {h : PH} {x : Nat}  (a0 : Nat) (i1 : Int32) (i2 : Int32) (hf : f_Log_valueAt a0 i1 i2 h = some r) : Go l E m_Log_valueAt (rm d 0 0) (KM E 0 0 (PoE (some (.int r)) h x)) 0 0 h x 0 [(0, .ref a0), (1, .int i1), (2, .int i2)] [] := by
  unfold f_Log_valueAt at hf
  refine go_aload_n 0 d_Log_valueAt_0 rfl ?_
  obtain ⟨x1, e_x1, hf⟩ := bnd_x hf
  refine go_get d_Log_valueAt_1 (gR_x e_x1) fl_Log_9 ?_
  refine go_aload_n 0 d_Log_valueAt_4 rfl ?_
  obtain ⟨x2, e_x2, hf⟩ := bnd_x hf
  refine go_get d_Log_valueAt_5 (gI_x e_x2) fl_Log_13 ?_
  refine go_iload_n 1 d_Log_valueAt_8 rfl ?_
  refine go_iadd d_Log_valueAt_9 ?_
  refine go_bipush (100 : Int32) d_Log_valueAt_10 (by decide) ?_
  refine go_irem d_Log_valueAt_12 (by decide) ?_
  refine go_iconst (3 : Int32) d_Log_valueAt_13 (by decide) ?_
  refine go_imul d_Log_valueAt_14 ?_
  refine go_iload_n 2 d_Log_valueAt_15 rfl ?_
  refine go_iadd d_Log_valueAt_16 ?_
  obtain ⟨x3, e_x3, hf⟩ := bnd_x hf
  refine go_iaload d_Log_valueAt_17 e_x3 ?_
  have e9 := Option.some.inj hf
  subst e9
  exact go_iret d_Log_valueAt_18 rfl ⟨rfl, rfl, rfl⟩
theorem c_Log_valueAt {l : Launch} {E : ET} {d : Nat} (hd : 1 ≤ d) {r : Int32} {h : PH} {x : Nat} {a0 : Nat} {i1 : Int32} {i2 : Int32} (hf : f_Log_valueAt a0 i1 i2 h = some r) : Fn l E m_Log_valueAt d 0 0 [.ref a0, .int i1, .int i2] h x (PoE (some (.int r)) h x) :=
  Fn.of (by decide +kernel) (Nat.le_of_ble_eq_true rfl) (g_Log_valueAt_0 hd a0 i1 i2 hf)
theorem d_Log_hash_0 : decode prog_3_method_6_code 0 = .ok (.ldc2_w 26, 3) := by decide +kernel
theorem d_Log_hash_3 : decode prog_3_method_6_code 3 = .ok (.lload_n 1, 1) := by decide +kernel
theorem d_Log_hash_4 : decode prog_3_method_6_code 4 = .ok (.lmul, 1) := by decide +kernel
theorem d_Log_hash_5 : decode prog_3_method_6_code 5 = .ok (.aload_n 0, 1) := by decide +kernel
theorem d_Log_hash_6 : decode prog_3_method_6_code 6 = .ok (.getfield 17, 3) := by decide +kernel
theorem d_Log_hash_9 : decode prog_3_method_6_code 9 = .ok (.i2l, 1) := by decide +kernel
theorem d_Log_hash_10 : decode prog_3_method_6_code 10 = .ok (.ladd, 1) := by decide +kernel
theorem d_Log_hash_11 : decode prog_3_method_6_code 11 = .ok (.lstore_n 3, 1) := by decide +kernel
theorem d_Log_hash_12 : decode prog_3_method_6_code 12 = .ok (.iconst 0, 1) := by decide +kernel
theorem d_Log_hash_13 : decode prog_3_method_6_code 13 = .ok (.istore 5, 2) := by decide +kernel
theorem d_Log_hash_15 : decode prog_3_method_6_code 15 = .ok (.iload 5, 2) := by decide +kernel
theorem d_Log_hash_17 : decode prog_3_method_6_code 17 = .ok (.aload_n 0, 1) := by decide +kernel
theorem d_Log_hash_18 : decode prog_3_method_6_code 18 = .ok (.getfield 17, 3) := by decide +kernel
theorem d_Log_hash_21 : decode prog_3_method_6_code 21 = .ok (.if_icmp .ge 40, 3) := by decide +kernel
theorem d_Log_hash_24 : decode prog_3_method_6_code 24 = .ok (.iconst 0, 1) := by decide +kernel
theorem d_Log_hash_25 : decode prog_3_method_6_code 25 = .ok (.istore 6, 2) := by decide +kernel
theorem d_Log_hash_27 : decode prog_3_method_6_code 27 = .ok (.iload 6, 2) := by decide +kernel
theorem d_Log_hash_29 : decode prog_3_method_6_code 29 = .ok (.iconst 3, 1) := by decide +kernel
theorem d_Log_hash_30 : decode prog_3_method_6_code 30 = .ok (.if_icmp .ge 25, 3) := by decide +kernel
theorem d_Log_hash_33 : decode prog_3_method_6_code 33 = .ok (.ldc2_w 26, 3) := by decide +kernel
theorem d_Log_hash_36 : decode prog_3_method_6_code 36 = .ok (.lload_n 3, 1) := by decide +kernel
theorem d_Log_hash_37 : decode prog_3_method_6_code 37 = .ok (.lmul, 1) := by decide +kernel
theorem d_Log_hash_38 : decode prog_3_method_6_code 38 = .ok (.aload_n 0, 1) := by decide +kernel
theorem d_Log_hash_39 : decode prog_3_method_6_code 39 = .ok (.iload 5, 2) := by decide +kernel
theorem d_Log_hash_41 : decode prog_3_method_6_code 41 = .ok (.iload 6, 2) := by decide +kernel
theorem d_Log_hash_43 : decode prog_3_method_6_code 43 = .ok (.invokevirtual 28, 3) := by decide +kernel
theorem d_Log_hash_46 : decode prog_3_method_6_code 46 = .ok (.i2l, 1) := by decide +kernel
theorem d_Log_hash_47 : decode prog_3_method_6_code 47 = .ok (.ladd, 1) := by decide +kernel
theorem d_Log_hash_48 : decode prog_3_method_6_code 48 = .ok (.lstore_n 3, 1) := by decide +kernel
theorem d_Log_hash_49 : decode prog_3_method_6_code 49 = .ok (.iinc 6 1, 3) := by decide +kernel
theorem d_Log_hash_52 : decode prog_3_method_6_code 52 = .ok (.goto (-25), 3) := by decide +kernel
theorem d_Log_hash_55 : decode prog_3_method_6_code 55 = .ok (.iinc 5 1, 3) := by decide +kernel
theorem d_Log_hash_58 : decode prog_3_method_6_code 58 = .ok (.goto (-43), 3) := by decide +kernel
theorem d_Log_hash_61 : decode prog_3_method_6_code 61 = .ok (.lload_n 3, 1) := by decide +kernel
theorem d_Log_hash_62 : decode prog_3_method_6_code 62 = .ok (.lreturn, 1) := by decide +kernel
def b_Log_hash_27 (F : Nat) (k15 : Nat → Int64 → Int32 → PH → Option Int64) (k27 : Nat → Int64 → Int32 → Int32 → PH → Option Int64) (a0 : Nat) (i3 : Int64) (i5 : Int32) (i6 : Int32) (h : PH) : Option Int64 :=
  (if (3 : Int32) ≤ i6 then k15 a0 i3 (i5 + (1 : Int32)) h else bnd (cK h a0 0) fun _ => bnd (f_Log_valueAt a0 i5 i6 h) fun x2 => bnd (some (((31 : Int64) * i3) + (x2.toInt64))) fun y3 => k27 a0 y3 i5 (i6 + (1 : Int32)) h)
def f_Log_hash_27 (F : Nat) (k15 : Nat → Int64 → Int32 → PH → Option Int64) : Nat → Nat → Int64 → Int32 → Int32 → PH → Option Int64
  | 0 => fun _ _ _ _ _ => none
  | n + 1 => b_Log_hash_27 F k15 (f_Log_hash_27 F k15 n)
theorem g_Log_hash_27 {l : Launch} {E : ET} {d : Nat} (hd : 2 ≤ d) {F : Nat} {r : Int64} {h : PH} {x : Nat} {k15 : Nat → Int64 → Int32 → PH → Option Int64} (hk15 : ∀ (a0 : Nat) (i3 : Int64) (i5 : Int32), k15 a0 i3 i5 h = some r → Go l E m_Log_hash (rm d 0 0) (KM E 0 0 (PoE (some (.long r)) h x)) 0 0 h x 15 [(0, .ref a0), (3, .long i3), (5, .int i5)] []) {k27 : Nat → Int64 → Int32 → Int32 → PH → Option Int64} (hk27 : ∀ (a0 : Nat) (i3 : Int64) (i5 : Int32) (i6 : Int32), k27 a0 i3 i5 i6 h = some r → Go l E m_Log_hash (rm d 0 0) (KM E 0 0 (PoE (some (.long r)) h x)) 0 0 h x 27 [(0, .ref a0), (3, .long i3), (5, .int i5), (6, .int i6)] []) (a0 : Nat) (i3 : Int64) (i5 : Int32) (i6 : Int32) (hf : b_Log_hash_27 F k15 k27 a0 i3 i5 i6 h = some r) : Go l E m_Log_hash (rm d 0 0) (KM E 0 0 (PoE (some (.long r)) h x)) 0 0 h x 27 [(0, .ref a0), (3, .long i3), (5, .int i5), (6, .int i6)] [] := by
  unfold b_Log_hash_27 at hf
  refine go_iload 3 d_Log_hash_27 rfl ?_
  refine go_iconst (3 : Int32) d_Log_hash_29 (by decide) ?_
  refine go_icmp_ge 55 d_Log_hash_30 (by decide) (fun q4 => ?_) (fun q4 => ?_)
  · rw [if_pos q4] at hf
    refine go_iinc (lv' := [(5, .int (i5 + (1 : Int32))), (0, .ref a0), (3, .long i3), (6, .int i6)]) 2 (i5 + (1 : Int32)) d_Log_hash_55 rfl rfl rfl (by decide) ?_
    refine go_goto 15 d_Log_hash_58 (by decide) ?_
    refine go_sub (lv' := [(0, .ref a0), (3, .long i3), (5, .int (i5 + (1 : Int32)))]) [1, 2, 0] rfl ?_
    exact hk15 a0 i3 (i5 + (1 : Int32)) hf
  · rw [if_neg q4] at hf
    refine go_ldc2 (31 : Int64) d_Log_hash_33 kl_Log_26 ?_
    refine go_lload_n 1 d_Log_hash_36 rfl ?_
    refine go_lmul d_Log_hash_37 ?_
    refine go_aload_n 0 d_Log_hash_38 rfl ?_
    refine go_iload 2 d_Log_hash_39 rfl ?_
    refine go_iload 3 d_Log_hash_41 rfl ?_
    obtain ⟨_, e1, hf⟩ := bnd_x hf
    obtain ⟨x2, e_x2, hf⟩ := bnd_x hf
    refine go_callV_I (As := [.int i5, .int i6]) (st := [.long ((31 : Int64) * i3)]) (c_Log_valueAt (d := d - 1) (by omega) e_x2) lk_Log_28 rfl rfl e1 (by decide) rfl (rm_ok (by omega)) (Nat.le_of_ble_eq_true rfl) rm_c d_Log_hash_43 ?_
    refine go_i2l d_Log_hash_46 ?_
    refine go_ladd d_Log_hash_47 ?_
    obtain ⟨y3, e_y3, hf⟩ := bnd_x hf
    refine go_nmL e_y3 ?_
    refine go_lstore_n (lv' := [(3, .long y3), (0, .ref a0), (5, .int i5), (6, .int i6)]) d_Log_hash_48 rfl (by decide) ?_
    refine go_iinc (lv' := [(6, .int (i6 + (1 : Int32))), (3, .long y3), (0, .ref a0), (5, .int i5)]) 3 (i6 + (1 : Int32)) d_Log_hash_49 rfl rfl rfl (by decide) ?_
    refine go_goto 27 d_Log_hash_52 (by decide) ?_
    refine go_sub (lv' := [(0, .ref a0), (3, .long y3), (5, .int i5), (6, .int (i6 + (1 : Int32)))]) [2, 1, 3, 0] rfl ?_
    exact hk27 a0 y3 i5 (i6 + (1 : Int32)) hf
theorem t_Log_hash_27 {l : Launch} {E : ET} {d : Nat} (hd : 2 ≤ d) {F : Nat} {r : Int64} {h : PH} {x : Nat} {k15 : Nat → Int64 → Int32 → PH → Option Int64} (hk15 : ∀ (a0 : Nat) (i3 : Int64) (i5 : Int32), k15 a0 i3 i5 h = some r → Go l E m_Log_hash (rm d 0 0) (KM E 0 0 (PoE (some (.long r)) h x)) 0 0 h x 15 [(0, .ref a0), (3, .long i3), (5, .int i5)] []) : ∀ (n : Nat) (a0 : Nat) (i3 : Int64) (i5 : Int32) (i6 : Int32), f_Log_hash_27 F k15 n a0 i3 i5 i6 h = some r → Go l E m_Log_hash (rm d 0 0) (KM E 0 0 (PoE (some (.long r)) h x)) 0 0 h x 27 [(0, .ref a0), (3, .long i3), (5, .int i5), (6, .int i6)] [] := by
  intro n
  induction n with
  | zero => intro v0 v1 v2 v3 hf; cases hf
  | succ n ih => intro v0 v1 v2 v3 hf; exact g_Log_hash_27 hd hk15 ih v0 v1 v2 v3 hf
def b_Log_hash_15 (F : Nat) (k15 : Nat → Int64 → Int32 → PH → Option Int64) (a0 : Nat) (i3 : Int64) (i5 : Int32) (h : PH) : Option Int64 :=
  bnd (gI h a0 0 2) fun x1 => (if x1 ≤ i5 then some i3 else f_Log_hash_27 F k15 F a0 i3 i5 (0 : Int32) h)
def f_Log_hash_15 (F : Nat) : Nat → Nat → Int64 → Int32 → PH → Option Int64
  | 0 => fun _ _ _ _ => none
  | n + 1 => b_Log_hash_15 F (f_Log_hash_15 F n)
theorem g_Log_hash_15 {l : Launch} {E : ET} {d : Nat} (hd : 2 ≤ d) {F : Nat} {r : Int64} {h : PH} {x : Nat} {k15 : Nat → Int64 → Int32 → PH → Option Int64} (hk15 : ∀ (a0 : Nat) (i3 : Int64) (i5 : Int32), k15 a0 i3 i5 h = some r → Go l E m_Log_hash (rm d 0 0) (KM E 0 0 (PoE (some (.long r)) h x)) 0 0 h x 15 [(0, .ref a0), (3, .long i3), (5, .int i5)] []) (a0 : Nat) (i3 : Int64) (i5 : Int32) (hf : b_Log_hash_15 F k15 a0 i3 i5 h = some r) : Go l E m_Log_hash (rm d 0 0) (KM E 0 0 (PoE (some (.long r)) h x)) 0 0 h x 15 [(0, .ref a0), (3, .long i3), (5, .int i5)] [] := by
  unfold b_Log_hash_15 at hf
  refine go_iload 2 d_Log_hash_15 rfl ?_
  refine go_aload_n 0 d_Log_hash_17 rfl ?_
  obtain ⟨x1, e_x1, hf⟩ := bnd_x hf
  refine go_get d_Log_hash_18 (gI_x e_x1) fl_Log_17 ?_
  refine go_icmp_ge 61 d_Log_hash_21 (by decide) (fun q2 => ?_) (fun q2 => ?_)
  · rw [if_pos q2] at hf
    refine go_lload_n 1 d_Log_hash_61 rfl ?_
    have e9 := Option.some.inj hf
    subst e9
    exact go_lret d_Log_hash_62 rfl ⟨rfl, rfl, rfl⟩
  · rw [if_neg q2] at hf
    refine go_iconst (0 : Int32) d_Log_hash_24 (by decide) ?_
    refine go_istore (lv' := [(6, .int (0 : Int32)), (0, .ref a0), (3, .long i3), (5, .int i5)]) d_Log_hash_25 rfl (by decide) ?_
    refine go_sub (lv' := [(0, .ref a0), (3, .long i3), (5, .int i5), (6, .int (0 : Int32))]) [1, 2, 3, 0] rfl ?_
    exact t_Log_hash_27 hd hk15 _ a0 i3 i5 (0 : Int32)  hf
theorem t_Log_hash_15 {l : Launch} {E : ET} {d : Nat} (hd : 2 ≤ d) {F : Nat} {r : Int64} {h : PH} {x : Nat}  : ∀ (n : Nat) (a0 : Nat) (i3 : Int64) (i5 : Int32), f_Log_hash_15 F n a0 i3 i5 h = some r → Go l E m_Log_hash (rm d 0 0) (KM E 0 0 (PoE (some (.long r)) h x)) 0 0 h x 15 [(0, .ref a0), (3, .long i3), (5, .int i5)] [] := by
  intro n
  induction n with
  | zero => intro v0 v1 v2 hf; cases hf
  | succ n ih => intro v0 v1 v2 hf; exact g_Log_hash_15 hd ih v0 v1 v2 hf
def f_Log_hash (F : Nat) (a0 : Nat) (i1 : Int64) (h : PH) : Option Int64 :=
  bnd (gI h a0 0 2) fun x1 => bnd (some (((31 : Int64) * i1) + (x1.toInt64))) fun y2 => f_Log_hash_15 F F a0 y2 (0 : Int32) h
theorem g_Log_hash_0 {l : Launch} {E : ET} {d : Nat} (hd : 2 ≤ d) {F : Nat} {r : Int64} {h : PH} {x : Nat}  (a0 : Nat) (i1 : Int64) (hf : f_Log_hash F a0 i1 h = some r) : Go l E m_Log_hash (rm d 0 0) (KM E 0 0 (PoE (some (.long r)) h x)) 0 0 h x 0 [(0, .ref a0), (1, .long i1)] [] := by
  unfold f_Log_hash at hf
  refine go_ldc2 (31 : Int64) d_Log_hash_0 kl_Log_26 ?_
  refine go_lload_n 1 d_Log_hash_3 rfl ?_
  refine go_lmul d_Log_hash_4 ?_
  refine go_aload_n 0 d_Log_hash_5 rfl ?_
  obtain ⟨x1, e_x1, hf⟩ := bnd_x hf
  refine go_get d_Log_hash_6 (gI_x e_x1) fl_Log_17 ?_
  refine go_i2l d_Log_hash_9 ?_
  refine go_ladd d_Log_hash_10 ?_
  obtain ⟨y2, e_y2, hf⟩ := bnd_x hf
  refine go_nmL e_y2 ?_
  refine go_lstore_n (lv' := [(3, .long y2), (0, .ref a0), (1, .long i1)]) d_Log_hash_11 rfl (by decide) ?_
  refine go_iconst (0 : Int32) d_Log_hash_12 (by decide) ?_
  refine go_istore (lv' := [(5, .int (0 : Int32)), (3, .long y2), (0, .ref a0), (1, .long i1)]) d_Log_hash_13 rfl (by decide) ?_
  refine go_sub (lv' := [(0, .ref a0), (3, .long y2), (5, .int (0 : Int32))]) [2, 1, 0] rfl ?_
  exact t_Log_hash_15 hd  _ a0 y2 (0 : Int32)  hf
theorem c_Log_hash {l : Launch} {E : ET} {d : Nat} (hd : 2 ≤ d) {F : Nat} {r : Int64} {h : PH} {x : Nat} {a0 : Nat} {i1 : Int64} (hf : f_Log_hash F a0 i1 h = some r) : Fn l E m_Log_hash d 0 0 [.ref a0, .long i1] h x (PoE (some (.long r)) h x) :=
  Fn.of (by decide +kernel) (Nat.le_of_ble_eq_true rfl) (g_Log_hash_0 hd a0 i1 hf)
theorem d_Rul_wipe_0 : decode prog_7_method_2_code 0 = .ok (.aload_n 0, 1) := by decide +kernel
theorem d_Rul_wipe_1 : decode prog_7_method_2_code 1 = .ok (.iconst 0, 1) := by decide +kernel
theorem d_Rul_wipe_2 : decode prog_7_method_2_code 2 = .ok (.putfield 37, 3) := by decide +kernel
theorem d_Rul_wipe_5 : decode prog_7_method_2_code 5 = .ok (.iconst 0, 1) := by decide +kernel
theorem d_Rul_wipe_6 : decode prog_7_method_2_code 6 = .ok (.istore_n 1, 1) := by decide +kernel
theorem d_Rul_wipe_7 : decode prog_7_method_2_code 7 = .ok (.iload_n 1, 1) := by decide +kernel
theorem d_Rul_wipe_8 : decode prog_7_method_2_code 8 = .ok (.bipush 36, 2) := by decide +kernel
theorem d_Rul_wipe_10 : decode prog_7_method_2_code 10 = .ok (.if_icmp .ge 19, 3) := by decide +kernel
theorem d_Rul_wipe_13 : decode prog_7_method_2_code 13 = .ok (.aload_n 0, 1) := by decide +kernel
theorem d_Rul_wipe_14 : decode prog_7_method_2_code 14 = .ok (.getfield 28, 3) := by decide +kernel
theorem d_Rul_wipe_17 : decode prog_7_method_2_code 17 = .ok (.iload_n 1, 1) := by decide +kernel
theorem d_Rul_wipe_18 : decode prog_7_method_2_code 18 = .ok (.iload_n 1, 1) := by decide +kernel
theorem d_Rul_wipe_19 : decode prog_7_method_2_code 19 = .ok (.invokestatic 31, 3) := by decide +kernel
theorem d_Rul_wipe_22 : decode prog_7_method_2_code 22 = .ok (.lastore, 1) := by decide +kernel
theorem d_Rul_wipe_23 : decode prog_7_method_2_code 23 = .ok (.iinc 1 1, 3) := by decide +kernel
theorem d_Rul_wipe_26 : decode prog_7_method_2_code 26 = .ok (.goto (-19), 3) := by decide +kernel
theorem d_Rul_wipe_29 : decode prog_7_method_2_code 29 = .ok (.return_, 1) := by decide +kernel
def b_Rul_wipe_7 (F : Nat) (k7 : Nat → Int32 → PH → Option PH) (a0 : Nat) (i1 : Int32) (h : PH) : Option PH :=
  (if (36 : Int32) ≤ i1 then some h else bnd (gR h a0 4 5) fun x1 => bnd (f_Grd_neighbours i1) fun x2 => bnd (sL h x1 i1 x2) fun h3 => k7 a0 (i1 + (1 : Int32)) h3)
def f_Rul_wipe_7 (F : Nat) : Nat → Nat → Int32 → PH → Option PH
  | 0 => fun _ _ _ => none
  | n + 1 => b_Rul_wipe_7 F (f_Rul_wipe_7 F n)
theorem g_Rul_wipe_7 {l : Launch} {E : ET} {d : Nat} (hd : 3 ≤ d) {F : Nat} {h9 : PH} {x : Nat} {k7 : Nat → Int32 → PH → Option PH} (hk7 : ∀ (a0 : Nat) (i1 : Int32) (hh : PH), k7 a0 i1 hh = some h9 → Go l E m_Rul_wipe (rm d 0 0) (KM E 0 0 (PoE none h9 x)) 0 0 hh x 7 [(0, .ref a0), (1, .int i1)] []) (a0 : Nat) (i1 : Int32) (h : PH) (hf : b_Rul_wipe_7 F k7 a0 i1 h = some h9) : Go l E m_Rul_wipe (rm d 0 0) (KM E 0 0 (PoE none h9 x)) 0 0 h x 7 [(0, .ref a0), (1, .int i1)] [] := by
  unfold b_Rul_wipe_7 at hf
  refine go_iload_n 1 d_Rul_wipe_7 rfl ?_
  refine go_bipush (36 : Int32) d_Rul_wipe_8 (by decide) ?_
  refine go_icmp_ge 29 d_Rul_wipe_10 (by decide) (fun q4 => ?_) (fun q4 => ?_)
  · rw [if_pos q4] at hf
    have e9 := Option.some.inj hf
    subst e9
    exact go_vret d_Rul_wipe_29 rfl ⟨rfl, rfl, rfl⟩
  · rw [if_neg q4] at hf
    refine go_aload_n 0 d_Rul_wipe_13 rfl ?_
    obtain ⟨x1, e_x1, hf⟩ := bnd_x hf
    refine go_get d_Rul_wipe_14 (gR_x e_x1) fl_Rul_28 ?_
    refine go_iload_n 1 d_Rul_wipe_17 rfl ?_
    refine go_iload_n 1 d_Rul_wipe_18 rfl ?_
    obtain ⟨x2, e_x2, hf⟩ := bnd_x hf
    refine go_callS_L (As := [.int i1]) (st := [.int i1, .ref x1]) (c_Grd_neighbours (d := d - 1) (by omega) e_x2) lk_Rul_31 rfl rfl (rm_ok (by omega)) (Nat.le_of_ble_eq_true rfl) rm_c d_Rul_wipe_19 ?_
    obtain ⟨h3, e_h3, hf⟩ := bnd_x hf
    refine go_lastore d_Rul_wipe_22 e_h3 ?_
    refine go_iinc (lv' := [(1, .int (i1 + (1 : Int32))), (0, .ref a0)]) 1 (i1 + (1 : Int32)) d_Rul_wipe_23 rfl rfl rfl (by decide) ?_
    refine go_goto 7 d_Rul_wipe_26 (by decide) ?_
    refine go_sub (lv' := [(0, .ref a0), (1, .int (i1 + (1 : Int32)))]) [1, 0] rfl ?_
    exact hk7 a0 (i1 + (1 : Int32)) h3 hf
theorem t_Rul_wipe_7 {l : Launch} {E : ET} {d : Nat} (hd : 3 ≤ d) {F : Nat} {h9 : PH} {x : Nat}  : ∀ (n : Nat) (a0 : Nat) (i1 : Int32) (hh : PH), f_Rul_wipe_7 F n a0 i1 hh = some h9 → Go l E m_Rul_wipe (rm d 0 0) (KM E 0 0 (PoE none h9 x)) 0 0 hh x 7 [(0, .ref a0), (1, .int i1)] [] := by
  intro n
  induction n with
  | zero => intro v0 v1 v2 hf; cases hf
  | succ n ih => intro v0 v1 v2 hf; exact g_Rul_wipe_7 hd ih v0 v1 v2 hf
def f_Rul_wipe (F : Nat) (a0 : Nat) (h : PH) : Option PH :=
  bnd (pV h a0 4 6 (.int (0 : Int32))) fun h1 => f_Rul_wipe_7 F F a0 (0 : Int32) h1
theorem g_Rul_wipe_0 {l : Launch} {E : ET} {d : Nat} (hd : 3 ≤ d) {F : Nat} {h9 : PH} {x : Nat}  (a0 : Nat) (h : PH) (hf : f_Rul_wipe F a0 h = some h9) : Go l E m_Rul_wipe (rm d 0 0) (KM E 0 0 (PoE none h9 x)) 0 0 h x 0 [(0, .ref a0)] [] := by
  unfold f_Rul_wipe at hf
  refine go_aload_n 0 d_Rul_wipe_0 rfl ?_
  refine go_iconst (0 : Int32) d_Rul_wipe_1 (by decide) ?_
  obtain ⟨h1, e_h1, hf⟩ := bnd_x hf
  refine go_putI d_Rul_wipe_2 e_h1 fl_Rul_37 rfl rfl ?_
  refine go_iconst (0 : Int32) d_Rul_wipe_5 (by decide) ?_
  refine go_istore_n (lv' := [(1, .int (0 : Int32)), (0, .ref a0)]) d_Rul_wipe_6 rfl (by decide) ?_
  refine go_sub (lv' := [(0, .ref a0), (1, .int (0 : Int32))]) [1, 0] rfl ?_
  exact t_Rul_wipe_7 hd  _ a0 (0 : Int32) h1 hf
theorem c_Rul_wipe {l : Launch} {E : ET} {d : Nat} (hd : 3 ≤ d) {F : Nat} {h9 : PH} {x : Nat} {a0 : Nat} {h : PH} (hf : f_Rul_wipe F a0 h = some h9) : Fn l E m_Rul_wipe d 0 0 [.ref a0] h x (PoE none h9 x) :=
  Fn.of (by decide +kernel) (Nat.le_of_ble_eq_true rfl) (g_Rul_wipe_0 hd a0 h hf)
theorem d_Rul_copyFrom_0 : decode prog_7_method_3_code 0 = .ok (.aload_n 0, 1) := by decide +kernel
theorem d_Rul_copyFrom_1 : decode prog_7_method_3_code 1 = .ok (.aload_n 1, 1) := by decide +kernel
theorem d_Rul_copyFrom_2 : decode prog_7_method_3_code 2 = .ok (.getfield 37, 3) := by decide +kernel
theorem d_Rul_copyFrom_5 : decode prog_7_method_3_code 5 = .ok (.putfield 37, 3) := by decide +kernel
theorem d_Rul_copyFrom_8 : decode prog_7_method_3_code 8 = .ok (.aload_n 1, 1) := by decide +kernel
theorem d_Rul_copyFrom_9 : decode prog_7_method_3_code 9 = .ok (.getfield 9, 3) := by decide +kernel
theorem d_Rul_copyFrom_12 : decode prog_7_method_3_code 12 = .ok (.iconst 0, 1) := by decide +kernel
theorem d_Rul_copyFrom_13 : decode prog_7_method_3_code 13 = .ok (.aload_n 0, 1) := by decide +kernel
theorem d_Rul_copyFrom_14 : decode prog_7_method_3_code 14 = .ok (.getfield 9, 3) := by decide +kernel
theorem d_Rul_copyFrom_17 : decode prog_7_method_3_code 17 = .ok (.iconst 0, 1) := by decide +kernel
theorem d_Rul_copyFrom_18 : decode prog_7_method_3_code 18 = .ok (.bipush 8, 2) := by decide +kernel
theorem d_Rul_copyFrom_20 : decode prog_7_method_3_code 20 = .ok (.invokestatic 41, 3) := by decide +kernel
theorem d_Rul_copyFrom_23 : decode prog_7_method_3_code 23 = .ok (.aload_n 1, 1) := by decide +kernel
theorem d_Rul_copyFrom_24 : decode prog_7_method_3_code 24 = .ok (.getfield 15, 3) := by decide +kernel
theorem d_Rul_copyFrom_27 : decode prog_7_method_3_code 27 = .ok (.iconst 0, 1) := by decide +kernel
theorem d_Rul_copyFrom_28 : decode prog_7_method_3_code 28 = .ok (.aload_n 0, 1) := by decide +kernel
theorem d_Rul_copyFrom_29 : decode prog_7_method_3_code 29 = .ok (.getfield 15, 3) := by decide +kernel
theorem d_Rul_copyFrom_32 : decode prog_7_method_3_code 32 = .ok (.iconst 0, 1) := by decide +kernel
theorem d_Rul_copyFrom_33 : decode prog_7_method_3_code 33 = .ok (.bipush 8, 2) := by decide +kernel
theorem d_Rul_copyFrom_35 : decode prog_7_method_3_code 35 = .ok (.invokestatic 41, 3) := by decide +kernel
theorem d_Rul_copyFrom_38 : decode prog_7_method_3_code 38 = .ok (.aload_n 1, 1) := by decide +kernel
theorem d_Rul_copyFrom_39 : decode prog_7_method_3_code 39 = .ok (.getfield 18, 3) := by decide +kernel
theorem d_Rul_copyFrom_42 : decode prog_7_method_3_code 42 = .ok (.iconst 0, 1) := by decide +kernel
theorem d_Rul_copyFrom_43 : decode prog_7_method_3_code 43 = .ok (.aload_n 0, 1) := by decide +kernel
theorem d_Rul_copyFrom_44 : decode prog_7_method_3_code 44 = .ok (.getfield 18, 3) := by decide +kernel
theorem d_Rul_copyFrom_47 : decode prog_7_method_3_code 47 = .ok (.iconst 0, 1) := by decide +kernel
theorem d_Rul_copyFrom_48 : decode prog_7_method_3_code 48 = .ok (.bipush 8, 2) := by decide +kernel
theorem d_Rul_copyFrom_50 : decode prog_7_method_3_code 50 = .ok (.invokestatic 41, 3) := by decide +kernel
theorem d_Rul_copyFrom_53 : decode prog_7_method_3_code 53 = .ok (.aload_n 1, 1) := by decide +kernel
theorem d_Rul_copyFrom_54 : decode prog_7_method_3_code 54 = .ok (.getfield 21, 3) := by decide +kernel
theorem d_Rul_copyFrom_57 : decode prog_7_method_3_code 57 = .ok (.iconst 0, 1) := by decide +kernel
theorem d_Rul_copyFrom_58 : decode prog_7_method_3_code 58 = .ok (.aload_n 0, 1) := by decide +kernel
theorem d_Rul_copyFrom_59 : decode prog_7_method_3_code 59 = .ok (.getfield 21, 3) := by decide +kernel
theorem d_Rul_copyFrom_62 : decode prog_7_method_3_code 62 = .ok (.iconst 0, 1) := by decide +kernel
theorem d_Rul_copyFrom_63 : decode prog_7_method_3_code 63 = .ok (.bipush 48, 2) := by decide +kernel
theorem d_Rul_copyFrom_65 : decode prog_7_method_3_code 65 = .ok (.invokestatic 41, 3) := by decide +kernel
theorem d_Rul_copyFrom_68 : decode prog_7_method_3_code 68 = .ok (.aload_n 1, 1) := by decide +kernel
theorem d_Rul_copyFrom_69 : decode prog_7_method_3_code 69 = .ok (.getfield 24, 3) := by decide +kernel
theorem d_Rul_copyFrom_72 : decode prog_7_method_3_code 72 = .ok (.iconst 0, 1) := by decide +kernel
theorem d_Rul_copyFrom_73 : decode prog_7_method_3_code 73 = .ok (.aload_n 0, 1) := by decide +kernel
theorem d_Rul_copyFrom_74 : decode prog_7_method_3_code 74 = .ok (.getfield 24, 3) := by decide +kernel
theorem d_Rul_copyFrom_77 : decode prog_7_method_3_code 77 = .ok (.iconst 0, 1) := by decide +kernel
theorem d_Rul_copyFrom_78 : decode prog_7_method_3_code 78 = .ok (.bipush 8, 2) := by decide +kernel
theorem d_Rul_copyFrom_80 : decode prog_7_method_3_code 80 = .ok (.invokestatic 41, 3) := by decide +kernel
theorem d_Rul_copyFrom_83 : decode prog_7_method_3_code 83 = .ok (.aload_n 1, 1) := by decide +kernel
theorem d_Rul_copyFrom_84 : decode prog_7_method_3_code 84 = .ok (.getfield 28, 3) := by decide +kernel
theorem d_Rul_copyFrom_87 : decode prog_7_method_3_code 87 = .ok (.iconst 0, 1) := by decide +kernel
theorem d_Rul_copyFrom_88 : decode prog_7_method_3_code 88 = .ok (.aload_n 0, 1) := by decide +kernel
theorem d_Rul_copyFrom_89 : decode prog_7_method_3_code 89 = .ok (.getfield 28, 3) := by decide +kernel
theorem d_Rul_copyFrom_92 : decode prog_7_method_3_code 92 = .ok (.iconst 0, 1) := by decide +kernel
theorem d_Rul_copyFrom_93 : decode prog_7_method_3_code 93 = .ok (.bipush 36, 2) := by decide +kernel
theorem d_Rul_copyFrom_95 : decode prog_7_method_3_code 95 = .ok (.invokestatic 41, 3) := by decide +kernel
theorem d_Rul_copyFrom_98 : decode prog_7_method_3_code 98 = .ok (.return_, 1) := by decide +kernel
def f_Rul_copyFrom (a0 : Nat) (a1 : Nat) (h : PH) : Option PH :=
  bnd (gI h a1 4 6) fun x1 => bnd (pV h a0 4 6 (.int x1)) fun h2 => bnd (gR h2 a1 4 0) fun x3 => bnd (gR h2 a0 4 0) fun x4 => bnd (cpI h2 x3 (0 : Int32) x4 (0 : Int32) (8 : Int32)) fun h5 => bnd (gR h5 a1 4 1) fun x6 => bnd (gR h5 a0 4 1) fun x7 => bnd (cpI h5 x6 (0 : Int32) x7 (0 : Int32) (8 : Int32)) fun h8 => bnd (gR h8 a1 4 2) fun x9 => bnd (gR h8 a0 4 2) fun x10 => bnd (cpI h8 x9 (0 : Int32) x10 (0 : Int32) (8 : Int32)) fun h11 => bnd (gR h11 a1 4 3) fun x12 => bnd (gR h11 a0 4 3) fun x13 => bnd (cpI h11 x12 (0 : Int32) x13 (0 : Int32) (48 : Int32)) fun h14 => bnd (gR h14 a1 4 4) fun x15 => bnd (gR h14 a0 4 4) fun x16 => bnd (cpL h14 x15 (0 : Int32) x16 (0 : Int32) (8 : Int32)) fun h17 => bnd (gR h17 a1 4 5) fun x18 => bnd (gR h17 a0 4 5) fun x19 => bnd (cpL h17 x18 (0 : Int32) x19 (0 : Int32) (36 : Int32)) fun h20 => some h20
theorem g_Rul_copyFrom_0 {l : Launch} {E : ET} {d : Nat} (hd : 2 ≤ d) {h9 : PH} {x : Nat}  (a0 : Nat) (a1 : Nat) (h : PH) (hf : f_Rul_copyFrom a0 a1 h = some h9) : Go l E m_Rul_copyFrom (rm d 0 0) (KM E 0 0 (PoE none h9 x)) 0 0 h x 0 [(0, .ref a0), (1, .ref a1)] [] := by
  unfold f_Rul_copyFrom at hf
  refine go_aload_n 0 d_Rul_copyFrom_0 rfl ?_
  refine go_aload_n 1 d_Rul_copyFrom_1 rfl ?_
  obtain ⟨x1, e_x1, hf⟩ := bnd_x hf
  refine go_get d_Rul_copyFrom_2 (gI_x e_x1) fl_Rul_37 ?_
  obtain ⟨h2, e_h2, hf⟩ := bnd_x hf
  refine go_putI d_Rul_copyFrom_5 e_h2 fl_Rul_37 rfl rfl ?_
  refine go_aload_n 1 d_Rul_copyFrom_8 rfl ?_
  obtain ⟨x3, e_x3, hf⟩ := bnd_x hf
  refine go_get d_Rul_copyFrom_9 (gR_x e_x3) fl_Rul_9 ?_
  refine go_iconst (0 : Int32) d_Rul_copyFrom_12 (by decide) ?_
  refine go_aload_n 0 d_Rul_copyFrom_13 rfl ?_
  obtain ⟨x4, e_x4, hf⟩ := bnd_x hf
  refine go_get d_Rul_copyFrom_14 (gR_x e_x4) fl_Rul_9 ?_
  refine go_iconst (0 : Int32) d_Rul_copyFrom_17 (by decide) ?_
  refine go_bipush (8 : Int32) d_Rul_copyFrom_18 (by decide) ?_
  obtain ⟨h5, e_h5, hf⟩ := bnd_x hf
  refine go_copyI d_Rul_copyFrom_20 e_h5 cl_Rul_41 (rm_n (by omega)) (Nat.le_of_ble_eq_true rfl) ?_
  refine go_aload_n 1 d_Rul_copyFrom_23 rfl ?_
  obtain ⟨x6, e_x6, hf⟩ := bnd_x hf
  refine go_get d_Rul_copyFrom_24 (gR_x e_x6) fl_Rul_15 ?_
  refine go_iconst (0 : Int32) d_Rul_copyFrom_27 (by decide) ?_
  refine go_aload_n 0 d_Rul_copyFrom_28 rfl ?_
  obtain ⟨x7, e_x7, hf⟩ := bnd_x hf
  refine go_get d_Rul_copyFrom_29 (gR_x e_x7) fl_Rul_15 ?_
  refine go_iconst (0 : Int32) d_Rul_copyFrom_32 (by decide) ?_
  refine go_bipush (8 : Int32) d_Rul_copyFrom_33 (by decide) ?_
  obtain ⟨h8, e_h8, hf⟩ := bnd_x hf
  refine go_copyI d_Rul_copyFrom_35 e_h8 cl_Rul_41 (rm_n (by omega)) (Nat.le_of_ble_eq_true rfl) ?_
  refine go_aload_n 1 d_Rul_copyFrom_38 rfl ?_
  obtain ⟨x9, e_x9, hf⟩ := bnd_x hf
  refine go_get d_Rul_copyFrom_39 (gR_x e_x9) fl_Rul_18 ?_
  refine go_iconst (0 : Int32) d_Rul_copyFrom_42 (by decide) ?_
  refine go_aload_n 0 d_Rul_copyFrom_43 rfl ?_
  obtain ⟨x10, e_x10, hf⟩ := bnd_x hf
  refine go_get d_Rul_copyFrom_44 (gR_x e_x10) fl_Rul_18 ?_
  refine go_iconst (0 : Int32) d_Rul_copyFrom_47 (by decide) ?_
  refine go_bipush (8 : Int32) d_Rul_copyFrom_48 (by decide) ?_
  obtain ⟨h11, e_h11, hf⟩ := bnd_x hf
  refine go_copyI d_Rul_copyFrom_50 e_h11 cl_Rul_41 (rm_n (by omega)) (Nat.le_of_ble_eq_true rfl) ?_
  refine go_aload_n 1 d_Rul_copyFrom_53 rfl ?_
  obtain ⟨x12, e_x12, hf⟩ := bnd_x hf
  refine go_get d_Rul_copyFrom_54 (gR_x e_x12) fl_Rul_21 ?_
  refine go_iconst (0 : Int32) d_Rul_copyFrom_57 (by decide) ?_
  refine go_aload_n 0 d_Rul_copyFrom_58 rfl ?_
  obtain ⟨x13, e_x13, hf⟩ := bnd_x hf
  refine go_get d_Rul_copyFrom_59 (gR_x e_x13) fl_Rul_21 ?_
  refine go_iconst (0 : Int32) d_Rul_copyFrom_62 (by decide) ?_
  refine go_bipush (48 : Int32) d_Rul_copyFrom_63 (by decide) ?_
  obtain ⟨h14, e_h14, hf⟩ := bnd_x hf
  refine go_copyI d_Rul_copyFrom_65 e_h14 cl_Rul_41 (rm_n (by omega)) (Nat.le_of_ble_eq_true rfl) ?_
  refine go_aload_n 1 d_Rul_copyFrom_68 rfl ?_
  obtain ⟨x15, e_x15, hf⟩ := bnd_x hf
  refine go_get d_Rul_copyFrom_69 (gR_x e_x15) fl_Rul_24 ?_
  refine go_iconst (0 : Int32) d_Rul_copyFrom_72 (by decide) ?_
  refine go_aload_n 0 d_Rul_copyFrom_73 rfl ?_
  obtain ⟨x16, e_x16, hf⟩ := bnd_x hf
  refine go_get d_Rul_copyFrom_74 (gR_x e_x16) fl_Rul_24 ?_
  refine go_iconst (0 : Int32) d_Rul_copyFrom_77 (by decide) ?_
  refine go_bipush (8 : Int32) d_Rul_copyFrom_78 (by decide) ?_
  obtain ⟨h17, e_h17, hf⟩ := bnd_x hf
  refine go_copyL d_Rul_copyFrom_80 e_h17 cl_Rul_41 (rm_n (by omega)) (Nat.le_of_ble_eq_true rfl) ?_
  refine go_aload_n 1 d_Rul_copyFrom_83 rfl ?_
  obtain ⟨x18, e_x18, hf⟩ := bnd_x hf
  refine go_get d_Rul_copyFrom_84 (gR_x e_x18) fl_Rul_28 ?_
  refine go_iconst (0 : Int32) d_Rul_copyFrom_87 (by decide) ?_
  refine go_aload_n 0 d_Rul_copyFrom_88 rfl ?_
  obtain ⟨x19, e_x19, hf⟩ := bnd_x hf
  refine go_get d_Rul_copyFrom_89 (gR_x e_x19) fl_Rul_28 ?_
  refine go_iconst (0 : Int32) d_Rul_copyFrom_92 (by decide) ?_
  refine go_bipush (36 : Int32) d_Rul_copyFrom_93 (by decide) ?_
  obtain ⟨h20, e_h20, hf⟩ := bnd_x hf
  refine go_copyL d_Rul_copyFrom_95 e_h20 cl_Rul_41 (rm_n (by omega)) (Nat.le_of_ble_eq_true rfl) ?_
  have e9 := Option.some.inj hf
  subst e9
  exact go_vret d_Rul_copyFrom_98 rfl ⟨rfl, rfl, rfl⟩
theorem c_Rul_copyFrom {l : Launch} {E : ET} {d : Nat} (hd : 2 ≤ d) {h9 : PH} {x : Nat} {a0 : Nat} {a1 : Nat} {h : PH} (hf : f_Rul_copyFrom a0 a1 h = some h9) : Fn l E m_Rul_copyFrom d 0 0 [.ref a0, .ref a1] h x (PoE none h9 x) :=
  Fn.of (by decide +kernel) (Nat.le_of_ble_eq_true rfl) (g_Rul_copyFrom_0 hd a0 a1 h hf)
theorem d_Rul_add_0 : decode prog_7_method_4_code 0 = .ok (.aload_n 0, 1) := by decide +kernel
theorem d_Rul_add_1 : decode prog_7_method_4_code 1 = .ok (.getfield 37, 3) := by decide +kernel
theorem d_Rul_add_4 : decode prog_7_method_4_code 4 = .ok (.bipush 8, 2) := by decide +kernel
theorem d_Rul_add_6 : decode prog_7_method_4_code 6 = .ok (.if_icmp .lt 5, 3) := by decide +kernel
theorem d_Rul_add_9 : decode prog_7_method_4_code 9 = .ok (.iconst (-1), 1) := by decide +kernel
theorem d_Rul_add_10 : decode prog_7_method_4_code 10 = .ok (.ireturn, 1) := by decide +kernel
theorem d_Rul_add_11 : decode prog_7_method_4_code 11 = .ok (.aload_n 0, 1) := by decide +kernel
theorem d_Rul_add_12 : decode prog_7_method_4_code 12 = .ok (.getfield 37, 3) := by decide +kernel
theorem d_Rul_add_15 : decode prog_7_method_4_code 15 = .ok (.istore_n 3, 1) := by decide +kernel
theorem d_Rul_add_16 : decode prog_7_method_4_code 16 = .ok (.aload_n 0, 1) := by decide +kernel
theorem d_Rul_add_17 : decode prog_7_method_4_code 17 = .ok (.getfield 9, 3) := by decide +kernel
theorem d_Rul_add_20 : decode prog_7_method_4_code 20 = .ok (.iload_n 3, 1) := by decide +kernel
theorem d_Rul_add_21 : decode prog_7_method_4_code 21 = .ok (.iload_n 1, 1) := by decide +kernel
theorem d_Rul_add_22 : decode prog_7_method_4_code 22 = .ok (.iastore, 1) := by decide +kernel
theorem d_Rul_add_23 : decode prog_7_method_4_code 23 = .ok (.aload_n 0, 1) := by decide +kernel
theorem d_Rul_add_24 : decode prog_7_method_4_code 24 = .ok (.getfield 15, 3) := by decide +kernel
theorem d_Rul_add_27 : decode prog_7_method_4_code 27 = .ok (.iload_n 3, 1) := by decide +kernel
theorem d_Rul_add_28 : decode prog_7_method_4_code 28 = .ok (.iload_n 2, 1) := by decide +kernel
theorem d_Rul_add_29 : decode prog_7_method_4_code 29 = .ok (.iastore, 1) := by decide +kernel
theorem d_Rul_add_30 : decode prog_7_method_4_code 30 = .ok (.aload_n 0, 1) := by decide +kernel
theorem d_Rul_add_31 : decode prog_7_method_4_code 31 = .ok (.getfield 18, 3) := by decide +kernel
theorem d_Rul_add_34 : decode prog_7_method_4_code 34 = .ok (.iload_n 3, 1) := by decide +kernel
theorem d_Rul_add_35 : decode prog_7_method_4_code 35 = .ok (.iconst 0, 1) := by decide +kernel
theorem d_Rul_add_36 : decode prog_7_method_4_code 36 = .ok (.iastore, 1) := by decide +kernel
theorem d_Rul_add_37 : decode prog_7_method_4_code 37 = .ok (.aload_n 0, 1) := by decide +kernel
theorem d_Rul_add_38 : decode prog_7_method_4_code 38 = .ok (.getfield 24, 3) := by decide +kernel
theorem d_Rul_add_41 : decode prog_7_method_4_code 41 = .ok (.iload_n 3, 1) := by decide +kernel
theorem d_Rul_add_42 : decode prog_7_method_4_code 42 = .ok (.lconst 0, 1) := by decide +kernel
theorem d_Rul_add_43 : decode prog_7_method_4_code 43 = .ok (.lastore, 1) := by decide +kernel
theorem d_Rul_add_44 : decode prog_7_method_4_code 44 = .ok (.aload_n 0, 1) := by decide +kernel
theorem d_Rul_add_45 : decode prog_7_method_4_code 45 = .ok (.dup, 1) := by decide +kernel
theorem d_Rul_add_46 : decode prog_7_method_4_code 46 = .ok (.getfield 37, 3) := by decide +kernel
theorem d_Rul_add_49 : decode prog_7_method_4_code 49 = .ok (.iconst 1, 1) := by decide +kernel
theorem d_Rul_add_50 : decode prog_7_method_4_code 50 = .ok (.iadd, 1) := by decide +kernel
theorem d_Rul_add_51 : decode prog_7_method_4_code 51 = .ok (.putfield 37, 3) := by decide +kernel
theorem d_Rul_add_54 : decode prog_7_method_4_code 54 = .ok (.iload_n 3, 1) := by decide +kernel
theorem d_Rul_add_55 : decode prog_7_method_4_code 55 = .ok (.ireturn, 1) := by decide +kernel
def f_Rul_add (a0 : Nat) (i1 : Int32) (i2 : Int32) (h : PH) : Option (Int32 × PH) :=
  bnd (gI h a0 4 6) fun x1 => (if x1 < (8 : Int32) then bnd (gI h a0 4 6) fun x2 => bnd (gR h a0 4 0) fun x3 => bnd (sI h x3 x2 i1) fun h4 => bnd (gR h4 a0 4 1) fun x5 => bnd (sI h4 x5 x2 i2) fun h6 => bnd (gR h6 a0 4 2) fun x7 => bnd (sI h6 x7 x2 (0 : Int32)) fun h8 => bnd (gR h8 a0 4 4) fun x9 => bnd (sL h8 x9 x2 (0 : Int64)) fun h10 => bnd (gI h10 a0 4 6) fun x11 => bnd (pV h10 a0 4 6 (.int (x11 + (1 : Int32)))) fun h12 => some (x2, h12) else some ((-1 : Int32), h))
theorem g_Rul_add_0 {l : Launch} {E : ET} {d : Nat} (hd : 1 ≤ d) {r : Int32} {h9 : PH} {x : Nat}  (a0 : Nat) (i1 : Int32) (i2 : Int32) (h : PH) (hf : f_Rul_add a0 i1 i2 h = some (r, h9)) : Go l E m_Rul_add (rm d 0 0) (KM E 0 0 (PoE (some (.int r)) h9 x)) 0 0 h x 0 [(0, .ref a0), (1, .int i1), (2, .int i2)] [] := by
  unfold f_Rul_add at hf
  refine go_aload_n 0 d_Rul_add_0 rfl ?_
  obtain ⟨x1, e_x1, hf⟩ := bnd_x hf
  refine go_get d_Rul_add_1 (gI_x e_x1) fl_Rul_37 ?_
  refine go_bipush (8 : Int32) d_Rul_add_4 (by decide) ?_
  refine go_icmp_lt 11 d_Rul_add_6 (by decide) (fun q13 => ?_) (fun q13 => ?_)
  · rw [if_pos q13] at hf
    refine go_aload_n 0 d_Rul_add_11 rfl ?_
    obtain ⟨x2, e_x2, hf⟩ := bnd_x hf
    refine go_get d_Rul_add_12 (gI_x e_x2) fl_Rul_37 ?_
    refine go_istore_n (lv' := [(3, .int x2), (0, .ref a0), (1, .int i1), (2, .int i2)]) d_Rul_add_15 rfl (by decide) ?_
    refine go_aload_n 1 d_Rul_add_16 rfl ?_
    obtain ⟨x3, e_x3, hf⟩ := bnd_x hf
    refine go_get d_Rul_add_17 (gR_x e_x3) fl_Rul_9 ?_
    refine go_iload_n 0 d_Rul_add_20 rfl ?_
    refine go_iload_n 2 d_Rul_add_21 rfl ?_
    obtain ⟨h4, e_h4, hf⟩ := bnd_x hf
    refine go_iastore d_Rul_add_22 e_h4 ?_
    refine go_aload_n 1 d_Rul_add_23 rfl ?_
    obtain ⟨x5, e_x5, hf⟩ := bnd_x hf
    refine go_get d_Rul_add_24 (gR_x e_x5) fl_Rul_15 ?_
    refine go_iload_n 0 d_Rul_add_27 rfl ?_
    refine go_iload_n 3 d_Rul_add_28 rfl ?_
    obtain ⟨h6, e_h6, hf⟩ := bnd_x hf
    refine go_iastore d_Rul_add_29 e_h6 ?_
    refine go_aload_n 1 d_Rul_add_30 rfl ?_
    obtain ⟨x7, e_x7, hf⟩ := bnd_x hf
    refine go_get d_Rul_add_31 (gR_x e_x7) fl_Rul_18 ?_
    refine go_iload_n 0 d_Rul_add_34 rfl ?_
    refine go_iconst (0 : Int32) d_Rul_add_35 (by decide) ?_
    obtain ⟨h8, e_h8, hf⟩ := bnd_x hf
    refine go_iastore d_Rul_add_36 e_h8 ?_
    refine go_aload_n 1 d_Rul_add_37 rfl ?_
    obtain ⟨x9, e_x9, hf⟩ := bnd_x hf
    refine go_get d_Rul_add_38 (gR_x e_x9) fl_Rul_24 ?_
    refine go_iload_n 0 d_Rul_add_41 rfl ?_
    refine go_lconst (0 : Int64) d_Rul_add_42 (by decide) ?_
    obtain ⟨h10, e_h10, hf⟩ := bnd_x hf
    refine go_lastore d_Rul_add_43 e_h10 ?_
    refine go_aload_n 1 d_Rul_add_44 rfl ?_
    refine go_dup d_Rul_add_45 rfl ?_
    obtain ⟨x11, e_x11, hf⟩ := bnd_x hf
    refine go_get d_Rul_add_46 (gI_x e_x11) fl_Rul_37 ?_
    refine go_iconst (1 : Int32) d_Rul_add_49 (by decide) ?_
    refine go_iadd d_Rul_add_50 ?_
    obtain ⟨h12, e_h12, hf⟩ := bnd_x hf
    refine go_putI d_Rul_add_51 e_h12 fl_Rul_37 rfl rfl ?_
    refine go_iload_n 0 d_Rul_add_54 rfl ?_
    obtain ⟨e8, e9⟩ := Prod.mk.inj (Option.some.inj hf)
    subst e8; subst e9
    exact go_iret d_Rul_add_55 rfl ⟨rfl, rfl, rfl⟩
  · rw [if_neg q13] at hf
    refine go_iconst (-1 : Int32) d_Rul_add_9 (by decide) ?_
    obtain ⟨e8, e9⟩ := Prod.mk.inj (Option.some.inj hf)
    subst e8; subst e9
    exact go_iret d_Rul_add_10 rfl ⟨rfl, rfl, rfl⟩
theorem c_Rul_add {l : Launch} {E : ET} {d : Nat} (hd : 1 ≤ d) {r : Int32} {h9 : PH} {x : Nat} {a0 : Nat} {i1 : Int32} {i2 : Int32} {h : PH} (hf : f_Rul_add a0 i1 i2 h = some (r, h9)) : Fn l E m_Rul_add d 0 0 [.ref a0, .int i1, .int i2] h x (PoE (some (.int r)) h9 x) :=
  Fn.of (by decide +kernel) (Nat.le_of_ble_eq_true rfl) (g_Rul_add_0 hd a0 i1 i2 h hf)
theorem d_Rul_isFull_0 : decode prog_7_method_7_code 0 = .ok (.aload_n 0, 1) := by decide +kernel
theorem d_Rul_isFull_1 : decode prog_7_method_7_code 1 = .ok (.getfield 18, 3) := by decide +kernel
theorem d_Rul_isFull_4 : decode prog_7_method_7_code 4 = .ok (.iload_n 1, 1) := by decide +kernel
theorem d_Rul_isFull_5 : decode prog_7_method_7_code 5 = .ok (.iaload, 1) := by decide +kernel
theorem d_Rul_isFull_6 : decode prog_7_method_7_code 6 = .ok (.aload_n 0, 1) := by decide +kernel
theorem d_Rul_isFull_7 : decode prog_7_method_7_code 7 = .ok (.getfield 9, 3) := by decide +kernel
theorem d_Rul_isFull_10 : decode prog_7_method_7_code 10 = .ok (.iload_n 1, 1) := by decide +kernel
theorem d_Rul_isFull_11 : decode prog_7_method_7_code 11 = .ok (.iaload, 1) := by decide +kernel
theorem d_Rul_isFull_12 : decode prog_7_method_7_code 12 = .ok (.iconst 2, 1) := by decide +kernel
theorem d_Rul_isFull_13 : decode prog_7_method_7_code 13 = .ok (.if_icmp .ne 8, 3) := by decide +kernel
theorem d_Rul_isFull_16 : decode prog_7_method_7_code 16 = .ok (.bipush 6, 2) := by decide +kernel
theorem d_Rul_isFull_18 : decode prog_7_method_7_code 18 = .ok (.goto 4, 3) := by decide +kernel
theorem d_Rul_isFull_21 : decode prog_7_method_7_code 21 = .ok (.iconst 4, 1) := by decide +kernel
theorem d_Rul_isFull_22 : decode prog_7_method_7_code 22 = .ok (.if_icmp .lt 7, 3) := by decide +kernel
theorem d_Rul_isFull_25 : decode prog_7_method_7_code 25 = .ok (.iconst 1, 1) := by decide +kernel
theorem d_Rul_isFull_26 : decode prog_7_method_7_code 26 = .ok (.goto 4, 3) := by decide +kernel
theorem d_Rul_isFull_29 : decode prog_7_method_7_code 29 = .ok (.iconst 0, 1) := by decide +kernel
theorem d_Rul_isFull_30 : decode prog_7_method_7_code 30 = .ok (.ireturn, 1) := by decide +kernel
def b_Rul_isFull_22 (s0 : Int32) (s1 : Int32) (h : PH) : Option Int32 :=
  (if s1 < s0 then some (0 : Int32) else some (1 : Int32))
theorem g_Rul_isFull_22 {l : Launch} {E : ET} {d : Nat} (hd : 1 ≤ d) {r : Int32} {h : PH} {x : Nat}  (s0 : Int32) (s1 : Int32) (hf : b_Rul_isFull_22 s0 s1 h = some r) : Go l E m_Rul_isFull (rm d 0 0) (KM E 0 0 (PoE (some (.int r)) h x)) 0 0 h x 22 [] [.int s0, .int s1] := by
  unfold b_Rul_isFull_22 at hf
  refine go_icmp_lt 29 d_Rul_isFull_22 (by decide) (fun q1 => ?_) (fun q1 => ?_)
  · rw [if_pos q1] at hf
    refine go_iconst (0 : Int32) d_Rul_isFull_29 (by decide) ?_
    have e9 := Option.some.inj hf
    subst e9
    exact go_zret d_Rul_isFull_30 rfl rfl ⟨rfl, rfl, rfl⟩
  · rw [if_neg q1] at hf
    refine go_iconst (1 : Int32) d_Rul_isFull_25 (by decide) ?_
    refine go_goto 30 d_Rul_isFull_26 (by decide) ?_
    have e9 := Option.some.inj hf
    subst e9
    exact go_zret d_Rul_isFull_30 rfl rfl ⟨rfl, rfl, rfl⟩
def f_Rul_isFull (a0 : Nat) (i1 : Int32) (h : PH) : Option Int32 :=
  bnd (gR h a0 4 2) fun x1 => bnd (aI h x1 i1) fun x2 => bnd (gR h a0 4 0) fun x3 => bnd (aI h x3 i1) fun x4 => (if x4 = (2 : Int32) then b_Rul_isFull_22 (6 : Int32) x2 h else b_Rul_isFull_22 (4 : Int32) x2 h)
theorem g_Rul_isFull_0 {l : Launch} {E : ET} {d : Nat} (hd : 1 ≤ d) {r : Int32} {h : PH} {x : Nat}  (a0 : Nat) (i1 : Int32) (hf : f_Rul_isFull a0 i1 h = some r) : Go l E m_Rul_isFull (rm d 0 0) (KM E 0 0 (PoE (some (.int r)) h x)) 0 0 h x 0 [(0, .ref a0), (1, .int i1)] [] := by
  unfold f_Rul_isFull at hf
  refine go_aload_n 0 d_Rul_isFull_0 rfl ?_
  obtain ⟨x1, e_x1, hf⟩ := bnd_x hf
  refine go_get d_Rul_isFull_1 (gR_x e_x1) fl_Rul_18 ?_
  refine go_iload_n 1 d_Rul_isFull_4 rfl ?_
  obtain ⟨x2, e_x2, hf⟩ := bnd_x hf
  refine go_iaload d_Rul_isFull_5 e_x2 ?_
  refine go_aload_n 0 d_Rul_isFull_6 rfl ?_
  obtain ⟨x3, e_x3, hf⟩ := bnd_x hf
  refine go_get d_Rul_isFull_7 (gR_x e_x3) fl_Rul_9 ?_
  refine go_iload_n 1 d_Rul_isFull_10 rfl ?_
  obtain ⟨x4, e_x4, hf⟩ := bnd_x hf
  refine go_iaload d_Rul_isFull_11 e_x4 ?_
  refine go_iconst (2 : Int32) d_Rul_isFull_12 (by decide) ?_
  refine go_icmp_ne 21 d_Rul_isFull_13 (by decide) (fun q5 => ?_) (fun q5 => ?_)
  · rw [if_neg q5] at hf
    refine go_iconst (4 : Int32) d_Rul_isFull_21 (by decide) ?_
    refine go_sub (lv' := []) [] rfl ?_
    exact g_Rul_isFull_22 hd  (4 : Int32) x2  hf
  · rw [if_pos q5] at hf
    refine go_bipush (6 : Int32) d_Rul_isFull_16 (by decide) ?_
    refine go_goto 22 d_Rul_isFull_18 (by decide) ?_
    refine go_sub (lv' := []) [] rfl ?_
    exact g_Rul_isFull_22 hd  (6 : Int32) x2  hf
theorem c_Rul_isFull {l : Launch} {E : ET} {d : Nat} (hd : 1 ≤ d) {r : Int32} {h : PH} {x : Nat} {a0 : Nat} {i1 : Int32} (hf : f_Rul_isFull a0 i1 h = some r) : Fn l E m_Rul_isFull d 0 0 [.ref a0, .int i1] h x (PoE (some (.int r)) h x) :=
  Fn.of (by decide +kernel) (Nat.le_of_ble_eq_true rfl) (g_Rul_isFull_0 hd a0 i1 hf)
theorem d_Rul_cellAt_0 : decode prog_7_method_8_code 0 = .ok (.aload_n 0, 1) := by decide +kernel
theorem d_Rul_cellAt_1 : decode prog_7_method_8_code 1 = .ok (.getfield 21, 3) := by decide +kernel
theorem d_Rul_cellAt_4 : decode prog_7_method_8_code 4 = .ok (.iload_n 1, 1) := by decide +kernel
theorem d_Rul_cellAt_5 : decode prog_7_method_8_code 5 = .ok (.bipush 6, 2) := by decide +kernel
theorem d_Rul_cellAt_7 : decode prog_7_method_8_code 7 = .ok (.imul, 1) := by decide +kernel
theorem d_Rul_cellAt_8 : decode prog_7_method_8_code 8 = .ok (.iload_n 2, 1) := by decide +kernel
theorem d_Rul_cellAt_9 : decode prog_7_method_8_code 9 = .ok (.iadd, 1) := by decide +kernel
theorem d_Rul_cellAt_10 : decode prog_7_method_8_code 10 = .ok (.iaload, 1) := by decide +kernel
theorem d_Rul_cellAt_11 : decode prog_7_method_8_code 11 = .ok (.ireturn, 1) := by decide +kernel
def f_Rul_cellAt (a0 : Nat) (i1 : Int32) (i2 : Int32) (h : PH) : Option Int32 :=
  bnd (gR h a0 4 3) fun x1 => bnd (aI h x1 ((i1 * (6 : Int32)) + i2)) fun x2 => some x2
theorem g_Rul_cellAt_0 {l : Launch} {E : ET} {d : Nat} (hd : 1 ≤ d) {r : Int32} {h : PH} {x : Nat}  (a0 : Nat) (i1 : Int32) (i2 : Int32) (hf : f_Rul_cellAt a0 i1 i2 h = some r) : Go l E m_Rul_cellAt (rm d 0 0) (KM E 0 0 (PoE (some (.int r)) h x)) 0 0 h x 0 [(0, .ref a0), (1, .int i1), (2, .int i2)] [] := by
  unfold f_Rul_cellAt at hf
  refine go_aload_n 0 d_Rul_cellAt_0 rfl ?_
  obtain ⟨x1, e_x1, hf⟩ := bnd_x hf
  refine go_get d_Rul_cellAt_1 (gR_x e_x1) fl_Rul_21 ?_
  refine go_iload_n 1 d_Rul_cellAt_4 rfl ?_
  refine go_bipush (6 : Int32) d_Rul_cellAt_5 (by decide) ?_
  refine go_imul d_Rul_cellAt_7 ?_
  refine go_iload_n 2 d_Rul_cellAt_8 rfl ?_
  refine go_iadd d_Rul_cellAt_9 ?_
  obtain ⟨x2, e_x2, hf⟩ := bnd_x hf
  refine go_iaload d_Rul_cellAt_10 e_x2 ?_
  have e9 := Option.some.inj hf
  subst e9
  exact go_iret d_Rul_cellAt_11 rfl ⟨rfl, rfl, rfl⟩
theorem c_Rul_cellAt {l : Launch} {E : ET} {d : Nat} (hd : 1 ≤ d) {r : Int32} {h : PH} {x : Nat} {a0 : Nat} {i1 : Int32} {i2 : Int32} (hf : f_Rul_cellAt a0 i1 i2 h = some r) : Fn l E m_Rul_cellAt d 0 0 [.ref a0, .int i1, .int i2] h x (PoE (some (.int r)) h x) :=
  Fn.of (by decide +kernel) (Nat.le_of_ble_eq_true rfl) (g_Rul_cellAt_0 hd a0 i1 i2 hf)
theorem d_Rul_attach_0 : decode prog_7_method_5_code 0 = .ok (.iload_n 1, 1) := by decide +kernel
theorem d_Rul_attach_1 : decode prog_7_method_5_code 1 = .ok (.ifCond .lt 19, 3) := by decide +kernel
theorem d_Rul_attach_4 : decode prog_7_method_5_code 4 = .ok (.iload_n 1, 1) := by decide +kernel
theorem d_Rul_attach_5 : decode prog_7_method_5_code 5 = .ok (.aload_n 0, 1) := by decide +kernel
theorem d_Rul_attach_6 : decode prog_7_method_5_code 6 = .ok (.getfield 37, 3) := by decide +kernel
theorem d_Rul_attach_9 : decode prog_7_method_5_code 9 = .ok (.if_icmp .ge 11, 3) := by decide +kernel
theorem d_Rul_attach_12 : decode prog_7_method_5_code 12 = .ok (.aload_n 0, 1) := by decide +kernel
theorem d_Rul_attach_13 : decode prog_7_method_5_code 13 = .ok (.iload_n 1, 1) := by decide +kernel
theorem d_Rul_attach_14 : decode prog_7_method_5_code 14 = .ok (.invokevirtual 47, 3) := by decide +kernel
theorem d_Rul_attach_17 : decode prog_7_method_5_code 17 = .ok (.ifCond .eq 4, 3) := by decide +kernel
theorem d_Rul_attach_20 : decode prog_7_method_5_code 20 = .ok (.return_, 1) := by decide +kernel
theorem d_Rul_attach_21 : decode prog_7_method_5_code 21 = .ok (.aload_n 0, 1) := by decide +kernel
theorem d_Rul_attach_22 : decode prog_7_method_5_code 22 = .ok (.getfield 21, 3) := by decide +kernel
theorem d_Rul_attach_25 : decode prog_7_method_5_code 25 = .ok (.iload_n 1, 1) := by decide +kernel
theorem d_Rul_attach_26 : decode prog_7_method_5_code 26 = .ok (.bipush 6, 2) := by decide +kernel
theorem d_Rul_attach_28 : decode prog_7_method_5_code 28 = .ok (.imul, 1) := by decide +kernel
theorem d_Rul_attach_29 : decode prog_7_method_5_code 29 = .ok (.aload_n 0, 1) := by decide +kernel
theorem d_Rul_attach_30 : decode prog_7_method_5_code 30 = .ok (.getfield 18, 3) := by decide +kernel
theorem d_Rul_attach_33 : decode prog_7_method_5_code 33 = .ok (.iload_n 1, 1) := by decide +kernel
theorem d_Rul_attach_34 : decode prog_7_method_5_code 34 = .ok (.iaload, 1) := by decide +kernel
theorem d_Rul_attach_35 : decode prog_7_method_5_code 35 = .ok (.iadd, 1) := by decide +kernel
theorem d_Rul_attach_36 : decode prog_7_method_5_code 36 = .ok (.iload_n 2, 1) := by decide +kernel
theorem d_Rul_attach_37 : decode prog_7_method_5_code 37 = .ok (.iastore, 1) := by decide +kernel
theorem d_Rul_attach_38 : decode prog_7_method_5_code 38 = .ok (.aload_n 0, 1) := by decide +kernel
theorem d_Rul_attach_39 : decode prog_7_method_5_code 39 = .ok (.getfield 18, 3) := by decide +kernel
theorem d_Rul_attach_42 : decode prog_7_method_5_code 42 = .ok (.iload_n 1, 1) := by decide +kernel
theorem d_Rul_attach_43 : decode prog_7_method_5_code 43 = .ok (.dup2, 1) := by decide +kernel
theorem d_Rul_attach_44 : decode prog_7_method_5_code 44 = .ok (.iaload, 1) := by decide +kernel
theorem d_Rul_attach_45 : decode prog_7_method_5_code 45 = .ok (.iconst 1, 1) := by decide +kernel
theorem d_Rul_attach_46 : decode prog_7_method_5_code 46 = .ok (.iadd, 1) := by decide +kernel
theorem d_Rul_attach_47 : decode prog_7_method_5_code 47 = .ok (.iastore, 1) := by decide +kernel
theorem d_Rul_attach_48 : decode prog_7_method_5_code 48 = .ok (.aload_n 0, 1) := by decide +kernel
theorem d_Rul_attach_49 : decode prog_7_method_5_code 49 = .ok (.getfield 24, 3) := by decide +kernel
theorem d_Rul_attach_52 : decode prog_7_method_5_code 52 = .ok (.iload_n 1, 1) := by decide +kernel
theorem d_Rul_attach_53 : decode prog_7_method_5_code 53 = .ok (.dup2, 1) := by decide +kernel
theorem d_Rul_attach_54 : decode prog_7_method_5_code 54 = .ok (.laload, 1) := by decide +kernel
theorem d_Rul_attach_55 : decode prog_7_method_5_code 55 = .ok (.lconst 1, 1) := by decide +kernel
theorem d_Rul_attach_56 : decode prog_7_method_5_code 56 = .ok (.iload_n 2, 1) := by decide +kernel
theorem d_Rul_attach_57 : decode prog_7_method_5_code 57 = .ok (.lshl, 1) := by decide +kernel
theorem d_Rul_attach_58 : decode prog_7_method_5_code 58 = .ok (.lor, 1) := by decide +kernel
theorem d_Rul_attach_59 : decode prog_7_method_5_code 59 = .ok (.lastore, 1) := by decide +kernel
theorem d_Rul_attach_60 : decode prog_7_method_5_code 60 = .ok (.aload_n 0, 1) := by decide +kernel
theorem d_Rul_attach_61 : decode prog_7_method_5_code 61 = .ok (.getfield 9, 3) := by decide +kernel
theorem d_Rul_attach_64 : decode prog_7_method_5_code 64 = .ok (.iload_n 1, 1) := by decide +kernel
theorem d_Rul_attach_65 : decode prog_7_method_5_code 65 = .ok (.iaload, 1) := by decide +kernel
theorem d_Rul_attach_66 : decode prog_7_method_5_code 66 = .ok (.ifCond .ne 54, 3) := by decide +kernel
theorem d_Rul_attach_69 : decode prog_7_method_5_code 69 = .ok (.iconst 0, 1) := by decide +kernel
theorem d_Rul_attach_70 : decode prog_7_method_5_code 70 = .ok (.istore_n 3, 1) := by decide +kernel
theorem d_Rul_attach_71 : decode prog_7_method_5_code 71 = .ok (.iload_n 3, 1) := by decide +kernel
theorem d_Rul_attach_72 : decode prog_7_method_5_code 72 = .ok (.aload_n 0, 1) := by decide +kernel
theorem d_Rul_attach_73 : decode prog_7_method_5_code 73 = .ok (.getfield 18, 3) := by decide +kernel
theorem d_Rul_attach_76 : decode prog_7_method_5_code 76 = .ok (.iload_n 1, 1) := by decide +kernel
theorem d_Rul_attach_77 : decode prog_7_method_5_code 77 = .ok (.iaload, 1) := by decide +kernel
theorem d_Rul_attach_78 : decode prog_7_method_5_code 78 = .ok (.if_icmp .ge 42, 3) := by decide +kernel
theorem d_Rul_attach_81 : decode prog_7_method_5_code 81 = .ok (.aload_n 0, 1) := by decide +kernel
theorem d_Rul_attach_82 : decode prog_7_method_5_code 82 = .ok (.iload_n 1, 1) := by decide +kernel
theorem d_Rul_attach_83 : decode prog_7_method_5_code 83 = .ok (.iload_n 3, 1) := by decide +kernel
theorem d_Rul_attach_84 : decode prog_7_method_5_code 84 = .ok (.invokevirtual 51, 3) := by decide +kernel
theorem d_Rul_attach_87 : decode prog_7_method_5_code 87 = .ok (.istore 4, 2) := by decide +kernel
theorem d_Rul_attach_89 : decode prog_7_method_5_code 89 = .ok (.aload_n 0, 1) := by decide +kernel
theorem d_Rul_attach_90 : decode prog_7_method_5_code 90 = .ok (.getfield 28, 3) := by decide +kernel
theorem d_Rul_attach_93 : decode prog_7_method_5_code 93 = .ok (.iload 4, 2) := by decide +kernel
theorem d_Rul_attach_95 : decode prog_7_method_5_code 95 = .ok (.dup2, 1) := by decide +kernel
theorem d_Rul_attach_96 : decode prog_7_method_5_code 96 = .ok (.laload, 1) := by decide +kernel
theorem d_Rul_attach_97 : decode prog_7_method_5_code 97 = .ok (.aload_n 0, 1) := by decide +kernel
theorem d_Rul_attach_98 : decode prog_7_method_5_code 98 = .ok (.getfield 24, 3) := by decide +kernel
theorem d_Rul_attach_101 : decode prog_7_method_5_code 101 = .ok (.iload_n 1, 1) := by decide +kernel
theorem d_Rul_attach_102 : decode prog_7_method_5_code 102 = .ok (.laload, 1) := by decide +kernel
theorem d_Rul_attach_103 : decode prog_7_method_5_code 103 = .ok (.lconst 1, 1) := by decide +kernel
theorem d_Rul_attach_104 : decode prog_7_method_5_code 104 = .ok (.iload 4, 2) := by decide +kernel
theorem d_Rul_attach_106 : decode prog_7_method_5_code 106 = .ok (.lshl, 1) := by decide +kernel
theorem d_Rul_attach_107 : decode prog_7_method_5_code 107 = .ok (.ldc2_w 55, 3) := by decide +kernel
theorem d_Rul_attach_110 : decode prog_7_method_5_code 110 = .ok (.lxor, 1) := by decide +kernel
theorem d_Rul_attach_111 : decode prog_7_method_5_code 111 = .ok (.land, 1) := by decide +kernel
theorem d_Rul_attach_112 : decode prog_7_method_5_code 112 = .ok (.lor, 1) := by decide +kernel
theorem d_Rul_attach_113 : decode prog_7_method_5_code 113 = .ok (.lastore, 1) := by decide +kernel
theorem d_Rul_attach_114 : decode prog_7_method_5_code 114 = .ok (.iinc 3 1, 3) := by decide +kernel
theorem d_Rul_attach_117 : decode prog_7_method_5_code 117 = .ok (.goto (-46), 3) := by decide +kernel
theorem d_Rul_attach_120 : decode prog_7_method_5_code 120 = .ok (.return_, 1) := by decide +kernel
def b_Rul_attach_71 (F : Nat) (k71 : Nat → Int32 → Int32 → PH → Option PH) (a0 : Nat) (i1 : Int32) (i3 : Int32) (h : PH) : Option PH :=
  bnd (gR h a0 4 2) fun x1 => bnd (aI h x1 i1) fun x2 => (if x2 ≤ i3 then some h else bnd (cK h a0 4) fun _ => bnd (f_Rul_cellAt a0 i1 i3 h) fun x4 => bnd (gR h a0 4 5) fun x5 => bnd (aL h x5 x4) fun x6 => bnd (gR h a0 4 4) fun x7 => bnd (aL h x7 i1) fun x8 => bnd (sL h x5 x4 (x6 ||| (x8 &&& (((1 : Int64) <<< ((x4).toInt64 &&& 63)) ^^^ (-1 : Int64))))) fun h9 => k71 a0 i1 (i3 + (1 : Int32)) h9)
def f_Rul_attach_71 (F : Nat) : Nat → Nat → Int32 → Int32 → PH → Option PH
  | 0 => fun _ _ _ _ => none
  | n + 1 => b_Rul_attach_71 F (f_Rul_attach_71 F n)
theorem g_Rul_attach_71 {l : Launch} {E : ET} {d : Nat} (hd : 2 ≤ d) {F : Nat} {h9 : PH} {x : Nat} {k71 : Nat → Int32 → Int32 → PH → Option PH} (hk71 : ∀ (a0 : Nat) (i1 : Int32) (i3 : Int32) (hh : PH), k71 a0 i1 i3 hh = some h9 → Go l E m_Rul_attach (rm d 0 0) (KM E 0 0 (PoE none h9 x)) 0 0 hh x 71 [(0, .ref a0), (1, .int i1), (3, .int i3)] []) (a0 : Nat) (i1 : Int32) (i3 : Int32) (h : PH) (hf : b_Rul_attach_71 F k71 a0 i1 i3 h = some h9) : Go l E m_Rul_attach (rm d 0 0) (KM E 0 0 (PoE none h9 x)) 0 0 h x 71 [(0, .ref a0), (1, .int i1), (3, .int i3)] [] := by
  unfold b_Rul_attach_71 at hf
  refine go_iload_n 2 d_Rul_attach_71 rfl ?_
  refine go_aload_n 0 d_Rul_attach_72 rfl ?_
  obtain ⟨x1, e_x1, hf⟩ := bnd_x hf
  refine go_get d_Rul_attach_73 (gR_x e_x1) fl_Rul_18 ?_
  refine go_iload_n 1 d_Rul_attach_76 rfl ?_
  obtain ⟨x2, e_x2, hf⟩ := bnd_x hf
  refine go_iaload d_Rul_attach_77 e_x2 ?_
  refine go_icmp_ge 120 d_Rul_attach_78 (by decide) (fun q10 => ?_) (fun q10 => ?_)
  · rw [if_pos q10] at hf
    have e9 := Option.some.inj hf
    subst e9
    exact go_vret d_Rul_attach_120 rfl ⟨rfl, rfl, rfl⟩
  · rw [if_neg q10] at hf
    refine go_aload_n 0 d_Rul_attach_81 rfl ?_
    refine go_iload_n 1 d_Rul_attach_82 rfl ?_
    refine go_iload_n 2 d_Rul_attach_83 rfl ?_
    obtain ⟨_, e3, hf⟩ := bnd_x hf
    obtain ⟨x4, e_x4, hf⟩ := bnd_x hf
    refine go_callV_I (As := [.int i1, .int i3]) (st := []) (c_Rul_cellAt (d := d - 1) (by omega) e_x4) lk_Rul_51 rfl rfl e3 (by decide) rfl (rm_ok (by omega)) (Nat.le_of_ble_eq_true rfl) rm_c d_Rul_attach_84 ?_
    refine go_istore (lv' := [(4, .int x4), (0, .ref a0), (1, .int i1), (3, .int i3)]) d_Rul_attach_87 rfl (by decide) ?_
    refine go_aload_n 1 d_Rul_attach_89 rfl ?_
    obtain ⟨x5, e_x5, hf⟩ := bnd_x hf
    refine go_get d_Rul_attach_90 (gR_x e_x5) fl_Rul_28 ?_
    refine go_iload 0 d_Rul_attach_93 rfl ?_
    refine go_dup2 d_Rul_attach_95 rfl rfl ?_
    obtain ⟨x6, e_x6, hf⟩ := bnd_x hf
    refine go_laload d_Rul_attach_96 e_x6 ?_
    refine go_aload_n 1 d_Rul_attach_97 rfl ?_
    obtain ⟨x7, e_x7, hf⟩ := bnd_x hf
    refine go_get d_Rul_attach_98 (gR_x e_x7) fl_Rul_24 ?_
    refine go_iload_n 2 d_Rul_attach_101 rfl ?_
    obtain ⟨x8, e_x8, hf⟩ := bnd_x hf
    refine go_laload d_Rul_attach_102 e_x8 ?_
    refine go_lconst (1 : Int64) d_Rul_attach_103 (by decide) ?_
    refine go_iload 0 d_Rul_attach_104 rfl ?_
    refine go_lshl d_Rul_attach_106 ?_
    refine go_ldc2 (-1 : Int64) d_Rul_attach_107 kl_Rul_55 ?_
    refine go_lxor d_Rul_attach_110 ?_
    refine go_land d_Rul_attach_111 ?_
    refine go_lor d_Rul_attach_112 ?_
    obtain ⟨h9, e_h9, hf⟩ := bnd_x hf
    refine go_lastore d_Rul_attach_113 e_h9 ?_
    refine go_iinc (lv' := [(3, .int (i3 + (1 : Int32))), (4, .int x4), (0, .ref a0), (1, .int i1)]) 3 (i3 + (1 : Int32)) d_Rul_attach_114 rfl rfl rfl (by decide) ?_
    refine go_goto 71 d_Rul_attach_117 (by decide) ?_
    refine go_sub (lv' := [(0, .ref a0), (1, .int i1), (3, .int (i3 + (1 : Int32)))]) [2, 3, 0] rfl ?_
    exact hk71 a0 i1 (i3 + (1 : Int32)) h9 hf
theorem t_Rul_attach_71 {l : Launch} {E : ET} {d : Nat} (hd : 2 ≤ d) {F : Nat} {h9 : PH} {x : Nat}  : ∀ (n : Nat) (a0 : Nat) (i1 : Int32) (i3 : Int32) (hh : PH), f_Rul_attach_71 F n a0 i1 i3 hh = some h9 → Go l E m_Rul_attach (rm d 0 0) (KM E 0 0 (PoE none h9 x)) 0 0 hh x 71 [(0, .ref a0), (1, .int i1), (3, .int i3)] [] := by
  intro n
  induction n with
  | zero => intro v0 v1 v2 v3 hf; cases hf
  | succ n ih => intro v0 v1 v2 v3 hf; exact g_Rul_attach_71 hd ih v0 v1 v2 v3 hf
def f_Rul_attach (F : Nat) (a0 : Nat) (i1 : Int32) (i2 : Int32) (h : PH) : Option PH :=
  (if i1 < (0 : Int32) then some h else bnd (gI h a0 4 6) fun x1 => (if x1 ≤ i1 then some h else bnd (cK h a0 4) fun _ => bnd (f_Rul_isFull a0 i1 h) fun x3 => (if x3 = (0 : Int32) then bnd (gR h a0 4 3) fun x4 => bnd (gR h a0 4 2) fun x5 => bnd (aI h x5 i1) fun x6 => bnd (sI h x4 ((i1 * (6 : Int32)) + x6) i2) fun h7 => bnd (gR h7 a0 4 2) fun x8 => bnd (aI h7 x8 i1) fun x9 => bnd (sI h7 x8 i1 (x9 + (1 : Int32))) fun h10 => bnd (gR h10 a0 4 4) fun x11 => bnd (aL h10 x11 i1) fun x12 => bnd (sL h10 x11 i1 (x12 ||| ((1 : Int64) <<< ((i2).toInt64 &&& 63)))) fun h13 => bnd (gR h13 a0 4 0) fun x14 => bnd (aI h13 x14 i1) fun x15 => (if x15 = (0 : Int32) then f_Rul_attach_71 F F a0 i1 (0 : Int32) h13 else some h13) else some h)))
theorem g_Rul_attach_0 {l : Launch} {E : ET} {d : Nat} (hd : 2 ≤ d) {F : Nat} {h9 : PH} {x : Nat}  (a0 : Nat) (i1 : Int32) (i2 : Int32) (h : PH) (hf : f_Rul_attach F a0 i1 i2 h = some h9) : Go l E m_Rul_attach (rm d 0 0) (KM E 0 0 (PoE none h9 x)) 0 0 h x 0 [(0, .ref a0), (1, .int i1), (2, .int i2)] [] := by
  unfold f_Rul_attach at hf
  refine go_iload_n 1 d_Rul_attach_0 rfl ?_
  refine go_if_lt 20 d_Rul_attach_1 (by decide) (fun q19 => ?_) (fun q19 => ?_)
  · rw [if_pos q19] at hf
    have e9 := Option.some.inj hf
    subst e9
    exact go_vret d_Rul_attach_20 rfl ⟨rfl, rfl, rfl⟩
  · rw [if_neg q19] at hf
    refine go_iload_n 1 d_Rul_attach_4 rfl ?_
    refine go_aload_n 0 d_Rul_attach_5 rfl ?_
    obtain ⟨x1, e_x1, hf⟩ := bnd_x hf
    refine go_get d_Rul_attach_6 (gI_x e_x1) fl_Rul_37 ?_
    refine go_icmp_ge 20 d_Rul_attach_9 (by decide) (fun q18 => ?_) (fun q18 => ?_)
    · rw [if_pos q18] at hf
      have e9 := Option.some.inj hf
      subst e9
      exact go_vret d_Rul_attach_20 rfl ⟨rfl, rfl, rfl⟩
    · rw [if_neg q18] at hf
      refine go_aload_n 0 d_Rul_attach_12 rfl ?_
      refine go_iload_n 1 d_Rul_attach_13 rfl ?_
      obtain ⟨_, e2, hf⟩ := bnd_x hf
      obtain ⟨x3, e_x3, hf⟩ := bnd_x hf
      refine go_callV_I (As := [.int i1]) (st := []) (c_Rul_isFull (d := d - 1) (by omega) e_x3) lk_Rul_47 rfl rfl e2 (by decide) rfl (rm_ok (by omega)) (Nat.le_of_ble_eq_true rfl) rm_c d_Rul_attach_14 ?_
      refine go_if_eq 21 d_Rul_attach_17 (by decide) (fun q17 => ?_) (fun q17 => ?_)
      · rw [if_pos q17] at hf
        refine go_aload_n 0 d_Rul_attach_21 rfl ?_
        obtain ⟨x4, e_x4, hf⟩ := bnd_x hf
        refine go_get d_Rul_attach_22 (gR_x e_x4) fl_Rul_21 ?_
        refine go_iload_n 1 d_Rul_attach_25 rfl ?_
        refine go_bipush (6 : Int32) d_Rul_attach_26 (by decide) ?_
        refine go_imul d_Rul_attach_28 ?_
        refine go_aload_n 0 d_Rul_attach_29 rfl ?_
        obtain ⟨x5, e_x5, hf⟩ := bnd_x hf
        refine go_get d_Rul_attach_30 (gR_x e_x5) fl_Rul_18 ?_
        refine go_iload_n 1 d_Rul_attach_33 rfl ?_
        obtain ⟨x6, e_x6, hf⟩ := bnd_x hf
        refine go_iaload d_Rul_attach_34 e_x6 ?_
        refine go_iadd d_Rul_attach_35 ?_
        refine go_iload_n 2 d_Rul_attach_36 rfl ?_
        obtain ⟨h7, e_h7, hf⟩ := bnd_x hf
        refine go_iastore d_Rul_attach_37 e_h7 ?_
        refine go_aload_n 0 d_Rul_attach_38 rfl ?_
        obtain ⟨x8, e_x8, hf⟩ := bnd_x hf
        refine go_get d_Rul_attach_39 (gR_x e_x8) fl_Rul_18 ?_
        refine go_iload_n 1 d_Rul_attach_42 rfl ?_
        refine go_dup2 d_Rul_attach_43 rfl rfl ?_
        obtain ⟨x9, e_x9, hf⟩ := bnd_x hf
        refine go_iaload d_Rul_attach_44 e_x9 ?_
        refine go_iconst (1 : Int32) d_Rul_attach_45 (by decide) ?_
        refine go_iadd d_Rul_attach_46 ?_
        obtain ⟨h10, e_h10, hf⟩ := bnd_x hf
        refine go_iastore d_Rul_attach_47 e_h10 ?_
        refine go_aload_n 0 d_Rul_attach_48 rfl ?_
        obtain ⟨x11, e_x11, hf⟩ := bnd_x hf
        refine go_get d_Rul_attach_49 (gR_x e_x11) fl_Rul_24 ?_
        refine go_iload_n 1 d_Rul_attach_52 rfl ?_
        refine go_dup2 d_Rul_attach_53 rfl rfl ?_
        obtain ⟨x12, e_x12, hf⟩ := bnd_x hf
        refine go_laload d_Rul_attach_54 e_x12 ?_
        refine go_lconst (1 : Int64) d_Rul_attach_55 (by decide) ?_
        refine go_iload_n 2 d_Rul_attach_56 rfl ?_
        refine go_lshl d_Rul_attach_57 ?_
        refine go_lor d_Rul_attach_58 ?_
        obtain ⟨h13, e_h13, hf⟩ := bnd_x hf
        refine go_lastore d_Rul_attach_59 e_h13 ?_
        refine go_aload_n 0 d_Rul_attach_60 rfl ?_
        obtain ⟨x14, e_x14, hf⟩ := bnd_x hf
        refine go_get d_Rul_attach_61 (gR_x e_x14) fl_Rul_9 ?_
        refine go_iload_n 1 d_Rul_attach_64 rfl ?_
        obtain ⟨x15, e_x15, hf⟩ := bnd_x hf
        refine go_iaload d_Rul_attach_65 e_x15 ?_
        refine go_if_ne 120 d_Rul_attach_66 (by decide) (fun q16 => ?_) (fun q16 => ?_)
        · rw [if_neg q16] at hf
          have e9 := Option.some.inj hf
          subst e9
          exact go_vret d_Rul_attach_120 rfl ⟨rfl, rfl, rfl⟩
        · rw [if_pos q16] at hf
          refine go_iconst (0 : Int32) d_Rul_attach_69 (by decide) ?_
          refine go_istore_n (lv' := [(3, .int (0 : Int32)), (0, .ref a0), (1, .int i1), (2, .int i2)]) d_Rul_attach_70 rfl (by decide) ?_
          refine go_sub (lv' := [(0, .ref a0), (1, .int i1), (3, .int (0 : Int32))]) [1, 2, 0] rfl ?_
          exact t_Rul_attach_71 hd  _ a0 i1 (0 : Int32) h13 hf
      · rw [if_neg q17] at hf
        have e9 := Option.some.inj hf
        subst e9
        exact go_vret d_Rul_attach_20 rfl ⟨rfl, rfl, rfl⟩
theorem c_Rul_attach {l : Launch} {E : ET} {d : Nat} (hd : 2 ≤ d) {F : Nat} {h9 : PH} {x : Nat} {a0 : Nat} {i1 : Int32} {i2 : Int32} {h : PH} (hf : f_Rul_attach F a0 i1 i2 h = some h9) : Fn l E m_Rul_attach d 0 0 [.ref a0, .int i1, .int i2] h x (PoE none h9 x) :=
  Fn.of (by decide +kernel) (Nat.le_of_ble_eq_true rfl) (g_Rul_attach_0 hd a0 i1 i2 h hf)
theorem d_Rul_has_0 : decode prog_7_method_6_code 0 = .ok (.aload_n 0, 1) := by decide +kernel
theorem d_Rul_has_1 : decode prog_7_method_6_code 1 = .ok (.getfield 24, 3) := by decide +kernel
theorem d_Rul_has_4 : decode prog_7_method_6_code 4 = .ok (.iload_n 1, 1) := by decide +kernel
theorem d_Rul_has_5 : decode prog_7_method_6_code 5 = .ok (.laload, 1) := by decide +kernel
theorem d_Rul_has_6 : decode prog_7_method_6_code 6 = .ok (.iload_n 2, 1) := by decide +kernel
theorem d_Rul_has_7 : decode prog_7_method_6_code 7 = .ok (.lshr, 1) := by decide +kernel
theorem d_Rul_has_8 : decode prog_7_method_6_code 8 = .ok (.lconst 1, 1) := by decide +kernel
theorem d_Rul_has_9 : decode prog_7_method_6_code 9 = .ok (.land, 1) := by decide +kernel
theorem d_Rul_has_10 : decode prog_7_method_6_code 10 = .ok (.lconst 0, 1) := by decide +kernel
theorem d_Rul_has_11 : decode prog_7_method_6_code 11 = .ok (.lcmp, 1) := by decide +kernel
theorem d_Rul_has_12 : decode prog_7_method_6_code 12 = .ok (.ifCond .eq 7, 3) := by decide +kernel
theorem d_Rul_has_15 : decode prog_7_method_6_code 15 = .ok (.iconst 1, 1) := by decide +kernel
theorem d_Rul_has_16 : decode prog_7_method_6_code 16 = .ok (.goto 4, 3) := by decide +kernel
theorem d_Rul_has_19 : decode prog_7_method_6_code 19 = .ok (.iconst 0, 1) := by decide +kernel
theorem d_Rul_has_20 : decode prog_7_method_6_code 20 = .ok (.ireturn, 1) := by decide +kernel
def f_Rul_has (a0 : Nat) (i1 : Int32) (i2 : Int32) (h : PH) : Option Int32 :=
  bnd (gR h a0 4 4) fun x1 => bnd (aL h x1 i1) fun x2 => (if (lg_cmp ((x2 >>> ((i2).toInt64 &&& 63)) &&& (1 : Int64)) (0 : Int64)) = (0 : Int32) then some (0 : Int32) else some (1 : Int32))
theorem g_Rul_has_0 {l : Launch} {E : ET} {d : Nat} (hd : 1 ≤ d) {r : Int32} {h : PH} {x : Nat}  (a0 : Nat) (i1 : Int32) (i2 : Int32) (hf : f_Rul_has a0 i1 i2 h = some r) : Go l E m_Rul_has (rm d 0 0) (KM E 0 0 (PoE (some (.int r)) h x)) 0 0 h x 0 [(0, .ref a0), (1, .int i1), (2, .int i2)] [] := by
  unfold f_Rul_has at hf
  refine go_aload_n 0 d_Rul_has_0 rfl ?_
  obtain ⟨x1, e_x1, hf⟩ := bnd_x hf
  refine go_get d_Rul_has_1 (gR_x e_x1) fl_Rul_24 ?_
  refine go_iload_n 1 d_Rul_has_4 rfl ?_
  obtain ⟨x2, e_x2, hf⟩ := bnd_x hf
  refine go_laload d_Rul_has_5 e_x2 ?_
  refine go_iload_n 2 d_Rul_has_6 rfl ?_
  refine go_lshr d_Rul_has_7 ?_
  refine go_lconst (1 : Int64) d_Rul_has_8 (by decide) ?_
  refine go_land d_Rul_has_9 ?_
  refine go_lconst (0 : Int64) d_Rul_has_10 (by decide) ?_
  refine go_lcmp d_Rul_has_11 ?_
  refine go_if_eq 19 d_Rul_has_12 (by decide) (fun q3 => ?_) (fun q3 => ?_)
  · rw [if_pos q3] at hf
    refine go_iconst (0 : Int32) d_Rul_has_19 (by decide) ?_
    have e9 := Option.some.inj hf
    subst e9
    exact go_zret d_Rul_has_20 rfl rfl ⟨rfl, rfl, rfl⟩
  · rw [if_neg q3] at hf
    refine go_iconst (1 : Int32) d_Rul_has_15 (by decide) ?_
    refine go_goto 20 d_Rul_has_16 (by decide) ?_
    have e9 := Option.some.inj hf
    subst e9
    exact go_zret d_Rul_has_20 rfl rfl ⟨rfl, rfl, rfl⟩
theorem c_Rul_has {l : Launch} {E : ET} {d : Nat} (hd : 1 ≤ d) {r : Int32} {h : PH} {x : Nat} {a0 : Nat} {i1 : Int32} {i2 : Int32} (hf : f_Rul_has a0 i1 i2 h = some r) : Fn l E m_Rul_has d 0 0 [.ref a0, .int i1, .int i2] h x (PoE (some (.int r)) h x) :=
  Fn.of (by decide +kernel) (Nat.le_of_ble_eq_true rfl) (g_Rul_has_0 hd a0 i1 i2 hf)
theorem d_Rul_isActive_0 : decode prog_7_method_9_code 0 = .ok (.aload_n 0, 1) := by decide +kernel
theorem d_Rul_isActive_1 : decode prog_7_method_9_code 1 = .ok (.getfield 18, 3) := by decide +kernel
theorem d_Rul_isActive_4 : decode prog_7_method_9_code 4 = .ok (.iload_n 1, 1) := by decide +kernel
theorem d_Rul_isActive_5 : decode prog_7_method_9_code 5 = .ok (.iaload, 1) := by decide +kernel
theorem d_Rul_isActive_6 : decode prog_7_method_9_code 6 = .ok (.iconst 2, 1) := by decide +kernel
theorem d_Rul_isActive_7 : decode prog_7_method_9_code 7 = .ok (.if_icmp .lt 7, 3) := by decide +kernel
theorem d_Rul_isActive_10 : decode prog_7_method_9_code 10 = .ok (.iconst 1, 1) := by decide +kernel
theorem d_Rul_isActive_11 : decode prog_7_method_9_code 11 = .ok (.goto 4, 3) := by decide +kernel
theorem d_Rul_isActive_14 : decode prog_7_method_9_code 14 = .ok (.iconst 0, 1) := by decide +kernel
theorem d_Rul_isActive_15 : decode prog_7_method_9_code 15 = .ok (.ireturn, 1) := by decide +kernel
def f_Rul_isActive (a0 : Nat) (i1 : Int32) (h : PH) : Option Int32 :=
  bnd (gR h a0 4 2) fun x1 => bnd (aI h x1 i1) fun x2 => (if x2 < (2 : Int32) then some (0 : Int32) else some (1 : Int32))
theorem g_Rul_isActive_0 {l : Launch} {E : ET} {d : Nat} (hd : 1 ≤ d) {r : Int32} {h : PH} {x : Nat}  (a0 : Nat) (i1 : Int32) (hf : f_Rul_isActive a0 i1 h = some r) : Go l E m_Rul_isActive (rm d 0 0) (KM E 0 0 (PoE (some (.int r)) h x)) 0 0 h x 0 [(0, .ref a0), (1, .int i1)] [] := by
  unfold f_Rul_isActive at hf
  refine go_aload_n 0 d_Rul_isActive_0 rfl ?_
  obtain ⟨x1, e_x1, hf⟩ := bnd_x hf
  refine go_get d_Rul_isActive_1 (gR_x e_x1) fl_Rul_18 ?_
  refine go_iload_n 1 d_Rul_isActive_4 rfl ?_
  obtain ⟨x2, e_x2, hf⟩ := bnd_x hf
  refine go_iaload d_Rul_isActive_5 e_x2 ?_
  refine go_iconst (2 : Int32) d_Rul_isActive_6 (by decide) ?_
  refine go_icmp_lt 14 d_Rul_isActive_7 (by decide) (fun q3 => ?_) (fun q3 => ?_)
  · rw [if_pos q3] at hf
    refine go_iconst (0 : Int32) d_Rul_isActive_14 (by decide) ?_
    have e9 := Option.some.inj hf
    subst e9
    exact go_zret d_Rul_isActive_15 rfl rfl ⟨rfl, rfl, rfl⟩
  · rw [if_neg q3] at hf
    refine go_iconst (1 : Int32) d_Rul_isActive_10 (by decide) ?_
    refine go_goto 15 d_Rul_isActive_11 (by decide) ?_
    have e9 := Option.some.inj hf
    subst e9
    exact go_zret d_Rul_isActive_15 rfl rfl ⟨rfl, rfl, rfl⟩
theorem c_Rul_isActive {l : Launch} {E : ET} {d : Nat} (hd : 1 ≤ d) {r : Int32} {h : PH} {x : Nat} {a0 : Nat} {i1 : Int32} (hf : f_Rul_isActive a0 i1 h = some r) : Fn l E m_Rul_isActive d 0 0 [.ref a0, .int i1] h x (PoE (some (.int r)) h x) :=
  Fn.of (by decide +kernel) (Nat.le_of_ble_eq_true rfl) (g_Rul_isActive_0 hd a0 i1 hf)
theorem d_Rul_touching_0 : decode prog_7_method_10_code 0 = .ok (.iconst 0, 1) := by decide +kernel
theorem d_Rul_touching_1 : decode prog_7_method_10_code 1 = .ok (.istore_n 3, 1) := by decide +kernel
theorem d_Rul_touching_2 : decode prog_7_method_10_code 2 = .ok (.iconst 0, 1) := by decide +kernel
theorem d_Rul_touching_3 : decode prog_7_method_10_code 3 = .ok (.istore 4, 2) := by decide +kernel
theorem d_Rul_touching_5 : decode prog_7_method_10_code 5 = .ok (.iload 4, 2) := by decide +kernel
theorem d_Rul_touching_7 : decode prog_7_method_10_code 7 = .ok (.aload_n 0, 1) := by decide +kernel
theorem d_Rul_touching_8 : decode prog_7_method_10_code 8 = .ok (.getfield 37, 3) := by decide +kernel
theorem d_Rul_touching_11 : decode prog_7_method_10_code 11 = .ok (.if_icmp .ge 39, 3) := by decide +kernel
theorem d_Rul_touching_14 : decode prog_7_method_10_code 14 = .ok (.aload_n 0, 1) := by decide +kernel
theorem d_Rul_touching_15 : decode prog_7_method_10_code 15 = .ok (.iload 4, 2) := by decide +kernel
theorem d_Rul_touching_17 : decode prog_7_method_10_code 17 = .ok (.invokevirtual 57, 3) := by decide +kernel
theorem d_Rul_touching_20 : decode prog_7_method_10_code 20 = .ok (.ifCond .eq 24, 3) := by decide +kernel
theorem d_Rul_touching_23 : decode prog_7_method_10_code 23 = .ok (.aload_n 0, 1) := by decide +kernel
theorem d_Rul_touching_24 : decode prog_7_method_10_code 24 = .ok (.getfield 24, 3) := by decide +kernel
theorem d_Rul_touching_27 : decode prog_7_method_10_code 27 = .ok (.iload 4, 2) := by decide +kernel
theorem d_Rul_touching_29 : decode prog_7_method_10_code 29 = .ok (.laload, 1) := by decide +kernel
theorem d_Rul_touching_30 : decode prog_7_method_10_code 30 = .ok (.lload_n 1, 1) := by decide +kernel
theorem d_Rul_touching_31 : decode prog_7_method_10_code 31 = .ok (.land, 1) := by decide +kernel
theorem d_Rul_touching_32 : decode prog_7_method_10_code 32 = .ok (.lconst 0, 1) := by decide +kernel
theorem d_Rul_touching_33 : decode prog_7_method_10_code 33 = .ok (.lcmp, 1) := by decide +kernel
theorem d_Rul_touching_34 : decode prog_7_method_10_code 34 = .ok (.ifCond .eq 10, 3) := by decide +kernel
theorem d_Rul_touching_37 : decode prog_7_method_10_code 37 = .ok (.iload_n 3, 1) := by decide +kernel
theorem d_Rul_touching_38 : decode prog_7_method_10_code 38 = .ok (.iconst 1, 1) := by decide +kernel
theorem d_Rul_touching_39 : decode prog_7_method_10_code 39 = .ok (.iload 4, 2) := by decide +kernel
theorem d_Rul_touching_41 : decode prog_7_method_10_code 41 = .ok (.ishl, 1) := by decide +kernel
theorem d_Rul_touching_42 : decode prog_7_method_10_code 42 = .ok (.ior, 1) := by decide +kernel
theorem d_Rul_touching_43 : decode prog_7_method_10_code 43 = .ok (.istore_n 3, 1) := by decide +kernel
theorem d_Rul_touching_44 : decode prog_7_method_10_code 44 = .ok (.iinc 4 1, 3) := by decide +kernel
theorem d_Rul_touching_47 : decode prog_7_method_10_code 47 = .ok (.goto (-42), 3) := by decide +kernel
theorem d_Rul_touching_50 : decode prog_7_method_10_code 50 = .ok (.iload_n 3, 1) := by decide +kernel
theorem d_Rul_touching_51 : decode prog_7_method_10_code 51 = .ok (.ireturn, 1) := by decide +kernel
def b_Rul_touching_44 (F : Nat) (k5 : Nat → Int64 → Int32 → Int32 → PH → Option Int32) (a0 : Nat) (i1 : Int64) (i3 : Int32) (i4 : Int32) (h : PH) : Option Int32 :=
  k5 a0 i1 i3 (i4 + (1 : Int32)) h
theorem g_Rul_touching_44 {l : Launch} {E : ET} {d : Nat} (hd : 2 ≤ d) {F : Nat} {r : Int32} {h : PH} {x : Nat} {k5 : Nat → Int64 → Int32 → Int32 → PH → Option Int32} (hk5 : ∀ (a0 : Nat) (i1 : Int64) (i3 : Int32) (i4 : Int32), k5 a0 i1 i3 i4 h = some r → Go l E m_Rul_touching (rm d 0 0) (KM E 0 0 (PoE (some (.int r)) h x)) 0 0 h x 5 [(0, .ref a0), (1, .long i1), (3, .int i3), (4, .int i4)] []) (a0 : Nat) (i1 : Int64) (i3 : Int32) (i4 : Int32) (hf : b_Rul_touching_44 F k5 a0 i1 i3 i4 h = some r) : Go l E m_Rul_touching (rm d 0 0) (KM E 0 0 (PoE (some (.int r)) h x)) 0 0 h x 44 [(0, .ref a0), (1, .long i1), (3, .int i3), (4, .int i4)] [] := by
  unfold b_Rul_touching_44 at hf
  refine go_iinc (lv' := [(4, .int (i4 + (1 : Int32))), (0, .ref a0), (1, .long i1), (3, .int i3)]) 3 (i4 + (1 : Int32)) d_Rul_touching_44 rfl rfl rfl (by decide) ?_
  refine go_goto 5 d_Rul_touching_47 (by decide) ?_
  refine go_sub (lv' := [(0, .ref a0), (1, .long i1), (3, .int i3), (4, .int (i4 + (1 : Int32)))]) [1, 2, 3, 0] rfl ?_
  exact hk5 a0 i1 i3 (i4 + (1 : Int32)) hf
def b_Rul_touching_5 (F : Nat) (k5 : Nat → Int64 → Int32 → Int32 → PH → Option Int32) (a0 : Nat) (i1 : Int64) (i3 : Int32) (i4 : Int32) (h : PH) : Option Int32 :=
  bnd (gI h a0 4 6) fun x1 => (if x1 ≤ i4 then some i3 else bnd (cK h a0 4) fun _ => bnd (f_Rul_isActive a0 i4 h) fun x3 => (if x3 = (0 : Int32) then b_Rul_touching_44 F k5 a0 i1 i3 i4 h else bnd (gR h a0 4 4) fun x4 => bnd (aL h x4 i4) fun x5 => (if (lg_cmp (x5 &&& i1) (0 : Int64)) = (0 : Int32) then b_Rul_touching_44 F k5 a0 i1 i3 i4 h else bnd (some (i3 ||| ((1 : Int32) <<< (i4 &&& 31)))) fun y6 => b_Rul_touching_44 F k5 a0 i1 y6 i4 h)))
def f_Rul_touching_5 (F : Nat) : Nat → Nat → Int64 → Int32 → Int32 → PH → Option Int32
  | 0 => fun _ _ _ _ _ => none
  | n + 1 => b_Rul_touching_5 F (f_Rul_touching_5 F n)
theorem g_Rul_touching_5 {l : Launch} {E : ET} {d : Nat} (hd : 2 ≤ d) {F : Nat} {r : Int32} {h : PH} {x : Nat} {k5 : Nat → Int64 → Int32 → Int32 → PH → Option Int32} (hk5 : ∀ (a0 : Nat) (i1 : Int64) (i3 : Int32) (i4 : Int32), k5 a0 i1 i3 i4 h = some r → Go l E m_Rul_touching (rm d 0 0) (KM E 0 0 (PoE (some (.int r)) h x)) 0 0 h x 5 [(0, .ref a0), (1, .long i1), (3, .int i3), (4, .int i4)] []) (a0 : Nat) (i1 : Int64) (i3 : Int32) (i4 : Int32) (hf : b_Rul_touching_5 F k5 a0 i1 i3 i4 h = some r) : Go l E m_Rul_touching (rm d 0 0) (KM E 0 0 (PoE (some (.int r)) h x)) 0 0 h x 5 [(0, .ref a0), (1, .long i1), (3, .int i3), (4, .int i4)] [] := by
  unfold b_Rul_touching_5 at hf
  refine go_iload 3 d_Rul_touching_5 rfl ?_
  refine go_aload_n 0 d_Rul_touching_7 rfl ?_
  obtain ⟨x1, e_x1, hf⟩ := bnd_x hf
  refine go_get d_Rul_touching_8 (gI_x e_x1) fl_Rul_37 ?_
  refine go_icmp_ge 50 d_Rul_touching_11 (by decide) (fun q9 => ?_) (fun q9 => ?_)
  · rw [if_pos q9] at hf
    refine go_iload_n 2 d_Rul_touching_50 rfl ?_
    have e9 := Option.some.inj hf
    subst e9
    exact go_iret d_Rul_touching_51 rfl ⟨rfl, rfl, rfl⟩
  · rw [if_neg q9] at hf
    refine go_aload_n 0 d_Rul_touching_14 rfl ?_
    refine go_iload 3 d_Rul_touching_15 rfl ?_
    obtain ⟨_, e2, hf⟩ := bnd_x hf
    obtain ⟨x3, e_x3, hf⟩ := bnd_x hf
    refine go_callV_I (As := [.int i4]) (st := []) (c_Rul_isActive (d := d - 1) (by omega) e_x3) lk_Rul_57 rfl rfl e2 (by decide) rfl (rm_ok (by omega)) (Nat.le_of_ble_eq_true rfl) rm_c d_Rul_touching_17 ?_
    refine go_if_eq 44 d_Rul_touching_20 (by decide) (fun q8 => ?_) (fun q8 => ?_)
    · rw [if_pos q8] at hf
      refine go_sub (lv' := [(0, .ref a0), (1, .long i1), (3, .int i3), (4, .int i4)]) [0, 1, 2, 3] rfl ?_
      exact g_Rul_touching_44 hd hk5 a0 i1 i3 i4  hf
    · rw [if_neg q8] at hf
      refine go_aload_n 0 d_Rul_touching_23 rfl ?_
      obtain ⟨x4, e_x4, hf⟩ := bnd_x hf
      refine go_get d_Rul_touching_24 (gR_x e_x4) fl_Rul_24 ?_
      refine go_iload 3 d_Rul_touching_27 rfl ?_
      obtain ⟨x5, e_x5, hf⟩ := bnd_x hf
      refine go_laload d_Rul_touching_29 e_x5 ?_
      refine go_lload_n 1 d_Rul_touching_30 rfl ?_
      refine go_land d_Rul_touching_31 ?_
      refine go_lconst (0 : Int64) d_Rul_touching_32 (by decide) ?_
      refine go_lcmp d_Rul_touching_33 ?_
      refine go_if_eq 44 d_Rul_touching_34 (by decide) (fun q7 => ?_) (fun q7 => ?_)
      · rw [if_pos q7] at hf
        refine go_sub (lv' := [(0, .ref a0), (1, .long i1), (3, .int i3), (4, .int i4)]) [0, 1, 2, 3] rfl ?_
        exact g_Rul_touching_44 hd hk5 a0 i1 i3 i4  hf
      · rw [if_neg q7] at hf
        refine go_iload_n 2 d_Rul_touching_37 rfl ?_
        refine go_iconst (1 : Int32) d_Rul_touching_38 (by decide) ?_
        refine go_iload 3 d_Rul_touching_39 rfl ?_
        refine go_ishl d_Rul_touching_41 ?_
        refine go_ior d_Rul_touching_42 ?_
        obtain ⟨y6, e_y6, hf⟩ := bnd_x hf
        refine go_nmI e_y6 ?_
        refine go_istore_n (lv' := [(3, .int y6), (0, .ref a0), (1, .long i1), (4, .int i4)]) d_Rul_touching_43 rfl (by decide) ?_
        refine go_sub (lv' := [(0, .ref a0), (1, .long i1), (3, .int y6), (4, .int i4)]) [1, 2, 0, 3] rfl ?_
        exact g_Rul_touching_44 hd hk5 a0 i1 y6 i4  hf
theorem t_Rul_touching_5 {l : Launch} {E : ET} {d : Nat} (hd : 2 ≤ d) {F : Nat} {r : Int32} {h : PH} {x : Nat}  : ∀ (n : Nat) (a0 : Nat) (i1 : Int64) (i3 : Int32) (i4 : Int32), f_Rul_touching_5 F n a0 i1 i3 i4 h = some r → Go l E m_Rul_touching (rm d 0 0) (KM E 0 0 (PoE (some (.int r)) h x)) 0 0 h x 5 [(0, .ref a0), (1, .long i1), (3, .int i3), (4, .int i4)] [] := by
  intro n
  induction n with
  | zero => intro v0 v1 v2 v3 hf; cases hf
  | succ n ih => intro v0 v1 v2 v3 hf; exact g_Rul_touching_5 hd ih v0 v1 v2 v3 hf
def f_Rul_touching (F : Nat) (a0 : Nat) (i1 : Int64) (h : PH) : Option Int32 :=
  f_Rul_touching_5 F F a0 i1 (0 : Int32) (0 : Int32) h
theorem g_Rul_touching_0 {l : Launch} {E : ET} {d : Nat} (hd : 2 ≤ d) {F : Nat} {r : Int32} {h : PH} {x : Nat}  (a0 : Nat) (i1 : Int64) (hf : f_Rul_touching F a0 i1 h = some r) : Go l E m_Rul_touching (rm d 0 0) (KM E 0 0 (PoE (some (.int r)) h x)) 0 0 h x 0 [(0, .ref a0), (1, .long i1)] [] := by
  unfold f_Rul_touching at hf
  refine go_iconst (0 : Int32) d_Rul_touching_0 (by decide) ?_
  refine go_istore_n (lv' := [(3, .int (0 : Int32)), (0, .ref a0), (1, .long i1)]) d_Rul_touching_1 rfl (by decide) ?_
  refine go_iconst (0 : Int32) d_Rul_touching_2 (by decide) ?_
  refine go_istore (lv' := [(4, .int (0 : Int32)), (3, .int (0 : Int32)), (0, .ref a0), (1, .long i1)]) d_Rul_touching_3 rfl (by decide) ?_
  refine go_sub (lv' := [(0, .ref a0), (1, .long i1), (3, .int (0 : Int32)), (4, .int (0 : Int32))]) [2, 3, 1, 0] rfl ?_
  exact t_Rul_touching_5 hd  _ a0 i1 (0 : Int32) (0 : Int32)  hf
theorem c_Rul_touching {l : Launch} {E : ET} {d : Nat} (hd : 2 ≤ d) {F : Nat} {r : Int32} {h : PH} {x : Nat} {a0 : Nat} {i1 : Int64} (hf : f_Rul_touching F a0 i1 h = some r) : Fn l E m_Rul_touching d 0 0 [.ref a0, .long i1] h x (PoE (some (.int r)) h x) :=
  Fn.of (by decide +kernel) (Nat.le_of_ble_eq_true rfl) (g_Rul_touching_0 hd a0 i1 hf)
theorem d_Rul_area_0 : decode prog_7_method_11_code 0 = .ok (.lconst 0, 1) := by decide +kernel
theorem d_Rul_area_1 : decode prog_7_method_11_code 1 = .ok (.lstore_n 1, 1) := by decide +kernel
theorem d_Rul_area_2 : decode prog_7_method_11_code 2 = .ok (.iconst 0, 1) := by decide +kernel
theorem d_Rul_area_3 : decode prog_7_method_11_code 3 = .ok (.istore_n 3, 1) := by decide +kernel
theorem d_Rul_area_4 : decode prog_7_method_11_code 4 = .ok (.iload_n 3, 1) := by decide +kernel
theorem d_Rul_area_5 : decode prog_7_method_11_code 5 = .ok (.aload_n 0, 1) := by decide +kernel
theorem d_Rul_area_6 : decode prog_7_method_11_code 6 = .ok (.getfield 37, 3) := by decide +kernel
theorem d_Rul_area_9 : decode prog_7_method_11_code 9 = .ok (.if_icmp .ge 26, 3) := by decide +kernel
theorem d_Rul_area_12 : decode prog_7_method_11_code 12 = .ok (.aload_n 0, 1) := by decide +kernel
theorem d_Rul_area_13 : decode prog_7_method_11_code 13 = .ok (.iload_n 3, 1) := by decide +kernel
theorem d_Rul_area_14 : decode prog_7_method_11_code 14 = .ok (.invokevirtual 57, 3) := by decide +kernel
theorem d_Rul_area_17 : decode prog_7_method_11_code 17 = .ok (.ifCond .eq 12, 3) := by decide +kernel
theorem d_Rul_area_20 : decode prog_7_method_11_code 20 = .ok (.lload_n 1, 1) := by decide +kernel
theorem d_Rul_area_21 : decode prog_7_method_11_code 21 = .ok (.aload_n 0, 1) := by decide +kernel
theorem d_Rul_area_22 : decode prog_7_method_11_code 22 = .ok (.getfield 24, 3) := by decide +kernel
theorem d_Rul_area_25 : decode prog_7_method_11_code 25 = .ok (.iload_n 3, 1) := by decide +kernel
theorem d_Rul_area_26 : decode prog_7_method_11_code 26 = .ok (.laload, 1) := by decide +kernel
theorem d_Rul_area_27 : decode prog_7_method_11_code 27 = .ok (.lor, 1) := by decide +kernel
theorem d_Rul_area_28 : decode prog_7_method_11_code 28 = .ok (.lstore_n 1, 1) := by decide +kernel
theorem d_Rul_area_29 : decode prog_7_method_11_code 29 = .ok (.iinc 3 1, 3) := by decide +kernel
theorem d_Rul_area_32 : decode prog_7_method_11_code 32 = .ok (.goto (-28), 3) := by decide +kernel
theorem d_Rul_area_35 : decode prog_7_method_11_code 35 = .ok (.lload_n 1, 1) := by decide +kernel
theorem d_Rul_area_36 : decode prog_7_method_11_code 36 = .ok (.lreturn, 1) := by decide +kernel
def b_Rul_area_29 (F : Nat) (k4 : Nat → Int64 → Int32 → PH → Option Int64) (a0 : Nat) (i1 : Int64) (i3 : Int32) (h : PH) : Option Int64 :=
  k4 a0 i1 (i3 + (1 : Int32)) h
theorem g_Rul_area_29 {l : Launch} {E : ET} {d : Nat} (hd : 2 ≤ d) {F : Nat} {r : Int64} {h : PH} {x : Nat} {k4 : Nat → Int64 → Int32 → PH → Option Int64} (hk4 : ∀ (a0 : Nat) (i1 : Int64) (i3 : Int32), k4 a0 i1 i3 h = some r → Go l E m_Rul_area (rm d 0 0) (KM E 0 0 (PoE (some (.long r)) h x)) 0 0 h x 4 [(0, .ref a0), (1, .long i1), (3, .int i3)] []) (a0 : Nat) (i1 : Int64) (i3 : Int32) (hf : b_Rul_area_29 F k4 a0 i1 i3 h = some r) : Go l E m_Rul_area (rm d 0 0) (KM E 0 0 (PoE (some (.long r)) h x)) 0 0 h x 29 [(0, .ref a0), (1, .long i1), (3, .int i3)] [] := by
  unfold b_Rul_area_29 at hf
  refine go_iinc (lv' := [(3, .int (i3 + (1 : Int32))), (0, .ref a0), (1, .long i1)]) 2 (i3 + (1 : Int32)) d_Rul_area_29 rfl rfl rfl (by decide) ?_
  refine go_goto 4 d_Rul_area_32 (by decide) ?_
  refine go_sub (lv' := [(0, .ref a0), (1, .long i1), (3, .int (i3 + (1 : Int32)))]) [1, 2, 0] rfl ?_
  exact hk4 a0 i1 (i3 + (1 : Int32)) hf
def b_Rul_area_4 (F : Nat) (k4 : Nat → Int64 → Int32 → PH → Option Int64) (a0 : Nat) (i1 : Int64) (i3 : Int32) (h : PH) : Option Int64 :=
  bnd (gI h a0 4 6) fun x1 => (if x1 ≤ i3 then some i1 else bnd (cK h a0 4) fun _ => bnd (f_Rul_isActive a0 i3 h) fun x3 => (if x3 = (0 : Int32) then b_Rul_area_29 F k4 a0 i1 i3 h else bnd (gR h a0 4 4) fun x4 => bnd (aL h x4 i3) fun x5 => b_Rul_area_29 F k4 a0 (i1 ||| x5) i3 h))
def f_Rul_area_4 (F : Nat) : Nat → Nat → Int64 → Int32 → PH → Option Int64
  | 0 => fun _ _ _ _ => none
  | n + 1 => b_Rul_area_4 F (f_Rul_area_4 F n)
theorem g_Rul_area_4 {l : Launch} {E : ET} {d : Nat} (hd : 2 ≤ d) {F : Nat} {r : Int64} {h : PH} {x : Nat} {k4 : Nat → Int64 → Int32 → PH → Option Int64} (hk4 : ∀ (a0 : Nat) (i1 : Int64) (i3 : Int32), k4 a0 i1 i3 h = some r → Go l E m_Rul_area (rm d 0 0) (KM E 0 0 (PoE (some (.long r)) h x)) 0 0 h x 4 [(0, .ref a0), (1, .long i1), (3, .int i3)] []) (a0 : Nat) (i1 : Int64) (i3 : Int32) (hf : b_Rul_area_4 F k4 a0 i1 i3 h = some r) : Go l E m_Rul_area (rm d 0 0) (KM E 0 0 (PoE (some (.long r)) h x)) 0 0 h x 4 [(0, .ref a0), (1, .long i1), (3, .int i3)] [] := by
  unfold b_Rul_area_4 at hf
  refine go_iload_n 2 d_Rul_area_4 rfl ?_
  refine go_aload_n 0 d_Rul_area_5 rfl ?_
  obtain ⟨x1, e_x1, hf⟩ := bnd_x hf
  refine go_get d_Rul_area_6 (gI_x e_x1) fl_Rul_37 ?_
  refine go_icmp_ge 35 d_Rul_area_9 (by decide) (fun q7 => ?_) (fun q7 => ?_)
  · rw [if_pos q7] at hf
    refine go_lload_n 1 d_Rul_area_35 rfl ?_
    have e9 := Option.some.inj hf
    subst e9
    exact go_lret d_Rul_area_36 rfl ⟨rfl, rfl, rfl⟩
  · rw [if_neg q7] at hf
    refine go_aload_n 0 d_Rul_area_12 rfl ?_
    refine go_iload_n 2 d_Rul_area_13 rfl ?_
    obtain ⟨_, e2, hf⟩ := bnd_x hf
    obtain ⟨x3, e_x3, hf⟩ := bnd_x hf
    refine go_callV_I (As := [.int i3]) (st := []) (c_Rul_isActive (d := d - 1) (by omega) e_x3) lk_Rul_57 rfl rfl e2 (by decide) rfl (rm_ok (by omega)) (Nat.le_of_ble_eq_true rfl) rm_c d_Rul_area_14 ?_
    refine go_if_eq 29 d_Rul_area_17 (by decide) (fun q6 => ?_) (fun q6 => ?_)
    · rw [if_pos q6] at hf
      refine go_sub (lv' := [(0, .ref a0), (1, .long i1), (3, .int i3)]) [0, 1, 2] rfl ?_
      exact g_Rul_area_29 hd hk4 a0 i1 i3  hf
    · rw [if_neg q6] at hf
      refine go_lload_n 1 d_Rul_area_20 rfl ?_
      refine go_aload_n 0 d_Rul_area_21 rfl ?_
      obtain ⟨x4, e_x4, hf⟩ := bnd_x hf
      refine go_get d_Rul_area_22 (gR_x e_x4) fl_Rul_24 ?_
      refine go_iload_n 2 d_Rul_area_25 rfl ?_
      obtain ⟨x5, e_x5, hf⟩ := bnd_x hf
      refine go_laload d_Rul_area_26 e_x5 ?_
      refine go_lor d_Rul_area_27 ?_
      refine go_lstore_n (lv' := [(1, .long (i1 ||| x5)), (0, .ref a0), (3, .int i3)]) d_Rul_area_28 rfl (by decide) ?_
      refine go_sub (lv' := [(0, .ref a0), (1, .long (i1 ||| x5)), (3, .int i3)]) [1, 0, 2] rfl ?_
      exact g_Rul_area_29 hd hk4 a0 (i1 ||| x5) i3  hf
theorem t_Rul_area_4 {l : Launch} {E : ET} {d : Nat} (hd : 2 ≤ d) {F : Nat} {r : Int64} {h : PH} {x : Nat}  : ∀ (n : Nat) (a0 : Nat) (i1 : Int64) (i3 : Int32), f_Rul_area_4 F n a0 i1 i3 h = some r → Go l E m_Rul_area (rm d 0 0) (KM E 0 0 (PoE (some (.long r)) h x)) 0 0 h x 4 [(0, .ref a0), (1, .long i1), (3, .int i3)] [] := by
  intro n
  induction n with
  | zero => intro v0 v1 v2 hf; cases hf
  | succ n ih => intro v0 v1 v2 hf; exact g_Rul_area_4 hd ih v0 v1 v2 hf
def f_Rul_area (F : Nat) (a0 : Nat) (h : PH) : Option Int64 :=
  f_Rul_area_4 F F a0 (0 : Int64) (0 : Int32) h
theorem g_Rul_area_0 {l : Launch} {E : ET} {d : Nat} (hd : 2 ≤ d) {F : Nat} {r : Int64} {h : PH} {x : Nat}  (a0 : Nat) (hf : f_Rul_area F a0 h = some r) : Go l E m_Rul_area (rm d 0 0) (KM E 0 0 (PoE (some (.long r)) h x)) 0 0 h x 0 [(0, .ref a0)] [] := by
  unfold f_Rul_area at hf
  refine go_lconst (0 : Int64) d_Rul_area_0 (by decide) ?_
  refine go_lstore_n (lv' := [(1, .long (0 : Int64)), (0, .ref a0)]) d_Rul_area_1 rfl (by decide) ?_
  refine go_iconst (0 : Int32) d_Rul_area_2 (by decide) ?_
  refine go_istore_n (lv' := [(3, .int (0 : Int32)), (1, .long (0 : Int64)), (0, .ref a0)]) d_Rul_area_3 rfl (by decide) ?_
  refine go_sub (lv' := [(0, .ref a0), (1, .long (0 : Int64)), (3, .int (0 : Int32))]) [2, 1, 0] rfl ?_
  exact t_Rul_area_4 hd  _ a0 (0 : Int64) (0 : Int32)  hf
theorem c_Rul_area {l : Launch} {E : ET} {d : Nat} (hd : 2 ≤ d) {F : Nat} {r : Int64} {h : PH} {x : Nat} {a0 : Nat} (hf : f_Rul_area F a0 h = some r) : Fn l E m_Rul_area d 0 0 [.ref a0] h x (PoE (some (.long r)) h x) :=
  Fn.of (by decide +kernel) (Nat.le_of_ble_eq_true rfl) (g_Rul_area_0 hd a0 hf)
theorem d_Rul_hash_0 : decode prog_7_method_12_code 0 = .ok (.lload_n 1, 1) := by decide +kernel
theorem d_Rul_hash_1 : decode prog_7_method_12_code 1 = .ok (.lstore_n 3, 1) := by decide +kernel
theorem d_Rul_hash_2 : decode prog_7_method_12_code 2 = .ok (.iconst 0, 1) := by decide +kernel
theorem d_Rul_hash_3 : decode prog_7_method_12_code 3 = .ok (.istore 5, 2) := by decide +kernel
theorem d_Rul_hash_5 : decode prog_7_method_12_code 5 = .ok (.iload 5, 2) := by decide +kernel
theorem d_Rul_hash_7 : decode prog_7_method_12_code 7 = .ok (.aload_n 0, 1) := by decide +kernel
theorem d_Rul_hash_8 : decode prog_7_method_12_code 8 = .ok (.getfield 37, 3) := by decide +kernel
theorem d_Rul_hash_11 : decode prog_7_method_12_code 11 = .ok (.if_icmp .ge 91, 3) := by decide +kernel
theorem d_Rul_hash_14 : decode prog_7_method_12_code 14 = .ok (.ldc2_w 60, 3) := by decide +kernel
theorem d_Rul_hash_17 : decode prog_7_method_12_code 17 = .ok (.lload_n 3, 1) := by decide +kernel
theorem d_Rul_hash_18 : decode prog_7_method_12_code 18 = .ok (.lmul, 1) := by decide +kernel
theorem d_Rul_hash_19 : decode prog_7_method_12_code 19 = .ok (.aload_n 0, 1) := by decide +kernel
theorem d_Rul_hash_20 : decode prog_7_method_12_code 20 = .ok (.getfield 9, 3) := by decide +kernel
theorem d_Rul_hash_23 : decode prog_7_method_12_code 23 = .ok (.iload 5, 2) := by decide +kernel
theorem d_Rul_hash_25 : decode prog_7_method_12_code 25 = .ok (.iaload, 1) := by decide +kernel
theorem d_Rul_hash_26 : decode prog_7_method_12_code 26 = .ok (.i2l, 1) := by decide +kernel
theorem d_Rul_hash_27 : decode prog_7_method_12_code 27 = .ok (.ladd, 1) := by decide +kernel
theorem d_Rul_hash_28 : decode prog_7_method_12_code 28 = .ok (.lstore_n 3, 1) := by decide +kernel
theorem d_Rul_hash_29 : decode prog_7_method_12_code 29 = .ok (.ldc2_w 60, 3) := by decide +kernel
theorem d_Rul_hash_32 : decode prog_7_method_12_code 32 = .ok (.lload_n 3, 1) := by decide +kernel
theorem d_Rul_hash_33 : decode prog_7_method_12_code 33 = .ok (.lmul, 1) := by decide +kernel
theorem d_Rul_hash_34 : decode prog_7_method_12_code 34 = .ok (.aload_n 0, 1) := by decide +kernel
theorem d_Rul_hash_35 : decode prog_7_method_12_code 35 = .ok (.getfield 15, 3) := by decide +kernel
theorem d_Rul_hash_38 : decode prog_7_method_12_code 38 = .ok (.iload 5, 2) := by decide +kernel
theorem d_Rul_hash_40 : decode prog_7_method_12_code 40 = .ok (.iaload, 1) := by decide +kernel
theorem d_Rul_hash_41 : decode prog_7_method_12_code 41 = .ok (.i2l, 1) := by decide +kernel
theorem d_Rul_hash_42 : decode prog_7_method_12_code 42 = .ok (.ladd, 1) := by decide +kernel
theorem d_Rul_hash_43 : decode prog_7_method_12_code 43 = .ok (.lstore_n 3, 1) := by decide +kernel
theorem d_Rul_hash_44 : decode prog_7_method_12_code 44 = .ok (.ldc2_w 60, 3) := by decide +kernel
theorem d_Rul_hash_47 : decode prog_7_method_12_code 47 = .ok (.lload_n 3, 1) := by decide +kernel
theorem d_Rul_hash_48 : decode prog_7_method_12_code 48 = .ok (.lmul, 1) := by decide +kernel
theorem d_Rul_hash_49 : decode prog_7_method_12_code 49 = .ok (.aload_n 0, 1) := by decide +kernel
theorem d_Rul_hash_50 : decode prog_7_method_12_code 50 = .ok (.getfield 18, 3) := by decide +kernel
theorem d_Rul_hash_53 : decode prog_7_method_12_code 53 = .ok (.iload 5, 2) := by decide +kernel
theorem d_Rul_hash_55 : decode prog_7_method_12_code 55 = .ok (.iaload, 1) := by decide +kernel
theorem d_Rul_hash_56 : decode prog_7_method_12_code 56 = .ok (.i2l, 1) := by decide +kernel
theorem d_Rul_hash_57 : decode prog_7_method_12_code 57 = .ok (.ladd, 1) := by decide +kernel
theorem d_Rul_hash_58 : decode prog_7_method_12_code 58 = .ok (.lstore_n 3, 1) := by decide +kernel
theorem d_Rul_hash_59 : decode prog_7_method_12_code 59 = .ok (.iconst 0, 1) := by decide +kernel
theorem d_Rul_hash_60 : decode prog_7_method_12_code 60 = .ok (.istore 6, 2) := by decide +kernel
theorem d_Rul_hash_62 : decode prog_7_method_12_code 62 = .ok (.iload 6, 2) := by decide +kernel
theorem d_Rul_hash_64 : decode prog_7_method_12_code 64 = .ok (.aload_n 0, 1) := by decide +kernel
theorem d_Rul_hash_65 : decode prog_7_method_12_code 65 = .ok (.getfield 18, 3) := by decide +kernel
theorem d_Rul_hash_68 : decode prog_7_method_12_code 68 = .ok (.iload 5, 2) := by decide +kernel
theorem d_Rul_hash_70 : decode prog_7_method_12_code 70 = .ok (.iaload, 1) := by decide +kernel
theorem d_Rul_hash_71 : decode prog_7_method_12_code 71 = .ok (.if_icmp .ge 25, 3) := by decide +kernel
theorem d_Rul_hash_74 : decode prog_7_method_12_code 74 = .ok (.ldc2_w 60, 3) := by decide +kernel
theorem d_Rul_hash_77 : decode prog_7_method_12_code 77 = .ok (.lload_n 3, 1) := by decide +kernel
theorem d_Rul_hash_78 : decode prog_7_method_12_code 78 = .ok (.lmul, 1) := by decide +kernel
theorem d_Rul_hash_79 : decode prog_7_method_12_code 79 = .ok (.aload_n 0, 1) := by decide +kernel
theorem d_Rul_hash_80 : decode prog_7_method_12_code 80 = .ok (.iload 5, 2) := by decide +kernel
theorem d_Rul_hash_82 : decode prog_7_method_12_code 82 = .ok (.iload 6, 2) := by decide +kernel
theorem d_Rul_hash_84 : decode prog_7_method_12_code 84 = .ok (.invokevirtual 51, 3) := by decide +kernel
theorem d_Rul_hash_87 : decode prog_7_method_12_code 87 = .ok (.i2l, 1) := by decide +kernel
theorem d_Rul_hash_88 : decode prog_7_method_12_code 88 = .ok (.ladd, 1) := by decide +kernel
theorem d_Rul_hash_89 : decode prog_7_method_12_code 89 = .ok (.lstore_n 3, 1) := by decide +kernel
theorem d_Rul_hash_90 : decode prog_7_method_12_code 90 = .ok (.iinc 6 1, 3) := by decide +kernel
theorem d_Rul_hash_93 : decode prog_7_method_12_code 93 = .ok (.goto (-31), 3) := by decide +kernel
theorem d_Rul_hash_96 : decode prog_7_method_12_code 96 = .ok (.iinc 5 1, 3) := by decide +kernel
theorem d_Rul_hash_99 : decode prog_7_method_12_code 99 = .ok (.goto (-94), 3) := by decide +kernel
theorem d_Rul_hash_102 : decode prog_7_method_12_code 102 = .ok (.lload_n 3, 1) := by decide +kernel
theorem d_Rul_hash_103 : decode prog_7_method_12_code 103 = .ok (.lreturn, 1) := by decide +kernel
def b_Rul_hash_62 (F : Nat) (k5 : Nat → Int64 → Int32 → PH → Option Int64) (k62 : Nat → Int64 → Int32 → Int32 → PH → Option Int64) (a0 : Nat) (i3 : Int64) (i5 : Int32) (i6 : Int32) (h : PH) : Option Int64 :=
  bnd (gR h a0 4 2) fun x1 => bnd (aI h x1 i5) fun x2 => (if x2 ≤ i6 then k5 a0 i3 (i5 + (1 : Int32)) h else bnd (cK h a0 4) fun _ => bnd (f_Rul_cellAt a0 i5 i6 h) fun x4 => bnd (some (((31 : Int64) * i3) + (x4.toInt64))) fun y5 => k62 a0 y5 i5 (i6 + (1 : Int32)) h)
def f_Rul_hash_62 (F : Nat) (k5 : Nat → Int64 → Int32 → PH → Option Int64) : Nat → Nat → Int64 → Int32 → Int32 → PH → Option Int64
  | 0 => fun _ _ _ _ _ => none
  | n + 1 => b_Rul_hash_62 F k5 (f_Rul_hash_62 F k5 n)
theorem g_Rul_hash_62 {l : Launch} {E : ET} {d : Nat} (hd : 2 ≤ d) {F : Nat} {r : Int64} {h : PH} {x : Nat} {k5 : Nat → Int64 → Int32 → PH → Option Int64} (hk5 : ∀ (a0 : Nat) (i3 : Int64) (i5 : Int32), k5 a0 i3 i5 h = some r → Go l E m_Rul_hash (rm d 0 0) (KM E 0 0 (PoE (some (.long r)) h x)) 0 0 h x 5 [(0, .ref a0), (3, .long i3), (5, .int i5)] []) {k62 : Nat → Int64 → Int32 → Int32 → PH → Option Int64} (hk62 : ∀ (a0 : Nat) (i3 : Int64) (i5 : Int32) (i6 : Int32), k62 a0 i3 i5 i6 h = some r → Go l E m_Rul_hash (rm d 0 0) (KM E 0 0 (PoE (some (.long r)) h x)) 0 0 h x 62 [(0, .ref a0), (3, .long i3), (5, .int i5), (6, .int i6)] []) (a0 : Nat) (i3 : Int64) (i5 : Int32) (i6 : Int32) (hf : b_Rul_hash_62 F k5 k62 a0 i3 i5 i6 h = some r) : Go l E m_Rul_hash (rm d 0 0) (KM E 0 0 (PoE (some (.long r)) h x)) 0 0 h x 62 [(0, .ref a0), (3, .long i3), (5, .int i5), (6, .int i6)] [] := by
  unfold b_Rul_hash_62 at hf
  refine go_iload 3 d_Rul_hash_62 rfl ?_
  refine go_aload_n 0 d_Rul_hash_64 rfl ?_
  obtain ⟨x1, e_x1, hf⟩ := bnd_x hf
  refine go_get d_Rul_hash_65 (gR_x e_x1) fl_Rul_18 ?_
  refine go_iload 2 d_Rul_hash_68 rfl ?_
  obtain ⟨x2, e_x2, hf⟩ := bnd_x hf
  refine go_iaload d_Rul_hash_70 e_x2 ?_
  refine go_icmp_ge 96 d_Rul_hash_71 (by decide) (fun q6 => ?_) (fun q6 => ?_)
  · rw [if_pos q6] at hf
    refine go_iinc (lv' := [(5, .int (i5 + (1 : Int32))), (0, .ref a0), (3, .long i3), (6, .int i6)]) 2 (i5 + (1 : Int32)) d_Rul_hash_96 rfl rfl rfl (by decide) ?_
    refine go_goto 5 d_Rul_hash_99 (by decide) ?_
    refine go_sub (lv' := [(0, .ref a0), (3, .long i3), (5, .int (i5 + (1 : Int32)))]) [1, 2, 0] rfl ?_
    exact hk5 a0 i3 (i5 + (1 : Int32)) hf
  · rw [if_neg q6] at hf
    refine go_ldc2 (31 : Int64) d_Rul_hash_74 kl_Rul_60 ?_
    refine go_lload_n 1 d_Rul_hash_77 rfl ?_
    refine go_lmul d_Rul_hash_78 ?_
    refine go_aload_n 0 d_Rul_hash_79 rfl ?_
    refine go_iload 2 d_Rul_hash_80 rfl ?_
    refine go_iload 3 d_Rul_hash_82 rfl ?_
    obtain ⟨_, e3, hf⟩ := bnd_x hf
    obtain ⟨x4, e_x4, hf⟩ := bnd_x hf
    refine go_callV_I (As := [.int i5, .int i6]) (st := [.long ((31 : Int64) * i3)]) (c_Rul_cellAt (d := d - 1) (by omega) e_x4) lk_Rul_51 rfl rfl e3 (by decide) rfl (rm_ok (by omega)) (Nat.le_of_ble_eq_true rfl) rm_c d_Rul_hash_84 ?_
    refine go_i2l d_Rul_hash_87 ?_
    refine go_ladd d_Rul_hash_88 ?_
    obtain ⟨y5, e_y5, hf⟩ := bnd_x hf
    refine go_nmL e_y5 ?_
    refine go_lstore_n (lv' := [(3, .long y5), (0, .ref a0), (5, .int i5), (6, .int i6)]) d_Rul_hash_89 rfl (by decide) ?_
    refine go_iinc (lv' := [(6, .int (i6 + (1 : Int32))), (3, .long y5), (0, .ref a0), (5, .int i5)]) 3 (i6 + (1 : Int32)) d_Rul_hash_90 rfl rfl rfl (by decide) ?_
    refine go_goto 62 d_Rul_hash_93 (by decide) ?_
    refine go_sub (lv' := [(0, .ref a0), (3, .long y5), (5, .int i5), (6, .int (i6 + (1 : Int32)))]) [2, 1, 3, 0] rfl ?_
    exact hk62 a0 y5 i5 (i6 + (1 : Int32)) hf
theorem t_Rul_hash_62 {l : Launch} {E : ET} {d : Nat} (hd : 2 ≤ d) {F : Nat} {r : Int64} {h : PH} {x : Nat} {k5 : Nat → Int64 → Int32 → PH → Option Int64} (hk5 : ∀ (a0 : Nat) (i3 : Int64) (i5 : Int32), k5 a0 i3 i5 h = some r → Go l E m_Rul_hash (rm d 0 0) (KM E 0 0 (PoE (some (.long r)) h x)) 0 0 h x 5 [(0, .ref a0), (3, .long i3), (5, .int i5)] []) : ∀ (n : Nat) (a0 : Nat) (i3 : Int64) (i5 : Int32) (i6 : Int32), f_Rul_hash_62 F k5 n a0 i3 i5 i6 h = some r → Go l E m_Rul_hash (rm d 0 0) (KM E 0 0 (PoE (some (.long r)) h x)) 0 0 h x 62 [(0, .ref a0), (3, .long i3), (5, .int i5), (6, .int i6)] [] := by
  intro n
  induction n with
  | zero => intro v0 v1 v2 v3 hf; cases hf
  | succ n ih => intro v0 v1 v2 v3 hf; exact g_Rul_hash_62 hd hk5 ih v0 v1 v2 v3 hf
def b_Rul_hash_5 (F : Nat) (k5 : Nat → Int64 → Int32 → PH → Option Int64) (a0 : Nat) (i3 : Int64) (i5 : Int32) (h : PH) : Option Int64 :=
  bnd (gI h a0 4 6) fun x1 => (if x1 ≤ i5 then some i3 else bnd (gR h a0 4 0) fun x2 => bnd (aI h x2 i5) fun x3 => bnd (some (((31 : Int64) * i3) + (x3.toInt64))) fun y4 => bnd (gR h a0 4 1) fun x5 => bnd (aI h x5 i5) fun x6 => bnd (some (((31 : Int64) * y4) + (x6.toInt64))) fun y7 => bnd (gR h a0 4 2) fun x8 => bnd (aI h x8 i5) fun x9 => bnd (some (((31 : Int64) * y7) + (x9.toInt64))) fun y10 => f_Rul_hash_62 F k5 F a0 y10 i5 (0 : Int32) h)
def f_Rul_hash_5 (F : Nat) : Nat → Nat → Int64 → Int32 → PH → Option Int64
  | 0 => fun _ _ _ _ => none
  | n + 1 => b_Rul_hash_5 F (f_Rul_hash_5 F n)
theorem g_Rul_hash_5 {l : Launch} {E : ET} {d : Nat} (hd : 2 ≤ d) {F : Nat} {r : Int64} {h : PH} {x : Nat} {k5 : Nat → Int64 → Int32 → PH → Option Int64} (hk5 : ∀ (a0 : Nat) (i3 : Int64) (i5 : Int32), k5 a0 i3 i5 h = some r → Go l E m_Rul_hash (rm d 0 0) (KM E 0 0 (PoE (some (.long r)) h x)) 0 0 h x 5 [(0, .ref a0), (3, .long i3), (5, .int i5)] []) (a0 : Nat) (i3 : Int64) (i5 : Int32) (hf : b_Rul_hash_5 F k5 a0 i3 i5 h = some r) : Go l E m_Rul_hash (rm d 0 0) (KM E 0 0 (PoE (some (.long r)) h x)) 0 0 h x 5 [(0, .ref a0), (3, .long i3), (5, .int i5)] [] := by
  unfold b_Rul_hash_5 at hf
  refine go_iload 2 d_Rul_hash_5 rfl ?_
  refine go_aload_n 0 d_Rul_hash_7 rfl ?_
  obtain ⟨x1, e_x1, hf⟩ := bnd_x hf
  refine go_get d_Rul_hash_8 (gI_x e_x1) fl_Rul_37 ?_
  refine go_icmp_ge 102 d_Rul_hash_11 (by decide) (fun q11 => ?_) (fun q11 => ?_)
  · rw [if_pos q11] at hf
    refine go_lload_n 1 d_Rul_hash_102 rfl ?_
    have e9 := Option.some.inj hf
    subst e9
    exact go_lret d_Rul_hash_103 rfl ⟨rfl, rfl, rfl⟩
  · rw [if_neg q11] at hf
    refine go_ldc2 (31 : Int64) d_Rul_hash_14 kl_Rul_60 ?_
    refine go_lload_n 1 d_Rul_hash_17 rfl ?_
    refine go_lmul d_Rul_hash_18 ?_
    refine go_aload_n 0 d_Rul_hash_19 rfl ?_
    obtain ⟨x2, e_x2, hf⟩ := bnd_x hf
    refine go_get d_Rul_hash_20 (gR_x e_x2) fl_Rul_9 ?_
    refine go_iload 2 d_Rul_hash_23 rfl ?_
    obtain ⟨x3, e_x3, hf⟩ := bnd_x hf
    refine go_iaload d_Rul_hash_25 e_x3 ?_
    refine go_i2l d_Rul_hash_26 ?_
    refine go_ladd d_Rul_hash_27 ?_
    obtain ⟨y4, e_y4, hf⟩ := bnd_x hf
    refine go_nmL e_y4 ?_
    refine go_lstore_n (lv' := [(3, .long y4), (0, .ref a0), (5, .int i5)]) d_Rul_hash_28 rfl (by decide) ?_
    refine go_ldc2 (31 : Int64) d_Rul_hash_29 kl_Rul_60 ?_
    refine go_lload_n 0 d_Rul_hash_32 rfl ?_
    refine go_lmul d_Rul_hash_33 ?_
    refine go_aload_n 1 d_Rul_hash_34 rfl ?_
    obtain ⟨x5, e_x5, hf⟩ := bnd_x hf
    refine go_get d_Rul_hash_35 (gR_x e_x5) fl_Rul_15 ?_
    refine go_iload 2 d_Rul_hash_38 rfl ?_
    obtain ⟨x6, e_x6, hf⟩ := bnd_x hf
    refine go_iaload d_Rul_hash_40 e_x6 ?_
    refine go_i2l d_Rul_hash_41 ?_
    refine go_ladd d_Rul_hash_42 ?_
    obtain ⟨y7, e_y7, hf⟩ := bnd_x hf
    refine go_nmL e_y7 ?_
    refine go_lstore_n (lv' := [(3, .long y7), (0, .ref a0), (5, .int i5)]) d_Rul_hash_43 rfl (by decide) ?_
    refine go_ldc2 (31 : Int64) d_Rul_hash_44 kl_Rul_60 ?_
    refine go_lload_n 0 d_Rul_hash_47 rfl ?_
    refine go_lmul d_Rul_hash_48 ?_
    refine go_aload_n 1 d_Rul_hash_49 rfl ?_
    obtain ⟨x8, e_x8, hf⟩ := bnd_x hf
    refine go_get d_Rul_hash_50 (gR_x e_x8) fl_Rul_18 ?_
    refine go_iload 2 d_Rul_hash_53 rfl ?_
    obtain ⟨x9, e_x9, hf⟩ := bnd_x hf
    refine go_iaload d_Rul_hash_55 e_x9 ?_
    refine go_i2l d_Rul_hash_56 ?_
    refine go_ladd d_Rul_hash_57 ?_
    obtain ⟨y10, e_y10, hf⟩ := bnd_x hf
    refine go_nmL e_y10 ?_
    refine go_lstore_n (lv' := [(3, .long y10), (0, .ref a0), (5, .int i5)]) d_Rul_hash_58 rfl (by decide) ?_
    refine go_iconst (0 : Int32) d_Rul_hash_59 (by decide) ?_
    refine go_istore (lv' := [(6, .int (0 : Int32)), (3, .long y10), (0, .ref a0), (5, .int i5)]) d_Rul_hash_60 rfl (by decide) ?_
    refine go_sub (lv' := [(0, .ref a0), (3, .long y10), (5, .int i5), (6, .int (0 : Int32))]) [2, 1, 3, 0] rfl ?_
    exact t_Rul_hash_62 hd hk5 _ a0 y10 i5 (0 : Int32)  hf
theorem t_Rul_hash_5 {l : Launch} {E : ET} {d : Nat} (hd : 2 ≤ d) {F : Nat} {r : Int64} {h : PH} {x : Nat}  : ∀ (n : Nat) (a0 : Nat) (i3 : Int64) (i5 : Int32), f_Rul_hash_5 F n a0 i3 i5 h = some r → Go l E m_Rul_hash (rm d 0 0) (KM E 0 0 (PoE (some (.long r)) h x)) 0 0 h x 5 [(0, .ref a0), (3, .long i3), (5, .int i5)] [] := by
  intro n
  induction n with
  | zero => intro v0 v1 v2 hf; cases hf
  | succ n ih => intro v0 v1 v2 hf; exact g_Rul_hash_5 hd ih v0 v1 v2 hf
def f_Rul_hash (F : Nat) (a0 : Nat) (i1 : Int64) (h : PH) : Option Int64 :=
  f_Rul_hash_5 F F a0 i1 (0 : Int32) h
theorem g_Rul_hash_0 {l : Launch} {E : ET} {d : Nat} (hd : 2 ≤ d) {F : Nat} {r : Int64} {h : PH} {x : Nat}  (a0 : Nat) (i1 : Int64) (hf : f_Rul_hash F a0 i1 h = some r) : Go l E m_Rul_hash (rm d 0 0) (KM E 0 0 (PoE (some (.long r)) h x)) 0 0 h x 0 [(0, .ref a0), (1, .long i1)] [] := by
  unfold f_Rul_hash at hf
  refine go_lload_n 1 d_Rul_hash_0 rfl ?_
  refine go_lstore_n (lv' := [(3, .long i1), (0, .ref a0), (1, .long i1)]) d_Rul_hash_1 rfl (by decide) ?_
  refine go_iconst (0 : Int32) d_Rul_hash_2 (by decide) ?_
  refine go_istore (lv' := [(5, .int (0 : Int32)), (3, .long i1), (0, .ref a0), (1, .long i1)]) d_Rul_hash_3 rfl (by decide) ?_
  refine go_sub (lv' := [(0, .ref a0), (3, .long i1), (5, .int (0 : Int32))]) [2, 1, 0] rfl ?_
  exact t_Rul_hash_5 hd  _ a0 i1 (0 : Int32)  hf
theorem c_Rul_hash {l : Launch} {E : ET} {d : Nat} (hd : 2 ≤ d) {F : Nat} {r : Int64} {h : PH} {x : Nat} {a0 : Nat} {i1 : Int64} (hf : f_Rul_hash F a0 i1 h = some r) : Fn l E m_Rul_hash d 0 0 [.ref a0, .long i1] h x (PoE (some (.long r)) h x) :=
  Fn.of (by decide +kernel) (Nat.le_of_ble_eq_true rfl) (g_Rul_hash_0 hd a0 i1 hf)
theorem d_Shu_seed_0 : decode prog_8_method_2_code 0 = .ok (.aload_n 0, 1) := by decide +kernel
theorem d_Shu_seed_1 : decode prog_8_method_2_code 1 = .ok (.iload_n 1, 1) := by decide +kernel
theorem d_Shu_seed_2 : decode prog_8_method_2_code 2 = .ok (.i2l, 1) := by decide +kernel
theorem d_Shu_seed_3 : decode prog_8_method_2_code 3 = .ok (.putfield 7, 3) := by decide +kernel
theorem d_Shu_seed_6 : decode prog_8_method_2_code 6 = .ok (.return_, 1) := by decide +kernel
def f_Shu_seed (a0 : Nat) (i1 : Int32) (h : PH) : Option PH :=
  bnd (pV h a0 5 0 (.long (i1.toInt64))) fun h1 => some h1
theorem g_Shu_seed_0 {l : Launch} {E : ET} {d : Nat} (hd : 1 ≤ d) {h9 : PH} {x : Nat}  (a0 : Nat) (i1 : Int32) (h : PH) (hf : f_Shu_seed a0 i1 h = some h9) : Go l E m_Shu_seed (rm d 0 0) (KM E 0 0 (PoE none h9 x)) 0 0 h x 0 [(0, .ref a0), (1, .int i1)] [] := by
  unfold f_Shu_seed at hf
  refine go_aload_n 0 d_Shu_seed_0 rfl ?_
  refine go_iload_n 1 d_Shu_seed_1 rfl ?_
  refine go_i2l d_Shu_seed_2 ?_
  obtain ⟨h1, e_h1, hf⟩ := bnd_x hf
  refine go_putL d_Shu_seed_3 e_h1 fl_Shu_7 rfl rfl ?_
  have e9 := Option.some.inj hf
  subst e9
  exact go_vret d_Shu_seed_6 rfl ⟨rfl, rfl, rfl⟩
theorem c_Shu_seed {l : Launch} {E : ET} {d : Nat} (hd : 1 ≤ d) {h9 : PH} {x : Nat} {a0 : Nat} {i1 : Int32} {h : PH} (hf : f_Shu_seed a0 i1 h = some h9) : Fn l E m_Shu_seed d 0 0 [.ref a0, .int i1] h x (PoE none h9 x) :=
  Fn.of (by decide +kernel) (Nat.le_of_ble_eq_true rfl) (g_Shu_seed_0 hd a0 i1 h hf)
theorem d_Shu_draw_0 : decode prog_8_method_4_code 0 = .ok (.aload_n 0, 1) := by decide +kernel
theorem d_Shu_draw_1 : decode prog_8_method_4_code 1 = .ok (.ldc2_w 17, 3) := by decide +kernel
theorem d_Shu_draw_4 : decode prog_8_method_4_code 4 = .ok (.aload_n 0, 1) := by decide +kernel
theorem d_Shu_draw_5 : decode prog_8_method_4_code 5 = .ok (.getfield 7, 3) := by decide +kernel
theorem d_Shu_draw_8 : decode prog_8_method_4_code 8 = .ok (.lmul, 1) := by decide +kernel
theorem d_Shu_draw_9 : decode prog_8_method_4_code 9 = .ok (.ldc2_w 19, 3) := by decide +kernel
theorem d_Shu_draw_12 : decode prog_8_method_4_code 12 = .ok (.ladd, 1) := by decide +kernel
theorem d_Shu_draw_13 : decode prog_8_method_4_code 13 = .ok (.ldc2_w 21, 3) := by decide +kernel
theorem d_Shu_draw_16 : decode prog_8_method_4_code 16 = .ok (.lrem, 1) := by decide +kernel
theorem d_Shu_draw_17 : decode prog_8_method_4_code 17 = .ok (.putfield 7, 3) := by decide +kernel
theorem d_Shu_draw_20 : decode prog_8_method_4_code 20 = .ok (.iload_n 1, 1) := by decide +kernel
theorem d_Shu_draw_21 : decode prog_8_method_4_code 21 = .ok (.iconst 1, 1) := by decide +kernel
theorem d_Shu_draw_22 : decode prog_8_method_4_code 22 = .ok (.if_icmp .ge 7, 3) := by decide +kernel
theorem d_Shu_draw_25 : decode prog_8_method_4_code 25 = .ok (.iconst 0, 1) := by decide +kernel
theorem d_Shu_draw_26 : decode prog_8_method_4_code 26 = .ok (.goto 15, 3) := by decide +kernel
theorem d_Shu_draw_29 : decode prog_8_method_4_code 29 = .ok (.aload_n 0, 1) := by decide +kernel
theorem d_Shu_draw_30 : decode prog_8_method_4_code 30 = .ok (.getfield 7, 3) := by decide +kernel
theorem d_Shu_draw_33 : decode prog_8_method_4_code 33 = .ok (.ldc2_w 23, 3) := by decide +kernel
theorem d_Shu_draw_36 : decode prog_8_method_4_code 36 = .ok (.ldiv, 1) := by decide +kernel
theorem d_Shu_draw_37 : decode prog_8_method_4_code 37 = .ok (.iload_n 1, 1) := by decide +kernel
theorem d_Shu_draw_38 : decode prog_8_method_4_code 38 = .ok (.i2l, 1) := by decide +kernel
theorem d_Shu_draw_39 : decode prog_8_method_4_code 39 = .ok (.lrem, 1) := by decide +kernel
theorem d_Shu_draw_40 : decode prog_8_method_4_code 40 = .ok (.l2i, 1) := by decide +kernel
theorem d_Shu_draw_41 : decode prog_8_method_4_code 41 = .ok (.ireturn, 1) := by decide +kernel
def f_Shu_draw (a0 : Nat) (i1 : Int32) (h : PH) : Option (Int32 × PH) :=
  bnd (gL h a0 5 0) fun x1 => bnd (pV h a0 5 0 (.long ((((1103515245 : Int64) * x1) + (12345 : Int64)) - (((1103515245 : Int64) * x1) + (12345 : Int64)) / (2147483648 : Int64) * (2147483648 : Int64)))) fun h2 => (if (1 : Int32) ≤ i1 then bnd (gL h2 a0 5 0) fun x3 => bnd (cDL (i1.toInt64)) fun _ => some ((((x3 / (65536 : Int64)) - (x3 / (65536 : Int64)) / (i1.toInt64) * (i1.toInt64)).toInt32), h2) else some ((0 : Int32), h2))
theorem g_Shu_draw_0 {l : Launch} {E : ET} {d : Nat} (hd : 1 ≤ d) {r : Int32} {h9 : PH} {x : Nat}  (a0 : Nat) (i1 : Int32) (h : PH) (hf : f_Shu_draw a0 i1 h = some (r, h9)) : Go l E m_Shu_draw (rm d 0 0) (KM E 0 0 (PoE (some (.int r)) h9 x)) 0 0 h x 0 [(0, .ref a0), (1, .int i1)] [] := by
  unfold f_Shu_draw at hf
  refine go_aload_n 0 d_Shu_draw_0 rfl ?_
  refine go_ldc2 (1103515245 : Int64) d_Shu_draw_1 kl_Shu_17 ?_
  refine go_aload_n 0 d_Shu_draw_4 rfl ?_
  obtain ⟨x1, e_x1, hf⟩ := bnd_x hf
  refine go_get d_Shu_draw_5 (gL_x e_x1) fl_Shu_7 ?_
  refine go_lmul d_Shu_draw_8 ?_
  refine go_ldc2 (12345 : Int64) d_Shu_draw_9 kl_Shu_19 ?_
  refine go_ladd d_Shu_draw_12 ?_
  refine go_ldc2 (2147483648 : Int64) d_Shu_draw_13 kl_Shu_21 ?_
  refine go_lrem d_Shu_draw_16 (by decide) ?_
  obtain ⟨h2, e_h2, hf⟩ := bnd_x hf
  refine go_putL d_Shu_draw_17 e_h2 fl_Shu_7 rfl rfl ?_
  refine go_iload_n 1 d_Shu_draw_20 rfl ?_
  refine go_iconst (1 : Int32) d_Shu_draw_21 (by decide) ?_
  refine go_icmp_ge 29 d_Shu_draw_22 (by decide) (fun q5 => ?_) (fun q5 => ?_)
  · rw [if_pos q5] at hf
    refine go_aload_n 0 d_Shu_draw_29 rfl ?_
    obtain ⟨x3, e_x3, hf⟩ := bnd_x hf
    refine go_get d_Shu_draw_30 (gL_x e_x3) fl_Shu_7 ?_
    refine go_ldc2 (65536 : Int64) d_Shu_draw_33 kl_Shu_23 ?_
    refine go_ldiv d_Shu_draw_36 (by decide) ?_
    refine go_iload_n 1 d_Shu_draw_37 rfl ?_
    refine go_i2l d_Shu_draw_38 ?_
    obtain ⟨_, e4, hf⟩ := bnd_x hf
    refine go_lrem d_Shu_draw_39 (cDL_x e4) ?_
    refine go_l2i d_Shu_draw_40 ?_
    obtain ⟨e8, e9⟩ := Prod.mk.inj (Option.some.inj hf)
    subst e8; subst e9
    exact go_iret d_Shu_draw_41 rfl ⟨rfl, rfl, rfl⟩
  · rw [if_neg q5] at hf
    refine go_iconst (0 : Int32) d_Shu_draw_25 (by decide) ?_
    refine go_goto 41 d_Shu_draw_26 (by decide) ?_
    obtain ⟨e8, e9⟩ := Prod.mk.inj (Option.some.inj hf)
    subst e8; subst e9
    exact go_iret d_Shu_draw_41 rfl ⟨rfl, rfl, rfl⟩
theorem c_Shu_draw {l : Launch} {E : ET} {d : Nat} (hd : 1 ≤ d) {r : Int32} {h9 : PH} {x : Nat} {a0 : Nat} {i1 : Int32} {h : PH} (hf : f_Shu_draw a0 i1 h = some (r, h9)) : Fn l E m_Shu_draw d 0 0 [.ref a0, .int i1] h x (PoE (some (.int r)) h9 x) :=
  Fn.of (by decide +kernel) (Nat.le_of_ble_eq_true rfl) (g_Shu_draw_0 hd a0 i1 h hf)
theorem d_Shu_shuffle_0 : decode prog_8_method_3_code 0 = .ok (.aload_n 1, 1) := by decide +kernel
theorem d_Shu_shuffle_1 : decode prog_8_method_3_code 1 = .ok (.arraylength, 1) := by decide +kernel
theorem d_Shu_shuffle_2 : decode prog_8_method_3_code 2 = .ok (.iconst 1, 1) := by decide +kernel
theorem d_Shu_shuffle_3 : decode prog_8_method_3_code 3 = .ok (.isub, 1) := by decide +kernel
theorem d_Shu_shuffle_4 : decode prog_8_method_3_code 4 = .ok (.istore_n 2, 1) := by decide +kernel
theorem d_Shu_shuffle_5 : decode prog_8_method_3_code 5 = .ok (.iload_n 2, 1) := by decide +kernel
theorem d_Shu_shuffle_6 : decode prog_8_method_3_code 6 = .ok (.ifCond .le 33, 3) := by decide +kernel
theorem d_Shu_shuffle_9 : decode prog_8_method_3_code 9 = .ok (.aload_n 0, 1) := by decide +kernel
theorem d_Shu_shuffle_10 : decode prog_8_method_3_code 10 = .ok (.iload_n 2, 1) := by decide +kernel
theorem d_Shu_shuffle_11 : decode prog_8_method_3_code 11 = .ok (.iconst 1, 1) := by decide +kernel
theorem d_Shu_shuffle_12 : decode prog_8_method_3_code 12 = .ok (.iadd, 1) := by decide +kernel
theorem d_Shu_shuffle_13 : decode prog_8_method_3_code 13 = .ok (.invokevirtual 13, 3) := by decide +kernel
theorem d_Shu_shuffle_16 : decode prog_8_method_3_code 16 = .ok (.istore_n 3, 1) := by decide +kernel
theorem d_Shu_shuffle_17 : decode prog_8_method_3_code 17 = .ok (.aload_n 1, 1) := by decide +kernel
theorem d_Shu_shuffle_18 : decode prog_8_method_3_code 18 = .ok (.iload_n 2, 1) := by decide +kernel
theorem d_Shu_shuffle_19 : decode prog_8_method_3_code 19 = .ok (.iaload, 1) := by decide +kernel
theorem d_Shu_shuffle_20 : decode prog_8_method_3_code 20 = .ok (.istore 4, 2) := by decide +kernel
theorem d_Shu_shuffle_22 : decode prog_8_method_3_code 22 = .ok (.aload_n 1, 1) := by decide +kernel
theorem d_Shu_shuffle_23 : decode prog_8_method_3_code 23 = .ok (.iload_n 2, 1) := by decide +kernel
theorem d_Shu_shuffle_24 : decode prog_8_method_3_code 24 = .ok (.aload_n 1, 1) := by decide +kernel
theorem d_Shu_shuffle_25 : decode prog_8_method_3_code 25 = .ok (.iload_n 3, 1) := by decide +kernel
theorem d_Shu_shuffle_26 : decode prog_8_method_3_code 26 = .ok (.iaload, 1) := by decide +kernel
theorem d_Shu_shuffle_27 : decode prog_8_method_3_code 27 = .ok (.iastore, 1) := by decide +kernel
theorem d_Shu_shuffle_28 : decode prog_8_method_3_code 28 = .ok (.aload_n 1, 1) := by decide +kernel
theorem d_Shu_shuffle_29 : decode prog_8_method_3_code 29 = .ok (.iload_n 3, 1) := by decide +kernel
theorem d_Shu_shuffle_30 : decode prog_8_method_3_code 30 = .ok (.iload 4, 2) := by decide +kernel
theorem d_Shu_shuffle_32 : decode prog_8_method_3_code 32 = .ok (.iastore, 1) := by decide +kernel
theorem d_Shu_shuffle_33 : decode prog_8_method_3_code 33 = .ok (.iinc 2 (-1), 3) := by decide +kernel
theorem d_Shu_shuffle_36 : decode prog_8_method_3_code 36 = .ok (.goto (-31), 3) := by decide +kernel
theorem d_Shu_shuffle_39 : decode prog_8_method_3_code 39 = .ok (.return_, 1) := by decide +kernel
def b_Shu_shuffle_5 (F : Nat) (k5 : Nat → Nat → Int32 → PH → Option PH) (a0 : Nat) (a1 : Nat) (i2 : Int32) (h : PH) : Option PH :=
  (if i2 ≤ (0 : Int32) then some h else bnd (cK h a0 5) fun _ => bnd2 (f_Shu_draw a0 (i2 + (1 : Int32)) h) fun x2 h3 => bnd (aI h3 a1 i2) fun x4 => bnd (aI h3 a1 x2) fun x5 => bnd (sI h3 a1 i2 x5) fun h6 => bnd (sI h6 a1 x2 x4) fun h7 => k5 a0 a1 (i2 + (-1 : Int32)) h7)
def f_Shu_shuffle_5 (F : Nat) : Nat → Nat → Nat → Int32 → PH → Option PH
  | 0 => fun _ _ _ _ => none
  | n + 1 => b_Shu_shuffle_5 F (f_Shu_shuffle_5 F n)
theorem g_Shu_shuffle_5 {l : Launch} {E : ET} {d : Nat} (hd : 2 ≤ d) {F : Nat} {h9 : PH} {x : Nat} {k5 : Nat → Nat → Int32 → PH → Option PH} (hk5 : ∀ (a0 : Nat) (a1 : Nat) (i2 : Int32) (hh : PH), k5 a0 a1 i2 hh = some h9 → Go l E m_Shu_shuffle (rm d 0 0) (KM E 0 0 (PoE none h9 x)) 0 0 hh x 5 [(0, .ref a0), (1, .ref a1), (2, .int i2)] []) (a0 : Nat) (a1 : Nat) (i2 : Int32) (h : PH) (hf : b_Shu_shuffle_5 F k5 a0 a1 i2 h = some h9) : Go l E m_Shu_shuffle (rm d 0 0) (KM E 0 0 (PoE none h9 x)) 0 0 h x 5 [(0, .ref a0), (1, .ref a1), (2, .int i2)] [] := by
  unfold b_Shu_shuffle_5 at hf
  refine go_iload_n 2 d_Shu_shuffle_5 rfl ?_
  refine go_if_le 39 d_Shu_shuffle_6 (by decide) (fun q8 => ?_) (fun q8 => ?_)
  · rw [if_pos q8] at hf
    have e9 := Option.some.inj hf
    subst e9
    exact go_vret d_Shu_shuffle_39 rfl ⟨rfl, rfl, rfl⟩
  · rw [if_neg q8] at hf
    refine go_aload_n 0 d_Shu_shuffle_9 rfl ?_
    refine go_iload_n 2 d_Shu_shuffle_10 rfl ?_
    refine go_iconst (1 : Int32) d_Shu_shuffle_11 (by decide) ?_
    refine go_iadd d_Shu_shuffle_12 ?_
    obtain ⟨_, e1, hf⟩ := bnd_x hf
    obtain ⟨x2, h3, e_x2, hf⟩ := bnd2_x hf
    refine go_callV_I (As := [.int (i2 + (1 : Int32))]) (st := []) (c_Shu_draw (d := d - 1) (by omega) e_x2) lk_Shu_13 rfl rfl e1 (by decide) rfl (rm_ok (by omega)) (Nat.le_of_ble_eq_true rfl) rm_c d_Shu_shuffle_13 ?_
    refine go_istore_n (lv' := [(3, .int x2), (0, .ref a0), (1, .ref a1), (2, .int i2)]) d_Shu_shuffle_16 rfl (by decide) ?_
    refine go_aload_n 2 d_Shu_shuffle_17 rfl ?_
    refine go_iload_n 3 d_Shu_shuffle_18 rfl ?_
    obtain ⟨x4, e_x4, hf⟩ := bnd_x hf
    refine go_iaload d_Shu_shuffle_19 e_x4 ?_
    refine go_istore (lv' := [(4, .int x4), (3, .int x2), (0, .ref a0), (1, .ref a1), (2, .int i2)]) d_Shu_shuffle_20 rfl (by decide) ?_
    refine go_aload_n 3 d_Shu_shuffle_22 rfl ?_
    refine go_iload_n 4 d_Shu_shuffle_23 rfl ?_
    refine go_aload_n 3 d_Shu_shuffle_24 rfl ?_
    refine go_iload_n 1 d_Shu_shuffle_25 rfl ?_
    obtain ⟨x5, e_x5, hf⟩ := bnd_x hf
    refine go_iaload d_Shu_shuffle_26 e_x5 ?_
    obtain ⟨h6, e_h6, hf⟩ := bnd_x hf
    refine go_iastore d_Shu_shuffle_27 e_h6 ?_
    refine go_aload_n 3 d_Shu_shuffle_28 rfl ?_
    refine go_iload_n 1 d_Shu_shuffle_29 rfl ?_
    refine go_iload 0 d_Shu_shuffle_30 rfl ?_
    obtain ⟨h7, e_h7, hf⟩ := bnd_x hf
    refine go_iastore d_Shu_shuffle_32 e_h7 ?_
    refine go_iinc (lv' := [(2, .int (i2 + (-1 : Int32))), (4, .int x4), (3, .int x2), (0, .ref a0), (1, .ref a1)]) 4 (i2 + (-1 : Int32)) d_Shu_shuffle_33 rfl rfl rfl (by decide) ?_
    refine go_goto 5 d_Shu_shuffle_36 (by decide) ?_
    refine go_sub (lv' := [(0, .ref a0), (1, .ref a1), (2, .int (i2 + (-1 : Int32)))]) [3, 4, 0] rfl ?_
    exact hk5 a0 a1 (i2 + (-1 : Int32)) h7 hf
theorem t_Shu_shuffle_5 {l : Launch} {E : ET} {d : Nat} (hd : 2 ≤ d) {F : Nat} {h9 : PH} {x : Nat}  : ∀ (n : Nat) (a0 : Nat) (a1 : Nat) (i2 : Int32) (hh : PH), f_Shu_shuffle_5 F n a0 a1 i2 hh = some h9 → Go l E m_Shu_shuffle (rm d 0 0) (KM E 0 0 (PoE none h9 x)) 0 0 hh x 5 [(0, .ref a0), (1, .ref a1), (2, .int i2)] [] := by
  intro n
  induction n with
  | zero => intro v0 v1 v2 v3 hf; cases hf
  | succ n ih => intro v0 v1 v2 v3 hf; exact g_Shu_shuffle_5 hd ih v0 v1 v2 v3 hf
def f_Shu_shuffle (F : Nat) (a0 : Nat) (a1 : Nat) (h : PH) : Option PH :=
  bnd (aN h a1) fun x1 => bnd (some (x1 - (1 : Int32))) fun y2 => f_Shu_shuffle_5 F F a0 a1 y2 h
theorem g_Shu_shuffle_0 {l : Launch} {E : ET} {d : Nat} (hd : 2 ≤ d) {F : Nat} {h9 : PH} {x : Nat}  (a0 : Nat) (a1 : Nat) (h : PH) (hf : f_Shu_shuffle F a0 a1 h = some h9) : Go l E m_Shu_shuffle (rm d 0 0) (KM E 0 0 (PoE none h9 x)) 0 0 h x 0 [(0, .ref a0), (1, .ref a1)] [] := by
  unfold f_Shu_shuffle at hf
  refine go_aload_n 1 d_Shu_shuffle_0 rfl ?_
  obtain ⟨x1, e_x1, hf⟩ := bnd_x hf
  refine go_alen d_Shu_shuffle_1 e_x1 ?_
  refine go_iconst (1 : Int32) d_Shu_shuffle_2 (by decide) ?_
  refine go_isub d_Shu_shuffle_3 ?_
  obtain ⟨y2, e_y2, hf⟩ := bnd_x hf
  refine go_nmI e_y2 ?_
  refine go_istore_n (lv' := [(2, .int y2), (0, .ref a0), (1, .ref a1)]) d_Shu_shuffle_4 rfl (by decide) ?_
  refine go_sub (lv' := [(0, .ref a0), (1, .ref a1), (2, .int y2)]) [1, 2, 0] rfl ?_
  exact t_Shu_shuffle_5 hd  _ a0 a1 y2 h hf
theorem c_Shu_shuffle {l : Launch} {E : ET} {d : Nat} (hd : 2 ≤ d) {F : Nat} {h9 : PH} {x : Nat} {a0 : Nat} {a1 : Nat} {h : PH} (hf : f_Shu_shuffle F a0 a1 h = some h9) : Fn l E m_Shu_shuffle d 0 0 [.ref a0, .ref a1] h x (PoE none h9 x) :=
  Fn.of (by decide +kernel) (Nat.le_of_ble_eq_true rfl) (g_Shu_shuffle_0 hd a0 a1 h hf)
theorem d_Sta_wipe_0 : decode prog_11_method_2_code 0 = .ok (.aload_n 0, 1) := by decide +kernel
theorem d_Sta_wipe_1 : decode prog_11_method_2_code 1 = .ok (.getfield 12, 3) := by decide +kernel
theorem d_Sta_wipe_4 : decode prog_11_method_2_code 4 = .ok (.invokevirtual 36, 3) := by decide +kernel
theorem d_Sta_wipe_7 : decode prog_11_method_2_code 7 = .ok (.aload_n 0, 1) := by decide +kernel
theorem d_Sta_wipe_8 : decode prog_11_method_2_code 8 = .ok (.getfield 21, 3) := by decide +kernel
theorem d_Sta_wipe_11 : decode prog_11_method_2_code 11 = .ok (.invokevirtual 39, 3) := by decide +kernel
theorem d_Sta_wipe_14 : decode prog_11_method_2_code 14 = .ok (.iconst 0, 1) := by decide +kernel
theorem d_Sta_wipe_15 : decode prog_11_method_2_code 15 = .ok (.istore_n 1, 1) := by decide +kernel
theorem d_Sta_wipe_16 : decode prog_11_method_2_code 16 = .ok (.iload_n 1, 1) := by decide +kernel
theorem d_Sta_wipe_17 : decode prog_11_method_2_code 17 = .ok (.bipush 36, 2) := by decide +kernel
theorem d_Sta_wipe_19 : decode prog_11_method_2_code 19 = .ok (.if_icmp .ge 16, 3) := by decide +kernel
theorem d_Sta_wipe_22 : decode prog_11_method_2_code 22 = .ok (.aload_n 0, 1) := by decide +kernel
theorem d_Sta_wipe_23 : decode prog_11_method_2_code 23 = .ok (.getfield 25, 3) := by decide +kernel
theorem d_Sta_wipe_26 : decode prog_11_method_2_code 26 = .ok (.iload_n 1, 1) := by decide +kernel
theorem d_Sta_wipe_27 : decode prog_11_method_2_code 27 = .ok (.iconst 0, 1) := by decide +kernel
theorem d_Sta_wipe_28 : decode prog_11_method_2_code 28 = .ok (.iastore, 1) := by decide +kernel
theorem d_Sta_wipe_29 : decode prog_11_method_2_code 29 = .ok (.iinc 1 1, 3) := by decide +kernel
theorem d_Sta_wipe_32 : decode prog_11_method_2_code 32 = .ok (.goto (-16), 3) := by decide +kernel
theorem d_Sta_wipe_35 : decode prog_11_method_2_code 35 = .ok (.aload_n 0, 1) := by decide +kernel
theorem d_Sta_wipe_36 : decode prog_11_method_2_code 36 = .ok (.getfield 32, 3) := by decide +kernel
theorem d_Sta_wipe_39 : decode prog_11_method_2_code 39 = .ok (.invokevirtual 42, 3) := by decide +kernel
theorem d_Sta_wipe_42 : decode prog_11_method_2_code 42 = .ok (.return_, 1) := by decide +kernel
def b_Sta_wipe_16 (F : Nat) (k16 : Nat → Int32 → PH → Option PH) (a0 : Nat) (i1 : Int32) (h : PH) : Option PH :=
  (if (36 : Int32) ≤ i1 then bnd (gR h a0 8 3) fun x1 => bnd (cK h x1 0) fun _ => bnd (f_Log_wipe x1 h) fun h3 => some h3 else bnd (gR h a0 8 2) fun x4 => bnd (sI h x4 i1 (0 : Int32)) fun h5 => k16 a0 (i1 + (1 : Int32)) h5)
def f_Sta_wipe_16 (F : Nat) : Nat → Nat → Int32 → PH → Option PH
  | 0 => fun _ _ _ => none
  | n + 1 => b_Sta_wipe_16 F (f_Sta_wipe_16 F n)
theorem g_Sta_wipe_16 {l : Launch} {E : ET} {d : Nat} (hd : 4 ≤ d) {F : Nat} {h9 : PH} {x : Nat} {k16 : Nat → Int32 → PH → Option PH} (hk16 : ∀ (a0 : Nat) (i1 : Int32) (hh : PH), k16 a0 i1 hh = some h9 → Go l E m_Sta_wipe (rm d 0 0) (KM E 0 0 (PoE none h9 x)) 0 0 hh x 16 [(0, .ref a0), (1, .int i1)] []) (a0 : Nat) (i1 : Int32) (h : PH) (hf : b_Sta_wipe_16 F k16 a0 i1 h = some h9) : Go l E m_Sta_wipe (rm d 0 0) (KM E 0 0 (PoE none h9 x)) 0 0 h x 16 [(0, .ref a0), (1, .int i1)] [] := by
  unfold b_Sta_wipe_16 at hf
  refine go_iload_n 1 d_Sta_wipe_16 rfl ?_
  refine go_bipush (36 : Int32) d_Sta_wipe_17 (by decide) ?_
  refine go_icmp_ge 35 d_Sta_wipe_19 (by decide) (fun q6 => ?_) (fun q6 => ?_)
  · rw [if_pos q6] at hf
    refine go_aload_n 0 d_Sta_wipe_35 rfl ?_
    obtain ⟨x1, e_x1, hf⟩ := bnd_x hf
    refine go_get d_Sta_wipe_36 (gR_x e_x1) fl_Sta_32 ?_
    obtain ⟨_, e2, hf⟩ := bnd_x hf
    obtain ⟨h3, e_x3, hf⟩ := bnd_x hf
    refine go_callV_N (As := []) (st := []) (c_Log_wipe (d := d - 1) (by omega) e_x3) lk_Sta_42 rfl rfl e2 (by decide) rfl (rm_ok (by omega)) (Nat.le_of_ble_eq_true rfl) rm_c d_Sta_wipe_39 ?_
    have e9 := Option.some.inj hf
    subst e9
    exact go_vret d_Sta_wipe_42 rfl ⟨rfl, rfl, rfl⟩
  · rw [if_neg q6] at hf
    refine go_aload_n 0 d_Sta_wipe_22 rfl ?_
    obtain ⟨x4, e_x4, hf⟩ := bnd_x hf
    refine go_get d_Sta_wipe_23 (gR_x e_x4) fl_Sta_25 ?_
    refine go_iload_n 1 d_Sta_wipe_26 rfl ?_
    refine go_iconst (0 : Int32) d_Sta_wipe_27 (by decide) ?_
    obtain ⟨h5, e_h5, hf⟩ := bnd_x hf
    refine go_iastore d_Sta_wipe_28 e_h5 ?_
    refine go_iinc (lv' := [(1, .int (i1 + (1 : Int32))), (0, .ref a0)]) 1 (i1 + (1 : Int32)) d_Sta_wipe_29 rfl rfl rfl (by decide) ?_
    refine go_goto 16 d_Sta_wipe_32 (by decide) ?_
    refine go_sub (lv' := [(0, .ref a0), (1, .int (i1 + (1 : Int32)))]) [1, 0] rfl ?_
    exact hk16 a0 (i1 + (1 : Int32)) h5 hf
theorem t_Sta_wipe_16 {l : Launch} {E : ET} {d : Nat} (hd : 4 ≤ d) {F : Nat} {h9 : PH} {x : Nat}  : ∀ (n : Nat) (a0 : Nat) (i1 : Int32) (hh : PH), f_Sta_wipe_16 F n a0 i1 hh = some h9 → Go l E m_Sta_wipe (rm d 0 0) (KM E 0 0 (PoE none h9 x)) 0 0 hh x 16 [(0, .ref a0), (1, .int i1)] [] := by
  intro n
  induction n with
  | zero => intro v0 v1 v2 hf; cases hf
  | succ n ih => intro v0 v1 v2 hf; exact g_Sta_wipe_16 hd ih v0 v1 v2 hf
def f_Sta_wipe (F : Nat) (a0 : Nat) (h : PH) : Option PH :=
  bnd (gR h a0 8 0) fun x1 => bnd (cK h x1 1) fun _ => bnd (f_Pos_openAll F x1 h) fun h3 => bnd (gR h3 a0 8 1) fun x4 => bnd (cK h3 x4 4) fun _ => bnd (f_Rul_wipe F x4 h3) fun h6 => f_Sta_wipe_16 F F a0 (0 : Int32) h6
theorem g_Sta_wipe_0 {l : Launch} {E : ET} {d : Nat} (hd : 4 ≤ d) {F : Nat} {h9 : PH} {x : Nat}  (a0 : Nat) (h : PH) (hf : f_Sta_wipe F a0 h = some h9) : Go l E m_Sta_wipe (rm d 0 0) (KM E 0 0 (PoE none h9 x)) 0 0 h x 0 [(0, .ref a0)] [] := by
  unfold f_Sta_wipe at hf
  refine go_aload_n 0 d_Sta_wipe_0 rfl ?_
  obtain ⟨x1, e_x1, hf⟩ := bnd_x hf
  refine go_get d_Sta_wipe_1 (gR_x e_x1) fl_Sta_12 ?_
  obtain ⟨_, e2, hf⟩ := bnd_x hf
  obtain ⟨h3, e_x3, hf⟩ := bnd_x hf
  refine go_callV_N (As := []) (st := []) (c_Pos_openAll (d := d - 1) (by omega) e_x3) lk_Sta_36 rfl rfl e2 (by decide) rfl (rm_ok (by omega)) (Nat.le_of_ble_eq_true rfl) rm_c d_Sta_wipe_4 ?_
  refine go_aload_n 0 d_Sta_wipe_7 rfl ?_
  obtain ⟨x4, e_x4, hf⟩ := bnd_x hf
  refine go_get d_Sta_wipe_8 (gR_x e_x4) fl_Sta_21 ?_
  obtain ⟨_, e5, hf⟩ := bnd_x hf
  obtain ⟨h6, e_x6, hf⟩ := bnd_x hf
  refine go_callV_N (As := []) (st := []) (c_Rul_wipe (d := d - 1) (by omega) e_x6) lk_Sta_39 rfl rfl e5 (by decide) rfl (rm_ok (by omega)) (Nat.le_of_ble_eq_true rfl) rm_c d_Sta_wipe_11 ?_
  refine go_iconst (0 : Int32) d_Sta_wipe_14 (by decide) ?_
  refine go_istore_n (lv' := [(1, .int (0 : Int32)), (0, .ref a0)]) d_Sta_wipe_15 rfl (by decide) ?_
  refine go_sub (lv' := [(0, .ref a0), (1, .int (0 : Int32))]) [1, 0] rfl ?_
  exact t_Sta_wipe_16 hd  _ a0 (0 : Int32) h6 hf
theorem c_Sta_wipe {l : Launch} {E : ET} {d : Nat} (hd : 4 ≤ d) {F : Nat} {h9 : PH} {x : Nat} {a0 : Nat} {h : PH} (hf : f_Sta_wipe F a0 h = some h9) : Fn l E m_Sta_wipe d 0 0 [.ref a0] h x (PoE none h9 x) :=
  Fn.of (by decide +kernel) (Nat.le_of_ble_eq_true rfl) (g_Sta_wipe_0 hd a0 h hf)
theorem d_Sta_copyFrom_0 : decode prog_11_method_3_code 0 = .ok (.aload_n 0, 1) := by decide +kernel
theorem d_Sta_copyFrom_1 : decode prog_11_method_3_code 1 = .ok (.getfield 12, 3) := by decide +kernel
theorem d_Sta_copyFrom_4 : decode prog_11_method_3_code 4 = .ok (.aload_n 1, 1) := by decide +kernel
theorem d_Sta_copyFrom_5 : decode prog_11_method_3_code 5 = .ok (.getfield 12, 3) := by decide +kernel
theorem d_Sta_copyFrom_8 : decode prog_11_method_3_code 8 = .ok (.invokevirtual 43, 3) := by decide +kernel
theorem d_Sta_copyFrom_11 : decode prog_11_method_3_code 11 = .ok (.aload_n 0, 1) := by decide +kernel
theorem d_Sta_copyFrom_12 : decode prog_11_method_3_code 12 = .ok (.getfield 21, 3) := by decide +kernel
theorem d_Sta_copyFrom_15 : decode prog_11_method_3_code 15 = .ok (.aload_n 1, 1) := by decide +kernel
theorem d_Sta_copyFrom_16 : decode prog_11_method_3_code 16 = .ok (.getfield 21, 3) := by decide +kernel
theorem d_Sta_copyFrom_19 : decode prog_11_method_3_code 19 = .ok (.invokevirtual 47, 3) := by decide +kernel
theorem d_Sta_copyFrom_22 : decode prog_11_method_3_code 22 = .ok (.aload_n 1, 1) := by decide +kernel
theorem d_Sta_copyFrom_23 : decode prog_11_method_3_code 23 = .ok (.getfield 25, 3) := by decide +kernel
theorem d_Sta_copyFrom_26 : decode prog_11_method_3_code 26 = .ok (.iconst 0, 1) := by decide +kernel
theorem d_Sta_copyFrom_27 : decode prog_11_method_3_code 27 = .ok (.aload_n 0, 1) := by decide +kernel
theorem d_Sta_copyFrom_28 : decode prog_11_method_3_code 28 = .ok (.getfield 25, 3) := by decide +kernel
theorem d_Sta_copyFrom_31 : decode prog_11_method_3_code 31 = .ok (.iconst 0, 1) := by decide +kernel
theorem d_Sta_copyFrom_32 : decode prog_11_method_3_code 32 = .ok (.bipush 36, 2) := by decide +kernel
theorem d_Sta_copyFrom_34 : decode prog_11_method_3_code 34 = .ok (.invokestatic 50, 3) := by decide +kernel
theorem d_Sta_copyFrom_37 : decode prog_11_method_3_code 37 = .ok (.aload_n 0, 1) := by decide +kernel
theorem d_Sta_copyFrom_38 : decode prog_11_method_3_code 38 = .ok (.getfield 32, 3) := by decide +kernel
theorem d_Sta_copyFrom_41 : decode prog_11_method_3_code 41 = .ok (.aload_n 1, 1) := by decide +kernel
theorem d_Sta_copyFrom_42 : decode prog_11_method_3_code 42 = .ok (.getfield 32, 3) := by decide +kernel
theorem d_Sta_copyFrom_45 : decode prog_11_method_3_code 45 = .ok (.invokevirtual 56, 3) := by decide +kernel
theorem d_Sta_copyFrom_48 : decode prog_11_method_3_code 48 = .ok (.return_, 1) := by decide +kernel
def f_Sta_copyFrom (a0 : Nat) (a1 : Nat) (h : PH) : Option PH :=
  bnd (gR h a0 8 0) fun x1 => bnd (gR h a1 8 0) fun x2 => bnd (cK h x1 1) fun _ => bnd (f_Pos_copyFrom x1 x2 h) fun h4 => bnd (gR h4 a0 8 1) fun x5 => bnd (gR h4 a1 8 1) fun x6 => bnd (cK h4 x5 4) fun _ => bnd (f_Rul_copyFrom x5 x6 h4) fun h8 => bnd (gR h8 a1 8 2) fun x9 => bnd (gR h8 a0 8 2) fun x10 => bnd (cpI h8 x9 (0 : Int32) x10 (0 : Int32) (36 : Int32)) fun h11 => bnd (gR h11 a0 8 3) fun x12 => bnd (gR h11 a1 8 3) fun x13 => bnd (cK h11 x12 0) fun _ => bnd (f_Log_copyFrom x12 x13 h11) fun h15 => some h15
theorem g_Sta_copyFrom_0 {l : Launch} {E : ET} {d : Nat} (hd : 3 ≤ d) {h9 : PH} {x : Nat}  (a0 : Nat) (a1 : Nat) (h : PH) (hf : f_Sta_copyFrom a0 a1 h = some h9) : Go l E m_Sta_copyFrom (rm d 0 0) (KM E 0 0 (PoE none h9 x)) 0 0 h x 0 [(0, .ref a0), (1, .ref a1)] [] := by
  unfold f_Sta_copyFrom at hf
  refine go_aload_n 0 d_Sta_copyFrom_0 rfl ?_
  obtain ⟨x1, e_x1, hf⟩ := bnd_x hf
  refine go_get d_Sta_copyFrom_1 (gR_x e_x1) fl_Sta_12 ?_
  refine go_aload_n 1 d_Sta_copyFrom_4 rfl ?_
  obtain ⟨x2, e_x2, hf⟩ := bnd_x hf
  refine go_get d_Sta_copyFrom_5 (gR_x e_x2) fl_Sta_12 ?_
  obtain ⟨_, e3, hf⟩ := bnd_x hf
  obtain ⟨h4, e_x4, hf⟩ := bnd_x hf
  refine go_callV_N (As := [.ref x2]) (st := []) (c_Pos_copyFrom (d := d - 1) (by omega) e_x4) lk_Sta_43 rfl rfl e3 (by decide) rfl (rm_ok (by omega)) (Nat.le_of_ble_eq_true rfl) rm_c d_Sta_copyFrom_8 ?_
  refine go_aload_n 0 d_Sta_copyFrom_11 rfl ?_
  obtain ⟨x5, e_x5, hf⟩ := bnd_x hf
  refine go_get d_Sta_copyFrom_12 (gR_x e_x5) fl_Sta_21 ?_
  refine go_aload_n 1 d_Sta_copyFrom_15 rfl ?_
  obtain ⟨x6, e_x6, hf⟩ := bnd_x hf
  refine go_get d_Sta_copyFrom_16 (gR_x e_x6) fl_Sta_21 ?_
  obtain ⟨_, e7, hf⟩ := bnd_x hf
  obtain ⟨h8, e_x8, hf⟩ := bnd_x hf
  refine go_callV_N (As := [.ref x6]) (st := []) (c_Rul_copyFrom (d := d - 1) (by omega) e_x8) lk_Sta_47 rfl rfl e7 (by decide) rfl (rm_ok (by omega)) (Nat.le_of_ble_eq_true rfl) rm_c d_Sta_copyFrom_19 ?_
  refine go_aload_n 1 d_Sta_copyFrom_22 rfl ?_
  obtain ⟨x9, e_x9, hf⟩ := bnd_x hf
  refine go_get d_Sta_copyFrom_23 (gR_x e_x9) fl_Sta_25 ?_
  refine go_iconst (0 : Int32) d_Sta_copyFrom_26 (by decide) ?_
  refine go_aload_n 0 d_Sta_copyFrom_27 rfl ?_
  obtain ⟨x10, e_x10, hf⟩ := bnd_x hf
  refine go_get d_Sta_copyFrom_28 (gR_x e_x10) fl_Sta_25 ?_
  refine go_iconst (0 : Int32) d_Sta_copyFrom_31 (by decide) ?_
  refine go_bipush (36 : Int32) d_Sta_copyFrom_32 (by decide) ?_
  obtain ⟨h11, e_h11, hf⟩ := bnd_x hf
  refine go_copyI d_Sta_copyFrom_34 e_h11 cl_Sta_50 (rm_n (by omega)) (Nat.le_of_ble_eq_true rfl) ?_
  refine go_aload_n 0 d_Sta_copyFrom_37 rfl ?_
  obtain ⟨x12, e_x12, hf⟩ := bnd_x hf
  refine go_get d_Sta_copyFrom_38 (gR_x e_x12) fl_Sta_32 ?_
  refine go_aload_n 1 d_Sta_copyFrom_41 rfl ?_
  obtain ⟨x13, e_x13, hf⟩ := bnd_x hf
  refine go_get d_Sta_copyFrom_42 (gR_x e_x13) fl_Sta_32 ?_
  obtain ⟨_, e14, hf⟩ := bnd_x hf
  obtain ⟨h15, e_x15, hf⟩ := bnd_x hf
  refine go_callV_N (As := [.ref x13]) (st := []) (c_Log_copyFrom (d := d - 1) (by omega) e_x15) lk_Sta_56 rfl rfl e14 (by decide) rfl (rm_ok (by omega)) (Nat.le_of_ble_eq_true rfl) rm_c d_Sta_copyFrom_45 ?_
  have e9 := Option.some.inj hf
  subst e9
  exact go_vret d_Sta_copyFrom_48 rfl ⟨rfl, rfl, rfl⟩
theorem c_Sta_copyFrom {l : Launch} {E : ET} {d : Nat} (hd : 3 ≤ d) {h9 : PH} {x : Nat} {a0 : Nat} {a1 : Nat} {h : PH} (hf : f_Sta_copyFrom a0 a1 h = some h9) : Fn l E m_Sta_copyFrom d 0 0 [.ref a0, .ref a1] h x (PoE none h9 x) :=
  Fn.of (by decide +kernel) (Nat.le_of_ble_eq_true rfl) (g_Sta_copyFrom_0 hd a0 a1 h hf)
theorem d_Sta_givenCount_0 : decode prog_11_method_4_code 0 = .ok (.iconst 0, 1) := by decide +kernel
theorem d_Sta_givenCount_1 : decode prog_11_method_4_code 1 = .ok (.istore_n 1, 1) := by decide +kernel
theorem d_Sta_givenCount_2 : decode prog_11_method_4_code 2 = .ok (.iconst 0, 1) := by decide +kernel
theorem d_Sta_givenCount_3 : decode prog_11_method_4_code 3 = .ok (.istore_n 2, 1) := by decide +kernel
theorem d_Sta_givenCount_4 : decode prog_11_method_4_code 4 = .ok (.iload_n 2, 1) := by decide +kernel
theorem d_Sta_givenCount_5 : decode prog_11_method_4_code 5 = .ok (.bipush 36, 2) := by decide +kernel
theorem d_Sta_givenCount_7 : decode prog_11_method_4_code 7 = .ok (.if_icmp .ge 26, 3) := by decide +kernel
theorem d_Sta_givenCount_10 : decode prog_11_method_4_code 10 = .ok (.iload_n 1, 1) := by decide +kernel
theorem d_Sta_givenCount_11 : decode prog_11_method_4_code 11 = .ok (.aload_n 0, 1) := by decide +kernel
theorem d_Sta_givenCount_12 : decode prog_11_method_4_code 12 = .ok (.getfield 25, 3) := by decide +kernel
theorem d_Sta_givenCount_15 : decode prog_11_method_4_code 15 = .ok (.iload_n 2, 1) := by decide +kernel
theorem d_Sta_givenCount_16 : decode prog_11_method_4_code 16 = .ok (.iaload, 1) := by decide +kernel
theorem d_Sta_givenCount_17 : decode prog_11_method_4_code 17 = .ok (.ifCond .eq 7, 3) := by decide +kernel
theorem d_Sta_givenCount_20 : decode prog_11_method_4_code 20 = .ok (.iconst 1, 1) := by decide +kernel
theorem d_Sta_givenCount_21 : decode prog_11_method_4_code 21 = .ok (.goto 4, 3) := by decide +kernel
theorem d_Sta_givenCount_24 : decode prog_11_method_4_code 24 = .ok (.iconst 0, 1) := by decide +kernel
theorem d_Sta_givenCount_25 : decode prog_11_method_4_code 25 = .ok (.iadd, 1) := by decide +kernel
theorem d_Sta_givenCount_26 : decode prog_11_method_4_code 26 = .ok (.istore_n 1, 1) := by decide +kernel
theorem d_Sta_givenCount_27 : decode prog_11_method_4_code 27 = .ok (.iinc 2 1, 3) := by decide +kernel
theorem d_Sta_givenCount_30 : decode prog_11_method_4_code 30 = .ok (.goto (-26), 3) := by decide +kernel
theorem d_Sta_givenCount_33 : decode prog_11_method_4_code 33 = .ok (.iload_n 1, 1) := by decide +kernel
theorem d_Sta_givenCount_34 : decode prog_11_method_4_code 34 = .ok (.ireturn, 1) := by decide +kernel
def b_Sta_givenCount_25 (F : Nat) (k4 : Nat → Int32 → Int32 → PH → Option Int32) (a0 : Nat) (i2 : Int32) (s0 : Int32) (s1 : Int32) (h : PH) : Option Int32 :=
  k4 a0 (s1 + s0) (i2 + (1 : Int32)) h
theorem g_Sta_givenCount_25 {l : Launch} {E : ET} {d : Nat} (hd : 1 ≤ d) {F : Nat} {r : Int32} {h : PH} {x : Nat} {k4 : Nat → Int32 → Int32 → PH → Option Int32} (hk4 : ∀ (a0 : Nat) (i1 : Int32) (i2 : Int32), k4 a0 i1 i2 h = some r → Go l E m_Sta_givenCount (rm d 0 0) (KM E 0 0 (PoE (some (.int r)) h x)) 0 0 h x 4 [(0, .ref a0), (1, .int i1), (2, .int i2)] []) (a0 : Nat) (i2 : Int32) (s0 : Int32) (s1 : Int32) (hf : b_Sta_givenCount_25 F k4 a0 i2 s0 s1 h = some r) : Go l E m_Sta_givenCount (rm d 0 0) (KM E 0 0 (PoE (some (.int r)) h x)) 0 0 h x 25 [(0, .ref a0), (2, .int i2)] [.int s0, .int s1] := by
  unfold b_Sta_givenCount_25 at hf
  refine go_iadd d_Sta_givenCount_25 ?_
  refine go_istore_n (lv' := [(1, .int (s1 + s0)), (0, .ref a0), (2, .int i2)]) d_Sta_givenCount_26 rfl (by decide) ?_
  refine go_iinc (lv' := [(2, .int (i2 + (1 : Int32))), (1, .int (s1 + s0)), (0, .ref a0)]) 2 (i2 + (1 : Int32)) d_Sta_givenCount_27 rfl rfl rfl (by decide) ?_
  refine go_goto 4 d_Sta_givenCount_30 (by decide) ?_
  refine go_sub (lv' := [(0, .ref a0), (1, .int (s1 + s0)), (2, .int (i2 + (1 : Int32)))]) [2, 1, 0] rfl ?_
  exact hk4 a0 (s1 + s0) (i2 + (1 : Int32)) hf
def b_Sta_givenCount_4 (F : Nat) (k4 : Nat → Int32 → Int32 → PH → Option Int32) (a0 : Nat) (i1 : Int32) (i2 : Int32) (h : PH) : Option Int32 :=
  (if (36 : Int32) ≤ i2 then some i1 else bnd (gR h a0 8 2) fun x1 => bnd (aI h x1 i2) fun x2 => (if x2 = (0 : Int32) then b_Sta_givenCount_25 F k4 a0 i2 (0 : Int32) i1 h else b_Sta_givenCount_25 F k4 a0 i2 (1 : Int32) i1 h))
def f_Sta_givenCount_4 (F : Nat) : Nat → Nat → Int32 → Int32 → PH → Option Int32
  | 0 => fun _ _ _ _ => none
  | n + 1 => b_Sta_givenCount_4 F (f_Sta_givenCount_4 F n)
theorem g_Sta_givenCount_4 {l : Launch} {E : ET} {d : Nat} (hd : 1 ≤ d) {F : Nat} {r : Int32} {h : PH} {x : Nat} {k4 : Nat → Int32 → Int32 → PH → Option Int32} (hk4 : ∀ (a0 : Nat) (i1 : Int32) (i2 : Int32), k4 a0 i1 i2 h = some r → Go l E m_Sta_givenCount (rm d 0 0) (KM E 0 0 (PoE (some (.int r)) h x)) 0 0 h x 4 [(0, .ref a0), (1, .int i1), (2, .int i2)] []) (a0 : Nat) (i1 : Int32) (i2 : Int32) (hf : b_Sta_givenCount_4 F k4 a0 i1 i2 h = some r) : Go l E m_Sta_givenCount (rm d 0 0) (KM E 0 0 (PoE (some (.int r)) h x)) 0 0 h x 4 [(0, .ref a0), (1, .int i1), (2, .int i2)] [] := by
  unfold b_Sta_givenCount_4 at hf
  refine go_iload_n 2 d_Sta_givenCount_4 rfl ?_
  refine go_bipush (36 : Int32) d_Sta_givenCount_5 (by decide) ?_
  refine go_icmp_ge 33 d_Sta_givenCount_7 (by decide) (fun q4 => ?_) (fun q4 => ?_)
  · rw [if_pos q4] at hf
    refine go_iload_n 1 d_Sta_givenCount_33 rfl ?_
    have e9 := Option.some.inj hf
    subst e9
    exact go_iret d_Sta_givenCount_34 rfl ⟨rfl, rfl, rfl⟩
  · rw [if_neg q4] at hf
    refine go_iload_n 1 d_Sta_givenCount_10 rfl ?_
    refine go_aload_n 0 d_Sta_givenCount_11 rfl ?_
    obtain ⟨x1, e_x1, hf⟩ := bnd_x hf
    refine go_get d_Sta_givenCount_12 (gR_x e_x1) fl_Sta_25 ?_
    refine go_iload_n 2 d_Sta_givenCount_15 rfl ?_
    obtain ⟨x2, e_x2, hf⟩ := bnd_x hf
    refine go_iaload d_Sta_givenCount_16 e_x2 ?_
    refine go_if_eq 24 d_Sta_givenCount_17 (by decide) (fun q3 => ?_) (fun q3 => ?_)
    · rw [if_pos q3] at hf
      refine go_iconst (0 : Int32) d_Sta_givenCount_24 (by decide) ?_
      refine go_sub (lv' := [(0, .ref a0), (2, .int i2)]) [0, 2] rfl ?_
      exact g_Sta_givenCount_25 hd hk4 a0 i2 (0 : Int32) i1  hf
    · rw [if_neg q3] at hf
      refine go_iconst (1 : Int32) d_Sta_givenCount_20 (by decide) ?_
      refine go_goto 25 d_Sta_givenCount_21 (by decide) ?_
      refine go_sub (lv' := [(0, .ref a0), (2, .int i2)]) [0, 2] rfl ?_
      exact g_Sta_givenCount_25 hd hk4 a0 i2 (1 : Int32) i1  hf
theorem t_Sta_givenCount_4 {l : Launch} {E : ET} {d : Nat} (hd : 1 ≤ d) {F : Nat} {r : Int32} {h : PH} {x : Nat}  : ∀ (n : Nat) (a0 : Nat) (i1 : Int32) (i2 : Int32), f_Sta_givenCount_4 F n a0 i1 i2 h = some r → Go l E m_Sta_givenCount (rm d 0 0) (KM E 0 0 (PoE (some (.int r)) h x)) 0 0 h x 4 [(0, .ref a0), (1, .int i1), (2, .int i2)] [] := by
  intro n
  induction n with
  | zero => intro v0 v1 v2 hf; cases hf
  | succ n ih => intro v0 v1 v2 hf; exact g_Sta_givenCount_4 hd ih v0 v1 v2 hf
def f_Sta_givenCount (F : Nat) (a0 : Nat) (h : PH) : Option Int32 :=
  f_Sta_givenCount_4 F F a0 (0 : Int32) (0 : Int32) h
theorem g_Sta_givenCount_0 {l : Launch} {E : ET} {d : Nat} (hd : 1 ≤ d) {F : Nat} {r : Int32} {h : PH} {x : Nat}  (a0 : Nat) (hf : f_Sta_givenCount F a0 h = some r) : Go l E m_Sta_givenCount (rm d 0 0) (KM E 0 0 (PoE (some (.int r)) h x)) 0 0 h x 0 [(0, .ref a0)] [] := by
  unfold f_Sta_givenCount at hf
  refine go_iconst (0 : Int32) d_Sta_givenCount_0 (by decide) ?_
  refine go_istore_n (lv' := [(1, .int (0 : Int32)), (0, .ref a0)]) d_Sta_givenCount_1 rfl (by decide) ?_
  refine go_iconst (0 : Int32) d_Sta_givenCount_2 (by decide) ?_
  refine go_istore_n (lv' := [(2, .int (0 : Int32)), (1, .int (0 : Int32)), (0, .ref a0)]) d_Sta_givenCount_3 rfl (by decide) ?_
  refine go_sub (lv' := [(0, .ref a0), (1, .int (0 : Int32)), (2, .int (0 : Int32))]) [2, 1, 0] rfl ?_
  exact t_Sta_givenCount_4 hd  _ a0 (0 : Int32) (0 : Int32)  hf
theorem c_Sta_givenCount {l : Launch} {E : ET} {d : Nat} (hd : 1 ≤ d) {F : Nat} {r : Int32} {h : PH} {x : Nat} {a0 : Nat} (hf : f_Sta_givenCount F a0 h = some r) : Fn l E m_Sta_givenCount d 0 0 [.ref a0] h x (PoE (some (.int r)) h x) :=
  Fn.of (by decide +kernel) (Nat.le_of_ble_eq_true rfl) (g_Sta_givenCount_0 hd a0 hf)
