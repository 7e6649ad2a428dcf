/-! 15.np: methods as functions, by program. -/
theorem d_Np_save_0 : decode prog_1_method_37_code 0 = .ok (.aload_n 0, 1) := by decide +kernel
theorem d_Np_save_1 : decode prog_1_method_37_code 1 = .ok (.getfield 19, 3) := by decide +kernel
theorem d_Np_save_4 : decode prog_1_method_37_code 4 = .ok (.aload_n 0, 1) := by decide +kernel
theorem d_Np_save_5 : decode prog_1_method_37_code 5 = .ok (.getfield 299, 3) := by decide +kernel
theorem d_Np_save_8 : decode prog_1_method_37_code 8 = .ok (.aload_n 0, 1) := by decide +kernel
theorem d_Np_save_9 : decode prog_1_method_37_code 9 = .ok (.getfield 294, 3) := by decide +kernel
theorem d_Np_save_12 : decode prog_1_method_37_code 12 = .ok (.iadd, 1) := by decide +kernel
theorem d_Np_save_13 : decode prog_1_method_37_code 13 = .ok (.iconst 4, 1) := by decide +kernel
theorem d_Np_save_14 : decode prog_1_method_37_code 14 = .ok (.irem, 1) := by decide +kernel
theorem d_Np_save_15 : decode prog_1_method_37_code 15 = .ok (.aaload, 1) := by decide +kernel
theorem d_Np_save_16 : decode prog_1_method_37_code 16 = .ok (.aload_n 0, 1) := by decide +kernel
theorem d_Np_save_17 : decode prog_1_method_37_code 17 = .ok (.getfield 10, 3) := by decide +kernel
theorem d_Np_save_20 : decode prog_1_method_37_code 20 = .ok (.invokevirtual 291, 3) := by decide +kernel
theorem d_Np_save_23 : decode prog_1_method_37_code 23 = .ok (.aload_n 0, 1) := by decide +kernel
theorem d_Np_save_24 : decode prog_1_method_37_code 24 = .ok (.getfield 294, 3) := by decide +kernel
theorem d_Np_save_27 : decode prog_1_method_37_code 27 = .ok (.iconst 4, 1) := by decide +kernel
theorem d_Np_save_28 : decode prog_1_method_37_code 28 = .ok (.if_icmp .ge 16, 3) := by decide +kernel
theorem d_Np_save_31 : decode prog_1_method_37_code 31 = .ok (.aload_n 0, 1) := by decide +kernel
theorem d_Np_save_32 : decode prog_1_method_37_code 32 = .ok (.dup, 1) := by decide +kernel
theorem d_Np_save_33 : decode prog_1_method_37_code 33 = .ok (.getfield 294, 3) := by decide +kernel
theorem d_Np_save_36 : decode prog_1_method_37_code 36 = .ok (.iconst 1, 1) := by decide +kernel
theorem d_Np_save_37 : decode prog_1_method_37_code 37 = .ok (.iadd, 1) := by decide +kernel
theorem d_Np_save_38 : decode prog_1_method_37_code 38 = .ok (.putfield 294, 3) := by decide +kernel
theorem d_Np_save_41 : decode prog_1_method_37_code 41 = .ok (.goto 15, 3) := by decide +kernel
theorem d_Np_save_44 : decode prog_1_method_37_code 44 = .ok (.aload_n 0, 1) := by decide +kernel
theorem d_Np_save_45 : decode prog_1_method_37_code 45 = .ok (.aload_n 0, 1) := by decide +kernel
theorem d_Np_save_46 : decode prog_1_method_37_code 46 = .ok (.getfield 299, 3) := by decide +kernel
theorem d_Np_save_49 : decode prog_1_method_37_code 49 = .ok (.iconst 1, 1) := by decide +kernel
theorem d_Np_save_50 : decode prog_1_method_37_code 50 = .ok (.iadd, 1) := by decide +kernel
theorem d_Np_save_51 : decode prog_1_method_37_code 51 = .ok (.iconst 4, 1) := by decide +kernel
theorem d_Np_save_52 : decode prog_1_method_37_code 52 = .ok (.irem, 1) := by decide +kernel
theorem d_Np_save_53 : decode prog_1_method_37_code 53 = .ok (.putfield 299, 3) := by decide +kernel
theorem d_Np_save_56 : decode prog_1_method_37_code 56 = .ok (.aload_n 0, 1) := by decide +kernel
theorem d_Np_save_57 : decode prog_1_method_37_code 57 = .ok (.getfield 47, 3) := by decide +kernel
theorem d_Np_save_60 : decode prog_1_method_37_code 60 = .ok (.invokevirtual 275, 3) := by decide +kernel
theorem d_Np_save_63 : decode prog_1_method_37_code 63 = .ok (.return_, 1) := by decide +kernel
def b_Np_save_56 (a0 : Nat) (h : PH) : Option PH :=
  bnd (gR h a0 9 8) fun x1 => bnd (cK h x1 7) fun _ => bnd (f_Sol_forget x1 h) fun h3 => some h3
theorem g_Np_save_56 {l : Launch} {E : ET} {d : Nat} (hd : 4 ≤ d) {h9 : PH} {x : Nat}  (a0 : Nat) (h : PH) (hf : b_Np_save_56 a0 h = some h9) : Go l E m_Np_save (rm d 0 0) (KM E 0 0 (PoE none h9 x)) 0 0 h x 56 [(0, .ref a0)] [] := by
  unfold b_Np_save_56 at hf
  refine go_aload_n 0 d_Np_save_56 rfl ?_
  obtain ⟨x1, e_x1, hf⟩ := bnd_x hf
  refine go_get d_Np_save_57 (gR_x e_x1) fl_Np_47 ?_
  obtain ⟨_, e2, hf⟩ := bnd_x hf
  obtain ⟨h3, e_x3, hf⟩ := bnd_x hf
  refine go_callV_N (As := []) (st := []) (c_Sol_forget (d := d - 1) (by omega) e_x3) lk_Np_275 rfl rfl e2 (by decide) rfl (rm_ok (by omega)) (Nat.le_of_ble_eq_true rfl) rm_c d_Np_save_60 ?_
  have e9 := Option.some.inj hf
  subst e9
  exact go_vret d_Np_save_63 rfl ⟨rfl, rfl, rfl⟩
def f_Np_save (a0 : Nat) (h : PH) : Option PH :=
  bnd (gR h a0 9 2) fun x1 => bnd (gI h a0 9 3) fun x2 => bnd (gI h a0 9 4) fun x3 => bnd (aR h x1 ((x2 + x3) - (x2 + x3) / (4 : Int32) * (4 : Int32))) fun x4 => bnd (gR h a0 9 0) fun x5 => bnd (cK h x4 8) fun _ => bnd (f_Sta_copyFrom x4 x5 h) fun h7 => bnd (gI h7 a0 9 4) fun x8 => (if (4 : Int32) ≤ x8 then bnd (gI h7 a0 9 3) fun x9 => bnd (pV h7 a0 9 3 (.int ((x9 + (1 : Int32)) - (x9 + (1 : Int32)) / (4 : Int32) * (4 : Int32)))) fun h10 => b_Np_save_56 a0 h10 else bnd (gI h7 a0 9 4) fun x11 => bnd (pV h7 a0 9 4 (.int (x11 + (1 : Int32)))) fun h12 => b_Np_save_56 a0 h12)
theorem g_Np_save_0 {l : Launch} {E : ET} {d : Nat} (hd : 4 ≤ d) {h9 : PH} {x : Nat}  (a0 : Nat) (h : PH) (hf : f_Np_save a0 h = some h9) : Go l E m_Np_save (rm d 0 0) (KM E 0 0 (PoE none h9 x)) 0 0 h x 0 [(0, .ref a0)] [] := by
  unfold f_Np_save at hf
  refine go_aload_n 0 d_Np_save_0 rfl ?_
  obtain ⟨x1, e_x1, hf⟩ := bnd_x hf
  refine go_get d_Np_save_1 (gR_x e_x1) fl_Np_19 ?_
  refine go_aload_n 0 d_Np_save_4 rfl ?_
  obtain ⟨x2, e_x2, hf⟩ := bnd_x hf
  refine go_get d_Np_save_5 (gI_x e_x2) fl_Np_299 ?_
  refine go_aload_n 0 d_Np_save_8 rfl ?_
  obtain ⟨x3, e_x3, hf⟩ := bnd_x hf
  refine go_get d_Np_save_9 (gI_x e_x3) fl_Np_294 ?_
  refine go_iadd d_Np_save_12 ?_
  refine go_iconst (4 : Int32) d_Np_save_13 (by decide) ?_
  refine go_irem d_Np_save_14 (by decide) ?_
  obtain ⟨x4, e_x4, hf⟩ := bnd_x hf
  refine go_aaload d_Np_save_15 e_x4 ?_
  refine go_aload_n 0 d_Np_save_16 rfl ?_
  obtain ⟨x5, e_x5, hf⟩ := bnd_x hf
  refine go_get d_Np_save_17 (gR_x e_x5) fl_Np_10 ?_
  obtain ⟨_, e6, hf⟩ := bnd_x hf
  obtain ⟨h7, e_x7, hf⟩ := bnd_x hf
  refine go_callV_N (As := [.ref x5]) (st := []) (c_Sta_copyFrom (d := d - 1) (by omega) e_x7) lk_Np_291 rfl rfl e6 (by decide) rfl (rm_ok (by omega)) (Nat.le_of_ble_eq_true rfl) rm_c d_Np_save_20 ?_
  refine go_aload_n 0 d_Np_save_23 rfl ?_
  obtain ⟨x8, e_x8, hf⟩ := bnd_x hf
  refine go_get d_Np_save_24 (gI_x e_x8) fl_Np_294 ?_
  refine go_iconst (4 : Int32) d_Np_save_27 (by decide) ?_
  refine go_icmp_ge 44 d_Np_save_28 (by decide) (fun q13 => ?_) (fun q13 => ?_)
  · rw [if_pos q13] at hf
    refine go_aload_n 0 d_Np_save_44 rfl ?_
    refine go_aload_n 0 d_Np_save_45 rfl ?_
    obtain ⟨x9, e_x9, hf⟩ := bnd_x hf
    refine go_get d_Np_save_46 (gI_x e_x9) fl_Np_299 ?_
    refine go_iconst (1 : Int32) d_Np_save_49 (by decide) ?_
    refine go_iadd d_Np_save_50 ?_
    refine go_iconst (4 : Int32) d_Np_save_51 (by decide) ?_
    refine go_irem d_Np_save_52 (by decide) ?_
    obtain ⟨h10, e_h10, hf⟩ := bnd_x hf
    refine go_putI d_Np_save_53 e_h10 fl_Np_299 rfl rfl ?_
    refine go_sub (lv' := [(0, .ref a0)]) [0] rfl ?_
    exact g_Np_save_56 hd  a0 h10 hf
  · rw [if_neg q13] at hf
    refine go_aload_n 0 d_Np_save_31 rfl ?_
    refine go_dup d_Np_save_32 rfl ?_
    obtain ⟨x11, e_x11, hf⟩ := bnd_x hf
    refine go_get d_Np_save_33 (gI_x e_x11) fl_Np_294 ?_
    refine go_iconst (1 : Int32) d_Np_save_36 (by decide) ?_
    refine go_iadd d_Np_save_37 ?_
    obtain ⟨h12, e_h12, hf⟩ := bnd_x hf
    refine go_putI d_Np_save_38 e_h12 fl_Np_294 rfl rfl ?_
    refine go_goto 56 d_Np_save_41 (by decide) ?_
    refine go_sub (lv' := [(0, .ref a0)]) [0] rfl ?_
    exact g_Np_save_56 hd  a0 h12 hf
theorem c_Np_save {l : Launch} {E : ET} {d : Nat} (hd : 4 ≤ d) {h9 : PH} {x : Nat} {a0 : Nat} {h : PH} (hf : f_Np_save a0 h = some h9) : Fn l E m_Np_save d 0 0 [.ref a0] h x (PoE none h9 x) :=
  Fn.of (by decide +kernel) (Nat.le_of_ble_eq_true rfl) (g_Np_save_0 hd a0 h hf)
theorem d_Np_begin_0 : decode prog_1_method_2_code 0 = .ok (.aload_n 0, 1) := by decide +kernel
theorem d_Np_begin_1 : decode prog_1_method_2_code 1 = .ok (.getfield 10, 3) := by decide +kernel
theorem d_Np_begin_4 : decode prog_1_method_2_code 4 = .ok (.getfield 68, 3) := by decide +kernel
theorem d_Np_begin_7 : decode prog_1_method_2_code 7 = .ok (.getfield 71, 3) := by decide +kernel
theorem d_Np_begin_10 : decode prog_1_method_2_code 10 = .ok (.invokestatic 75, 3) := by decide +kernel
theorem d_Np_begin_13 : decode prog_1_method_2_code 13 = .ok (.istore_n 1, 1) := by decide +kernel
theorem d_Np_begin_14 : decode prog_1_method_2_code 14 = .ok (.aload_n 0, 1) := by decide +kernel
theorem d_Np_begin_15 : decode prog_1_method_2_code 15 = .ok (.invokevirtual 81, 3) := by decide +kernel
theorem d_Np_begin_18 : decode prog_1_method_2_code 18 = .ok (.aload_n 0, 1) := by decide +kernel
theorem d_Np_begin_19 : decode prog_1_method_2_code 19 = .ok (.getfield 10, 3) := by decide +kernel
theorem d_Np_begin_22 : decode prog_1_method_2_code 22 = .ok (.invokevirtual 84, 3) := by decide +kernel
theorem d_Np_begin_25 : decode prog_1_method_2_code 25 = .ok (.iload_n 1, 1) := by decide +kernel
theorem d_Np_begin_26 : decode prog_1_method_2_code 26 = .ok (.ireturn, 1) := by decide +kernel
def f_Np_begin (F : Nat) (a0 : Nat) (h : PH) : Option (Int32 × PH) :=
  bnd (gR h a0 9 0) fun x1 => bnd (gR h x1 8 0) fun x2 => bnd (gL h x2 1 1) fun x3 => bnd (f_Lng_bitCount x3) fun x4 => bnd (cK h a0 9) fun _ => bnd (f_Np_save a0 h) fun h6 => bnd (gR h6 a0 9 0) fun x7 => bnd (cK h6 x7 8) fun _ => bnd (f_Sta_wipe F x7 h6) fun h9 => some (x4, h9)
theorem g_Np_begin_0 {l : Launch} {E : ET} {d : Nat} (hd : 5 ≤ d) {F : Nat} {r : Int32} {h9 : PH} {x : Nat}  (a0 : Nat) (h : PH) (hf : f_Np_begin F a0 h = some (r, h9)) : Go l E m_Np_begin (rm d 0 0) (KM E 0 0 (PoE (some (.int r)) h9 x)) 0 0 h x 0 [(0, .ref a0)] [] := by
  unfold f_Np_begin at hf
  refine go_aload_n 0 d_Np_begin_0 rfl ?_
  obtain ⟨x1, e_x1, hf⟩ := bnd_x hf
  refine go_get d_Np_begin_1 (gR_x e_x1) fl_Np_10 ?_
  obtain ⟨x2, e_x2, hf⟩ := bnd_x hf
  refine go_get d_Np_begin_4 (gR_x e_x2) fl_Np_68 ?_
  obtain ⟨x3, e_x3, hf⟩ := bnd_x hf
  refine go_get d_Np_begin_7 (gL_x e_x3) fl_Np_71 ?_
  obtain ⟨x4, e_x4, hf⟩ := bnd_x hf
  refine go_callS_I (As := [.long x3]) (st := []) (c_Lng_bitCount (d := d - 1) (by omega) e_x4) lk_Np_75 rfl rfl (rm_ok (by omega)) (Nat.le_of_ble_eq_true rfl) rm_c d_Np_begin_10 ?_
  refine go_istore_n (lv' := [(1, .int x4), (0, .ref a0)]) d_Np_begin_13 rfl (by decide) ?_
  refine go_aload_n 1 d_Np_begin_14 rfl ?_
  obtain ⟨_, e5, hf⟩ := bnd_x hf
  obtain ⟨h6, e_x6, hf⟩ := bnd_x hf
  refine go_callV_N (As := []) (st := []) (c_Np_save (d := d - 1) (by omega) e_x6) lk_Np_81 rfl rfl e5 (by decide) rfl (rm_ok (by omega)) (Nat.le_of_ble_eq_true rfl) rm_c d_Np_begin_15 ?_
  refine go_aload_n 1 d_Np_begin_18 rfl ?_
  obtain ⟨x7, e_x7, hf⟩ := bnd_x hf
  refine go_get d_Np_begin_19 (gR_x e_x7) fl_Np_10 ?_
  obtain ⟨_, e8, hf⟩ := bnd_x hf
  obtain ⟨h9, e_x9, hf⟩ := bnd_x hf
  refine go_callV_N (As := []) (st := []) (c_Sta_wipe (d := d - 1) (by omega) e_x9) lk_Np_84 rfl rfl e8 (by decide) rfl (rm_ok (by omega)) (Nat.le_of_ble_eq_true rfl) rm_c d_Np_begin_22 ?_
  refine go_iload_n 0 d_Np_begin_25 rfl ?_
  obtain ⟨e8, e9⟩ := Prod.mk.inj (Option.some.inj hf)
  subst e8; subst e9
  exact go_iret d_Np_begin_26 rfl ⟨rfl, rfl, rfl⟩
theorem c_Np_begin {l : Launch} {E : ET} {d : Nat} (hd : 5 ≤ d) {F : Nat} {r : Int32} {h9 : PH} {x : Nat} {a0 : Nat} {h : PH} (hf : f_Np_begin F a0 h = some (r, h9)) : Fn l E m_Np_begin d 0 0 [.ref a0] h x (PoE (some (.int r)) h9 x) :=
  Fn.of (by decide +kernel) (Nat.le_of_ble_eq_true rfl) (g_Np_begin_0 hd a0 h hf)
theorem d_Np_restart_0 : decode prog_1_method_7_code 0 = .ok (.aload_n 0, 1) := by decide +kernel
theorem d_Np_restart_1 : decode prog_1_method_7_code 1 = .ok (.invokevirtual 81, 3) := by decide +kernel
theorem d_Np_restart_4 : decode prog_1_method_7_code 4 = .ok (.aload_n 0, 1) := by decide +kernel
theorem d_Np_restart_5 : decode prog_1_method_7_code 5 = .ok (.getfield 10, 3) := by decide +kernel
theorem d_Np_restart_8 : decode prog_1_method_7_code 8 = .ok (.getfield 105, 3) := by decide +kernel
theorem d_Np_restart_11 : decode prog_1_method_7_code 11 = .ok (.invokevirtual 109, 3) := by decide +kernel
theorem d_Np_restart_14 : decode prog_1_method_7_code 14 = .ok (.aload_n 0, 1) := by decide +kernel
theorem d_Np_restart_15 : decode prog_1_method_7_code 15 = .ok (.getfield 10, 3) := by decide +kernel
theorem d_Np_restart_18 : decode prog_1_method_7_code 18 = .ok (.getfield 68, 3) := by decide +kernel
theorem d_Np_restart_21 : decode prog_1_method_7_code 21 = .ok (.aload_n 0, 1) := by decide +kernel
theorem d_Np_restart_22 : decode prog_1_method_7_code 22 = .ok (.getfield 10, 3) := by decide +kernel
theorem d_Np_restart_25 : decode prog_1_method_7_code 25 = .ok (.getfield 102, 3) := by decide +kernel
theorem d_Np_restart_28 : decode prog_1_method_7_code 28 = .ok (.invokevirtual 172, 3) := by decide +kernel
theorem d_Np_restart_31 : decode prog_1_method_7_code 31 = .ok (.aload_n 0, 1) := by decide +kernel
theorem d_Np_restart_32 : decode prog_1_method_7_code 32 = .ok (.getfield 10, 3) := by decide +kernel
theorem d_Np_restart_35 : decode prog_1_method_7_code 35 = .ok (.invokevirtual 176, 3) := by decide +kernel
theorem d_Np_restart_38 : decode prog_1_method_7_code 38 = .ok (.ireturn, 1) := by decide +kernel
def f_Np_restart (F : Nat) (a0 : Nat) (h : PH) : Option (Int32 × PH) :=
  bnd (cK h a0 9) fun _ => bnd (f_Np_save a0 h) fun h2 => bnd (gR h2 a0 9 0) fun x3 => bnd (gR h2 x3 8 3) fun x4 => bnd (cK h2 x4 0) fun _ => bnd (f_Log_wipe x4 h2) fun h6 => bnd (gR h6 a0 9 0) fun x7 => bnd (gR h6 x7 8 0) fun x8 => bnd (gR h6 a0 9 0) fun x9 => bnd (gR h6 x9 8 2) fun x10 => bnd (cK h6 x8 1) fun _ => bnd (f_Pos_beginWith F x8 x10 h6) fun h12 => bnd (gR h12 a0 9 0) fun x13 => bnd (cK h12 x13 8) fun _ => bnd (f_Sta_givenCount F x13 h12) fun x15 => some (x15, h12)
theorem g_Np_restart_0 {l : Launch} {E : ET} {d : Nat} (hd : 5 ≤ d) {F : Nat} {r : Int32} {h9 : PH} {x : Nat}  (a0 : Nat) (h : PH) (hf : f_Np_restart F a0 h = some (r, h9)) : Go l E m_Np_restart (rm d 0 0) (KM E 0 0 (PoE (some (.int r)) h9 x)) 0 0 h x 0 [(0, .ref a0)] [] := by
  unfold f_Np_restart at hf
  refine go_aload_n 0 d_Np_restart_0 rfl ?_
  obtain ⟨_, e1, hf⟩ := bnd_x hf
  obtain ⟨h2, e_x2, hf⟩ := bnd_x hf
  refine go_callV_N (As := []) (st := []) (c_Np_save (d := d - 1) (by omega) e_x2) lk_Np_81 rfl rfl e1 (by decide) rfl (rm_ok (by omega)) (Nat.le_of_ble_eq_true rfl) rm_c d_Np_restart_1 ?_
  refine go_aload_n 0 d_Np_restart_4 rfl ?_
  obtain ⟨x3, e_x3, hf⟩ := bnd_x hf
  refine go_get d_Np_restart_5 (gR_x e_x3) fl_Np_10 ?_
  obtain ⟨x4, e_x4, hf⟩ := bnd_x hf
  refine go_get d_Np_restart_8 (gR_x e_x4) fl_Np_105 ?_
  obtain ⟨_, e5, hf⟩ := bnd_x hf
  obtain ⟨h6, e_x6, hf⟩ := bnd_x hf
  refine go_callV_N (As := []) (st := []) (c_Log_wipe (d := d - 1) (by omega) e_x6) lk_Np_109 rfl rfl e5 (by decide) rfl (rm_ok (by omega)) (Nat.le_of_ble_eq_true rfl) rm_c d_Np_restart_11 ?_
  refine go_aload_n 0 d_Np_restart_14 rfl ?_
  obtain ⟨x7, e_x7, hf⟩ := bnd_x hf
  refine go_get d_Np_restart_15 (gR_x e_x7) fl_Np_10 ?_
  obtain ⟨x8, e_x8, hf⟩ := bnd_x hf
  refine go_get d_Np_restart_18 (gR_x e_x8) fl_Np_68 ?_
  refine go_aload_n 0 d_Np_restart_21 rfl ?_
  obtain ⟨x9, e_x9, hf⟩ := bnd_x hf
  refine go_get d_Np_restart_22 (gR_x e_x9) fl_Np_10 ?_
  obtain ⟨x10, e_x10, hf⟩ := bnd_x hf
  refine go_get d_Np_restart_25 (gR_x e_x10) fl_Np_102 ?_
  obtain ⟨_, e11, hf⟩ := bnd_x hf
  obtain ⟨h12, e_x12, hf⟩ := bnd_x hf
  refine go_callV_N (As := [.ref x10]) (st := []) (c_Pos_beginWith (d := d - 1) (by omega) e_x12) lk_Np_172 rfl rfl e11 (by decide) rfl (rm_ok (by omega)) (Nat.le_of_ble_eq_true rfl) rm_c d_Np_restart_28 ?_
  refine go_aload_n 0 d_Np_restart_31 rfl ?_
  obtain ⟨x13, e_x13, hf⟩ := bnd_x hf
  refine go_get d_Np_restart_32 (gR_x e_x13) fl_Np_10 ?_
  obtain ⟨_, e14, hf⟩ := bnd_x hf
  obtain ⟨x15, e_x15, hf⟩ := bnd_x hf
  refine go_callV_I (As := []) (st := []) (c_Sta_givenCount (d := d - 1) (by omega) e_x15) lk_Np_176 rfl rfl e14 (by decide) rfl (rm_ok (by omega)) (Nat.le_of_ble_eq_true rfl) rm_c d_Np_restart_35 ?_
  obtain ⟨e8, e9⟩ := Prod.mk.inj (Option.some.inj hf)
  subst e8; subst e9
  exact go_iret d_Np_restart_38 rfl ⟨rfl, rfl, rfl⟩
theorem c_Np_restart {l : Launch} {E : ET} {d : Nat} (hd : 5 ≤ d) {F : Nat} {r : Int32} {h9 : PH} {x : Nat} {a0 : Nat} {h : PH} (hf : f_Np_restart F a0 h = some (r, h9)) : Fn l E m_Np_restart d 0 0 [.ref a0] h x (PoE (some (.int r)) h9 x) :=
  Fn.of (by decide +kernel) (Nat.le_of_ble_eq_true rfl) (g_Np_restart_0 hd a0 h hf)
theorem d_Np_hint_0 : decode prog_1_method_15_code 0 = .ok (.aload_n 0, 1) := by decide +kernel
theorem d_Np_hint_1 : decode prog_1_method_15_code 1 = .ok (.getfield 33, 3) := by decide +kernel
theorem d_Np_hint_4 : decode prog_1_method_15_code 4 = .ok (.aload_n 0, 1) := by decide +kernel
theorem d_Np_hint_5 : decode prog_1_method_15_code 5 = .ok (.getfield 10, 3) := by decide +kernel
theorem d_Np_hint_8 : decode prog_1_method_15_code 8 = .ok (.getfield 68, 3) := by decide +kernel
theorem d_Np_hint_11 : decode prog_1_method_15_code 11 = .ok (.invokevirtual 251, 3) := by decide +kernel
theorem d_Np_hint_14 : decode prog_1_method_15_code 14 = .ok (.aload_n 0, 1) := by decide +kernel
theorem d_Np_hint_15 : decode prog_1_method_15_code 15 = .ok (.getfield 40, 3) := by decide +kernel
theorem d_Np_hint_18 : decode prog_1_method_15_code 18 = .ok (.aload_n 0, 1) := by decide +kernel
theorem d_Np_hint_19 : decode prog_1_method_15_code 19 = .ok (.getfield 33, 3) := by decide +kernel
theorem d_Np_hint_22 : decode prog_1_method_15_code 22 = .ok (.aload_n 0, 1) := by decide +kernel
theorem d_Np_hint_23 : decode prog_1_method_15_code 23 = .ok (.getfield 10, 3) := by decide +kernel
theorem d_Np_hint_26 : decode prog_1_method_15_code 26 = .ok (.getfield 129, 3) := by decide +kernel
theorem d_Np_hint_29 : decode prog_1_method_15_code 29 = .ok (.invokevirtual 235, 3) := by decide +kernel
theorem d_Np_hint_32 : decode prog_1_method_15_code 32 = .ok (.ireturn, 1) := by decide +kernel
def f_Np_hint (F : Nat) (a0 : Nat) (h : PH) : Option (Int32 × PH) :=
  bnd (gR h a0 9 6) fun x1 => bnd (gR h a0 9 0) fun x2 => bnd (gR h x2 8 0) fun x3 => bnd (cK h x1 1) fun _ => bnd (f_Pos_copyFrom x1 x3 h) fun h5 => bnd (gR h5 a0 9 7) fun x6 => bnd (gR h5 a0 9 6) fun x7 => bnd (gR h5 a0 9 0) fun x8 => bnd (gR h5 x8 8 1) fun x9 => bnd (cK h5 x6 3) fun _ => bnd2 (f_Rea_next F x6 x7 x9 h5) fun x11 h12 => some (x11, h12)
theorem g_Np_hint_0 {l : Launch} {E : ET} {d : Nat} (hd : 66 ≤ d) {F : Nat} {r : Int32} {h9 : PH} {x : Nat}  (a0 : Nat) (h : PH) (hf : f_Np_hint F a0 h = some (r, h9)) : Go l E m_Np_hint (rm d 0 0) (KM E 0 0 (PoE (some (.int r)) h9 x)) 0 0 h x 0 [(0, .ref a0)] [] := by
  unfold f_Np_hint at hf
  refine go_aload_n 0 d_Np_hint_0 rfl ?_
  obtain ⟨x1, e_x1, hf⟩ := bnd_x hf
  refine go_get d_Np_hint_1 (gR_x e_x1) fl_Np_33 ?_
  refine go_aload_n 0 d_Np_hint_4 rfl ?_
  obtain ⟨x2, e_x2, hf⟩ := bnd_x hf
  refine go_get d_Np_hint_5 (gR_x e_x2) fl_Np_10 ?_
  obtain ⟨x3, e_x3, hf⟩ := bnd_x hf
  refine go_get d_Np_hint_8 (gR_x e_x3) fl_Np_68 ?_
  obtain ⟨_, e4, hf⟩ := bnd_x hf
  obtain ⟨h5, e_x5, hf⟩ := bnd_x hf
  refine go_callV_N (As := [.ref x3]) (st := []) (c_Pos_copyFrom (d := d - 1) (by omega) e_x5) lk_Np_251 rfl rfl e4 (by decide) rfl (rm_ok (by omega)) (Nat.le_of_ble_eq_true rfl) rm_c d_Np_hint_11 ?_
  refine go_aload_n 0 d_Np_hint_14 rfl ?_
  obtain ⟨x6, e_x6, hf⟩ := bnd_x hf
  refine go_get d_Np_hint_15 (gR_x e_x6) fl_Np_40 ?_
  refine go_aload_n 0 d_Np_hint_18 rfl ?_
  obtain ⟨x7, e_x7, hf⟩ := bnd_x hf
  refine go_get d_Np_hint_19 (gR_x e_x7) fl_Np_33 ?_
  refine go_aload_n 0 d_Np_hint_22 rfl ?_
  obtain ⟨x8, e_x8, hf⟩ := bnd_x hf
  refine go_get d_Np_hint_23 (gR_x e_x8) fl_Np_10 ?_
  obtain ⟨x9, e_x9, hf⟩ := bnd_x hf
  refine go_get d_Np_hint_26 (gR_x e_x9) fl_Np_129 ?_
  obtain ⟨_, e10, hf⟩ := bnd_x hf
  obtain ⟨x11, h12, e_x11, hf⟩ := bnd2_x hf
  refine go_callV_I (As := [.ref x7, .ref x9]) (st := []) (c_Rea_next (d := d - 1) (by omega) e_x11) lk_Np_235 rfl rfl e10 (by decide) rfl (rm_ok (by omega)) (Nat.le_of_ble_eq_true rfl) rm_c d_Np_hint_29 ?_
  obtain ⟨e8, e9⟩ := Prod.mk.inj (Option.some.inj hf)
  subst e8; subst e9
  exact go_iret d_Np_hint_32 rfl ⟨rfl, rfl, rfl⟩
theorem c_Np_hint {l : Launch} {E : ET} {d : Nat} (hd : 66 ≤ d) {F : Nat} {r : Int32} {h9 : PH} {x : Nat} {a0 : Nat} {h : PH} (hf : f_Np_hint F a0 h = some (r, h9)) : Fn l E m_Np_hint d 0 0 [.ref a0] h x (PoE (some (.int r)) h9 x) :=
  Fn.of (by decide +kernel) (Nat.le_of_ble_eq_true rfl) (g_Np_hint_0 hd a0 h hf)
theorem d_Np_hintPlace_0 : decode prog_1_method_16_code 0 = .ok (.aload_n 0, 1) := by decide +kernel
theorem d_Np_hintPlace_1 : decode prog_1_method_16_code 1 = .ok (.getfield 33, 3) := by decide +kernel
theorem d_Np_hintPlace_4 : decode prog_1_method_16_code 4 = .ok (.aload_n 0, 1) := by decide +kernel
theorem d_Np_hintPlace_5 : decode prog_1_method_16_code 5 = .ok (.getfield 10, 3) := by decide +kernel
theorem d_Np_hintPlace_8 : decode prog_1_method_16_code 8 = .ok (.getfield 68, 3) := by decide +kernel
theorem d_Np_hintPlace_11 : decode prog_1_method_16_code 11 = .ok (.invokevirtual 251, 3) := by decide +kernel
theorem d_Np_hintPlace_14 : decode prog_1_method_16_code 14 = .ok (.aload_n 0, 1) := by decide +kernel
theorem d_Np_hintPlace_15 : decode prog_1_method_16_code 15 = .ok (.getfield 40, 3) := by decide +kernel
theorem d_Np_hintPlace_18 : decode prog_1_method_16_code 18 = .ok (.aload_n 0, 1) := by decide +kernel
theorem d_Np_hintPlace_19 : decode prog_1_method_16_code 19 = .ok (.getfield 33, 3) := by decide +kernel
theorem d_Np_hintPlace_22 : decode prog_1_method_16_code 22 = .ok (.aload_n 0, 1) := by decide +kernel
theorem d_Np_hintPlace_23 : decode prog_1_method_16_code 23 = .ok (.getfield 10, 3) := by decide +kernel
theorem d_Np_hintPlace_26 : decode prog_1_method_16_code 26 = .ok (.getfield 129, 3) := by decide +kernel
theorem d_Np_hintPlace_29 : decode prog_1_method_16_code 29 = .ok (.invokevirtual 235, 3) := by decide +kernel
theorem d_Np_hintPlace_32 : decode prog_1_method_16_code 32 = .ok (.pop, 1) := by decide +kernel
theorem d_Np_hintPlace_33 : decode prog_1_method_16_code 33 = .ok (.aload_n 0, 1) := by decide +kernel
theorem d_Np_hintPlace_34 : decode prog_1_method_16_code 34 = .ok (.getfield 40, 3) := by decide +kernel
theorem d_Np_hintPlace_37 : decode prog_1_method_16_code 37 = .ok (.getfield 242, 3) := by decide +kernel
theorem d_Np_hintPlace_40 : decode prog_1_method_16_code 40 = .ok (.ireturn, 1) := by decide +kernel
def f_Np_hintPlace (F : Nat) (a0 : Nat) (h : PH) : Option (Int32 × PH) :=
  bnd (gR h a0 9 6) fun x1 => bnd (gR h a0 9 0) fun x2 => bnd (gR h x2 8 0) fun x3 => bnd (cK h x1 1) fun _ => bnd (f_Pos_copyFrom x1 x3 h) fun h5 => bnd (gR h5 a0 9 7) fun x6 => bnd (gR h5 a0 9 6) fun x7 => bnd (gR h5 a0 9 0) fun x8 => bnd (gR h5 x8 8 1) fun x9 => bnd (cK h5 x6 3) fun _ => bnd2 (f_Rea_next F x6 x7 x9 h5) fun x11 h12 => bnd (gR h12 a0 9 7) fun x13 => bnd (gI h12 x13 3 2) fun x14 => some (x14, h12)
theorem g_Np_hintPlace_0 {l : Launch} {E : ET} {d : Nat} (hd : 66 ≤ d) {F : Nat} {r : Int32} {h9 : PH} {x : Nat}  (a0 : Nat) (h : PH) (hf : f_Np_hintPlace F a0 h = some (r, h9)) : Go l E m_Np_hintPlace (rm d 0 0) (KM E 0 0 (PoE (some (.int r)) h9 x)) 0 0 h x 0 [(0, .ref a0)] [] := by
  unfold f_Np_hintPlace at hf
  refine go_aload_n 0 d_Np_hintPlace_0 rfl ?_
  obtain ⟨x1, e_x1, hf⟩ := bnd_x hf
  refine go_get d_Np_hintPlace_1 (gR_x e_x1) fl_Np_33 ?_
  refine go_aload_n 0 d_Np_hintPlace_4 rfl ?_
  obtain ⟨x2, e_x2, hf⟩ := bnd_x hf
  refine go_get d_Np_hintPlace_5 (gR_x e_x2) fl_Np_10 ?_
  obtain ⟨x3, e_x3, hf⟩ := bnd_x hf
  refine go_get d_Np_hintPlace_8 (gR_x e_x3) fl_Np_68 ?_
  obtain ⟨_, e4, hf⟩ := bnd_x hf
  obtain ⟨h5, e_x5, hf⟩ := bnd_x hf
  refine go_callV_N (As := [.ref x3]) (st := []) (c_Pos_copyFrom (d := d - 1) (by omega) e_x5) lk_Np_251 rfl rfl e4 (by decide) rfl (rm_ok (by omega)) (Nat.le_of_ble_eq_true rfl) rm_c d_Np_hintPlace_11 ?_
  refine go_aload_n 0 d_Np_hintPlace_14 rfl ?_
  obtain ⟨x6, e_x6, hf⟩ := bnd_x hf
  refine go_get d_Np_hintPlace_15 (gR_x e_x6) fl_Np_40 ?_
  refine go_aload_n 0 d_Np_hintPlace_18 rfl ?_
  obtain ⟨x7, e_x7, hf⟩ := bnd_x hf
  refine go_get d_Np_hintPlace_19 (gR_x e_x7) fl_Np_33 ?_
  refine go_aload_n 0 d_Np_hintPlace_22 rfl ?_
  obtain ⟨x8, e_x8, hf⟩ := bnd_x hf
  refine go_get d_Np_hintPlace_23 (gR_x e_x8) fl_Np_10 ?_
  obtain ⟨x9, e_x9, hf⟩ := bnd_x hf
  refine go_get d_Np_hintPlace_26 (gR_x e_x9) fl_Np_129 ?_
  obtain ⟨_, e10, hf⟩ := bnd_x hf
  obtain ⟨x11, h12, e_x11, hf⟩ := bnd2_x hf
  refine go_callV_I (As := [.ref x7, .ref x9]) (st := []) (c_Rea_next (d := d - 1) (by omega) e_x11) lk_Np_235 rfl rfl e10 (by decide) rfl (rm_ok (by omega)) (Nat.le_of_ble_eq_true rfl) rm_c d_Np_hintPlace_29 ?_
  refine go_pop d_Np_hintPlace_32 rfl ?_
  refine go_aload_n 0 d_Np_hintPlace_33 rfl ?_
  obtain ⟨x13, e_x13, hf⟩ := bnd_x hf
  refine go_get d_Np_hintPlace_34 (gR_x e_x13) fl_Np_40 ?_
  obtain ⟨x14, e_x14, hf⟩ := bnd_x hf
  refine go_get d_Np_hintPlace_37 (gI_x e_x14) fl_Np_242 ?_
  obtain ⟨e8, e9⟩ := Prod.mk.inj (Option.some.inj hf)
  subst e8; subst e9
  exact go_iret d_Np_hintPlace_40 rfl ⟨rfl, rfl, rfl⟩
theorem c_Np_hintPlace {l : Launch} {E : ET} {d : Nat} (hd : 66 ≤ d) {F : Nat} {r : Int32} {h9 : PH} {x : Nat} {a0 : Nat} {h : PH} (hf : f_Np_hintPlace F a0 h = some (r, h9)) : Fn l E m_Np_hintPlace d 0 0 [.ref a0] h x (PoE (some (.int r)) h9 x) :=
  Fn.of (by decide +kernel) (Nat.le_of_ble_eq_true rfl) (g_Np_hintPlace_0 hd a0 h hf)
theorem d_Np_logged_0 : decode prog_1_method_17_code 0 = .ok (.aload_n 0, 1) := by decide +kernel
theorem d_Np_logged_1 : decode prog_1_method_17_code 1 = .ok (.getfield 10, 3) := by decide +kernel
theorem d_Np_logged_4 : decode prog_1_method_17_code 4 = .ok (.getfield 105, 3) := by decide +kernel
theorem d_Np_logged_7 : decode prog_1_method_17_code 7 = .ok (.getfield 255, 3) := by decide +kernel
theorem d_Np_logged_10 : decode prog_1_method_17_code 10 = .ok (.ireturn, 1) := by decide +kernel
def f_Np_logged (a0 : Nat) (h : PH) : Option Int32 :=
  bnd (gR h a0 9 0) fun x1 => bnd (gR h x1 8 3) fun x2 => bnd (gI h x2 0 2) fun x3 => some x3
theorem g_Np_logged_0 {l : Launch} {E : ET} {d : Nat} (hd : 1 ≤ d) {r : Int32} {h : PH} {x : Nat}  (a0 : Nat) (hf : f_Np_logged a0 h = some r) : Go l E m_Np_logged (rm d 0 0) (KM E 0 0 (PoE (some (.int r)) h x)) 0 0 h x 0 [(0, .ref a0)] [] := by
  unfold f_Np_logged at hf
  refine go_aload_n 0 d_Np_logged_0 rfl ?_
  obtain ⟨x1, e_x1, hf⟩ := bnd_x hf
  refine go_get d_Np_logged_1 (gR_x e_x1) fl_Np_10 ?_
  obtain ⟨x2, e_x2, hf⟩ := bnd_x hf
  refine go_get d_Np_logged_4 (gR_x e_x2) fl_Np_105 ?_
  obtain ⟨x3, e_x3, hf⟩ := bnd_x hf
  refine go_get d_Np_logged_7 (gI_x e_x3) fl_Np_255 ?_
  have e9 := Option.some.inj hf
  subst e9
  exact go_iret d_Np_logged_10 rfl ⟨rfl, rfl, rfl⟩
theorem c_Np_logged {l : Launch} {E : ET} {d : Nat} (hd : 1 ≤ d) {r : Int32} {h : PH} {x : Nat} {a0 : Nat} (hf : f_Np_logged a0 h = some r) : Fn l E m_Np_logged d 0 0 [.ref a0] h x (PoE (some (.int r)) h x) :=
  Fn.of (by decide +kernel) (Nat.le_of_ble_eq_true rfl) (g_Np_logged_0 hd a0 hf)
theorem d_Np_guesses_0 : decode prog_1_method_21_code 0 = .ok (.aload_n 0, 1) := by decide +kernel
theorem d_Np_guesses_1 : decode prog_1_method_21_code 1 = .ok (.getfield 47, 3) := by decide +kernel
theorem d_Np_guesses_4 : decode prog_1_method_21_code 4 = .ok (.aload_n 0, 1) := by decide +kernel
theorem d_Np_guesses_5 : decode prog_1_method_21_code 5 = .ok (.getfield 10, 3) := by decide +kernel
theorem d_Np_guesses_8 : decode prog_1_method_21_code 8 = .ok (.getfield 68, 3) := by decide +kernel
theorem d_Np_guesses_11 : decode prog_1_method_21_code 11 = .ok (.aload_n 0, 1) := by decide +kernel
theorem d_Np_guesses_12 : decode prog_1_method_21_code 12 = .ok (.getfield 10, 3) := by decide +kernel
theorem d_Np_guesses_15 : decode prog_1_method_21_code 15 = .ok (.getfield 129, 3) := by decide +kernel
theorem d_Np_guesses_18 : decode prog_1_method_21_code 18 = .ok (.iconst 1, 1) := by decide +kernel
theorem d_Np_guesses_19 : decode prog_1_method_21_code 19 = .ok (.invokevirtual 195, 3) := by decide +kernel
theorem d_Np_guesses_22 : decode prog_1_method_21_code 22 = .ok (.ifCond .ne 5, 3) := by decide +kernel
theorem d_Np_guesses_25 : decode prog_1_method_21_code 25 = .ok (.iconst (-1), 1) := by decide +kernel
theorem d_Np_guesses_26 : decode prog_1_method_21_code 26 = .ok (.ireturn, 1) := by decide +kernel
theorem d_Np_guesses_27 : decode prog_1_method_21_code 27 = .ok (.aload_n 0, 1) := by decide +kernel
theorem d_Np_guesses_28 : decode prog_1_method_21_code 28 = .ok (.getfield 47, 3) := by decide +kernel
theorem d_Np_guesses_31 : decode prog_1_method_21_code 31 = .ok (.aload_n 0, 1) := by decide +kernel
theorem d_Np_guesses_32 : decode prog_1_method_21_code 32 = .ok (.getfield 10, 3) := by decide +kernel
theorem d_Np_guesses_35 : decode prog_1_method_21_code 35 = .ok (.getfield 68, 3) := by decide +kernel
theorem d_Np_guesses_38 : decode prog_1_method_21_code 38 = .ok (.aload_n 0, 1) := by decide +kernel
theorem d_Np_guesses_39 : decode prog_1_method_21_code 39 = .ok (.getfield 10, 3) := by decide +kernel
theorem d_Np_guesses_42 : decode prog_1_method_21_code 42 = .ok (.getfield 129, 3) := by decide +kernel
theorem d_Np_guesses_45 : decode prog_1_method_21_code 45 = .ok (.invokevirtual 265, 3) := by decide +kernel
theorem d_Np_guesses_48 : decode prog_1_method_21_code 48 = .ok (.ireturn, 1) := by decide +kernel
def f_Np_guesses (F : Nat) (a0 : Nat) (h : PH) : Option (Int32 × PH) :=
  bnd (gR h a0 9 8) fun x1 => bnd (gR h a0 9 0) fun x2 => bnd (gR h x2 8 0) fun x3 => bnd (gR h a0 9 0) fun x4 => bnd (gR h x4 8 1) fun x5 => bnd (cK h x1 7) fun _ => bnd2 (f_Sol_countSolutions F x1 x3 x5 (1 : Int32) h) fun x7 h8 => (if x7 = (0 : Int32) then some ((-1 : Int32), h8) else bnd (gR h8 a0 9 8) fun x9 => bnd (gR h8 a0 9 0) fun x10 => bnd (gR h8 x10 8 0) fun x11 => bnd (gR h8 a0 9 0) fun x12 => bnd (gR h8 x12 8 1) fun x13 => bnd (cK h8 x9 7) fun _ => bnd2 (f_Sol_countGuesses F x9 x11 x13 h8) fun x15 h16 => some (x15, h16))
theorem g_Np_guesses_0 {l : Launch} {E : ET} {d : Nat} (hd : 128 ≤ d) {F : Nat} {r : Int32} {h9 : PH} {x : Nat}  (a0 : Nat) (h : PH) (hf : f_Np_guesses F a0 h = some (r, h9)) : Go l E m_Np_guesses (rm d 0 0) (KM E 0 0 (PoE (some (.int r)) h9 x)) 0 0 h x 0 [(0, .ref a0)] [] := by
  unfold f_Np_guesses at hf
  refine go_aload_n 0 d_Np_guesses_0 rfl ?_
  obtain ⟨x1, e_x1, hf⟩ := bnd_x hf
  refine go_get d_Np_guesses_1 (gR_x e_x1) fl_Np_47 ?_
  refine go_aload_n 0 d_Np_guesses_4 rfl ?_
  obtain ⟨x2, e_x2, hf⟩ := bnd_x hf
  refine go_get d_Np_guesses_5 (gR_x e_x2) fl_Np_10 ?_
  obtain ⟨x3, e_x3, hf⟩ := bnd_x hf
  refine go_get d_Np_guesses_8 (gR_x e_x3) fl_Np_68 ?_
  refine go_aload_n 0 d_Np_guesses_11 rfl ?_
  obtain ⟨x4, e_x4, hf⟩ := bnd_x hf
  refine go_get d_Np_guesses_12 (gR_x e_x4) fl_Np_10 ?_
  obtain ⟨x5, e_x5, hf⟩ := bnd_x hf
  refine go_get d_Np_guesses_15 (gR_x e_x5) fl_Np_129 ?_
  refine go_iconst (1 : Int32) d_Np_guesses_18 (by decide) ?_
  obtain ⟨_, e6, hf⟩ := bnd_x hf
  obtain ⟨x7, h8, e_x7, hf⟩ := bnd2_x hf
  refine go_callV_I (As := [.ref x3, .ref x5, .int (1 : Int32)]) (st := []) (c_Sol_countSolutions (d := d - 1) (by omega) e_x7) lk_Np_195 rfl rfl e6 (by decide) rfl (rm_ok (by omega)) (Nat.le_of_ble_eq_true rfl) rm_c d_Np_guesses_19 ?_
  refine go_if_ne 27 d_Np_guesses_22 (by decide) (fun q17 => ?_) (fun q17 => ?_)
  · rw [if_neg q17] at hf
    refine go_aload_n 0 d_Np_guesses_27 rfl ?_
    obtain ⟨x9, e_x9, hf⟩ := bnd_x hf
    refine go_get d_Np_guesses_28 (gR_x e_x9) fl_Np_47 ?_
    refine go_aload_n 0 d_Np_guesses_31 rfl ?_
    obtain ⟨x10, e_x10, hf⟩ := bnd_x hf
    refine go_get d_Np_guesses_32 (gR_x e_x10) fl_Np_10 ?_
    obtain ⟨x11, e_x11, hf⟩ := bnd_x hf
    refine go_get d_Np_guesses_35 (gR_x e_x11) fl_Np_68 ?_
    refine go_aload_n 0 d_Np_guesses_38 rfl ?_
    obtain ⟨x12, e_x12, hf⟩ := bnd_x hf
    refine go_get d_Np_guesses_39 (gR_x e_x12) fl_Np_10 ?_
    obtain ⟨x13, e_x13, hf⟩ := bnd_x hf
    refine go_get d_Np_guesses_42 (gR_x e_x13) fl_Np_129 ?_
    obtain ⟨_, e14, hf⟩ := bnd_x hf
    obtain ⟨x15, h16, e_x15, hf⟩ := bnd2_x hf
    refine go_callV_I (As := [.ref x11, .ref x13]) (st := []) (c_Sol_countGuesses (d := d - 1) (by omega) e_x15) lk_Np_265 rfl rfl e14 (by decide) rfl (rm_ok (by omega)) (Nat.le_of_ble_eq_true rfl) rm_c d_Np_guesses_45 ?_
    obtain ⟨e8, e9⟩ := Prod.mk.inj (Option.some.inj hf)
    subst e8; subst e9
    exact go_iret d_Np_guesses_48 rfl ⟨rfl, rfl, rfl⟩
  · rw [if_pos q17] at hf
    refine go_iconst (-1 : Int32) d_Np_guesses_25 (by decide) ?_
    obtain ⟨e8, e9⟩ := Prod.mk.inj (Option.some.inj hf)
    subst e8; subst e9
    exact go_iret d_Np_guesses_26 rfl ⟨rfl, rfl, rfl⟩
theorem c_Np_guesses {l : Launch} {E : ET} {d : Nat} (hd : 128 ≤ d) {F : Nat} {r : Int32} {h9 : PH} {x : Nat} {a0 : Nat} {h : PH} (hf : f_Np_guesses F a0 h = some (r, h9)) : Fn l E m_Np_guesses d 0 0 [.ref a0] h x (PoE (some (.int r)) h9 x) :=
  Fn.of (by decide +kernel) (Nat.le_of_ble_eq_true rfl) (g_Np_guesses_0 hd a0 h hf)
theorem d_Np_superfluous_0 : decode prog_1_method_23_code 0 = .ok (.aload_n 0, 1) := by decide +kernel
theorem d_Np_superfluous_1 : decode prog_1_method_23_code 1 = .ok (.getfield 47, 3) := by decide +kernel
theorem d_Np_superfluous_4 : decode prog_1_method_23_code 4 = .ok (.aload_n 0, 1) := by decide +kernel
theorem d_Np_superfluous_5 : decode prog_1_method_23_code 5 = .ok (.getfield 10, 3) := by decide +kernel
theorem d_Np_superfluous_8 : decode prog_1_method_23_code 8 = .ok (.getfield 68, 3) := by decide +kernel
theorem d_Np_superfluous_11 : decode prog_1_method_23_code 11 = .ok (.aload_n 0, 1) := by decide +kernel
theorem d_Np_superfluous_12 : decode prog_1_method_23_code 12 = .ok (.getfield 10, 3) := by decide +kernel
theorem d_Np_superfluous_15 : decode prog_1_method_23_code 15 = .ok (.getfield 129, 3) := by decide +kernel
theorem d_Np_superfluous_18 : decode prog_1_method_23_code 18 = .ok (.bipush 21, 2) := by decide +kernel
theorem d_Np_superfluous_20 : decode prog_1_method_23_code 20 = .ok (.invokevirtual 195, 3) := by decide +kernel
theorem d_Np_superfluous_23 : decode prog_1_method_23_code 23 = .ok (.istore_n 1, 1) := by decide +kernel
theorem d_Np_superfluous_24 : decode prog_1_method_23_code 24 = .ok (.iload_n 1, 1) := by decide +kernel
theorem d_Np_superfluous_25 : decode prog_1_method_23_code 25 = .ok (.bipush 20, 2) := by decide +kernel
theorem d_Np_superfluous_27 : decode prog_1_method_23_code 27 = .ok (.if_icmp .le 7, 3) := by decide +kernel
theorem d_Np_superfluous_30 : decode prog_1_method_23_code 30 = .ok (.iconst (-1), 1) := by decide +kernel
theorem d_Np_superfluous_31 : decode prog_1_method_23_code 31 = .ok (.goto 17, 3) := by decide +kernel
theorem d_Np_superfluous_34 : decode prog_1_method_23_code 34 = .ok (.aload_n 0, 1) := by decide +kernel
theorem d_Np_superfluous_35 : decode prog_1_method_23_code 35 = .ok (.getfield 47, 3) := by decide +kernel
theorem d_Np_superfluous_38 : decode prog_1_method_23_code 38 = .ok (.aload_n 0, 1) := by decide +kernel
theorem d_Np_superfluous_39 : decode prog_1_method_23_code 39 = .ok (.getfield 10, 3) := by decide +kernel
theorem d_Np_superfluous_42 : decode prog_1_method_23_code 42 = .ok (.getfield 68, 3) := by decide +kernel
theorem d_Np_superfluous_45 : decode prog_1_method_23_code 45 = .ok (.invokevirtual 271, 3) := by decide +kernel
theorem d_Np_superfluous_48 : decode prog_1_method_23_code 48 = .ok (.ireturn, 1) := by decide +kernel
def f_Np_superfluous (F : Nat) (a0 : Nat) (h : PH) : Option (Int32 × PH) :=
  bnd (gR h a0 9 8) fun x1 => bnd (gR h a0 9 0) fun x2 => bnd (gR h x2 8 0) fun x3 => bnd (gR h a0 9 0) fun x4 => bnd (gR h x4 8 1) fun x5 => bnd (cK h x1 7) fun _ => bnd2 (f_Sol_countSolutions F x1 x3 x5 (21 : Int32) h) fun x7 h8 => (if x7 ≤ (20 : Int32) then bnd (gR h8 a0 9 8) fun x9 => bnd (gR h8 a0 9 0) fun x10 => bnd (gR h8 x10 8 0) fun x11 => bnd (cK h8 x9 7) fun _ => bnd (f_Sol_countUnseen F x9 x11 h8) fun x13 => some (x13, h8) else some ((-1 : Int32), h8))
theorem g_Np_superfluous_0 {l : Launch} {E : ET} {d : Nat} (hd : 128 ≤ d) {F : Nat} {r : Int32} {h9 : PH} {x : Nat}  (a0 : Nat) (h : PH) (hf : f_Np_superfluous F a0 h = some (r, h9)) : Go l E m_Np_superfluous (rm d 0 0) (KM E 0 0 (PoE (some (.int r)) h9 x)) 0 0 h x 0 [(0, .ref a0)] [] := by
  unfold f_Np_superfluous at hf
  refine go_aload_n 0 d_Np_superfluous_0 rfl ?_
  obtain ⟨x1, e_x1, hf⟩ := bnd_x hf
  refine go_get d_Np_superfluous_1 (gR_x e_x1) fl_Np_47 ?_
  refine go_aload_n 0 d_Np_superfluous_4 rfl ?_
  obtain ⟨x2, e_x2, hf⟩ := bnd_x hf
  refine go_get d_Np_superfluous_5 (gR_x e_x2) fl_Np_10 ?_
  obtain ⟨x3, e_x3, hf⟩ := bnd_x hf
  refine go_get d_Np_superfluous_8 (gR_x e_x3) fl_Np_68 ?_
  refine go_aload_n 0 d_Np_superfluous_11 rfl ?_
  obtain ⟨x4, e_x4, hf⟩ := bnd_x hf
  refine go_get d_Np_superfluous_12 (gR_x e_x4) fl_Np_10 ?_
  obtain ⟨x5, e_x5, hf⟩ := bnd_x hf
  refine go_get d_Np_superfluous_15 (gR_x e_x5) fl_Np_129 ?_
  refine go_bipush (21 : Int32) d_Np_superfluous_18 (by decide) ?_
  obtain ⟨_, e6, hf⟩ := bnd_x hf
  obtain ⟨x7, h8, e_x7, hf⟩ := bnd2_x hf
  refine go_callV_I (As := [.ref x3, .ref x5, .int (21 : Int32)]) (st := []) (c_Sol_countSolutions (d := d - 1) (by omega) e_x7) lk_Np_195 rfl rfl e6 (by decide) rfl (rm_ok (by omega)) (Nat.le_of_ble_eq_true rfl) rm_c d_Np_superfluous_20 ?_
  refine go_istore_n (lv' := [(1, .int x7), (0, .ref a0)]) d_Np_superfluous_23 rfl (by decide) ?_
  refine go_iload_n 0 d_Np_superfluous_24 rfl ?_
  refine go_bipush (20 : Int32) d_Np_superfluous_25 (by decide) ?_
  refine go_icmp_le 34 d_Np_superfluous_27 (by decide) (fun q14 => ?_) (fun q14 => ?_)
  · rw [if_pos q14] at hf
    refine go_aload_n 1 d_Np_superfluous_34 rfl ?_
    obtain ⟨x9, e_x9, hf⟩ := bnd_x hf
    refine go_get d_Np_superfluous_35 (gR_x e_x9) fl_Np_47 ?_
    refine go_aload_n 1 d_Np_superfluous_38 rfl ?_
    obtain ⟨x10, e_x10, hf⟩ := bnd_x hf
    refine go_get d_Np_superfluous_39 (gR_x e_x10) fl_Np_10 ?_
    obtain ⟨x11, e_x11, hf⟩ := bnd_x hf
    refine go_get d_Np_superfluous_42 (gR_x e_x11) fl_Np_68 ?_
    obtain ⟨_, e12, hf⟩ := bnd_x hf
    obtain ⟨x13, e_x13, hf⟩ := bnd_x hf
    refine go_callV_I (As := [.ref x11]) (st := []) (c_Sol_countUnseen (d := d - 1) (by omega) e_x13) lk_Np_271 rfl rfl e12 (by decide) rfl (rm_ok (by omega)) (Nat.le_of_ble_eq_true rfl) rm_c d_Np_superfluous_45 ?_
    obtain ⟨e8, e9⟩ := Prod.mk.inj (Option.some.inj hf)
    subst e8; subst e9
    exact go_iret d_Np_superfluous_48 rfl ⟨rfl, rfl, rfl⟩
  · rw [if_neg q14] at hf
    refine go_iconst (-1 : Int32) d_Np_superfluous_30 (by decide) ?_
    refine go_goto 48 d_Np_superfluous_31 (by decide) ?_
    obtain ⟨e8, e9⟩ := Prod.mk.inj (Option.some.inj hf)
    subst e8; subst e9
    exact go_iret d_Np_superfluous_48 rfl ⟨rfl, rfl, rfl⟩
theorem c_Np_superfluous {l : Launch} {E : ET} {d : Nat} (hd : 128 ≤ d) {F : Nat} {r : Int32} {h9 : PH} {x : Nat} {a0 : Nat} {h : PH} (hf : f_Np_superfluous F a0 h = some (r, h9)) : Fn l E m_Np_superfluous d 0 0 [.ref a0] h x (PoE (some (.int r)) h9 x) :=
  Fn.of (by decide +kernel) (Nat.le_of_ble_eq_true rfl) (g_Np_superfluous_0 hd a0 h hf)
theorem d_Np_beginTrial_0 : decode prog_1_method_38_code 0 = .ok (.aload_n 0, 1) := by decide +kernel
theorem d_Np_beginTrial_1 : decode prog_1_method_38_code 1 = .ok (.getfield 33, 3) := by decide +kernel
theorem d_Np_beginTrial_4 : decode prog_1_method_38_code 4 = .ok (.aload_n 0, 1) := by decide +kernel
theorem d_Np_beginTrial_5 : decode prog_1_method_38_code 5 = .ok (.getfield 10, 3) := by decide +kernel
theorem d_Np_beginTrial_8 : decode prog_1_method_38_code 8 = .ok (.getfield 102, 3) := by decide +kernel
theorem d_Np_beginTrial_11 : decode prog_1_method_38_code 11 = .ok (.invokevirtual 172, 3) := by decide +kernel
theorem d_Np_beginTrial_14 : decode prog_1_method_38_code 14 = .ok (.aload_n 0, 1) := by decide +kernel
theorem d_Np_beginTrial_15 : decode prog_1_method_38_code 15 = .ok (.getfield 51, 3) := by decide +kernel
theorem d_Np_beginTrial_18 : decode prog_1_method_38_code 18 = .ok (.invokevirtual 275, 3) := by decide +kernel
theorem d_Np_beginTrial_21 : decode prog_1_method_38_code 21 = .ok (.return_, 1) := by decide +kernel
def f_Np_beginTrial (F : Nat) (a0 : Nat) (h : PH) : Option PH :=
  bnd (gR h a0 9 6) fun x1 => bnd (gR h a0 9 0) fun x2 => bnd (gR h x2 8 2) fun x3 => bnd (cK h x1 1) fun _ => bnd (f_Pos_beginWith F x1 x3 h) fun h5 => bnd (gR h5 a0 9 9) fun x6 => bnd (cK h5 x6 7) fun _ => bnd (f_Sol_forget x6 h5) fun h8 => some h8
theorem g_Np_beginTrial_0 {l : Launch} {E : ET} {d : Nat} (hd : 5 ≤ d) {F : Nat} {h9 : PH} {x : Nat}  (a0 : Nat) (h : PH) (hf : f_Np_beginTrial F a0 h = some h9) : Go l E m_Np_beginTrial (rm d 0 0) (KM E 0 0 (PoE none h9 x)) 0 0 h x 0 [(0, .ref a0)] [] := by
  unfold f_Np_beginTrial at hf
  refine go_aload_n 0 d_Np_beginTrial_0 rfl ?_
  obtain ⟨x1, e_x1, hf⟩ := bnd_x hf
  refine go_get d_Np_beginTrial_1 (gR_x e_x1) fl_Np_33 ?_
  refine go_aload_n 0 d_Np_beginTrial_4 rfl ?_
  obtain ⟨x2, e_x2, hf⟩ := bnd_x hf
  refine go_get d_Np_beginTrial_5 (gR_x e_x2) fl_Np_10 ?_
  obtain ⟨x3, e_x3, hf⟩ := bnd_x hf
  refine go_get d_Np_beginTrial_8 (gR_x e_x3) fl_Np_102 ?_
  obtain ⟨_, e4, hf⟩ := bnd_x hf
  obtain ⟨h5, e_x5, hf⟩ := bnd_x hf
  refine go_callV_N (As := [.ref x3]) (st := []) (c_Pos_beginWith (d := d - 1) (by omega) e_x5) lk_Np_172 rfl rfl e4 (by decide) rfl (rm_ok (by omega)) (Nat.le_of_ble_eq_true rfl) rm_c d_Np_beginTrial_11 ?_
  refine go_aload_n 0 d_Np_beginTrial_14 rfl ?_
  obtain ⟨x6, e_x6, hf⟩ := bnd_x hf
  refine go_get d_Np_beginTrial_15 (gR_x e_x6) fl_Np_51 ?_
  obtain ⟨_, e7, hf⟩ := bnd_x hf
  obtain ⟨h8, e_x8, hf⟩ := bnd_x hf
  refine go_callV_N (As := []) (st := []) (c_Sol_forget (d := d - 1) (by omega) e_x8) lk_Np_275 rfl rfl e7 (by decide) rfl (rm_ok (by omega)) (Nat.le_of_ble_eq_true rfl) rm_c d_Np_beginTrial_18 ?_
  have e9 := Option.some.inj hf
  subst e9
  exact go_vret d_Np_beginTrial_21 rfl ⟨rfl, rfl, rfl⟩
theorem c_Np_beginTrial {l : Launch} {E : ET} {d : Nat} (hd : 5 ≤ d) {F : Nat} {h9 : PH} {x : Nat} {a0 : Nat} {h : PH} (hf : f_Np_beginTrial F a0 h = some h9) : Fn l E m_Np_beginTrial d 0 0 [.ref a0] h x (PoE none h9 x) :=
  Fn.of (by decide +kernel) (Nat.le_of_ble_eq_true rfl) (g_Np_beginTrial_0 hd a0 h hf)
theorem d_Np_needed_0 : decode prog_1_method_25_code 0 = .ok (.iconst 0, 1) := by decide +kernel
theorem d_Np_needed_1 : decode prog_1_method_25_code 1 = .ok (.istore_n 1, 1) := by decide +kernel
theorem d_Np_needed_2 : decode prog_1_method_25_code 2 = .ok (.iconst 0, 1) := by decide +kernel
theorem d_Np_needed_3 : decode prog_1_method_25_code 3 = .ok (.istore_n 2, 1) := by decide +kernel
theorem d_Np_needed_4 : decode prog_1_method_25_code 4 = .ok (.iload_n 2, 1) := by decide +kernel
theorem d_Np_needed_5 : decode prog_1_method_25_code 5 = .ok (.bipush 36, 2) := by decide +kernel
theorem d_Np_needed_7 : decode prog_1_method_25_code 7 = .ok (.if_icmp .ge 78, 3) := by decide +kernel
theorem d_Np_needed_10 : decode prog_1_method_25_code 10 = .ok (.aload_n 0, 1) := by decide +kernel
theorem d_Np_needed_11 : decode prog_1_method_25_code 11 = .ok (.getfield 10, 3) := by decide +kernel
theorem d_Np_needed_14 : decode prog_1_method_25_code 14 = .ok (.getfield 102, 3) := by decide +kernel
theorem d_Np_needed_17 : decode prog_1_method_25_code 17 = .ok (.iload_n 2, 1) := by decide +kernel
theorem d_Np_needed_18 : decode prog_1_method_25_code 18 = .ok (.iaload, 1) := by decide +kernel
theorem d_Np_needed_19 : decode prog_1_method_25_code 19 = .ok (.istore_n 3, 1) := by decide +kernel
theorem d_Np_needed_20 : decode prog_1_method_25_code 20 = .ok (.iload_n 3, 1) := by decide +kernel
theorem d_Np_needed_21 : decode prog_1_method_25_code 21 = .ok (.ifCond .eq 58, 3) := by decide +kernel
theorem d_Np_needed_24 : decode prog_1_method_25_code 24 = .ok (.aload_n 0, 1) := by decide +kernel
theorem d_Np_needed_25 : decode prog_1_method_25_code 25 = .ok (.getfield 10, 3) := by decide +kernel
theorem d_Np_needed_28 : decode prog_1_method_25_code 28 = .ok (.getfield 102, 3) := by decide +kernel
theorem d_Np_needed_31 : decode prog_1_method_25_code 31 = .ok (.iload_n 2, 1) := by decide +kernel
theorem d_Np_needed_32 : decode prog_1_method_25_code 32 = .ok (.iconst 0, 1) := by decide +kernel
theorem d_Np_needed_33 : decode prog_1_method_25_code 33 = .ok (.iastore, 1) := by decide +kernel
theorem d_Np_needed_34 : decode prog_1_method_25_code 34 = .ok (.aload_n 0, 1) := by decide +kernel
theorem d_Np_needed_35 : decode prog_1_method_25_code 35 = .ok (.invokevirtual 192, 3) := by decide +kernel
theorem d_Np_needed_38 : decode prog_1_method_25_code 38 = .ok (.iload_n 1, 1) := by decide +kernel
theorem d_Np_needed_39 : decode prog_1_method_25_code 39 = .ok (.aload_n 0, 1) := by decide +kernel
theorem d_Np_needed_40 : decode prog_1_method_25_code 40 = .ok (.getfield 51, 3) := by decide +kernel
theorem d_Np_needed_43 : decode prog_1_method_25_code 43 = .ok (.aload_n 0, 1) := by decide +kernel
theorem d_Np_needed_44 : decode prog_1_method_25_code 44 = .ok (.getfield 33, 3) := by decide +kernel
theorem d_Np_needed_47 : decode prog_1_method_25_code 47 = .ok (.aload_n 0, 1) := by decide +kernel
theorem d_Np_needed_48 : decode prog_1_method_25_code 48 = .ok (.getfield 10, 3) := by decide +kernel
theorem d_Np_needed_51 : decode prog_1_method_25_code 51 = .ok (.getfield 129, 3) := by decide +kernel
theorem d_Np_needed_54 : decode prog_1_method_25_code 54 = .ok (.iconst 2, 1) := by decide +kernel
theorem d_Np_needed_55 : decode prog_1_method_25_code 55 = .ok (.invokevirtual 195, 3) := by decide +kernel
theorem d_Np_needed_58 : decode prog_1_method_25_code 58 = .ok (.iconst 1, 1) := by decide +kernel
theorem d_Np_needed_59 : decode prog_1_method_25_code 59 = .ok (.if_icmp .le 7, 3) := by decide +kernel
theorem d_Np_needed_62 : decode prog_1_method_25_code 62 = .ok (.iconst 1, 1) := by decide +kernel
theorem d_Np_needed_63 : decode prog_1_method_25_code 63 = .ok (.goto 4, 3) := by decide +kernel
theorem d_Np_needed_66 : decode prog_1_method_25_code 66 = .ok (.iconst 0, 1) := by decide +kernel
theorem d_Np_needed_67 : decode prog_1_method_25_code 67 = .ok (.iadd, 1) := by decide +kernel
theorem d_Np_needed_68 : decode prog_1_method_25_code 68 = .ok (.istore_n 1, 1) := by decide +kernel
theorem d_Np_needed_69 : decode prog_1_method_25_code 69 = .ok (.aload_n 0, 1) := by decide +kernel
theorem d_Np_needed_70 : decode prog_1_method_25_code 70 = .ok (.getfield 10, 3) := by decide +kernel
theorem d_Np_needed_73 : decode prog_1_method_25_code 73 = .ok (.getfield 102, 3) := by decide +kernel
theorem d_Np_needed_76 : decode prog_1_method_25_code 76 = .ok (.iload_n 2, 1) := by decide +kernel
theorem d_Np_needed_77 : decode prog_1_method_25_code 77 = .ok (.iload_n 3, 1) := by decide +kernel
theorem d_Np_needed_78 : decode prog_1_method_25_code 78 = .ok (.iastore, 1) := by decide +kernel
theorem d_Np_needed_79 : decode prog_1_method_25_code 79 = .ok (.iinc 2 1, 3) := by decide +kernel
theorem d_Np_needed_82 : decode prog_1_method_25_code 82 = .ok (.goto (-78), 3) := by decide +kernel
theorem d_Np_needed_85 : decode prog_1_method_25_code 85 = .ok (.iload_n 1, 1) := by decide +kernel
theorem d_Np_needed_86 : decode prog_1_method_25_code 86 = .ok (.ireturn, 1) := by decide +kernel
def b_Np_needed_79 (F : Nat) (k4 : Nat → Int32 → Int32 → PH → Option (Int32 × PH)) (a0 : Nat) (i1 : Int32) (i2 : Int32) (h : PH) : Option (Int32 × PH) :=
  k4 a0 i1 (i2 + (1 : Int32)) h
theorem g_Np_needed_79 {l : Launch} {E : ET} {d : Nat} (hd : 128 ≤ d) {F : Nat} {r : Int32} {h9 : PH} {x : Nat} {k4 : Nat → Int32 → Int32 → PH → Option (Int32 × PH)} (hk4 : ∀ (a0 : Nat) (i1 : Int32) (i2 : Int32) (hh : PH), k4 a0 i1 i2 hh = some (r, h9) → Go l E m_Np_needed (rm d 0 0) (KM E 0 0 (PoE (some (.int r)) h9 x)) 0 0 hh x 4 [(0, .ref a0), (1, .int i1), (2, .int i2)] []) (a0 : Nat) (i1 : Int32) (i2 : Int32) (h : PH) (hf : b_Np_needed_79 F k4 a0 i1 i2 h = some (r, h9)) : Go l E m_Np_needed (rm d 0 0) (KM E 0 0 (PoE (some (.int r)) h9 x)) 0 0 h x 79 [(0, .ref a0), (1, .int i1), (2, .int i2)] [] := by
  unfold b_Np_needed_79 at hf
  refine go_iinc (lv' := [(2, .int (i2 + (1 : Int32))), (0, .ref a0), (1, .int i1)]) 2 (i2 + (1 : Int32)) d_Np_needed_79 rfl rfl rfl (by decide) ?_
  refine go_goto 4 d_Np_needed_82 (by decide) ?_
  refine go_sub (lv' := [(0, .ref a0), (1, .int i1), (2, .int (i2 + (1 : Int32)))]) [1, 2, 0] rfl ?_
  exact hk4 a0 i1 (i2 + (1 : Int32)) h hf
def b_Np_needed_67 (F : Nat) (k4 : Nat → Int32 → Int32 → PH → Option (Int32 × PH)) (a0 : Nat) (i2 : Int32) (i3 : Int32) (s0 : Int32) (s1 : Int32) (h : PH) : Option (Int32 × PH) :=
  bnd (gR h a0 9 0) fun x1 => bnd (gR h x1 8 2) fun x2 => bnd (sI h x2 i2 i3) fun h3 => b_Np_needed_79 F k4 a0 (s1 + s0) i2 h3
theorem g_Np_needed_67 {l : Launch} {E : ET} {d : Nat} (hd : 128 ≤ d) {F : Nat} {r : Int32} {h9 : PH} {x : Nat} {k4 : Nat → Int32 → Int32 → PH → Option (Int32 × PH)} (hk4 : ∀ (a0 : Nat) (i1 : Int32) (i2 : Int32) (hh : PH), k4 a0 i1 i2 hh = some (r, h9) → Go l E m_Np_needed (rm d 0 0) (KM E 0 0 (PoE (some (.int r)) h9 x)) 0 0 hh x 4 [(0, .ref a0), (1, .int i1), (2, .int i2)] []) (a0 : Nat) (i2 : Int32) (i3 : Int32) (s0 : Int32) (s1 : Int32) (h : PH) (hf : b_Np_needed_67 F k4 a0 i2 i3 s0 s1 h = some (r, h9)) : Go l E m_Np_needed (rm d 0 0) (KM E 0 0 (PoE (some (.int r)) h9 x)) 0 0 h x 67 [(0, .ref a0), (2, .int i2), (3, .int i3)] [.int s0, .int s1] := by
  unfold b_Np_needed_67 at hf
  refine go_iadd d_Np_needed_67 ?_
  refine go_istore_n (lv' := [(1, .int (s1 + s0)), (0, .ref a0), (2, .int i2), (3, .int i3)]) d_Np_needed_68 rfl (by decide) ?_
  refine go_aload_n 1 d_Np_needed_69 rfl ?_
  obtain ⟨x1, e_x1, hf⟩ := bnd_x hf
  refine go_get d_Np_needed_70 (gR_x e_x1) fl_Np_10 ?_
  obtain ⟨x2, e_x2, hf⟩ := bnd_x hf
  refine go_get d_Np_needed_73 (gR_x e_x2) fl_Np_102 ?_
  refine go_iload_n 2 d_Np_needed_76 rfl ?_
  refine go_iload_n 3 d_Np_needed_77 rfl ?_
  obtain ⟨h3, e_h3, hf⟩ := bnd_x hf
  refine go_iastore d_Np_needed_78 e_h3 ?_
  refine go_sub (lv' := [(0, .ref a0), (1, .int (s1 + s0)), (2, .int i2)]) [1, 0, 2] rfl ?_
  exact g_Np_needed_79 hd hk4 a0 (s1 + s0) i2 h3 hf
def b_Np_needed_4 (F : Nat) (k4 : Nat → Int32 → Int32 → PH → Option (Int32 × PH)) (a0 : Nat) (i1 : Int32) (i2 : Int32) (h : PH) : Option (Int32 × PH) :=
  (if (36 : Int32) ≤ i2 then some (i1, h) else bnd (gR h a0 9 0) fun x1 => bnd (gR h x1 8 2) fun x2 => bnd (aI h x2 i2) fun x3 => (if x3 = (0 : Int32) then b_Np_needed_79 F k4 a0 i1 i2 h else bnd (gR h a0 9 0) fun x4 => bnd (gR h x4 8 2) fun x5 => bnd (sI h x5 i2 (0 : Int32)) fun h6 => bnd (cK h6 a0 9) fun _ => bnd (f_Np_beginTrial F a0 h6) fun h8 => bnd (gR h8 a0 9 9) fun x9 => bnd (gR h8 a0 9 6) fun x10 => bnd (gR h8 a0 9 0) fun x11 => bnd (gR h8 x11 8 1) fun x12 => bnd (cK h8 x9 7) fun _ => bnd2 (f_Sol_countSolutions F x9 x10 x12 (2 : Int32) h8) fun x14 h15 => (if x14 ≤ (1 : Int32) then b_Np_needed_67 F k4 a0 i2 x3 (0 : Int32) i1 h15 else b_Np_needed_67 F k4 a0 i2 x3 (1 : Int32) i1 h15)))
def f_Np_needed_4 (F : Nat) : Nat → Nat → Int32 → Int32 → PH → Option (Int32 × PH)
  | 0 => fun _ _ _ _ => none
  | n + 1 => b_Np_needed_4 F (f_Np_needed_4 F n)
theorem g_Np_needed_4 {l : Launch} {E : ET} {d : Nat} (hd : 128 ≤ d) {F : Nat} {r : Int32} {h9 : PH} {x : Nat} {k4 : Nat → Int32 → Int32 → PH → Option (Int32 × PH)} (hk4 : ∀ (a0 : Nat) (i1 : Int32) (i2 : Int32) (hh : PH), k4 a0 i1 i2 hh = some (r, h9) → Go l E m_Np_needed (rm d 0 0) (KM E 0 0 (PoE (some (.int r)) h9 x)) 0 0 hh x 4 [(0, .ref a0), (1, .int i1), (2, .int i2)] []) (a0 : Nat) (i1 : Int32) (i2 : Int32) (h : PH) (hf : b_Np_needed_4 F k4 a0 i1 i2 h = some (r, h9)) : Go l E m_Np_needed (rm d 0 0) (KM E 0 0 (PoE (some (.int r)) h9 x)) 0 0 h x 4 [(0, .ref a0), (1, .int i1), (2, .int i2)] [] := by
  unfold b_Np_needed_4 at hf
  refine go_iload_n 2 d_Np_needed_4 rfl ?_
  refine go_bipush (36 : Int32) d_Np_needed_5 (by decide) ?_
  refine go_icmp_ge 85 d_Np_needed_7 (by decide) (fun q18 => ?_) (fun q18 => ?_)
  · rw [if_pos q18] at hf
    refine go_iload_n 1 d_Np_needed_85 rfl ?_
    obtain ⟨e8, e9⟩ := Prod.mk.inj (Option.some.inj hf)
    subst e8; subst e9
    exact go_iret d_Np_needed_86 rfl ⟨rfl, rfl, rfl⟩
  · rw [if_neg q18] at hf
    refine go_aload_n 0 d_Np_needed_10 rfl ?_
    obtain ⟨x1, e_x1, hf⟩ := bnd_x hf
    refine go_get d_Np_needed_11 (gR_x e_x1) fl_Np_10 ?_
    obtain ⟨x2, e_x2, hf⟩ := bnd_x hf
    refine go_get d_Np_needed_14 (gR_x e_x2) fl_Np_102 ?_
    refine go_iload_n 2 d_Np_needed_17 rfl ?_
    obtain ⟨x3, e_x3, hf⟩ := bnd_x hf
    refine go_iaload d_Np_needed_18 e_x3 ?_
    refine go_istore_n (lv' := [(3, .int x3), (0, .ref a0), (1, .int i1), (2, .int i2)]) d_Np_needed_19 rfl (by decide) ?_
    refine go_iload_n 0 d_Np_needed_20 rfl ?_
    refine go_if_eq 79 d_Np_needed_21 (by decide) (fun q17 => ?_) (fun q17 => ?_)
    · rw [if_pos q17] at hf
      refine go_sub (lv' := [(0, .ref a0), (1, .int i1), (2, .int i2)]) [1, 2, 3] rfl ?_
      exact g_Np_needed_79 hd hk4 a0 i1 i2 h hf
    · rw [if_neg q17] at hf
      refine go_aload_n 1 d_Np_needed_24 rfl ?_
      obtain ⟨x4, e_x4, hf⟩ := bnd_x hf
      refine go_get d_Np_needed_25 (gR_x e_x4) fl_Np_10 ?_
      obtain ⟨x5, e_x5, hf⟩ := bnd_x hf
      refine go_get d_Np_needed_28 (gR_x e_x5) fl_Np_102 ?_
      refine go_iload_n 3 d_Np_needed_31 rfl ?_
      refine go_iconst (0 : Int32) d_Np_needed_32 (by decide) ?_
      obtain ⟨h6, e_h6, hf⟩ := bnd_x hf
      refine go_iastore d_Np_needed_33 e_h6 ?_
      refine go_aload_n 1 d_Np_needed_34 rfl ?_
      obtain ⟨_, e7, hf⟩ := bnd_x hf
      obtain ⟨h8, e_x8, hf⟩ := bnd_x hf
      refine go_callV_N (As := []) (st := []) (c_Np_beginTrial (d := d - 1) (by omega) e_x8) lk_Np_192 rfl rfl e7 (by decide) rfl (rm_ok (by omega)) (Nat.le_of_ble_eq_true rfl) rm_c d_Np_needed_35 ?_
      refine go_iload_n 2 d_Np_needed_38 rfl ?_
      refine go_aload_n 1 d_Np_needed_39 rfl ?_
      obtain ⟨x9, e_x9, hf⟩ := bnd_x hf
      refine go_get d_Np_needed_40 (gR_x e_x9) fl_Np_51 ?_
      refine go_aload_n 1 d_Np_needed_43 rfl ?_
      obtain ⟨x10, e_x10, hf⟩ := bnd_x hf
      refine go_get d_Np_needed_44 (gR_x e_x10) fl_Np_33 ?_
      refine go_aload_n 1 d_Np_needed_47 rfl ?_
      obtain ⟨x11, e_x11, hf⟩ := bnd_x hf
      refine go_get d_Np_needed_48 (gR_x e_x11) fl_Np_10 ?_
      obtain ⟨x12, e_x12, hf⟩ := bnd_x hf
      refine go_get d_Np_needed_51 (gR_x e_x12) fl_Np_129 ?_
      refine go_iconst (2 : Int32) d_Np_needed_54 (by decide) ?_
      obtain ⟨_, e13, hf⟩ := bnd_x hf
      obtain ⟨x14, h15, e_x14, hf⟩ := bnd2_x hf
      refine go_callV_I (As := [.ref x10, .ref x12, .int (2 : Int32)]) (st := [.int i1]) (c_Sol_countSolutions (d := d - 1) (by omega) e_x14) lk_Np_195 rfl rfl e13 (by decide) rfl (rm_ok (by omega)) (Nat.le_of_ble_eq_true rfl) rm_c d_Np_needed_55 ?_
      refine go_iconst (1 : Int32) d_Np_needed_58 (by decide) ?_
      refine go_icmp_le 66 d_Np_needed_59 (by decide) (fun q16 => ?_) (fun q16 => ?_)
      · rw [if_pos q16] at hf
        refine go_iconst (0 : Int32) d_Np_needed_66 (by decide) ?_
        refine go_sub (lv' := [(0, .ref a0), (2, .int i2), (3, .int x3)]) [1, 3, 0] rfl ?_
        exact g_Np_needed_67 hd hk4 a0 i2 x3 (0 : Int32) i1 h15 hf
      · rw [if_neg q16] at hf
        refine go_iconst (1 : Int32) d_Np_needed_62 (by decide) ?_
        refine go_goto 67 d_Np_needed_63 (by decide) ?_
        refine go_sub (lv' := [(0, .ref a0), (2, .int i2), (3, .int x3)]) [1, 3, 0] rfl ?_
        exact g_Np_needed_67 hd hk4 a0 i2 x3 (1 : Int32) i1 h15 hf
theorem t_Np_needed_4 {l : Launch} {E : ET} {d : Nat} (hd : 128 ≤ d) {F : Nat} {r : Int32} {h9 : PH} {x : Nat}  : ∀ (n : Nat) (a0 : Nat) (i1 : Int32) (i2 : Int32) (hh : PH), f_Np_needed_4 F n a0 i1 i2 hh = some (r, h9) → Go l E m_Np_needed (rm d 0 0) (KM E 0 0 (PoE (some (.int r)) h9 x)) 0 0 hh x 4 [(0, .ref a0), (1, .int i1), (2, .int i2)] [] := by
  intro n
  induction n with
  | zero => intro v0 v1 v2 v3 hf; cases hf
  | succ n ih => intro v0 v1 v2 v3 hf; exact g_Np_needed_4 hd ih v0 v1 v2 v3 hf
def f_Np_needed (F : Nat) (a0 : Nat) (h : PH) : Option (Int32 × PH) :=
  f_Np_needed_4 F F a0 (0 : Int32) (0 : Int32) h
theorem g_Np_needed_0 {l : Launch} {E : ET} {d : Nat} (hd : 128 ≤ d) {F : Nat} {r : Int32} {h9 : PH} {x : Nat}  (a0 : Nat) (h : PH) (hf : f_Np_needed F a0 h = some (r, h9)) : Go l E m_Np_needed (rm d 0 0) (KM E 0 0 (PoE (some (.int r)) h9 x)) 0 0 h x 0 [(0, .ref a0)] [] := by
  unfold f_Np_needed at hf
  refine go_iconst (0 : Int32) d_Np_needed_0 (by decide) ?_
  refine go_istore_n (lv' := [(1, .int (0 : Int32)), (0, .ref a0)]) d_Np_needed_1 rfl (by decide) ?_
  refine go_iconst (0 : Int32) d_Np_needed_2 (by decide) ?_
  refine go_istore_n (lv' := [(2, .int (0 : Int32)), (1, .int (0 : Int32)), (0, .ref a0)]) d_Np_needed_3 rfl (by decide) ?_
  refine go_sub (lv' := [(0, .ref a0), (1, .int (0 : Int32)), (2, .int (0 : Int32))]) [2, 1, 0] rfl ?_
  exact t_Np_needed_4 hd  _ a0 (0 : Int32) (0 : Int32) h hf
theorem c_Np_needed {l : Launch} {E : ET} {d : Nat} (hd : 128 ≤ d) {F : Nat} {r : Int32} {h9 : PH} {x : Nat} {a0 : Nat} {h : PH} (hf : f_Np_needed F a0 h = some (r, h9)) : Fn l E m_Np_needed d 0 0 [.ref a0] h x (PoE (some (.int r)) h9 x) :=
  Fn.of (by decide +kernel) (Nat.le_of_ble_eq_true rfl) (g_Np_needed_0 hd a0 h hf)
theorem d_Np_clearText_0 : decode prog_1_method_27_code 0 = .ok (.aload_n 0, 1) := by decide +kernel
theorem d_Np_clearText_1 : decode prog_1_method_27_code 1 = .ok (.getfield 26, 3) := by decide +kernel
theorem d_Np_clearText_4 : decode prog_1_method_27_code 4 = .ok (.getfield 280, 3) := by decide +kernel
theorem d_Np_clearText_7 : decode prog_1_method_27_code 7 = .ok (.istore_n 1, 1) := by decide +kernel
theorem d_Np_clearText_8 : decode prog_1_method_27_code 8 = .ok (.aload_n 0, 1) := by decide +kernel
theorem d_Np_clearText_9 : decode prog_1_method_27_code 9 = .ok (.getfield 26, 3) := by decide +kernel
theorem d_Np_clearText_12 : decode prog_1_method_27_code 12 = .ok (.iconst 0, 1) := by decide +kernel
theorem d_Np_clearText_13 : decode prog_1_method_27_code 13 = .ok (.putfield 280, 3) := by decide +kernel
theorem d_Np_clearText_16 : decode prog_1_method_27_code 16 = .ok (.iload_n 1, 1) := by decide +kernel
theorem d_Np_clearText_17 : decode prog_1_method_27_code 17 = .ok (.ireturn, 1) := by decide +kernel
def f_Np_clearText (a0 : Nat) (h : PH) : Option (Int32 × PH) :=
  bnd (gR h a0 9 5) fun x1 => bnd (gI h x1 2 1) fun x2 => bnd (gR h a0 9 5) fun x3 => bnd (pV h x3 2 1 (.int (0 : Int32))) fun h4 => some (x2, h4)
theorem g_Np_clearText_0 {l : Launch} {E : ET} {d : Nat} (hd : 1 ≤ d) {r : Int32} {h9 : PH} {x : Nat}  (a0 : Nat) (h : PH) (hf : f_Np_clearText a0 h = some (r, h9)) : Go l E m_Np_clearText (rm d 0 0) (KM E 0 0 (PoE (some (.int r)) h9 x)) 0 0 h x 0 [(0, .ref a0)] [] := by
  unfold f_Np_clearText at hf
  refine go_aload_n 0 d_Np_clearText_0 rfl ?_
  obtain ⟨x1, e_x1, hf⟩ := bnd_x hf
  refine go_get d_Np_clearText_1 (gR_x e_x1) fl_Np_26 ?_
  obtain ⟨x2, e_x2, hf⟩ := bnd_x hf
  refine go_get d_Np_clearText_4 (gI_x e_x2) fl_Np_280 ?_
  refine go_istore_n (lv' := [(1, .int x2), (0, .ref a0)]) d_Np_clearText_7 rfl (by decide) ?_
  refine go_aload_n 1 d_Np_clearText_8 rfl ?_
  obtain ⟨x3, e_x3, hf⟩ := bnd_x hf
  refine go_get d_Np_clearText_9 (gR_x e_x3) fl_Np_26 ?_
  refine go_iconst (0 : Int32) d_Np_clearText_12 (by decide) ?_
  obtain ⟨h4, e_h4, hf⟩ := bnd_x hf
  refine go_putI d_Np_clearText_13 e_h4 fl_Np_280 rfl rfl ?_
  refine go_iload_n 0 d_Np_clearText_16 rfl ?_
  obtain ⟨e8, e9⟩ := Prod.mk.inj (Option.some.inj hf)
  subst e8; subst e9
  exact go_iret d_Np_clearText_17 rfl ⟨rfl, rfl, rfl⟩
theorem c_Np_clearText {l : Launch} {E : ET} {d : Nat} (hd : 1 ≤ d) {r : Int32} {h9 : PH} {x : Nat} {a0 : Nat} {h : PH} (hf : f_Np_clearText a0 h = some (r, h9)) : Fn l E m_Np_clearText d 0 0 [.ref a0] h x (PoE (some (.int r)) h9 x) :=
  Fn.of (by decide +kernel) (Nat.le_of_ble_eq_true rfl) (g_Np_clearText_0 hd a0 h hf)
theorem d_Np_parse_0 : decode prog_1_method_28_code 0 = .ok (.aload_n 0, 1) := by decide +kernel
theorem d_Np_parse_1 : decode prog_1_method_28_code 1 = .ok (.getfield 26, 3) := by decide +kernel
theorem d_Np_parse_4 : decode prog_1_method_28_code 4 = .ok (.aload_n 0, 1) := by decide +kernel
theorem d_Np_parse_5 : decode prog_1_method_28_code 5 = .ok (.getfield 16, 3) := by decide +kernel
theorem d_Np_parse_8 : decode prog_1_method_28_code 8 = .ok (.invokevirtual 287, 3) := by decide +kernel
theorem d_Np_parse_11 : decode prog_1_method_28_code 11 = .ok (.istore_n 1, 1) := by decide +kernel
theorem d_Np_parse_12 : decode prog_1_method_28_code 12 = .ok (.iload_n 1, 1) := by decide +kernel
theorem d_Np_parse_13 : decode prog_1_method_28_code 13 = .ok (.iconst (-1), 1) := by decide +kernel
theorem d_Np_parse_14 : decode prog_1_method_28_code 14 = .ok (.if_icmp .eq 8, 3) := by decide +kernel
theorem d_Np_parse_17 : decode prog_1_method_28_code 17 = .ok (.bipush (-10), 2) := by decide +kernel
theorem d_Np_parse_19 : decode prog_1_method_28_code 19 = .ok (.iload_n 1, 1) := by decide +kernel
theorem d_Np_parse_20 : decode prog_1_method_28_code 20 = .ok (.isub, 1) := by decide +kernel
theorem d_Np_parse_21 : decode prog_1_method_28_code 21 = .ok (.ireturn, 1) := by decide +kernel
theorem d_Np_parse_22 : decode prog_1_method_28_code 22 = .ok (.aload_n 0, 1) := by decide +kernel
theorem d_Np_parse_23 : decode prog_1_method_28_code 23 = .ok (.invokevirtual 81, 3) := by decide +kernel
theorem d_Np_parse_26 : decode prog_1_method_28_code 26 = .ok (.aload_n 0, 1) := by decide +kernel
theorem d_Np_parse_27 : decode prog_1_method_28_code 27 = .ok (.getfield 16, 3) := by decide +kernel
theorem d_Np_parse_30 : decode prog_1_method_28_code 30 = .ok (.getfield 68, 3) := by decide +kernel
theorem d_Np_parse_33 : decode prog_1_method_28_code 33 = .ok (.aload_n 0, 1) := by decide +kernel
theorem d_Np_parse_34 : decode prog_1_method_28_code 34 = .ok (.getfield 16, 3) := by decide +kernel
theorem d_Np_parse_37 : decode prog_1_method_28_code 37 = .ok (.getfield 102, 3) := by decide +kernel
theorem d_Np_parse_40 : decode prog_1_method_28_code 40 = .ok (.invokevirtual 172, 3) := by decide +kernel
theorem d_Np_parse_43 : decode prog_1_method_28_code 43 = .ok (.aload_n 0, 1) := by decide +kernel
theorem d_Np_parse_44 : decode prog_1_method_28_code 44 = .ok (.getfield 10, 3) := by decide +kernel
theorem d_Np_parse_47 : decode prog_1_method_28_code 47 = .ok (.aload_n 0, 1) := by decide +kernel
theorem d_Np_parse_48 : decode prog_1_method_28_code 48 = .ok (.getfield 16, 3) := by decide +kernel
theorem d_Np_parse_51 : decode prog_1_method_28_code 51 = .ok (.invokevirtual 291, 3) := by decide +kernel
theorem d_Np_parse_54 : decode prog_1_method_28_code 54 = .ok (.aload_n 0, 1) := by decide +kernel
theorem d_Np_parse_55 : decode prog_1_method_28_code 55 = .ok (.getfield 10, 3) := by decide +kernel
theorem d_Np_parse_58 : decode prog_1_method_28_code 58 = .ok (.invokevirtual 176, 3) := by decide +kernel
theorem d_Np_parse_61 : decode prog_1_method_28_code 61 = .ok (.ireturn, 1) := by decide +kernel
def f_Np_parse (F : Nat) (a0 : Nat) (h : PH) : Option (Int32 × PH) :=
  bnd (gR h a0 9 5) fun x1 => bnd (gR h a0 9 1) fun x2 => bnd (cK h x1 2) fun _ => bnd2 (f_Txt_readInto F x1 x2 h) fun x4 h5 => (if x4 = (-1 : Int32) then bnd (cK h5 a0 9) fun _ => bnd (f_Np_save a0 h5) fun h7 => bnd (gR h7 a0 9 1) fun x8 => bnd (gR h7 x8 8 0) fun x9 => bnd (gR h7 a0 9 1) fun x10 => bnd (gR h7 x10 8 2) fun x11 => bnd (cK h7 x9 1) fun _ => bnd (f_Pos_beginWith F x9 x11 h7) fun h13 => bnd (gR h13 a0 9 0) fun x14 => bnd (gR h13 a0 9 1) fun x15 => bnd (cK h13 x14 8) fun _ => bnd (f_Sta_copyFrom x14 x15 h13) fun h17 => bnd (gR h17 a0 9 0) fun x18 => bnd (cK h17 x18 8) fun _ => bnd (f_Sta_givenCount F x18 h17) fun x20 => some (x20, h17) else some (((-10 : Int32) - x4), h5))
theorem g_Np_parse_0 {l : Launch} {E : ET} {d : Nat} (hd : 6 ≤ d) {F : Nat} {r : Int32} {h9 : PH} {x : Nat}  (a0 : Nat) (h : PH) (hf : f_Np_parse F a0 h = some (r, h9)) : Go l E m_Np_parse (rm d 0 0) (KM E 0 0 (PoE (some (.int r)) h9 x)) 0 0 h x 0 [(0, .ref a0)] [] := by
  unfold f_Np_parse at hf
  refine go_aload_n 0 d_Np_parse_0 rfl ?_
  obtain ⟨x1, e_x1, hf⟩ := bnd_x hf
  refine go_get d_Np_parse_1 (gR_x e_x1) fl_Np_26 ?_
  refine go_aload_n 0 d_Np_parse_4 rfl ?_
  obtain ⟨x2, e_x2, hf⟩ := bnd_x hf
  refine go_get d_Np_parse_5 (gR_x e_x2) fl_Np_16 ?_
  obtain ⟨_, e3, hf⟩ := bnd_x hf
  obtain ⟨x4, h5, e_x4, hf⟩ := bnd2_x hf
  refine go_callV_I (As := [.ref x2]) (st := []) (c_Txt_readInto (d := d - 1) (by omega) e_x4) lk_Np_287 rfl rfl e3 (by decide) rfl (rm_ok (by omega)) (Nat.le_of_ble_eq_true rfl) rm_c d_Np_parse_8 ?_
  refine go_istore_n (lv' := [(1, .int x4), (0, .ref a0)]) d_Np_parse_11 rfl (by decide) ?_
  refine go_iload_n 0 d_Np_parse_12 rfl ?_
  refine go_iconst (-1 : Int32) d_Np_parse_13 (by decide) ?_
  refine go_icmp_eq 22 d_Np_parse_14 (by decide) (fun q21 => ?_) (fun q21 => ?_)
  · rw [if_pos q21] at hf
    refine go_aload_n 1 d_Np_parse_22 rfl ?_
    obtain ⟨_, e6, hf⟩ := bnd_x hf
    obtain ⟨h7, e_x7, hf⟩ := bnd_x hf
    refine go_callV_N (As := []) (st := []) (c_Np_save (d := d - 1) (by omega) e_x7) lk_Np_81 rfl rfl e6 (by decide) rfl (rm_ok (by omega)) (Nat.le_of_ble_eq_true rfl) rm_c d_Np_parse_23 ?_
    refine go_aload_n 1 d_Np_parse_26 rfl ?_
    obtain ⟨x8, e_x8, hf⟩ := bnd_x hf
    refine go_get d_Np_parse_27 (gR_x e_x8) fl_Np_16 ?_
    obtain ⟨x9, e_x9, hf⟩ := bnd_x hf
    refine go_get d_Np_parse_30 (gR_x e_x9) fl_Np_68 ?_
    refine go_aload_n 1 d_Np_parse_33 rfl ?_
    obtain ⟨x10, e_x10, hf⟩ := bnd_x hf
    refine go_get d_Np_parse_34 (gR_x e_x10) fl_Np_16 ?_
    obtain ⟨x11, e_x11, hf⟩ := bnd_x hf
    refine go_get d_Np_parse_37 (gR_x e_x11) fl_Np_102 ?_
    obtain ⟨_, e12, hf⟩ := bnd_x hf
    obtain ⟨h13, e_x13, hf⟩ := bnd_x hf
    refine go_callV_N (As := [.ref x11]) (st := []) (c_Pos_beginWith (d := d - 1) (by omega) e_x13) lk_Np_172 rfl rfl e12 (by decide) rfl (rm_ok (by omega)) (Nat.le_of_ble_eq_true rfl) rm_c d_Np_parse_40 ?_
    refine go_aload_n 1 d_Np_parse_43 rfl ?_
    obtain ⟨x14, e_x14, hf⟩ := bnd_x hf
    refine go_get d_Np_parse_44 (gR_x e_x14) fl_Np_10 ?_
    refine go_aload_n 1 d_Np_parse_47 rfl ?_
    obtain ⟨x15, e_x15, hf⟩ := bnd_x hf
    refine go_get d_Np_parse_48 (gR_x e_x15) fl_Np_16 ?_
    obtain ⟨_, e16, hf⟩ := bnd_x hf
    obtain ⟨h17, e_x17, hf⟩ := bnd_x hf
    refine go_callV_N (As := [.ref x15]) (st := []) (c_Sta_copyFrom (d := d - 1) (by omega) e_x17) lk_Np_291 rfl rfl e16 (by decide) rfl (rm_ok (by omega)) (Nat.le_of_ble_eq_true rfl) rm_c d_Np_parse_51 ?_
    refine go_aload_n 1 d_Np_parse_54 rfl ?_
    obtain ⟨x18, e_x18, hf⟩ := bnd_x hf
    refine go_get d_Np_parse_55 (gR_x e_x18) fl_Np_10 ?_
    obtain ⟨_, e19, hf⟩ := bnd_x hf
    obtain ⟨x20, e_x20, hf⟩ := bnd_x hf
    refine go_callV_I (As := []) (st := []) (c_Sta_givenCount (d := d - 1) (by omega) e_x20) lk_Np_176 rfl rfl e19 (by decide) rfl (rm_ok (by omega)) (Nat.le_of_ble_eq_true rfl) rm_c d_Np_parse_58 ?_
    obtain ⟨e8, e9⟩ := Prod.mk.inj (Option.some.inj hf)
    subst e8; subst e9
    exact go_iret d_Np_parse_61 rfl ⟨rfl, rfl, rfl⟩
  · rw [if_neg q21] at hf
    refine go_bipush (-10 : Int32) d_Np_parse_17 (by decide) ?_
    refine go_iload_n 0 d_Np_parse_19 rfl ?_
    refine go_isub d_Np_parse_20 ?_
    obtain ⟨e8, e9⟩ := Prod.mk.inj (Option.some.inj hf)
    subst e8; subst e9
    exact go_iret d_Np_parse_21 rfl ⟨rfl, rfl, rfl⟩
theorem c_Np_parse {l : Launch} {E : ET} {d : Nat} (hd : 6 ≤ d) {F : Nat} {r : Int32} {h9 : PH} {x : Nat} {a0 : Nat} {h : PH} (hf : f_Np_parse F a0 h = some (r, h9)) : Fn l E m_Np_parse d 0 0 [.ref a0] h x (PoE (some (.int r)) h9 x) :=
  Fn.of (by decide +kernel) (Nat.le_of_ble_eq_true rfl) (g_Np_parse_0 hd a0 h hf)
theorem d_Np_leastSum_0 : decode prog_1_method_35_code 0 = .ok (.iload_n 0, 1) := by decide +kernel
theorem d_Np_leastSum_1 : decode prog_1_method_35_code 1 = .ok (.ifCond .ne 7, 3) := by decide +kernel
theorem d_Np_leastSum_4 : decode prog_1_method_35_code 4 = .ok (.iconst 1, 1) := by decide +kernel
theorem d_Np_leastSum_5 : decode prog_1_method_35_code 5 = .ok (.goto 4, 3) := by decide +kernel
theorem d_Np_leastSum_8 : decode prog_1_method_35_code 8 = .ok (.iconst 0, 1) := by decide +kernel
theorem d_Np_leastSum_9 : decode prog_1_method_35_code 9 = .ok (.ireturn, 1) := by decide +kernel
def f_Np_leastSum (i0 : Int32) : Option Int32 :=
  (if i0 = (0 : Int32) then some (1 : Int32) else some (0 : Int32))
theorem g_Np_leastSum_0 {l : Launch} {E : ET} {d : Nat} (hd : 1 ≤ d) {r : Int32} {h : PH} {x : Nat}  (i0 : Int32) (hf : f_Np_leastSum i0 = some r) : Go l E m_Np_leastSum (rm d 0 0) (KM E 0 0 (PoE (some (.int r)) h x)) 0 0 h x 0 [(0, .int i0)] [] := by
  unfold f_Np_leastSum at hf
  refine go_iload_n 0 d_Np_leastSum_0 rfl ?_
  refine go_if_ne 8 d_Np_leastSum_1 (by decide) (fun q1 => ?_) (fun q1 => ?_)
  · rw [if_neg q1] at hf
    refine go_iconst (0 : Int32) d_Np_leastSum_8 (by decide) ?_
    have e9 := Option.some.inj hf
    subst e9
    exact go_iret d_Np_leastSum_9 rfl ⟨rfl, rfl, rfl⟩
  · rw [if_pos q1] at hf
    refine go_iconst (1 : Int32) d_Np_leastSum_4 (by decide) ?_
    refine go_goto 9 d_Np_leastSum_5 (by decide) ?_
    have e9 := Option.some.inj hf
    subst e9
    exact go_iret d_Np_leastSum_9 rfl ⟨rfl, rfl, rfl⟩
theorem c_Np_leastSum {l : Launch} {E : ET} {d : Nat} (hd : 1 ≤ d) {r : Int32} {h : PH} {x : Nat} {i0 : Int32} (hf : f_Np_leastSum i0 = some r) : Fn l E m_Np_leastSum d 0 0 [.int i0] h x (PoE (some (.int r)) h x) :=
  Fn.of (by decide +kernel) (Nat.le_of_ble_eq_true rfl) (g_Np_leastSum_0 hd i0 hf)
theorem d_Np_greatestSum_0 : decode prog_1_method_36_code 0 = .ok (.iload_n 0, 1) := by decide +kernel
theorem d_Np_greatestSum_1 : decode prog_1_method_36_code 1 = .ok (.ifCond .ne 8, 3) := by decide +kernel
theorem d_Np_greatestSum_4 : decode prog_1_method_36_code 4 = .ok (.bipush 24, 2) := by decide +kernel
theorem d_Np_greatestSum_6 : decode prog_1_method_36_code 6 = .ok (.goto 4, 3) := by decide +kernel
theorem d_Np_greatestSum_9 : decode prog_1_method_36_code 9 = .ok (.iconst 0, 1) := by decide +kernel
theorem d_Np_greatestSum_10 : decode prog_1_method_36_code 10 = .ok (.ireturn, 1) := by decide +kernel
def f_Np_greatestSum (i0 : Int32) : Option Int32 :=
  (if i0 = (0 : Int32) then some (24 : Int32) else some (0 : Int32))
theorem g_Np_greatestSum_0 {l : Launch} {E : ET} {d : Nat} (hd : 1 ≤ d) {r : Int32} {h : PH} {x : Nat}  (i0 : Int32) (hf : f_Np_greatestSum i0 = some r) : Go l E m_Np_greatestSum (rm d 0 0) (KM E 0 0 (PoE (some (.int r)) h x)) 0 0 h x 0 [(0, .int i0)] [] := by
  unfold f_Np_greatestSum at hf
  refine go_iload_n 0 d_Np_greatestSum_0 rfl ?_
  refine go_if_ne 9 d_Np_greatestSum_1 (by decide) (fun q1 => ?_) (fun q1 => ?_)
  · rw [if_neg q1] at hf
    refine go_iconst (0 : Int32) d_Np_greatestSum_9 (by decide) ?_
    have e9 := Option.some.inj hf
    subst e9
    exact go_iret d_Np_greatestSum_10 rfl ⟨rfl, rfl, rfl⟩
  · rw [if_pos q1] at hf
    refine go_bipush (24 : Int32) d_Np_greatestSum_4 (by decide) ?_
    refine go_goto 10 d_Np_greatestSum_6 (by decide) ?_
    have e9 := Option.some.inj hf
    subst e9
    exact go_iret d_Np_greatestSum_10 rfl ⟨rfl, rfl, rfl⟩
theorem c_Np_greatestSum {l : Launch} {E : ET} {d : Nat} (hd : 1 ≤ d) {r : Int32} {h : PH} {x : Nat} {i0 : Int32} (hf : f_Np_greatestSum i0 = some r) : Fn l E m_Np_greatestSum d 0 0 [.int i0] h x (PoE (some (.int r)) h x) :=
  Fn.of (by decide +kernel) (Nat.le_of_ble_eq_true rfl) (g_Np_greatestSum_0 hd i0 hf)
theorem d_Np_fillGrid_0 : decode prog_1_method_39_code 0 = .ok (.iconst 0, 1) := by decide +kernel
theorem d_Np_fillGrid_1 : decode prog_1_method_39_code 1 = .ok (.istore_n 1, 1) := by decide +kernel
theorem d_Np_fillGrid_2 : decode prog_1_method_39_code 2 = .ok (.iload_n 1, 1) := by decide +kernel
theorem d_Np_fillGrid_3 : decode prog_1_method_39_code 3 = .ok (.bipush 6, 2) := by decide +kernel
theorem d_Np_fillGrid_5 : decode prog_1_method_39_code 5 = .ok (.if_icmp .ge 18, 3) := by decide +kernel
theorem d_Np_fillGrid_8 : decode prog_1_method_39_code 8 = .ok (.aload_n 0, 1) := by decide +kernel
theorem d_Np_fillGrid_9 : decode prog_1_method_39_code 9 = .ok (.getfield 61, 3) := by decide +kernel
theorem d_Np_fillGrid_12 : decode prog_1_method_39_code 12 = .ok (.iload_n 1, 1) := by decide +kernel
theorem d_Np_fillGrid_13 : decode prog_1_method_39_code 13 = .ok (.iload_n 1, 1) := by decide +kernel
theorem d_Np_fillGrid_14 : decode prog_1_method_39_code 14 = .ok (.iconst 1, 1) := by decide +kernel
theorem d_Np_fillGrid_15 : decode prog_1_method_39_code 15 = .ok (.iadd, 1) := by decide +kernel
theorem d_Np_fillGrid_16 : decode prog_1_method_39_code 16 = .ok (.iastore, 1) := by decide +kernel
theorem d_Np_fillGrid_17 : decode prog_1_method_39_code 17 = .ok (.iinc 1 1, 3) := by decide +kernel
theorem d_Np_fillGrid_20 : decode prog_1_method_39_code 20 = .ok (.goto (-18), 3) := by decide +kernel
theorem d_Np_fillGrid_23 : decode prog_1_method_39_code 23 = .ok (.aload_n 0, 1) := by decide +kernel
theorem d_Np_fillGrid_24 : decode prog_1_method_39_code 24 = .ok (.getfield 57, 3) := by decide +kernel
theorem d_Np_fillGrid_27 : decode prog_1_method_39_code 27 = .ok (.aload_n 0, 1) := by decide +kernel
theorem d_Np_fillGrid_28 : decode prog_1_method_39_code 28 = .ok (.getfield 61, 3) := by decide +kernel
theorem d_Np_fillGrid_31 : decode prog_1_method_39_code 31 = .ok (.invokevirtual 331, 3) := by decide +kernel
theorem d_Np_fillGrid_34 : decode prog_1_method_39_code 34 = .ok (.iconst 0, 1) := by decide +kernel
theorem d_Np_fillGrid_35 : decode prog_1_method_39_code 35 = .ok (.istore_n 1, 1) := by decide +kernel
theorem d_Np_fillGrid_36 : decode prog_1_method_39_code 36 = .ok (.iload_n 1, 1) := by decide +kernel
theorem d_Np_fillGrid_37 : decode prog_1_method_39_code 37 = .ok (.bipush 36, 2) := by decide +kernel
theorem d_Np_fillGrid_39 : decode prog_1_method_39_code 39 = .ok (.if_icmp .ge 47, 3) := by decide +kernel
theorem d_Np_fillGrid_42 : decode prog_1_method_39_code 42 = .ok (.iload_n 1, 1) := by decide +kernel
theorem d_Np_fillGrid_43 : decode prog_1_method_39_code 43 = .ok (.bipush 6, 2) := by decide +kernel
theorem d_Np_fillGrid_45 : decode prog_1_method_39_code 45 = .ok (.idiv, 1) := by decide +kernel
theorem d_Np_fillGrid_46 : decode prog_1_method_39_code 46 = .ok (.istore_n 2, 1) := by decide +kernel
theorem d_Np_fillGrid_47 : decode prog_1_method_39_code 47 = .ok (.iload_n 1, 1) := by decide +kernel
theorem d_Np_fillGrid_48 : decode prog_1_method_39_code 48 = .ok (.bipush 6, 2) := by decide +kernel
theorem d_Np_fillGrid_50 : decode prog_1_method_39_code 50 = .ok (.irem, 1) := by decide +kernel
theorem d_Np_fillGrid_51 : decode prog_1_method_39_code 51 = .ok (.istore_n 3, 1) := by decide +kernel
theorem d_Np_fillGrid_52 : decode prog_1_method_39_code 52 = .ok (.aload_n 0, 1) := by decide +kernel
theorem d_Np_fillGrid_53 : decode prog_1_method_39_code 53 = .ok (.getfield 10, 3) := by decide +kernel
theorem d_Np_fillGrid_56 : decode prog_1_method_39_code 56 = .ok (.getfield 102, 3) := by decide +kernel
theorem d_Np_fillGrid_59 : decode prog_1_method_39_code 59 = .ok (.iload_n 1, 1) := by decide +kernel
theorem d_Np_fillGrid_60 : decode prog_1_method_39_code 60 = .ok (.aload_n 0, 1) := by decide +kernel
theorem d_Np_fillGrid_61 : decode prog_1_method_39_code 61 = .ok (.getfield 61, 3) := by decide +kernel
theorem d_Np_fillGrid_64 : decode prog_1_method_39_code 64 = .ok (.iconst 3, 1) := by decide +kernel
theorem d_Np_fillGrid_65 : decode prog_1_method_39_code 65 = .ok (.iload_n 2, 1) := by decide +kernel
theorem d_Np_fillGrid_66 : decode prog_1_method_39_code 66 = .ok (.iconst 2, 1) := by decide +kernel
theorem d_Np_fillGrid_67 : decode prog_1_method_39_code 67 = .ok (.irem, 1) := by decide +kernel
theorem d_Np_fillGrid_68 : decode prog_1_method_39_code 68 = .ok (.imul, 1) := by decide +kernel
theorem d_Np_fillGrid_69 : decode prog_1_method_39_code 69 = .ok (.iload_n 2, 1) := by decide +kernel
theorem d_Np_fillGrid_70 : decode prog_1_method_39_code 70 = .ok (.iconst 2, 1) := by decide +kernel
theorem d_Np_fillGrid_71 : decode prog_1_method_39_code 71 = .ok (.idiv, 1) := by decide +kernel
theorem d_Np_fillGrid_72 : decode prog_1_method_39_code 72 = .ok (.iadd, 1) := by decide +kernel
theorem d_Np_fillGrid_73 : decode prog_1_method_39_code 73 = .ok (.iload_n 3, 1) := by decide +kernel
theorem d_Np_fillGrid_74 : decode prog_1_method_39_code 74 = .ok (.iadd, 1) := by decide +kernel
theorem d_Np_fillGrid_75 : decode prog_1_method_39_code 75 = .ok (.bipush 6, 2) := by decide +kernel
theorem d_Np_fillGrid_77 : decode prog_1_method_39_code 77 = .ok (.irem, 1) := by decide +kernel
theorem d_Np_fillGrid_78 : decode prog_1_method_39_code 78 = .ok (.iaload, 1) := by decide +kernel
theorem d_Np_fillGrid_79 : decode prog_1_method_39_code 79 = .ok (.iastore, 1) := by decide +kernel
theorem d_Np_fillGrid_80 : decode prog_1_method_39_code 80 = .ok (.iinc 1 1, 3) := by decide +kernel
theorem d_Np_fillGrid_83 : decode prog_1_method_39_code 83 = .ok (.goto (-47), 3) := by decide +kernel
theorem d_Np_fillGrid_86 : decode prog_1_method_39_code 86 = .ok (.return_, 1) := by decide +kernel
def b_Np_fillGrid_36 (F : Nat) (k36 : Nat → Int32 → PH → Option PH) (a0 : Nat) (i1 : Int32) (h : PH) : Option PH :=
  (if (36 : Int32) ≤ i1 then some h else bnd (some (i1 / (6 : Int32))) fun y1 => bnd (some (i1 - i1 / (6 : Int32) * (6 : Int32))) fun y2 => bnd (gR h a0 9 0) fun x3 => bnd (gR h x3 8 2) fun x4 => bnd (gR h a0 9 11) fun x5 => bnd (aI h x5 (((((3 : Int32) * (y1 - y1 / (2 : Int32) * (2 : Int32))) + (y1 / (2 : Int32))) + y2) - ((((3 : Int32) * (y1 - y1 / (2 : Int32) * (2 : Int32))) + (y1 / (2 : Int32))) + y2) / (6 : Int32) * (6 : Int32))) fun x6 => bnd (sI h x4 i1 x6) fun h7 => k36 a0 (i1 + (1 : Int32)) h7)
def f_Np_fillGrid_36 (F : Nat) : Nat → Nat → Int32 → PH → Option PH
  | 0 => fun _ _ _ => none
  | n + 1 => b_Np_fillGrid_36 F (f_Np_fillGrid_36 F n)
theorem g_Np_fillGrid_36 {l : Launch} {E : ET} {d : Nat} (hd : 3 ≤ d) {F : Nat} {h9 : PH} {x : Nat} {k36 : Nat → Int32 → PH → Option PH} (hk36 : ∀ (a0 : Nat) (i1 : Int32) (hh : PH), k36 a0 i1 hh = some h9 → Go l E m_Np_fillGrid (rm d 0 0) (KM E 0 0 (PoE none h9 x)) 0 0 hh x 36 [(0, .ref a0), (1, .int i1)] []) (a0 : Nat) (i1 : Int32) (h : PH) (hf : b_Np_fillGrid_36 F k36 a0 i1 h = some h9) : Go l E m_Np_fillGrid (rm d 0 0) (KM E 0 0 (PoE none h9 x)) 0 0 h x 36 [(0, .ref a0), (1, .int i1)] [] := by
  unfold b_Np_fillGrid_36 at hf
  refine go_iload_n 1 d_Np_fillGrid_36 rfl ?_
  refine go_bipush (36 : Int32) d_Np_fillGrid_37 (by decide) ?_
  refine go_icmp_ge 86 d_Np_fillGrid_39 (by decide) (fun q8 => ?_) (fun q8 => ?_)
  · rw [if_pos q8] at hf
    have e9 := Option.some.inj hf
    subst e9
    exact go_vret d_Np_fillGrid_86 rfl ⟨rfl, rfl, rfl⟩
  · rw [if_neg q8] at hf
    refine go_iload_n 1 d_Np_fillGrid_42 rfl ?_
    refine go_bipush (6 : Int32) d_Np_fillGrid_43 (by decide) ?_
    refine go_idiv d_Np_fillGrid_45 (by decide) ?_
    obtain ⟨y1, e_y1, hf⟩ := bnd_x hf
    refine go_nmI e_y1 ?_
    refine go_istore_n (lv' := [(2, .int y1), (0, .ref a0), (1, .int i1)]) d_Np_fillGrid_46 rfl (by decide) ?_
    refine go_iload_n 2 d_Np_fillGrid_47 rfl ?_
    refine go_bipush (6 : Int32) d_Np_fillGrid_48 (by decide) ?_
    refine go_irem d_Np_fillGrid_50 (by decide) ?_
    obtain ⟨y2, e_y2, hf⟩ := bnd_x hf
    refine go_nmI e_y2 ?_
    refine go_istore_n (lv' := [(3, .int y2), (2, .int y1), (0, .ref a0), (1, .int i1)]) d_Np_fillGrid_51 rfl (by decide) ?_
    refine go_aload_n 2 d_Np_fillGrid_52 rfl ?_
    obtain ⟨x3, e_x3, hf⟩ := bnd_x hf
    refine go_get d_Np_fillGrid_53 (gR_x e_x3) fl_Np_10 ?_
    obtain ⟨x4, e_x4, hf⟩ := bnd_x hf
    refine go_get d_Np_fillGrid_56 (gR_x e_x4) fl_Np_102 ?_
    refine go_iload_n 3 d_Np_fillGrid_59 rfl ?_
    refine go_aload_n 2 d_Np_fillGrid_60 rfl ?_
    obtain ⟨x5, e_x5, hf⟩ := bnd_x hf
    refine go_get d_Np_fillGrid_61 (gR_x e_x5) fl_Np_61 ?_
    refine go_iconst (3 : Int32) d_Np_fillGrid_64 (by decide) ?_
    refine go_iload_n 1 d_Np_fillGrid_65 rfl ?_
    refine go_iconst (2 : Int32) d_Np_fillGrid_66 (by decide) ?_
    refine go_irem d_Np_fillGrid_67 (by decide) ?_
    refine go_imul d_Np_fillGrid_68 ?_
    refine go_iload_n 1 d_Np_fillGrid_69 rfl ?_
    refine go_iconst (2 : Int32) d_Np_fillGrid_70 (by decide) ?_
    refine go_idiv d_Np_fillGrid_71 (by decide) ?_
    refine go_iadd d_Np_fillGrid_72 ?_
    refine go_iload_n 0 d_Np_fillGrid_73 rfl ?_
    refine go_iadd d_Np_fillGrid_74 ?_
    refine go_bipush (6 : Int32) d_Np_fillGrid_75 (by decide) ?_
    refine go_irem d_Np_fillGrid_77 (by decide) ?_
    obtain ⟨x6, e_x6, hf⟩ := bnd_x hf
    refine go_iaload d_Np_fillGrid_78 e_x6 ?_
    obtain ⟨h7, e_h7, hf⟩ := bnd_x hf
    refine go_iastore d_Np_fillGrid_79 e_h7 ?_
    refine go_iinc (lv' := [(1, .int (i1 + (1 : Int32))), (3, .int y2), (2, .int y1), (0, .ref a0)]) 3 (i1 + (1 : Int32)) d_Np_fillGrid_80 rfl rfl rfl (by decide) ?_
    refine go_goto 36 d_Np_fillGrid_83 (by decide) ?_
    refine go_sub (lv' := [(0, .ref a0), (1, .int (i1 + (1 : Int32)))]) [3, 0] rfl ?_
    exact hk36 a0 (i1 + (1 : Int32)) h7 hf
theorem t_Np_fillGrid_36 {l : Launch} {E : ET} {d : Nat} (hd : 3 ≤ d) {F : Nat} {h9 : PH} {x : Nat}  : ∀ (n : Nat) (a0 : Nat) (i1 : Int32) (hh : PH), f_Np_fillGrid_36 F n a0 i1 hh = some h9 → Go l E m_Np_fillGrid (rm d 0 0) (KM E 0 0 (PoE none h9 x)) 0 0 hh x 36 [(0, .ref a0), (1, .int i1)] [] := by
  intro n
  induction n with
  | zero => intro v0 v1 v2 hf; cases hf
  | succ n ih => intro v0 v1 v2 hf; exact g_Np_fillGrid_36 hd ih v0 v1 v2 hf
def b_Np_fillGrid_2 (F : Nat) (k2 : Nat → Int32 → PH → Option PH) (a0 : Nat) (i1 : Int32) (h : PH) : Option PH :=
  (if (6 : Int32) ≤ i1 then bnd (gR h a0 9 10) fun x1 => bnd (gR h a0 9 11) fun x2 => bnd (cK h x1 5) fun _ => bnd (f_Shu_shuffle F x1 x2 h) fun h4 => f_Np_fillGrid_36 F F a0 (0 : Int32) h4 else bnd (gR h a0 9 11) fun x5 => bnd (sI h x5 i1 (i1 + (1 : Int32))) fun h6 => k2 a0 (i1 + (1 : Int32)) h6)
def f_Np_fillGrid_2 (F : Nat) : Nat → Nat → Int32 → PH → Option PH
  | 0 => fun _ _ _ => none
  | n + 1 => b_Np_fillGrid_2 F (f_Np_fillGrid_2 F n)
theorem g_Np_fillGrid_2 {l : Launch} {E : ET} {d : Nat} (hd : 3 ≤ d) {F : Nat} {h9 : PH} {x : Nat} {k2 : Nat → Int32 → PH → Option PH} (hk2 : ∀ (a0 : Nat) (i1 : Int32) (hh : PH), k2 a0 i1 hh = some h9 → Go l E m_Np_fillGrid (rm d 0 0) (KM E 0 0 (PoE none h9 x)) 0 0 hh x 2 [(0, .ref a0), (1, .int i1)] []) (a0 : Nat) (i1 : Int32) (h : PH) (hf : b_Np_fillGrid_2 F k2 a0 i1 h = some h9) : Go l E m_Np_fillGrid (rm d 0 0) (KM E 0 0 (PoE none h9 x)) 0 0 h x 2 [(0, .ref a0), (1, .int i1)] [] := by
  unfold b_Np_fillGrid_2 at hf
  refine go_iload_n 1 d_Np_fillGrid_2 rfl ?_
  refine go_bipush (6 : Int32) d_Np_fillGrid_3 (by decide) ?_
  refine go_icmp_ge 23 d_Np_fillGrid_5 (by decide) (fun q7 => ?_) (fun q7 => ?_)
  · rw [if_pos q7] at hf
    refine go_aload_n 0 d_Np_fillGrid_23 rfl ?_
    obtain ⟨x1, e_x1, hf⟩ := bnd_x hf
    refine go_get d_Np_fillGrid_24 (gR_x e_x1) fl_Np_57 ?_
    refine go_aload_n 0 d_Np_fillGrid_27 rfl ?_
    obtain ⟨x2, e_x2, hf⟩ := bnd_x hf
    refine go_get d_Np_fillGrid_28 (gR_x e_x2) fl_Np_61 ?_
    obtain ⟨_, e3, hf⟩ := bnd_x hf
    obtain ⟨h4, e_x4, hf⟩ := bnd_x hf
    refine go_callV_N (As := [.ref x2]) (st := []) (c_Shu_shuffle (d := d - 1) (by omega) e_x4) lk_Np_331 rfl rfl e3 (by decide) rfl (rm_ok (by omega)) (Nat.le_of_ble_eq_true rfl) rm_c d_Np_fillGrid_31 ?_
    refine go_iconst (0 : Int32) d_Np_fillGrid_34 (by decide) ?_
    refine go_istore_n (lv' := [(1, .int (0 : Int32)), (0, .ref a0)]) d_Np_fillGrid_35 rfl (by decide) ?_
    refine go_sub (lv' := [(0, .ref a0), (1, .int (0 : Int32))]) [1, 0] rfl ?_
    exact t_Np_fillGrid_36 hd  _ a0 (0 : Int32) h4 hf
  · rw [if_neg q7] at hf
    refine go_aload_n 0 d_Np_fillGrid_8 rfl ?_
    obtain ⟨x5, e_x5, hf⟩ := bnd_x hf
    refine go_get d_Np_fillGrid_9 (gR_x e_x5) fl_Np_61 ?_
    refine go_iload_n 1 d_Np_fillGrid_12 rfl ?_
    refine go_iload_n 1 d_Np_fillGrid_13 rfl ?_
    refine go_iconst (1 : Int32) d_Np_fillGrid_14 (by decide) ?_
    refine go_iadd d_Np_fillGrid_15 ?_
    obtain ⟨h6, e_h6, hf⟩ := bnd_x hf
    refine go_iastore d_Np_fillGrid_16 e_h6 ?_
    refine go_iinc (lv' := [(1, .int (i1 + (1 : Int32))), (0, .ref a0)]) 1 (i1 + (1 : Int32)) d_Np_fillGrid_17 rfl rfl rfl (by decide) ?_
    refine go_goto 2 d_Np_fillGrid_20 (by decide) ?_
    refine go_sub (lv' := [(0, .ref a0), (1, .int (i1 + (1 : Int32)))]) [1, 0] rfl ?_
    exact hk2 a0 (i1 + (1 : Int32)) h6 hf
theorem t_Np_fillGrid_2 {l : Launch} {E : ET} {d : Nat} (hd : 3 ≤ d) {F : Nat} {h9 : PH} {x : Nat}  : ∀ (n : Nat) (a0 : Nat) (i1 : Int32) (hh : PH), f_Np_fillGrid_2 F n a0 i1 hh = some h9 → Go l E m_Np_fillGrid (rm d 0 0) (KM E 0 0 (PoE none h9 x)) 0 0 hh x 2 [(0, .ref a0), (1, .int i1)] [] := by
  intro n
  induction n with
  | zero => intro v0 v1 v2 hf; cases hf
  | succ n ih => intro v0 v1 v2 hf; exact g_Np_fillGrid_2 hd ih v0 v1 v2 hf
def f_Np_fillGrid (F : Nat) (a0 : Nat) (h : PH) : Option PH :=
  f_Np_fillGrid_2 F F a0 (0 : Int32) h
theorem g_Np_fillGrid_0 {l : Launch} {E : ET} {d : Nat} (hd : 3 ≤ d) {F : Nat} {h9 : PH} {x : Nat}  (a0 : Nat) (h : PH) (hf : f_Np_fillGrid F a0 h = some h9) : Go l E m_Np_fillGrid (rm d 0 0) (KM E 0 0 (PoE none h9 x)) 0 0 h x 0 [(0, .ref a0)] [] := by
  unfold f_Np_fillGrid at hf
  refine go_iconst (0 : Int32) d_Np_fillGrid_0 (by decide) ?_
  refine go_istore_n (lv' := [(1, .int (0 : Int32)), (0, .ref a0)]) d_Np_fillGrid_1 rfl (by decide) ?_
  refine go_sub (lv' := [(0, .ref a0), (1, .int (0 : Int32))]) [1, 0] rfl ?_
  exact t_Np_fillGrid_2 hd  _ a0 (0 : Int32) h hf
theorem c_Np_fillGrid {l : Launch} {E : ET} {d : Nat} (hd : 3 ≤ d) {F : Nat} {h9 : PH} {x : Nat} {a0 : Nat} {h : PH} (hf : f_Np_fillGrid F a0 h = some h9) : Fn l E m_Np_fillGrid d 0 0 [.ref a0] h x (PoE none h9 x) :=
  Fn.of (by decide +kernel) (Nat.le_of_ble_eq_true rfl) (g_Np_fillGrid_0 hd a0 h hf)
theorem d_Np_orderCells_0 : decode prog_1_method_40_code 0 = .ok (.iconst 0, 1) := by decide +kernel
theorem d_Np_orderCells_1 : decode prog_1_method_40_code 1 = .ok (.istore_n 1, 1) := by decide +kernel
theorem d_Np_orderCells_2 : decode prog_1_method_40_code 2 = .ok (.iload_n 1, 1) := by decide +kernel
theorem d_Np_orderCells_3 : decode prog_1_method_40_code 3 = .ok (.bipush 36, 2) := by decide +kernel
theorem d_Np_orderCells_5 : decode prog_1_method_40_code 5 = .ok (.if_icmp .ge 16, 3) := by decide +kernel
theorem d_Np_orderCells_8 : decode prog_1_method_40_code 8 = .ok (.aload_n 0, 1) := by decide +kernel
theorem d_Np_orderCells_9 : decode prog_1_method_40_code 9 = .ok (.getfield 65, 3) := by decide +kernel
theorem d_Np_orderCells_12 : decode prog_1_method_40_code 12 = .ok (.iload_n 1, 1) := by decide +kernel
theorem d_Np_orderCells_13 : decode prog_1_method_40_code 13 = .ok (.iload_n 1, 1) := by decide +kernel
theorem d_Np_orderCells_14 : decode prog_1_method_40_code 14 = .ok (.iastore, 1) := by decide +kernel
theorem d_Np_orderCells_15 : decode prog_1_method_40_code 15 = .ok (.iinc 1 1, 3) := by decide +kernel
theorem d_Np_orderCells_18 : decode prog_1_method_40_code 18 = .ok (.goto (-16), 3) := by decide +kernel
theorem d_Np_orderCells_21 : decode prog_1_method_40_code 21 = .ok (.aload_n 0, 1) := by decide +kernel
theorem d_Np_orderCells_22 : decode prog_1_method_40_code 22 = .ok (.getfield 57, 3) := by decide +kernel
theorem d_Np_orderCells_25 : decode prog_1_method_40_code 25 = .ok (.aload_n 0, 1) := by decide +kernel
theorem d_Np_orderCells_26 : decode prog_1_method_40_code 26 = .ok (.getfield 65, 3) := by decide +kernel
theorem d_Np_orderCells_29 : decode prog_1_method_40_code 29 = .ok (.invokevirtual 331, 3) := by decide +kernel
theorem d_Np_orderCells_32 : decode prog_1_method_40_code 32 = .ok (.return_, 1) := by decide +kernel
def b_Np_orderCells_2 (F : Nat) (k2 : Nat → Int32 → PH → Option PH) (a0 : Nat) (i1 : Int32) (h : PH) : Option PH :=
  (if (36 : Int32) ≤ i1 then bnd (gR h a0 9 10) fun x1 => bnd (gR h a0 9 12) fun x2 => bnd (cK h x1 5) fun _ => bnd (f_Shu_shuffle F x1 x2 h) fun h4 => some h4 else bnd (gR h a0 9 12) fun x5 => bnd (sI h x5 i1 i1) fun h6 => k2 a0 (i1 + (1 : Int32)) h6)
def f_Np_orderCells_2 (F : Nat) : Nat → Nat → Int32 → PH → Option PH
  | 0 => fun _ _ _ => none
  | n + 1 => b_Np_orderCells_2 F (f_Np_orderCells_2 F n)
theorem g_Np_orderCells_2 {l : Launch} {E : ET} {d : Nat} (hd : 3 ≤ d) {F : Nat} {h9 : PH} {x : Nat} {k2 : Nat → Int32 → PH → Option PH} (hk2 : ∀ (a0 : Nat) (i1 : Int32) (hh : PH), k2 a0 i1 hh = some h9 → Go l E m_Np_orderCells (rm d 0 0) (KM E 0 0 (PoE none h9 x)) 0 0 hh x 2 [(0, .ref a0), (1, .int i1)] []) (a0 : Nat) (i1 : Int32) (h : PH) (hf : b_Np_orderCells_2 F k2 a0 i1 h = some h9) : Go l E m_Np_orderCells (rm d 0 0) (KM E 0 0 (PoE none h9 x)) 0 0 h x 2 [(0, .ref a0), (1, .int i1)] [] := by
  unfold b_Np_orderCells_2 at hf
  refine go_iload_n 1 d_Np_orderCells_2 rfl ?_
  refine go_bipush (36 : Int32) d_Np_orderCells_3 (by decide) ?_
  refine go_icmp_ge 21 d_Np_orderCells_5 (by decide) (fun q7 => ?_) (fun q7 => ?_)
  · rw [if_pos q7] at hf
    refine go_aload_n 0 d_Np_orderCells_21 rfl ?_
    obtain ⟨x1, e_x1, hf⟩ := bnd_x hf
    refine go_get d_Np_orderCells_22 (gR_x e_x1) fl_Np_57 ?_
    refine go_aload_n 0 d_Np_orderCells_25 rfl ?_
    obtain ⟨x2, e_x2, hf⟩ := bnd_x hf
    refine go_get d_Np_orderCells_26 (gR_x e_x2) fl_Np_65 ?_
    obtain ⟨_, e3, hf⟩ := bnd_x hf
    obtain ⟨h4, e_x4, hf⟩ := bnd_x hf
    refine go_callV_N (As := [.ref x2]) (st := []) (c_Shu_shuffle (d := d - 1) (by omega) e_x4) lk_Np_331 rfl rfl e3 (by decide) rfl (rm_ok (by omega)) (Nat.le_of_ble_eq_true rfl) rm_c d_Np_orderCells_29 ?_
    have e9 := Option.some.inj hf
    subst e9
    exact go_vret d_Np_orderCells_32 rfl ⟨rfl, rfl, rfl⟩
  · rw [if_neg q7] at hf
    refine go_aload_n 0 d_Np_orderCells_8 rfl ?_
    obtain ⟨x5, e_x5, hf⟩ := bnd_x hf
    refine go_get d_Np_orderCells_9 (gR_x e_x5) fl_Np_65 ?_
    refine go_iload_n 1 d_Np_orderCells_12 rfl ?_
    refine go_iload_n 1 d_Np_orderCells_13 rfl ?_
    obtain ⟨h6, e_h6, hf⟩ := bnd_x hf
    refine go_iastore d_Np_orderCells_14 e_h6 ?_
    refine go_iinc (lv' := [(1, .int (i1 + (1 : Int32))), (0, .ref a0)]) 1 (i1 + (1 : Int32)) d_Np_orderCells_15 rfl rfl rfl (by decide) ?_
    refine go_goto 2 d_Np_orderCells_18 (by decide) ?_
    refine go_sub (lv' := [(0, .ref a0), (1, .int (i1 + (1 : Int32)))]) [1, 0] rfl ?_
    exact hk2 a0 (i1 + (1 : Int32)) h6 hf
theorem t_Np_orderCells_2 {l : Launch} {E : ET} {d : Nat} (hd : 3 ≤ d) {F : Nat} {h9 : PH} {x : Nat}  : ∀ (n : Nat) (a0 : Nat) (i1 : Int32) (hh : PH), f_Np_orderCells_2 F n a0 i1 hh = some h9 → Go l E m_Np_orderCells (rm d 0 0) (KM E 0 0 (PoE none h9 x)) 0 0 hh x 2 [(0, .ref a0), (1, .int i1)] [] := by
  intro n
  induction n with
  | zero => intro v0 v1 v2 hf; cases hf
  | succ n ih => intro v0 v1 v2 hf; exact g_Np_orderCells_2 hd ih v0 v1 v2 hf
def f_Np_orderCells (F : Nat) (a0 : Nat) (h : PH) : Option PH :=
  f_Np_orderCells_2 F F a0 (0 : Int32) h
theorem g_Np_orderCells_0 {l : Launch} {E : ET} {d : Nat} (hd : 3 ≤ d) {F : Nat} {h9 : PH} {x : Nat}  (a0 : Nat) (h : PH) (hf : f_Np_orderCells F a0 h = some h9) : Go l E m_Np_orderCells (rm d 0 0) (KM E 0 0 (PoE none h9 x)) 0 0 h x 0 [(0, .ref a0)] [] := by
  unfold f_Np_orderCells at hf
  refine go_iconst (0 : Int32) d_Np_orderCells_0 (by decide) ?_
  refine go_istore_n (lv' := [(1, .int (0 : Int32)), (0, .ref a0)]) d_Np_orderCells_1 rfl (by decide) ?_
  refine go_sub (lv' := [(0, .ref a0), (1, .int (0 : Int32))]) [1, 0] rfl ?_
  exact t_Np_orderCells_2 hd  _ a0 (0 : Int32) h hf
theorem c_Np_orderCells {l : Launch} {E : ET} {d : Nat} (hd : 3 ≤ d) {F : Nat} {h9 : PH} {x : Nat} {a0 : Nat} {h : PH} (hf : f_Np_orderCells F a0 h = some h9) : Fn l E m_Np_orderCells d 0 0 [.ref a0] h x (PoE none h9 x) :=
  Fn.of (by decide +kernel) (Nat.le_of_ble_eq_true rfl) (g_Np_orderCells_0 hd a0 h hf)
