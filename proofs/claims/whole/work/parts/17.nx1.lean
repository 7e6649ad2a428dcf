/-! 17.nx1: methods that throw, by program. -/
theorem d_Np_checkCell_0 : decode prog_1_method_31_code 0 = .ok (.iload_n 0, 1) := by decide +kernel
theorem d_Np_checkCell_1 : decode prog_1_method_31_code 1 = .ok (.ifCond .lt 9, 3) := by decide +kernel
theorem d_Np_checkCell_4 : decode prog_1_method_31_code 4 = .ok (.iload_n 0, 1) := by decide +kernel
theorem d_Np_checkCell_5 : decode prog_1_method_31_code 5 = .ok (.bipush 36, 2) := by decide +kernel
theorem d_Np_checkCell_7 : decode prog_1_method_31_code 7 = .ok (.if_icmp .lt 14, 3) := by decide +kernel
theorem d_Np_checkCell_10 : decode prog_1_method_31_code 10 = .ok (.new 208, 3) := by decide +kernel
theorem d_Np_checkCell_13 : decode prog_1_method_31_code 13 = .ok (.dup, 1) := by decide +kernel
theorem d_Np_checkCell_14 : decode prog_1_method_31_code 14 = .ok (.ldc_w 323, 3) := by decide +kernel
theorem d_Np_checkCell_17 : decode prog_1_method_31_code 17 = .ok (.invokespecial 212, 3) := by decide +kernel
theorem d_Np_checkCell_20 : decode prog_1_method_31_code 20 = .ok (.athrow, 1) := by decide +kernel
theorem d_Np_checkCell_21 : decode prog_1_method_31_code 21 = .ok (.return_, 1) := by decide +kernel
def b_Np_checkCell_10 (h : PH) : Option ((Nat ⊕ Unit) × PH) :=
  some (.inl 0, h)
theorem g_Np_checkCell_10 {l : Launch} {E : ET} {d : Nat} (hd : 6 ≤ d) {h9 : PH} {x : Nat}   (h : PH) (hf : b_Np_checkCell_10 h = some (.inr (), h9)) : Go l E m_Np_checkCell (rm d 0 0) (KM E 0 0 (PoE none h9 x)) 0 0 h x 10 [] [] := by
  unfold b_Np_checkCell_10 at hf
  cases (Prod.mk.inj (Option.some.inj hf)).1
def f_Np_checkCell (i0 : Int32) (h : PH) : Option ((Nat ⊕ Unit) × PH) :=
  (if i0 < (0 : Int32) then b_Np_checkCell_10 h else (if i0 < (36 : Int32) then some (.inr (), h) else b_Np_checkCell_10 h))
theorem g_Np_checkCell_0 {l : Launch} {E : ET} {d : Nat} (hd : 6 ≤ d) {h9 : PH} {x : Nat}  (i0 : Int32) (h : PH) (hf : f_Np_checkCell i0 h = some (.inr (), h9)) : Go l E m_Np_checkCell (rm d 0 0) (KM E 0 0 (PoE none h9 x)) 0 0 h x 0 [(0, .int i0)] [] := by
  unfold f_Np_checkCell at hf
  refine go_iload_n 0 d_Np_checkCell_0 rfl ?_
  refine go_if_lt 10 d_Np_checkCell_1 (by decide) (fun q2 => ?_) (fun q2 => ?_)
  · rw [if_pos q2] at hf
    refine go_sub (lv' := []) [] rfl ?_
    exact g_Np_checkCell_10 hd   h hf
  · rw [if_neg q2] at hf
    refine go_iload_n 0 d_Np_checkCell_4 rfl ?_
    refine go_bipush (36 : Int32) d_Np_checkCell_5 (by decide) ?_
    refine go_icmp_lt 21 d_Np_checkCell_7 (by decide) (fun q1 => ?_) (fun q1 => ?_)
    · rw [if_pos q1] at hf
      obtain ⟨e8, e9⟩ := Prod.mk.inj (Option.some.inj hf)
      subst e9
      exact go_vret d_Np_checkCell_21 rfl ⟨rfl, rfl, rfl⟩
    · rw [if_neg q1] at hf
      refine go_sub (lv' := []) [] rfl ?_
      exact g_Np_checkCell_10 hd   h hf
theorem c_Np_checkCell {l : Launch} {E : ET} {d : Nat} (hd : 6 ≤ d) {h9 : PH} {x : Nat} {i0 : Int32} {h : PH} (hf : f_Np_checkCell i0 h = some (.inr (), h9)) : Fn l E m_Np_checkCell d 0 0 [.int i0] h x (PoE none h9 x) :=
  Fn.of (by decide +kernel) (Nat.le_of_ble_eq_true rfl) (g_Np_checkCell_0 hd i0 h hf)
theorem gx_Np_checkCell_10 {l : Launch} {E : ET} (hl : l.stackTraces = false) {d : Nat} (hd : 6 ≤ d) {j : Nat} {h9 : PH} {x : Nat}   (h : PH) (hf : b_Np_checkCell_10 h = some (.inl j, h9)) : Go l E m_Np_checkCell (rm d 1 6) (KX l E 1 6 (PXk j h9)) 0 0 h x 10 [] [] := by
  unfold b_Np_checkCell_10 at hf
  obtain ⟨e8, e9⟩ := Prod.mk.inj (Option.some.inj hf)
  cases e8; subst e9
  exact go_throwSW tw_208_212 (List.mem_of_getElem? (i := 1) rfl) d_Np_checkCell_10 d_Np_checkCell_13 d_Np_checkCell_14 d_Np_checkCell_17 d_Np_checkCell_20 ⟨rfl, rfl⟩ (by omega) (Nat.le_of_ble_eq_true rfl)
theorem gx_Np_checkCell_0 {l : Launch} {E : ET} (hl : l.stackTraces = false) {d : Nat} (hd : 6 ≤ d) {j : Nat} {h9 : PH} {x : Nat}  (i0 : Int32) (h : PH) (hf : f_Np_checkCell i0 h = some (.inl j, h9)) : Go l E m_Np_checkCell (rm d 1 6) (KX l E 1 6 (PXk j h9)) 0 0 h x 0 [(0, .int i0)] [] := by
  unfold f_Np_checkCell at hf
  refine go_iload_n 0 d_Np_checkCell_0 rfl ?_
  refine go_if_lt 10 d_Np_checkCell_1 (by decide) (fun q2 => ?_) (fun q2 => ?_)
  · rw [if_pos q2] at hf
    refine go_sub (lv' := []) [] rfl ?_
    exact gx_Np_checkCell_10 hl hd   h hf
  · rw [if_neg q2] at hf
    refine go_iload_n 0 d_Np_checkCell_4 rfl ?_
    refine go_bipush (36 : Int32) d_Np_checkCell_5 (by decide) ?_
    refine go_icmp_lt 21 d_Np_checkCell_7 (by decide) (fun q1 => ?_) (fun q1 => ?_)
    · rw [if_pos q1] at hf
      cases (Prod.mk.inj (Option.some.inj hf)).1
    · rw [if_neg q1] at hf
      refine go_sub (lv' := []) [] rfl ?_
      exact gx_Np_checkCell_10 hl hd   h hf
theorem x_Np_checkCell {l : Launch} {E : ET} (hl : l.stackTraces = false) {d : Nat} (hd : 6 ≤ d) {j : Nat} {h9 : PH} {x : Nat} {i0 : Int32} {h : PH} (hf : f_Np_checkCell i0 h = some (.inl j, h9)) : FnT l E m_Np_checkCell d [.int i0] h x (PXk j h9) :=
  FnT.of hl (by decide +kernel) (Nat.le_of_ble_eq_true rfl) (gx_Np_checkCell_0 hl hd i0 h hf)
theorem d_Np_checkDigit_0 : decode prog_1_method_32_code 0 = .ok (.iload_n 0, 1) := by decide +kernel
theorem d_Np_checkDigit_1 : decode prog_1_method_32_code 1 = .ok (.iconst 1, 1) := by decide +kernel
theorem d_Np_checkDigit_2 : decode prog_1_method_32_code 2 = .ok (.if_icmp .lt 9, 3) := by decide +kernel
theorem d_Np_checkDigit_5 : decode prog_1_method_32_code 5 = .ok (.iload_n 0, 1) := by decide +kernel
theorem d_Np_checkDigit_6 : decode prog_1_method_32_code 6 = .ok (.bipush 6, 2) := by decide +kernel
theorem d_Np_checkDigit_8 : decode prog_1_method_32_code 8 = .ok (.if_icmp .le 14, 3) := by decide +kernel
theorem d_Np_checkDigit_11 : decode prog_1_method_32_code 11 = .ok (.new 122, 3) := by decide +kernel
theorem d_Np_checkDigit_14 : decode prog_1_method_32_code 14 = .ok (.dup, 1) := by decide +kernel
theorem d_Np_checkDigit_15 : decode prog_1_method_32_code 15 = .ok (.ldc_w 325, 3) := by decide +kernel
theorem d_Np_checkDigit_18 : decode prog_1_method_32_code 18 = .ok (.invokespecial 126, 3) := by decide +kernel
theorem d_Np_checkDigit_21 : decode prog_1_method_32_code 21 = .ok (.athrow, 1) := by decide +kernel
theorem d_Np_checkDigit_22 : decode prog_1_method_32_code 22 = .ok (.return_, 1) := by decide +kernel
def b_Np_checkDigit_11 (h : PH) : Option ((Nat ⊕ Unit) × PH) :=
  some (.inl 1, h)
theorem g_Np_checkDigit_11 {l : Launch} {E : ET} {d : Nat} (hd : 6 ≤ d) {h9 : PH} {x : Nat}   (h : PH) (hf : b_Np_checkDigit_11 h = some (.inr (), h9)) : Go l E m_Np_checkDigit (rm d 0 0) (KM E 0 0 (PoE none h9 x)) 0 0 h x 11 [] [] := by
  unfold b_Np_checkDigit_11 at hf
  cases (Prod.mk.inj (Option.some.inj hf)).1
def f_Np_checkDigit (i0 : Int32) (h : PH) : Option ((Nat ⊕ Unit) × PH) :=
  (if i0 < (1 : Int32) then b_Np_checkDigit_11 h else (if i0 ≤ (6 : Int32) then some (.inr (), h) else b_Np_checkDigit_11 h))
theorem g_Np_checkDigit_0 {l : Launch} {E : ET} {d : Nat} (hd : 6 ≤ d) {h9 : PH} {x : Nat}  (i0 : Int32) (h : PH) (hf : f_Np_checkDigit i0 h = some (.inr (), h9)) : Go l E m_Np_checkDigit (rm d 0 0) (KM E 0 0 (PoE none h9 x)) 0 0 h x 0 [(0, .int i0)] [] := by
  unfold f_Np_checkDigit at hf
  refine go_iload_n 0 d_Np_checkDigit_0 rfl ?_
  refine go_iconst (1 : Int32) d_Np_checkDigit_1 (by decide) ?_
  refine go_icmp_lt 11 d_Np_checkDigit_2 (by decide) (fun q2 => ?_) (fun q2 => ?_)
  · rw [if_pos q2] at hf
    refine go_sub (lv' := []) [] rfl ?_
    exact g_Np_checkDigit_11 hd   h hf
  · rw [if_neg q2] at hf
    refine go_iload_n 0 d_Np_checkDigit_5 rfl ?_
    refine go_bipush (6 : Int32) d_Np_checkDigit_6 (by decide) ?_
    refine go_icmp_le 22 d_Np_checkDigit_8 (by decide) (fun q1 => ?_) (fun q1 => ?_)
    · rw [if_pos q1] at hf
      obtain ⟨e8, e9⟩ := Prod.mk.inj (Option.some.inj hf)
      subst e9
      exact go_vret d_Np_checkDigit_22 rfl ⟨rfl, rfl, rfl⟩
    · rw [if_neg q1] at hf
      refine go_sub (lv' := []) [] rfl ?_
      exact g_Np_checkDigit_11 hd   h hf
theorem c_Np_checkDigit {l : Launch} {E : ET} {d : Nat} (hd : 6 ≤ d) {h9 : PH} {x : Nat} {i0 : Int32} {h : PH} (hf : f_Np_checkDigit i0 h = some (.inr (), h9)) : Fn l E m_Np_checkDigit d 0 0 [.int i0] h x (PoE none h9 x) :=
  Fn.of (by decide +kernel) (Nat.le_of_ble_eq_true rfl) (g_Np_checkDigit_0 hd i0 h hf)
theorem gx_Np_checkDigit_11 {l : Launch} {E : ET} (hl : l.stackTraces = false) {d : Nat} (hd : 6 ≤ d) {j : Nat} {h9 : PH} {x : Nat}   (h : PH) (hf : b_Np_checkDigit_11 h = some (.inl j, h9)) : Go l E m_Np_checkDigit (rm d 1 6) (KX l E 1 6 (PXk j h9)) 0 0 h x 11 [] [] := by
  unfold b_Np_checkDigit_11 at hf
  obtain ⟨e8, e9⟩ := Prod.mk.inj (Option.some.inj hf)
  cases e8; subst e9
  exact go_throwSW tw_122_126 (List.mem_of_getElem? (i := 2) rfl) d_Np_checkDigit_11 d_Np_checkDigit_14 d_Np_checkDigit_15 d_Np_checkDigit_18 d_Np_checkDigit_21 ⟨rfl, rfl⟩ (by omega) (Nat.le_of_ble_eq_true rfl)
theorem gx_Np_checkDigit_0 {l : Launch} {E : ET} (hl : l.stackTraces = false) {d : Nat} (hd : 6 ≤ d) {j : Nat} {h9 : PH} {x : Nat}  (i0 : Int32) (h : PH) (hf : f_Np_checkDigit i0 h = some (.inl j, h9)) : Go l E m_Np_checkDigit (rm d 1 6) (KX l E 1 6 (PXk j h9)) 0 0 h x 0 [(0, .int i0)] [] := by
  unfold f_Np_checkDigit at hf
  refine go_iload_n 0 d_Np_checkDigit_0 rfl ?_
  refine go_iconst (1 : Int32) d_Np_checkDigit_1 (by decide) ?_
  refine go_icmp_lt 11 d_Np_checkDigit_2 (by decide) (fun q2 => ?_) (fun q2 => ?_)
  · rw [if_pos q2] at hf
    refine go_sub (lv' := []) [] rfl ?_
    exact gx_Np_checkDigit_11 hl hd   h hf
  · rw [if_neg q2] at hf
    refine go_iload_n 0 d_Np_checkDigit_5 rfl ?_
    refine go_bipush (6 : Int32) d_Np_checkDigit_6 (by decide) ?_
    refine go_icmp_le 22 d_Np_checkDigit_8 (by decide) (fun q1 => ?_) (fun q1 => ?_)
    · rw [if_pos q1] at hf
      cases (Prod.mk.inj (Option.some.inj hf)).1
    · rw [if_neg q1] at hf
      refine go_sub (lv' := []) [] rfl ?_
      exact gx_Np_checkDigit_11 hl hd   h hf
theorem x_Np_checkDigit {l : Launch} {E : ET} (hl : l.stackTraces = false) {d : Nat} (hd : 6 ≤ d) {j : Nat} {h9 : PH} {x : Nat} {i0 : Int32} {h : PH} (hf : f_Np_checkDigit i0 h = some (.inl j, h9)) : FnT l E m_Np_checkDigit d [.int i0] h x (PXk j h9) :=
  FnT.of hl (by decide +kernel) (Nat.le_of_ble_eq_true rfl) (gx_Np_checkDigit_0 hl hd i0 h hf)
theorem d_Np_give_0 : decode prog_1_method_3_code 0 = .ok (.iload_n 1, 1) := by decide +kernel
theorem d_Np_give_1 : decode prog_1_method_3_code 1 = .ok (.invokestatic 87, 3) := by decide +kernel
theorem d_Np_give_4 : decode prog_1_method_3_code 4 = .ok (.iload_n 2, 1) := by decide +kernel
theorem d_Np_give_5 : decode prog_1_method_3_code 5 = .ok (.invokestatic 91, 3) := by decide +kernel
theorem d_Np_give_8 : decode prog_1_method_3_code 8 = .ok (.aload_n 0, 1) := by decide +kernel
theorem d_Np_give_9 : decode prog_1_method_3_code 9 = .ok (.invokevirtual 81, 3) := by decide +kernel
theorem d_Np_give_12 : decode prog_1_method_3_code 12 = .ok (.aload_n 0, 1) := by decide +kernel
theorem d_Np_give_13 : decode prog_1_method_3_code 13 = .ok (.getfield 10, 3) := by decide +kernel
theorem d_Np_give_16 : decode prog_1_method_3_code 16 = .ok (.getfield 68, 3) := by decide +kernel
theorem d_Np_give_19 : decode prog_1_method_3_code 19 = .ok (.iload_n 1, 1) := by decide +kernel
theorem d_Np_give_20 : decode prog_1_method_3_code 20 = .ok (.invokevirtual 94, 3) := by decide +kernel
theorem d_Np_give_23 : decode prog_1_method_3_code 23 = .ok (.istore_n 3, 1) := by decide +kernel
theorem d_Np_give_24 : decode prog_1_method_3_code 24 = .ok (.aload_n 0, 1) := by decide +kernel
theorem d_Np_give_25 : decode prog_1_method_3_code 25 = .ok (.getfield 10, 3) := by decide +kernel
theorem d_Np_give_28 : decode prog_1_method_3_code 28 = .ok (.getfield 68, 3) := by decide +kernel
theorem d_Np_give_31 : decode prog_1_method_3_code 31 = .ok (.iload_n 1, 1) := by decide +kernel
theorem d_Np_give_32 : decode prog_1_method_3_code 32 = .ok (.iload_n 2, 1) := by decide +kernel
theorem d_Np_give_33 : decode prog_1_method_3_code 33 = .ok (.invokevirtual 98, 3) := by decide +kernel
theorem d_Np_give_36 : decode prog_1_method_3_code 36 = .ok (.pop, 1) := by decide +kernel
theorem d_Np_give_37 : decode prog_1_method_3_code 37 = .ok (.aload_n 0, 1) := by decide +kernel
theorem d_Np_give_38 : decode prog_1_method_3_code 38 = .ok (.getfield 10, 3) := by decide +kernel
theorem d_Np_give_41 : decode prog_1_method_3_code 41 = .ok (.getfield 102, 3) := by decide +kernel
theorem d_Np_give_44 : decode prog_1_method_3_code 44 = .ok (.iload_n 1, 1) := by decide +kernel
theorem d_Np_give_45 : decode prog_1_method_3_code 45 = .ok (.iload_n 2, 1) := by decide +kernel
theorem d_Np_give_46 : decode prog_1_method_3_code 46 = .ok (.iastore, 1) := by decide +kernel
theorem d_Np_give_47 : decode prog_1_method_3_code 47 = .ok (.aload_n 0, 1) := by decide +kernel
theorem d_Np_give_48 : decode prog_1_method_3_code 48 = .ok (.getfield 10, 3) := by decide +kernel
theorem d_Np_give_51 : decode prog_1_method_3_code 51 = .ok (.getfield 105, 3) := by decide +kernel
theorem d_Np_give_54 : decode prog_1_method_3_code 54 = .ok (.invokevirtual 109, 3) := by decide +kernel
theorem d_Np_give_57 : decode prog_1_method_3_code 57 = .ok (.iload_n 3, 1) := by decide +kernel
theorem d_Np_give_58 : decode prog_1_method_3_code 58 = .ok (.ireturn, 1) := by decide +kernel
def f_Np_give (F : Nat) (a0 : Nat) (i1 : Int32) (i2 : Int32) (h : PH) : Option ((Nat ⊕ Int32) × PH) :=
  bndT (f_Np_checkCell i1 h) fun x1 h2 => bndT (f_Np_checkDigit i2 h2) fun x3 h4 => bnd (cK h4 a0 9) fun _ => bnd (f_Np_save a0 h4) fun h6 => bnd (gR h6 a0 9 0) fun x7 => bnd (gR h6 x7 8 0) fun x8 => bnd (cK h6 x8 1) fun _ => bnd (f_Pos_digitsOf F x8 i1 h6) fun x10 => bnd (gR h6 a0 9 0) fun x11 => bnd (gR h6 x11 8 0) fun x12 => bnd (cK h6 x12 1) fun _ => bnd2 (f_Pos_keepOnly F x12 i1 i2 h6) fun x14 h15 => bnd (gR h15 a0 9 0) fun x16 => bnd (gR h15 x16 8 2) fun x17 => bnd (sI h15 x17 i1 i2) fun h18 => bnd (gR h18 a0 9 0) fun x19 => bnd (gR h18 x19 8 3) fun x20 => bnd (cK h18 x20 0) fun _ => bnd (f_Log_wipe x20 h18) fun h22 => some (.inr x10, h22)
theorem g_Np_give_0 {l : Launch} {E : ET} {d : Nat} (hd : 7 ≤ d) {F : Nat} {r : Int32} {h9 : PH} {x : Nat}  (a0 : Nat) (i1 : Int32) (i2 : Int32) (h : PH) (hf : f_Np_give F a0 i1 i2 h = some (.inr r, h9)) : Go l E m_Np_give (rm d 0 0) (KM E 0 0 (PoE (some (.int r)) h9 x)) 0 0 h x 0 [(0, .ref a0), (1, .int i1), (2, .int i2)] [] := by
  unfold f_Np_give at hf
  refine go_iload_n 1 d_Np_give_0 rfl ?_
  obtain ⟨x1, h2, e_x1, hf⟩ := bndT_r hf
  refine go_callS_N (As := [.int i1]) (st := []) (c_Np_checkCell (d := d - 1) (by omega) e_x1) lk_Np_87 rfl rfl (rm_ok (by omega)) (Nat.le_of_ble_eq_true rfl) rm_c d_Np_give_1 ?_
  refine go_iload_n 2 d_Np_give_4 rfl ?_
  obtain ⟨x3, h4, e_x3, hf⟩ := bndT_r hf
  refine go_callS_N (As := [.int i2]) (st := []) (c_Np_checkDigit (d := d - 1) (by omega) e_x3) lk_Np_91 rfl rfl (rm_ok (by omega)) (Nat.le_of_ble_eq_true rfl) rm_c d_Np_give_5 ?_
  refine go_aload_n 0 d_Np_give_8 rfl ?_
  obtain ⟨_, e5, hf⟩ := bnd_x hf
  obtain ⟨h6, e_x6, hf⟩ := bnd_x hf
  refine go_callV_N (As := []) (st := []) (c_Np_save (d := d - 1) (by omega) e_x6) lk_Np_81 rfl rfl e5 (by decide) rfl (rm_ok (by omega)) (Nat.le_of_ble_eq_true rfl) rm_c d_Np_give_9 ?_
  refine go_aload_n 0 d_Np_give_12 rfl ?_
  obtain ⟨x7, e_x7, hf⟩ := bnd_x hf
  refine go_get d_Np_give_13 (gR_x e_x7) fl_Np_10 ?_
  obtain ⟨x8, e_x8, hf⟩ := bnd_x hf
  refine go_get d_Np_give_16 (gR_x e_x8) fl_Np_68 ?_
  refine go_iload_n 1 d_Np_give_19 rfl ?_
  obtain ⟨_, e9, hf⟩ := bnd_x hf
  obtain ⟨x10, e_x10, hf⟩ := bnd_x hf
  refine go_callV_I (As := [.int i1]) (st := []) (c_Pos_digitsOf (d := d - 1) (by omega) e_x10) lk_Np_94 rfl rfl e9 (by decide) rfl (rm_ok (by omega)) (Nat.le_of_ble_eq_true rfl) rm_c d_Np_give_20 ?_
  refine go_istore_n (lv' := [(3, .int x10), (0, .ref a0), (1, .int i1), (2, .int i2)]) d_Np_give_23 rfl (by decide) ?_
  refine go_aload_n 1 d_Np_give_24 rfl ?_
  obtain ⟨x11, e_x11, hf⟩ := bnd_x hf
  refine go_get d_Np_give_25 (gR_x e_x11) fl_Np_10 ?_
  obtain ⟨x12, e_x12, hf⟩ := bnd_x hf
  refine go_get d_Np_give_28 (gR_x e_x12) fl_Np_68 ?_
  refine go_iload_n 2 d_Np_give_31 rfl ?_
  refine go_iload_n 3 d_Np_give_32 rfl ?_
  obtain ⟨_, e13, hf⟩ := bnd_x hf
  obtain ⟨x14, h15, e_x14, hf⟩ := bnd2_x hf
  refine go_callV_I (As := [.int i1, .int i2]) (st := []) (c_Pos_keepOnly (d := d - 1) (by omega) e_x14) lk_Np_98 rfl rfl e13 (by decide) rfl (rm_ok (by omega)) (Nat.le_of_ble_eq_true rfl) rm_c d_Np_give_33 ?_
  refine go_pop d_Np_give_36 rfl ?_
  refine go_aload_n 1 d_Np_give_37 rfl ?_
  obtain ⟨x16, e_x16, hf⟩ := bnd_x hf
  refine go_get d_Np_give_38 (gR_x e_x16) fl_Np_10 ?_
  obtain ⟨x17, e_x17, hf⟩ := bnd_x hf
  refine go_get d_Np_give_41 (gR_x e_x17) fl_Np_102 ?_
  refine go_iload_n 2 d_Np_give_44 rfl ?_
  refine go_iload_n 3 d_Np_give_45 rfl ?_
  obtain ⟨h18, e_h18, hf⟩ := bnd_x hf
  refine go_iastore d_Np_give_46 e_h18 ?_
  refine go_aload_n 1 d_Np_give_47 rfl ?_
  obtain ⟨x19, e_x19, hf⟩ := bnd_x hf
  refine go_get d_Np_give_48 (gR_x e_x19) fl_Np_10 ?_
  obtain ⟨x20, e_x20, hf⟩ := bnd_x hf
  refine go_get d_Np_give_51 (gR_x e_x20) fl_Np_105 ?_
  obtain ⟨_, e21, hf⟩ := bnd_x hf
  obtain ⟨h22, e_x22, hf⟩ := bnd_x hf
  refine go_callV_N (As := []) (st := []) (c_Log_wipe (d := d - 1) (by omega) e_x22) lk_Np_109 rfl rfl e21 (by decide) rfl (rm_ok (by omega)) (Nat.le_of_ble_eq_true rfl) rm_c d_Np_give_54 ?_
  refine go_iload_n 0 d_Np_give_57 rfl ?_
  obtain ⟨e8, e9⟩ := Prod.mk.inj (Option.some.inj hf)
  have e7 := Sum.inr.inj e8; subst e7; subst e9
  exact go_iret d_Np_give_58 rfl ⟨rfl, rfl, rfl⟩
theorem c_Np_give {l : Launch} {E : ET} {d : Nat} (hd : 7 ≤ d) {F : Nat} {r : Int32} {h9 : PH} {x : Nat} {a0 : Nat} {i1 : Int32} {i2 : Int32} {h : PH} (hf : f_Np_give F a0 i1 i2 h = some (.inr r, h9)) : Fn l E m_Np_give d 0 0 [.ref a0, .int i1, .int i2] h x (PoE (some (.int r)) h9 x) :=
  Fn.of (by decide +kernel) (Nat.le_of_ble_eq_true rfl) (g_Np_give_0 hd a0 i1 i2 h hf)
theorem gx_Np_give_0 {l : Launch} {E : ET} (hl : l.stackTraces = false) {d : Nat} (hd : 7 ≤ d) {F : Nat} {j : Nat} {h9 : PH} {x : Nat}  (a0 : Nat) (i1 : Int32) (i2 : Int32) (h : PH) (hf : f_Np_give F a0 i1 i2 h = some (.inl j, h9)) : Go l E m_Np_give (rm d 1 6) (KX l E 1 6 (PXk j h9)) 0 0 h x 0 [(0, .ref a0), (1, .int i1), (2, .int i2)] [] := by
  unfold f_Np_give at hf
  refine go_iload_n 1 d_Np_give_0 rfl ?_
  rcases bndT_l hf with e_x1 | ⟨x1, h2, e_x1, hf⟩
  · exact go_tcallS (As := [.int i1]) (st := []) (x_Np_checkCell hl (d := d - 1) (by omega) e_x1) lk_Np_87 rfl rfl (rm_ok1 (by omega)) (Nat.le_of_ble_eq_true rfl) d_Np_give_1
  refine go_callS_N (As := [.int i1]) (st := []) (c_Np_checkCell (d := d - 1) (by omega) e_x1) lk_Np_87 rfl rfl (rm_ok1 (by omega)) (Nat.le_of_ble_eq_true rfl) rm_c1 d_Np_give_1 ?_
  refine go_iload_n 2 d_Np_give_4 rfl ?_
  rcases bndT_l hf with e_x3 | ⟨x3, h4, e_x3, hf⟩
  · exact go_tcallS (As := [.int i2]) (st := []) (x_Np_checkDigit hl (d := d - 1) (by omega) e_x3) lk_Np_91 rfl rfl (rm_ok1 (by omega)) (Nat.le_of_ble_eq_true rfl) d_Np_give_5
  refine go_callS_N (As := [.int i2]) (st := []) (c_Np_checkDigit (d := d - 1) (by omega) e_x3) lk_Np_91 rfl rfl (rm_ok1 (by omega)) (Nat.le_of_ble_eq_true rfl) rm_c1 d_Np_give_5 ?_
  refine go_aload_n 0 d_Np_give_8 rfl ?_
  obtain ⟨_, e5, hf⟩ := bnd_x hf
  obtain ⟨h6, e_x6, hf⟩ := bnd_x hf
  refine go_callV_N (As := []) (st := []) (c_Np_save (d := d - 1) (by omega) e_x6) lk_Np_81 rfl rfl e5 (by decide) rfl (rm_ok1 (by omega)) (Nat.le_of_ble_eq_true rfl) rm_c1 d_Np_give_9 ?_
  refine go_aload_n 0 d_Np_give_12 rfl ?_
  obtain ⟨x7, e_x7, hf⟩ := bnd_x hf
  refine go_get d_Np_give_13 (gR_x e_x7) fl_Np_10 ?_
  obtain ⟨x8, e_x8, hf⟩ := bnd_x hf
  refine go_get d_Np_give_16 (gR_x e_x8) fl_Np_68 ?_
  refine go_iload_n 1 d_Np_give_19 rfl ?_
  obtain ⟨_, e9, hf⟩ := bnd_x hf
  obtain ⟨x10, e_x10, hf⟩ := bnd_x hf
  refine go_callV_I (As := [.int i1]) (st := []) (c_Pos_digitsOf (d := d - 1) (by omega) e_x10) lk_Np_94 rfl rfl e9 (by decide) rfl (rm_ok1 (by omega)) (Nat.le_of_ble_eq_true rfl) rm_c1 d_Np_give_20 ?_
  refine go_istore_n (lv' := [(3, .int x10), (0, .ref a0), (1, .int i1), (2, .int i2)]) d_Np_give_23 rfl (by decide) ?_
  refine go_aload_n 1 d_Np_give_24 rfl ?_
  obtain ⟨x11, e_x11, hf⟩ := bnd_x hf
  refine go_get d_Np_give_25 (gR_x e_x11) fl_Np_10 ?_
  obtain ⟨x12, e_x12, hf⟩ := bnd_x hf
  refine go_get d_Np_give_28 (gR_x e_x12) fl_Np_68 ?_
  refine go_iload_n 2 d_Np_give_31 rfl ?_
  refine go_iload_n 3 d_Np_give_32 rfl ?_
  obtain ⟨_, e13, hf⟩ := bnd_x hf
  obtain ⟨x14, h15, e_x14, hf⟩ := bnd2_x hf
  refine go_callV_I (As := [.int i1, .int i2]) (st := []) (c_Pos_keepOnly (d := d - 1) (by omega) e_x14) lk_Np_98 rfl rfl e13 (by decide) rfl (rm_ok1 (by omega)) (Nat.le_of_ble_eq_true rfl) rm_c1 d_Np_give_33 ?_
  refine go_pop d_Np_give_36 rfl ?_
  refine go_aload_n 1 d_Np_give_37 rfl ?_
  obtain ⟨x16, e_x16, hf⟩ := bnd_x hf
  refine go_get d_Np_give_38 (gR_x e_x16) fl_Np_10 ?_
  obtain ⟨x17, e_x17, hf⟩ := bnd_x hf
  refine go_get d_Np_give_41 (gR_x e_x17) fl_Np_102 ?_
  refine go_iload_n 2 d_Np_give_44 rfl ?_
  refine go_iload_n 3 d_Np_give_45 rfl ?_
  obtain ⟨h18, e_h18, hf⟩ := bnd_x hf
  refine go_iastore d_Np_give_46 e_h18 ?_
  refine go_aload_n 1 d_Np_give_47 rfl ?_
  obtain ⟨x19, e_x19, hf⟩ := bnd_x hf
  refine go_get d_Np_give_48 (gR_x e_x19) fl_Np_10 ?_
  obtain ⟨x20, e_x20, hf⟩ := bnd_x hf
  refine go_get d_Np_give_51 (gR_x e_x20) fl_Np_105 ?_
  obtain ⟨_, e21, hf⟩ := bnd_x hf
  obtain ⟨h22, e_x22, hf⟩ := bnd_x hf
  refine go_callV_N (As := []) (st := []) (c_Log_wipe (d := d - 1) (by omega) e_x22) lk_Np_109 rfl rfl e21 (by decide) rfl (rm_ok1 (by omega)) (Nat.le_of_ble_eq_true rfl) rm_c1 d_Np_give_54 ?_
  refine go_iload_n 0 d_Np_give_57 rfl ?_
  cases (Prod.mk.inj (Option.some.inj hf)).1
theorem x_Np_give {l : Launch} {E : ET} (hl : l.stackTraces = false) {d : Nat} (hd : 7 ≤ d) {F : Nat} {j : Nat} {h9 : PH} {x : Nat} {a0 : Nat} {i1 : Int32} {i2 : Int32} {h : PH} (hf : f_Np_give F a0 i1 i2 h = some (.inl j, h9)) : FnT l E m_Np_give d [.ref a0, .int i1, .int i2] h x (PXk j h9) :=
  FnT.of hl (by decide +kernel) (Nat.le_of_ble_eq_true rfl) (gx_Np_give_0 hl hd a0 i1 i2 h hf)
theorem d_Np_strike_0 : decode prog_1_method_4_code 0 = .ok (.iload_n 1, 1) := by decide +kernel
theorem d_Np_strike_1 : decode prog_1_method_4_code 1 = .ok (.invokestatic 87, 3) := by decide +kernel
theorem d_Np_strike_4 : decode prog_1_method_4_code 4 = .ok (.iload_n 2, 1) := by decide +kernel
theorem d_Np_strike_5 : decode prog_1_method_4_code 5 = .ok (.invokestatic 91, 3) := by decide +kernel
theorem d_Np_strike_8 : decode prog_1_method_4_code 8 = .ok (.aload_n 0, 1) := by decide +kernel
theorem d_Np_strike_9 : decode prog_1_method_4_code 9 = .ok (.invokevirtual 81, 3) := by decide +kernel
theorem d_Np_strike_12 : decode prog_1_method_4_code 12 = .ok (.aload_n 0, 1) := by decide +kernel
theorem d_Np_strike_13 : decode prog_1_method_4_code 13 = .ok (.getfield 10, 3) := by decide +kernel
theorem d_Np_strike_16 : decode prog_1_method_4_code 16 = .ok (.getfield 105, 3) := by decide +kernel
theorem d_Np_strike_19 : decode prog_1_method_4_code 19 = .ok (.invokevirtual 109, 3) := by decide +kernel
theorem d_Np_strike_22 : decode prog_1_method_4_code 22 = .ok (.aload_n 0, 1) := by decide +kernel
theorem d_Np_strike_23 : decode prog_1_method_4_code 23 = .ok (.getfield 10, 3) := by decide +kernel
theorem d_Np_strike_26 : decode prog_1_method_4_code 26 = .ok (.getfield 68, 3) := by decide +kernel
theorem d_Np_strike_29 : decode prog_1_method_4_code 29 = .ok (.iload_n 2, 1) := by decide +kernel
theorem d_Np_strike_30 : decode prog_1_method_4_code 30 = .ok (.lconst 1, 1) := by decide +kernel
theorem d_Np_strike_31 : decode prog_1_method_4_code 31 = .ok (.iload_n 1, 1) := by decide +kernel
theorem d_Np_strike_32 : decode prog_1_method_4_code 32 = .ok (.lshl, 1) := by decide +kernel
theorem d_Np_strike_33 : decode prog_1_method_4_code 33 = .ok (.invokevirtual 112, 3) := by decide +kernel
theorem d_Np_strike_36 : decode prog_1_method_4_code 36 = .ok (.ifCond .le 7, 3) := by decide +kernel
theorem d_Np_strike_39 : decode prog_1_method_4_code 39 = .ok (.iconst 1, 1) := by decide +kernel
theorem d_Np_strike_40 : decode prog_1_method_4_code 40 = .ok (.goto 4, 3) := by decide +kernel
theorem d_Np_strike_43 : decode prog_1_method_4_code 43 = .ok (.iconst 0, 1) := by decide +kernel
theorem d_Np_strike_44 : decode prog_1_method_4_code 44 = .ok (.ireturn, 1) := by decide +kernel
def f_Np_strike (a0 : Nat) (i1 : Int32) (i2 : Int32) (h : PH) : Option ((Nat ⊕ Int32) × PH) :=
  bndT (f_Np_checkCell i1 h) fun x1 h2 => bndT (f_Np_checkDigit i2 h2) fun x3 h4 => bnd (cK h4 a0 9) fun _ => bnd (f_Np_save a0 h4) fun h6 => bnd (gR h6 a0 9 0) fun x7 => bnd (gR h6 x7 8 3) fun x8 => bnd (cK h6 x8 0) fun _ => bnd (f_Log_wipe x8 h6) fun h10 => bnd (gR h10 a0 9 0) fun x11 => bnd (gR h10 x11 8 0) fun x12 => bnd (cK h10 x12 1) fun _ => bnd2 (f_Pos_remove x12 i2 ((1 : Int64) <<< ((i1).toInt64 &&& 63)) h10) fun x14 h15 => (if x14 ≤ (0 : Int32) then some (.inr (0 : Int32), h15) else some (.inr (1 : Int32), h15))
theorem g_Np_strike_0 {l : Launch} {E : ET} {d : Nat} (hd : 7 ≤ d) {r : Int32} {h9 : PH} {x : Nat}  (a0 : Nat) (i1 : Int32) (i2 : Int32) (h : PH) (hf : f_Np_strike a0 i1 i2 h = some (.inr r, h9)) : Go l E m_Np_strike (rm d 0 0) (KM E 0 0 (PoE (some (.int r)) h9 x)) 0 0 h x 0 [(0, .ref a0), (1, .int i1), (2, .int i2)] [] := by
  unfold f_Np_strike at hf
  refine go_iload_n 1 d_Np_strike_0 rfl ?_
  obtain ⟨x1, h2, e_x1, hf⟩ := bndT_r hf
  refine go_callS_N (As := [.int i1]) (st := []) (c_Np_checkCell (d := d - 1) (by omega) e_x1) lk_Np_87 rfl rfl (rm_ok (by omega)) (Nat.le_of_ble_eq_true rfl) rm_c d_Np_strike_1 ?_
  refine go_iload_n 2 d_Np_strike_4 rfl ?_
  obtain ⟨x3, h4, e_x3, hf⟩ := bndT_r hf
  refine go_callS_N (As := [.int i2]) (st := []) (c_Np_checkDigit (d := d - 1) (by omega) e_x3) lk_Np_91 rfl rfl (rm_ok (by omega)) (Nat.le_of_ble_eq_true rfl) rm_c d_Np_strike_5 ?_
  refine go_aload_n 0 d_Np_strike_8 rfl ?_
  obtain ⟨_, e5, hf⟩ := bnd_x hf
  obtain ⟨h6, e_x6, hf⟩ := bnd_x hf
  refine go_callV_N (As := []) (st := []) (c_Np_save (d := d - 1) (by omega) e_x6) lk_Np_81 rfl rfl e5 (by decide) rfl (rm_ok (by omega)) (Nat.le_of_ble_eq_true rfl) rm_c d_Np_strike_9 ?_
  refine go_aload_n 0 d_Np_strike_12 rfl ?_
  obtain ⟨x7, e_x7, hf⟩ := bnd_x hf
  refine go_get d_Np_strike_13 (gR_x e_x7) fl_Np_10 ?_
  obtain ⟨x8, e_x8, hf⟩ := bnd_x hf
  refine go_get d_Np_strike_16 (gR_x e_x8) fl_Np_105 ?_
  obtain ⟨_, e9, hf⟩ := bnd_x hf
  obtain ⟨h10, e_x10, hf⟩ := bnd_x hf
  refine go_callV_N (As := []) (st := []) (c_Log_wipe (d := d - 1) (by omega) e_x10) lk_Np_109 rfl rfl e9 (by decide) rfl (rm_ok (by omega)) (Nat.le_of_ble_eq_true rfl) rm_c d_Np_strike_19 ?_
  refine go_aload_n 0 d_Np_strike_22 rfl ?_
  obtain ⟨x11, e_x11, hf⟩ := bnd_x hf
  refine go_get d_Np_strike_23 (gR_x e_x11) fl_Np_10 ?_
  obtain ⟨x12, e_x12, hf⟩ := bnd_x hf
  refine go_get d_Np_strike_26 (gR_x e_x12) fl_Np_68 ?_
  refine go_iload_n 2 d_Np_strike_29 rfl ?_
  refine go_lconst (1 : Int64) d_Np_strike_30 (by decide) ?_
  refine go_iload_n 1 d_Np_strike_31 rfl ?_
  refine go_lshl d_Np_strike_32 ?_
  obtain ⟨_, e13, hf⟩ := bnd_x hf
  obtain ⟨x14, h15, e_x14, hf⟩ := bnd2_x hf
  refine go_callV_I (As := [.int i2, .long ((1 : Int64) <<< ((i1).toInt64 &&& 63))]) (st := []) (c_Pos_remove (d := d - 1) (by omega) e_x14) lk_Np_112 rfl rfl e13 (by decide) rfl (rm_ok (by omega)) (Nat.le_of_ble_eq_true rfl) rm_c d_Np_strike_33 ?_
  refine go_if_le 43 d_Np_strike_36 (by decide) (fun q16 => ?_) (fun q16 => ?_)
  · rw [if_pos q16] at hf
    refine go_iconst (0 : Int32) d_Np_strike_43 (by decide) ?_
    obtain ⟨e8, e9⟩ := Prod.mk.inj (Option.some.inj hf)
    have e7 := Sum.inr.inj e8; subst e7; subst e9
    exact go_zret d_Np_strike_44 rfl rfl ⟨rfl, rfl, rfl⟩
  · rw [if_neg q16] at hf
    refine go_iconst (1 : Int32) d_Np_strike_39 (by decide) ?_
    refine go_goto 44 d_Np_strike_40 (by decide) ?_
    obtain ⟨e8, e9⟩ := Prod.mk.inj (Option.some.inj hf)
    have e7 := Sum.inr.inj e8; subst e7; subst e9
    exact go_zret d_Np_strike_44 rfl rfl ⟨rfl, rfl, rfl⟩
theorem c_Np_strike {l : Launch} {E : ET} {d : Nat} (hd : 7 ≤ d) {r : Int32} {h9 : PH} {x : Nat} {a0 : Nat} {i1 : Int32} {i2 : Int32} {h : PH} (hf : f_Np_strike a0 i1 i2 h = some (.inr r, h9)) : Fn l E m_Np_strike d 0 0 [.ref a0, .int i1, .int i2] h x (PoE (some (.int r)) h9 x) :=
  Fn.of (by decide +kernel) (Nat.le_of_ble_eq_true rfl) (g_Np_strike_0 hd a0 i1 i2 h hf)
theorem gx_Np_strike_0 {l : Launch} {E : ET} (hl : l.stackTraces = false) {d : Nat} (hd : 7 ≤ d) {j : Nat} {h9 : PH} {x : Nat}  (a0 : Nat) (i1 : Int32) (i2 : Int32) (h : PH) (hf : f_Np_strike a0 i1 i2 h = some (.inl j, h9)) : Go l E m_Np_strike (rm d 1 6) (KX l E 1 6 (PXk j h9)) 0 0 h x 0 [(0, .ref a0), (1, .int i1), (2, .int i2)] [] := by
  unfold f_Np_strike at hf
  refine go_iload_n 1 d_Np_strike_0 rfl ?_
  rcases bndT_l hf with e_x1 | ⟨x1, h2, e_x1, hf⟩
  · exact go_tcallS (As := [.int i1]) (st := []) (x_Np_checkCell hl (d := d - 1) (by omega) e_x1) lk_Np_87 rfl rfl (rm_ok1 (by omega)) (Nat.le_of_ble_eq_true rfl) d_Np_strike_1
  refine go_callS_N (As := [.int i1]) (st := []) (c_Np_checkCell (d := d - 1) (by omega) e_x1) lk_Np_87 rfl rfl (rm_ok1 (by omega)) (Nat.le_of_ble_eq_true rfl) rm_c1 d_Np_strike_1 ?_
  refine go_iload_n 2 d_Np_strike_4 rfl ?_
  rcases bndT_l hf with e_x3 | ⟨x3, h4, e_x3, hf⟩
  · exact go_tcallS (As := [.int i2]) (st := []) (x_Np_checkDigit hl (d := d - 1) (by omega) e_x3) lk_Np_91 rfl rfl (rm_ok1 (by omega)) (Nat.le_of_ble_eq_true rfl) d_Np_strike_5
  refine go_callS_N (As := [.int i2]) (st := []) (c_Np_checkDigit (d := d - 1) (by omega) e_x3) lk_Np_91 rfl rfl (rm_ok1 (by omega)) (Nat.le_of_ble_eq_true rfl) rm_c1 d_Np_strike_5 ?_
  refine go_aload_n 0 d_Np_strike_8 rfl ?_
  obtain ⟨_, e5, hf⟩ := bnd_x hf
  obtain ⟨h6, e_x6, hf⟩ := bnd_x hf
  refine go_callV_N (As := []) (st := []) (c_Np_save (d := d - 1) (by omega) e_x6) lk_Np_81 rfl rfl e5 (by decide) rfl (rm_ok1 (by omega)) (Nat.le_of_ble_eq_true rfl) rm_c1 d_Np_strike_9 ?_
  refine go_aload_n 0 d_Np_strike_12 rfl ?_
  obtain ⟨x7, e_x7, hf⟩ := bnd_x hf
  refine go_get d_Np_strike_13 (gR_x e_x7) fl_Np_10 ?_
  obtain ⟨x8, e_x8, hf⟩ := bnd_x hf
  refine go_get d_Np_strike_16 (gR_x e_x8) fl_Np_105 ?_
  obtain ⟨_, e9, hf⟩ := bnd_x hf
  obtain ⟨h10, e_x10, hf⟩ := bnd_x hf
  refine go_callV_N (As := []) (st := []) (c_Log_wipe (d := d - 1) (by omega) e_x10) lk_Np_109 rfl rfl e9 (by decide) rfl (rm_ok1 (by omega)) (Nat.le_of_ble_eq_true rfl) rm_c1 d_Np_strike_19 ?_
  refine go_aload_n 0 d_Np_strike_22 rfl ?_
  obtain ⟨x11, e_x11, hf⟩ := bnd_x hf
  refine go_get d_Np_strike_23 (gR_x e_x11) fl_Np_10 ?_
  obtain ⟨x12, e_x12, hf⟩ := bnd_x hf
  refine go_get d_Np_strike_26 (gR_x e_x12) fl_Np_68 ?_
  refine go_iload_n 2 d_Np_strike_29 rfl ?_
  refine go_lconst (1 : Int64) d_Np_strike_30 (by decide) ?_
  refine go_iload_n 1 d_Np_strike_31 rfl ?_
  refine go_lshl d_Np_strike_32 ?_
  obtain ⟨_, e13, hf⟩ := bnd_x hf
  obtain ⟨x14, h15, e_x14, hf⟩ := bnd2_x hf
  refine go_callV_I (As := [.int i2, .long ((1 : Int64) <<< ((i1).toInt64 &&& 63))]) (st := []) (c_Pos_remove (d := d - 1) (by omega) e_x14) lk_Np_112 rfl rfl e13 (by decide) rfl (rm_ok1 (by omega)) (Nat.le_of_ble_eq_true rfl) rm_c1 d_Np_strike_33 ?_
  refine go_if_le 43 d_Np_strike_36 (by decide) (fun q16 => ?_) (fun q16 => ?_)
  · rw [if_pos q16] at hf
    refine go_iconst (0 : Int32) d_Np_strike_43 (by decide) ?_
    cases (Prod.mk.inj (Option.some.inj hf)).1
  · rw [if_neg q16] at hf
    refine go_iconst (1 : Int32) d_Np_strike_39 (by decide) ?_
    refine go_goto 44 d_Np_strike_40 (by decide) ?_
    cases (Prod.mk.inj (Option.some.inj hf)).1
theorem x_Np_strike {l : Launch} {E : ET} (hl : l.stackTraces = false) {d : Nat} (hd : 7 ≤ d) {j : Nat} {h9 : PH} {x : Nat} {a0 : Nat} {i1 : Int32} {i2 : Int32} {h : PH} (hf : f_Np_strike a0 i1 i2 h = some (.inl j, h9)) : FnT l E m_Np_strike d [.ref a0, .int i1, .int i2] h x (PXk j h9) :=
  FnT.of hl (by decide +kernel) (Nat.le_of_ble_eq_true rfl) (gx_Np_strike_0 hl hd a0 i1 i2 h hf)
theorem d_Np_addConstraint_0 : decode prog_1_method_5_code 0 = .ok (.iload_n 2, 1) := by decide +kernel
theorem d_Np_addConstraint_1 : decode prog_1_method_5_code 1 = .ok (.invokestatic 87, 3) := by decide +kernel
theorem d_Np_addConstraint_4 : decode prog_1_method_5_code 4 = .ok (.iload_n 1, 1) := by decide +kernel
theorem d_Np_addConstraint_5 : decode prog_1_method_5_code 5 = .ok (.ifCond .lt 24, 3) := by decide +kernel
theorem d_Np_addConstraint_8 : decode prog_1_method_5_code 8 = .ok (.iload_n 1, 1) := by decide +kernel
theorem d_Np_addConstraint_9 : decode prog_1_method_5_code 9 = .ok (.iconst 2, 1) := by decide +kernel
theorem d_Np_addConstraint_10 : decode prog_1_method_5_code 10 = .ok (.if_icmp .gt 19, 3) := by decide +kernel
theorem d_Np_addConstraint_13 : decode prog_1_method_5_code 13 = .ok (.iload_n 3, 1) := by decide +kernel
theorem d_Np_addConstraint_14 : decode prog_1_method_5_code 14 = .ok (.iload_n 1, 1) := by decide +kernel
theorem d_Np_addConstraint_15 : decode prog_1_method_5_code 15 = .ok (.invokestatic 116, 3) := by decide +kernel
theorem d_Np_addConstraint_18 : decode prog_1_method_5_code 18 = .ok (.if_icmp .lt 11, 3) := by decide +kernel
theorem d_Np_addConstraint_21 : decode prog_1_method_5_code 21 = .ok (.iload_n 3, 1) := by decide +kernel
theorem d_Np_addConstraint_22 : decode prog_1_method_5_code 22 = .ok (.iload_n 1, 1) := by decide +kernel
theorem d_Np_addConstraint_23 : decode prog_1_method_5_code 23 = .ok (.invokestatic 119, 3) := by decide +kernel
theorem d_Np_addConstraint_26 : decode prog_1_method_5_code 26 = .ok (.if_icmp .le 13, 3) := by decide +kernel
theorem d_Np_addConstraint_29 : decode prog_1_method_5_code 29 = .ok (.new 122, 3) := by decide +kernel
theorem d_Np_addConstraint_32 : decode prog_1_method_5_code 32 = .ok (.dup, 1) := by decide +kernel
theorem d_Np_addConstraint_33 : decode prog_1_method_5_code 33 = .ok (.ldc 124, 2) := by decide +kernel
theorem d_Np_addConstraint_35 : decode prog_1_method_5_code 35 = .ok (.invokespecial 126, 3) := by decide +kernel
theorem d_Np_addConstraint_38 : decode prog_1_method_5_code 38 = .ok (.athrow, 1) := by decide +kernel
theorem d_Np_addConstraint_39 : decode prog_1_method_5_code 39 = .ok (.aload_n 0, 1) := by decide +kernel
theorem d_Np_addConstraint_40 : decode prog_1_method_5_code 40 = .ok (.getfield 10, 3) := by decide +kernel
theorem d_Np_addConstraint_43 : decode prog_1_method_5_code 43 = .ok (.getfield 129, 3) := by decide +kernel
theorem d_Np_addConstraint_46 : decode prog_1_method_5_code 46 = .ok (.getfield 133, 3) := by decide +kernel
theorem d_Np_addConstraint_49 : decode prog_1_method_5_code 49 = .ok (.bipush 8, 2) := by decide +kernel
theorem d_Np_addConstraint_51 : decode prog_1_method_5_code 51 = .ok (.if_icmp .lt 13, 3) := by decide +kernel
theorem d_Np_addConstraint_54 : decode prog_1_method_5_code 54 = .ok (.new 139, 3) := by decide +kernel
theorem d_Np_addConstraint_57 : decode prog_1_method_5_code 57 = .ok (.dup, 1) := by decide +kernel
theorem d_Np_addConstraint_58 : decode prog_1_method_5_code 58 = .ok (.ldc 141, 2) := by decide +kernel
theorem d_Np_addConstraint_60 : decode prog_1_method_5_code 60 = .ok (.invokespecial 143, 3) := by decide +kernel
theorem d_Np_addConstraint_63 : decode prog_1_method_5_code 63 = .ok (.athrow, 1) := by decide +kernel
theorem d_Np_addConstraint_64 : decode prog_1_method_5_code 64 = .ok (.aload_n 0, 1) := by decide +kernel
theorem d_Np_addConstraint_65 : decode prog_1_method_5_code 65 = .ok (.invokevirtual 81, 3) := by decide +kernel
theorem d_Np_addConstraint_68 : decode prog_1_method_5_code 68 = .ok (.aload_n 0, 1) := by decide +kernel
theorem d_Np_addConstraint_69 : decode prog_1_method_5_code 69 = .ok (.getfield 10, 3) := by decide +kernel
theorem d_Np_addConstraint_72 : decode prog_1_method_5_code 72 = .ok (.getfield 105, 3) := by decide +kernel
theorem d_Np_addConstraint_75 : decode prog_1_method_5_code 75 = .ok (.invokevirtual 109, 3) := by decide +kernel
theorem d_Np_addConstraint_78 : decode prog_1_method_5_code 78 = .ok (.aload_n 0, 1) := by decide +kernel
theorem d_Np_addConstraint_79 : decode prog_1_method_5_code 79 = .ok (.getfield 10, 3) := by decide +kernel
theorem d_Np_addConstraint_82 : decode prog_1_method_5_code 82 = .ok (.getfield 129, 3) := by decide +kernel
theorem d_Np_addConstraint_85 : decode prog_1_method_5_code 85 = .ok (.iload_n 1, 1) := by decide +kernel
theorem d_Np_addConstraint_86 : decode prog_1_method_5_code 86 = .ok (.iload_n 3, 1) := by decide +kernel
theorem d_Np_addConstraint_87 : decode prog_1_method_5_code 87 = .ok (.invokevirtual 144, 3) := by decide +kernel
theorem d_Np_addConstraint_90 : decode prog_1_method_5_code 90 = .ok (.istore 4, 2) := by decide +kernel
theorem d_Np_addConstraint_92 : decode prog_1_method_5_code 92 = .ok (.aload_n 0, 1) := by decide +kernel
theorem d_Np_addConstraint_93 : decode prog_1_method_5_code 93 = .ok (.getfield 10, 3) := by decide +kernel
theorem d_Np_addConstraint_96 : decode prog_1_method_5_code 96 = .ok (.getfield 129, 3) := by decide +kernel
theorem d_Np_addConstraint_99 : decode prog_1_method_5_code 99 = .ok (.iload 4, 2) := by decide +kernel
theorem d_Np_addConstraint_101 : decode prog_1_method_5_code 101 = .ok (.iload_n 2, 1) := by decide +kernel
theorem d_Np_addConstraint_102 : decode prog_1_method_5_code 102 = .ok (.invokevirtual 147, 3) := by decide +kernel
theorem d_Np_addConstraint_105 : decode prog_1_method_5_code 105 = .ok (.iload 4, 2) := by decide +kernel
theorem d_Np_addConstraint_107 : decode prog_1_method_5_code 107 = .ok (.ireturn, 1) := by decide +kernel
def b_Np_addConstraint_29 (F : Nat) (h : PH) : Option ((Nat ⊕ Int32) × PH) :=
  some (.inl 1, h)
theorem g_Np_addConstraint_29 {l : Launch} {E : ET} {d : Nat} (hd : 7 ≤ d) {F : Nat} {r : Int32} {h9 : PH} {x : Nat}   (h : PH) (hf : b_Np_addConstraint_29 F h = some (.inr r, h9)) : Go l E m_Np_addConstraint (rm d 0 0) (KM E 0 0 (PoE (some (.int r)) h9 x)) 0 0 h x 29 [] [] := by
  unfold b_Np_addConstraint_29 at hf
  cases (Prod.mk.inj (Option.some.inj hf)).1
def f_Np_addConstraint (F : Nat) (a0 : Nat) (i1 : Int32) (i2 : Int32) (i3 : Int32) (h : PH) : Option ((Nat ⊕ Int32) × PH) :=
  bndT (f_Np_checkCell i2 h) fun x1 h2 => (if i1 < (0 : Int32) then b_Np_addConstraint_29 F h2 else (if (2 : Int32) < i1 then b_Np_addConstraint_29 F h2 else bnd (f_Np_leastSum i1) fun x3 => (if i3 < x3 then b_Np_addConstraint_29 F h2 else bnd (f_Np_greatestSum i1) fun x4 => (if i3 ≤ x4 then bnd (gR h2 a0 9 0) fun x5 => bnd (gR h2 x5 8 1) fun x6 => bnd (gI h2 x6 4 6) fun x7 => (if x7 < (8 : Int32) then bnd (cK h2 a0 9) fun _ => bnd (f_Np_save a0 h2) fun h9 => bnd (gR h9 a0 9 0) fun x10 => bnd (gR h9 x10 8 3) fun x11 => bnd (cK h9 x11 0) fun _ => bnd (f_Log_wipe x11 h9) fun h13 => bnd (gR h13 a0 9 0) fun x14 => bnd (gR h13 x14 8 1) fun x15 => bnd (cK h13 x15 4) fun _ => bnd2 (f_Rul_add x15 i1 i3 h13) fun x17 h18 => bnd (gR h18 a0 9 0) fun x19 => bnd (gR h18 x19 8 1) fun x20 => bnd (cK h18 x20 4) fun _ => bnd (f_Rul_attach F x20 x17 i2 h18) fun h22 => some (.inr x17, h22) else some (.inl 2, h2)) else b_Np_addConstraint_29 F h2))))
theorem g_Np_addConstraint_0 {l : Launch} {E : ET} {d : Nat} (hd : 7 ≤ d) {F : Nat} {r : Int32} {h9 : PH} {x : Nat}  (a0 : Nat) (i1 : Int32) (i2 : Int32) (i3 : Int32) (h : PH) (hf : f_Np_addConstraint F a0 i1 i2 i3 h = some (.inr r, h9)) : Go l E m_Np_addConstraint (rm d 0 0) (KM E 0 0 (PoE (some (.int r)) h9 x)) 0 0 h x 0 [(0, .ref a0), (1, .int i1), (2, .int i2), (3, .int i3)] [] := by
  unfold f_Np_addConstraint at hf
  refine go_iload_n 2 d_Np_addConstraint_0 rfl ?_
  obtain ⟨x1, h2, e_x1, hf⟩ := bndT_r hf
  refine go_callS_N (As := [.int i2]) (st := []) (c_Np_checkCell (d := d - 1) (by omega) e_x1) lk_Np_87 rfl rfl (rm_ok (by omega)) (Nat.le_of_ble_eq_true rfl) rm_c d_Np_addConstraint_1 ?_
  refine go_iload_n 1 d_Np_addConstraint_4 rfl ?_
  refine go_if_lt 29 d_Np_addConstraint_5 (by decide) (fun q27 => ?_) (fun q27 => ?_)
  · rw [if_pos q27] at hf
    refine go_sub (lv' := []) [] rfl ?_
    exact g_Np_addConstraint_29 hd   h2 hf
  · rw [if_neg q27] at hf
    refine go_iload_n 1 d_Np_addConstraint_8 rfl ?_
    refine go_iconst (2 : Int32) d_Np_addConstraint_9 (by decide) ?_
    refine go_icmp_gt 29 d_Np_addConstraint_10 (by decide) (fun q26 => ?_) (fun q26 => ?_)
    · rw [if_pos q26] at hf
      refine go_sub (lv' := []) [] rfl ?_
      exact g_Np_addConstraint_29 hd   h2 hf
    · rw [if_neg q26] at hf
      refine go_iload_n 3 d_Np_addConstraint_13 rfl ?_
      refine go_iload_n 1 d_Np_addConstraint_14 rfl ?_
      obtain ⟨x3, e_x3, hf⟩ := bnd_x hf
      refine go_callS_I (As := [.int i1]) (st := [.int i3]) (c_Np_leastSum (d := d - 1) (by omega) e_x3) lk_Np_116 rfl rfl (rm_ok (by omega)) (Nat.le_of_ble_eq_true rfl) rm_c d_Np_addConstraint_15 ?_
      refine go_icmp_lt 29 d_Np_addConstraint_18 (by decide) (fun q25 => ?_) (fun q25 => ?_)
      · rw [if_pos q25] at hf
        refine go_sub (lv' := []) [] rfl ?_
        exact g_Np_addConstraint_29 hd   h2 hf
      · rw [if_neg q25] at hf
        refine go_iload_n 3 d_Np_addConstraint_21 rfl ?_
        refine go_iload_n 1 d_Np_addConstraint_22 rfl ?_
        obtain ⟨x4, e_x4, hf⟩ := bnd_x hf
        refine go_callS_I (As := [.int i1]) (st := [.int i3]) (c_Np_greatestSum (d := d - 1) (by omega) e_x4) lk_Np_119 rfl rfl (rm_ok (by omega)) (Nat.le_of_ble_eq_true rfl) rm_c d_Np_addConstraint_23 ?_
        refine go_icmp_le 39 d_Np_addConstraint_26 (by decide) (fun q24 => ?_) (fun q24 => ?_)
        · rw [if_pos q24] at hf
          refine go_aload_n 0 d_Np_addConstraint_39 rfl ?_
          obtain ⟨x5, e_x5, hf⟩ := bnd_x hf
          refine go_get d_Np_addConstraint_40 (gR_x e_x5) fl_Np_10 ?_
          obtain ⟨x6, e_x6, hf⟩ := bnd_x hf
          refine go_get d_Np_addConstraint_43 (gR_x e_x6) fl_Np_129 ?_
          obtain ⟨x7, e_x7, hf⟩ := bnd_x hf
          refine go_get d_Np_addConstraint_46 (gI_x e_x7) fl_Np_133 ?_
          refine go_bipush (8 : Int32) d_Np_addConstraint_49 (by decide) ?_
          refine go_icmp_lt 64 d_Np_addConstraint_51 (by decide) (fun q23 => ?_) (fun q23 => ?_)
          · rw [if_pos q23] at hf
            refine go_aload_n 0 d_Np_addConstraint_64 rfl ?_
            obtain ⟨_, e8, hf⟩ := bnd_x hf
            obtain ⟨h9, e_x9, hf⟩ := bnd_x hf
            refine go_callV_N (As := []) (st := []) (c_Np_save (d := d - 1) (by omega) e_x9) lk_Np_81 rfl rfl e8 (by decide) rfl (rm_ok (by omega)) (Nat.le_of_ble_eq_true rfl) rm_c d_Np_addConstraint_65 ?_
            refine go_aload_n 0 d_Np_addConstraint_68 rfl ?_
            obtain ⟨x10, e_x10, hf⟩ := bnd_x hf
            refine go_get d_Np_addConstraint_69 (gR_x e_x10) fl_Np_10 ?_
            obtain ⟨x11, e_x11, hf⟩ := bnd_x hf
            refine go_get d_Np_addConstraint_72 (gR_x e_x11) fl_Np_105 ?_
            obtain ⟨_, e12, hf⟩ := bnd_x hf
            obtain ⟨h13, e_x13, hf⟩ := bnd_x hf
            refine go_callV_N (As := []) (st := []) (c_Log_wipe (d := d - 1) (by omega) e_x13) lk_Np_109 rfl rfl e12 (by decide) rfl (rm_ok (by omega)) (Nat.le_of_ble_eq_true rfl) rm_c d_Np_addConstraint_75 ?_
            refine go_aload_n 0 d_Np_addConstraint_78 rfl ?_
            obtain ⟨x14, e_x14, hf⟩ := bnd_x hf
            refine go_get d_Np_addConstraint_79 (gR_x e_x14) fl_Np_10 ?_
            obtain ⟨x15, e_x15, hf⟩ := bnd_x hf
            refine go_get d_Np_addConstraint_82 (gR_x e_x15) fl_Np_129 ?_
            refine go_iload_n 1 d_Np_addConstraint_85 rfl ?_
            refine go_iload_n 3 d_Np_addConstraint_86 rfl ?_
            obtain ⟨_, e16, hf⟩ := bnd_x hf
            obtain ⟨x17, h18, e_x17, hf⟩ := bnd2_x hf
            refine go_callV_I (As := [.int i1, .int i3]) (st := []) (c_Rul_add (d := d - 1) (by omega) e_x17) lk_Np_144 rfl rfl e16 (by decide) rfl (rm_ok (by omega)) (Nat.le_of_ble_eq_true rfl) rm_c d_Np_addConstraint_87 ?_
            refine go_istore (lv' := [(4, .int x17), (0, .ref a0), (1, .int i1), (2, .int i2), (3, .int i3)]) d_Np_addConstraint_90 rfl (by decide) ?_
            refine go_aload_n 1 d_Np_addConstraint_92 rfl ?_
            obtain ⟨x19, e_x19, hf⟩ := bnd_x hf
            refine go_get d_Np_addConstraint_93 (gR_x e_x19) fl_Np_10 ?_
            obtain ⟨x20, e_x20, hf⟩ := bnd_x hf
            refine go_get d_Np_addConstraint_96 (gR_x e_x20) fl_Np_129 ?_
            refine go_iload 0 d_Np_addConstraint_99 rfl ?_
            refine go_iload_n 3 d_Np_addConstraint_101 rfl ?_
            obtain ⟨_, e21, hf⟩ := bnd_x hf
            obtain ⟨h22, e_x22, hf⟩ := bnd_x hf
            refine go_callV_N (As := [.int x17, .int i2]) (st := []) (c_Rul_attach (d := d - 1) (by omega) e_x22) lk_Np_147 rfl rfl e21 (by decide) rfl (rm_ok (by omega)) (Nat.le_of_ble_eq_true rfl) rm_c d_Np_addConstraint_102 ?_
            refine go_iload 0 d_Np_addConstraint_105 rfl ?_
            obtain ⟨e8, e9⟩ := Prod.mk.inj (Option.some.inj hf)
            have e7 := Sum.inr.inj e8; subst e7; subst e9
            exact go_iret d_Np_addConstraint_107 rfl ⟨rfl, rfl, rfl⟩
          · rw [if_neg q23] at hf
            cases (Prod.mk.inj (Option.some.inj hf)).1
        · rw [if_neg q24] at hf
          refine go_sub (lv' := []) [] rfl ?_
          exact g_Np_addConstraint_29 hd   h2 hf
theorem c_Np_addConstraint {l : Launch} {E : ET} {d : Nat} (hd : 7 ≤ d) {F : Nat} {r : Int32} {h9 : PH} {x : Nat} {a0 : Nat} {i1 : Int32} {i2 : Int32} {i3 : Int32} {h : PH} (hf : f_Np_addConstraint F a0 i1 i2 i3 h = some (.inr r, h9)) : Fn l E m_Np_addConstraint d 0 0 [.ref a0, .int i1, .int i2, .int i3] h x (PoE (some (.int r)) h9 x) :=
  Fn.of (by decide +kernel) (Nat.le_of_ble_eq_true rfl) (g_Np_addConstraint_0 hd a0 i1 i2 i3 h hf)
theorem gx_Np_addConstraint_29 {l : Launch} {E : ET} (hl : l.stackTraces = false) {d : Nat} (hd : 7 ≤ d) {F : Nat} {j : Nat} {h9 : PH} {x : Nat}   (h : PH) (hf : b_Np_addConstraint_29 F h = some (.inl j, h9)) : Go l E m_Np_addConstraint (rm d 1 6) (KX l E 1 6 (PXk j h9)) 0 0 h x 29 [] [] := by
  unfold b_Np_addConstraint_29 at hf
  obtain ⟨e8, e9⟩ := Prod.mk.inj (Option.some.inj hf)
  cases e8; subst e9
  exact go_throwS tw_122_126 (List.mem_of_getElem? (i := 3) rfl) d_Np_addConstraint_29 d_Np_addConstraint_32 d_Np_addConstraint_33 d_Np_addConstraint_35 d_Np_addConstraint_38 ⟨rfl, rfl⟩ (by omega) (Nat.le_of_ble_eq_true rfl)
theorem gx_Np_addConstraint_0 {l : Launch} {E : ET} (hl : l.stackTraces = false) {d : Nat} (hd : 7 ≤ d) {F : Nat} {j : Nat} {h9 : PH} {x : Nat}  (a0 : Nat) (i1 : Int32) (i2 : Int32) (i3 : Int32) (h : PH) (hf : f_Np_addConstraint F a0 i1 i2 i3 h = some (.inl j, h9)) : Go l E m_Np_addConstraint (rm d 1 6) (KX l E 1 6 (PXk j h9)) 0 0 h x 0 [(0, .ref a0), (1, .int i1), (2, .int i2), (3, .int i3)] [] := by
  unfold f_Np_addConstraint at hf
  refine go_iload_n 2 d_Np_addConstraint_0 rfl ?_
  rcases bndT_l hf with e_x1 | ⟨x1, h2, e_x1, hf⟩
  · exact go_tcallS (As := [.int i2]) (st := []) (x_Np_checkCell hl (d := d - 1) (by omega) e_x1) lk_Np_87 rfl rfl (rm_ok1 (by omega)) (Nat.le_of_ble_eq_true rfl) d_Np_addConstraint_1
  refine go_callS_N (As := [.int i2]) (st := []) (c_Np_checkCell (d := d - 1) (by omega) e_x1) lk_Np_87 rfl rfl (rm_ok1 (by omega)) (Nat.le_of_ble_eq_true rfl) rm_c1 d_Np_addConstraint_1 ?_
  refine go_iload_n 1 d_Np_addConstraint_4 rfl ?_
  refine go_if_lt 29 d_Np_addConstraint_5 (by decide) (fun q27 => ?_) (fun q27 => ?_)
  · rw [if_pos q27] at hf
    refine go_sub (lv' := []) [] rfl ?_
    exact gx_Np_addConstraint_29 hl hd   h2 hf
  · rw [if_neg q27] at hf
    refine go_iload_n 1 d_Np_addConstraint_8 rfl ?_
    refine go_iconst (2 : Int32) d_Np_addConstraint_9 (by decide) ?_
    refine go_icmp_gt 29 d_Np_addConstraint_10 (by decide) (fun q26 => ?_) (fun q26 => ?_)
    · rw [if_pos q26] at hf
      refine go_sub (lv' := []) [] rfl ?_
      exact gx_Np_addConstraint_29 hl hd   h2 hf
    · rw [if_neg q26] at hf
      refine go_iload_n 3 d_Np_addConstraint_13 rfl ?_
      refine go_iload_n 1 d_Np_addConstraint_14 rfl ?_
      obtain ⟨x3, e_x3, hf⟩ := bnd_x hf
      refine go_callS_I (As := [.int i1]) (st := [.int i3]) (c_Np_leastSum (d := d - 1) (by omega) e_x3) lk_Np_116 rfl rfl (rm_ok1 (by omega)) (Nat.le_of_ble_eq_true rfl) rm_c1 d_Np_addConstraint_15 ?_
      refine go_icmp_lt 29 d_Np_addConstraint_18 (by decide) (fun q25 => ?_) (fun q25 => ?_)
      · rw [if_pos q25] at hf
        refine go_sub (lv' := []) [] rfl ?_
        exact gx_Np_addConstraint_29 hl hd   h2 hf
      · rw [if_neg q25] at hf
        refine go_iload_n 3 d_Np_addConstraint_21 rfl ?_
        refine go_iload_n 1 d_Np_addConstraint_22 rfl ?_
        obtain ⟨x4, e_x4, hf⟩ := bnd_x hf
        refine go_callS_I (As := [.int i1]) (st := [.int i3]) (c_Np_greatestSum (d := d - 1) (by omega) e_x4) lk_Np_119 rfl rfl (rm_ok1 (by omega)) (Nat.le_of_ble_eq_true rfl) rm_c1 d_Np_addConstraint_23 ?_
        refine go_icmp_le 39 d_Np_addConstraint_26 (by decide) (fun q24 => ?_) (fun q24 => ?_)
        · rw [if_pos q24] at hf
          refine go_aload_n 0 d_Np_addConstraint_39 rfl ?_
          obtain ⟨x5, e_x5, hf⟩ := bnd_x hf
          refine go_get d_Np_addConstraint_40 (gR_x e_x5) fl_Np_10 ?_
          obtain ⟨x6, e_x6, hf⟩ := bnd_x hf
          refine go_get d_Np_addConstraint_43 (gR_x e_x6) fl_Np_129 ?_
          obtain ⟨x7, e_x7, hf⟩ := bnd_x hf
          refine go_get d_Np_addConstraint_46 (gI_x e_x7) fl_Np_133 ?_
          refine go_bipush (8 : Int32) d_Np_addConstraint_49 (by decide) ?_
          refine go_icmp_lt 64 d_Np_addConstraint_51 (by decide) (fun q23 => ?_) (fun q23 => ?_)
          · rw [if_pos q23] at hf
            refine go_aload_n 0 d_Np_addConstraint_64 rfl ?_
            obtain ⟨_, e8, hf⟩ := bnd_x hf
            obtain ⟨h9, e_x9, hf⟩ := bnd_x hf
            refine go_callV_N (As := []) (st := []) (c_Np_save (d := d - 1) (by omega) e_x9) lk_Np_81 rfl rfl e8 (by decide) rfl (rm_ok1 (by omega)) (Nat.le_of_ble_eq_true rfl) rm_c1 d_Np_addConstraint_65 ?_
            refine go_aload_n 0 d_Np_addConstraint_68 rfl ?_
            obtain ⟨x10, e_x10, hf⟩ := bnd_x hf
            refine go_get d_Np_addConstraint_69 (gR_x e_x10) fl_Np_10 ?_
            obtain ⟨x11, e_x11, hf⟩ := bnd_x hf
            refine go_get d_Np_addConstraint_72 (gR_x e_x11) fl_Np_105 ?_
            obtain ⟨_, e12, hf⟩ := bnd_x hf
            obtain ⟨h13, e_x13, hf⟩ := bnd_x hf
            refine go_callV_N (As := []) (st := []) (c_Log_wipe (d := d - 1) (by omega) e_x13) lk_Np_109 rfl rfl e12 (by decide) rfl (rm_ok1 (by omega)) (Nat.le_of_ble_eq_true rfl) rm_c1 d_Np_addConstraint_75 ?_
            refine go_aload_n 0 d_Np_addConstraint_78 rfl ?_
            obtain ⟨x14, e_x14, hf⟩ := bnd_x hf
            refine go_get d_Np_addConstraint_79 (gR_x e_x14) fl_Np_10 ?_
            obtain ⟨x15, e_x15, hf⟩ := bnd_x hf
            refine go_get d_Np_addConstraint_82 (gR_x e_x15) fl_Np_129 ?_
            refine go_iload_n 1 d_Np_addConstraint_85 rfl ?_
            refine go_iload_n 3 d_Np_addConstraint_86 rfl ?_
            obtain ⟨_, e16, hf⟩ := bnd_x hf
            obtain ⟨x17, h18, e_x17, hf⟩ := bnd2_x hf
            refine go_callV_I (As := [.int i1, .int i3]) (st := []) (c_Rul_add (d := d - 1) (by omega) e_x17) lk_Np_144 rfl rfl e16 (by decide) rfl (rm_ok1 (by omega)) (Nat.le_of_ble_eq_true rfl) rm_c1 d_Np_addConstraint_87 ?_
            refine go_istore (lv' := [(4, .int x17), (0, .ref a0), (1, .int i1), (2, .int i2), (3, .int i3)]) d_Np_addConstraint_90 rfl (by decide) ?_
            refine go_aload_n 1 d_Np_addConstraint_92 rfl ?_
            obtain ⟨x19, e_x19, hf⟩ := bnd_x hf
            refine go_get d_Np_addConstraint_93 (gR_x e_x19) fl_Np_10 ?_
            obtain ⟨x20, e_x20, hf⟩ := bnd_x hf
            refine go_get d_Np_addConstraint_96 (gR_x e_x20) fl_Np_129 ?_
            refine go_iload 0 d_Np_addConstraint_99 rfl ?_
            refine go_iload_n 3 d_Np_addConstraint_101 rfl ?_
            obtain ⟨_, e21, hf⟩ := bnd_x hf
            obtain ⟨h22, e_x22, hf⟩ := bnd_x hf
            refine go_callV_N (As := [.int x17, .int i2]) (st := []) (c_Rul_attach (d := d - 1) (by omega) e_x22) lk_Np_147 rfl rfl e21 (by decide) rfl (rm_ok1 (by omega)) (Nat.le_of_ble_eq_true rfl) rm_c1 d_Np_addConstraint_102 ?_
            refine go_iload 0 d_Np_addConstraint_105 rfl ?_
            cases (Prod.mk.inj (Option.some.inj hf)).1
          · rw [if_neg q23] at hf
            obtain ⟨e8, e9⟩ := Prod.mk.inj (Option.some.inj hf)
            cases e8; subst e9
            exact go_throwS tw_139_143 (List.mem_of_getElem? (i := 4) rfl) d_Np_addConstraint_54 d_Np_addConstraint_57 d_Np_addConstraint_58 d_Np_addConstraint_60 d_Np_addConstraint_63 ⟨rfl, rfl⟩ (by omega) (Nat.le_of_ble_eq_true rfl)
        · rw [if_neg q24] at hf
          refine go_sub (lv' := []) [] rfl ?_
          exact gx_Np_addConstraint_29 hl hd   h2 hf
theorem x_Np_addConstraint {l : Launch} {E : ET} (hl : l.stackTraces = false) {d : Nat} (hd : 7 ≤ d) {F : Nat} {j : Nat} {h9 : PH} {x : Nat} {a0 : Nat} {i1 : Int32} {i2 : Int32} {i3 : Int32} {h : PH} (hf : f_Np_addConstraint F a0 i1 i2 i3 h = some (.inl j, h9)) : FnT l E m_Np_addConstraint d [.ref a0, .int i1, .int i2, .int i3] h x (PXk j h9) :=
  FnT.of hl (by decide +kernel) (Nat.le_of_ble_eq_true rfl) (gx_Np_addConstraint_0 hl hd a0 i1 i2 i3 h hf)
theorem d_Np_checkConstraint_0 : decode prog_1_method_33_code 0 = .ok (.iload_n 1, 1) := by decide +kernel
theorem d_Np_checkConstraint_1 : decode prog_1_method_33_code 1 = .ok (.ifCond .lt 17, 3) := by decide +kernel
theorem d_Np_checkConstraint_4 : decode prog_1_method_33_code 4 = .ok (.iload_n 1, 1) := by decide +kernel
theorem d_Np_checkConstraint_5 : decode prog_1_method_33_code 5 = .ok (.aload_n 0, 1) := by decide +kernel
theorem d_Np_checkConstraint_6 : decode prog_1_method_33_code 6 = .ok (.getfield 10, 3) := by decide +kernel
theorem d_Np_checkConstraint_9 : decode prog_1_method_33_code 9 = .ok (.getfield 129, 3) := by decide +kernel
theorem d_Np_checkConstraint_12 : decode prog_1_method_33_code 12 = .ok (.getfield 133, 3) := by decide +kernel
theorem d_Np_checkConstraint_15 : decode prog_1_method_33_code 15 = .ok (.if_icmp .lt 14, 3) := by decide +kernel
theorem d_Np_checkConstraint_18 : decode prog_1_method_33_code 18 = .ok (.new 208, 3) := by decide +kernel
theorem d_Np_checkConstraint_21 : decode prog_1_method_33_code 21 = .ok (.dup, 1) := by decide +kernel
theorem d_Np_checkConstraint_22 : decode prog_1_method_33_code 22 = .ok (.ldc_w 327, 3) := by decide +kernel
theorem d_Np_checkConstraint_25 : decode prog_1_method_33_code 25 = .ok (.invokespecial 212, 3) := by decide +kernel
theorem d_Np_checkConstraint_28 : decode prog_1_method_33_code 28 = .ok (.athrow, 1) := by decide +kernel
theorem d_Np_checkConstraint_29 : decode prog_1_method_33_code 29 = .ok (.return_, 1) := by decide +kernel
def b_Np_checkConstraint_18 (h : PH) : Option ((Nat ⊕ Unit) × PH) :=
  some (.inl 0, h)
theorem g_Np_checkConstraint_18 {l : Launch} {E : ET} {d : Nat} (hd : 6 ≤ d) {h9 : PH} {x : Nat}   (h : PH) (hf : b_Np_checkConstraint_18 h = some (.inr (), h9)) : Go l E m_Np_checkConstraint (rm d 0 0) (KM E 0 0 (PoE none h9 x)) 0 0 h x 18 [] [] := by
  unfold b_Np_checkConstraint_18 at hf
  cases (Prod.mk.inj (Option.some.inj hf)).1
def f_Np_checkConstraint (a0 : Nat) (i1 : Int32) (h : PH) : Option ((Nat ⊕ Unit) × PH) :=
  (if i1 < (0 : Int32) then b_Np_checkConstraint_18 h else bnd (gR h a0 9 0) fun x1 => bnd (gR h x1 8 1) fun x2 => bnd (gI h x2 4 6) fun x3 => (if i1 < x3 then some (.inr (), h) else b_Np_checkConstraint_18 h))
theorem g_Np_checkConstraint_0 {l : Launch} {E : ET} {d : Nat} (hd : 6 ≤ d) {h9 : PH} {x : Nat}  (a0 : Nat) (i1 : Int32) (h : PH) (hf : f_Np_checkConstraint a0 i1 h = some (.inr (), h9)) : Go l E m_Np_checkConstraint (rm d 0 0) (KM E 0 0 (PoE none h9 x)) 0 0 h x 0 [(0, .ref a0), (1, .int i1)] [] := by
  unfold f_Np_checkConstraint at hf
  refine go_iload_n 1 d_Np_checkConstraint_0 rfl ?_
  refine go_if_lt 18 d_Np_checkConstraint_1 (by decide) (fun q5 => ?_) (fun q5 => ?_)
  · rw [if_pos q5] at hf
    refine go_sub (lv' := []) [] rfl ?_
    exact g_Np_checkConstraint_18 hd   h hf
  · rw [if_neg q5] at hf
    refine go_iload_n 1 d_Np_checkConstraint_4 rfl ?_
    refine go_aload_n 0 d_Np_checkConstraint_5 rfl ?_
    obtain ⟨x1, e_x1, hf⟩ := bnd_x hf
    refine go_get d_Np_checkConstraint_6 (gR_x e_x1) fl_Np_10 ?_
    obtain ⟨x2, e_x2, hf⟩ := bnd_x hf
    refine go_get d_Np_checkConstraint_9 (gR_x e_x2) fl_Np_129 ?_
    obtain ⟨x3, e_x3, hf⟩ := bnd_x hf
    refine go_get d_Np_checkConstraint_12 (gI_x e_x3) fl_Np_133 ?_
    refine go_icmp_lt 29 d_Np_checkConstraint_15 (by decide) (fun q4 => ?_) (fun q4 => ?_)
    · rw [if_pos q4] at hf
      obtain ⟨e8, e9⟩ := Prod.mk.inj (Option.some.inj hf)
      subst e9
      exact go_vret d_Np_checkConstraint_29 rfl ⟨rfl, rfl, rfl⟩
    · rw [if_neg q4] at hf
      refine go_sub (lv' := []) [] rfl ?_
      exact g_Np_checkConstraint_18 hd   h hf
theorem c_Np_checkConstraint {l : Launch} {E : ET} {d : Nat} (hd : 6 ≤ d) {h9 : PH} {x : Nat} {a0 : Nat} {i1 : Int32} {h : PH} (hf : f_Np_checkConstraint a0 i1 h = some (.inr (), h9)) : Fn l E m_Np_checkConstraint d 0 0 [.ref a0, .int i1] h x (PoE none h9 x) :=
  Fn.of (by decide +kernel) (Nat.le_of_ble_eq_true rfl) (g_Np_checkConstraint_0 hd a0 i1 h hf)
theorem gx_Np_checkConstraint_18 {l : Launch} {E : ET} (hl : l.stackTraces = false) {d : Nat} (hd : 6 ≤ d) {j : Nat} {h9 : PH} {x : Nat}   (h : PH) (hf : b_Np_checkConstraint_18 h = some (.inl j, h9)) : Go l E m_Np_checkConstraint (rm d 1 6) (KX l E 1 6 (PXk j h9)) 0 0 h x 18 [] [] := by
  unfold b_Np_checkConstraint_18 at hf
  obtain ⟨e8, e9⟩ := Prod.mk.inj (Option.some.inj hf)
  cases e8; subst e9
  exact go_throwSW tw_208_212 (List.mem_of_getElem? (i := 5) rfl) d_Np_checkConstraint_18 d_Np_checkConstraint_21 d_Np_checkConstraint_22 d_Np_checkConstraint_25 d_Np_checkConstraint_28 ⟨rfl, rfl⟩ (by omega) (Nat.le_of_ble_eq_true rfl)
theorem gx_Np_checkConstraint_0 {l : Launch} {E : ET} (hl : l.stackTraces = false) {d : Nat} (hd : 6 ≤ d) {j : Nat} {h9 : PH} {x : Nat}  (a0 : Nat) (i1 : Int32) (h : PH) (hf : f_Np_checkConstraint a0 i1 h = some (.inl j, h9)) : Go l E m_Np_checkConstraint (rm d 1 6) (KX l E 1 6 (PXk j h9)) 0 0 h x 0 [(0, .ref a0), (1, .int i1)] [] := by
  unfold f_Np_checkConstraint at hf
  refine go_iload_n 1 d_Np_checkConstraint_0 rfl ?_
  refine go_if_lt 18 d_Np_checkConstraint_1 (by decide) (fun q5 => ?_) (fun q5 => ?_)
  · rw [if_pos q5] at hf
    refine go_sub (lv' := []) [] rfl ?_
    exact gx_Np_checkConstraint_18 hl hd   h hf
  · rw [if_neg q5] at hf
    refine go_iload_n 1 d_Np_checkConstraint_4 rfl ?_
    refine go_aload_n 0 d_Np_checkConstraint_5 rfl ?_
    obtain ⟨x1, e_x1, hf⟩ := bnd_x hf
    refine go_get d_Np_checkConstraint_6 (gR_x e_x1) fl_Np_10 ?_
    obtain ⟨x2, e_x2, hf⟩ := bnd_x hf
    refine go_get d_Np_checkConstraint_9 (gR_x e_x2) fl_Np_129 ?_
    obtain ⟨x3, e_x3, hf⟩ := bnd_x hf
    refine go_get d_Np_checkConstraint_12 (gI_x e_x3) fl_Np_133 ?_
    refine go_icmp_lt 29 d_Np_checkConstraint_15 (by decide) (fun q4 => ?_) (fun q4 => ?_)
    · rw [if_pos q4] at hf
      cases (Prod.mk.inj (Option.some.inj hf)).1
    · rw [if_neg q4] at hf
      refine go_sub (lv' := []) [] rfl ?_
      exact gx_Np_checkConstraint_18 hl hd   h hf
theorem x_Np_checkConstraint {l : Launch} {E : ET} (hl : l.stackTraces = false) {d : Nat} (hd : 6 ≤ d) {j : Nat} {h9 : PH} {x : Nat} {a0 : Nat} {i1 : Int32} {h : PH} (hf : f_Np_checkConstraint a0 i1 h = some (.inl j, h9)) : FnT l E m_Np_checkConstraint d [.ref a0, .int i1] h x (PXk j h9) :=
  FnT.of hl (by decide +kernel) (Nat.le_of_ble_eq_true rfl) (gx_Np_checkConstraint_0 hl hd a0 i1 h hf)
theorem d_Np_extend_0 : decode prog_1_method_6_code 0 = .ok (.aload_n 0, 1) := by decide +kernel
theorem d_Np_extend_1 : decode prog_1_method_6_code 1 = .ok (.iload_n 1, 1) := by decide +kernel
theorem d_Np_extend_2 : decode prog_1_method_6_code 2 = .ok (.invokevirtual 151, 3) := by decide +kernel
theorem d_Np_extend_5 : decode prog_1_method_6_code 5 = .ok (.iload_n 2, 1) := by decide +kernel
theorem d_Np_extend_6 : decode prog_1_method_6_code 6 = .ok (.invokestatic 87, 3) := by decide +kernel
theorem d_Np_extend_9 : decode prog_1_method_6_code 9 = .ok (.aload_n 0, 1) := by decide +kernel
theorem d_Np_extend_10 : decode prog_1_method_6_code 10 = .ok (.getfield 10, 3) := by decide +kernel
theorem d_Np_extend_13 : decode prog_1_method_6_code 13 = .ok (.getfield 129, 3) := by decide +kernel
theorem d_Np_extend_16 : decode prog_1_method_6_code 16 = .ok (.iload_n 1, 1) := by decide +kernel
theorem d_Np_extend_17 : decode prog_1_method_6_code 17 = .ok (.iload_n 2, 1) := by decide +kernel
theorem d_Np_extend_18 : decode prog_1_method_6_code 18 = .ok (.invokevirtual 154, 3) := by decide +kernel
theorem d_Np_extend_21 : decode prog_1_method_6_code 21 = .ok (.ifCond .ne 17, 3) := by decide +kernel
theorem d_Np_extend_24 : decode prog_1_method_6_code 24 = .ok (.aload_n 0, 1) := by decide +kernel
theorem d_Np_extend_25 : decode prog_1_method_6_code 25 = .ok (.getfield 10, 3) := by decide +kernel
theorem d_Np_extend_28 : decode prog_1_method_6_code 28 = .ok (.getfield 129, 3) := by decide +kernel
theorem d_Np_extend_31 : decode prog_1_method_6_code 31 = .ok (.iload_n 1, 1) := by decide +kernel
theorem d_Np_extend_32 : decode prog_1_method_6_code 32 = .ok (.invokevirtual 158, 3) := by decide +kernel
theorem d_Np_extend_35 : decode prog_1_method_6_code 35 = .ok (.ifCond .eq 13, 3) := by decide +kernel
theorem d_Np_extend_38 : decode prog_1_method_6_code 38 = .ok (.new 139, 3) := by decide +kernel
theorem d_Np_extend_41 : decode prog_1_method_6_code 41 = .ok (.dup, 1) := by decide +kernel
theorem d_Np_extend_42 : decode prog_1_method_6_code 42 = .ok (.ldc 162, 2) := by decide +kernel
theorem d_Np_extend_44 : decode prog_1_method_6_code 44 = .ok (.invokespecial 143, 3) := by decide +kernel
theorem d_Np_extend_47 : decode prog_1_method_6_code 47 = .ok (.athrow, 1) := by decide +kernel
theorem d_Np_extend_48 : decode prog_1_method_6_code 48 = .ok (.aload_n 0, 1) := by decide +kernel
theorem d_Np_extend_49 : decode prog_1_method_6_code 49 = .ok (.invokevirtual 81, 3) := by decide +kernel
theorem d_Np_extend_52 : decode prog_1_method_6_code 52 = .ok (.aload_n 0, 1) := by decide +kernel
theorem d_Np_extend_53 : decode prog_1_method_6_code 53 = .ok (.getfield 10, 3) := by decide +kernel
theorem d_Np_extend_56 : decode prog_1_method_6_code 56 = .ok (.getfield 105, 3) := by decide +kernel
theorem d_Np_extend_59 : decode prog_1_method_6_code 59 = .ok (.invokevirtual 109, 3) := by decide +kernel
theorem d_Np_extend_62 : decode prog_1_method_6_code 62 = .ok (.aload_n 0, 1) := by decide +kernel
theorem d_Np_extend_63 : decode prog_1_method_6_code 63 = .ok (.getfield 10, 3) := by decide +kernel
theorem d_Np_extend_66 : decode prog_1_method_6_code 66 = .ok (.getfield 129, 3) := by decide +kernel
theorem d_Np_extend_69 : decode prog_1_method_6_code 69 = .ok (.iload_n 1, 1) := by decide +kernel
theorem d_Np_extend_70 : decode prog_1_method_6_code 70 = .ok (.iload_n 2, 1) := by decide +kernel
theorem d_Np_extend_71 : decode prog_1_method_6_code 71 = .ok (.invokevirtual 147, 3) := by decide +kernel
theorem d_Np_extend_74 : decode prog_1_method_6_code 74 = .ok (.aload_n 0, 1) := by decide +kernel
theorem d_Np_extend_75 : decode prog_1_method_6_code 75 = .ok (.getfield 10, 3) := by decide +kernel
theorem d_Np_extend_78 : decode prog_1_method_6_code 78 = .ok (.getfield 68, 3) := by decide +kernel
theorem d_Np_extend_81 : decode prog_1_method_6_code 81 = .ok (.ldc2_w 164, 3) := by decide +kernel
theorem d_Np_extend_84 : decode prog_1_method_6_code 84 = .ok (.putfield 166, 3) := by decide +kernel
theorem d_Np_extend_87 : decode prog_1_method_6_code 87 = .ok (.aload_n 0, 1) := by decide +kernel
theorem d_Np_extend_88 : decode prog_1_method_6_code 88 = .ok (.getfield 10, 3) := by decide +kernel
theorem d_Np_extend_91 : decode prog_1_method_6_code 91 = .ok (.getfield 129, 3) := by decide +kernel
theorem d_Np_extend_94 : decode prog_1_method_6_code 94 = .ok (.getfield 169, 3) := by decide +kernel
theorem d_Np_extend_97 : decode prog_1_method_6_code 97 = .ok (.iload_n 1, 1) := by decide +kernel
theorem d_Np_extend_98 : decode prog_1_method_6_code 98 = .ok (.iaload, 1) := by decide +kernel
theorem d_Np_extend_99 : decode prog_1_method_6_code 99 = .ok (.ireturn, 1) := by decide +kernel
def b_Np_extend_38 (F : Nat) (h : PH) : Option ((Nat ⊕ Int32) × PH) :=
  some (.inl 2, h)
theorem g_Np_extend_38 {l : Launch} {E : ET} {d : Nat} (hd : 7 ≤ d) {F : Nat} {r : Int32} {h9 : PH} {x : Nat}   (h : PH) (hf : b_Np_extend_38 F h = some (.inr r, h9)) : Go l E m_Np_extend (rm d 0 0) (KM E 0 0 (PoE (some (.int r)) h9 x)) 0 0 h x 38 [] [] := by
  unfold b_Np_extend_38 at hf
  cases (Prod.mk.inj (Option.some.inj hf)).1
def f_Np_extend (F : Nat) (a0 : Nat) (i1 : Int32) (i2 : Int32) (h : PH) : Option ((Nat ⊕ Int32) × PH) :=
  bnd (cK h a0 9) fun _ => bndT (f_Np_checkConstraint a0 i1 h) fun x2 h3 => bndT (f_Np_checkCell i2 h3) fun x4 h5 => bnd (gR h5 a0 9 0) fun x6 => bnd (gR h5 x6 8 1) fun x7 => bnd (cK h5 x7 4) fun _ => bnd (f_Rul_has x7 i1 i2 h5) fun x9 => (if x9 = (0 : Int32) then bnd (gR h5 a0 9 0) fun x10 => bnd (gR h5 x10 8 1) fun x11 => bnd (cK h5 x11 4) fun _ => bnd (f_Rul_isFull x11 i1 h5) fun x13 => (if x13 = (0 : Int32) then bnd (cK h5 a0 9) fun _ => bnd (f_Np_save a0 h5) fun h15 => bnd (gR h15 a0 9 0) fun x16 => bnd (gR h15 x16 8 3) fun x17 => bnd (cK h15 x17 0) fun _ => bnd (f_Log_wipe x17 h15) fun h19 => bnd (gR h19 a0 9 0) fun x20 => bnd (gR h19 x20 8 1) fun x21 => bnd (cK h19 x21 4) fun _ => bnd (f_Rul_attach F x21 i1 i2 h19) fun h23 => bnd (gR h23 a0 9 0) fun x24 => bnd (gR h23 x24 8 0) fun x25 => bnd (pV h23 x25 1 2 (.long (68719476735 : Int64))) fun h26 => bnd (gR h26 a0 9 0) fun x27 => bnd (gR h26 x27 8 1) fun x28 => bnd (gR h26 x28 4 2) fun x29 => bnd (aI h26 x29 i1) fun x30 => some (.inr x30, h26) else b_Np_extend_38 F h5) else b_Np_extend_38 F h5)
theorem g_Np_extend_0 {l : Launch} {E : ET} {d : Nat} (hd : 7 ≤ d) {F : Nat} {r : Int32} {h9 : PH} {x : Nat}  (a0 : Nat) (i1 : Int32) (i2 : Int32) (h : PH) (hf : f_Np_extend F a0 i1 i2 h = some (.inr r, h9)) : Go l E m_Np_extend (rm d 0 0) (KM E 0 0 (PoE (some (.int r)) h9 x)) 0 0 h x 0 [(0, .ref a0), (1, .int i1), (2, .int i2)] [] := by
  unfold f_Np_extend at hf
  refine go_aload_n 0 d_Np_extend_0 rfl ?_
  refine go_iload_n 1 d_Np_extend_1 rfl ?_
  obtain ⟨_, e1, hf⟩ := bnd_x hf
  obtain ⟨x2, h3, e_x2, hf⟩ := bndT_r hf
  refine go_callV_N (As := [.int i1]) (st := []) (c_Np_checkConstraint (d := d - 1) (by omega) e_x2) lk_Np_151 rfl rfl e1 (by decide) rfl (rm_ok (by omega)) (Nat.le_of_ble_eq_true rfl) rm_c d_Np_extend_2 ?_
  refine go_iload_n 2 d_Np_extend_5 rfl ?_
  obtain ⟨x4, h5, e_x4, hf⟩ := bndT_r hf
  refine go_callS_N (As := [.int i2]) (st := []) (c_Np_checkCell (d := d - 1) (by omega) e_x4) lk_Np_87 rfl rfl (rm_ok (by omega)) (Nat.le_of_ble_eq_true rfl) rm_c d_Np_extend_6 ?_
  refine go_aload_n 0 d_Np_extend_9 rfl ?_
  obtain ⟨x6, e_x6, hf⟩ := bnd_x hf
  refine go_get d_Np_extend_10 (gR_x e_x6) fl_Np_10 ?_
  obtain ⟨x7, e_x7, hf⟩ := bnd_x hf
  refine go_get d_Np_extend_13 (gR_x e_x7) fl_Np_129 ?_
  refine go_iload_n 1 d_Np_extend_16 rfl ?_
  refine go_iload_n 2 d_Np_extend_17 rfl ?_
  obtain ⟨_, e8, hf⟩ := bnd_x hf
  obtain ⟨x9, e_x9, hf⟩ := bnd_x hf
  refine go_callV_I (As := [.int i1, .int i2]) (st := []) (c_Rul_has (d := d - 1) (by omega) e_x9) lk_Np_154 rfl rfl e8 (by decide) rfl (rm_ok (by omega)) (Nat.le_of_ble_eq_true rfl) rm_c d_Np_extend_18 ?_
  refine go_if_ne 38 d_Np_extend_21 (by decide) (fun q32 => ?_) (fun q32 => ?_)
  · rw [if_neg q32] at hf
    refine go_sub (lv' := []) [] rfl ?_
    exact g_Np_extend_38 hd   h5 hf
  · rw [if_pos q32] at hf
    refine go_aload_n 0 d_Np_extend_24 rfl ?_
    obtain ⟨x10, e_x10, hf⟩ := bnd_x hf
    refine go_get d_Np_extend_25 (gR_x e_x10) fl_Np_10 ?_
    obtain ⟨x11, e_x11, hf⟩ := bnd_x hf
    refine go_get d_Np_extend_28 (gR_x e_x11) fl_Np_129 ?_
    refine go_iload_n 1 d_Np_extend_31 rfl ?_
    obtain ⟨_, e12, hf⟩ := bnd_x hf
    obtain ⟨x13, e_x13, hf⟩ := bnd_x hf
    refine go_callV_I (As := [.int i1]) (st := []) (c_Rul_isFull (d := d - 1) (by omega) e_x13) lk_Np_158 rfl rfl e12 (by decide) rfl (rm_ok (by omega)) (Nat.le_of_ble_eq_true rfl) rm_c d_Np_extend_32 ?_
    refine go_if_eq 48 d_Np_extend_35 (by decide) (fun q31 => ?_) (fun q31 => ?_)
    · rw [if_pos q31] at hf
      refine go_aload_n 0 d_Np_extend_48 rfl ?_
      obtain ⟨_, e14, hf⟩ := bnd_x hf
      obtain ⟨h15, e_x15, hf⟩ := bnd_x hf
      refine go_callV_N (As := []) (st := []) (c_Np_save (d := d - 1) (by omega) e_x15) lk_Np_81 rfl rfl e14 (by decide) rfl (rm_ok (by omega)) (Nat.le_of_ble_eq_true rfl) rm_c d_Np_extend_49 ?_
      refine go_aload_n 0 d_Np_extend_52 rfl ?_
      obtain ⟨x16, e_x16, hf⟩ := bnd_x hf
      refine go_get d_Np_extend_53 (gR_x e_x16) fl_Np_10 ?_
      obtain ⟨x17, e_x17, hf⟩ := bnd_x hf
      refine go_get d_Np_extend_56 (gR_x e_x17) fl_Np_105 ?_
      obtain ⟨_, e18, hf⟩ := bnd_x hf
      obtain ⟨h19, e_x19, hf⟩ := bnd_x hf
      refine go_callV_N (As := []) (st := []) (c_Log_wipe (d := d - 1) (by omega) e_x19) lk_Np_109 rfl rfl e18 (by decide) rfl (rm_ok (by omega)) (Nat.le_of_ble_eq_true rfl) rm_c d_Np_extend_59 ?_
      refine go_aload_n 0 d_Np_extend_62 rfl ?_
      obtain ⟨x20, e_x20, hf⟩ := bnd_x hf
      refine go_get d_Np_extend_63 (gR_x e_x20) fl_Np_10 ?_
      obtain ⟨x21, e_x21, hf⟩ := bnd_x hf
      refine go_get d_Np_extend_66 (gR_x e_x21) fl_Np_129 ?_
      refine go_iload_n 1 d_Np_extend_69 rfl ?_
      refine go_iload_n 2 d_Np_extend_70 rfl ?_
      obtain ⟨_, e22, hf⟩ := bnd_x hf
      obtain ⟨h23, e_x23, hf⟩ := bnd_x hf
      refine go_callV_N (As := [.int i1, .int i2]) (st := []) (c_Rul_attach (d := d - 1) (by omega) e_x23) lk_Np_147 rfl rfl e22 (by decide) rfl (rm_ok (by omega)) (Nat.le_of_ble_eq_true rfl) rm_c d_Np_extend_71 ?_
      refine go_aload_n 0 d_Np_extend_74 rfl ?_
      obtain ⟨x24, e_x24, hf⟩ := bnd_x hf
      refine go_get d_Np_extend_75 (gR_x e_x24) fl_Np_10 ?_
      obtain ⟨x25, e_x25, hf⟩ := bnd_x hf
      refine go_get d_Np_extend_78 (gR_x e_x25) fl_Np_68 ?_
      refine go_ldc2 (68719476735 : Int64) d_Np_extend_81 kl_Np_164 ?_
      obtain ⟨h26, e_h26, hf⟩ := bnd_x hf
      refine go_putL d_Np_extend_84 e_h26 fl_Np_166 rfl rfl ?_
      refine go_aload_n 0 d_Np_extend_87 rfl ?_
      obtain ⟨x27, e_x27, hf⟩ := bnd_x hf
      refine go_get d_Np_extend_88 (gR_x e_x27) fl_Np_10 ?_
      obtain ⟨x28, e_x28, hf⟩ := bnd_x hf
      refine go_get d_Np_extend_91 (gR_x e_x28) fl_Np_129 ?_
      obtain ⟨x29, e_x29, hf⟩ := bnd_x hf
      refine go_get d_Np_extend_94 (gR_x e_x29) fl_Np_169 ?_
      refine go_iload_n 1 d_Np_extend_97 rfl ?_
      obtain ⟨x30, e_x30, hf⟩ := bnd_x hf
      refine go_iaload d_Np_extend_98 e_x30 ?_
      obtain ⟨e8, e9⟩ := Prod.mk.inj (Option.some.inj hf)
      have e7 := Sum.inr.inj e8; subst e7; subst e9
      exact go_iret d_Np_extend_99 rfl ⟨rfl, rfl, rfl⟩
    · rw [if_neg q31] at hf
      refine go_sub (lv' := []) [] rfl ?_
      exact g_Np_extend_38 hd   h5 hf
theorem c_Np_extend {l : Launch} {E : ET} {d : Nat} (hd : 7 ≤ d) {F : Nat} {r : Int32} {h9 : PH} {x : Nat} {a0 : Nat} {i1 : Int32} {i2 : Int32} {h : PH} (hf : f_Np_extend F a0 i1 i2 h = some (.inr r, h9)) : Fn l E m_Np_extend d 0 0 [.ref a0, .int i1, .int i2] h x (PoE (some (.int r)) h9 x) :=
  Fn.of (by decide +kernel) (Nat.le_of_ble_eq_true rfl) (g_Np_extend_0 hd a0 i1 i2 h hf)
theorem gx_Np_extend_38 {l : Launch} {E : ET} (hl : l.stackTraces = false) {d : Nat} (hd : 7 ≤ d) {F : Nat} {j : Nat} {h9 : PH} {x : Nat}   (h : PH) (hf : b_Np_extend_38 F h = some (.inl j, h9)) : Go l E m_Np_extend (rm d 1 6) (KX l E 1 6 (PXk j h9)) 0 0 h x 38 [] [] := by
  unfold b_Np_extend_38 at hf
  obtain ⟨e8, e9⟩ := Prod.mk.inj (Option.some.inj hf)
  cases e8; subst e9
  exact go_throwS tw_139_143 (List.mem_of_getElem? (i := 6) rfl) d_Np_extend_38 d_Np_extend_41 d_Np_extend_42 d_Np_extend_44 d_Np_extend_47 ⟨rfl, rfl⟩ (by omega) (Nat.le_of_ble_eq_true rfl)
theorem gx_Np_extend_0 {l : Launch} {E : ET} (hl : l.stackTraces = false) {d : Nat} (hd : 7 ≤ d) {F : Nat} {j : Nat} {h9 : PH} {x : Nat}  (a0 : Nat) (i1 : Int32) (i2 : Int32) (h : PH) (hf : f_Np_extend F a0 i1 i2 h = some (.inl j, h9)) : Go l E m_Np_extend (rm d 1 6) (KX l E 1 6 (PXk j h9)) 0 0 h x 0 [(0, .ref a0), (1, .int i1), (2, .int i2)] [] := by
  unfold f_Np_extend at hf
  refine go_aload_n 0 d_Np_extend_0 rfl ?_
  refine go_iload_n 1 d_Np_extend_1 rfl ?_
  obtain ⟨_, e1, hf⟩ := bnd_x hf
  rcases bndT_l hf with e_x2 | ⟨x2, h3, e_x2, hf⟩
  · exact go_tcallV (As := [.int i1]) (st := []) (x_Np_checkConstraint hl (d := d - 1) (by omega) e_x2) lk_Np_151 rfl rfl e1 (by decide) rfl (rm_ok1 (by omega)) (Nat.le_of_ble_eq_true rfl) d_Np_extend_2
  refine go_callV_N (As := [.int i1]) (st := []) (c_Np_checkConstraint (d := d - 1) (by omega) e_x2) lk_Np_151 rfl rfl e1 (by decide) rfl (rm_ok1 (by omega)) (Nat.le_of_ble_eq_true rfl) rm_c1 d_Np_extend_2 ?_
  refine go_iload_n 2 d_Np_extend_5 rfl ?_
  rcases bndT_l hf with e_x4 | ⟨x4, h5, e_x4, hf⟩
  · exact go_tcallS (As := [.int i2]) (st := []) (x_Np_checkCell hl (d := d - 1) (by omega) e_x4) lk_Np_87 rfl rfl (rm_ok1 (by omega)) (Nat.le_of_ble_eq_true rfl) d_Np_extend_6
  refine go_callS_N (As := [.int i2]) (st := []) (c_Np_checkCell (d := d - 1) (by omega) e_x4) lk_Np_87 rfl rfl (rm_ok1 (by omega)) (Nat.le_of_ble_eq_true rfl) rm_c1 d_Np_extend_6 ?_
  refine go_aload_n 0 d_Np_extend_9 rfl ?_
  obtain ⟨x6, e_x6, hf⟩ := bnd_x hf
  refine go_get d_Np_extend_10 (gR_x e_x6) fl_Np_10 ?_
  obtain ⟨x7, e_x7, hf⟩ := bnd_x hf
  refine go_get d_Np_extend_13 (gR_x e_x7) fl_Np_129 ?_
  refine go_iload_n 1 d_Np_extend_16 rfl ?_
  refine go_iload_n 2 d_Np_extend_17 rfl ?_
  obtain ⟨_, e8, hf⟩ := bnd_x hf
  obtain ⟨x9, e_x9, hf⟩ := bnd_x hf
  refine go_callV_I (As := [.int i1, .int i2]) (st := []) (c_Rul_has (d := d - 1) (by omega) e_x9) lk_Np_154 rfl rfl e8 (by decide) rfl (rm_ok1 (by omega)) (Nat.le_of_ble_eq_true rfl) rm_c1 d_Np_extend_18 ?_
  refine go_if_ne 38 d_Np_extend_21 (by decide) (fun q32 => ?_) (fun q32 => ?_)
  · rw [if_neg q32] at hf
    refine go_sub (lv' := []) [] rfl ?_
    exact gx_Np_extend_38 hl hd   h5 hf
  · rw [if_pos q32] at hf
    refine go_aload_n 0 d_Np_extend_24 rfl ?_
    obtain ⟨x10, e_x10, hf⟩ := bnd_x hf
    refine go_get d_Np_extend_25 (gR_x e_x10) fl_Np_10 ?_
    obtain ⟨x11, e_x11, hf⟩ := bnd_x hf
    refine go_get d_Np_extend_28 (gR_x e_x11) fl_Np_129 ?_
    refine go_iload_n 1 d_Np_extend_31 rfl ?_
    obtain ⟨_, e12, hf⟩ := bnd_x hf
    obtain ⟨x13, e_x13, hf⟩ := bnd_x hf
    refine go_callV_I (As := [.int i1]) (st := []) (c_Rul_isFull (d := d - 1) (by omega) e_x13) lk_Np_158 rfl rfl e12 (by decide) rfl (rm_ok1 (by omega)) (Nat.le_of_ble_eq_true rfl) rm_c1 d_Np_extend_32 ?_
    refine go_if_eq 48 d_Np_extend_35 (by decide) (fun q31 => ?_) (fun q31 => ?_)
    · rw [if_pos q31] at hf
      refine go_aload_n 0 d_Np_extend_48 rfl ?_
      obtain ⟨_, e14, hf⟩ := bnd_x hf
      obtain ⟨h15, e_x15, hf⟩ := bnd_x hf
      refine go_callV_N (As := []) (st := []) (c_Np_save (d := d - 1) (by omega) e_x15) lk_Np_81 rfl rfl e14 (by decide) rfl (rm_ok1 (by omega)) (Nat.le_of_ble_eq_true rfl) rm_c1 d_Np_extend_49 ?_
      refine go_aload_n 0 d_Np_extend_52 rfl ?_
      obtain ⟨x16, e_x16, hf⟩ := bnd_x hf
      refine go_get d_Np_extend_53 (gR_x e_x16) fl_Np_10 ?_
      obtain ⟨x17, e_x17, hf⟩ := bnd_x hf
      refine go_get d_Np_extend_56 (gR_x e_x17) fl_Np_105 ?_
      obtain ⟨_, e18, hf⟩ := bnd_x hf
      obtain ⟨h19, e_x19, hf⟩ := bnd_x hf
      refine go_callV_N (As := []) (st := []) (c_Log_wipe (d := d - 1) (by omega) e_x19) lk_Np_109 rfl rfl e18 (by decide) rfl (rm_ok1 (by omega)) (Nat.le_of_ble_eq_true rfl) rm_c1 d_Np_extend_59 ?_
      refine go_aload_n 0 d_Np_extend_62 rfl ?_
      obtain ⟨x20, e_x20, hf⟩ := bnd_x hf
      refine go_get d_Np_extend_63 (gR_x e_x20) fl_Np_10 ?_
      obtain ⟨x21, e_x21, hf⟩ := bnd_x hf
      refine go_get d_Np_extend_66 (gR_x e_x21) fl_Np_129 ?_
      refine go_iload_n 1 d_Np_extend_69 rfl ?_
      refine go_iload_n 2 d_Np_extend_70 rfl ?_
      obtain ⟨_, e22, hf⟩ := bnd_x hf
      obtain ⟨h23, e_x23, hf⟩ := bnd_x hf
      refine go_callV_N (As := [.int i1, .int i2]) (st := []) (c_Rul_attach (d := d - 1) (by omega) e_x23) lk_Np_147 rfl rfl e22 (by decide) rfl (rm_ok1 (by omega)) (Nat.le_of_ble_eq_true rfl) rm_c1 d_Np_extend_71 ?_
      refine go_aload_n 0 d_Np_extend_74 rfl ?_
      obtain ⟨x24, e_x24, hf⟩ := bnd_x hf
      refine go_get d_Np_extend_75 (gR_x e_x24) fl_Np_10 ?_
      obtain ⟨x25, e_x25, hf⟩ := bnd_x hf
      refine go_get d_Np_extend_78 (gR_x e_x25) fl_Np_68 ?_
      refine go_ldc2 (68719476735 : Int64) d_Np_extend_81 kl_Np_164 ?_
      obtain ⟨h26, e_h26, hf⟩ := bnd_x hf
      refine go_putL d_Np_extend_84 e_h26 fl_Np_166 rfl rfl ?_
      refine go_aload_n 0 d_Np_extend_87 rfl ?_
      obtain ⟨x27, e_x27, hf⟩ := bnd_x hf
      refine go_get d_Np_extend_88 (gR_x e_x27) fl_Np_10 ?_
      obtain ⟨x28, e_x28, hf⟩ := bnd_x hf
      refine go_get d_Np_extend_91 (gR_x e_x28) fl_Np_129 ?_
      obtain ⟨x29, e_x29, hf⟩ := bnd_x hf
      refine go_get d_Np_extend_94 (gR_x e_x29) fl_Np_169 ?_
      refine go_iload_n 1 d_Np_extend_97 rfl ?_
      obtain ⟨x30, e_x30, hf⟩ := bnd_x hf
      refine go_iaload d_Np_extend_98 e_x30 ?_
      cases (Prod.mk.inj (Option.some.inj hf)).1
    · rw [if_neg q31] at hf
      refine go_sub (lv' := []) [] rfl ?_
      exact gx_Np_extend_38 hl hd   h5 hf
theorem x_Np_extend {l : Launch} {E : ET} (hl : l.stackTraces = false) {d : Nat} (hd : 7 ≤ d) {F : Nat} {j : Nat} {h9 : PH} {x : Nat} {a0 : Nat} {i1 : Int32} {i2 : Int32} {h : PH} (hf : f_Np_extend F a0 i1 i2 h = some (.inl j, h9)) : FnT l E m_Np_extend d [.ref a0, .int i1, .int i2] h x (PXk j h9) :=
  FnT.of hl (by decide +kernel) (Nat.le_of_ble_eq_true rfl) (gx_Np_extend_0 hl hd a0 i1 i2 h hf)
theorem d_Np_make_0 : decode prog_1_method_8_code 0 = .ok (.iload_n 1, 1) := by decide +kernel
theorem d_Np_make_1 : decode prog_1_method_8_code 1 = .ok (.ifCond .lt 19, 3) := by decide +kernel
theorem d_Np_make_4 : decode prog_1_method_8_code 4 = .ok (.iload_n 1, 1) := by decide +kernel
theorem d_Np_make_5 : decode prog_1_method_8_code 5 = .ok (.ldc 180, 2) := by decide +kernel
theorem d_Np_make_7 : decode prog_1_method_8_code 7 = .ok (.if_icmp .gt 13, 3) := by decide +kernel
theorem d_Np_make_10 : decode prog_1_method_8_code 10 = .ok (.iload_n 2, 1) := by decide +kernel
theorem d_Np_make_11 : decode prog_1_method_8_code 11 = .ok (.ifCond .lt 9, 3) := by decide +kernel
theorem d_Np_make_14 : decode prog_1_method_8_code 14 = .ok (.iload_n 2, 1) := by decide +kernel
theorem d_Np_make_15 : decode prog_1_method_8_code 15 = .ok (.bipush 36, 2) := by decide +kernel
theorem d_Np_make_17 : decode prog_1_method_8_code 17 = .ok (.if_icmp .le 13, 3) := by decide +kernel
theorem d_Np_make_20 : decode prog_1_method_8_code 20 = .ok (.new 122, 3) := by decide +kernel
theorem d_Np_make_23 : decode prog_1_method_8_code 23 = .ok (.dup, 1) := by decide +kernel
theorem d_Np_make_24 : decode prog_1_method_8_code 24 = .ok (.ldc 181, 2) := by decide +kernel
theorem d_Np_make_26 : decode prog_1_method_8_code 26 = .ok (.invokespecial 126, 3) := by decide +kernel
theorem d_Np_make_29 : decode prog_1_method_8_code 29 = .ok (.athrow, 1) := by decide +kernel
theorem d_Np_make_30 : decode prog_1_method_8_code 30 = .ok (.aload_n 0, 1) := by decide +kernel
theorem d_Np_make_31 : decode prog_1_method_8_code 31 = .ok (.invokevirtual 81, 3) := by decide +kernel
theorem d_Np_make_34 : decode prog_1_method_8_code 34 = .ok (.aload_n 0, 1) := by decide +kernel
theorem d_Np_make_35 : decode prog_1_method_8_code 35 = .ok (.getfield 10, 3) := by decide +kernel
theorem d_Np_make_38 : decode prog_1_method_8_code 38 = .ok (.invokevirtual 84, 3) := by decide +kernel
theorem d_Np_make_41 : decode prog_1_method_8_code 41 = .ok (.aload_n 0, 1) := by decide +kernel
theorem d_Np_make_42 : decode prog_1_method_8_code 42 = .ok (.getfield 57, 3) := by decide +kernel
theorem d_Np_make_45 : decode prog_1_method_8_code 45 = .ok (.iload_n 1, 1) := by decide +kernel
theorem d_Np_make_46 : decode prog_1_method_8_code 46 = .ok (.invokevirtual 183, 3) := by decide +kernel
theorem d_Np_make_49 : decode prog_1_method_8_code 49 = .ok (.aload_n 0, 1) := by decide +kernel
theorem d_Np_make_50 : decode prog_1_method_8_code 50 = .ok (.invokevirtual 186, 3) := by decide +kernel
theorem d_Np_make_53 : decode prog_1_method_8_code 53 = .ok (.aload_n 0, 1) := by decide +kernel
theorem d_Np_make_54 : decode prog_1_method_8_code 54 = .ok (.invokevirtual 189, 3) := by decide +kernel
theorem d_Np_make_57 : decode prog_1_method_8_code 57 = .ok (.bipush 36, 2) := by decide +kernel
theorem d_Np_make_59 : decode prog_1_method_8_code 59 = .ok (.istore_n 3, 1) := by decide +kernel
theorem d_Np_make_60 : decode prog_1_method_8_code 60 = .ok (.iconst 0, 1) := by decide +kernel
theorem d_Np_make_61 : decode prog_1_method_8_code 61 = .ok (.istore 4, 2) := by decide +kernel
theorem d_Np_make_63 : decode prog_1_method_8_code 63 = .ok (.iload 4, 2) := by decide +kernel
theorem d_Np_make_65 : decode prog_1_method_8_code 65 = .ok (.bipush 36, 2) := by decide +kernel
theorem d_Np_make_67 : decode prog_1_method_8_code 67 = .ok (.if_icmp .ge 91, 3) := by decide +kernel
theorem d_Np_make_70 : decode prog_1_method_8_code 70 = .ok (.iload_n 3, 1) := by decide +kernel
theorem d_Np_make_71 : decode prog_1_method_8_code 71 = .ok (.iload_n 2, 1) := by decide +kernel
theorem d_Np_make_72 : decode prog_1_method_8_code 72 = .ok (.if_icmp .le 86, 3) := by decide +kernel
theorem d_Np_make_75 : decode prog_1_method_8_code 75 = .ok (.aload_n 0, 1) := by decide +kernel
theorem d_Np_make_76 : decode prog_1_method_8_code 76 = .ok (.getfield 65, 3) := by decide +kernel
theorem d_Np_make_79 : decode prog_1_method_8_code 79 = .ok (.iload 4, 2) := by decide +kernel
theorem d_Np_make_81 : decode prog_1_method_8_code 81 = .ok (.iaload, 1) := by decide +kernel
theorem d_Np_make_82 : decode prog_1_method_8_code 82 = .ok (.istore 5, 2) := by decide +kernel
theorem d_Np_make_84 : decode prog_1_method_8_code 84 = .ok (.aload_n 0, 1) := by decide +kernel
theorem d_Np_make_85 : decode prog_1_method_8_code 85 = .ok (.getfield 10, 3) := by decide +kernel
theorem d_Np_make_88 : decode prog_1_method_8_code 88 = .ok (.getfield 102, 3) := by decide +kernel
theorem d_Np_make_91 : decode prog_1_method_8_code 91 = .ok (.iload 5, 2) := by decide +kernel
theorem d_Np_make_93 : decode prog_1_method_8_code 93 = .ok (.iaload, 1) := by decide +kernel
theorem d_Np_make_94 : decode prog_1_method_8_code 94 = .ok (.istore 6, 2) := by decide +kernel
theorem d_Np_make_96 : decode prog_1_method_8_code 96 = .ok (.aload_n 0, 1) := by decide +kernel
theorem d_Np_make_97 : decode prog_1_method_8_code 97 = .ok (.getfield 10, 3) := by decide +kernel
theorem d_Np_make_100 : decode prog_1_method_8_code 100 = .ok (.getfield 102, 3) := by decide +kernel
theorem d_Np_make_103 : decode prog_1_method_8_code 103 = .ok (.iload 5, 2) := by decide +kernel
theorem d_Np_make_105 : decode prog_1_method_8_code 105 = .ok (.iconst 0, 1) := by decide +kernel
theorem d_Np_make_106 : decode prog_1_method_8_code 106 = .ok (.iastore, 1) := by decide +kernel
theorem d_Np_make_107 : decode prog_1_method_8_code 107 = .ok (.aload_n 0, 1) := by decide +kernel
theorem d_Np_make_108 : decode prog_1_method_8_code 108 = .ok (.invokevirtual 192, 3) := by decide +kernel
theorem d_Np_make_111 : decode prog_1_method_8_code 111 = .ok (.aload_n 0, 1) := by decide +kernel
theorem d_Np_make_112 : decode prog_1_method_8_code 112 = .ok (.getfield 51, 3) := by decide +kernel
theorem d_Np_make_115 : decode prog_1_method_8_code 115 = .ok (.aload_n 0, 1) := by decide +kernel
theorem d_Np_make_116 : decode prog_1_method_8_code 116 = .ok (.getfield 33, 3) := by decide +kernel
theorem d_Np_make_119 : decode prog_1_method_8_code 119 = .ok (.aload_n 0, 1) := by decide +kernel
theorem d_Np_make_120 : decode prog_1_method_8_code 120 = .ok (.getfield 10, 3) := by decide +kernel
theorem d_Np_make_123 : decode prog_1_method_8_code 123 = .ok (.getfield 129, 3) := by decide +kernel
theorem d_Np_make_126 : decode prog_1_method_8_code 126 = .ok (.iconst 2, 1) := by decide +kernel
theorem d_Np_make_127 : decode prog_1_method_8_code 127 = .ok (.invokevirtual 195, 3) := by decide +kernel
theorem d_Np_make_130 : decode prog_1_method_8_code 130 = .ok (.iconst 1, 1) := by decide +kernel
theorem d_Np_make_131 : decode prog_1_method_8_code 131 = .ok (.if_icmp .ne 9, 3) := by decide +kernel
theorem d_Np_make_134 : decode prog_1_method_8_code 134 = .ok (.iinc 3 (-1), 3) := by decide +kernel
theorem d_Np_make_137 : decode prog_1_method_8_code 137 = .ok (.goto 15, 3) := by decide +kernel
theorem d_Np_make_140 : decode prog_1_method_8_code 140 = .ok (.aload_n 0, 1) := by decide +kernel
theorem d_Np_make_141 : decode prog_1_method_8_code 141 = .ok (.getfield 10, 3) := by decide +kernel
theorem d_Np_make_144 : decode prog_1_method_8_code 144 = .ok (.getfield 102, 3) := by decide +kernel
theorem d_Np_make_147 : decode prog_1_method_8_code 147 = .ok (.iload 5, 2) := by decide +kernel
theorem d_Np_make_149 : decode prog_1_method_8_code 149 = .ok (.iload 6, 2) := by decide +kernel
theorem d_Np_make_151 : decode prog_1_method_8_code 151 = .ok (.iastore, 1) := by decide +kernel
theorem d_Np_make_152 : decode prog_1_method_8_code 152 = .ok (.iinc 4 1, 3) := by decide +kernel
theorem d_Np_make_155 : decode prog_1_method_8_code 155 = .ok (.goto (-92), 3) := by decide +kernel
theorem d_Np_make_158 : decode prog_1_method_8_code 158 = .ok (.aload_n 0, 1) := by decide +kernel
theorem d_Np_make_159 : decode prog_1_method_8_code 159 = .ok (.getfield 10, 3) := by decide +kernel
theorem d_Np_make_162 : decode prog_1_method_8_code 162 = .ok (.getfield 68, 3) := by decide +kernel
theorem d_Np_make_165 : decode prog_1_method_8_code 165 = .ok (.aload_n 0, 1) := by decide +kernel
theorem d_Np_make_166 : decode prog_1_method_8_code 166 = .ok (.getfield 10, 3) := by decide +kernel
theorem d_Np_make_169 : decode prog_1_method_8_code 169 = .ok (.getfield 102, 3) := by decide +kernel
theorem d_Np_make_172 : decode prog_1_method_8_code 172 = .ok (.invokevirtual 172, 3) := by decide +kernel
theorem d_Np_make_175 : decode prog_1_method_8_code 175 = .ok (.iload_n 3, 1) := by decide +kernel
theorem d_Np_make_176 : decode prog_1_method_8_code 176 = .ok (.ireturn, 1) := by decide +kernel
def b_Np_make_20 (F : Nat) (h : PH) : Option ((Nat ⊕ Int32) × PH) :=
  some (.inl 1, h)
theorem g_Np_make_20 {l : Launch} {E : ET} {d : Nat} (hd : 128 ≤ d) {F : Nat} {r : Int32} {h9 : PH} {x : Nat}   (h : PH) (hf : b_Np_make_20 F h = some (.inr r, h9)) : Go l E m_Np_make (rm d 0 0) (KM E 0 0 (PoE (some (.int r)) h9 x)) 0 0 h x 20 [] [] := by
  unfold b_Np_make_20 at hf
  cases (Prod.mk.inj (Option.some.inj hf)).1
def b_Np_make_152 (F : Nat) (k63 : Nat → Int32 → Int32 → Int32 → PH → Option ((Nat ⊕ Int32) × PH)) (a0 : Nat) (i2 : Int32) (i3 : Int32) (i4 : Int32) (h : PH) : Option ((Nat ⊕ Int32) × PH) :=
  k63 a0 i2 i3 (i4 + (1 : Int32)) h
theorem g_Np_make_152 {l : Launch} {E : ET} {d : Nat} (hd : 128 ≤ d) {F : Nat} {r : Int32} {h9 : PH} {x : Nat} {k63 : Nat → Int32 → Int32 → Int32 → PH → Option ((Nat ⊕ Int32) × PH)} (hk63 : ∀ (a0 : Nat) (i2 : Int32) (i3 : Int32) (i4 : Int32) (hh : PH), k63 a0 i2 i3 i4 hh = some (.inr r, h9) → Go l E m_Np_make (rm d 0 0) (KM E 0 0 (PoE (some (.int r)) h9 x)) 0 0 hh x 63 [(0, .ref a0), (2, .int i2), (3, .int i3), (4, .int i4)] []) (a0 : Nat) (i2 : Int32) (i3 : Int32) (i4 : Int32) (h : PH) (hf : b_Np_make_152 F k63 a0 i2 i3 i4 h = some (.inr r, h9)) : Go l E m_Np_make (rm d 0 0) (KM E 0 0 (PoE (some (.int r)) h9 x)) 0 0 h x 152 [(0, .ref a0), (2, .int i2), (3, .int i3), (4, .int i4)] [] := by
  unfold b_Np_make_152 at hf
  refine go_iinc (lv' := [(4, .int (i4 + (1 : Int32))), (0, .ref a0), (2, .int i2), (3, .int i3)]) 3 (i4 + (1 : Int32)) d_Np_make_152 rfl rfl rfl (by decide) ?_
  refine go_goto 63 d_Np_make_155 (by decide) ?_
  refine go_sub (lv' := [(0, .ref a0), (2, .int i2), (3, .int i3), (4, .int (i4 + (1 : Int32)))]) [1, 2, 3, 0] rfl ?_
  exact hk63 a0 i2 i3 (i4 + (1 : Int32)) h hf
def b_Np_make_158 (F : Nat) (a0 : Nat) (i3 : Int32) (h : PH) : Option ((Nat ⊕ Int32) × PH) :=
  bnd (gR h a0 9 0) fun x1 => bnd (gR h x1 8 0) fun x2 => bnd (gR h a0 9 0) fun x3 => bnd (gR h x3 8 2) fun x4 => bnd (cK h x2 1) fun _ => bnd (f_Pos_beginWith F x2 x4 h) fun h6 => some (.inr i3, h6)
theorem g_Np_make_158 {l : Launch} {E : ET} {d : Nat} (hd : 128 ≤ d) {F : Nat} {r : Int32} {h9 : PH} {x : Nat}  (a0 : Nat) (i3 : Int32) (h : PH) (hf : b_Np_make_158 F a0 i3 h = some (.inr r, h9)) : Go l E m_Np_make (rm d 0 0) (KM E 0 0 (PoE (some (.int r)) h9 x)) 0 0 h x 158 [(0, .ref a0), (3, .int i3)] [] := by
  unfold b_Np_make_158 at hf
  refine go_aload_n 0 d_Np_make_158 rfl ?_
  obtain ⟨x1, e_x1, hf⟩ := bnd_x hf
  refine go_get d_Np_make_159 (gR_x e_x1) fl_Np_10 ?_
  obtain ⟨x2, e_x2, hf⟩ := bnd_x hf
  refine go_get d_Np_make_162 (gR_x e_x2) fl_Np_68 ?_
  refine go_aload_n 0 d_Np_make_165 rfl ?_
  obtain ⟨x3, e_x3, hf⟩ := bnd_x hf
  refine go_get d_Np_make_166 (gR_x e_x3) fl_Np_10 ?_
  obtain ⟨x4, e_x4, hf⟩ := bnd_x hf
  refine go_get d_Np_make_169 (gR_x e_x4) fl_Np_102 ?_
  obtain ⟨_, e5, hf⟩ := bnd_x hf
  obtain ⟨h6, e_x6, hf⟩ := bnd_x hf
  refine go_callV_N (As := [.ref x4]) (st := []) (c_Pos_beginWith (d := d - 1) (by omega) e_x6) lk_Np_172 rfl rfl e5 (by decide) rfl (rm_ok (by omega)) (Nat.le_of_ble_eq_true rfl) rm_c d_Np_make_172 ?_
  refine go_iload_n 1 d_Np_make_175 rfl ?_
  obtain ⟨e8, e9⟩ := Prod.mk.inj (Option.some.inj hf)
  have e7 := Sum.inr.inj e8; subst e7; subst e9
  exact go_iret d_Np_make_176 rfl ⟨rfl, rfl, rfl⟩
def b_Np_make_63 (F : Nat) (k63 : Nat → Int32 → Int32 → Int32 → PH → Option ((Nat ⊕ Int32) × PH)) (a0 : Nat) (i2 : Int32) (i3 : Int32) (i4 : Int32) (h : PH) : Option ((Nat ⊕ Int32) × PH) :=
  (if (36 : Int32) ≤ i4 then b_Np_make_158 F a0 i3 h else (if i3 ≤ i2 then b_Np_make_158 F a0 i3 h else bnd (gR h a0 9 12) fun x1 => bnd (aI h x1 i4) fun x2 => bnd (gR h a0 9 0) fun x3 => bnd (gR h x3 8 2) fun x4 => bnd (aI h x4 x2) fun x5 => bnd (gR h a0 9 0) fun x6 => bnd (gR h x6 8 2) fun x7 => bnd (sI h x7 x2 (0 : Int32)) fun h8 => bnd (cK h8 a0 9) fun _ => bnd (f_Np_beginTrial F a0 h8) fun h10 => bnd (gR h10 a0 9 9) fun x11 => bnd (gR h10 a0 9 6) fun x12 => bnd (gR h10 a0 9 0) fun x13 => bnd (gR h10 x13 8 1) fun x14 => bnd (cK h10 x11 7) fun _ => bnd2 (f_Sol_countSolutions F x11 x12 x14 (2 : Int32) h10) fun x16 h17 => (if x16 = (1 : Int32) then b_Np_make_152 F k63 a0 i2 (i3 + (-1 : Int32)) i4 h17 else bnd (gR h17 a0 9 0) fun x18 => bnd (gR h17 x18 8 2) fun x19 => bnd (sI h17 x19 x2 x5) fun h20 => b_Np_make_152 F k63 a0 i2 i3 i4 h20)))
def f_Np_make_63 (F : Nat) : Nat → Nat → Int32 → Int32 → Int32 → PH → Option ((Nat ⊕ Int32) × PH)
  | 0 => fun _ _ _ _ _ => none
  | n + 1 => b_Np_make_63 F (f_Np_make_63 F n)
theorem g_Np_make_63 {l : Launch} {E : ET} {d : Nat} (hd : 128 ≤ d) {F : Nat} {r : Int32} {h9 : PH} {x : Nat} {k63 : Nat → Int32 → Int32 → Int32 → PH → Option ((Nat ⊕ Int32) × PH)} (hk63 : ∀ (a0 : Nat) (i2 : Int32) (i3 : Int32) (i4 : Int32) (hh : PH), k63 a0 i2 i3 i4 hh = some (.inr r, h9) → Go l E m_Np_make (rm d 0 0) (KM E 0 0 (PoE (some (.int r)) h9 x)) 0 0 hh x 63 [(0, .ref a0), (2, .int i2), (3, .int i3), (4, .int i4)] []) (a0 : Nat) (i2 : Int32) (i3 : Int32) (i4 : Int32) (h : PH) (hf : b_Np_make_63 F k63 a0 i2 i3 i4 h = some (.inr r, h9)) : Go l E m_Np_make (rm d 0 0) (KM E 0 0 (PoE (some (.int r)) h9 x)) 0 0 h x 63 [(0, .ref a0), (2, .int i2), (3, .int i3), (4, .int i4)] [] := by
  unfold b_Np_make_63 at hf
  refine go_iload 3 d_Np_make_63 rfl ?_
  refine go_bipush (36 : Int32) d_Np_make_65 (by decide) ?_
  refine go_icmp_ge 158 d_Np_make_67 (by decide) (fun q23 => ?_) (fun q23 => ?_)
  · rw [if_pos q23] at hf
    refine go_sub (lv' := [(0, .ref a0), (3, .int i3)]) [0, 2] rfl ?_
    exact g_Np_make_158 hd  a0 i3 h hf
  · rw [if_neg q23] at hf
    refine go_iload_n 2 d_Np_make_70 rfl ?_
    refine go_iload_n 1 d_Np_make_71 rfl ?_
    refine go_icmp_le 158 d_Np_make_72 (by decide) (fun q22 => ?_) (fun q22 => ?_)
    · rw [if_pos q22] at hf
      refine go_sub (lv' := [(0, .ref a0), (3, .int i3)]) [0, 2] rfl ?_
      exact g_Np_make_158 hd  a0 i3 h hf
    · rw [if_neg q22] at hf
      refine go_aload_n 0 d_Np_make_75 rfl ?_
      obtain ⟨x1, e_x1, hf⟩ := bnd_x hf
      refine go_get d_Np_make_76 (gR_x e_x1) fl_Np_65 ?_
      refine go_iload 3 d_Np_make_79 rfl ?_
      obtain ⟨x2, e_x2, hf⟩ := bnd_x hf
      refine go_iaload d_Np_make_81 e_x2 ?_
      refine go_istore (lv' := [(5, .int x2), (0, .ref a0), (2, .int i2), (3, .int i3), (4, .int i4)]) d_Np_make_82 rfl (by decide) ?_
      refine go_aload_n 1 d_Np_make_84 rfl ?_
      obtain ⟨x3, e_x3, hf⟩ := bnd_x hf
      refine go_get d_Np_make_85 (gR_x e_x3) fl_Np_10 ?_
      obtain ⟨x4, e_x4, hf⟩ := bnd_x hf
      refine go_get d_Np_make_88 (gR_x e_x4) fl_Np_102 ?_
      refine go_iload 0 d_Np_make_91 rfl ?_
      obtain ⟨x5, e_x5, hf⟩ := bnd_x hf
      refine go_iaload d_Np_make_93 e_x5 ?_
      refine go_istore (lv' := [(6, .int x5), (5, .int x2), (0, .ref a0), (2, .int i2), (3, .int i3), (4, .int i4)]) d_Np_make_94 rfl (by decide) ?_
      refine go_aload_n 2 d_Np_make_96 rfl ?_
      obtain ⟨x6, e_x6, hf⟩ := bnd_x hf
      refine go_get d_Np_make_97 (gR_x e_x6) fl_Np_10 ?_
      obtain ⟨x7, e_x7, hf⟩ := bnd_x hf
      refine go_get d_Np_make_100 (gR_x e_x7) fl_Np_102 ?_
      refine go_iload 1 d_Np_make_103 rfl ?_
      refine go_iconst (0 : Int32) d_Np_make_105 (by decide) ?_
      obtain ⟨h8, e_h8, hf⟩ := bnd_x hf
      refine go_iastore d_Np_make_106 e_h8 ?_
      refine go_aload_n 2 d_Np_make_107 rfl ?_
      obtain ⟨_, e9, hf⟩ := bnd_x hf
      obtain ⟨h10, e_x10, hf⟩ := bnd_x hf
      refine go_callV_N (As := []) (st := []) (c_Np_beginTrial (d := d - 1) (by omega) e_x10) lk_Np_192 rfl rfl e9 (by decide) rfl (rm_ok (by omega)) (Nat.le_of_ble_eq_true rfl) rm_c d_Np_make_108 ?_
      refine go_aload_n 2 d_Np_make_111 rfl ?_
      obtain ⟨x11, e_x11, hf⟩ := bnd_x hf
      refine go_get d_Np_make_112 (gR_x e_x11) fl_Np_51 ?_
      refine go_aload_n 2 d_Np_make_115 rfl ?_
      obtain ⟨x12, e_x12, hf⟩ := bnd_x hf
      refine go_get d_Np_make_116 (gR_x e_x12) fl_Np_33 ?_
      refine go_aload_n 2 d_Np_make_119 rfl ?_
      obtain ⟨x13, e_x13, hf⟩ := bnd_x hf
      refine go_get d_Np_make_120 (gR_x e_x13) fl_Np_10 ?_
      obtain ⟨x14, e_x14, hf⟩ := bnd_x hf
      refine go_get d_Np_make_123 (gR_x e_x14) fl_Np_129 ?_
      refine go_iconst (2 : Int32) d_Np_make_126 (by decide) ?_
      obtain ⟨_, e15, hf⟩ := bnd_x hf
      obtain ⟨x16, h17, e_x16, hf⟩ := bnd2_x hf
      refine go_callV_I (As := [.ref x12, .ref x14, .int (2 : Int32)]) (st := []) (c_Sol_countSolutions (d := d - 1) (by omega) e_x16) lk_Np_195 rfl rfl e15 (by decide) rfl (rm_ok (by omega)) (Nat.le_of_ble_eq_true rfl) rm_c d_Np_make_127 ?_
      refine go_iconst (1 : Int32) d_Np_make_130 (by decide) ?_
      refine go_icmp_ne 140 d_Np_make_131 (by decide) (fun q21 => ?_) (fun q21 => ?_)
      · rw [if_neg q21] at hf
        refine go_aload_n 2 d_Np_make_140 rfl ?_
        obtain ⟨x18, e_x18, hf⟩ := bnd_x hf
        refine go_get d_Np_make_141 (gR_x e_x18) fl_Np_10 ?_
        obtain ⟨x19, e_x19, hf⟩ := bnd_x hf
        refine go_get d_Np_make_144 (gR_x e_x19) fl_Np_102 ?_
        refine go_iload 1 d_Np_make_147 rfl ?_
        refine go_iload 0 d_Np_make_149 rfl ?_
        obtain ⟨h20, e_h20, hf⟩ := bnd_x hf
        refine go_iastore d_Np_make_151 e_h20 ?_
        refine go_sub (lv' := [(0, .ref a0), (2, .int i2), (3, .int i3), (4, .int i4)]) [2, 3, 4, 5] rfl ?_
        exact g_Np_make_152 hd hk63 a0 i2 i3 i4 h20 hf
      · rw [if_pos q21] at hf
        refine go_iinc (lv' := [(3, .int (i3 + (-1 : Int32))), (6, .int x5), (5, .int x2), (0, .ref a0), (2, .int i2), (4, .int i4)]) 4 (i3 + (-1 : Int32)) d_Np_make_134 rfl rfl rfl (by decide) ?_
        refine go_goto 152 d_Np_make_137 (by decide) ?_
        refine go_sub (lv' := [(0, .ref a0), (2, .int i2), (3, .int (i3 + (-1 : Int32))), (4, .int i4)]) [3, 4, 0, 5] rfl ?_
        exact g_Np_make_152 hd hk63 a0 i2 (i3 + (-1 : Int32)) i4 h17 hf
theorem t_Np_make_63 {l : Launch} {E : ET} {d : Nat} (hd : 128 ≤ d) {F : Nat} {r : Int32} {h9 : PH} {x : Nat}  : ∀ (n : Nat) (a0 : Nat) (i2 : Int32) (i3 : Int32) (i4 : Int32) (hh : PH), f_Np_make_63 F n a0 i2 i3 i4 hh = some (.inr r, h9) → Go l E m_Np_make (rm d 0 0) (KM E 0 0 (PoE (some (.int r)) h9 x)) 0 0 hh x 63 [(0, .ref a0), (2, .int i2), (3, .int i3), (4, .int i4)] [] := by
  intro n
  induction n with
  | zero => intro v0 v1 v2 v3 v4 hf; cases hf
  | succ n ih => intro v0 v1 v2 v3 v4 hf; exact g_Np_make_63 hd ih v0 v1 v2 v3 v4 hf
def f_Np_make (F : Nat) (a0 : Nat) (i1 : Int32) (i2 : Int32) (h : PH) : Option ((Nat ⊕ Int32) × PH) :=
  (if i1 < (0 : Int32) then b_Np_make_20 F h else (if (999999 : Int32) < i1 then b_Np_make_20 F h else (if i2 < (0 : Int32) then b_Np_make_20 F h else (if i2 ≤ (36 : Int32) then bnd (cK h a0 9) fun _ => bnd (f_Np_save a0 h) fun h2 => bnd (gR h2 a0 9 0) fun x3 => bnd (cK h2 x3 8) fun _ => bnd (f_Sta_wipe F x3 h2) fun h5 => bnd (gR h5 a0 9 10) fun x6 => bnd (cK h5 x6 5) fun _ => bnd (f_Shu_seed x6 i1 h5) fun h8 => bnd (cK h8 a0 9) fun _ => bnd (f_Np_fillGrid F a0 h8) fun h10 => bnd (cK h10 a0 9) fun _ => bnd (f_Np_orderCells F a0 h10) fun h12 => f_Np_make_63 F F a0 i2 (36 : Int32) (0 : Int32) h12 else b_Np_make_20 F h))))
theorem g_Np_make_0 {l : Launch} {E : ET} {d : Nat} (hd : 128 ≤ d) {F : Nat} {r : Int32} {h9 : PH} {x : Nat}  (a0 : Nat) (i1 : Int32) (i2 : Int32) (h : PH) (hf : f_Np_make F a0 i1 i2 h = some (.inr r, h9)) : Go l E m_Np_make (rm d 0 0) (KM E 0 0 (PoE (some (.int r)) h9 x)) 0 0 h x 0 [(0, .ref a0), (1, .int i1), (2, .int i2)] [] := by
  unfold f_Np_make at hf
  refine go_iload_n 1 d_Np_make_0 rfl ?_
  refine go_if_lt 20 d_Np_make_1 (by decide) (fun q16 => ?_) (fun q16 => ?_)
  · rw [if_pos q16] at hf
    refine go_sub (lv' := []) [] rfl ?_
    exact g_Np_make_20 hd   h hf
  · rw [if_neg q16] at hf
    refine go_iload_n 1 d_Np_make_4 rfl ?_
    refine go_ldcI (999999 : Int32) d_Np_make_5 ki_Np_180 ?_
    refine go_icmp_gt 20 d_Np_make_7 (by decide) (fun q15 => ?_) (fun q15 => ?_)
    · rw [if_pos q15] at hf
      refine go_sub (lv' := []) [] rfl ?_
      exact g_Np_make_20 hd   h hf
    · rw [if_neg q15] at hf
      refine go_iload_n 2 d_Np_make_10 rfl ?_
      refine go_if_lt 20 d_Np_make_11 (by decide) (fun q14 => ?_) (fun q14 => ?_)
      · rw [if_pos q14] at hf
        refine go_sub (lv' := []) [] rfl ?_
        exact g_Np_make_20 hd   h hf
      · rw [if_neg q14] at hf
        refine go_iload_n 2 d_Np_make_14 rfl ?_
        refine go_bipush (36 : Int32) d_Np_make_15 (by decide) ?_
        refine go_icmp_le 30 d_Np_make_17 (by decide) (fun q13 => ?_) (fun q13 => ?_)
        · rw [if_pos q13] at hf
          refine go_aload_n 0 d_Np_make_30 rfl ?_
          obtain ⟨_, e1, hf⟩ := bnd_x hf
          obtain ⟨h2, e_x2, hf⟩ := bnd_x hf
          refine go_callV_N (As := []) (st := []) (c_Np_save (d := d - 1) (by omega) e_x2) lk_Np_81 rfl rfl e1 (by decide) rfl (rm_ok (by omega)) (Nat.le_of_ble_eq_true rfl) rm_c d_Np_make_31 ?_
          refine go_aload_n 0 d_Np_make_34 rfl ?_
          obtain ⟨x3, e_x3, hf⟩ := bnd_x hf
          refine go_get d_Np_make_35 (gR_x e_x3) fl_Np_10 ?_
          obtain ⟨_, e4, hf⟩ := bnd_x hf
          obtain ⟨h5, e_x5, hf⟩ := bnd_x hf
          refine go_callV_N (As := []) (st := []) (c_Sta_wipe (d := d - 1) (by omega) e_x5) lk_Np_84 rfl rfl e4 (by decide) rfl (rm_ok (by omega)) (Nat.le_of_ble_eq_true rfl) rm_c d_Np_make_38 ?_
          refine go_aload_n 0 d_Np_make_41 rfl ?_
          obtain ⟨x6, e_x6, hf⟩ := bnd_x hf
          refine go_get d_Np_make_42 (gR_x e_x6) fl_Np_57 ?_
          refine go_iload_n 1 d_Np_make_45 rfl ?_
          obtain ⟨_, e7, hf⟩ := bnd_x hf
          obtain ⟨h8, e_x8, hf⟩ := bnd_x hf
          refine go_callV_N (As := [.int i1]) (st := []) (c_Shu_seed (d := d - 1) (by omega) e_x8) lk_Np_183 rfl rfl e7 (by decide) rfl (rm_ok (by omega)) (Nat.le_of_ble_eq_true rfl) rm_c d_Np_make_46 ?_
          refine go_aload_n 0 d_Np_make_49 rfl ?_
          obtain ⟨_, e9, hf⟩ := bnd_x hf
          obtain ⟨h10, e_x10, hf⟩ := bnd_x hf
          refine go_callV_N (As := []) (st := []) (c_Np_fillGrid (d := d - 1) (by omega) e_x10) lk_Np_186 rfl rfl e9 (by decide) rfl (rm_ok (by omega)) (Nat.le_of_ble_eq_true rfl) rm_c d_Np_make_50 ?_
          refine go_aload_n 0 d_Np_make_53 rfl ?_
          obtain ⟨_, e11, hf⟩ := bnd_x hf
          obtain ⟨h12, e_x12, hf⟩ := bnd_x hf
          refine go_callV_N (As := []) (st := []) (c_Np_orderCells (d := d - 1) (by omega) e_x12) lk_Np_189 rfl rfl e11 (by decide) rfl (rm_ok (by omega)) (Nat.le_of_ble_eq_true rfl) rm_c d_Np_make_54 ?_
          refine go_bipush (36 : Int32) d_Np_make_57 (by decide) ?_
          refine go_istore_n (lv' := [(3, .int (36 : Int32)), (0, .ref a0), (1, .int i1), (2, .int i2)]) d_Np_make_59 rfl (by decide) ?_
          refine go_iconst (0 : Int32) d_Np_make_60 (by decide) ?_
          refine go_istore (lv' := [(4, .int (0 : Int32)), (3, .int (36 : Int32)), (0, .ref a0), (1, .int i1), (2, .int i2)]) d_Np_make_61 rfl (by decide) ?_
          refine go_sub (lv' := [(0, .ref a0), (2, .int i2), (3, .int (36 : Int32)), (4, .int (0 : Int32))]) [2, 4, 1, 0] rfl ?_
          exact t_Np_make_63 hd  _ a0 i2 (36 : Int32) (0 : Int32) h12 hf
        · rw [if_neg q13] at hf
          refine go_sub (lv' := []) [] rfl ?_
          exact g_Np_make_20 hd   h hf
theorem c_Np_make {l : Launch} {E : ET} {d : Nat} (hd : 128 ≤ d) {F : Nat} {r : Int32} {h9 : PH} {x : Nat} {a0 : Nat} {i1 : Int32} {i2 : Int32} {h : PH} (hf : f_Np_make F a0 i1 i2 h = some (.inr r, h9)) : Fn l E m_Np_make d 0 0 [.ref a0, .int i1, .int i2] h x (PoE (some (.int r)) h9 x) :=
  Fn.of (by decide +kernel) (Nat.le_of_ble_eq_true rfl) (g_Np_make_0 hd a0 i1 i2 h hf)
theorem gx_Np_make_20 {l : Launch} {E : ET} (hl : l.stackTraces = false) {d : Nat} (hd : 128 ≤ d) {F : Nat} {j : Nat} {h9 : PH} {x : Nat}   (h : PH) (hf : b_Np_make_20 F h = some (.inl j, h9)) : Go l E m_Np_make (rm d 1 6) (KX l E 1 6 (PXk j h9)) 0 0 h x 20 [] [] := by
  unfold b_Np_make_20 at hf
  obtain ⟨e8, e9⟩ := Prod.mk.inj (Option.some.inj hf)
  cases e8; subst e9
  exact go_throwS tw_122_126 (List.mem_of_getElem? (i := 7) rfl) d_Np_make_20 d_Np_make_23 d_Np_make_24 d_Np_make_26 d_Np_make_29 ⟨rfl, rfl⟩ (by omega) (Nat.le_of_ble_eq_true rfl)
theorem gx_Np_make_152 {l : Launch} {E : ET} (hl : l.stackTraces = false) {d : Nat} (hd : 128 ≤ d) {F : Nat} {j : Nat} {h9 : PH} {x : Nat} {k63 : Nat → Int32 → Int32 → Int32 → PH → Option ((Nat ⊕ Int32) × PH)} (hk63 : ∀ (a0 : Nat) (i2 : Int32) (i3 : Int32) (i4 : Int32) (hh : PH), k63 a0 i2 i3 i4 hh = some (.inl j, h9) → Go l E m_Np_make (rm d 1 6) (KX l E 1 6 (PXk j h9)) 0 0 hh x 63 [(0, .ref a0), (2, .int i2), (3, .int i3), (4, .int i4)] []) (a0 : Nat) (i2 : Int32) (i3 : Int32) (i4 : Int32) (h : PH) (hf : b_Np_make_152 F k63 a0 i2 i3 i4 h = some (.inl j, h9)) : Go l E m_Np_make (rm d 1 6) (KX l E 1 6 (PXk j h9)) 0 0 h x 152 [(0, .ref a0), (2, .int i2), (3, .int i3), (4, .int i4)] [] := by
  unfold b_Np_make_152 at hf
  refine go_iinc (lv' := [(4, .int (i4 + (1 : Int32))), (0, .ref a0), (2, .int i2), (3, .int i3)]) 3 (i4 + (1 : Int32)) d_Np_make_152 rfl rfl rfl (by decide) ?_
  refine go_goto 63 d_Np_make_155 (by decide) ?_
  refine go_sub (lv' := [(0, .ref a0), (2, .int i2), (3, .int i3), (4, .int (i4 + (1 : Int32)))]) [1, 2, 3, 0] rfl ?_
  exact hk63 a0 i2 i3 (i4 + (1 : Int32)) h hf
theorem gx_Np_make_158 {l : Launch} {E : ET} (hl : l.stackTraces = false) {d : Nat} (hd : 128 ≤ d) {F : Nat} {j : Nat} {h9 : PH} {x : Nat}  (a0 : Nat) (i3 : Int32) (h : PH) (hf : b_Np_make_158 F a0 i3 h = some (.inl j, h9)) : Go l E m_Np_make (rm d 1 6) (KX l E 1 6 (PXk j h9)) 0 0 h x 158 [(0, .ref a0), (3, .int i3)] [] := by
  unfold b_Np_make_158 at hf
  refine go_aload_n 0 d_Np_make_158 rfl ?_
  obtain ⟨x1, e_x1, hf⟩ := bnd_x hf
  refine go_get d_Np_make_159 (gR_x e_x1) fl_Np_10 ?_
  obtain ⟨x2, e_x2, hf⟩ := bnd_x hf
  refine go_get d_Np_make_162 (gR_x e_x2) fl_Np_68 ?_
  refine go_aload_n 0 d_Np_make_165 rfl ?_
  obtain ⟨x3, e_x3, hf⟩ := bnd_x hf
  refine go_get d_Np_make_166 (gR_x e_x3) fl_Np_10 ?_
  obtain ⟨x4, e_x4, hf⟩ := bnd_x hf
  refine go_get d_Np_make_169 (gR_x e_x4) fl_Np_102 ?_
  obtain ⟨_, e5, hf⟩ := bnd_x hf
  obtain ⟨h6, e_x6, hf⟩ := bnd_x hf
  refine go_callV_N (As := [.ref x4]) (st := []) (c_Pos_beginWith (d := d - 1) (by omega) e_x6) lk_Np_172 rfl rfl e5 (by decide) rfl (rm_ok1 (by omega)) (Nat.le_of_ble_eq_true rfl) rm_c1 d_Np_make_172 ?_
  refine go_iload_n 1 d_Np_make_175 rfl ?_
  cases (Prod.mk.inj (Option.some.inj hf)).1
theorem gx_Np_make_63 {l : Launch} {E : ET} (hl : l.stackTraces = false) {d : Nat} (hd : 128 ≤ d) {F : Nat} {j : Nat} {h9 : PH} {x : Nat} {k63 : Nat → Int32 → Int32 → Int32 → PH → Option ((Nat ⊕ Int32) × PH)} (hk63 : ∀ (a0 : Nat) (i2 : Int32) (i3 : Int32) (i4 : Int32) (hh : PH), k63 a0 i2 i3 i4 hh = some (.inl j, h9) → Go l E m_Np_make (rm d 1 6) (KX l E 1 6 (PXk j h9)) 0 0 hh x 63 [(0, .ref a0), (2, .int i2), (3, .int i3), (4, .int i4)] []) (a0 : Nat) (i2 : Int32) (i3 : Int32) (i4 : Int32) (h : PH) (hf : b_Np_make_63 F k63 a0 i2 i3 i4 h = some (.inl j, h9)) : Go l E m_Np_make (rm d 1 6) (KX l E 1 6 (PXk j h9)) 0 0 h x 63 [(0, .ref a0), (2, .int i2), (3, .int i3), (4, .int i4)] [] := by
  unfold b_Np_make_63 at hf
  refine go_iload 3 d_Np_make_63 rfl ?_
  refine go_bipush (36 : Int32) d_Np_make_65 (by decide) ?_
  refine go_icmp_ge 158 d_Np_make_67 (by decide) (fun q23 => ?_) (fun q23 => ?_)
  · rw [if_pos q23] at hf
    refine go_sub (lv' := [(0, .ref a0), (3, .int i3)]) [0, 2] rfl ?_
    exact gx_Np_make_158 hl hd  a0 i3 h hf
  · rw [if_neg q23] at hf
    refine go_iload_n 2 d_Np_make_70 rfl ?_
    refine go_iload_n 1 d_Np_make_71 rfl ?_
    refine go_icmp_le 158 d_Np_make_72 (by decide) (fun q22 => ?_) (fun q22 => ?_)
    · rw [if_pos q22] at hf
      refine go_sub (lv' := [(0, .ref a0), (3, .int i3)]) [0, 2] rfl ?_
      exact gx_Np_make_158 hl hd  a0 i3 h hf
    · rw [if_neg q22] at hf
      refine go_aload_n 0 d_Np_make_75 rfl ?_
      obtain ⟨x1, e_x1, hf⟩ := bnd_x hf
      refine go_get d_Np_make_76 (gR_x e_x1) fl_Np_65 ?_
      refine go_iload 3 d_Np_make_79 rfl ?_
      obtain ⟨x2, e_x2, hf⟩ := bnd_x hf
      refine go_iaload d_Np_make_81 e_x2 ?_
      refine go_istore (lv' := [(5, .int x2), (0, .ref a0), (2, .int i2), (3, .int i3), (4, .int i4)]) d_Np_make_82 rfl (by decide) ?_
      refine go_aload_n 1 d_Np_make_84 rfl ?_
      obtain ⟨x3, e_x3, hf⟩ := bnd_x hf
      refine go_get d_Np_make_85 (gR_x e_x3) fl_Np_10 ?_
      obtain ⟨x4, e_x4, hf⟩ := bnd_x hf
      refine go_get d_Np_make_88 (gR_x e_x4) fl_Np_102 ?_
      refine go_iload 0 d_Np_make_91 rfl ?_
      obtain ⟨x5, e_x5, hf⟩ := bnd_x hf
      refine go_iaload d_Np_make_93 e_x5 ?_
      refine go_istore (lv' := [(6, .int x5), (5, .int x2), (0, .ref a0), (2, .int i2), (3, .int i3), (4, .int i4)]) d_Np_make_94 rfl (by decide) ?_
      refine go_aload_n 2 d_Np_make_96 rfl ?_
      obtain ⟨x6, e_x6, hf⟩ := bnd_x hf
      refine go_get d_Np_make_97 (gR_x e_x6) fl_Np_10 ?_
      obtain ⟨x7, e_x7, hf⟩ := bnd_x hf
      refine go_get d_Np_make_100 (gR_x e_x7) fl_Np_102 ?_
      refine go_iload 1 d_Np_make_103 rfl ?_
      refine go_iconst (0 : Int32) d_Np_make_105 (by decide) ?_
      obtain ⟨h8, e_h8, hf⟩ := bnd_x hf
      refine go_iastore d_Np_make_106 e_h8 ?_
      refine go_aload_n 2 d_Np_make_107 rfl ?_
      obtain ⟨_, e9, hf⟩ := bnd_x hf
      obtain ⟨h10, e_x10, hf⟩ := bnd_x hf
      refine go_callV_N (As := []) (st := []) (c_Np_beginTrial (d := d - 1) (by omega) e_x10) lk_Np_192 rfl rfl e9 (by decide) rfl (rm_ok1 (by omega)) (Nat.le_of_ble_eq_true rfl) rm_c1 d_Np_make_108 ?_
      refine go_aload_n 2 d_Np_make_111 rfl ?_
      obtain ⟨x11, e_x11, hf⟩ := bnd_x hf
      refine go_get d_Np_make_112 (gR_x e_x11) fl_Np_51 ?_
      refine go_aload_n 2 d_Np_make_115 rfl ?_
      obtain ⟨x12, e_x12, hf⟩ := bnd_x hf
      refine go_get d_Np_make_116 (gR_x e_x12) fl_Np_33 ?_
      refine go_aload_n 2 d_Np_make_119 rfl ?_
      obtain ⟨x13, e_x13, hf⟩ := bnd_x hf
      refine go_get d_Np_make_120 (gR_x e_x13) fl_Np_10 ?_
      obtain ⟨x14, e_x14, hf⟩ := bnd_x hf
      refine go_get d_Np_make_123 (gR_x e_x14) fl_Np_129 ?_
      refine go_iconst (2 : Int32) d_Np_make_126 (by decide) ?_
      obtain ⟨_, e15, hf⟩ := bnd_x hf
      obtain ⟨x16, h17, e_x16, hf⟩ := bnd2_x hf
      refine go_callV_I (As := [.ref x12, .ref x14, .int (2 : Int32)]) (st := []) (c_Sol_countSolutions (d := d - 1) (by omega) e_x16) lk_Np_195 rfl rfl e15 (by decide) rfl (rm_ok1 (by omega)) (Nat.le_of_ble_eq_true rfl) rm_c1 d_Np_make_127 ?_
      refine go_iconst (1 : Int32) d_Np_make_130 (by decide) ?_
      refine go_icmp_ne 140 d_Np_make_131 (by decide) (fun q21 => ?_) (fun q21 => ?_)
      · rw [if_neg q21] at hf
        refine go_aload_n 2 d_Np_make_140 rfl ?_
        obtain ⟨x18, e_x18, hf⟩ := bnd_x hf
        refine go_get d_Np_make_141 (gR_x e_x18) fl_Np_10 ?_
        obtain ⟨x19, e_x19, hf⟩ := bnd_x hf
        refine go_get d_Np_make_144 (gR_x e_x19) fl_Np_102 ?_
        refine go_iload 1 d_Np_make_147 rfl ?_
        refine go_iload 0 d_Np_make_149 rfl ?_
        obtain ⟨h20, e_h20, hf⟩ := bnd_x hf
        refine go_iastore d_Np_make_151 e_h20 ?_
        refine go_sub (lv' := [(0, .ref a0), (2, .int i2), (3, .int i3), (4, .int i4)]) [2, 3, 4, 5] rfl ?_
        exact gx_Np_make_152 hl hd hk63 a0 i2 i3 i4 h20 hf
      · rw [if_pos q21] at hf
        refine go_iinc (lv' := [(3, .int (i3 + (-1 : Int32))), (6, .int x5), (5, .int x2), (0, .ref a0), (2, .int i2), (4, .int i4)]) 4 (i3 + (-1 : Int32)) d_Np_make_134 rfl rfl rfl (by decide) ?_
        refine go_goto 152 d_Np_make_137 (by decide) ?_
        refine go_sub (lv' := [(0, .ref a0), (2, .int i2), (3, .int (i3 + (-1 : Int32))), (4, .int i4)]) [3, 4, 0, 5] rfl ?_
        exact gx_Np_make_152 hl hd hk63 a0 i2 (i3 + (-1 : Int32)) i4 h17 hf
theorem tx_Np_make_63 {l : Launch} {E : ET} (hl : l.stackTraces = false) {d : Nat} (hd : 128 ≤ d) {F : Nat} {j : Nat} {h9 : PH} {x : Nat}  : ∀ (n : Nat) (a0 : Nat) (i2 : Int32) (i3 : Int32) (i4 : Int32) (hh : PH), f_Np_make_63 F n a0 i2 i3 i4 hh = some (.inl j, h9) → Go l E m_Np_make (rm d 1 6) (KX l E 1 6 (PXk j h9)) 0 0 hh x 63 [(0, .ref a0), (2, .int i2), (3, .int i3), (4, .int i4)] [] := by
  intro n
  induction n with
  | zero => intro v0 v1 v2 v3 v4 hf; cases hf
  | succ n ih => intro v0 v1 v2 v3 v4 hf; exact gx_Np_make_63 hl hd ih v0 v1 v2 v3 v4 hf
theorem gx_Np_make_0 {l : Launch} {E : ET} (hl : l.stackTraces = false) {d : Nat} (hd : 128 ≤ d) {F : Nat} {j : Nat} {h9 : PH} {x : Nat}  (a0 : Nat) (i1 : Int32) (i2 : Int32) (h : PH) (hf : f_Np_make F a0 i1 i2 h = some (.inl j, h9)) : Go l E m_Np_make (rm d 1 6) (KX l E 1 6 (PXk j h9)) 0 0 h x 0 [(0, .ref a0), (1, .int i1), (2, .int i2)] [] := by
  unfold f_Np_make at hf
  refine go_iload_n 1 d_Np_make_0 rfl ?_
  refine go_if_lt 20 d_Np_make_1 (by decide) (fun q16 => ?_) (fun q16 => ?_)
  · rw [if_pos q16] at hf
    refine go_sub (lv' := []) [] rfl ?_
    exact gx_Np_make_20 hl hd   h hf
  · rw [if_neg q16] at hf
    refine go_iload_n 1 d_Np_make_4 rfl ?_
    refine go_ldcI (999999 : Int32) d_Np_make_5 ki_Np_180 ?_
    refine go_icmp_gt 20 d_Np_make_7 (by decide) (fun q15 => ?_) (fun q15 => ?_)
    · rw [if_pos q15] at hf
      refine go_sub (lv' := []) [] rfl ?_
      exact gx_Np_make_20 hl hd   h hf
    · rw [if_neg q15] at hf
      refine go_iload_n 2 d_Np_make_10 rfl ?_
      refine go_if_lt 20 d_Np_make_11 (by decide) (fun q14 => ?_) (fun q14 => ?_)
      · rw [if_pos q14] at hf
        refine go_sub (lv' := []) [] rfl ?_
        exact gx_Np_make_20 hl hd   h hf
      · rw [if_neg q14] at hf
        refine go_iload_n 2 d_Np_make_14 rfl ?_
        refine go_bipush (36 : Int32) d_Np_make_15 (by decide) ?_
        refine go_icmp_le 30 d_Np_make_17 (by decide) (fun q13 => ?_) (fun q13 => ?_)
        · rw [if_pos q13] at hf
          refine go_aload_n 0 d_Np_make_30 rfl ?_
          obtain ⟨_, e1, hf⟩ := bnd_x hf
          obtain ⟨h2, e_x2, hf⟩ := bnd_x hf
          refine go_callV_N (As := []) (st := []) (c_Np_save (d := d - 1) (by omega) e_x2) lk_Np_81 rfl rfl e1 (by decide) rfl (rm_ok1 (by omega)) (Nat.le_of_ble_eq_true rfl) rm_c1 d_Np_make_31 ?_
          refine go_aload_n 0 d_Np_make_34 rfl ?_
          obtain ⟨x3, e_x3, hf⟩ := bnd_x hf
          refine go_get d_Np_make_35 (gR_x e_x3) fl_Np_10 ?_
          obtain ⟨_, e4, hf⟩ := bnd_x hf
          obtain ⟨h5, e_x5, hf⟩ := bnd_x hf
          refine go_callV_N (As := []) (st := []) (c_Sta_wipe (d := d - 1) (by omega) e_x5) lk_Np_84 rfl rfl e4 (by decide) rfl (rm_ok1 (by omega)) (Nat.le_of_ble_eq_true rfl) rm_c1 d_Np_make_38 ?_
          refine go_aload_n 0 d_Np_make_41 rfl ?_
          obtain ⟨x6, e_x6, hf⟩ := bnd_x hf
          refine go_get d_Np_make_42 (gR_x e_x6) fl_Np_57 ?_
          refine go_iload_n 1 d_Np_make_45 rfl ?_
          obtain ⟨_, e7, hf⟩ := bnd_x hf
          obtain ⟨h8, e_x8, hf⟩ := bnd_x hf
          refine go_callV_N (As := [.int i1]) (st := []) (c_Shu_seed (d := d - 1) (by omega) e_x8) lk_Np_183 rfl rfl e7 (by decide) rfl (rm_ok1 (by omega)) (Nat.le_of_ble_eq_true rfl) rm_c1 d_Np_make_46 ?_
          refine go_aload_n 0 d_Np_make_49 rfl ?_
          obtain ⟨_, e9, hf⟩ := bnd_x hf
          obtain ⟨h10, e_x10, hf⟩ := bnd_x hf
          refine go_callV_N (As := []) (st := []) (c_Np_fillGrid (d := d - 1) (by omega) e_x10) lk_Np_186 rfl rfl e9 (by decide) rfl (rm_ok1 (by omega)) (Nat.le_of_ble_eq_true rfl) rm_c1 d_Np_make_50 ?_
          refine go_aload_n 0 d_Np_make_53 rfl ?_
          obtain ⟨_, e11, hf⟩ := bnd_x hf
          obtain ⟨h12, e_x12, hf⟩ := bnd_x hf
          refine go_callV_N (As := []) (st := []) (c_Np_orderCells (d := d - 1) (by omega) e_x12) lk_Np_189 rfl rfl e11 (by decide) rfl (rm_ok1 (by omega)) (Nat.le_of_ble_eq_true rfl) rm_c1 d_Np_make_54 ?_
          refine go_bipush (36 : Int32) d_Np_make_57 (by decide) ?_
          refine go_istore_n (lv' := [(3, .int (36 : Int32)), (0, .ref a0), (1, .int i1), (2, .int i2)]) d_Np_make_59 rfl (by decide) ?_
          refine go_iconst (0 : Int32) d_Np_make_60 (by decide) ?_
          refine go_istore (lv' := [(4, .int (0 : Int32)), (3, .int (36 : Int32)), (0, .ref a0), (1, .int i1), (2, .int i2)]) d_Np_make_61 rfl (by decide) ?_
          refine go_sub (lv' := [(0, .ref a0), (2, .int i2), (3, .int (36 : Int32)), (4, .int (0 : Int32))]) [2, 4, 1, 0] rfl ?_
          exact tx_Np_make_63 hl hd  _ a0 i2 (36 : Int32) (0 : Int32) h12 hf
        · rw [if_neg q13] at hf
          refine go_sub (lv' := []) [] rfl ?_
          exact gx_Np_make_20 hl hd   h hf
theorem x_Np_make {l : Launch} {E : ET} (hl : l.stackTraces = false) {d : Nat} (hd : 128 ≤ d) {F : Nat} {j : Nat} {h9 : PH} {x : Nat} {a0 : Nat} {i1 : Int32} {i2 : Int32} {h : PH} (hf : f_Np_make F a0 i1 i2 h = some (.inl j, h9)) : FnT l E m_Np_make d [.ref a0, .int i1, .int i2] h x (PXk j h9) :=
  FnT.of hl (by decide +kernel) (Nat.le_of_ble_eq_true rfl) (gx_Np_make_0 hl hd a0 i1 i2 h hf)
theorem d_Np_checkWhat_0 : decode prog_1_method_34_code 0 = .ok (.iload_n 0, 1) := by decide +kernel
theorem d_Np_checkWhat_1 : decode prog_1_method_34_code 1 = .ok (.ifCond .lt 8, 3) := by decide +kernel
theorem d_Np_checkWhat_4 : decode prog_1_method_34_code 4 = .ok (.iload_n 0, 1) := by decide +kernel
theorem d_Np_checkWhat_5 : decode prog_1_method_34_code 5 = .ok (.iload_n 1, 1) := by decide +kernel
theorem d_Np_checkWhat_6 : decode prog_1_method_34_code 6 = .ok (.if_icmp .le 14, 3) := by decide +kernel
theorem d_Np_checkWhat_9 : decode prog_1_method_34_code 9 = .ok (.new 122, 3) := by decide +kernel
theorem d_Np_checkWhat_12 : decode prog_1_method_34_code 12 = .ok (.dup, 1) := by decide +kernel
theorem d_Np_checkWhat_13 : decode prog_1_method_34_code 13 = .ok (.ldc_w 329, 3) := by decide +kernel
theorem d_Np_checkWhat_16 : decode prog_1_method_34_code 16 = .ok (.invokespecial 126, 3) := by decide +kernel
theorem d_Np_checkWhat_19 : decode prog_1_method_34_code 19 = .ok (.athrow, 1) := by decide +kernel
theorem d_Np_checkWhat_20 : decode prog_1_method_34_code 20 = .ok (.return_, 1) := by decide +kernel
def b_Np_checkWhat_9 (h : PH) : Option ((Nat ⊕ Unit) × PH) :=
  some (.inl 1, h)
theorem g_Np_checkWhat_9 {l : Launch} {E : ET} {d : Nat} (hd : 6 ≤ d) {h9 : PH} {x : Nat}   (h : PH) (hf : b_Np_checkWhat_9 h = some (.inr (), h9)) : Go l E m_Np_checkWhat (rm d 0 0) (KM E 0 0 (PoE none h9 x)) 0 0 h x 9 [] [] := by
  unfold b_Np_checkWhat_9 at hf
  cases (Prod.mk.inj (Option.some.inj hf)).1
def f_Np_checkWhat (i0 : Int32) (i1 : Int32) (h : PH) : Option ((Nat ⊕ Unit) × PH) :=
  (if i0 < (0 : Int32) then b_Np_checkWhat_9 h else (if i0 ≤ i1 then some (.inr (), h) else b_Np_checkWhat_9 h))
theorem g_Np_checkWhat_0 {l : Launch} {E : ET} {d : Nat} (hd : 6 ≤ d) {h9 : PH} {x : Nat}  (i0 : Int32) (i1 : Int32) (h : PH) (hf : f_Np_checkWhat i0 i1 h = some (.inr (), h9)) : Go l E m_Np_checkWhat (rm d 0 0) (KM E 0 0 (PoE none h9 x)) 0 0 h x 0 [(0, .int i0), (1, .int i1)] [] := by
  unfold f_Np_checkWhat at hf
  refine go_iload_n 0 d_Np_checkWhat_0 rfl ?_
  refine go_if_lt 9 d_Np_checkWhat_1 (by decide) (fun q2 => ?_) (fun q2 => ?_)
  · rw [if_pos q2] at hf
    refine go_sub (lv' := []) [] rfl ?_
    exact g_Np_checkWhat_9 hd   h hf
  · rw [if_neg q2] at hf
    refine go_iload_n 0 d_Np_checkWhat_4 rfl ?_
    refine go_iload_n 1 d_Np_checkWhat_5 rfl ?_
    refine go_icmp_le 20 d_Np_checkWhat_6 (by decide) (fun q1 => ?_) (fun q1 => ?_)
    · rw [if_pos q1] at hf
      obtain ⟨e8, e9⟩ := Prod.mk.inj (Option.some.inj hf)
      subst e9
      exact go_vret d_Np_checkWhat_20 rfl ⟨rfl, rfl, rfl⟩
    · rw [if_neg q1] at hf
      refine go_sub (lv' := []) [] rfl ?_
      exact g_Np_checkWhat_9 hd   h hf
theorem c_Np_checkWhat {l : Launch} {E : ET} {d : Nat} (hd : 6 ≤ d) {h9 : PH} {x : Nat} {i0 : Int32} {i1 : Int32} {h : PH} (hf : f_Np_checkWhat i0 i1 h = some (.inr (), h9)) : Fn l E m_Np_checkWhat d 0 0 [.int i0, .int i1] h x (PoE none h9 x) :=
  Fn.of (by decide +kernel) (Nat.le_of_ble_eq_true rfl) (g_Np_checkWhat_0 hd i0 i1 h hf)
theorem gx_Np_checkWhat_9 {l : Launch} {E : ET} (hl : l.stackTraces = false) {d : Nat} (hd : 6 ≤ d) {j : Nat} {h9 : PH} {x : Nat}   (h : PH) (hf : b_Np_checkWhat_9 h = some (.inl j, h9)) : Go l E m_Np_checkWhat (rm d 1 6) (KX l E 1 6 (PXk j h9)) 0 0 h x 9 [] [] := by
  unfold b_Np_checkWhat_9 at hf
  obtain ⟨e8, e9⟩ := Prod.mk.inj (Option.some.inj hf)
  cases e8; subst e9
  exact go_throwSW tw_122_126 (List.mem_of_getElem? (i := 0) rfl) d_Np_checkWhat_9 d_Np_checkWhat_12 d_Np_checkWhat_13 d_Np_checkWhat_16 d_Np_checkWhat_19 ⟨rfl, rfl⟩ (by omega) (Nat.le_of_ble_eq_true rfl)
theorem gx_Np_checkWhat_0 {l : Launch} {E : ET} (hl : l.stackTraces = false) {d : Nat} (hd : 6 ≤ d) {j : Nat} {h9 : PH} {x : Nat}  (i0 : Int32) (i1 : Int32) (h : PH) (hf : f_Np_checkWhat i0 i1 h = some (.inl j, h9)) : Go l E m_Np_checkWhat (rm d 1 6) (KX l E 1 6 (PXk j h9)) 0 0 h x 0 [(0, .int i0), (1, .int i1)] [] := by
  unfold f_Np_checkWhat at hf
  refine go_iload_n 0 d_Np_checkWhat_0 rfl ?_
  refine go_if_lt 9 d_Np_checkWhat_1 (by decide) (fun q2 => ?_) (fun q2 => ?_)
  · rw [if_pos q2] at hf
    refine go_sub (lv' := []) [] rfl ?_
    exact gx_Np_checkWhat_9 hl hd   h hf
  · rw [if_neg q2] at hf
    refine go_iload_n 0 d_Np_checkWhat_4 rfl ?_
    refine go_iload_n 1 d_Np_checkWhat_5 rfl ?_
    refine go_icmp_le 20 d_Np_checkWhat_6 (by decide) (fun q1 => ?_) (fun q1 => ?_)
    · rw [if_pos q1] at hf
      cases (Prod.mk.inj (Option.some.inj hf)).1
    · rw [if_neg q1] at hf
      refine go_sub (lv' := []) [] rfl ?_
      exact gx_Np_checkWhat_9 hl hd   h hf
theorem x_Np_checkWhat {l : Launch} {E : ET} (hl : l.stackTraces = false) {d : Nat} (hd : 6 ≤ d) {j : Nat} {h9 : PH} {x : Nat} {i0 : Int32} {i1 : Int32} {h : PH} (hf : f_Np_checkWhat i0 i1 h = some (.inl j, h9)) : FnT l E m_Np_checkWhat d [.int i0, .int i1] h x (PXk j h9) :=
  FnT.of hl (by decide +kernel) (Nat.le_of_ble_eq_true rfl) (gx_Np_checkWhat_0 hl hd i0 i1 h hf)
theorem d_Np_constraint_0 : decode prog_1_method_9_code 0 = .ok (.aload_n 0, 1) := by decide +kernel
theorem d_Np_constraint_1 : decode prog_1_method_9_code 1 = .ok (.iload_n 1, 1) := by decide +kernel
theorem d_Np_constraint_2 : decode prog_1_method_9_code 2 = .ok (.invokevirtual 151, 3) := by decide +kernel
theorem d_Np_constraint_5 : decode prog_1_method_9_code 5 = .ok (.iload_n 2, 1) := by decide +kernel
theorem d_Np_constraint_6 : decode prog_1_method_9_code 6 = .ok (.iconst 2, 1) := by decide +kernel
theorem d_Np_constraint_7 : decode prog_1_method_9_code 7 = .ok (.invokestatic 199, 3) := by decide +kernel
theorem d_Np_constraint_10 : decode prog_1_method_9_code 10 = .ok (.iload_n 2, 1) := by decide +kernel
theorem d_Np_constraint_11 : decode prog_1_method_9_code 11 = .ok (.ifCond .ne 16, 3) := by decide +kernel
theorem d_Np_constraint_14 : decode prog_1_method_9_code 14 = .ok (.aload_n 0, 1) := by decide +kernel
theorem d_Np_constraint_15 : decode prog_1_method_9_code 15 = .ok (.getfield 10, 3) := by decide +kernel
theorem d_Np_constraint_18 : decode prog_1_method_9_code 18 = .ok (.getfield 129, 3) := by decide +kernel
theorem d_Np_constraint_21 : decode prog_1_method_9_code 21 = .ok (.getfield 202, 3) := by decide +kernel
theorem d_Np_constraint_24 : decode prog_1_method_9_code 24 = .ok (.iload_n 1, 1) := by decide +kernel
theorem d_Np_constraint_25 : decode prog_1_method_9_code 25 = .ok (.iaload, 1) := by decide +kernel
theorem d_Np_constraint_26 : decode prog_1_method_9_code 26 = .ok (.ireturn, 1) := by decide +kernel
theorem d_Np_constraint_27 : decode prog_1_method_9_code 27 = .ok (.iload_n 2, 1) := by decide +kernel
theorem d_Np_constraint_28 : decode prog_1_method_9_code 28 = .ok (.iconst 1, 1) := by decide +kernel
theorem d_Np_constraint_29 : decode prog_1_method_9_code 29 = .ok (.if_icmp .ne 18, 3) := by decide +kernel
theorem d_Np_constraint_32 : decode prog_1_method_9_code 32 = .ok (.aload_n 0, 1) := by decide +kernel
theorem d_Np_constraint_33 : decode prog_1_method_9_code 33 = .ok (.getfield 10, 3) := by decide +kernel
theorem d_Np_constraint_36 : decode prog_1_method_9_code 36 = .ok (.getfield 129, 3) := by decide +kernel
theorem d_Np_constraint_39 : decode prog_1_method_9_code 39 = .ok (.getfield 205, 3) := by decide +kernel
theorem d_Np_constraint_42 : decode prog_1_method_9_code 42 = .ok (.iload_n 1, 1) := by decide +kernel
theorem d_Np_constraint_43 : decode prog_1_method_9_code 43 = .ok (.iaload, 1) := by decide +kernel
theorem d_Np_constraint_44 : decode prog_1_method_9_code 44 = .ok (.goto 15, 3) := by decide +kernel
theorem d_Np_constraint_47 : decode prog_1_method_9_code 47 = .ok (.aload_n 0, 1) := by decide +kernel
theorem d_Np_constraint_48 : decode prog_1_method_9_code 48 = .ok (.getfield 10, 3) := by decide +kernel
theorem d_Np_constraint_51 : decode prog_1_method_9_code 51 = .ok (.getfield 129, 3) := by decide +kernel
theorem d_Np_constraint_54 : decode prog_1_method_9_code 54 = .ok (.getfield 169, 3) := by decide +kernel
theorem d_Np_constraint_57 : decode prog_1_method_9_code 57 = .ok (.iload_n 1, 1) := by decide +kernel
theorem d_Np_constraint_58 : decode prog_1_method_9_code 58 = .ok (.iaload, 1) := by decide +kernel
theorem d_Np_constraint_59 : decode prog_1_method_9_code 59 = .ok (.ireturn, 1) := by decide +kernel
def f_Np_constraint (a0 : Nat) (i1 : Int32) (i2 : Int32) (h : PH) : Option ((Nat ⊕ Int32) × PH) :=
  bnd (cK h a0 9) fun _ => bndT (f_Np_checkConstraint a0 i1 h) fun x2 h3 => bndT (f_Np_checkWhat i2 (2 : Int32) h3) fun x4 h5 => (if i2 = (0 : Int32) then bnd (gR h5 a0 9 0) fun x15 => bnd (gR h5 x15 8 1) fun x16 => bnd (gR h5 x16 4 0) fun x17 => bnd (aI h5 x17 i1) fun x18 => some (.inr x18, h5) else (if i2 = (1 : Int32) then bnd (gR h5 a0 9 0) fun x10 => bnd (gR h5 x10 8 1) fun x11 => bnd (gR h5 x11 4 1) fun x12 => bnd (aI h5 x12 i1) fun x13 => some (.inr x13, h5) else bnd (gR h5 a0 9 0) fun x6 => bnd (gR h5 x6 8 1) fun x7 => bnd (gR h5 x7 4 2) fun x8 => bnd (aI h5 x8 i1) fun x9 => some (.inr x9, h5)))
theorem g_Np_constraint_0 {l : Launch} {E : ET} {d : Nat} (hd : 7 ≤ d) {r : Int32} {h9 : PH} {x : Nat}  (a0 : Nat) (i1 : Int32) (i2 : Int32) (h : PH) (hf : f_Np_constraint a0 i1 i2 h = some (.inr r, h9)) : Go l E m_Np_constraint (rm d 0 0) (KM E 0 0 (PoE (some (.int r)) h9 x)) 0 0 h x 0 [(0, .ref a0), (1, .int i1), (2, .int i2)] [] := by
  unfold f_Np_constraint at hf
  refine go_aload_n 0 d_Np_constraint_0 rfl ?_
  refine go_iload_n 1 d_Np_constraint_1 rfl ?_
  obtain ⟨_, e1, hf⟩ := bnd_x hf
  obtain ⟨x2, h3, e_x2, hf⟩ := bndT_r hf
  refine go_callV_N (As := [.int i1]) (st := []) (c_Np_checkConstraint (d := d - 1) (by omega) e_x2) lk_Np_151 rfl rfl e1 (by decide) rfl (rm_ok (by omega)) (Nat.le_of_ble_eq_true rfl) rm_c d_Np_constraint_2 ?_
  refine go_iload_n 2 d_Np_constraint_5 rfl ?_
  refine go_iconst (2 : Int32) d_Np_constraint_6 (by decide) ?_
  obtain ⟨x4, h5, e_x4, hf⟩ := bndT_r hf
  refine go_callS_N (As := [.int i2, .int (2 : Int32)]) (st := []) (c_Np_checkWhat (d := d - 1) (by omega) e_x4) lk_Np_199 rfl rfl (rm_ok (by omega)) (Nat.le_of_ble_eq_true rfl) rm_c d_Np_constraint_7 ?_
  refine go_iload_n 2 d_Np_constraint_10 rfl ?_
  refine go_if_ne 27 d_Np_constraint_11 (by decide) (fun q19 => ?_) (fun q19 => ?_)
  · rw [if_neg q19] at hf
    refine go_iload_n 2 d_Np_constraint_27 rfl ?_
    refine go_iconst (1 : Int32) d_Np_constraint_28 (by decide) ?_
    refine go_icmp_ne 47 d_Np_constraint_29 (by decide) (fun q14 => ?_) (fun q14 => ?_)
    · rw [if_neg q14] at hf
      refine go_aload_n 0 d_Np_constraint_47 rfl ?_
      obtain ⟨x6, e_x6, hf⟩ := bnd_x hf
      refine go_get d_Np_constraint_48 (gR_x e_x6) fl_Np_10 ?_
      obtain ⟨x7, e_x7, hf⟩ := bnd_x hf
      refine go_get d_Np_constraint_51 (gR_x e_x7) fl_Np_129 ?_
      obtain ⟨x8, e_x8, hf⟩ := bnd_x hf
      refine go_get d_Np_constraint_54 (gR_x e_x8) fl_Np_169 ?_
      refine go_iload_n 1 d_Np_constraint_57 rfl ?_
      obtain ⟨x9, e_x9, hf⟩ := bnd_x hf
      refine go_iaload d_Np_constraint_58 e_x9 ?_
      obtain ⟨e8, e9⟩ := Prod.mk.inj (Option.some.inj hf)
      have e7 := Sum.inr.inj e8; subst e7; subst e9
      exact go_iret d_Np_constraint_59 rfl ⟨rfl, rfl, rfl⟩
    · rw [if_pos q14] at hf
      refine go_aload_n 0 d_Np_constraint_32 rfl ?_
      obtain ⟨x10, e_x10, hf⟩ := bnd_x hf
      refine go_get d_Np_constraint_33 (gR_x e_x10) fl_Np_10 ?_
      obtain ⟨x11, e_x11, hf⟩ := bnd_x hf
      refine go_get d_Np_constraint_36 (gR_x e_x11) fl_Np_129 ?_
      obtain ⟨x12, e_x12, hf⟩ := bnd_x hf
      refine go_get d_Np_constraint_39 (gR_x e_x12) fl_Np_205 ?_
      refine go_iload_n 1 d_Np_constraint_42 rfl ?_
      obtain ⟨x13, e_x13, hf⟩ := bnd_x hf
      refine go_iaload d_Np_constraint_43 e_x13 ?_
      refine go_goto 59 d_Np_constraint_44 (by decide) ?_
      obtain ⟨e8, e9⟩ := Prod.mk.inj (Option.some.inj hf)
      have e7 := Sum.inr.inj e8; subst e7; subst e9
      exact go_iret d_Np_constraint_59 rfl ⟨rfl, rfl, rfl⟩
  · rw [if_pos q19] at hf
    refine go_aload_n 0 d_Np_constraint_14 rfl ?_
    obtain ⟨x15, e_x15, hf⟩ := bnd_x hf
    refine go_get d_Np_constraint_15 (gR_x e_x15) fl_Np_10 ?_
    obtain ⟨x16, e_x16, hf⟩ := bnd_x hf
    refine go_get d_Np_constraint_18 (gR_x e_x16) fl_Np_129 ?_
    obtain ⟨x17, e_x17, hf⟩ := bnd_x hf
    refine go_get d_Np_constraint_21 (gR_x e_x17) fl_Np_202 ?_
    refine go_iload_n 1 d_Np_constraint_24 rfl ?_
    obtain ⟨x18, e_x18, hf⟩ := bnd_x hf
    refine go_iaload d_Np_constraint_25 e_x18 ?_
    obtain ⟨e8, e9⟩ := Prod.mk.inj (Option.some.inj hf)
    have e7 := Sum.inr.inj e8; subst e7; subst e9
    exact go_iret d_Np_constraint_26 rfl ⟨rfl, rfl, rfl⟩
theorem c_Np_constraint {l : Launch} {E : ET} {d : Nat} (hd : 7 ≤ d) {r : Int32} {h9 : PH} {x : Nat} {a0 : Nat} {i1 : Int32} {i2 : Int32} {h : PH} (hf : f_Np_constraint a0 i1 i2 h = some (.inr r, h9)) : Fn l E m_Np_constraint d 0 0 [.ref a0, .int i1, .int i2] h x (PoE (some (.int r)) h9 x) :=
  Fn.of (by decide +kernel) (Nat.le_of_ble_eq_true rfl) (g_Np_constraint_0 hd a0 i1 i2 h hf)
theorem gx_Np_constraint_0 {l : Launch} {E : ET} (hl : l.stackTraces = false) {d : Nat} (hd : 7 ≤ d) {j : Nat} {h9 : PH} {x : Nat}  (a0 : Nat) (i1 : Int32) (i2 : Int32) (h : PH) (hf : f_Np_constraint a0 i1 i2 h = some (.inl j, h9)) : Go l E m_Np_constraint (rm d 1 6) (KX l E 1 6 (PXk j h9)) 0 0 h x 0 [(0, .ref a0), (1, .int i1), (2, .int i2)] [] := by
  unfold f_Np_constraint at hf
  refine go_aload_n 0 d_Np_constraint_0 rfl ?_
  refine go_iload_n 1 d_Np_constraint_1 rfl ?_
  obtain ⟨_, e1, hf⟩ := bnd_x hf
  rcases bndT_l hf with e_x2 | ⟨x2, h3, e_x2, hf⟩
  · exact go_tcallV (As := [.int i1]) (st := []) (x_Np_checkConstraint hl (d := d - 1) (by omega) e_x2) lk_Np_151 rfl rfl e1 (by decide) rfl (rm_ok1 (by omega)) (Nat.le_of_ble_eq_true rfl) d_Np_constraint_2
  refine go_callV_N (As := [.int i1]) (st := []) (c_Np_checkConstraint (d := d - 1) (by omega) e_x2) lk_Np_151 rfl rfl e1 (by decide) rfl (rm_ok1 (by omega)) (Nat.le_of_ble_eq_true rfl) rm_c1 d_Np_constraint_2 ?_
  refine go_iload_n 2 d_Np_constraint_5 rfl ?_
  refine go_iconst (2 : Int32) d_Np_constraint_6 (by decide) ?_
  rcases bndT_l hf with e_x4 | ⟨x4, h5, e_x4, hf⟩
  · exact go_tcallS (As := [.int i2, .int (2 : Int32)]) (st := []) (x_Np_checkWhat hl (d := d - 1) (by omega) e_x4) lk_Np_199 rfl rfl (rm_ok1 (by omega)) (Nat.le_of_ble_eq_true rfl) d_Np_constraint_7
  refine go_callS_N (As := [.int i2, .int (2 : Int32)]) (st := []) (c_Np_checkWhat (d := d - 1) (by omega) e_x4) lk_Np_199 rfl rfl (rm_ok1 (by omega)) (Nat.le_of_ble_eq_true rfl) rm_c1 d_Np_constraint_7 ?_
  refine go_iload_n 2 d_Np_constraint_10 rfl ?_
  refine go_if_ne 27 d_Np_constraint_11 (by decide) (fun q19 => ?_) (fun q19 => ?_)
  · rw [if_neg q19] at hf
    refine go_iload_n 2 d_Np_constraint_27 rfl ?_
    refine go_iconst (1 : Int32) d_Np_constraint_28 (by decide) ?_
    refine go_icmp_ne 47 d_Np_constraint_29 (by decide) (fun q14 => ?_) (fun q14 => ?_)
    · rw [if_neg q14] at hf
      refine go_aload_n 0 d_Np_constraint_47 rfl ?_
      obtain ⟨x6, e_x6, hf⟩ := bnd_x hf
      refine go_get d_Np_constraint_48 (gR_x e_x6) fl_Np_10 ?_
      obtain ⟨x7, e_x7, hf⟩ := bnd_x hf
      refine go_get d_Np_constraint_51 (gR_x e_x7) fl_Np_129 ?_
      obtain ⟨x8, e_x8, hf⟩ := bnd_x hf
      refine go_get d_Np_constraint_54 (gR_x e_x8) fl_Np_169 ?_
      refine go_iload_n 1 d_Np_constraint_57 rfl ?_
      obtain ⟨x9, e_x9, hf⟩ := bnd_x hf
      refine go_iaload d_Np_constraint_58 e_x9 ?_
      cases (Prod.mk.inj (Option.some.inj hf)).1
    · rw [if_pos q14] at hf
      refine go_aload_n 0 d_Np_constraint_32 rfl ?_
      obtain ⟨x10, e_x10, hf⟩ := bnd_x hf
      refine go_get d_Np_constraint_33 (gR_x e_x10) fl_Np_10 ?_
      obtain ⟨x11, e_x11, hf⟩ := bnd_x hf
      refine go_get d_Np_constraint_36 (gR_x e_x11) fl_Np_129 ?_
      obtain ⟨x12, e_x12, hf⟩ := bnd_x hf
      refine go_get d_Np_constraint_39 (gR_x e_x12) fl_Np_205 ?_
      refine go_iload_n 1 d_Np_constraint_42 rfl ?_
      obtain ⟨x13, e_x13, hf⟩ := bnd_x hf
      refine go_iaload d_Np_constraint_43 e_x13 ?_
      refine go_goto 59 d_Np_constraint_44 (by decide) ?_
      cases (Prod.mk.inj (Option.some.inj hf)).1
  · rw [if_pos q19] at hf
    refine go_aload_n 0 d_Np_constraint_14 rfl ?_
    obtain ⟨x15, e_x15, hf⟩ := bnd_x hf
    refine go_get d_Np_constraint_15 (gR_x e_x15) fl_Np_10 ?_
    obtain ⟨x16, e_x16, hf⟩ := bnd_x hf
    refine go_get d_Np_constraint_18 (gR_x e_x16) fl_Np_129 ?_
    obtain ⟨x17, e_x17, hf⟩ := bnd_x hf
    refine go_get d_Np_constraint_21 (gR_x e_x17) fl_Np_202 ?_
    refine go_iload_n 1 d_Np_constraint_24 rfl ?_
    obtain ⟨x18, e_x18, hf⟩ := bnd_x hf
    refine go_iaload d_Np_constraint_25 e_x18 ?_
    cases (Prod.mk.inj (Option.some.inj hf)).1
theorem x_Np_constraint {l : Launch} {E : ET} (hl : l.stackTraces = false) {d : Nat} (hd : 7 ≤ d) {j : Nat} {h9 : PH} {x : Nat} {a0 : Nat} {i1 : Int32} {i2 : Int32} {h : PH} (hf : f_Np_constraint a0 i1 i2 h = some (.inl j, h9)) : FnT l E m_Np_constraint d [.ref a0, .int i1, .int i2] h x (PXk j h9) :=
  FnT.of hl (by decide +kernel) (Nat.le_of_ble_eq_true rfl) (gx_Np_constraint_0 hl hd a0 i1 i2 h hf)
theorem d_Np_cellOf_0 : decode prog_1_method_10_code 0 = .ok (.aload_n 0, 1) := by decide +kernel
theorem d_Np_cellOf_1 : decode prog_1_method_10_code 1 = .ok (.iload_n 1, 1) := by decide +kernel
theorem d_Np_cellOf_2 : decode prog_1_method_10_code 2 = .ok (.invokevirtual 151, 3) := by decide +kernel
theorem d_Np_cellOf_5 : decode prog_1_method_10_code 5 = .ok (.iload_n 2, 1) := by decide +kernel
theorem d_Np_cellOf_6 : decode prog_1_method_10_code 6 = .ok (.ifCond .lt 19, 3) := by decide +kernel
theorem d_Np_cellOf_9 : decode prog_1_method_10_code 9 = .ok (.iload_n 2, 1) := by decide +kernel
theorem d_Np_cellOf_10 : decode prog_1_method_10_code 10 = .ok (.aload_n 0, 1) := by decide +kernel
theorem d_Np_cellOf_11 : decode prog_1_method_10_code 11 = .ok (.getfield 10, 3) := by decide +kernel
theorem d_Np_cellOf_14 : decode prog_1_method_10_code 14 = .ok (.getfield 129, 3) := by decide +kernel
theorem d_Np_cellOf_17 : decode prog_1_method_10_code 17 = .ok (.getfield 169, 3) := by decide +kernel
theorem d_Np_cellOf_20 : decode prog_1_method_10_code 20 = .ok (.iload_n 1, 1) := by decide +kernel
theorem d_Np_cellOf_21 : decode prog_1_method_10_code 21 = .ok (.iaload, 1) := by decide +kernel
theorem d_Np_cellOf_22 : decode prog_1_method_10_code 22 = .ok (.if_icmp .lt 13, 3) := by decide +kernel
theorem d_Np_cellOf_25 : decode prog_1_method_10_code 25 = .ok (.new 208, 3) := by decide +kernel
theorem d_Np_cellOf_28 : decode prog_1_method_10_code 28 = .ok (.dup, 1) := by decide +kernel
theorem d_Np_cellOf_29 : decode prog_1_method_10_code 29 = .ok (.ldc 210, 2) := by decide +kernel
theorem d_Np_cellOf_31 : decode prog_1_method_10_code 31 = .ok (.invokespecial 212, 3) := by decide +kernel
theorem d_Np_cellOf_34 : decode prog_1_method_10_code 34 = .ok (.athrow, 1) := by decide +kernel
theorem d_Np_cellOf_35 : decode prog_1_method_10_code 35 = .ok (.aload_n 0, 1) := by decide +kernel
theorem d_Np_cellOf_36 : decode prog_1_method_10_code 36 = .ok (.getfield 10, 3) := by decide +kernel
theorem d_Np_cellOf_39 : decode prog_1_method_10_code 39 = .ok (.getfield 129, 3) := by decide +kernel
theorem d_Np_cellOf_42 : decode prog_1_method_10_code 42 = .ok (.iload_n 1, 1) := by decide +kernel
theorem d_Np_cellOf_43 : decode prog_1_method_10_code 43 = .ok (.iload_n 2, 1) := by decide +kernel
theorem d_Np_cellOf_44 : decode prog_1_method_10_code 44 = .ok (.invokevirtual 213, 3) := by decide +kernel
theorem d_Np_cellOf_47 : decode prog_1_method_10_code 47 = .ok (.ireturn, 1) := by decide +kernel
def b_Np_cellOf_25 (h : PH) : Option ((Nat ⊕ Int32) × PH) :=
  some (.inl 0, h)
theorem g_Np_cellOf_25 {l : Launch} {E : ET} {d : Nat} (hd : 7 ≤ d) {r : Int32} {h9 : PH} {x : Nat}   (h : PH) (hf : b_Np_cellOf_25 h = some (.inr r, h9)) : Go l E m_Np_cellOf (rm d 0 0) (KM E 0 0 (PoE (some (.int r)) h9 x)) 0 0 h x 25 [] [] := by
  unfold b_Np_cellOf_25 at hf
  cases (Prod.mk.inj (Option.some.inj hf)).1
def f_Np_cellOf (a0 : Nat) (i1 : Int32) (i2 : Int32) (h : PH) : Option ((Nat ⊕ Int32) × PH) :=
  bnd (cK h a0 9) fun _ => bndT (f_Np_checkConstraint a0 i1 h) fun x2 h3 => (if i2 < (0 : Int32) then b_Np_cellOf_25 h3 else bnd (gR h3 a0 9 0) fun x4 => bnd (gR h3 x4 8 1) fun x5 => bnd (gR h3 x5 4 2) fun x6 => bnd (aI h3 x6 i1) fun x7 => (if i2 < x7 then bnd (gR h3 a0 9 0) fun x8 => bnd (gR h3 x8 8 1) fun x9 => bnd (cK h3 x9 4) fun _ => bnd (f_Rul_cellAt x9 i1 i2 h3) fun x11 => some (.inr x11, h3) else b_Np_cellOf_25 h3))
theorem g_Np_cellOf_0 {l : Launch} {E : ET} {d : Nat} (hd : 7 ≤ d) {r : Int32} {h9 : PH} {x : Nat}  (a0 : Nat) (i1 : Int32) (i2 : Int32) (h : PH) (hf : f_Np_cellOf a0 i1 i2 h = some (.inr r, h9)) : Go l E m_Np_cellOf (rm d 0 0) (KM E 0 0 (PoE (some (.int r)) h9 x)) 0 0 h x 0 [(0, .ref a0), (1, .int i1), (2, .int i2)] [] := by
  unfold f_Np_cellOf at hf
  refine go_aload_n 0 d_Np_cellOf_0 rfl ?_
  refine go_iload_n 1 d_Np_cellOf_1 rfl ?_
  obtain ⟨_, e1, hf⟩ := bnd_x hf
  obtain ⟨x2, h3, e_x2, hf⟩ := bndT_r hf
  refine go_callV_N (As := [.int i1]) (st := []) (c_Np_checkConstraint (d := d - 1) (by omega) e_x2) lk_Np_151 rfl rfl e1 (by decide) rfl (rm_ok (by omega)) (Nat.le_of_ble_eq_true rfl) rm_c d_Np_cellOf_2 ?_
  refine go_iload_n 2 d_Np_cellOf_5 rfl ?_
  refine go_if_lt 25 d_Np_cellOf_6 (by decide) (fun q13 => ?_) (fun q13 => ?_)
  · rw [if_pos q13] at hf
    refine go_sub (lv' := []) [] rfl ?_
    exact g_Np_cellOf_25 hd   h3 hf
  · rw [if_neg q13] at hf
    refine go_iload_n 2 d_Np_cellOf_9 rfl ?_
    refine go_aload_n 0 d_Np_cellOf_10 rfl ?_
    obtain ⟨x4, e_x4, hf⟩ := bnd_x hf
    refine go_get d_Np_cellOf_11 (gR_x e_x4) fl_Np_10 ?_
    obtain ⟨x5, e_x5, hf⟩ := bnd_x hf
    refine go_get d_Np_cellOf_14 (gR_x e_x5) fl_Np_129 ?_
    obtain ⟨x6, e_x6, hf⟩ := bnd_x hf
    refine go_get d_Np_cellOf_17 (gR_x e_x6) fl_Np_169 ?_
    refine go_iload_n 1 d_Np_cellOf_20 rfl ?_
    obtain ⟨x7, e_x7, hf⟩ := bnd_x hf
    refine go_iaload d_Np_cellOf_21 e_x7 ?_
    refine go_icmp_lt 35 d_Np_cellOf_22 (by decide) (fun q12 => ?_) (fun q12 => ?_)
    · rw [if_pos q12] at hf
      refine go_aload_n 0 d_Np_cellOf_35 rfl ?_
      obtain ⟨x8, e_x8, hf⟩ := bnd_x hf
      refine go_get d_Np_cellOf_36 (gR_x e_x8) fl_Np_10 ?_
      obtain ⟨x9, e_x9, hf⟩ := bnd_x hf
      refine go_get d_Np_cellOf_39 (gR_x e_x9) fl_Np_129 ?_
      refine go_iload_n 1 d_Np_cellOf_42 rfl ?_
      refine go_iload_n 2 d_Np_cellOf_43 rfl ?_
      obtain ⟨_, e10, hf⟩ := bnd_x hf
      obtain ⟨x11, e_x11, hf⟩ := bnd_x hf
      refine go_callV_I (As := [.int i1, .int i2]) (st := []) (c_Rul_cellAt (d := d - 1) (by omega) e_x11) lk_Np_213 rfl rfl e10 (by decide) rfl (rm_ok (by omega)) (Nat.le_of_ble_eq_true rfl) rm_c d_Np_cellOf_44 ?_
      obtain ⟨e8, e9⟩ := Prod.mk.inj (Option.some.inj hf)
      have e7 := Sum.inr.inj e8; subst e7; subst e9
      exact go_iret d_Np_cellOf_47 rfl ⟨rfl, rfl, rfl⟩
    · rw [if_neg q12] at hf
      refine go_sub (lv' := []) [] rfl ?_
      exact g_Np_cellOf_25 hd   h3 hf
theorem c_Np_cellOf {l : Launch} {E : ET} {d : Nat} (hd : 7 ≤ d) {r : Int32} {h9 : PH} {x : Nat} {a0 : Nat} {i1 : Int32} {i2 : Int32} {h : PH} (hf : f_Np_cellOf a0 i1 i2 h = some (.inr r, h9)) : Fn l E m_Np_cellOf d 0 0 [.ref a0, .int i1, .int i2] h x (PoE (some (.int r)) h9 x) :=
  Fn.of (by decide +kernel) (Nat.le_of_ble_eq_true rfl) (g_Np_cellOf_0 hd a0 i1 i2 h hf)
theorem gx_Np_cellOf_25 {l : Launch} {E : ET} (hl : l.stackTraces = false) {d : Nat} (hd : 7 ≤ d) {j : Nat} {h9 : PH} {x : Nat}   (h : PH) (hf : b_Np_cellOf_25 h = some (.inl j, h9)) : Go l E m_Np_cellOf (rm d 1 6) (KX l E 1 6 (PXk j h9)) 0 0 h x 25 [] [] := by
  unfold b_Np_cellOf_25 at hf
  obtain ⟨e8, e9⟩ := Prod.mk.inj (Option.some.inj hf)
  cases e8; subst e9
  exact go_throwS tw_208_212 (List.mem_of_getElem? (i := 8) rfl) d_Np_cellOf_25 d_Np_cellOf_28 d_Np_cellOf_29 d_Np_cellOf_31 d_Np_cellOf_34 ⟨rfl, rfl⟩ (by omega) (Nat.le_of_ble_eq_true rfl)
theorem gx_Np_cellOf_0 {l : Launch} {E : ET} (hl : l.stackTraces = false) {d : Nat} (hd : 7 ≤ d) {j : Nat} {h9 : PH} {x : Nat}  (a0 : Nat) (i1 : Int32) (i2 : Int32) (h : PH) (hf : f_Np_cellOf a0 i1 i2 h = some (.inl j, h9)) : Go l E m_Np_cellOf (rm d 1 6) (KX l E 1 6 (PXk j h9)) 0 0 h x 0 [(0, .ref a0), (1, .int i1), (2, .int i2)] [] := by
  unfold f_Np_cellOf at hf
  refine go_aload_n 0 d_Np_cellOf_0 rfl ?_
  refine go_iload_n 1 d_Np_cellOf_1 rfl ?_
  obtain ⟨_, e1, hf⟩ := bnd_x hf
  rcases bndT_l hf with e_x2 | ⟨x2, h3, e_x2, hf⟩
  · exact go_tcallV (As := [.int i1]) (st := []) (x_Np_checkConstraint hl (d := d - 1) (by omega) e_x2) lk_Np_151 rfl rfl e1 (by decide) rfl (rm_ok1 (by omega)) (Nat.le_of_ble_eq_true rfl) d_Np_cellOf_2
  refine go_callV_N (As := [.int i1]) (st := []) (c_Np_checkConstraint (d := d - 1) (by omega) e_x2) lk_Np_151 rfl rfl e1 (by decide) rfl (rm_ok1 (by omega)) (Nat.le_of_ble_eq_true rfl) rm_c1 d_Np_cellOf_2 ?_
  refine go_iload_n 2 d_Np_cellOf_5 rfl ?_
  refine go_if_lt 25 d_Np_cellOf_6 (by decide) (fun q13 => ?_) (fun q13 => ?_)
  · rw [if_pos q13] at hf
    refine go_sub (lv' := []) [] rfl ?_
    exact gx_Np_cellOf_25 hl hd   h3 hf
  · rw [if_neg q13] at hf
    refine go_iload_n 2 d_Np_cellOf_9 rfl ?_
    refine go_aload_n 0 d_Np_cellOf_10 rfl ?_
    obtain ⟨x4, e_x4, hf⟩ := bnd_x hf
    refine go_get d_Np_cellOf_11 (gR_x e_x4) fl_Np_10 ?_
    obtain ⟨x5, e_x5, hf⟩ := bnd_x hf
    refine go_get d_Np_cellOf_14 (gR_x e_x5) fl_Np_129 ?_
    obtain ⟨x6, e_x6, hf⟩ := bnd_x hf
    refine go_get d_Np_cellOf_17 (gR_x e_x6) fl_Np_169 ?_
    refine go_iload_n 1 d_Np_cellOf_20 rfl ?_
    obtain ⟨x7, e_x7, hf⟩ := bnd_x hf
    refine go_iaload d_Np_cellOf_21 e_x7 ?_
    refine go_icmp_lt 35 d_Np_cellOf_22 (by decide) (fun q12 => ?_) (fun q12 => ?_)
    · rw [if_pos q12] at hf
      refine go_aload_n 0 d_Np_cellOf_35 rfl ?_
      obtain ⟨x8, e_x8, hf⟩ := bnd_x hf
      refine go_get d_Np_cellOf_36 (gR_x e_x8) fl_Np_10 ?_
      obtain ⟨x9, e_x9, hf⟩ := bnd_x hf
      refine go_get d_Np_cellOf_39 (gR_x e_x9) fl_Np_129 ?_
      refine go_iload_n 1 d_Np_cellOf_42 rfl ?_
      refine go_iload_n 2 d_Np_cellOf_43 rfl ?_
      obtain ⟨_, e10, hf⟩ := bnd_x hf
      obtain ⟨x11, e_x11, hf⟩ := bnd_x hf
      refine go_callV_I (As := [.int i1, .int i2]) (st := []) (c_Rul_cellAt (d := d - 1) (by omega) e_x11) lk_Np_213 rfl rfl e10 (by decide) rfl (rm_ok1 (by omega)) (Nat.le_of_ble_eq_true rfl) rm_c1 d_Np_cellOf_44 ?_
      cases (Prod.mk.inj (Option.some.inj hf)).1
    · rw [if_neg q12] at hf
      refine go_sub (lv' := []) [] rfl ?_
      exact gx_Np_cellOf_25 hl hd   h3 hf
theorem x_Np_cellOf {l : Launch} {E : ET} (hl : l.stackTraces = false) {d : Nat} (hd : 7 ≤ d) {j : Nat} {h9 : PH} {x : Nat} {a0 : Nat} {i1 : Int32} {i2 : Int32} {h : PH} (hf : f_Np_cellOf a0 i1 i2 h = some (.inl j, h9)) : FnT l E m_Np_cellOf d [.ref a0, .int i1, .int i2] h x (PXk j h9) :=
  FnT.of hl (by decide +kernel) (Nat.le_of_ble_eq_true rfl) (gx_Np_cellOf_0 hl hd a0 i1 i2 h hf)
