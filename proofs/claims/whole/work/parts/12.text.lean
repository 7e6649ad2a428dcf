/-! 12.text: methods as functions, by program. -/
theorem d_Txt_add_0 : decode prog_5_method_2_code 0 = .ok (.aload_n 0, 1) := by decide +kernel
theorem d_Txt_add_1 : decode prog_5_method_2_code 1 = .ok (.getfield 15, 3) := by decide +kernel
theorem d_Txt_add_4 : decode prog_5_method_2_code 4 = .ok (.sipush 150, 3) := by decide +kernel
theorem d_Txt_add_7 : decode prog_5_method_2_code 7 = .ok (.if_icmp .ge 23, 3) := by decide +kernel
theorem d_Txt_add_10 : decode prog_5_method_2_code 10 = .ok (.aload_n 0, 1) := by decide +kernel
theorem d_Txt_add_11 : decode prog_5_method_2_code 11 = .ok (.getfield 11, 3) := by decide +kernel
theorem d_Txt_add_14 : decode prog_5_method_2_code 14 = .ok (.aload_n 0, 1) := by decide +kernel
theorem d_Txt_add_15 : decode prog_5_method_2_code 15 = .ok (.getfield 15, 3) := by decide +kernel
theorem d_Txt_add_18 : decode prog_5_method_2_code 18 = .ok (.iload_n 1, 1) := by decide +kernel
theorem d_Txt_add_19 : decode prog_5_method_2_code 19 = .ok (.iastore, 1) := by decide +kernel
theorem d_Txt_add_20 : decode prog_5_method_2_code 20 = .ok (.aload_n 0, 1) := by decide +kernel
theorem d_Txt_add_21 : decode prog_5_method_2_code 21 = .ok (.dup, 1) := by decide +kernel
theorem d_Txt_add_22 : decode prog_5_method_2_code 22 = .ok (.getfield 15, 3) := by decide +kernel
theorem d_Txt_add_25 : decode prog_5_method_2_code 25 = .ok (.iconst 1, 1) := by decide +kernel
theorem d_Txt_add_26 : decode prog_5_method_2_code 26 = .ok (.iadd, 1) := by decide +kernel
theorem d_Txt_add_27 : decode prog_5_method_2_code 27 = .ok (.putfield 15, 3) := by decide +kernel
theorem d_Txt_add_30 : decode prog_5_method_2_code 30 = .ok (.return_, 1) := by decide +kernel
def f_Txt_add (a0 : Nat) (i1 : Int32) (h : PH) : Option PH :=
  bnd (gI h a0 2 1) fun x1 => (if (150 : Int32) ≤ x1 then some h else bnd (gR h a0 2 0) fun x2 => bnd (gI h a0 2 1) fun x3 => bnd (sI h x2 x3 i1) fun h4 => bnd (gI h4 a0 2 1) fun x5 => bnd (pV h4 a0 2 1 (.int (x5 + (1 : Int32)))) fun h6 => some h6)
theorem g_Txt_add_0 {l : Launch} {E : ET} {d : Nat} (hd : 1 ≤ d) {h9 : PH} {x : Nat}  (a0 : Nat) (i1 : Int32) (h : PH) (hf : f_Txt_add a0 i1 h = some h9) : Go l E m_Txt_add (rm d 0 0) (KM E 0 0 (PoE none h9 x)) 0 0 h x 0 [(0, .ref a0), (1, .int i1)] [] := by
  unfold f_Txt_add at hf
  refine go_aload_n 0 d_Txt_add_0 rfl ?_
  obtain ⟨x1, e_x1, hf⟩ := bnd_x hf
  refine go_get d_Txt_add_1 (gI_x e_x1) fl_Txt_15 ?_
  refine go_sipush (150 : Int32) d_Txt_add_4 (by decide) ?_
  refine go_icmp_ge 30 d_Txt_add_7 (by decide) (fun q7 => ?_) (fun q7 => ?_)
  · rw [if_pos q7] at hf
    have e9 := Option.some.inj hf
    subst e9
    exact go_vret d_Txt_add_30 rfl ⟨rfl, rfl, rfl⟩
  · rw [if_neg q7] at hf
    refine go_aload_n 0 d_Txt_add_10 rfl ?_
    obtain ⟨x2, e_x2, hf⟩ := bnd_x hf
    refine go_get d_Txt_add_11 (gR_x e_x2) fl_Txt_11 ?_
    refine go_aload_n 0 d_Txt_add_14 rfl ?_
    obtain ⟨x3, e_x3, hf⟩ := bnd_x hf
    refine go_get d_Txt_add_15 (gI_x e_x3) fl_Txt_15 ?_
    refine go_iload_n 1 d_Txt_add_18 rfl ?_
    obtain ⟨h4, e_h4, hf⟩ := bnd_x hf
    refine go_iastore d_Txt_add_19 e_h4 ?_
    refine go_aload_n 0 d_Txt_add_20 rfl ?_
    refine go_dup d_Txt_add_21 rfl ?_
    obtain ⟨x5, e_x5, hf⟩ := bnd_x hf
    refine go_get d_Txt_add_22 (gI_x e_x5) fl_Txt_15 ?_
    refine go_iconst (1 : Int32) d_Txt_add_25 (by decide) ?_
    refine go_iadd d_Txt_add_26 ?_
    obtain ⟨h6, e_h6, hf⟩ := bnd_x hf
    refine go_putI d_Txt_add_27 e_h6 fl_Txt_15 rfl rfl ?_
    have e9 := Option.some.inj hf
    subst e9
    exact go_vret d_Txt_add_30 rfl ⟨rfl, rfl, rfl⟩
theorem c_Txt_add {l : Launch} {E : ET} {d : Nat} (hd : 1 ≤ d) {h9 : PH} {x : Nat} {a0 : Nat} {i1 : Int32} {h : PH} (hf : f_Txt_add a0 i1 h = some h9) : Fn l E m_Txt_add d 0 0 [.ref a0, .int i1] h x (PoE none h9 x) :=
  Fn.of (by decide +kernel) (Nat.le_of_ble_eq_true rfl) (g_Txt_add_0 hd a0 i1 h hf)
theorem d_Txt_here_0 : decode prog_5_method_8_code 0 = .ok (.aload_n 0, 1) := by decide +kernel
theorem d_Txt_here_1 : decode prog_5_method_8_code 1 = .ok (.getfield 24, 3) := by decide +kernel
theorem d_Txt_here_4 : decode prog_5_method_8_code 4 = .ok (.aload_n 0, 1) := by decide +kernel
theorem d_Txt_here_5 : decode prog_5_method_8_code 5 = .ok (.getfield 15, 3) := by decide +kernel
theorem d_Txt_here_8 : decode prog_5_method_8_code 8 = .ok (.if_icmp .ge 15, 3) := by decide +kernel
theorem d_Txt_here_11 : decode prog_5_method_8_code 11 = .ok (.aload_n 0, 1) := by decide +kernel
theorem d_Txt_here_12 : decode prog_5_method_8_code 12 = .ok (.getfield 11, 3) := by decide +kernel
theorem d_Txt_here_15 : decode prog_5_method_8_code 15 = .ok (.aload_n 0, 1) := by decide +kernel
theorem d_Txt_here_16 : decode prog_5_method_8_code 16 = .ok (.getfield 24, 3) := by decide +kernel
theorem d_Txt_here_19 : decode prog_5_method_8_code 19 = .ok (.iaload, 1) := by decide +kernel
theorem d_Txt_here_20 : decode prog_5_method_8_code 20 = .ok (.goto 4, 3) := by decide +kernel
theorem d_Txt_here_23 : decode prog_5_method_8_code 23 = .ok (.iconst (-1), 1) := by decide +kernel
theorem d_Txt_here_24 : decode prog_5_method_8_code 24 = .ok (.ireturn, 1) := by decide +kernel
def f_Txt_here (a0 : Nat) (h : PH) : Option Int32 :=
  bnd (gI h a0 2 2) fun x1 => bnd (gI h a0 2 1) fun x2 => (if x2 ≤ x1 then some (-1 : Int32) else bnd (gR h a0 2 0) fun x3 => bnd (gI h a0 2 2) fun x4 => bnd (aI h x3 x4) fun x5 => some x5)
theorem g_Txt_here_0 {l : Launch} {E : ET} {d : Nat} (hd : 1 ≤ d) {r : Int32} {h : PH} {x : Nat}  (a0 : Nat) (hf : f_Txt_here a0 h = some r) : Go l E m_Txt_here (rm d 0 0) (KM E 0 0 (PoE (some (.int r)) h x)) 0 0 h x 0 [(0, .ref a0)] [] := by
  unfold f_Txt_here at hf
  refine go_aload_n 0 d_Txt_here_0 rfl ?_
  obtain ⟨x1, e_x1, hf⟩ := bnd_x hf
  refine go_get d_Txt_here_1 (gI_x e_x1) fl_Txt_24 ?_
  refine go_aload_n 0 d_Txt_here_4 rfl ?_
  obtain ⟨x2, e_x2, hf⟩ := bnd_x hf
  refine go_get d_Txt_here_5 (gI_x e_x2) fl_Txt_15 ?_
  refine go_icmp_ge 23 d_Txt_here_8 (by decide) (fun q6 => ?_) (fun q6 => ?_)
  · rw [if_pos q6] at hf
    refine go_iconst (-1 : Int32) d_Txt_here_23 (by decide) ?_
    have e9 := Option.some.inj hf
    subst e9
    exact go_iret d_Txt_here_24 rfl ⟨rfl, rfl, rfl⟩
  · rw [if_neg q6] at hf
    refine go_aload_n 0 d_Txt_here_11 rfl ?_
    obtain ⟨x3, e_x3, hf⟩ := bnd_x hf
    refine go_get d_Txt_here_12 (gR_x e_x3) fl_Txt_11 ?_
    refine go_aload_n 0 d_Txt_here_15 rfl ?_
    obtain ⟨x4, e_x4, hf⟩ := bnd_x hf
    refine go_get d_Txt_here_16 (gI_x e_x4) fl_Txt_24 ?_
    obtain ⟨x5, e_x5, hf⟩ := bnd_x hf
    refine go_iaload d_Txt_here_19 e_x5 ?_
    refine go_goto 24 d_Txt_here_20 (by decide) ?_
    have e9 := Option.some.inj hf
    subst e9
    exact go_iret d_Txt_here_24 rfl ⟨rfl, rfl, rfl⟩
theorem c_Txt_here {l : Launch} {E : ET} {d : Nat} (hd : 1 ≤ d) {r : Int32} {h : PH} {x : Nat} {a0 : Nat} (hf : f_Txt_here a0 h = some r) : Fn l E m_Txt_here d 0 0 [.ref a0] h x (PoE (some (.int r)) h x) :=
  Fn.of (by decide +kernel) (Nat.le_of_ble_eq_true rfl) (g_Txt_here_0 hd a0 hf)
theorem d_Txt_readGivens_0 : decode prog_5_method_4_code 0 = .ok (.iconst 0, 1) := by decide +kernel
theorem d_Txt_readGivens_1 : decode prog_5_method_4_code 1 = .ok (.istore_n 2, 1) := by decide +kernel
theorem d_Txt_readGivens_2 : decode prog_5_method_4_code 2 = .ok (.iload_n 2, 1) := by decide +kernel
theorem d_Txt_readGivens_3 : decode prog_5_method_4_code 3 = .ok (.bipush 36, 2) := by decide +kernel
theorem d_Txt_readGivens_5 : decode prog_5_method_4_code 5 = .ok (.if_icmp .ge 61, 3) := by decide +kernel
theorem d_Txt_readGivens_8 : decode prog_5_method_4_code 8 = .ok (.aload_n 0, 1) := by decide +kernel
theorem d_Txt_readGivens_9 : decode prog_5_method_4_code 9 = .ok (.invokevirtual 45, 3) := by decide +kernel
theorem d_Txt_readGivens_12 : decode prog_5_method_4_code 12 = .ok (.istore_n 3, 1) := by decide +kernel
theorem d_Txt_readGivens_13 : decode prog_5_method_4_code 13 = .ok (.iload_n 3, 1) := by decide +kernel
theorem d_Txt_readGivens_14 : decode prog_5_method_4_code 14 = .ok (.bipush 49, 2) := by decide +kernel
theorem d_Txt_readGivens_16 : decode prog_5_method_4_code 16 = .ok (.if_icmp .lt 19, 3) := by decide +kernel
theorem d_Txt_readGivens_19 : decode prog_5_method_4_code 19 = .ok (.iload_n 3, 1) := by decide +kernel
theorem d_Txt_readGivens_20 : decode prog_5_method_4_code 20 = .ok (.bipush 54, 2) := by decide +kernel
theorem d_Txt_readGivens_22 : decode prog_5_method_4_code 22 = .ok (.if_icmp .gt 13, 3) := by decide +kernel
theorem d_Txt_readGivens_25 : decode prog_5_method_4_code 25 = .ok (.aload_n 1, 1) := by decide +kernel
theorem d_Txt_readGivens_26 : decode prog_5_method_4_code 26 = .ok (.iload_n 2, 1) := by decide +kernel
theorem d_Txt_readGivens_27 : decode prog_5_method_4_code 27 = .ok (.iload_n 3, 1) := by decide +kernel
theorem d_Txt_readGivens_28 : decode prog_5_method_4_code 28 = .ok (.bipush 48, 2) := by decide +kernel
theorem d_Txt_readGivens_30 : decode prog_5_method_4_code 30 = .ok (.isub, 1) := by decide +kernel
theorem d_Txt_readGivens_31 : decode prog_5_method_4_code 31 = .ok (.iastore, 1) := by decide +kernel
theorem d_Txt_readGivens_32 : decode prog_5_method_4_code 32 = .ok (.goto 18, 3) := by decide +kernel
theorem d_Txt_readGivens_35 : decode prog_5_method_4_code 35 = .ok (.iload_n 3, 1) := by decide +kernel
theorem d_Txt_readGivens_36 : decode prog_5_method_4_code 36 = .ok (.bipush 46, 2) := by decide +kernel
theorem d_Txt_readGivens_38 : decode prog_5_method_4_code 38 = .ok (.if_icmp .eq 12, 3) := by decide +kernel
theorem d_Txt_readGivens_41 : decode prog_5_method_4_code 41 = .ok (.aload_n 0, 1) := by decide +kernel
theorem d_Txt_readGivens_42 : decode prog_5_method_4_code 42 = .ok (.aload_n 0, 1) := by decide +kernel
theorem d_Txt_readGivens_43 : decode prog_5_method_4_code 43 = .ok (.getfield 24, 3) := by decide +kernel
theorem d_Txt_readGivens_46 : decode prog_5_method_4_code 46 = .ok (.putfield 27, 3) := by decide +kernel
theorem d_Txt_readGivens_49 : decode prog_5_method_4_code 49 = .ok (.return_, 1) := by decide +kernel
theorem d_Txt_readGivens_50 : decode prog_5_method_4_code 50 = .ok (.aload_n 0, 1) := by decide +kernel
theorem d_Txt_readGivens_51 : decode prog_5_method_4_code 51 = .ok (.dup, 1) := by decide +kernel
theorem d_Txt_readGivens_52 : decode prog_5_method_4_code 52 = .ok (.getfield 24, 3) := by decide +kernel
theorem d_Txt_readGivens_55 : decode prog_5_method_4_code 55 = .ok (.iconst 1, 1) := by decide +kernel
theorem d_Txt_readGivens_56 : decode prog_5_method_4_code 56 = .ok (.iadd, 1) := by decide +kernel
theorem d_Txt_readGivens_57 : decode prog_5_method_4_code 57 = .ok (.putfield 24, 3) := by decide +kernel
theorem d_Txt_readGivens_60 : decode prog_5_method_4_code 60 = .ok (.iinc 2 1, 3) := by decide +kernel
theorem d_Txt_readGivens_63 : decode prog_5_method_4_code 63 = .ok (.goto (-61), 3) := by decide +kernel
theorem d_Txt_readGivens_66 : decode prog_5_method_4_code 66 = .ok (.return_, 1) := by decide +kernel
def b_Txt_readGivens_50 (F : Nat) (k2 : Nat → Nat → Int32 → PH → Option PH) (a0 : Nat) (a1 : Nat) (i2 : Int32) (h : PH) : Option PH :=
  bnd (gI h a0 2 2) fun x1 => bnd (pV h a0 2 2 (.int (x1 + (1 : Int32)))) fun h2 => k2 a0 a1 (i2 + (1 : Int32)) h2
theorem g_Txt_readGivens_50 {l : Launch} {E : ET} {d : Nat} (hd : 2 ≤ d) {F : Nat} {h9 : PH} {x : Nat} {k2 : Nat → Nat → Int32 → PH → Option PH} (hk2 : ∀ (a0 : Nat) (a1 : Nat) (i2 : Int32) (hh : PH), k2 a0 a1 i2 hh = some h9 → Go l E m_Txt_readGivens (rm d 0 0) (KM E 0 0 (PoE none h9 x)) 0 0 hh x 2 [(0, .ref a0), (1, .ref a1), (2, .int i2)] []) (a0 : Nat) (a1 : Nat) (i2 : Int32) (h : PH) (hf : b_Txt_readGivens_50 F k2 a0 a1 i2 h = some h9) : Go l E m_Txt_readGivens (rm d 0 0) (KM E 0 0 (PoE none h9 x)) 0 0 h x 50 [(0, .ref a0), (1, .ref a1), (2, .int i2)] [] := by
  unfold b_Txt_readGivens_50 at hf
  refine go_aload_n 0 d_Txt_readGivens_50 rfl ?_
  refine go_dup d_Txt_readGivens_51 rfl ?_
  obtain ⟨x1, e_x1, hf⟩ := bnd_x hf
  refine go_get d_Txt_readGivens_52 (gI_x e_x1) fl_Txt_24 ?_
  refine go_iconst (1 : Int32) d_Txt_readGivens_55 (by decide) ?_
  refine go_iadd d_Txt_readGivens_56 ?_
  obtain ⟨h2, e_h2, hf⟩ := bnd_x hf
  refine go_putI d_Txt_readGivens_57 e_h2 fl_Txt_24 rfl rfl ?_
  refine go_iinc (lv' := [(2, .int (i2 + (1 : Int32))), (0, .ref a0), (1, .ref a1)]) 2 (i2 + (1 : Int32)) d_Txt_readGivens_60 rfl rfl rfl (by decide) ?_
  refine go_goto 2 d_Txt_readGivens_63 (by decide) ?_
  refine go_sub (lv' := [(0, .ref a0), (1, .ref a1), (2, .int (i2 + (1 : Int32)))]) [1, 2, 0] rfl ?_
  exact hk2 a0 a1 (i2 + (1 : Int32)) h2 hf
def b_Txt_readGivens_35 (F : Nat) (k2 : Nat → Nat → Int32 → PH → Option PH) (a0 : Nat) (a1 : Nat) (i2 : Int32) (i3 : Int32) (h : PH) : Option PH :=
  (if i3 = (46 : Int32) then b_Txt_readGivens_50 F k2 a0 a1 i2 h else bnd (gI h a0 2 2) fun x1 => bnd (pV h a0 2 3 (.int x1)) fun h2 => some h2)
theorem g_Txt_readGivens_35 {l : Launch} {E : ET} {d : Nat} (hd : 2 ≤ d) {F : Nat} {h9 : PH} {x : Nat} {k2 : Nat → Nat → Int32 → PH → Option PH} (hk2 : ∀ (a0 : Nat) (a1 : Nat) (i2 : Int32) (hh : PH), k2 a0 a1 i2 hh = some h9 → Go l E m_Txt_readGivens (rm d 0 0) (KM E 0 0 (PoE none h9 x)) 0 0 hh x 2 [(0, .ref a0), (1, .ref a1), (2, .int i2)] []) (a0 : Nat) (a1 : Nat) (i2 : Int32) (i3 : Int32) (h : PH) (hf : b_Txt_readGivens_35 F k2 a0 a1 i2 i3 h = some h9) : Go l E m_Txt_readGivens (rm d 0 0) (KM E 0 0 (PoE none h9 x)) 0 0 h x 35 [(0, .ref a0), (1, .ref a1), (2, .int i2), (3, .int i3)] [] := by
  unfold b_Txt_readGivens_35 at hf
  refine go_iload_n 3 d_Txt_readGivens_35 rfl ?_
  refine go_bipush (46 : Int32) d_Txt_readGivens_36 (by decide) ?_
  refine go_icmp_eq 50 d_Txt_readGivens_38 (by decide) (fun q3 => ?_) (fun q3 => ?_)
  · rw [if_pos q3] at hf
    refine go_sub (lv' := [(0, .ref a0), (1, .ref a1), (2, .int i2)]) [0, 1, 2] rfl ?_
    exact g_Txt_readGivens_50 hd hk2 a0 a1 i2 h hf
  · rw [if_neg q3] at hf
    refine go_aload_n 0 d_Txt_readGivens_41 rfl ?_
    refine go_aload_n 0 d_Txt_readGivens_42 rfl ?_
    obtain ⟨x1, e_x1, hf⟩ := bnd_x hf
    refine go_get d_Txt_readGivens_43 (gI_x e_x1) fl_Txt_24 ?_
    obtain ⟨h2, e_h2, hf⟩ := bnd_x hf
    refine go_putI d_Txt_readGivens_46 e_h2 fl_Txt_27 rfl rfl ?_
    have e9 := Option.some.inj hf
    subst e9
    exact go_vret d_Txt_readGivens_49 rfl ⟨rfl, rfl, rfl⟩
def b_Txt_readGivens_2 (F : Nat) (k2 : Nat → Nat → Int32 → PH → Option PH) (a0 : Nat) (a1 : Nat) (i2 : Int32) (h : PH) : Option PH :=
  (if (36 : Int32) ≤ i2 then some h else bnd (cK h a0 2) fun _ => bnd (f_Txt_here a0 h) fun x2 => (if x2 < (49 : Int32) then b_Txt_readGivens_35 F k2 a0 a1 i2 x2 h else (if (54 : Int32) < x2 then b_Txt_readGivens_35 F k2 a0 a1 i2 x2 h else bnd (sI h a1 i2 (x2 - (48 : Int32))) fun h3 => b_Txt_readGivens_50 F k2 a0 a1 i2 h3)))
def f_Txt_readGivens_2 (F : Nat) : Nat → Nat → Nat → Int32 → PH → Option PH
  | 0 => fun _ _ _ _ => none
  | n + 1 => b_Txt_readGivens_2 F (f_Txt_readGivens_2 F n)
theorem g_Txt_readGivens_2 {l : Launch} {E : ET} {d : Nat} (hd : 2 ≤ d) {F : Nat} {h9 : PH} {x : Nat} {k2 : Nat → Nat → Int32 → PH → Option PH} (hk2 : ∀ (a0 : Nat) (a1 : Nat) (i2 : Int32) (hh : PH), k2 a0 a1 i2 hh = some h9 → Go l E m_Txt_readGivens (rm d 0 0) (KM E 0 0 (PoE none h9 x)) 0 0 hh x 2 [(0, .ref a0), (1, .ref a1), (2, .int i2)] []) (a0 : Nat) (a1 : Nat) (i2 : Int32) (h : PH) (hf : b_Txt_readGivens_2 F k2 a0 a1 i2 h = some h9) : Go l E m_Txt_readGivens (rm d 0 0) (KM E 0 0 (PoE none h9 x)) 0 0 h x 2 [(0, .ref a0), (1, .ref a1), (2, .int i2)] [] := by
  unfold b_Txt_readGivens_2 at hf
  refine go_iload_n 2 d_Txt_readGivens_2 rfl ?_
  refine go_bipush (36 : Int32) d_Txt_readGivens_3 (by decide) ?_
  refine go_icmp_ge 66 d_Txt_readGivens_5 (by decide) (fun q6 => ?_) (fun q6 => ?_)
  · rw [if_pos q6] at hf
    have e9 := Option.some.inj hf
    subst e9
    exact go_vret d_Txt_readGivens_66 rfl ⟨rfl, rfl, rfl⟩
  · rw [if_neg q6] at hf
    refine go_aload_n 0 d_Txt_readGivens_8 rfl ?_
    obtain ⟨_, e1, hf⟩ := bnd_x hf
    obtain ⟨x2, e_x2, hf⟩ := bnd_x hf
    refine go_callV_I (As := []) (st := []) (c_Txt_here (d := d - 1) (by omega) e_x2) lk_Txt_45 rfl rfl e1 (by decide) rfl (rm_ok (by omega)) (Nat.le_of_ble_eq_true rfl) rm_c d_Txt_readGivens_9 ?_
    refine go_istore_n (lv' := [(3, .int x2), (0, .ref a0), (1, .ref a1), (2, .int i2)]) d_Txt_readGivens_12 rfl (by decide) ?_
    refine go_iload_n 0 d_Txt_readGivens_13 rfl ?_
    refine go_bipush (49 : Int32) d_Txt_readGivens_14 (by decide) ?_
    refine go_icmp_lt 35 d_Txt_readGivens_16 (by decide) (fun q5 => ?_) (fun q5 => ?_)
    · rw [if_pos q5] at hf
      refine go_sub (lv' := [(0, .ref a0), (1, .ref a1), (2, .int i2), (3, .int x2)]) [1, 2, 3, 0] rfl ?_
      exact g_Txt_readGivens_35 hd hk2 a0 a1 i2 x2 h hf
    · rw [if_neg q5] at hf
      refine go_iload_n 0 d_Txt_readGivens_19 rfl ?_
      refine go_bipush (54 : Int32) d_Txt_readGivens_20 (by decide) ?_
      refine go_icmp_gt 35 d_Txt_readGivens_22 (by decide) (fun q4 => ?_) (fun q4 => ?_)
      · rw [if_pos q4] at hf
        refine go_sub (lv' := [(0, .ref a0), (1, .ref a1), (2, .int i2), (3, .int x2)]) [1, 2, 3, 0] rfl ?_
        exact g_Txt_readGivens_35 hd hk2 a0 a1 i2 x2 h hf
      · rw [if_neg q4] at hf
        refine go_aload_n 2 d_Txt_readGivens_25 rfl ?_
        refine go_iload_n 3 d_Txt_readGivens_26 rfl ?_
        refine go_iload_n 0 d_Txt_readGivens_27 rfl ?_
        refine go_bipush (48 : Int32) d_Txt_readGivens_28 (by decide) ?_
        refine go_isub d_Txt_readGivens_30 ?_
        obtain ⟨h3, e_h3, hf⟩ := bnd_x hf
        refine go_iastore d_Txt_readGivens_31 e_h3 ?_
        refine go_goto 50 d_Txt_readGivens_32 (by decide) ?_
        refine go_sub (lv' := [(0, .ref a0), (1, .ref a1), (2, .int i2)]) [1, 2, 3] rfl ?_
        exact g_Txt_readGivens_50 hd hk2 a0 a1 i2 h3 hf
theorem t_Txt_readGivens_2 {l : Launch} {E : ET} {d : Nat} (hd : 2 ≤ d) {F : Nat} {h9 : PH} {x : Nat}  : ∀ (n : Nat) (a0 : Nat) (a1 : Nat) (i2 : Int32) (hh : PH), f_Txt_readGivens_2 F n a0 a1 i2 hh = some h9 → Go l E m_Txt_readGivens (rm d 0 0) (KM E 0 0 (PoE none h9 x)) 0 0 hh x 2 [(0, .ref a0), (1, .ref a1), (2, .int i2)] [] := by
  intro n
  induction n with
  | zero => intro v0 v1 v2 v3 hf; cases hf
  | succ n ih => intro v0 v1 v2 v3 hf; exact g_Txt_readGivens_2 hd ih v0 v1 v2 v3 hf
def f_Txt_readGivens (F : Nat) (a0 : Nat) (a1 : Nat) (h : PH) : Option PH :=
  f_Txt_readGivens_2 F F a0 a1 (0 : Int32) h
theorem g_Txt_readGivens_0 {l : Launch} {E : ET} {d : Nat} (hd : 2 ≤ d) {F : Nat} {h9 : PH} {x : Nat}  (a0 : Nat) (a1 : Nat) (h : PH) (hf : f_Txt_readGivens F a0 a1 h = some h9) : Go l E m_Txt_readGivens (rm d 0 0) (KM E 0 0 (PoE none h9 x)) 0 0 h x 0 [(0, .ref a0), (1, .ref a1)] [] := by
  unfold f_Txt_readGivens at hf
  refine go_iconst (0 : Int32) d_Txt_readGivens_0 (by decide) ?_
  refine go_istore_n (lv' := [(2, .int (0 : Int32)), (0, .ref a0), (1, .ref a1)]) d_Txt_readGivens_1 rfl (by decide) ?_
  refine go_sub (lv' := [(0, .ref a0), (1, .ref a1), (2, .int (0 : Int32))]) [1, 2, 0] rfl ?_
  exact t_Txt_readGivens_2 hd  _ a0 a1 (0 : Int32) h hf
theorem c_Txt_readGivens {l : Launch} {E : ET} {d : Nat} (hd : 2 ≤ d) {F : Nat} {h9 : PH} {x : Nat} {a0 : Nat} {a1 : Nat} {h : PH} (hf : f_Txt_readGivens F a0 a1 h = some h9) : Fn l E m_Txt_readGivens d 0 0 [.ref a0, .ref a1] h x (PoE none h9 x) :=
  Fn.of (by decide +kernel) (Nat.le_of_ble_eq_true rfl) (g_Txt_readGivens_0 hd a0 a1 h hf)
theorem d_Txt_kindOf_0 : decode prog_5_method_10_code 0 = .ok (.iload_n 0, 1) := by decide +kernel
theorem d_Txt_kindOf_1 : decode prog_5_method_10_code 1 = .ok (.lookupswitch 41 #[(97, 37), (107, 35), (116, 39)], 35) := by decide +kernel
theorem d_Txt_kindOf_36 : decode prog_5_method_10_code 36 = .ok (.iconst 0, 1) := by decide +kernel
theorem d_Txt_kindOf_37 : decode prog_5_method_10_code 37 = .ok (.ireturn, 1) := by decide +kernel
theorem d_Txt_kindOf_38 : decode prog_5_method_10_code 38 = .ok (.iconst 1, 1) := by decide +kernel
theorem d_Txt_kindOf_39 : decode prog_5_method_10_code 39 = .ok (.ireturn, 1) := by decide +kernel
theorem d_Txt_kindOf_40 : decode prog_5_method_10_code 40 = .ok (.iconst 2, 1) := by decide +kernel
theorem d_Txt_kindOf_41 : decode prog_5_method_10_code 41 = .ok (.ireturn, 1) := by decide +kernel
theorem d_Txt_kindOf_42 : decode prog_5_method_10_code 42 = .ok (.iconst (-1), 1) := by decide +kernel
theorem d_Txt_kindOf_43 : decode prog_5_method_10_code 43 = .ok (.ireturn, 1) := by decide +kernel
def f_Txt_kindOf (i0 : Int32) : Option Int32 :=
  (if i0 = (97 : Int32) then some (1 : Int32) else (if i0 = (107 : Int32) then some (0 : Int32) else (if i0 = (116 : Int32) then some (2 : Int32) else some (-1 : Int32))))
theorem g_Txt_kindOf_0 {l : Launch} {E : ET} {d : Nat} (hd : 1 ≤ d) {r : Int32} {h : PH} {x : Nat}  (i0 : Int32) (hf : f_Txt_kindOf i0 = some r) : Go l E m_Txt_kindOf (rm d 0 0) (KM E 0 0 (PoE (some (.int r)) h x)) 0 0 h x 0 [(0, .int i0)] [] := by
  unfold f_Txt_kindOf at hf
  refine go_iload_n 0 d_Txt_kindOf_0 rfl ?_
  by_cases q1 : i0 = (97 : Int32)
  · rw [if_pos q1] at hf
    refine go_lookup (off := 37) 38 d_Txt_kindOf_1 rfl (by rw [q1]; rfl) (by decide) ?_
    refine go_iconst (1 : Int32) d_Txt_kindOf_38 (by decide) ?_
    have e9 := Option.some.inj hf
    subst e9
    exact go_iret d_Txt_kindOf_39 rfl ⟨rfl, rfl, rfl⟩
  · rw [if_neg q1] at hf
    by_cases q2 : i0 = (107 : Int32)
    · rw [if_pos q2] at hf
      refine go_lookup (off := 35) 36 d_Txt_kindOf_1 rfl (by rw [q2]; rfl) (by decide) ?_
      refine go_iconst (0 : Int32) d_Txt_kindOf_36 (by decide) ?_
      have e9 := Option.some.inj hf
      subst e9
      exact go_iret d_Txt_kindOf_37 rfl ⟨rfl, rfl, rfl⟩
    · rw [if_neg q2] at hf
      by_cases q3 : i0 = (116 : Int32)
      · rw [if_pos q3] at hf
        refine go_lookup (off := 39) 40 d_Txt_kindOf_1 rfl (by rw [q3]; rfl) (by decide) ?_
        refine go_iconst (2 : Int32) d_Txt_kindOf_40 (by decide) ?_
        have e9 := Option.some.inj hf
        subst e9
        exact go_iret d_Txt_kindOf_41 rfl ⟨rfl, rfl, rfl⟩
      · rw [if_neg q3] at hf
        refine go_lookup (off := 41) 42 d_Txt_kindOf_1 rfl (by have g0 := ne_ti (97) (97 : Int32) (by decide) q1; have g1 := ne_ti (107) (107 : Int32) (by decide) q2; have g2 := ne_ti (116) (116 : Int32) (by decide) q3; show Op.lookupswitch.offset [(97, 37), (107, 35), (116, 39)] 41 i0.toInt = 41; rw [Op.lookupswitch.offset_cons, if_neg (Ne.symm g0), Op.lookupswitch.offset_cons, if_neg (Ne.symm g1), Op.lookupswitch.offset_cons, if_neg (Ne.symm g2), Op.lookupswitch.offset_nil]) (by decide) ?_
        refine go_iconst (-1 : Int32) d_Txt_kindOf_42 (by decide) ?_
        have e9 := Option.some.inj hf
        subst e9
        exact go_iret d_Txt_kindOf_43 rfl ⟨rfl, rfl, rfl⟩
theorem c_Txt_kindOf {l : Launch} {E : ET} {d : Nat} (hd : 1 ≤ d) {r : Int32} {h : PH} {x : Nat} {i0 : Int32} (hf : f_Txt_kindOf i0 = some r) : Fn l E m_Txt_kindOf d 0 0 [.int i0] h x (PoE (some (.int r)) h x) :=
  Fn.of (by decide +kernel) (Nat.le_of_ble_eq_true rfl) (g_Txt_kindOf_0 hd i0 hf)
theorem d_Txt_isDigit_0 : decode prog_5_method_9_code 0 = .ok (.iload_n 0, 1) := by decide +kernel
theorem d_Txt_isDigit_1 : decode prog_5_method_9_code 1 = .ok (.bipush 48, 2) := by decide +kernel
theorem d_Txt_isDigit_3 : decode prog_5_method_9_code 3 = .ok (.if_icmp .lt 13, 3) := by decide +kernel
theorem d_Txt_isDigit_6 : decode prog_5_method_9_code 6 = .ok (.iload_n 0, 1) := by decide +kernel
theorem d_Txt_isDigit_7 : decode prog_5_method_9_code 7 = .ok (.bipush 57, 2) := by decide +kernel
theorem d_Txt_isDigit_9 : decode prog_5_method_9_code 9 = .ok (.if_icmp .gt 7, 3) := by decide +kernel
theorem d_Txt_isDigit_12 : decode prog_5_method_9_code 12 = .ok (.iconst 1, 1) := by decide +kernel
theorem d_Txt_isDigit_13 : decode prog_5_method_9_code 13 = .ok (.goto 4, 3) := by decide +kernel
theorem d_Txt_isDigit_16 : decode prog_5_method_9_code 16 = .ok (.iconst 0, 1) := by decide +kernel
theorem d_Txt_isDigit_17 : decode prog_5_method_9_code 17 = .ok (.ireturn, 1) := by decide +kernel
def f_Txt_isDigit (i0 : Int32) : Option Int32 :=
  (if i0 < (48 : Int32) then some (0 : Int32) else (if (57 : Int32) < i0 then some (0 : Int32) else some (1 : Int32)))
theorem g_Txt_isDigit_0 {l : Launch} {E : ET} {d : Nat} (hd : 1 ≤ d) {r : Int32} {h : PH} {x : Nat}  (i0 : Int32) (hf : f_Txt_isDigit i0 = some r) : Go l E m_Txt_isDigit (rm d 0 0) (KM E 0 0 (PoE (some (.int r)) h x)) 0 0 h x 0 [(0, .int i0)] [] := by
  unfold f_Txt_isDigit at hf
  refine go_iload_n 0 d_Txt_isDigit_0 rfl ?_
  refine go_bipush (48 : Int32) d_Txt_isDigit_1 (by decide) ?_
  refine go_icmp_lt 16 d_Txt_isDigit_3 (by decide) (fun q2 => ?_) (fun q2 => ?_)
  · rw [if_pos q2] at hf
    refine go_iconst (0 : Int32) d_Txt_isDigit_16 (by decide) ?_
    have e9 := Option.some.inj hf
    subst e9
    exact go_zret d_Txt_isDigit_17 rfl rfl ⟨rfl, rfl, rfl⟩
  · rw [if_neg q2] at hf
    refine go_iload_n 0 d_Txt_isDigit_6 rfl ?_
    refine go_bipush (57 : Int32) d_Txt_isDigit_7 (by decide) ?_
    refine go_icmp_gt 16 d_Txt_isDigit_9 (by decide) (fun q1 => ?_) (fun q1 => ?_)
    · rw [if_pos q1] at hf
      refine go_iconst (0 : Int32) d_Txt_isDigit_16 (by decide) ?_
      have e9 := Option.some.inj hf
      subst e9
      exact go_zret d_Txt_isDigit_17 rfl rfl ⟨rfl, rfl, rfl⟩
    · rw [if_neg q1] at hf
      refine go_iconst (1 : Int32) d_Txt_isDigit_12 (by decide) ?_
      refine go_goto 17 d_Txt_isDigit_13 (by decide) ?_
      have e9 := Option.some.inj hf
      subst e9
      exact go_zret d_Txt_isDigit_17 rfl rfl ⟨rfl, rfl, rfl⟩
theorem c_Txt_isDigit {l : Launch} {E : ET} {d : Nat} (hd : 1 ≤ d) {r : Int32} {h : PH} {x : Nat} {i0 : Int32} (hf : f_Txt_isDigit i0 = some r) : Fn l E m_Txt_isDigit d 0 0 [.int i0] h x (PoE (some (.int r)) h x) :=
  Fn.of (by decide +kernel) (Nat.le_of_ble_eq_true rfl) (g_Txt_isDigit_0 hd i0 hf)
theorem d_Txt_readNumber_0 : decode prog_5_method_7_code 0 = .ok (.aload_n 0, 1) := by decide +kernel
theorem d_Txt_readNumber_1 : decode prog_5_method_7_code 1 = .ok (.getfield 24, 3) := by decide +kernel
theorem d_Txt_readNumber_4 : decode prog_5_method_7_code 4 = .ok (.istore_n 3, 1) := by decide +kernel
theorem d_Txt_readNumber_5 : decode prog_5_method_7_code 5 = .ok (.iconst 0, 1) := by decide +kernel
theorem d_Txt_readNumber_6 : decode prog_5_method_7_code 6 = .ok (.istore 4, 2) := by decide +kernel
theorem d_Txt_readNumber_8 : decode prog_5_method_7_code 8 = .ok (.aload_n 0, 1) := by decide +kernel
theorem d_Txt_readNumber_9 : decode prog_5_method_7_code 9 = .ok (.getfield 24, 3) := by decide +kernel
theorem d_Txt_readNumber_12 : decode prog_5_method_7_code 12 = .ok (.iload_n 3, 1) := by decide +kernel
theorem d_Txt_readNumber_13 : decode prog_5_method_7_code 13 = .ok (.iconst 2, 1) := by decide +kernel
theorem d_Txt_readNumber_14 : decode prog_5_method_7_code 14 = .ok (.iadd, 1) := by decide +kernel
theorem d_Txt_readNumber_15 : decode prog_5_method_7_code 15 = .ok (.if_icmp .ge 41, 3) := by decide +kernel
theorem d_Txt_readNumber_18 : decode prog_5_method_7_code 18 = .ok (.aload_n 0, 1) := by decide +kernel
theorem d_Txt_readNumber_19 : decode prog_5_method_7_code 19 = .ok (.invokevirtual 45, 3) := by decide +kernel
theorem d_Txt_readNumber_22 : decode prog_5_method_7_code 22 = .ok (.invokestatic 84, 3) := by decide +kernel
theorem d_Txt_readNumber_25 : decode prog_5_method_7_code 25 = .ok (.ifCond .eq 31, 3) := by decide +kernel
theorem d_Txt_readNumber_28 : decode prog_5_method_7_code 28 = .ok (.bipush 10, 2) := by decide +kernel
theorem d_Txt_readNumber_30 : decode prog_5_method_7_code 30 = .ok (.iload 4, 2) := by decide +kernel
theorem d_Txt_readNumber_32 : decode prog_5_method_7_code 32 = .ok (.imul, 1) := by decide +kernel
theorem d_Txt_readNumber_33 : decode prog_5_method_7_code 33 = .ok (.aload_n 0, 1) := by decide +kernel
theorem d_Txt_readNumber_34 : decode prog_5_method_7_code 34 = .ok (.invokevirtual 45, 3) := by decide +kernel
theorem d_Txt_readNumber_37 : decode prog_5_method_7_code 37 = .ok (.iadd, 1) := by decide +kernel
theorem d_Txt_readNumber_38 : decode prog_5_method_7_code 38 = .ok (.bipush 48, 2) := by decide +kernel
theorem d_Txt_readNumber_40 : decode prog_5_method_7_code 40 = .ok (.isub, 1) := by decide +kernel
theorem d_Txt_readNumber_41 : decode prog_5_method_7_code 41 = .ok (.istore 4, 2) := by decide +kernel
theorem d_Txt_readNumber_43 : decode prog_5_method_7_code 43 = .ok (.aload_n 0, 1) := by decide +kernel
theorem d_Txt_readNumber_44 : decode prog_5_method_7_code 44 = .ok (.dup, 1) := by decide +kernel
theorem d_Txt_readNumber_45 : decode prog_5_method_7_code 45 = .ok (.getfield 24, 3) := by decide +kernel
theorem d_Txt_readNumber_48 : decode prog_5_method_7_code 48 = .ok (.iconst 1, 1) := by decide +kernel
theorem d_Txt_readNumber_49 : decode prog_5_method_7_code 49 = .ok (.iadd, 1) := by decide +kernel
theorem d_Txt_readNumber_50 : decode prog_5_method_7_code 50 = .ok (.putfield 24, 3) := by decide +kernel
theorem d_Txt_readNumber_53 : decode prog_5_method_7_code 53 = .ok (.goto (-45), 3) := by decide +kernel
theorem d_Txt_readNumber_56 : decode prog_5_method_7_code 56 = .ok (.aload_n 0, 1) := by decide +kernel
theorem d_Txt_readNumber_57 : decode prog_5_method_7_code 57 = .ok (.getfield 24, 3) := by decide +kernel
theorem d_Txt_readNumber_60 : decode prog_5_method_7_code 60 = .ok (.iload_n 3, 1) := by decide +kernel
theorem d_Txt_readNumber_61 : decode prog_5_method_7_code 61 = .ok (.if_icmp .eq 13, 3) := by decide +kernel
theorem d_Txt_readNumber_64 : decode prog_5_method_7_code 64 = .ok (.aload_n 0, 1) := by decide +kernel
theorem d_Txt_readNumber_65 : decode prog_5_method_7_code 65 = .ok (.invokevirtual 45, 3) := by decide +kernel
theorem d_Txt_readNumber_68 : decode prog_5_method_7_code 68 = .ok (.invokestatic 84, 3) := by decide +kernel
theorem d_Txt_readNumber_71 : decode prog_5_method_7_code 71 = .ok (.ifCond .eq 14, 3) := by decide +kernel
theorem d_Txt_readNumber_74 : decode prog_5_method_7_code 74 = .ok (.aload_n 0, 1) := by decide +kernel
theorem d_Txt_readNumber_75 : decode prog_5_method_7_code 75 = .ok (.aload_n 0, 1) := by decide +kernel
theorem d_Txt_readNumber_76 : decode prog_5_method_7_code 76 = .ok (.getfield 24, 3) := by decide +kernel
theorem d_Txt_readNumber_79 : decode prog_5_method_7_code 79 = .ok (.putfield 27, 3) := by decide +kernel
theorem d_Txt_readNumber_82 : decode prog_5_method_7_code 82 = .ok (.goto 20, 3) := by decide +kernel
theorem d_Txt_readNumber_85 : decode prog_5_method_7_code 85 = .ok (.iload 4, 2) := by decide +kernel
theorem d_Txt_readNumber_87 : decode prog_5_method_7_code 87 = .ok (.iload_n 1, 1) := by decide +kernel
theorem d_Txt_readNumber_88 : decode prog_5_method_7_code 88 = .ok (.if_icmp .lt 9, 3) := by decide +kernel
theorem d_Txt_readNumber_91 : decode prog_5_method_7_code 91 = .ok (.iload 4, 2) := by decide +kernel
theorem d_Txt_readNumber_93 : decode prog_5_method_7_code 93 = .ok (.iload_n 2, 1) := by decide +kernel
theorem d_Txt_readNumber_94 : decode prog_5_method_7_code 94 = .ok (.if_icmp .le 8, 3) := by decide +kernel
theorem d_Txt_readNumber_97 : decode prog_5_method_7_code 97 = .ok (.aload_n 0, 1) := by decide +kernel
theorem d_Txt_readNumber_98 : decode prog_5_method_7_code 98 = .ok (.iload_n 3, 1) := by decide +kernel
theorem d_Txt_readNumber_99 : decode prog_5_method_7_code 99 = .ok (.putfield 27, 3) := by decide +kernel
theorem d_Txt_readNumber_102 : decode prog_5_method_7_code 102 = .ok (.iload 4, 2) := by decide +kernel
theorem d_Txt_readNumber_104 : decode prog_5_method_7_code 104 = .ok (.ireturn, 1) := by decide +kernel
def b_Txt_readNumber_74 (F : Nat) (a0 : Nat) (i4 : Int32) (h : PH) : Option (Int32 × PH) :=
  bnd (gI h a0 2 2) fun x1 => bnd (pV h a0 2 3 (.int x1)) fun h2 => some (i4, h2)
theorem g_Txt_readNumber_74 {l : Launch} {E : ET} {d : Nat} (hd : 2 ≤ d) {F : Nat} {r : Int32} {h9 : PH} {x : Nat}  (a0 : Nat) (i4 : Int32) (h : PH) (hf : b_Txt_readNumber_74 F a0 i4 h = some (r, h9)) : Go l E m_Txt_readNumber (rm d 0 0) (KM E 0 0 (PoE (some (.int r)) h9 x)) 0 0 h x 74 [(0, .ref a0), (4, .int i4)] [] := by
  unfold b_Txt_readNumber_74 at hf
  refine go_aload_n 0 d_Txt_readNumber_74 rfl ?_
  refine go_aload_n 0 d_Txt_readNumber_75 rfl ?_
  obtain ⟨x1, e_x1, hf⟩ := bnd_x hf
  refine go_get d_Txt_readNumber_76 (gI_x e_x1) fl_Txt_24 ?_
  obtain ⟨h2, e_h2, hf⟩ := bnd_x hf
  refine go_putI d_Txt_readNumber_79 e_h2 fl_Txt_27 rfl rfl ?_
  refine go_goto 102 d_Txt_readNumber_82 (by decide) ?_
  refine go_iload 1 d_Txt_readNumber_102 rfl ?_
  obtain ⟨e8, e9⟩ := Prod.mk.inj (Option.some.inj hf)
  subst e8; subst e9
  exact go_iret d_Txt_readNumber_104 rfl ⟨rfl, rfl, rfl⟩
def b_Txt_readNumber_97 (F : Nat) (a0 : Nat) (i3 : Int32) (i4 : Int32) (h : PH) : Option (Int32 × PH) :=
  bnd (pV h a0 2 3 (.int i3)) fun h1 => some (i4, h1)
theorem g_Txt_readNumber_97 {l : Launch} {E : ET} {d : Nat} (hd : 2 ≤ d) {F : Nat} {r : Int32} {h9 : PH} {x : Nat}  (a0 : Nat) (i3 : Int32) (i4 : Int32) (h : PH) (hf : b_Txt_readNumber_97 F a0 i3 i4 h = some (r, h9)) : Go l E m_Txt_readNumber (rm d 0 0) (KM E 0 0 (PoE (some (.int r)) h9 x)) 0 0 h x 97 [(0, .ref a0), (3, .int i3), (4, .int i4)] [] := by
  unfold b_Txt_readNumber_97 at hf
  refine go_aload_n 0 d_Txt_readNumber_97 rfl ?_
  refine go_iload_n 1 d_Txt_readNumber_98 rfl ?_
  obtain ⟨h1, e_h1, hf⟩ := bnd_x hf
  refine go_putI d_Txt_readNumber_99 e_h1 fl_Txt_27 rfl rfl ?_
  refine go_iload 2 d_Txt_readNumber_102 rfl ?_
  obtain ⟨e8, e9⟩ := Prod.mk.inj (Option.some.inj hf)
  subst e8; subst e9
  exact go_iret d_Txt_readNumber_104 rfl ⟨rfl, rfl, rfl⟩
def b_Txt_readNumber_56 (F : Nat) (a0 : Nat) (i1 : Int32) (i2 : Int32) (i3 : Int32) (i4 : Int32) (h : PH) : Option (Int32 × PH) :=
  bnd (gI h a0 2 2) fun x1 => (if x1 = i3 then b_Txt_readNumber_74 F a0 i4 h else bnd (cK h a0 2) fun _ => bnd (f_Txt_here a0 h) fun x3 => bnd (f_Txt_isDigit x3) fun x4 => (if x4 = (0 : Int32) then (if i4 < i1 then b_Txt_readNumber_97 F a0 i3 i4 h else (if i4 ≤ i2 then some (i4, h) else b_Txt_readNumber_97 F a0 i3 i4 h)) else b_Txt_readNumber_74 F a0 i4 h))
theorem g_Txt_readNumber_56 {l : Launch} {E : ET} {d : Nat} (hd : 2 ≤ d) {F : Nat} {r : Int32} {h9 : PH} {x : Nat}  (a0 : Nat) (i1 : Int32) (i2 : Int32) (i3 : Int32) (i4 : Int32) (h : PH) (hf : b_Txt_readNumber_56 F a0 i1 i2 i3 i4 h = some (r, h9)) : Go l E m_Txt_readNumber (rm d 0 0) (KM E 0 0 (PoE (some (.int r)) h9 x)) 0 0 h x 56 [(0, .ref a0), (1, .int i1), (2, .int i2), (3, .int i3), (4, .int i4)] [] := by
  unfold b_Txt_readNumber_56 at hf
  refine go_aload_n 0 d_Txt_readNumber_56 rfl ?_
  obtain ⟨x1, e_x1, hf⟩ := bnd_x hf
  refine go_get d_Txt_readNumber_57 (gI_x e_x1) fl_Txt_24 ?_
  refine go_iload_n 3 d_Txt_readNumber_60 rfl ?_
  refine go_icmp_eq 74 d_Txt_readNumber_61 (by decide) (fun q8 => ?_) (fun q8 => ?_)
  · rw [if_pos q8] at hf
    refine go_sub (lv' := [(0, .ref a0), (4, .int i4)]) [0, 4] rfl ?_
    exact g_Txt_readNumber_74 hd  a0 i4 h hf
  · rw [if_neg q8] at hf
    refine go_aload_n 0 d_Txt_readNumber_64 rfl ?_
    obtain ⟨_, e2, hf⟩ := bnd_x hf
    obtain ⟨x3, e_x3, hf⟩ := bnd_x hf
    refine go_callV_I (As := []) (st := []) (c_Txt_here (d := d - 1) (by omega) e_x3) lk_Txt_45 rfl rfl e2 (by decide) rfl (rm_ok (by omega)) (Nat.le_of_ble_eq_true rfl) rm_c d_Txt_readNumber_65 ?_
    obtain ⟨x4, e_x4, hf⟩ := bnd_x hf
    refine go_callS_I (As := [.int x3]) (st := []) (c_Txt_isDigit (d := d - 1) (by omega) e_x4) lk_Txt_84 rfl rfl (rm_ok (by omega)) (Nat.le_of_ble_eq_true rfl) rm_c d_Txt_readNumber_68 ?_
    refine go_if_eq 85 d_Txt_readNumber_71 (by decide) (fun q7 => ?_) (fun q7 => ?_)
    · rw [if_pos q7] at hf
      refine go_iload 4 d_Txt_readNumber_85 rfl ?_
      refine go_iload_n 1 d_Txt_readNumber_87 rfl ?_
      refine go_icmp_lt 97 d_Txt_readNumber_88 (by decide) (fun q6 => ?_) (fun q6 => ?_)
      · rw [if_pos q6] at hf
        refine go_sub (lv' := [(0, .ref a0), (3, .int i3), (4, .int i4)]) [0, 3, 4] rfl ?_
        exact g_Txt_readNumber_97 hd  a0 i3 i4 h hf
      · rw [if_neg q6] at hf
        refine go_iload 4 d_Txt_readNumber_91 rfl ?_
        refine go_iload_n 2 d_Txt_readNumber_93 rfl ?_
        refine go_icmp_le 102 d_Txt_readNumber_94 (by decide) (fun q5 => ?_) (fun q5 => ?_)
        · rw [if_pos q5] at hf
          refine go_iload 4 d_Txt_readNumber_102 rfl ?_
          obtain ⟨e8, e9⟩ := Prod.mk.inj (Option.some.inj hf)
          subst e8; subst e9
          exact go_iret d_Txt_readNumber_104 rfl ⟨rfl, rfl, rfl⟩
        · rw [if_neg q5] at hf
          refine go_sub (lv' := [(0, .ref a0), (3, .int i3), (4, .int i4)]) [0, 3, 4] rfl ?_
          exact g_Txt_readNumber_97 hd  a0 i3 i4 h hf
    · rw [if_neg q7] at hf
      refine go_sub (lv' := [(0, .ref a0), (4, .int i4)]) [0, 4] rfl ?_
      exact g_Txt_readNumber_74 hd  a0 i4 h hf
def b_Txt_readNumber_8 (F : Nat) (k8 : Nat → Int32 → Int32 → Int32 → Int32 → PH → Option (Int32 × PH)) (a0 : Nat) (i1 : Int32) (i2 : Int32) (i3 : Int32) (i4 : Int32) (h : PH) : Option (Int32 × PH) :=
  bnd (gI h a0 2 2) fun x1 => (if (i3 + (2 : Int32)) ≤ x1 then b_Txt_readNumber_56 F a0 i1 i2 i3 i4 h else bnd (cK h a0 2) fun _ => bnd (f_Txt_here a0 h) fun x3 => bnd (f_Txt_isDigit x3) fun x4 => (if x4 = (0 : Int32) then b_Txt_readNumber_56 F a0 i1 i2 i3 i4 h else bnd (cK h a0 2) fun _ => bnd (f_Txt_here a0 h) fun x6 => bnd (some ((((10 : Int32) * i4) + x6) - (48 : Int32))) fun y7 => bnd (gI h a0 2 2) fun x8 => bnd (pV h a0 2 2 (.int (x8 + (1 : Int32)))) fun h9 => k8 a0 i1 i2 i3 y7 h9))
def f_Txt_readNumber_8 (F : Nat) : Nat → Nat → Int32 → Int32 → Int32 → Int32 → PH → Option (Int32 × PH)
  | 0 => fun _ _ _ _ _ _ => none
  | n + 1 => b_Txt_readNumber_8 F (f_Txt_readNumber_8 F n)
theorem g_Txt_readNumber_8 {l : Launch} {E : ET} {d : Nat} (hd : 2 ≤ d) {F : Nat} {r : Int32} {h9 : PH} {x : Nat} {k8 : Nat → Int32 → Int32 → Int32 → Int32 → PH → Option (Int32 × PH)} (hk8 : ∀ (a0 : Nat) (i1 : Int32) (i2 : Int32) (i3 : Int32) (i4 : Int32) (hh : PH), k8 a0 i1 i2 i3 i4 hh = some (r, h9) → Go l E m_Txt_readNumber (rm d 0 0) (KM E 0 0 (PoE (some (.int r)) h9 x)) 0 0 hh x 8 [(0, .ref a0), (1, .int i1), (2, .int i2), (3, .int i3), (4, .int i4)] []) (a0 : Nat) (i1 : Int32) (i2 : Int32) (i3 : Int32) (i4 : Int32) (h : PH) (hf : b_Txt_readNumber_8 F k8 a0 i1 i2 i3 i4 h = some (r, h9)) : Go l E m_Txt_readNumber (rm d 0 0) (KM E 0 0 (PoE (some (.int r)) h9 x)) 0 0 h x 8 [(0, .ref a0), (1, .int i1), (2, .int i2), (3, .int i3), (4, .int i4)] [] := by
  unfold b_Txt_readNumber_8 at hf
  refine go_aload_n 0 d_Txt_readNumber_8 rfl ?_
  obtain ⟨x1, e_x1, hf⟩ := bnd_x hf
  refine go_get d_Txt_readNumber_9 (gI_x e_x1) fl_Txt_24 ?_
  refine go_iload_n 3 d_Txt_readNumber_12 rfl ?_
  refine go_iconst (2 : Int32) d_Txt_readNumber_13 (by decide) ?_
  refine go_iadd d_Txt_readNumber_14 ?_
  refine go_icmp_ge 56 d_Txt_readNumber_15 (by decide) (fun q11 => ?_) (fun q11 => ?_)
  · rw [if_pos q11] at hf
    refine go_sub (lv' := [(0, .ref a0), (1, .int i1), (2, .int i2), (3, .int i3), (4, .int i4)]) [0, 1, 2, 3, 4] rfl ?_
    exact g_Txt_readNumber_56 hd  a0 i1 i2 i3 i4 h hf
  · rw [if_neg q11] at hf
    refine go_aload_n 0 d_Txt_readNumber_18 rfl ?_
    obtain ⟨_, e2, hf⟩ := bnd_x hf
    obtain ⟨x3, e_x3, hf⟩ := bnd_x hf
    refine go_callV_I (As := []) (st := []) (c_Txt_here (d := d - 1) (by omega) e_x3) lk_Txt_45 rfl rfl e2 (by decide) rfl (rm_ok (by omega)) (Nat.le_of_ble_eq_true rfl) rm_c d_Txt_readNumber_19 ?_
    obtain ⟨x4, e_x4, hf⟩ := bnd_x hf
    refine go_callS_I (As := [.int x3]) (st := []) (c_Txt_isDigit (d := d - 1) (by omega) e_x4) lk_Txt_84 rfl rfl (rm_ok (by omega)) (Nat.le_of_ble_eq_true rfl) rm_c d_Txt_readNumber_22 ?_
    refine go_if_eq 56 d_Txt_readNumber_25 (by decide) (fun q10 => ?_) (fun q10 => ?_)
    · rw [if_pos q10] at hf
      refine go_sub (lv' := [(0, .ref a0), (1, .int i1), (2, .int i2), (3, .int i3), (4, .int i4)]) [0, 1, 2, 3, 4] rfl ?_
      exact g_Txt_readNumber_56 hd  a0 i1 i2 i3 i4 h hf
    · rw [if_neg q10] at hf
      refine go_bipush (10 : Int32) d_Txt_readNumber_28 (by decide) ?_
      refine go_iload 4 d_Txt_readNumber_30 rfl ?_
      refine go_imul d_Txt_readNumber_32 ?_
      refine go_aload_n 0 d_Txt_readNumber_33 rfl ?_
      obtain ⟨_, e5, hf⟩ := bnd_x hf
      obtain ⟨x6, e_x6, hf⟩ := bnd_x hf
      refine go_callV_I (As := []) (st := [.int ((10 : Int32) * i4)]) (c_Txt_here (d := d - 1) (by omega) e_x6) lk_Txt_45 rfl rfl e5 (by decide) rfl (rm_ok (by omega)) (Nat.le_of_ble_eq_true rfl) rm_c d_Txt_readNumber_34 ?_
      refine go_iadd d_Txt_readNumber_37 ?_
      refine go_bipush (48 : Int32) d_Txt_readNumber_38 (by decide) ?_
      refine go_isub d_Txt_readNumber_40 ?_
      obtain ⟨y7, e_y7, hf⟩ := bnd_x hf
      refine go_nmI e_y7 ?_
      refine go_istore (lv' := [(4, .int y7), (0, .ref a0), (1, .int i1), (2, .int i2), (3, .int i3)]) d_Txt_readNumber_41 rfl (by decide) ?_
      refine go_aload_n 1 d_Txt_readNumber_43 rfl ?_
      refine go_dup d_Txt_readNumber_44 rfl ?_
      obtain ⟨x8, e_x8, hf⟩ := bnd_x hf
      refine go_get d_Txt_readNumber_45 (gI_x e_x8) fl_Txt_24 ?_
      refine go_iconst (1 : Int32) d_Txt_readNumber_48 (by decide) ?_
      refine go_iadd d_Txt_readNumber_49 ?_
      obtain ⟨h9, e_h9, hf⟩ := bnd_x hf
      refine go_putI d_Txt_readNumber_50 e_h9 fl_Txt_24 rfl rfl ?_
      refine go_goto 8 d_Txt_readNumber_53 (by decide) ?_
      refine go_sub (lv' := [(0, .ref a0), (1, .int i1), (2, .int i2), (3, .int i3), (4, .int y7)]) [1, 2, 3, 4, 0] rfl ?_
      exact hk8 a0 i1 i2 i3 y7 h9 hf
theorem t_Txt_readNumber_8 {l : Launch} {E : ET} {d : Nat} (hd : 2 ≤ d) {F : Nat} {r : Int32} {h9 : PH} {x : Nat}  : ∀ (n : Nat) (a0 : Nat) (i1 : Int32) (i2 : Int32) (i3 : Int32) (i4 : Int32) (hh : PH), f_Txt_readNumber_8 F n a0 i1 i2 i3 i4 hh = some (r, h9) → Go l E m_Txt_readNumber (rm d 0 0) (KM E 0 0 (PoE (some (.int r)) h9 x)) 0 0 hh x 8 [(0, .ref a0), (1, .int i1), (2, .int i2), (3, .int i3), (4, .int i4)] [] := by
  intro n
  induction n with
  | zero => intro v0 v1 v2 v3 v4 v5 hf; cases hf
  | succ n ih => intro v0 v1 v2 v3 v4 v5 hf; exact g_Txt_readNumber_8 hd ih v0 v1 v2 v3 v4 v5 hf
def f_Txt_readNumber (F : Nat) (a0 : Nat) (i1 : Int32) (i2 : Int32) (h : PH) : Option (Int32 × PH) :=
  bnd (gI h a0 2 2) fun x1 => f_Txt_readNumber_8 F F a0 i1 i2 x1 (0 : Int32) h
theorem g_Txt_readNumber_0 {l : Launch} {E : ET} {d : Nat} (hd : 2 ≤ d) {F : Nat} {r : Int32} {h9 : PH} {x : Nat}  (a0 : Nat) (i1 : Int32) (i2 : Int32) (h : PH) (hf : f_Txt_readNumber F a0 i1 i2 h = some (r, h9)) : Go l E m_Txt_readNumber (rm d 0 0) (KM E 0 0 (PoE (some (.int r)) h9 x)) 0 0 h x 0 [(0, .ref a0), (1, .int i1), (2, .int i2)] [] := by
  unfold f_Txt_readNumber at hf
  refine go_aload_n 0 d_Txt_readNumber_0 rfl ?_
  obtain ⟨x1, e_x1, hf⟩ := bnd_x hf
  refine go_get d_Txt_readNumber_1 (gI_x e_x1) fl_Txt_24 ?_
  refine go_istore_n (lv' := [(3, .int x1), (0, .ref a0), (1, .int i1), (2, .int i2)]) d_Txt_readNumber_4 rfl (by decide) ?_
  refine go_iconst (0 : Int32) d_Txt_readNumber_5 (by decide) ?_
  refine go_istore (lv' := [(4, .int (0 : Int32)), (3, .int x1), (0, .ref a0), (1, .int i1), (2, .int i2)]) d_Txt_readNumber_6 rfl (by decide) ?_
  refine go_sub (lv' := [(0, .ref a0), (1, .int i1), (2, .int i2), (3, .int x1), (4, .int (0 : Int32))]) [2, 3, 4, 1, 0] rfl ?_
  exact t_Txt_readNumber_8 hd  _ a0 i1 i2 x1 (0 : Int32) h hf
theorem c_Txt_readNumber {l : Launch} {E : ET} {d : Nat} (hd : 2 ≤ d) {F : Nat} {r : Int32} {h9 : PH} {x : Nat} {a0 : Nat} {i1 : Int32} {i2 : Int32} {h : PH} (hf : f_Txt_readNumber F a0 i1 i2 h = some (r, h9)) : Fn l E m_Txt_readNumber d 0 0 [.ref a0, .int i1, .int i2] h x (PoE (some (.int r)) h9 x) :=
  Fn.of (by decide +kernel) (Nat.le_of_ble_eq_true rfl) (g_Txt_readNumber_0 hd a0 i1 i2 h hf)
theorem d_Txt_readCells_0 : decode prog_5_method_6_code 0 = .ok (.iconst 0, 1) := by decide +kernel
theorem d_Txt_readCells_1 : decode prog_5_method_6_code 1 = .ok (.istore_n 3, 1) := by decide +kernel
theorem d_Txt_readCells_2 : decode prog_5_method_6_code 2 = .ok (.iload_n 3, 1) := by decide +kernel
theorem d_Txt_readCells_3 : decode prog_5_method_6_code 3 = .ok (.bipush 6, 2) := by decide +kernel
theorem d_Txt_readCells_5 : decode prog_5_method_6_code 5 = .ok (.if_icmp .ge 84, 3) := by decide +kernel
theorem d_Txt_readCells_8 : decode prog_5_method_6_code 8 = .ok (.aload_n 0, 1) := by decide +kernel
theorem d_Txt_readCells_9 : decode prog_5_method_6_code 9 = .ok (.invokevirtual 45, 3) := by decide +kernel
theorem d_Txt_readCells_12 : decode prog_5_method_6_code 12 = .ok (.bipush 58, 2) := by decide +kernel
theorem d_Txt_readCells_14 : decode prog_5_method_6_code 14 = .ok (.if_icmp .ne 75, 3) := by decide +kernel
theorem d_Txt_readCells_17 : decode prog_5_method_6_code 17 = .ok (.aload_n 1, 1) := by decide +kernel
theorem d_Txt_readCells_18 : decode prog_5_method_6_code 18 = .ok (.iload_n 2, 1) := by decide +kernel
theorem d_Txt_readCells_19 : decode prog_5_method_6_code 19 = .ok (.invokevirtual 69, 3) := by decide +kernel
theorem d_Txt_readCells_22 : decode prog_5_method_6_code 22 = .ok (.ifCond .ne 67, 3) := by decide +kernel
theorem d_Txt_readCells_25 : decode prog_5_method_6_code 25 = .ok (.aload_n 0, 1) := by decide +kernel
theorem d_Txt_readCells_26 : decode prog_5_method_6_code 26 = .ok (.dup, 1) := by decide +kernel
theorem d_Txt_readCells_27 : decode prog_5_method_6_code 27 = .ok (.getfield 24, 3) := by decide +kernel
theorem d_Txt_readCells_30 : decode prog_5_method_6_code 30 = .ok (.iconst 1, 1) := by decide +kernel
theorem d_Txt_readCells_31 : decode prog_5_method_6_code 31 = .ok (.iadd, 1) := by decide +kernel
theorem d_Txt_readCells_32 : decode prog_5_method_6_code 32 = .ok (.putfield 24, 3) := by decide +kernel
theorem d_Txt_readCells_35 : decode prog_5_method_6_code 35 = .ok (.aload_n 0, 1) := by decide +kernel
theorem d_Txt_readCells_36 : decode prog_5_method_6_code 36 = .ok (.getfield 24, 3) := by decide +kernel
theorem d_Txt_readCells_39 : decode prog_5_method_6_code 39 = .ok (.istore 4, 2) := by decide +kernel
theorem d_Txt_readCells_41 : decode prog_5_method_6_code 41 = .ok (.aload_n 0, 1) := by decide +kernel
theorem d_Txt_readCells_42 : decode prog_5_method_6_code 42 = .ok (.iconst 0, 1) := by decide +kernel
theorem d_Txt_readCells_43 : decode prog_5_method_6_code 43 = .ok (.bipush 35, 2) := by decide +kernel
theorem d_Txt_readCells_45 : decode prog_5_method_6_code 45 = .ok (.invokevirtual 58, 3) := by decide +kernel
theorem d_Txt_readCells_48 : decode prog_5_method_6_code 48 = .ok (.istore 5, 2) := by decide +kernel
theorem d_Txt_readCells_50 : decode prog_5_method_6_code 50 = .ok (.aload_n 0, 1) := by decide +kernel
theorem d_Txt_readCells_51 : decode prog_5_method_6_code 51 = .ok (.getfield 27, 3) := by decide +kernel
theorem d_Txt_readCells_54 : decode prog_5_method_6_code 54 = .ok (.iconst (-1), 1) := by decide +kernel
theorem d_Txt_readCells_55 : decode prog_5_method_6_code 55 = .ok (.if_icmp .eq 4, 3) := by decide +kernel
theorem d_Txt_readCells_58 : decode prog_5_method_6_code 58 = .ok (.return_, 1) := by decide +kernel
theorem d_Txt_readCells_59 : decode prog_5_method_6_code 59 = .ok (.aload_n 1, 1) := by decide +kernel
theorem d_Txt_readCells_60 : decode prog_5_method_6_code 60 = .ok (.iload_n 2, 1) := by decide +kernel
theorem d_Txt_readCells_61 : decode prog_5_method_6_code 61 = .ok (.iload 5, 2) := by decide +kernel
theorem d_Txt_readCells_63 : decode prog_5_method_6_code 63 = .ok (.invokevirtual 73, 3) := by decide +kernel
theorem d_Txt_readCells_66 : decode prog_5_method_6_code 66 = .ok (.ifCond .eq 10, 3) := by decide +kernel
theorem d_Txt_readCells_69 : decode prog_5_method_6_code 69 = .ok (.aload_n 0, 1) := by decide +kernel
theorem d_Txt_readCells_70 : decode prog_5_method_6_code 70 = .ok (.iload 4, 2) := by decide +kernel
theorem d_Txt_readCells_72 : decode prog_5_method_6_code 72 = .ok (.putfield 27, 3) := by decide +kernel
theorem d_Txt_readCells_75 : decode prog_5_method_6_code 75 = .ok (.return_, 1) := by decide +kernel
theorem d_Txt_readCells_76 : decode prog_5_method_6_code 76 = .ok (.aload_n 1, 1) := by decide +kernel
theorem d_Txt_readCells_77 : decode prog_5_method_6_code 77 = .ok (.iload_n 2, 1) := by decide +kernel
theorem d_Txt_readCells_78 : decode prog_5_method_6_code 78 = .ok (.iload 5, 2) := by decide +kernel
theorem d_Txt_readCells_80 : decode prog_5_method_6_code 80 = .ok (.invokevirtual 77, 3) := by decide +kernel
theorem d_Txt_readCells_83 : decode prog_5_method_6_code 83 = .ok (.iinc 3 1, 3) := by decide +kernel
theorem d_Txt_readCells_86 : decode prog_5_method_6_code 86 = .ok (.goto (-84), 3) := by decide +kernel
theorem d_Txt_readCells_89 : decode prog_5_method_6_code 89 = .ok (.aload_n 1, 1) := by decide +kernel
theorem d_Txt_readCells_90 : decode prog_5_method_6_code 90 = .ok (.iload_n 2, 1) := by decide +kernel
theorem d_Txt_readCells_91 : decode prog_5_method_6_code 91 = .ok (.invokevirtual 81, 3) := by decide +kernel
theorem d_Txt_readCells_94 : decode prog_5_method_6_code 94 = .ok (.ifCond .eq 27, 3) := by decide +kernel
theorem d_Txt_readCells_97 : decode prog_5_method_6_code 97 = .ok (.aload_n 0, 1) := by decide +kernel
theorem d_Txt_readCells_98 : decode prog_5_method_6_code 98 = .ok (.getfield 24, 3) := by decide +kernel
theorem d_Txt_readCells_101 : decode prog_5_method_6_code 101 = .ok (.aload_n 0, 1) := by decide +kernel
theorem d_Txt_readCells_102 : decode prog_5_method_6_code 102 = .ok (.getfield 15, 3) := by decide +kernel
theorem d_Txt_readCells_105 : decode prog_5_method_6_code 105 = .ok (.if_icmp .ge 12, 3) := by decide +kernel
theorem d_Txt_readCells_108 : decode prog_5_method_6_code 108 = .ok (.aload_n 0, 1) := by decide +kernel
theorem d_Txt_readCells_109 : decode prog_5_method_6_code 109 = .ok (.invokevirtual 45, 3) := by decide +kernel
theorem d_Txt_readCells_112 : decode prog_5_method_6_code 112 = .ok (.bipush 59, 2) := by decide +kernel
theorem d_Txt_readCells_114 : decode prog_5_method_6_code 114 = .ok (.if_icmp .ne 7, 3) := by decide +kernel
theorem d_Txt_readCells_117 : decode prog_5_method_6_code 117 = .ok (.iconst 1, 1) := by decide +kernel
theorem d_Txt_readCells_118 : decode prog_5_method_6_code 118 = .ok (.goto 4, 3) := by decide +kernel
theorem d_Txt_readCells_121 : decode prog_5_method_6_code 121 = .ok (.iconst 0, 1) := by decide +kernel
theorem d_Txt_readCells_122 : decode prog_5_method_6_code 122 = .ok (.istore_n 3, 1) := by decide +kernel
theorem d_Txt_readCells_123 : decode prog_5_method_6_code 123 = .ok (.iload_n 3, 1) := by decide +kernel
theorem d_Txt_readCells_124 : decode prog_5_method_6_code 124 = .ok (.ifCond .ne 11, 3) := by decide +kernel
theorem d_Txt_readCells_127 : decode prog_5_method_6_code 127 = .ok (.aload_n 0, 1) := by decide +kernel
theorem d_Txt_readCells_128 : decode prog_5_method_6_code 128 = .ok (.aload_n 0, 1) := by decide +kernel
theorem d_Txt_readCells_129 : decode prog_5_method_6_code 129 = .ok (.getfield 24, 3) := by decide +kernel
theorem d_Txt_readCells_132 : decode prog_5_method_6_code 132 = .ok (.putfield 27, 3) := by decide +kernel
theorem d_Txt_readCells_135 : decode prog_5_method_6_code 135 = .ok (.return_, 1) := by decide +kernel
def b_Txt_readCells_122 (F : Nat) (a0 : Nat) (s0 : Int32) (h : PH) : Option PH :=
  (if s0 = (0 : Int32) then bnd (gI h a0 2 2) fun x1 => bnd (pV h a0 2 3 (.int x1)) fun h2 => some h2 else some h)
theorem g_Txt_readCells_122 {l : Launch} {E : ET} {d : Nat} (hd : 3 ≤ d) {F : Nat} {h9 : PH} {x : Nat}  (a0 : Nat) (s0 : Int32) (h : PH) (hf : b_Txt_readCells_122 F a0 s0 h = some h9) : Go l E m_Txt_readCells (rm d 0 0) (KM E 0 0 (PoE none h9 x)) 0 0 h x 122 [(0, .ref a0)] [.int s0] := by
  unfold b_Txt_readCells_122 at hf
  refine go_istore_n (lv' := [(3, .int s0), (0, .ref a0)]) d_Txt_readCells_122 rfl (by decide) ?_
  refine go_iload_n 0 d_Txt_readCells_123 rfl ?_
  refine go_if_ne 135 d_Txt_readCells_124 (by decide) (fun q3 => ?_) (fun q3 => ?_)
  · rw [if_neg q3] at hf
    have e9 := Option.some.inj hf
    subst e9
    exact go_vret d_Txt_readCells_135 rfl ⟨rfl, rfl, rfl⟩
  · rw [if_pos q3] at hf
    refine go_aload_n 1 d_Txt_readCells_127 rfl ?_
    refine go_aload_n 1 d_Txt_readCells_128 rfl ?_
    obtain ⟨x1, e_x1, hf⟩ := bnd_x hf
    refine go_get d_Txt_readCells_129 (gI_x e_x1) fl_Txt_24 ?_
    obtain ⟨h2, e_h2, hf⟩ := bnd_x hf
    refine go_putI d_Txt_readCells_132 e_h2 fl_Txt_27 rfl rfl ?_
    have e9 := Option.some.inj hf
    subst e9
    exact go_vret d_Txt_readCells_135 rfl ⟨rfl, rfl, rfl⟩
def b_Txt_readCells_117 (F : Nat) (a0 : Nat) (h : PH) : Option PH :=
  b_Txt_readCells_122 F a0 (1 : Int32) h
theorem g_Txt_readCells_117 {l : Launch} {E : ET} {d : Nat} (hd : 3 ≤ d) {F : Nat} {h9 : PH} {x : Nat}  (a0 : Nat) (h : PH) (hf : b_Txt_readCells_117 F a0 h = some h9) : Go l E m_Txt_readCells (rm d 0 0) (KM E 0 0 (PoE none h9 x)) 0 0 h x 117 [(0, .ref a0)] [] := by
  unfold b_Txt_readCells_117 at hf
  refine go_iconst (1 : Int32) d_Txt_readCells_117 (by decide) ?_
  refine go_goto 122 d_Txt_readCells_118 (by decide) ?_
  refine go_sub (lv' := [(0, .ref a0)]) [0] rfl ?_
  exact g_Txt_readCells_122 hd  a0 (1 : Int32) h hf
def b_Txt_readCells_121 (F : Nat) (a0 : Nat) (h : PH) : Option PH :=
  b_Txt_readCells_122 F a0 (0 : Int32) h
theorem g_Txt_readCells_121 {l : Launch} {E : ET} {d : Nat} (hd : 3 ≤ d) {F : Nat} {h9 : PH} {x : Nat}  (a0 : Nat) (h : PH) (hf : b_Txt_readCells_121 F a0 h = some h9) : Go l E m_Txt_readCells (rm d 0 0) (KM E 0 0 (PoE none h9 x)) 0 0 h x 121 [(0, .ref a0)] [] := by
  unfold b_Txt_readCells_121 at hf
  refine go_iconst (0 : Int32) d_Txt_readCells_121 (by decide) ?_
  refine go_sub (lv' := [(0, .ref a0)]) [0] rfl ?_
  exact g_Txt_readCells_122 hd  a0 (0 : Int32) h hf
def b_Txt_readCells_89 (F : Nat) (a0 : Nat) (a1 : Nat) (i2 : Int32) (h : PH) : Option PH :=
  bnd (cK h a1 4) fun _ => bnd (f_Rul_isActive a1 i2 h) fun x2 => (if x2 = (0 : Int32) then b_Txt_readCells_121 F a0 h else bnd (gI h a0 2 2) fun x3 => bnd (gI h a0 2 1) fun x4 => (if x4 ≤ x3 then b_Txt_readCells_117 F a0 h else bnd (cK h a0 2) fun _ => bnd (f_Txt_here a0 h) fun x6 => (if x6 = (59 : Int32) then b_Txt_readCells_117 F a0 h else b_Txt_readCells_121 F a0 h)))
theorem g_Txt_readCells_89 {l : Launch} {E : ET} {d : Nat} (hd : 3 ≤ d) {F : Nat} {h9 : PH} {x : Nat}  (a0 : Nat) (a1 : Nat) (i2 : Int32) (h : PH) (hf : b_Txt_readCells_89 F a0 a1 i2 h = some h9) : Go l E m_Txt_readCells (rm d 0 0) (KM E 0 0 (PoE none h9 x)) 0 0 h x 89 [(0, .ref a0), (1, .ref a1), (2, .int i2)] [] := by
  unfold b_Txt_readCells_89 at hf
  refine go_aload_n 1 d_Txt_readCells_89 rfl ?_
  refine go_iload_n 2 d_Txt_readCells_90 rfl ?_
  obtain ⟨_, e1, hf⟩ := bnd_x hf
  obtain ⟨x2, e_x2, hf⟩ := bnd_x hf
  refine go_callV_I (As := [.int i2]) (st := []) (c_Rul_isActive (d := d - 1) (by omega) e_x2) lk_Txt_81 rfl rfl e1 (by decide) rfl (rm_ok (by omega)) (Nat.le_of_ble_eq_true rfl) rm_c d_Txt_readCells_91 ?_
  refine go_if_eq 121 d_Txt_readCells_94 (by decide) (fun q9 => ?_) (fun q9 => ?_)
  · rw [if_pos q9] at hf
    refine go_sub (lv' := [(0, .ref a0)]) [0] rfl ?_
    exact g_Txt_readCells_121 hd  a0 h hf
  · rw [if_neg q9] at hf
    refine go_aload_n 0 d_Txt_readCells_97 rfl ?_
    obtain ⟨x3, e_x3, hf⟩ := bnd_x hf
    refine go_get d_Txt_readCells_98 (gI_x e_x3) fl_Txt_24 ?_
    refine go_aload_n 0 d_Txt_readCells_101 rfl ?_
    obtain ⟨x4, e_x4, hf⟩ := bnd_x hf
    refine go_get d_Txt_readCells_102 (gI_x e_x4) fl_Txt_15 ?_
    refine go_icmp_ge 117 d_Txt_readCells_105 (by decide) (fun q8 => ?_) (fun q8 => ?_)
    · rw [if_pos q8] at hf
      refine go_sub (lv' := [(0, .ref a0)]) [0] rfl ?_
      exact g_Txt_readCells_117 hd  a0 h hf
    · rw [if_neg q8] at hf
      refine go_aload_n 0 d_Txt_readCells_108 rfl ?_
      obtain ⟨_, e5, hf⟩ := bnd_x hf
      obtain ⟨x6, e_x6, hf⟩ := bnd_x hf
      refine go_callV_I (As := []) (st := []) (c_Txt_here (d := d - 1) (by omega) e_x6) lk_Txt_45 rfl rfl e5 (by decide) rfl (rm_ok (by omega)) (Nat.le_of_ble_eq_true rfl) rm_c d_Txt_readCells_109 ?_
      refine go_bipush (59 : Int32) d_Txt_readCells_112 (by decide) ?_
      refine go_icmp_ne 121 d_Txt_readCells_114 (by decide) (fun q7 => ?_) (fun q7 => ?_)
      · rw [if_neg q7] at hf
        refine go_sub (lv' := [(0, .ref a0)]) [0] rfl ?_
        exact g_Txt_readCells_121 hd  a0 h hf
      · rw [if_pos q7] at hf
        refine go_sub (lv' := [(0, .ref a0)]) [0] rfl ?_
        exact g_Txt_readCells_117 hd  a0 h hf
def b_Txt_readCells_2 (F : Nat) (k2 : Nat → Nat → Int32 → Int32 → PH → Option PH) (a0 : Nat) (a1 : Nat) (i2 : Int32) (i3 : Int32) (h : PH) : Option PH :=
  (if (6 : Int32) ≤ i3 then b_Txt_readCells_89 F a0 a1 i2 h else bnd (cK h a0 2) fun _ => bnd (f_Txt_here a0 h) fun x2 => (if x2 = (58 : Int32) then bnd (cK h a1 4) fun _ => bnd (f_Rul_isFull a1 i2 h) fun x4 => (if x4 = (0 : Int32) then bnd (gI h a0 2 2) fun x5 => bnd (pV h a0 2 2 (.int (x5 + (1 : Int32)))) fun h6 => bnd (gI h6 a0 2 2) fun x7 => bnd (cK h6 a0 2) fun _ => bnd2 (f_Txt_readNumber F a0 (0 : Int32) (35 : Int32) h6) fun x9 h10 => bnd (gI h10 a0 2 3) fun x11 => (if x11 = (-1 : Int32) then bnd (cK h10 a1 4) fun _ => bnd (f_Rul_has a1 i2 x9 h10) fun x13 => (if x13 = (0 : Int32) then bnd (cK h10 a1 4) fun _ => bnd (f_Rul_attach F a1 i2 x9 h10) fun h15 => k2 a0 a1 i2 (i3 + (1 : Int32)) h15 else bnd (pV h10 a0 2 3 (.int x7)) fun h16 => some h16) else some h10) else b_Txt_readCells_89 F a0 a1 i2 h) else b_Txt_readCells_89 F a0 a1 i2 h))
def f_Txt_readCells_2 (F : Nat) : Nat → Nat → Nat → Int32 → Int32 → PH → Option PH
  | 0 => fun _ _ _ _ _ => none
  | n + 1 => b_Txt_readCells_2 F (f_Txt_readCells_2 F n)
theorem g_Txt_readCells_2 {l : Launch} {E : ET} {d : Nat} (hd : 3 ≤ d) {F : Nat} {h9 : PH} {x : Nat} {k2 : Nat → Nat → Int32 → Int32 → PH → Option PH} (hk2 : ∀ (a0 : Nat) (a1 : Nat) (i2 : Int32) (i3 : Int32) (hh : PH), k2 a0 a1 i2 i3 hh = some h9 → Go l E m_Txt_readCells (rm d 0 0) (KM E 0 0 (PoE none h9 x)) 0 0 hh x 2 [(0, .ref a0), (1, .ref a1), (2, .int i2), (3, .int i3)] []) (a0 : Nat) (a1 : Nat) (i2 : Int32) (i3 : Int32) (h : PH) (hf : b_Txt_readCells_2 F k2 a0 a1 i2 i3 h = some h9) : Go l E m_Txt_readCells (rm d 0 0) (KM E 0 0 (PoE none h9 x)) 0 0 h x 2 [(0, .ref a0), (1, .ref a1), (2, .int i2), (3, .int i3)] [] := by
  unfold b_Txt_readCells_2 at hf
  refine go_iload_n 3 d_Txt_readCells_2 rfl ?_
  refine go_bipush (6 : Int32) d_Txt_readCells_3 (by decide) ?_
  refine go_icmp_ge 89 d_Txt_readCells_5 (by decide) (fun q21 => ?_) (fun q21 => ?_)
  · rw [if_pos q21] at hf
    refine go_sub (lv' := [(0, .ref a0), (1, .ref a1), (2, .int i2)]) [0, 1, 2] rfl ?_
    exact g_Txt_readCells_89 hd  a0 a1 i2 h hf
  · rw [if_neg q21] at hf
    refine go_aload_n 0 d_Txt_readCells_8 rfl ?_
    obtain ⟨_, e1, hf⟩ := bnd_x hf
    obtain ⟨x2, e_x2, hf⟩ := bnd_x hf
    refine go_callV_I (As := []) (st := []) (c_Txt_here (d := d - 1) (by omega) e_x2) lk_Txt_45 rfl rfl e1 (by decide) rfl (rm_ok (by omega)) (Nat.le_of_ble_eq_true rfl) rm_c d_Txt_readCells_9 ?_
    refine go_bipush (58 : Int32) d_Txt_readCells_12 (by decide) ?_
    refine go_icmp_ne 89 d_Txt_readCells_14 (by decide) (fun q20 => ?_) (fun q20 => ?_)
    · rw [if_neg q20] at hf
      refine go_sub (lv' := [(0, .ref a0), (1, .ref a1), (2, .int i2)]) [0, 1, 2] rfl ?_
      exact g_Txt_readCells_89 hd  a0 a1 i2 h hf
    · rw [if_pos q20] at hf
      refine go_aload_n 1 d_Txt_readCells_17 rfl ?_
      refine go_iload_n 2 d_Txt_readCells_18 rfl ?_
      obtain ⟨_, e3, hf⟩ := bnd_x hf
      obtain ⟨x4, e_x4, hf⟩ := bnd_x hf
      refine go_callV_I (As := [.int i2]) (st := []) (c_Rul_isFull (d := d - 1) (by omega) e_x4) lk_Txt_69 rfl rfl e3 (by decide) rfl (rm_ok (by omega)) (Nat.le_of_ble_eq_true rfl) rm_c d_Txt_readCells_19 ?_
      refine go_if_ne 89 d_Txt_readCells_22 (by decide) (fun q19 => ?_) (fun q19 => ?_)
      · rw [if_neg q19] at hf
        refine go_sub (lv' := [(0, .ref a0), (1, .ref a1), (2, .int i2)]) [0, 1, 2] rfl ?_
        exact g_Txt_readCells_89 hd  a0 a1 i2 h hf
      · rw [if_pos q19] at hf
        refine go_aload_n 0 d_Txt_readCells_25 rfl ?_
        refine go_dup d_Txt_readCells_26 rfl ?_
        obtain ⟨x5, e_x5, hf⟩ := bnd_x hf
        refine go_get d_Txt_readCells_27 (gI_x e_x5) fl_Txt_24 ?_
        refine go_iconst (1 : Int32) d_Txt_readCells_30 (by decide) ?_
        refine go_iadd d_Txt_readCells_31 ?_
        obtain ⟨h6, e_h6, hf⟩ := bnd_x hf
        refine go_putI d_Txt_readCells_32 e_h6 fl_Txt_24 rfl rfl ?_
        refine go_aload_n 0 d_Txt_readCells_35 rfl ?_
        obtain ⟨x7, e_x7, hf⟩ := bnd_x hf
        refine go_get d_Txt_readCells_36 (gI_x e_x7) fl_Txt_24 ?_
        refine go_istore (lv' := [(4, .int x7), (0, .ref a0), (1, .ref a1), (2, .int i2), (3, .int i3)]) d_Txt_readCells_39 rfl (by decide) ?_
        refine go_aload_n 1 d_Txt_readCells_41 rfl ?_
        refine go_iconst (0 : Int32) d_Txt_readCells_42 (by decide) ?_
        refine go_bipush (35 : Int32) d_Txt_readCells_43 (by decide) ?_
        obtain ⟨_, e8, hf⟩ := bnd_x hf
        obtain ⟨x9, h10, e_x9, hf⟩ := bnd2_x hf
        refine go_callV_I (As := [.int (0 : Int32), .int (35 : Int32)]) (st := []) (c_Txt_readNumber (d := d - 1) (by omega) e_x9) lk_Txt_58 rfl rfl e8 (by decide) rfl (rm_ok (by omega)) (Nat.le_of_ble_eq_true rfl) rm_c d_Txt_readCells_45 ?_
        refine go_istore (lv' := [(5, .int x9), (4, .int x7), (0, .ref a0), (1, .ref a1), (2, .int i2), (3, .int i3)]) d_Txt_readCells_48 rfl (by decide) ?_
        refine go_aload_n 2 d_Txt_readCells_50 rfl ?_
        obtain ⟨x11, e_x11, hf⟩ := bnd_x hf
        refine go_get d_Txt_readCells_51 (gI_x e_x11) fl_Txt_27 ?_
        refine go_iconst (-1 : Int32) d_Txt_readCells_54 (by decide) ?_
        refine go_icmp_eq 59 d_Txt_readCells_55 (by decide) (fun q18 => ?_) (fun q18 => ?_)
        · rw [if_pos q18] at hf
          refine go_aload_n 3 d_Txt_readCells_59 rfl ?_
          refine go_iload_n 4 d_Txt_readCells_60 rfl ?_
          refine go_iload 0 d_Txt_readCells_61 rfl ?_
          obtain ⟨_, e12, hf⟩ := bnd_x hf
          obtain ⟨x13, e_x13, hf⟩ := bnd_x hf
          refine go_callV_I (As := [.int i2, .int x9]) (st := []) (c_Rul_has (d := d - 1) (by omega) e_x13) lk_Txt_73 rfl rfl e12 (by decide) rfl (rm_ok (by omega)) (Nat.le_of_ble_eq_true rfl) rm_c d_Txt_readCells_63 ?_
          refine go_if_eq 76 d_Txt_readCells_66 (by decide) (fun q17 => ?_) (fun q17 => ?_)
          · rw [if_pos q17] at hf
            refine go_aload_n 3 d_Txt_readCells_76 rfl ?_
            refine go_iload_n 4 d_Txt_readCells_77 rfl ?_
            refine go_iload 0 d_Txt_readCells_78 rfl ?_
            obtain ⟨_, e14, hf⟩ := bnd_x hf
            obtain ⟨h15, e_x15, hf⟩ := bnd_x hf
            refine go_callV_N (As := [.int i2, .int x9]) (st := []) (c_Rul_attach (d := d - 1) (by omega) e_x15) lk_Txt_77 rfl rfl e14 (by decide) rfl (rm_ok (by omega)) (Nat.le_of_ble_eq_true rfl) rm_c d_Txt_readCells_80 ?_
            refine go_iinc (lv' := [(3, .int (i3 + (1 : Int32))), (5, .int x9), (4, .int x7), (0, .ref a0), (1, .ref a1), (2, .int i2)]) 5 (i3 + (1 : Int32)) d_Txt_readCells_83 rfl rfl rfl (by decide) ?_
            refine go_goto 2 d_Txt_readCells_86 (by decide) ?_
            refine go_sub (lv' := [(0, .ref a0), (1, .ref a1), (2, .int i2), (3, .int (i3 + (1 : Int32)))]) [3, 4, 5, 0] rfl ?_
            exact hk2 a0 a1 i2 (i3 + (1 : Int32)) h15 hf
          · rw [if_neg q17] at hf
            refine go_aload_n 2 d_Txt_readCells_69 rfl ?_
            refine go_iload 1 d_Txt_readCells_70 rfl ?_
            obtain ⟨h16, e_h16, hf⟩ := bnd_x hf
            refine go_putI d_Txt_readCells_72 e_h16 fl_Txt_27 rfl rfl ?_
            have e9 := Option.some.inj hf
            subst e9
            exact go_vret d_Txt_readCells_75 rfl ⟨rfl, rfl, rfl⟩
        · rw [if_neg q18] at hf
          have e9 := Option.some.inj hf
          subst e9
          exact go_vret d_Txt_readCells_58 rfl ⟨rfl, rfl, rfl⟩
theorem t_Txt_readCells_2 {l : Launch} {E : ET} {d : Nat} (hd : 3 ≤ d) {F : Nat} {h9 : PH} {x : Nat}  : ∀ (n : Nat) (a0 : Nat) (a1 : Nat) (i2 : Int32) (i3 : Int32) (hh : PH), f_Txt_readCells_2 F n a0 a1 i2 i3 hh = some h9 → Go l E m_Txt_readCells (rm d 0 0) (KM E 0 0 (PoE none h9 x)) 0 0 hh x 2 [(0, .ref a0), (1, .ref a1), (2, .int i2), (3, .int i3)] [] := by
  intro n
  induction n with
  | zero => intro v0 v1 v2 v3 v4 hf; cases hf
  | succ n ih => intro v0 v1 v2 v3 v4 hf; exact g_Txt_readCells_2 hd ih v0 v1 v2 v3 v4 hf
def f_Txt_readCells (F : Nat) (a0 : Nat) (a1 : Nat) (i2 : Int32) (h : PH) : Option PH :=
  f_Txt_readCells_2 F F a0 a1 i2 (0 : Int32) h
theorem g_Txt_readCells_0 {l : Launch} {E : ET} {d : Nat} (hd : 3 ≤ d) {F : Nat} {h9 : PH} {x : Nat}  (a0 : Nat) (a1 : Nat) (i2 : Int32) (h : PH) (hf : f_Txt_readCells F a0 a1 i2 h = some h9) : Go l E m_Txt_readCells (rm d 0 0) (KM E 0 0 (PoE none h9 x)) 0 0 h x 0 [(0, .ref a0), (1, .ref a1), (2, .int i2)] [] := by
  unfold f_Txt_readCells at hf
  refine go_iconst (0 : Int32) d_Txt_readCells_0 (by decide) ?_
  refine go_istore_n (lv' := [(3, .int (0 : Int32)), (0, .ref a0), (1, .ref a1), (2, .int i2)]) d_Txt_readCells_1 rfl (by decide) ?_
  refine go_sub (lv' := [(0, .ref a0), (1, .ref a1), (2, .int i2), (3, .int (0 : Int32))]) [1, 2, 3, 0] rfl ?_
  exact t_Txt_readCells_2 hd  _ a0 a1 i2 (0 : Int32) h hf
theorem c_Txt_readCells {l : Launch} {E : ET} {d : Nat} (hd : 3 ≤ d) {F : Nat} {h9 : PH} {x : Nat} {a0 : Nat} {a1 : Nat} {i2 : Int32} {h : PH} (hf : f_Txt_readCells F a0 a1 i2 h = some h9) : Fn l E m_Txt_readCells d 0 0 [.ref a0, .ref a1, .int i2] h x (PoE none h9 x) :=
  Fn.of (by decide +kernel) (Nat.le_of_ble_eq_true rfl) (g_Txt_readCells_0 hd a0 a1 i2 h hf)
theorem d_Txt_readConstraint_0 : decode prog_5_method_5_code 0 = .ok (.aload_n 0, 1) := by decide +kernel
theorem d_Txt_readConstraint_1 : decode prog_5_method_5_code 1 = .ok (.invokevirtual 45, 3) := by decide +kernel
theorem d_Txt_readConstraint_4 : decode prog_5_method_5_code 4 = .ok (.bipush 59, 2) := by decide +kernel
theorem d_Txt_readConstraint_6 : decode prog_5_method_5_code 6 = .ok (.if_icmp .eq 12, 3) := by decide +kernel
theorem d_Txt_readConstraint_9 : decode prog_5_method_5_code 9 = .ok (.aload_n 0, 1) := by decide +kernel
theorem d_Txt_readConstraint_10 : decode prog_5_method_5_code 10 = .ok (.aload_n 0, 1) := by decide +kernel
theorem d_Txt_readConstraint_11 : decode prog_5_method_5_code 11 = .ok (.getfield 24, 3) := by decide +kernel
theorem d_Txt_readConstraint_14 : decode prog_5_method_5_code 14 = .ok (.putfield 27, 3) := by decide +kernel
theorem d_Txt_readConstraint_17 : decode prog_5_method_5_code 17 = .ok (.return_, 1) := by decide +kernel
theorem d_Txt_readConstraint_18 : decode prog_5_method_5_code 18 = .ok (.aload_n 0, 1) := by decide +kernel
theorem d_Txt_readConstraint_19 : decode prog_5_method_5_code 19 = .ok (.dup, 1) := by decide +kernel
theorem d_Txt_readConstraint_20 : decode prog_5_method_5_code 20 = .ok (.getfield 24, 3) := by decide +kernel
theorem d_Txt_readConstraint_23 : decode prog_5_method_5_code 23 = .ok (.iconst 1, 1) := by decide +kernel
theorem d_Txt_readConstraint_24 : decode prog_5_method_5_code 24 = .ok (.iadd, 1) := by decide +kernel
theorem d_Txt_readConstraint_25 : decode prog_5_method_5_code 25 = .ok (.putfield 24, 3) := by decide +kernel
theorem d_Txt_readConstraint_28 : decode prog_5_method_5_code 28 = .ok (.aload_n 0, 1) := by decide +kernel
theorem d_Txt_readConstraint_29 : decode prog_5_method_5_code 29 = .ok (.invokevirtual 45, 3) := by decide +kernel
theorem d_Txt_readConstraint_32 : decode prog_5_method_5_code 32 = .ok (.invokestatic 49, 3) := by decide +kernel
theorem d_Txt_readConstraint_35 : decode prog_5_method_5_code 35 = .ok (.istore_n 2, 1) := by decide +kernel
theorem d_Txt_readConstraint_36 : decode prog_5_method_5_code 36 = .ok (.iload_n 2, 1) := by decide +kernel
theorem d_Txt_readConstraint_37 : decode prog_5_method_5_code 37 = .ok (.iconst (-1), 1) := by decide +kernel
theorem d_Txt_readConstraint_38 : decode prog_5_method_5_code 38 = .ok (.if_icmp .eq 12, 3) := by decide +kernel
theorem d_Txt_readConstraint_41 : decode prog_5_method_5_code 41 = .ok (.aload_n 1, 1) := by decide +kernel
theorem d_Txt_readConstraint_42 : decode prog_5_method_5_code 42 = .ok (.getfield 53, 3) := by decide +kernel
theorem d_Txt_readConstraint_45 : decode prog_5_method_5_code 45 = .ok (.bipush 8, 2) := by decide +kernel
theorem d_Txt_readConstraint_47 : decode prog_5_method_5_code 47 = .ok (.if_icmp .lt 12, 3) := by decide +kernel
theorem d_Txt_readConstraint_50 : decode prog_5_method_5_code 50 = .ok (.aload_n 0, 1) := by decide +kernel
theorem d_Txt_readConstraint_51 : decode prog_5_method_5_code 51 = .ok (.aload_n 0, 1) := by decide +kernel
theorem d_Txt_readConstraint_52 : decode prog_5_method_5_code 52 = .ok (.getfield 24, 3) := by decide +kernel
theorem d_Txt_readConstraint_55 : decode prog_5_method_5_code 55 = .ok (.putfield 27, 3) := by decide +kernel
theorem d_Txt_readConstraint_58 : decode prog_5_method_5_code 58 = .ok (.return_, 1) := by decide +kernel
theorem d_Txt_readConstraint_59 : decode prog_5_method_5_code 59 = .ok (.aload_n 0, 1) := by decide +kernel
theorem d_Txt_readConstraint_60 : decode prog_5_method_5_code 60 = .ok (.dup, 1) := by decide +kernel
theorem d_Txt_readConstraint_61 : decode prog_5_method_5_code 61 = .ok (.getfield 24, 3) := by decide +kernel
theorem d_Txt_readConstraint_64 : decode prog_5_method_5_code 64 = .ok (.iconst 1, 1) := by decide +kernel
theorem d_Txt_readConstraint_65 : decode prog_5_method_5_code 65 = .ok (.iadd, 1) := by decide +kernel
theorem d_Txt_readConstraint_66 : decode prog_5_method_5_code 66 = .ok (.putfield 24, 3) := by decide +kernel
theorem d_Txt_readConstraint_69 : decode prog_5_method_5_code 69 = .ok (.iload_n 2, 1) := by decide +kernel
theorem d_Txt_readConstraint_70 : decode prog_5_method_5_code 70 = .ok (.ifCond .ne 13, 3) := by decide +kernel
theorem d_Txt_readConstraint_73 : decode prog_5_method_5_code 73 = .ok (.aload_n 0, 1) := by decide +kernel
theorem d_Txt_readConstraint_74 : decode prog_5_method_5_code 74 = .ok (.iconst 1, 1) := by decide +kernel
theorem d_Txt_readConstraint_75 : decode prog_5_method_5_code 75 = .ok (.bipush 24, 2) := by decide +kernel
theorem d_Txt_readConstraint_77 : decode prog_5_method_5_code 77 = .ok (.invokevirtual 58, 3) := by decide +kernel
theorem d_Txt_readConstraint_80 : decode prog_5_method_5_code 80 = .ok (.goto 4, 3) := by decide +kernel
theorem d_Txt_readConstraint_83 : decode prog_5_method_5_code 83 = .ok (.iconst 0, 1) := by decide +kernel
theorem d_Txt_readConstraint_84 : decode prog_5_method_5_code 84 = .ok (.istore_n 3, 1) := by decide +kernel
theorem d_Txt_readConstraint_85 : decode prog_5_method_5_code 85 = .ok (.aload_n 0, 1) := by decide +kernel
theorem d_Txt_readConstraint_86 : decode prog_5_method_5_code 86 = .ok (.getfield 27, 3) := by decide +kernel
theorem d_Txt_readConstraint_89 : decode prog_5_method_5_code 89 = .ok (.iconst (-1), 1) := by decide +kernel
theorem d_Txt_readConstraint_90 : decode prog_5_method_5_code 90 = .ok (.if_icmp .ne 14, 3) := by decide +kernel
theorem d_Txt_readConstraint_93 : decode prog_5_method_5_code 93 = .ok (.aload_n 0, 1) := by decide +kernel
theorem d_Txt_readConstraint_94 : decode prog_5_method_5_code 94 = .ok (.aload_n 1, 1) := by decide +kernel
theorem d_Txt_readConstraint_95 : decode prog_5_method_5_code 95 = .ok (.aload_n 1, 1) := by decide +kernel
theorem d_Txt_readConstraint_96 : decode prog_5_method_5_code 96 = .ok (.iload_n 2, 1) := by decide +kernel
theorem d_Txt_readConstraint_97 : decode prog_5_method_5_code 97 = .ok (.iload_n 3, 1) := by decide +kernel
theorem d_Txt_readConstraint_98 : decode prog_5_method_5_code 98 = .ok (.invokevirtual 62, 3) := by decide +kernel
theorem d_Txt_readConstraint_101 : decode prog_5_method_5_code 101 = .ok (.invokevirtual 65, 3) := by decide +kernel
theorem d_Txt_readConstraint_104 : decode prog_5_method_5_code 104 = .ok (.return_, 1) := by decide +kernel
def b_Txt_readConstraint_50 (F : Nat) (a0 : Nat) (h : PH) : Option PH :=
  bnd (gI h a0 2 2) fun x1 => bnd (pV h a0 2 3 (.int x1)) fun h2 => some h2
theorem g_Txt_readConstraint_50 {l : Launch} {E : ET} {d : Nat} (hd : 4 ≤ d) {F : Nat} {h9 : PH} {x : Nat}  (a0 : Nat) (h : PH) (hf : b_Txt_readConstraint_50 F a0 h = some h9) : Go l E m_Txt_readConstraint (rm d 0 0) (KM E 0 0 (PoE none h9 x)) 0 0 h x 50 [(0, .ref a0)] [] := by
  unfold b_Txt_readConstraint_50 at hf
  refine go_aload_n 0 d_Txt_readConstraint_50 rfl ?_
  refine go_aload_n 0 d_Txt_readConstraint_51 rfl ?_
  obtain ⟨x1, e_x1, hf⟩ := bnd_x hf
  refine go_get d_Txt_readConstraint_52 (gI_x e_x1) fl_Txt_24 ?_
  obtain ⟨h2, e_h2, hf⟩ := bnd_x hf
  refine go_putI d_Txt_readConstraint_55 e_h2 fl_Txt_27 rfl rfl ?_
  have e9 := Option.some.inj hf
  subst e9
  exact go_vret d_Txt_readConstraint_58 rfl ⟨rfl, rfl, rfl⟩
def b_Txt_readConstraint_84 (F : Nat) (a0 : Nat) (a1 : Nat) (i2 : Int32) (s0 : Int32) (h : PH) : Option PH :=
  bnd (gI h a0 2 3) fun x1 => (if x1 = (-1 : Int32) then bnd (cK h a1 4) fun _ => bnd2 (f_Rul_add a1 i2 s0 h) fun x3 h4 => bnd (cK h4 a0 2) fun _ => bnd (f_Txt_readCells F a0 a1 x3 h4) fun h6 => some h6 else some h)
theorem g_Txt_readConstraint_84 {l : Launch} {E : ET} {d : Nat} (hd : 4 ≤ d) {F : Nat} {h9 : PH} {x : Nat}  (a0 : Nat) (a1 : Nat) (i2 : Int32) (s0 : Int32) (h : PH) (hf : b_Txt_readConstraint_84 F a0 a1 i2 s0 h = some h9) : Go l E m_Txt_readConstraint (rm d 0 0) (KM E 0 0 (PoE none h9 x)) 0 0 h x 84 [(0, .ref a0), (1, .ref a1), (2, .int i2)] [.int s0] := by
  unfold b_Txt_readConstraint_84 at hf
  refine go_istore_n (lv' := [(3, .int s0), (0, .ref a0), (1, .ref a1), (2, .int i2)]) d_Txt_readConstraint_84 rfl (by decide) ?_
  refine go_aload_n 1 d_Txt_readConstraint_85 rfl ?_
  obtain ⟨x1, e_x1, hf⟩ := bnd_x hf
  refine go_get d_Txt_readConstraint_86 (gI_x e_x1) fl_Txt_27 ?_
  refine go_iconst (-1 : Int32) d_Txt_readConstraint_89 (by decide) ?_
  refine go_icmp_ne 104 d_Txt_readConstraint_90 (by decide) (fun q7 => ?_) (fun q7 => ?_)
  · rw [if_neg q7] at hf
    have e9 := Option.some.inj hf
    subst e9
    exact go_vret d_Txt_readConstraint_104 rfl ⟨rfl, rfl, rfl⟩
  · rw [if_pos q7] at hf
    refine go_aload_n 1 d_Txt_readConstraint_93 rfl ?_
    refine go_aload_n 2 d_Txt_readConstraint_94 rfl ?_
    refine go_aload_n 2 d_Txt_readConstraint_95 rfl ?_
    refine go_iload_n 3 d_Txt_readConstraint_96 rfl ?_
    refine go_iload_n 0 d_Txt_readConstraint_97 rfl ?_
    obtain ⟨_, e2, hf⟩ := bnd_x hf
    obtain ⟨x3, h4, e_x3, hf⟩ := bnd2_x hf
    refine go_callV_I (As := [.int i2, .int s0]) (st := [.ref a1, .ref a0]) (c_Rul_add (d := d - 1) (by omega) e_x3) lk_Txt_62 rfl rfl e2 (by decide) rfl (rm_ok (by omega)) (Nat.le_of_ble_eq_true rfl) rm_c d_Txt_readConstraint_98 ?_
    obtain ⟨_, e5, hf⟩ := bnd_x hf
    obtain ⟨h6, e_x6, hf⟩ := bnd_x hf
    refine go_callV_N (As := [.ref a1, .int x3]) (st := []) (c_Txt_readCells (d := d - 1) (by omega) e_x6) lk_Txt_65 rfl rfl e5 (by decide) rfl (rm_ok (by omega)) (Nat.le_of_ble_eq_true rfl) rm_c d_Txt_readConstraint_101 ?_
    have e9 := Option.some.inj hf
    subst e9
    exact go_vret d_Txt_readConstraint_104 rfl ⟨rfl, rfl, rfl⟩
def f_Txt_readConstraint (F : Nat) (a0 : Nat) (a1 : Nat) (h : PH) : Option PH :=
  bnd (cK h a0 2) fun _ => bnd (f_Txt_here a0 h) fun x2 => (if x2 = (59 : Int32) then bnd (gI h a0 2 2) fun x3 => bnd (pV h a0 2 2 (.int (x3 + (1 : Int32)))) fun h4 => bnd (cK h4 a0 2) fun _ => bnd (f_Txt_here a0 h4) fun x6 => bnd (f_Txt_kindOf x6) fun x7 => (if x7 = (-1 : Int32) then b_Txt_readConstraint_50 F a0 h4 else bnd (gI h4 a1 4 6) fun x8 => (if x8 < (8 : Int32) then bnd (gI h4 a0 2 2) fun x9 => bnd (pV h4 a0 2 2 (.int (x9 + (1 : Int32)))) fun h10 => (if x7 = (0 : Int32) then bnd (cK h10 a0 2) fun _ => bnd2 (f_Txt_readNumber F a0 (1 : Int32) (24 : Int32) h10) fun x12 h13 => b_Txt_readConstraint_84 F a0 a1 x7 x12 h13 else b_Txt_readConstraint_84 F a0 a1 x7 (0 : Int32) h10) else b_Txt_readConstraint_50 F a0 h4)) else bnd (gI h a0 2 2) fun x17 => bnd (pV h a0 2 3 (.int x17)) fun h18 => some h18)
theorem g_Txt_readConstraint_0 {l : Launch} {E : ET} {d : Nat} (hd : 4 ≤ d) {F : Nat} {h9 : PH} {x : Nat}  (a0 : Nat) (a1 : Nat) (h : PH) (hf : f_Txt_readConstraint F a0 a1 h = some h9) : Go l E m_Txt_readConstraint (rm d 0 0) (KM E 0 0 (PoE none h9 x)) 0 0 h x 0 [(0, .ref a0), (1, .ref a1)] [] := by
  unfold f_Txt_readConstraint at hf
  refine go_aload_n 0 d_Txt_readConstraint_0 rfl ?_
  obtain ⟨_, e1, hf⟩ := bnd_x hf
  obtain ⟨x2, e_x2, hf⟩ := bnd_x hf
  refine go_callV_I (As := []) (st := []) (c_Txt_here (d := d - 1) (by omega) e_x2) lk_Txt_45 rfl rfl e1 (by decide) rfl (rm_ok (by omega)) (Nat.le_of_ble_eq_true rfl) rm_c d_Txt_readConstraint_1 ?_
  refine go_bipush (59 : Int32) d_Txt_readConstraint_4 (by decide) ?_
  refine go_icmp_eq 18 d_Txt_readConstraint_6 (by decide) (fun q19 => ?_) (fun q19 => ?_)
  · rw [if_pos q19] at hf
    refine go_aload_n 0 d_Txt_readConstraint_18 rfl ?_
    refine go_dup d_Txt_readConstraint_19 rfl ?_
    obtain ⟨x3, e_x3, hf⟩ := bnd_x hf
    refine go_get d_Txt_readConstraint_20 (gI_x e_x3) fl_Txt_24 ?_
    refine go_iconst (1 : Int32) d_Txt_readConstraint_23 (by decide) ?_
    refine go_iadd d_Txt_readConstraint_24 ?_
    obtain ⟨h4, e_h4, hf⟩ := bnd_x hf
    refine go_putI d_Txt_readConstraint_25 e_h4 fl_Txt_24 rfl rfl ?_
    refine go_aload_n 0 d_Txt_readConstraint_28 rfl ?_
    obtain ⟨_, e5, hf⟩ := bnd_x hf
    obtain ⟨x6, e_x6, hf⟩ := bnd_x hf
    refine go_callV_I (As := []) (st := []) (c_Txt_here (d := d - 1) (by omega) e_x6) lk_Txt_45 rfl rfl e5 (by decide) rfl (rm_ok (by omega)) (Nat.le_of_ble_eq_true rfl) rm_c d_Txt_readConstraint_29 ?_
    obtain ⟨x7, e_x7, hf⟩ := bnd_x hf
    refine go_callS_I (As := [.int x6]) (st := []) (c_Txt_kindOf (d := d - 1) (by omega) e_x7) lk_Txt_49 rfl rfl (rm_ok (by omega)) (Nat.le_of_ble_eq_true rfl) rm_c d_Txt_readConstraint_32 ?_
    refine go_istore_n (lv' := [(2, .int x7), (0, .ref a0), (1, .ref a1)]) d_Txt_readConstraint_35 rfl (by decide) ?_
    refine go_iload_n 0 d_Txt_readConstraint_36 rfl ?_
    refine go_iconst (-1 : Int32) d_Txt_readConstraint_37 (by decide) ?_
    refine go_icmp_eq 50 d_Txt_readConstraint_38 (by decide) (fun q16 => ?_) (fun q16 => ?_)
    · rw [if_pos q16] at hf
      refine go_sub (lv' := [(0, .ref a0)]) [1] rfl ?_
      exact g_Txt_readConstraint_50 hd  a0 h4 hf
    · rw [if_neg q16] at hf
      refine go_aload_n 2 d_Txt_readConstraint_41 rfl ?_
      obtain ⟨x8, e_x8, hf⟩ := bnd_x hf
      refine go_get d_Txt_readConstraint_42 (gI_x e_x8) fl_Txt_53 ?_
      refine go_bipush (8 : Int32) d_Txt_readConstraint_45 (by decide) ?_
      refine go_icmp_lt 59 d_Txt_readConstraint_47 (by decide) (fun q15 => ?_) (fun q15 => ?_)
      · rw [if_pos q15] at hf
        refine go_aload_n 1 d_Txt_readConstraint_59 rfl ?_
        refine go_dup d_Txt_readConstraint_60 rfl ?_
        obtain ⟨x9, e_x9, hf⟩ := bnd_x hf
        refine go_get d_Txt_readConstraint_61 (gI_x e_x9) fl_Txt_24 ?_
        refine go_iconst (1 : Int32) d_Txt_readConstraint_64 (by decide) ?_
        refine go_iadd d_Txt_readConstraint_65 ?_
        obtain ⟨h10, e_h10, hf⟩ := bnd_x hf
        refine go_putI d_Txt_readConstraint_66 e_h10 fl_Txt_24 rfl rfl ?_
        refine go_iload_n 0 d_Txt_readConstraint_69 rfl ?_
        refine go_if_ne 83 d_Txt_readConstraint_70 (by decide) (fun q14 => ?_) (fun q14 => ?_)
        · rw [if_neg q14] at hf
          refine go_iconst (0 : Int32) d_Txt_readConstraint_83 (by decide) ?_
          refine go_sub (lv' := [(0, .ref a0), (1, .ref a1), (2, .int x7)]) [1, 2, 0] rfl ?_
          exact g_Txt_readConstraint_84 hd  a0 a1 x7 (0 : Int32) h10 hf
        · rw [if_pos q14] at hf
          refine go_aload_n 1 d_Txt_readConstraint_73 rfl ?_
          refine go_iconst (1 : Int32) d_Txt_readConstraint_74 (by decide) ?_
          refine go_bipush (24 : Int32) d_Txt_readConstraint_75 (by decide) ?_
          obtain ⟨_, e11, hf⟩ := bnd_x hf
          obtain ⟨x12, h13, e_x12, hf⟩ := bnd2_x hf
          refine go_callV_I (As := [.int (1 : Int32), .int (24 : Int32)]) (st := []) (c_Txt_readNumber (d := d - 1) (by omega) e_x12) lk_Txt_58 rfl rfl e11 (by decide) rfl (rm_ok (by omega)) (Nat.le_of_ble_eq_true rfl) rm_c d_Txt_readConstraint_77 ?_
          refine go_goto 84 d_Txt_readConstraint_80 (by decide) ?_
          refine go_sub (lv' := [(0, .ref a0), (1, .ref a1), (2, .int x7)]) [1, 2, 0] rfl ?_
          exact g_Txt_readConstraint_84 hd  a0 a1 x7 x12 h13 hf
      · rw [if_neg q15] at hf
        refine go_sub (lv' := [(0, .ref a0)]) [1] rfl ?_
        exact g_Txt_readConstraint_50 hd  a0 h4 hf
  · rw [if_neg q19] at hf
    refine go_aload_n 0 d_Txt_readConstraint_9 rfl ?_
    refine go_aload_n 0 d_Txt_readConstraint_10 rfl ?_
    obtain ⟨x17, e_x17, hf⟩ := bnd_x hf
    refine go_get d_Txt_readConstraint_11 (gI_x e_x17) fl_Txt_24 ?_
    obtain ⟨h18, e_h18, hf⟩ := bnd_x hf
    refine go_putI d_Txt_readConstraint_14 e_h18 fl_Txt_27 rfl rfl ?_
    have e9 := Option.some.inj hf
    subst e9
    exact go_vret d_Txt_readConstraint_17 rfl ⟨rfl, rfl, rfl⟩
theorem c_Txt_readConstraint {l : Launch} {E : ET} {d : Nat} (hd : 4 ≤ d) {F : Nat} {h9 : PH} {x : Nat} {a0 : Nat} {a1 : Nat} {h : PH} (hf : f_Txt_readConstraint F a0 a1 h = some h9) : Fn l E m_Txt_readConstraint d 0 0 [.ref a0, .ref a1] h x (PoE none h9 x) :=
  Fn.of (by decide +kernel) (Nat.le_of_ble_eq_true rfl) (g_Txt_readConstraint_0 hd a0 a1 h hf)
theorem d_Txt_readInto_0 : decode prog_5_method_3_code 0 = .ok (.aload_n 1, 1) := by decide +kernel
theorem d_Txt_readInto_1 : decode prog_5_method_3_code 1 = .ok (.invokevirtual 19, 3) := by decide +kernel
theorem d_Txt_readInto_4 : decode prog_5_method_3_code 4 = .ok (.aload_n 0, 1) := by decide +kernel
theorem d_Txt_readInto_5 : decode prog_5_method_3_code 5 = .ok (.iconst 0, 1) := by decide +kernel
theorem d_Txt_readInto_6 : decode prog_5_method_3_code 6 = .ok (.putfield 24, 3) := by decide +kernel
theorem d_Txt_readInto_9 : decode prog_5_method_3_code 9 = .ok (.aload_n 0, 1) := by decide +kernel
theorem d_Txt_readInto_10 : decode prog_5_method_3_code 10 = .ok (.iconst (-1), 1) := by decide +kernel
theorem d_Txt_readInto_11 : decode prog_5_method_3_code 11 = .ok (.putfield 27, 3) := by decide +kernel
theorem d_Txt_readInto_14 : decode prog_5_method_3_code 14 = .ok (.aload_n 0, 1) := by decide +kernel
theorem d_Txt_readInto_15 : decode prog_5_method_3_code 15 = .ok (.aload_n 1, 1) := by decide +kernel
theorem d_Txt_readInto_16 : decode prog_5_method_3_code 16 = .ok (.getfield 30, 3) := by decide +kernel
theorem d_Txt_readInto_19 : decode prog_5_method_3_code 19 = .ok (.invokevirtual 33, 3) := by decide +kernel
theorem d_Txt_readInto_22 : decode prog_5_method_3_code 22 = .ok (.iconst 0, 1) := by decide +kernel
theorem d_Txt_readInto_23 : decode prog_5_method_3_code 23 = .ok (.istore_n 2, 1) := by decide +kernel
theorem d_Txt_readInto_24 : decode prog_5_method_3_code 24 = .ok (.iload_n 2, 1) := by decide +kernel
theorem d_Txt_readInto_25 : decode prog_5_method_3_code 25 = .ok (.bipush 8, 2) := by decide +kernel
theorem d_Txt_readInto_27 : decode prog_5_method_3_code 27 = .ok (.if_icmp .gt 36, 3) := by decide +kernel
theorem d_Txt_readInto_30 : decode prog_5_method_3_code 30 = .ok (.aload_n 0, 1) := by decide +kernel
theorem d_Txt_readInto_31 : decode prog_5_method_3_code 31 = .ok (.getfield 27, 3) := by decide +kernel
theorem d_Txt_readInto_34 : decode prog_5_method_3_code 34 = .ok (.iconst (-1), 1) := by decide +kernel
theorem d_Txt_readInto_35 : decode prog_5_method_3_code 35 = .ok (.if_icmp .ne 28, 3) := by decide +kernel
theorem d_Txt_readInto_38 : decode prog_5_method_3_code 38 = .ok (.aload_n 0, 1) := by decide +kernel
theorem d_Txt_readInto_39 : decode prog_5_method_3_code 39 = .ok (.getfield 24, 3) := by decide +kernel
theorem d_Txt_readInto_42 : decode prog_5_method_3_code 42 = .ok (.aload_n 0, 1) := by decide +kernel
theorem d_Txt_readInto_43 : decode prog_5_method_3_code 43 = .ok (.getfield 15, 3) := by decide +kernel
theorem d_Txt_readInto_46 : decode prog_5_method_3_code 46 = .ok (.if_icmp .ge 17, 3) := by decide +kernel
theorem d_Txt_readInto_49 : decode prog_5_method_3_code 49 = .ok (.aload_n 0, 1) := by decide +kernel
theorem d_Txt_readInto_50 : decode prog_5_method_3_code 50 = .ok (.aload_n 1, 1) := by decide +kernel
theorem d_Txt_readInto_51 : decode prog_5_method_3_code 51 = .ok (.getfield 37, 3) := by decide +kernel
theorem d_Txt_readInto_54 : decode prog_5_method_3_code 54 = .ok (.invokevirtual 41, 3) := by decide +kernel
theorem d_Txt_readInto_57 : decode prog_5_method_3_code 57 = .ok (.iinc 2 1, 3) := by decide +kernel
theorem d_Txt_readInto_60 : decode prog_5_method_3_code 60 = .ok (.goto (-36), 3) := by decide +kernel
theorem d_Txt_readInto_63 : decode prog_5_method_3_code 63 = .ok (.aload_n 0, 1) := by decide +kernel
theorem d_Txt_readInto_64 : decode prog_5_method_3_code 64 = .ok (.getfield 27, 3) := by decide +kernel
theorem d_Txt_readInto_67 : decode prog_5_method_3_code 67 = .ok (.ireturn, 1) := by decide +kernel
def b_Txt_readInto_63 (F : Nat) (a0 : Nat) (h : PH) : Option (Int32 × PH) :=
  bnd (gI h a0 2 3) fun x1 => some (x1, h)
theorem g_Txt_readInto_63 {l : Launch} {E : ET} {d : Nat} (hd : 5 ≤ d) {F : Nat} {r : Int32} {h9 : PH} {x : Nat}  (a0 : Nat) (h : PH) (hf : b_Txt_readInto_63 F a0 h = some (r, h9)) : Go l E m_Txt_readInto (rm d 0 0) (KM E 0 0 (PoE (some (.int r)) h9 x)) 0 0 h x 63 [(0, .ref a0)] [] := by
  unfold b_Txt_readInto_63 at hf
  refine go_aload_n 0 d_Txt_readInto_63 rfl ?_
  obtain ⟨x1, e_x1, hf⟩ := bnd_x hf
  refine go_get d_Txt_readInto_64 (gI_x e_x1) fl_Txt_27 ?_
  obtain ⟨e8, e9⟩ := Prod.mk.inj (Option.some.inj hf)
  subst e8; subst e9
  exact go_iret d_Txt_readInto_67 rfl ⟨rfl, rfl, rfl⟩
def b_Txt_readInto_24 (F : Nat) (k24 : Nat → Nat → Int32 → PH → Option (Int32 × PH)) (a0 : Nat) (a1 : Nat) (i2 : Int32) (h : PH) : Option (Int32 × PH) :=
  (if (8 : Int32) < i2 then b_Txt_readInto_63 F a0 h else bnd (gI h a0 2 3) fun x1 => (if x1 = (-1 : Int32) then bnd (gI h a0 2 2) fun x2 => bnd (gI h a0 2 1) fun x3 => (if x3 ≤ x2 then b_Txt_readInto_63 F a0 h else bnd (gR h a1 8 1) fun x4 => bnd (cK h a0 2) fun _ => bnd (f_Txt_readConstraint F a0 x4 h) fun h6 => k24 a0 a1 (i2 + (1 : Int32)) h6) else b_Txt_readInto_63 F a0 h))
def f_Txt_readInto_24 (F : Nat) : Nat → Nat → Nat → Int32 → PH → Option (Int32 × PH)
  | 0 => fun _ _ _ _ => none
  | n + 1 => b_Txt_readInto_24 F (f_Txt_readInto_24 F n)
theorem g_Txt_readInto_24 {l : Launch} {E : ET} {d : Nat} (hd : 5 ≤ d) {F : Nat} {r : Int32} {h9 : PH} {x : Nat} {k24 : Nat → Nat → Int32 → PH → Option (Int32 × PH)} (hk24 : ∀ (a0 : Nat) (a1 : Nat) (i2 : Int32) (hh : PH), k24 a0 a1 i2 hh = some (r, h9) → Go l E m_Txt_readInto (rm d 0 0) (KM E 0 0 (PoE (some (.int r)) h9 x)) 0 0 hh x 24 [(0, .ref a0), (1, .ref a1), (2, .int i2)] []) (a0 : Nat) (a1 : Nat) (i2 : Int32) (h : PH) (hf : b_Txt_readInto_24 F k24 a0 a1 i2 h = some (r, h9)) : Go l E m_Txt_readInto (rm d 0 0) (KM E 0 0 (PoE (some (.int r)) h9 x)) 0 0 h x 24 [(0, .ref a0), (1, .ref a1), (2, .int i2)] [] := by
  unfold b_Txt_readInto_24 at hf
  refine go_iload_n 2 d_Txt_readInto_24 rfl ?_
  refine go_bipush (8 : Int32) d_Txt_readInto_25 (by decide) ?_
  refine go_icmp_gt 63 d_Txt_readInto_27 (by decide) (fun q9 => ?_) (fun q9 => ?_)
  · rw [if_pos q9] at hf
    refine go_sub (lv' := [(0, .ref a0)]) [0] rfl ?_
    exact g_Txt_readInto_63 hd  a0 h hf
  · rw [if_neg q9] at hf
    refine go_aload_n 0 d_Txt_readInto_30 rfl ?_
    obtain ⟨x1, e_x1, hf⟩ := bnd_x hf
    refine go_get d_Txt_readInto_31 (gI_x e_x1) fl_Txt_27 ?_
    refine go_iconst (-1 : Int32) d_Txt_readInto_34 (by decide) ?_
    refine go_icmp_ne 63 d_Txt_readInto_35 (by decide) (fun q8 => ?_) (fun q8 => ?_)
    · rw [if_neg q8] at hf
      refine go_sub (lv' := [(0, .ref a0)]) [0] rfl ?_
      exact g_Txt_readInto_63 hd  a0 h hf
    · rw [if_pos q8] at hf
      refine go_aload_n 0 d_Txt_readInto_38 rfl ?_
      obtain ⟨x2, e_x2, hf⟩ := bnd_x hf
      refine go_get d_Txt_readInto_39 (gI_x e_x2) fl_Txt_24 ?_
      refine go_aload_n 0 d_Txt_readInto_42 rfl ?_
      obtain ⟨x3, e_x3, hf⟩ := bnd_x hf
      refine go_get d_Txt_readInto_43 (gI_x e_x3) fl_Txt_15 ?_
      refine go_icmp_ge 63 d_Txt_readInto_46 (by decide) (fun q7 => ?_) (fun q7 => ?_)
      · rw [if_pos q7] at hf
        refine go_sub (lv' := [(0, .ref a0)]) [0] rfl ?_
        exact g_Txt_readInto_63 hd  a0 h hf
      · rw [if_neg q7] at hf
        refine go_aload_n 0 d_Txt_readInto_49 rfl ?_
        refine go_aload_n 1 d_Txt_readInto_50 rfl ?_
        obtain ⟨x4, e_x4, hf⟩ := bnd_x hf
        refine go_get d_Txt_readInto_51 (gR_x e_x4) fl_Txt_37 ?_
        obtain ⟨_, e5, hf⟩ := bnd_x hf
        obtain ⟨h6, e_x6, hf⟩ := bnd_x hf
        refine go_callV_N (As := [.ref x4]) (st := []) (c_Txt_readConstraint (d := d - 1) (by omega) e_x6) lk_Txt_41 rfl rfl e5 (by decide) rfl (rm_ok (by omega)) (Nat.le_of_ble_eq_true rfl) rm_c d_Txt_readInto_54 ?_
        refine go_iinc (lv' := [(2, .int (i2 + (1 : Int32))), (0, .ref a0), (1, .ref a1)]) 2 (i2 + (1 : Int32)) d_Txt_readInto_57 rfl rfl rfl (by decide) ?_
        refine go_goto 24 d_Txt_readInto_60 (by decide) ?_
        refine go_sub (lv' := [(0, .ref a0), (1, .ref a1), (2, .int (i2 + (1 : Int32)))]) [1, 2, 0] rfl ?_
        exact hk24 a0 a1 (i2 + (1 : Int32)) h6 hf
theorem t_Txt_readInto_24 {l : Launch} {E : ET} {d : Nat} (hd : 5 ≤ d) {F : Nat} {r : Int32} {h9 : PH} {x : Nat}  : ∀ (n : Nat) (a0 : Nat) (a1 : Nat) (i2 : Int32) (hh : PH), f_Txt_readInto_24 F n a0 a1 i2 hh = some (r, h9) → Go l E m_Txt_readInto (rm d 0 0) (KM E 0 0 (PoE (some (.int r)) h9 x)) 0 0 hh x 24 [(0, .ref a0), (1, .ref a1), (2, .int i2)] [] := by
  intro n
  induction n with
  | zero => intro v0 v1 v2 v3 hf; cases hf
  | succ n ih => intro v0 v1 v2 v3 hf; exact g_Txt_readInto_24 hd ih v0 v1 v2 v3 hf
def f_Txt_readInto (F : Nat) (a0 : Nat) (a1 : Nat) (h : PH) : Option (Int32 × PH) :=
  bnd (cK h a1 8) fun _ => bnd (f_Sta_wipe F a1 h) fun h2 => bnd (pV h2 a0 2 2 (.int (0 : Int32))) fun h3 => bnd (pV h3 a0 2 3 (.int (-1 : Int32))) fun h4 => bnd (gR h4 a1 8 2) fun x5 => bnd (cK h4 a0 2) fun _ => bnd (f_Txt_readGivens F a0 x5 h4) fun h7 => f_Txt_readInto_24 F F a0 a1 (0 : Int32) h7
theorem g_Txt_readInto_0 {l : Launch} {E : ET} {d : Nat} (hd : 5 ≤ d) {F : Nat} {r : Int32} {h9 : PH} {x : Nat}  (a0 : Nat) (a1 : Nat) (h : PH) (hf : f_Txt_readInto F a0 a1 h = some (r, h9)) : Go l E m_Txt_readInto (rm d 0 0) (KM E 0 0 (PoE (some (.int r)) h9 x)) 0 0 h x 0 [(0, .ref a0), (1, .ref a1)] [] := by
  unfold f_Txt_readInto at hf
  refine go_aload_n 1 d_Txt_readInto_0 rfl ?_
  obtain ⟨_, e1, hf⟩ := bnd_x hf
  obtain ⟨h2, e_x2, hf⟩ := bnd_x hf
  refine go_callV_N (As := []) (st := []) (c_Sta_wipe (d := d - 1) (by omega) e_x2) lk_Txt_19 rfl rfl e1 (by decide) rfl (rm_ok (by omega)) (Nat.le_of_ble_eq_true rfl) rm_c d_Txt_readInto_1 ?_
  refine go_aload_n 0 d_Txt_readInto_4 rfl ?_
  refine go_iconst (0 : Int32) d_Txt_readInto_5 (by decide) ?_
  obtain ⟨h3, e_h3, hf⟩ := bnd_x hf
  refine go_putI d_Txt_readInto_6 e_h3 fl_Txt_24 rfl rfl ?_
  refine go_aload_n 0 d_Txt_readInto_9 rfl ?_
  refine go_iconst (-1 : Int32) d_Txt_readInto_10 (by decide) ?_
  obtain ⟨h4, e_h4, hf⟩ := bnd_x hf
  refine go_putI d_Txt_readInto_11 e_h4 fl_Txt_27 rfl rfl ?_
  refine go_aload_n 0 d_Txt_readInto_14 rfl ?_
  refine go_aload_n 1 d_Txt_readInto_15 rfl ?_
  obtain ⟨x5, e_x5, hf⟩ := bnd_x hf
  refine go_get d_Txt_readInto_16 (gR_x e_x5) fl_Txt_30 ?_
  obtain ⟨_, e6, hf⟩ := bnd_x hf
  obtain ⟨h7, e_x7, hf⟩ := bnd_x hf
  refine go_callV_N (As := [.ref x5]) (st := []) (c_Txt_readGivens (d := d - 1) (by omega) e_x7) lk_Txt_33 rfl rfl e6 (by decide) rfl (rm_ok (by omega)) (Nat.le_of_ble_eq_true rfl) rm_c d_Txt_readInto_19 ?_
  refine go_iconst (0 : Int32) d_Txt_readInto_22 (by decide) ?_
  refine go_istore_n (lv' := [(2, .int (0 : Int32)), (0, .ref a0), (1, .ref a1)]) d_Txt_readInto_23 rfl (by decide) ?_
  refine go_sub (lv' := [(0, .ref a0), (1, .ref a1), (2, .int (0 : Int32))]) [1, 2, 0] rfl ?_
  exact t_Txt_readInto_24 hd  _ a0 a1 (0 : Int32) h7 hf
theorem c_Txt_readInto {l : Launch} {E : ET} {d : Nat} (hd : 5 ≤ d) {F : Nat} {r : Int32} {h9 : PH} {x : Nat} {a0 : Nat} {a1 : Nat} {h : PH} (hf : f_Txt_readInto F a0 a1 h = some (r, h9)) : Fn l E m_Txt_readInto d 0 0 [.ref a0, .ref a1] h x (PoE (some (.int r)) h9 x) :=
  Fn.of (by decide +kernel) (Nat.le_of_ble_eq_true rfl) (g_Txt_readInto_0 hd a0 a1 h hf)
