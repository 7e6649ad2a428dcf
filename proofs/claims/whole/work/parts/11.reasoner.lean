/-! 11.reasoner: methods as functions, by program. -/
theorem d_Rea_note_0 : decode prog_6_method_3_code 0 = .ok (.aload_n 0, 1) := by decide +kernel
theorem d_Rea_note_1 : decode prog_6_method_3_code 1 = .ok (.iload_n 1, 1) := by decide +kernel
theorem d_Rea_note_2 : decode prog_6_method_3_code 2 = .ok (.putfield 53, 3) := by decide +kernel
theorem d_Rea_note_5 : decode prog_6_method_3_code 5 = .ok (.aload_n 0, 1) := by decide +kernel
theorem d_Rea_note_6 : decode prog_6_method_3_code 6 = .ok (.iload_n 2, 1) := by decide +kernel
theorem d_Rea_note_7 : decode prog_6_method_3_code 7 = .ok (.putfield 57, 3) := by decide +kernel
theorem d_Rea_note_10 : decode prog_6_method_3_code 10 = .ok (.aload_n 0, 1) := by decide +kernel
theorem d_Rea_note_11 : decode prog_6_method_3_code 11 = .ok (.iload_n 3, 1) := by decide +kernel
theorem d_Rea_note_12 : decode prog_6_method_3_code 12 = .ok (.putfield 60, 3) := by decide +kernel
theorem d_Rea_note_15 : decode prog_6_method_3_code 15 = .ok (.iconst 1, 1) := by decide +kernel
theorem d_Rea_note_16 : decode prog_6_method_3_code 16 = .ok (.ireturn, 1) := by decide +kernel
def f_Rea_note (a0 : Nat) (i1 : Int32) (i2 : Int32) (i3 : Int32) (h : PH) : Option (Int32 × PH) :=
  bnd (pV h a0 3 1 (.int i1)) fun h1 => bnd (pV h1 a0 3 2 (.int i2)) fun h2 => bnd (pV h2 a0 3 3 (.int i3)) fun h3 => some ((1 : Int32), h3)
theorem g_Rea_note_0 {l : Launch} {E : ET} {d : Nat} (hd : 1 ≤ d) {r : Int32} {h9 : PH} {x : Nat}  (a0 : Nat) (i1 : Int32) (i2 : Int32) (i3 : Int32) (h : PH) (hf : f_Rea_note a0 i1 i2 i3 h = some (r, h9)) : Go l E m_Rea_note (rm d 0 0) (KM E 0 0 (PoE (some (.int r)) h9 x)) 0 0 h x 0 [(0, .ref a0), (1, .int i1), (2, .int i2), (3, .int i3)] [] := by
  unfold f_Rea_note at hf
  refine go_aload_n 0 d_Rea_note_0 rfl ?_
  refine go_iload_n 1 d_Rea_note_1 rfl ?_
  obtain ⟨h1, e_h1, hf⟩ := bnd_x hf
  refine go_putI d_Rea_note_2 e_h1 fl_Rea_53 rfl rfl ?_
  refine go_aload_n 0 d_Rea_note_5 rfl ?_
  refine go_iload_n 2 d_Rea_note_6 rfl ?_
  obtain ⟨h2, e_h2, hf⟩ := bnd_x hf
  refine go_putI d_Rea_note_7 e_h2 fl_Rea_57 rfl rfl ?_
  refine go_aload_n 0 d_Rea_note_10 rfl ?_
  refine go_iload_n 3 d_Rea_note_11 rfl ?_
  obtain ⟨h3, e_h3, hf⟩ := bnd_x hf
  refine go_putI d_Rea_note_12 e_h3 fl_Rea_60 rfl rfl ?_
  refine go_iconst (1 : Int32) d_Rea_note_15 (by decide) ?_
  obtain ⟨e8, e9⟩ := Prod.mk.inj (Option.some.inj hf)
  subst e8; subst e9
  exact go_zret d_Rea_note_16 rfl rfl ⟨rfl, rfl, rfl⟩
theorem c_Rea_note {l : Launch} {E : ET} {d : Nat} (hd : 1 ≤ d) {r : Int32} {h9 : PH} {x : Nat} {a0 : Nat} {i1 : Int32} {i2 : Int32} {i3 : Int32} {h : PH} (hf : f_Rea_note a0 i1 i2 i3 h = some (r, h9)) : Fn l E m_Rea_note d 0 0 [.ref a0, .int i1, .int i2, .int i3] h x (PoE (some (.int r)) h9 x) :=
  Fn.of (by decide +kernel) (Nat.le_of_ble_eq_true rfl) (g_Rea_note_0 hd a0 i1 i2 i3 h hf)
theorem d_Rea_survey_0 : decode prog_6_method_4_code 0 = .ok (.aload_n 0, 1) := by decide +kernel
theorem d_Rea_survey_1 : decode prog_6_method_4_code 1 = .ok (.lconst 0, 1) := by decide +kernel
theorem d_Rea_survey_2 : decode prog_6_method_4_code 2 = .ok (.putfield 26, 3) := by decide +kernel
theorem d_Rea_survey_5 : decode prog_6_method_4_code 5 = .ok (.aload_n 0, 1) := by decide +kernel
theorem d_Rea_survey_6 : decode prog_6_method_4_code 6 = .ok (.lconst 0, 1) := by decide +kernel
theorem d_Rea_survey_7 : decode prog_6_method_4_code 7 = .ok (.putfield 63, 3) := by decide +kernel
theorem d_Rea_survey_10 : decode prog_6_method_4_code 10 = .ok (.aload_n 0, 1) := by decide +kernel
theorem d_Rea_survey_11 : decode prog_6_method_4_code 11 = .ok (.lconst 0, 1) := by decide +kernel
theorem d_Rea_survey_12 : decode prog_6_method_4_code 12 = .ok (.putfield 66, 3) := by decide +kernel
theorem d_Rea_survey_15 : decode prog_6_method_4_code 15 = .ok (.iconst 1, 1) := by decide +kernel
theorem d_Rea_survey_16 : decode prog_6_method_4_code 16 = .ok (.istore_n 2, 1) := by decide +kernel
theorem d_Rea_survey_17 : decode prog_6_method_4_code 17 = .ok (.iload_n 2, 1) := by decide +kernel
theorem d_Rea_survey_18 : decode prog_6_method_4_code 18 = .ok (.bipush 6, 2) := by decide +kernel
theorem d_Rea_survey_20 : decode prog_6_method_4_code 20 = .ok (.if_icmp .gt 56, 3) := by decide +kernel
theorem d_Rea_survey_23 : decode prog_6_method_4_code 23 = .ok (.aload_n 1, 1) := by decide +kernel
theorem d_Rea_survey_24 : decode prog_6_method_4_code 24 = .ok (.getfield 69, 3) := by decide +kernel
theorem d_Rea_survey_27 : decode prog_6_method_4_code 27 = .ok (.iload_n 2, 1) := by decide +kernel
theorem d_Rea_survey_28 : decode prog_6_method_4_code 28 = .ok (.laload, 1) := by decide +kernel
theorem d_Rea_survey_29 : decode prog_6_method_4_code 29 = .ok (.lstore_n 3, 1) := by decide +kernel
theorem d_Rea_survey_30 : decode prog_6_method_4_code 30 = .ok (.aload_n 0, 1) := by decide +kernel
theorem d_Rea_survey_31 : decode prog_6_method_4_code 31 = .ok (.dup, 1) := by decide +kernel
theorem d_Rea_survey_32 : decode prog_6_method_4_code 32 = .ok (.getfield 66, 3) := by decide +kernel
theorem d_Rea_survey_35 : decode prog_6_method_4_code 35 = .ok (.aload_n 0, 1) := by decide +kernel
theorem d_Rea_survey_36 : decode prog_6_method_4_code 36 = .ok (.getfield 63, 3) := by decide +kernel
theorem d_Rea_survey_39 : decode prog_6_method_4_code 39 = .ok (.lload_n 3, 1) := by decide +kernel
theorem d_Rea_survey_40 : decode prog_6_method_4_code 40 = .ok (.land, 1) := by decide +kernel
theorem d_Rea_survey_41 : decode prog_6_method_4_code 41 = .ok (.lor, 1) := by decide +kernel
theorem d_Rea_survey_42 : decode prog_6_method_4_code 42 = .ok (.putfield 66, 3) := by decide +kernel
theorem d_Rea_survey_45 : decode prog_6_method_4_code 45 = .ok (.aload_n 0, 1) := by decide +kernel
theorem d_Rea_survey_46 : decode prog_6_method_4_code 46 = .ok (.dup, 1) := by decide +kernel
theorem d_Rea_survey_47 : decode prog_6_method_4_code 47 = .ok (.getfield 63, 3) := by decide +kernel
theorem d_Rea_survey_50 : decode prog_6_method_4_code 50 = .ok (.aload_n 0, 1) := by decide +kernel
theorem d_Rea_survey_51 : decode prog_6_method_4_code 51 = .ok (.getfield 26, 3) := by decide +kernel
theorem d_Rea_survey_54 : decode prog_6_method_4_code 54 = .ok (.lload_n 3, 1) := by decide +kernel
theorem d_Rea_survey_55 : decode prog_6_method_4_code 55 = .ok (.land, 1) := by decide +kernel
theorem d_Rea_survey_56 : decode prog_6_method_4_code 56 = .ok (.lor, 1) := by decide +kernel
theorem d_Rea_survey_57 : decode prog_6_method_4_code 57 = .ok (.putfield 63, 3) := by decide +kernel
theorem d_Rea_survey_60 : decode prog_6_method_4_code 60 = .ok (.aload_n 0, 1) := by decide +kernel
theorem d_Rea_survey_61 : decode prog_6_method_4_code 61 = .ok (.dup, 1) := by decide +kernel
theorem d_Rea_survey_62 : decode prog_6_method_4_code 62 = .ok (.getfield 26, 3) := by decide +kernel
theorem d_Rea_survey_65 : decode prog_6_method_4_code 65 = .ok (.lload_n 3, 1) := by decide +kernel
theorem d_Rea_survey_66 : decode prog_6_method_4_code 66 = .ok (.lor, 1) := by decide +kernel
theorem d_Rea_survey_67 : decode prog_6_method_4_code 67 = .ok (.putfield 26, 3) := by decide +kernel
theorem d_Rea_survey_70 : decode prog_6_method_4_code 70 = .ok (.iinc 2 1, 3) := by decide +kernel
theorem d_Rea_survey_73 : decode prog_6_method_4_code 73 = .ok (.goto (-56), 3) := by decide +kernel
theorem d_Rea_survey_76 : decode prog_6_method_4_code 76 = .ok (.return_, 1) := by decide +kernel
def b_Rea_survey_17 (F : Nat) (k17 : Nat → Nat → Int32 → PH → Option PH) (a0 : Nat) (a1 : Nat) (i2 : Int32) (h : PH) : Option PH :=
  (if (6 : Int32) < i2 then some h else bnd (gR h a1 1 0) fun x1 => bnd (aL h x1 i2) fun x2 => bnd (gL h a0 3 6) fun x3 => bnd (gL h a0 3 5) fun x4 => bnd (pV h a0 3 6 (.long (x3 ||| (x4 &&& x2)))) fun h5 => bnd (gL h5 a0 3 5) fun x6 => bnd (gL h5 a0 3 4) fun x7 => bnd (pV h5 a0 3 5 (.long (x6 ||| (x7 &&& x2)))) fun h8 => bnd (gL h8 a0 3 4) fun x9 => bnd (pV h8 a0 3 4 (.long (x9 ||| x2))) fun h10 => k17 a0 a1 (i2 + (1 : Int32)) h10)
def f_Rea_survey_17 (F : Nat) : Nat → Nat → Nat → Int32 → PH → Option PH
  | 0 => fun _ _ _ _ => none
  | n + 1 => b_Rea_survey_17 F (f_Rea_survey_17 F n)
theorem g_Rea_survey_17 {l : Launch} {E : ET} {d : Nat} (hd : 1 ≤ d) {F : Nat} {h9 : PH} {x : Nat} {k17 : Nat → Nat → Int32 → PH → Option PH} (hk17 : ∀ (a0 : Nat) (a1 : Nat) (i2 : Int32) (hh : PH), k17 a0 a1 i2 hh = some h9 → Go l E m_Rea_survey (rm d 0 0) (KM E 0 0 (PoE none h9 x)) 0 0 hh x 17 [(0, .ref a0), (1, .ref a1), (2, .int i2)] []) (a0 : Nat) (a1 : Nat) (i2 : Int32) (h : PH) (hf : b_Rea_survey_17 F k17 a0 a1 i2 h = some h9) : Go l E m_Rea_survey (rm d 0 0) (KM E 0 0 (PoE none h9 x)) 0 0 h x 17 [(0, .ref a0), (1, .ref a1), (2, .int i2)] [] := by
  unfold b_Rea_survey_17 at hf
  refine go_iload_n 2 d_Rea_survey_17 rfl ?_
  refine go_bipush (6 : Int32) d_Rea_survey_18 (by decide) ?_
  refine go_icmp_gt 76 d_Rea_survey_20 (by decide) (fun q11 => ?_) (fun q11 => ?_)
  · rw [if_pos q11] at hf
    have e9 := Option.some.inj hf
    subst e9
    exact go_vret d_Rea_survey_76 rfl ⟨rfl, rfl, rfl⟩
  · rw [if_neg q11] at hf
    refine go_aload_n 1 d_Rea_survey_23 rfl ?_
    obtain ⟨x1, e_x1, hf⟩ := bnd_x hf
    refine go_get d_Rea_survey_24 (gR_x e_x1) fl_Rea_69 ?_
    refine go_iload_n 2 d_Rea_survey_27 rfl ?_
    obtain ⟨x2, e_x2, hf⟩ := bnd_x hf
    refine go_laload d_Rea_survey_28 e_x2 ?_
    refine go_lstore_n (lv' := [(3, .long x2), (0, .ref a0), (1, .ref a1), (2, .int i2)]) d_Rea_survey_29 rfl (by decide) ?_
    refine go_aload_n 1 d_Rea_survey_30 rfl ?_
    refine go_dup d_Rea_survey_31 rfl ?_
    obtain ⟨x3, e_x3, hf⟩ := bnd_x hf
    refine go_get d_Rea_survey_32 (gL_x e_x3) fl_Rea_66 ?_
    refine go_aload_n 1 d_Rea_survey_35 rfl ?_
    obtain ⟨x4, e_x4, hf⟩ := bnd_x hf
    refine go_get d_Rea_survey_36 (gL_x e_x4) fl_Rea_63 ?_
    refine go_lload_n 0 d_Rea_survey_39 rfl ?_
    refine go_land d_Rea_survey_40 ?_
    refine go_lor d_Rea_survey_41 ?_
    obtain ⟨h5, e_h5, hf⟩ := bnd_x hf
    refine go_putL d_Rea_survey_42 e_h5 fl_Rea_66 rfl rfl ?_
    refine go_aload_n 1 d_Rea_survey_45 rfl ?_
    refine go_dup d_Rea_survey_46 rfl ?_
    obtain ⟨x6, e_x6, hf⟩ := bnd_x hf
    refine go_get d_Rea_survey_47 (gL_x e_x6) fl_Rea_63 ?_
    refine go_aload_n 1 d_Rea_survey_50 rfl ?_
    obtain ⟨x7, e_x7, hf⟩ := bnd_x hf
    refine go_get d_Rea_survey_51 (gL_x e_x7) fl_Rea_26 ?_
    refine go_lload_n 0 d_Rea_survey_54 rfl ?_
    refine go_land d_Rea_survey_55 ?_
    refine go_lor d_Rea_survey_56 ?_
    obtain ⟨h8, e_h8, hf⟩ := bnd_x hf
    refine go_putL d_Rea_survey_57 e_h8 fl_Rea_63 rfl rfl ?_
    refine go_aload_n 1 d_Rea_survey_60 rfl ?_
    refine go_dup d_Rea_survey_61 rfl ?_
    obtain ⟨x9, e_x9, hf⟩ := bnd_x hf
    refine go_get d_Rea_survey_62 (gL_x e_x9) fl_Rea_26 ?_
    refine go_lload_n 0 d_Rea_survey_65 rfl ?_
    refine go_lor d_Rea_survey_66 ?_
    obtain ⟨h10, e_h10, hf⟩ := bnd_x hf
    refine go_putL d_Rea_survey_67 e_h10 fl_Rea_26 rfl rfl ?_
    refine go_iinc (lv' := [(2, .int (i2 + (1 : Int32))), (3, .long x2), (0, .ref a0), (1, .ref a1)]) 3 (i2 + (1 : Int32)) d_Rea_survey_70 rfl rfl rfl (by decide) ?_
    refine go_goto 17 d_Rea_survey_73 (by decide) ?_
    refine go_sub (lv' := [(0, .ref a0), (1, .ref a1), (2, .int (i2 + (1 : Int32)))]) [2, 3, 0] rfl ?_
    exact hk17 a0 a1 (i2 + (1 : Int32)) h10 hf
theorem t_Rea_survey_17 {l : Launch} {E : ET} {d : Nat} (hd : 1 ≤ d) {F : Nat} {h9 : PH} {x : Nat}  : ∀ (n : Nat) (a0 : Nat) (a1 : Nat) (i2 : Int32) (hh : PH), f_Rea_survey_17 F n a0 a1 i2 hh = some h9 → Go l E m_Rea_survey (rm d 0 0) (KM E 0 0 (PoE none h9 x)) 0 0 hh x 17 [(0, .ref a0), (1, .ref a1), (2, .int i2)] [] := by
  intro n
  induction n with
  | zero => intro v0 v1 v2 v3 hf; cases hf
  | succ n ih => intro v0 v1 v2 v3 hf; exact g_Rea_survey_17 hd ih v0 v1 v2 v3 hf
def f_Rea_survey (F : Nat) (a0 : Nat) (a1 : Nat) (h : PH) : Option PH :=
  bnd (pV h a0 3 4 (.long (0 : Int64))) fun h1 => bnd (pV h1 a0 3 5 (.long (0 : Int64))) fun h2 => bnd (pV h2 a0 3 6 (.long (0 : Int64))) fun h3 => f_Rea_survey_17 F F a0 a1 (1 : Int32) h3
theorem g_Rea_survey_0 {l : Launch} {E : ET} {d : Nat} (hd : 1 ≤ d) {F : Nat} {h9 : PH} {x : Nat}  (a0 : Nat) (a1 : Nat) (h : PH) (hf : f_Rea_survey F a0 a1 h = some h9) : Go l E m_Rea_survey (rm d 0 0) (KM E 0 0 (PoE none h9 x)) 0 0 h x 0 [(0, .ref a0), (1, .ref a1)] [] := by
  unfold f_Rea_survey at hf
  refine go_aload_n 0 d_Rea_survey_0 rfl ?_
  refine go_lconst (0 : Int64) d_Rea_survey_1 (by decide) ?_
  obtain ⟨h1, e_h1, hf⟩ := bnd_x hf
  refine go_putL d_Rea_survey_2 e_h1 fl_Rea_26 rfl rfl ?_
  refine go_aload_n 0 d_Rea_survey_5 rfl ?_
  refine go_lconst (0 : Int64) d_Rea_survey_6 (by decide) ?_
  obtain ⟨h2, e_h2, hf⟩ := bnd_x hf
  refine go_putL d_Rea_survey_7 e_h2 fl_Rea_63 rfl rfl ?_
  refine go_aload_n 0 d_Rea_survey_10 rfl ?_
  refine go_lconst (0 : Int64) d_Rea_survey_11 (by decide) ?_
  obtain ⟨h3, e_h3, hf⟩ := bnd_x hf
  refine go_putL d_Rea_survey_12 e_h3 fl_Rea_66 rfl rfl ?_
  refine go_iconst (1 : Int32) d_Rea_survey_15 (by decide) ?_
  refine go_istore_n (lv' := [(2, .int (1 : Int32)), (0, .ref a0), (1, .ref a1)]) d_Rea_survey_16 rfl (by decide) ?_
  refine go_sub (lv' := [(0, .ref a0), (1, .ref a1), (2, .int (1 : Int32))]) [1, 2, 0] rfl ?_
  exact t_Rea_survey_17 hd  _ a0 a1 (1 : Int32) h3 hf
theorem c_Rea_survey {l : Launch} {E : ET} {d : Nat} (hd : 1 ≤ d) {F : Nat} {h9 : PH} {x : Nat} {a0 : Nat} {a1 : Nat} {h : PH} (hf : f_Rea_survey F a0 a1 h = some h9) : Fn l E m_Rea_survey d 0 0 [.ref a0, .ref a1] h x (PoE none h9 x) :=
  Fn.of (by decide +kernel) (Nat.le_of_ble_eq_true rfl) (g_Rea_survey_0 hd a0 a1 h hf)
theorem d_Rea_placeSingle_0 : decode prog_6_method_5_code 0 = .ok (.aload_n 0, 1) := by decide +kernel
theorem d_Rea_placeSingle_1 : decode prog_6_method_5_code 1 = .ok (.getfield 26, 3) := by decide +kernel
theorem d_Rea_placeSingle_4 : decode prog_6_method_5_code 4 = .ok (.aload_n 0, 1) := by decide +kernel
theorem d_Rea_placeSingle_5 : decode prog_6_method_5_code 5 = .ok (.getfield 63, 3) := by decide +kernel
theorem d_Rea_placeSingle_8 : decode prog_6_method_5_code 8 = .ok (.ldc2_w 75, 3) := by decide +kernel
theorem d_Rea_placeSingle_11 : decode prog_6_method_5_code 11 = .ok (.lxor, 1) := by decide +kernel
theorem d_Rea_placeSingle_12 : decode prog_6_method_5_code 12 = .ok (.land, 1) := by decide +kernel
theorem d_Rea_placeSingle_13 : decode prog_6_method_5_code 13 = .ok (.aload_n 1, 1) := by decide +kernel
theorem d_Rea_placeSingle_14 : decode prog_6_method_5_code 14 = .ok (.getfield 77, 3) := by decide +kernel
theorem d_Rea_placeSingle_17 : decode prog_6_method_5_code 17 = .ok (.ldc2_w 75, 3) := by decide +kernel
theorem d_Rea_placeSingle_20 : decode prog_6_method_5_code 20 = .ok (.lxor, 1) := by decide +kernel
theorem d_Rea_placeSingle_21 : decode prog_6_method_5_code 21 = .ok (.land, 1) := by decide +kernel
theorem d_Rea_placeSingle_22 : decode prog_6_method_5_code 22 = .ok (.lstore_n 3, 1) := by decide +kernel
theorem d_Rea_placeSingle_23 : decode prog_6_method_5_code 23 = .ok (.lload_n 3, 1) := by decide +kernel
theorem d_Rea_placeSingle_24 : decode prog_6_method_5_code 24 = .ok (.lconst 0, 1) := by decide +kernel
theorem d_Rea_placeSingle_25 : decode prog_6_method_5_code 25 = .ok (.lcmp, 1) := by decide +kernel
theorem d_Rea_placeSingle_26 : decode prog_6_method_5_code 26 = .ok (.ifCond .ne 5, 3) := by decide +kernel
theorem d_Rea_placeSingle_29 : decode prog_6_method_5_code 29 = .ok (.iconst 0, 1) := by decide +kernel
theorem d_Rea_placeSingle_30 : decode prog_6_method_5_code 30 = .ok (.ireturn, 1) := by decide +kernel
theorem d_Rea_placeSingle_31 : decode prog_6_method_5_code 31 = .ok (.lload_n 3, 1) := by decide +kernel
theorem d_Rea_placeSingle_32 : decode prog_6_method_5_code 32 = .ok (.invokestatic 80, 3) := by decide +kernel
theorem d_Rea_placeSingle_35 : decode prog_6_method_5_code 35 = .ok (.istore 5, 2) := by decide +kernel
theorem d_Rea_placeSingle_37 : decode prog_6_method_5_code 37 = .ok (.aload_n 1, 1) := by decide +kernel
theorem d_Rea_placeSingle_38 : decode prog_6_method_5_code 38 = .ok (.dup, 1) := by decide +kernel
theorem d_Rea_placeSingle_39 : decode prog_6_method_5_code 39 = .ok (.getfield 77, 3) := by decide +kernel
theorem d_Rea_placeSingle_42 : decode prog_6_method_5_code 42 = .ok (.lconst 1, 1) := by decide +kernel
theorem d_Rea_placeSingle_43 : decode prog_6_method_5_code 43 = .ok (.iload 5, 2) := by decide +kernel
theorem d_Rea_placeSingle_45 : decode prog_6_method_5_code 45 = .ok (.lshl, 1) := by decide +kernel
theorem d_Rea_placeSingle_46 : decode prog_6_method_5_code 46 = .ok (.lor, 1) := by decide +kernel
theorem d_Rea_placeSingle_47 : decode prog_6_method_5_code 47 = .ok (.putfield 77, 3) := by decide +kernel
theorem d_Rea_placeSingle_50 : decode prog_6_method_5_code 50 = .ok (.aload_n 0, 1) := by decide +kernel
theorem d_Rea_placeSingle_51 : decode prog_6_method_5_code 51 = .ok (.iconst 1, 1) := by decide +kernel
theorem d_Rea_placeSingle_52 : decode prog_6_method_5_code 52 = .ok (.iload 5, 2) := by decide +kernel
theorem d_Rea_placeSingle_54 : decode prog_6_method_5_code 54 = .ok (.aload_n 1, 1) := by decide +kernel
theorem d_Rea_placeSingle_55 : decode prog_6_method_5_code 55 = .ok (.aload_n 1, 1) := by decide +kernel
theorem d_Rea_placeSingle_56 : decode prog_6_method_5_code 56 = .ok (.iload 5, 2) := by decide +kernel
theorem d_Rea_placeSingle_58 : decode prog_6_method_5_code 58 = .ok (.invokevirtual 86, 3) := by decide +kernel
theorem d_Rea_placeSingle_61 : decode prog_6_method_5_code 61 = .ok (.aload_n 2, 1) := by decide +kernel
theorem d_Rea_placeSingle_62 : decode prog_6_method_5_code 62 = .ok (.getfield 90, 3) := by decide +kernel
theorem d_Rea_placeSingle_65 : decode prog_6_method_5_code 65 = .ok (.iload 5, 2) := by decide +kernel
theorem d_Rea_placeSingle_67 : decode prog_6_method_5_code 67 = .ok (.laload, 1) := by decide +kernel
theorem d_Rea_placeSingle_68 : decode prog_6_method_5_code 68 = .ok (.invokevirtual 95, 3) := by decide +kernel
theorem d_Rea_placeSingle_71 : decode prog_6_method_5_code 71 = .ok (.invokevirtual 18, 3) := by decide +kernel
theorem d_Rea_placeSingle_74 : decode prog_6_method_5_code 74 = .ok (.ireturn, 1) := by decide +kernel
def f_Rea_placeSingle (F : Nat) (a0 : Nat) (a1 : Nat) (a2 : Nat) (h : PH) : Option (Int32 × PH) :=
  bnd (gL h a0 3 4) fun x1 => bnd (gL h a0 3 5) fun x2 => bnd (gL h a1 1 1) fun x3 => bnd (some ((x1 &&& (x2 ^^^ (-1 : Int64))) &&& (x3 ^^^ (-1 : Int64)))) fun y4 => (if (lg_cmp y4 (0 : Int64)) = (0 : Int32) then some ((0 : Int32), h) else bnd (f_Grd_lowest y4) fun x5 => bnd (gL h a1 1 1) fun x6 => bnd (pV h a1 1 1 (.long (x6 ||| ((1 : Int64) <<< ((x5).toInt64 &&& 63))))) fun h7 => bnd (cK h7 a1 1) fun _ => bnd (f_Pos_lowestDigitOf F a1 x5 h7) fun x9 => bnd (gR h7 a2 4 5) fun x10 => bnd (aL h7 x10 x5) fun x11 => bnd (cK h7 a1 1) fun _ => bnd2 (f_Pos_remove a1 x9 x11 h7) fun x13 h14 => bnd (cK h14 a0 3) fun _ => bnd2 (f_Rea_note a0 (1 : Int32) x5 x13 h14) fun x16 h17 => bnd (cZ x16) fun _ => some (x16, h17))
theorem g_Rea_placeSingle_0 {l : Launch} {E : ET} {d : Nat} (hd : 3 ≤ d) {F : Nat} {r : Int32} {h9 : PH} {x : Nat}  (a0 : Nat) (a1 : Nat) (a2 : Nat) (h : PH) (hf : f_Rea_placeSingle F a0 a1 a2 h = some (r, h9)) : Go l E m_Rea_placeSingle (rm d 0 0) (KM E 0 0 (PoE (some (.int r)) h9 x)) 0 0 h x 0 [(0, .ref a0), (1, .ref a1), (2, .ref a2)] [] := by
  unfold f_Rea_placeSingle at hf
  refine go_aload_n 0 d_Rea_placeSingle_0 rfl ?_
  obtain ⟨x1, e_x1, hf⟩ := bnd_x hf
  refine go_get d_Rea_placeSingle_1 (gL_x e_x1) fl_Rea_26 ?_
  refine go_aload_n 0 d_Rea_placeSingle_4 rfl ?_
  obtain ⟨x2, e_x2, hf⟩ := bnd_x hf
  refine go_get d_Rea_placeSingle_5 (gL_x e_x2) fl_Rea_63 ?_
  refine go_ldc2 (-1 : Int64) d_Rea_placeSingle_8 kl_Rea_75 ?_
  refine go_lxor d_Rea_placeSingle_11 ?_
  refine go_land d_Rea_placeSingle_12 ?_
  refine go_aload_n 1 d_Rea_placeSingle_13 rfl ?_
  obtain ⟨x3, e_x3, hf⟩ := bnd_x hf
  refine go_get d_Rea_placeSingle_14 (gL_x e_x3) fl_Rea_77 ?_
  refine go_ldc2 (-1 : Int64) d_Rea_placeSingle_17 kl_Rea_75 ?_
  refine go_lxor d_Rea_placeSingle_20 ?_
  refine go_land d_Rea_placeSingle_21 ?_
  obtain ⟨y4, e_y4, hf⟩ := bnd_x hf
  refine go_nmL e_y4 ?_
  refine go_lstore_n (lv' := [(3, .long y4), (0, .ref a0), (1, .ref a1), (2, .ref a2)]) d_Rea_placeSingle_22 rfl (by decide) ?_
  refine go_lload_n 0 d_Rea_placeSingle_23 rfl ?_
  refine go_lconst (0 : Int64) d_Rea_placeSingle_24 (by decide) ?_
  refine go_lcmp d_Rea_placeSingle_25 ?_
  refine go_if_ne 31 d_Rea_placeSingle_26 (by decide) (fun q19 => ?_) (fun q19 => ?_)
  · rw [if_neg q19] at hf
    refine go_lload_n 0 d_Rea_placeSingle_31 rfl ?_
    obtain ⟨x5, e_x5, hf⟩ := bnd_x hf
    refine go_callS_I (As := [.long y4]) (st := []) (c_Grd_lowest (d := d - 1) (by omega) e_x5) lk_Rea_80 rfl rfl (rm_ok (by omega)) (Nat.le_of_ble_eq_true rfl) rm_c d_Rea_placeSingle_32 ?_
    refine go_istore (lv' := [(5, .int x5), (3, .long y4), (0, .ref a0), (1, .ref a1), (2, .ref a2)]) d_Rea_placeSingle_35 rfl (by decide) ?_
    refine go_aload_n 3 d_Rea_placeSingle_37 rfl ?_
    refine go_dup d_Rea_placeSingle_38 rfl ?_
    obtain ⟨x6, e_x6, hf⟩ := bnd_x hf
    refine go_get d_Rea_placeSingle_39 (gL_x e_x6) fl_Rea_77 ?_
    refine go_lconst (1 : Int64) d_Rea_placeSingle_42 (by decide) ?_
    refine go_iload 0 d_Rea_placeSingle_43 rfl ?_
    refine go_lshl d_Rea_placeSingle_45 ?_
    refine go_lor d_Rea_placeSingle_46 ?_
    obtain ⟨h7, e_h7, hf⟩ := bnd_x hf
    refine go_putL d_Rea_placeSingle_47 e_h7 fl_Rea_77 rfl rfl ?_
    refine go_aload_n 2 d_Rea_placeSingle_50 rfl ?_
    refine go_iconst (1 : Int32) d_Rea_placeSingle_51 (by decide) ?_
    refine go_iload 0 d_Rea_placeSingle_52 rfl ?_
    refine go_aload_n 3 d_Rea_placeSingle_54 rfl ?_
    refine go_aload_n 3 d_Rea_placeSingle_55 rfl ?_
    refine go_iload 0 d_Rea_placeSingle_56 rfl ?_
    obtain ⟨_, e8, hf⟩ := bnd_x hf
    obtain ⟨x9, e_x9, hf⟩ := bnd_x hf
    refine go_callV_I (As := [.int x5]) (st := [.ref a1, .int x5, .int (1 : Int32), .ref a0]) (c_Pos_lowestDigitOf (d := d - 1) (by omega) e_x9) lk_Rea_86 rfl rfl e8 (by decide) rfl (rm_ok (by omega)) (Nat.le_of_ble_eq_true rfl) rm_c d_Rea_placeSingle_58 ?_
    refine go_aload_n 4 d_Rea_placeSingle_61 rfl ?_
    obtain ⟨x10, e_x10, hf⟩ := bnd_x hf
    refine go_get d_Rea_placeSingle_62 (gR_x e_x10) fl_Rea_90 ?_
    refine go_iload 0 d_Rea_placeSingle_65 rfl ?_
    obtain ⟨x11, e_x11, hf⟩ := bnd_x hf
    refine go_laload d_Rea_placeSingle_67 e_x11 ?_
    obtain ⟨_, e12, hf⟩ := bnd_x hf
    obtain ⟨x13, h14, e_x13, hf⟩ := bnd2_x hf
    refine go_callV_I (As := [.int x9, .long x11]) (st := [.int x5, .int (1 : Int32), .ref a0]) (c_Pos_remove (d := d - 1) (by omega) e_x13) lk_Rea_95 rfl rfl e12 (by decide) rfl (rm_ok (by omega)) (Nat.le_of_ble_eq_true rfl) rm_c d_Rea_placeSingle_68 ?_
    obtain ⟨_, e15, hf⟩ := bnd_x hf
    obtain ⟨x16, h17, e_x16, hf⟩ := bnd2_x hf
    refine go_callV_I (As := [.int (1 : Int32), .int x5, .int x13]) (st := []) (c_Rea_note (d := d - 1) (by omega) e_x16) lk_Rea_18 rfl rfl e15 (by decide) rfl (rm_ok (by omega)) (Nat.le_of_ble_eq_true rfl) rm_c d_Rea_placeSingle_71 ?_
    obtain ⟨_, e18, hf⟩ := bnd_x hf
    obtain ⟨e8, e9⟩ := Prod.mk.inj (Option.some.inj hf)
    subst e8; subst e9
    exact go_zret d_Rea_placeSingle_74 e18 rfl ⟨rfl, rfl, rfl⟩
  · rw [if_pos q19] at hf
    refine go_iconst (0 : Int32) d_Rea_placeSingle_29 (by decide) ?_
    obtain ⟨e8, e9⟩ := Prod.mk.inj (Option.some.inj hf)
    subst e8; subst e9
    exact go_zret d_Rea_placeSingle_30 rfl rfl ⟨rfl, rfl, rfl⟩
theorem c_Rea_placeSingle {l : Launch} {E : ET} {d : Nat} (hd : 3 ≤ d) {F : Nat} {r : Int32} {h9 : PH} {x : Nat} {a0 : Nat} {a1 : Nat} {a2 : Nat} {h : PH} (hf : f_Rea_placeSingle F a0 a1 a2 h = some (r, h9)) : Fn l E m_Rea_placeSingle d 0 0 [.ref a0, .ref a1, .ref a2] h x (PoE (some (.int r)) h9 x) :=
  Fn.of (by decide +kernel) (Nat.le_of_ble_eq_true rfl) (g_Rea_placeSingle_0 hd a0 a1 a2 h hf)
theorem d_Rea_keepOnlyPlace_0 : decode prog_6_method_6_code 0 = .ok (.iconst 0, 1) := by decide +kernel
theorem d_Rea_keepOnlyPlace_1 : decode prog_6_method_6_code 1 = .ok (.istore_n 2, 1) := by decide +kernel
theorem d_Rea_keepOnlyPlace_2 : decode prog_6_method_6_code 2 = .ok (.iload_n 2, 1) := by decide +kernel
theorem d_Rea_keepOnlyPlace_3 : decode prog_6_method_6_code 3 = .ok (.bipush 18, 2) := by decide +kernel
theorem d_Rea_keepOnlyPlace_5 : decode prog_6_method_6_code 5 = .ok (.if_icmp .ge 79, 3) := by decide +kernel
theorem d_Rea_keepOnlyPlace_8 : decode prog_6_method_6_code 8 = .ok (.iload_n 2, 1) := by decide +kernel
theorem d_Rea_keepOnlyPlace_9 : decode prog_6_method_6_code 9 = .ok (.invokestatic 99, 3) := by decide +kernel
theorem d_Rea_keepOnlyPlace_12 : decode prog_6_method_6_code 12 = .ok (.lstore_n 3, 1) := by decide +kernel
theorem d_Rea_keepOnlyPlace_13 : decode prog_6_method_6_code 13 = .ok (.iconst 1, 1) := by decide +kernel
theorem d_Rea_keepOnlyPlace_14 : decode prog_6_method_6_code 14 = .ok (.istore 5, 2) := by decide +kernel
theorem d_Rea_keepOnlyPlace_16 : decode prog_6_method_6_code 16 = .ok (.iload 5, 2) := by decide +kernel
theorem d_Rea_keepOnlyPlace_18 : decode prog_6_method_6_code 18 = .ok (.bipush 6, 2) := by decide +kernel
theorem d_Rea_keepOnlyPlace_20 : decode prog_6_method_6_code 20 = .ok (.if_icmp .gt 58, 3) := by decide +kernel
theorem d_Rea_keepOnlyPlace_23 : decode prog_6_method_6_code 23 = .ok (.aload_n 1, 1) := by decide +kernel
theorem d_Rea_keepOnlyPlace_24 : decode prog_6_method_6_code 24 = .ok (.getfield 69, 3) := by decide +kernel
theorem d_Rea_keepOnlyPlace_27 : decode prog_6_method_6_code 27 = .ok (.iload 5, 2) := by decide +kernel
theorem d_Rea_keepOnlyPlace_29 : decode prog_6_method_6_code 29 = .ok (.laload, 1) := by decide +kernel
theorem d_Rea_keepOnlyPlace_30 : decode prog_6_method_6_code 30 = .ok (.lload_n 3, 1) := by decide +kernel
theorem d_Rea_keepOnlyPlace_31 : decode prog_6_method_6_code 31 = .ok (.land, 1) := by decide +kernel
theorem d_Rea_keepOnlyPlace_32 : decode prog_6_method_6_code 32 = .ok (.lstore 6, 2) := by decide +kernel
theorem d_Rea_keepOnlyPlace_34 : decode prog_6_method_6_code 34 = .ok (.lload 6, 2) := by decide +kernel
theorem d_Rea_keepOnlyPlace_36 : decode prog_6_method_6_code 36 = .ok (.invokestatic 103, 3) := by decide +kernel
theorem d_Rea_keepOnlyPlace_39 : decode prog_6_method_6_code 39 = .ok (.ifCond .eq 33, 3) := by decide +kernel
theorem d_Rea_keepOnlyPlace_42 : decode prog_6_method_6_code 42 = .ok (.lload 6, 2) := by decide +kernel
theorem d_Rea_keepOnlyPlace_44 : decode prog_6_method_6_code 44 = .ok (.aload_n 0, 1) := by decide +kernel
theorem d_Rea_keepOnlyPlace_45 : decode prog_6_method_6_code 45 = .ok (.getfield 63, 3) := by decide +kernel
theorem d_Rea_keepOnlyPlace_48 : decode prog_6_method_6_code 48 = .ok (.land, 1) := by decide +kernel
theorem d_Rea_keepOnlyPlace_49 : decode prog_6_method_6_code 49 = .ok (.lconst 0, 1) := by decide +kernel
theorem d_Rea_keepOnlyPlace_50 : decode prog_6_method_6_code 50 = .ok (.lcmp, 1) := by decide +kernel
theorem d_Rea_keepOnlyPlace_51 : decode prog_6_method_6_code 51 = .ok (.ifCond .eq 21, 3) := by decide +kernel
theorem d_Rea_keepOnlyPlace_54 : decode prog_6_method_6_code 54 = .ok (.aload_n 0, 1) := by decide +kernel
theorem d_Rea_keepOnlyPlace_55 : decode prog_6_method_6_code 55 = .ok (.iconst 2, 1) := by decide +kernel
theorem d_Rea_keepOnlyPlace_56 : decode prog_6_method_6_code 56 = .ok (.iload_n 2, 1) := by decide +kernel
theorem d_Rea_keepOnlyPlace_57 : decode prog_6_method_6_code 57 = .ok (.aload_n 1, 1) := by decide +kernel
theorem d_Rea_keepOnlyPlace_58 : decode prog_6_method_6_code 58 = .ok (.lload 6, 2) := by decide +kernel
theorem d_Rea_keepOnlyPlace_60 : decode prog_6_method_6_code 60 = .ok (.invokestatic 80, 3) := by decide +kernel
theorem d_Rea_keepOnlyPlace_63 : decode prog_6_method_6_code 63 = .ok (.iload 5, 2) := by decide +kernel
theorem d_Rea_keepOnlyPlace_65 : decode prog_6_method_6_code 65 = .ok (.invokevirtual 107, 3) := by decide +kernel
theorem d_Rea_keepOnlyPlace_68 : decode prog_6_method_6_code 68 = .ok (.invokevirtual 18, 3) := by decide +kernel
theorem d_Rea_keepOnlyPlace_71 : decode prog_6_method_6_code 71 = .ok (.ireturn, 1) := by decide +kernel
theorem d_Rea_keepOnlyPlace_72 : decode prog_6_method_6_code 72 = .ok (.iinc 5 1, 3) := by decide +kernel
theorem d_Rea_keepOnlyPlace_75 : decode prog_6_method_6_code 75 = .ok (.goto (-59), 3) := by decide +kernel
theorem d_Rea_keepOnlyPlace_78 : decode prog_6_method_6_code 78 = .ok (.iinc 2 1, 3) := by decide +kernel
theorem d_Rea_keepOnlyPlace_81 : decode prog_6_method_6_code 81 = .ok (.goto (-79), 3) := by decide +kernel
theorem d_Rea_keepOnlyPlace_84 : decode prog_6_method_6_code 84 = .ok (.iconst 0, 1) := by decide +kernel
theorem d_Rea_keepOnlyPlace_85 : decode prog_6_method_6_code 85 = .ok (.ireturn, 1) := by decide +kernel
def b_Rea_keepOnlyPlace_72 (F : Nat) (k16 : Nat → Nat → Int32 → Int64 → Int32 → PH → Option (Int32 × PH)) (a0 : Nat) (a1 : Nat) (i2 : Int32) (i3 : Int64) (i5 : Int32) (h : PH) : Option (Int32 × PH) :=
  k16 a0 a1 i2 i3 (i5 + (1 : Int32)) h
theorem g_Rea_keepOnlyPlace_72 {l : Launch} {E : ET} {d : Nat} (hd : 4 ≤ d) {F : Nat} {r : Int32} {h9 : PH} {x : Nat} {k16 : Nat → Nat → Int32 → Int64 → Int32 → PH → Option (Int32 × PH)} (hk16 : ∀ (a0 : Nat) (a1 : Nat) (i2 : Int32) (i3 : Int64) (i5 : Int32) (hh : PH), k16 a0 a1 i2 i3 i5 hh = some (r, h9) → Go l E m_Rea_keepOnlyPlace (rm d 0 0) (KM E 0 0 (PoE (some (.int r)) h9 x)) 0 0 hh x 16 [(0, .ref a0), (1, .ref a1), (2, .int i2), (3, .long i3), (5, .int i5)] []) (a0 : Nat) (a1 : Nat) (i2 : Int32) (i3 : Int64) (i5 : Int32) (h : PH) (hf : b_Rea_keepOnlyPlace_72 F k16 a0 a1 i2 i3 i5 h = some (r, h9)) : Go l E m_Rea_keepOnlyPlace (rm d 0 0) (KM E 0 0 (PoE (some (.int r)) h9 x)) 0 0 h x 72 [(0, .ref a0), (1, .ref a1), (2, .int i2), (3, .long i3), (5, .int i5)] [] := by
  unfold b_Rea_keepOnlyPlace_72 at hf
  refine go_iinc (lv' := [(5, .int (i5 + (1 : Int32))), (0, .ref a0), (1, .ref a1), (2, .int i2), (3, .long i3)]) 4 (i5 + (1 : Int32)) d_Rea_keepOnlyPlace_72 rfl rfl rfl (by decide) ?_
  refine go_goto 16 d_Rea_keepOnlyPlace_75 (by decide) ?_
  refine go_sub (lv' := [(0, .ref a0), (1, .ref a1), (2, .int i2), (3, .long i3), (5, .int (i5 + (1 : Int32)))]) [1, 2, 3, 4, 0] rfl ?_
  exact hk16 a0 a1 i2 i3 (i5 + (1 : Int32)) h hf
def b_Rea_keepOnlyPlace_16 (F : Nat) (k2 : Nat → Nat → Int32 → PH → Option (Int32 × PH)) (k16 : Nat → Nat → Int32 → Int64 → Int32 → PH → Option (Int32 × PH)) (a0 : Nat) (a1 : Nat) (i2 : Int32) (i3 : Int64) (i5 : Int32) (h : PH) : Option (Int32 × PH) :=
  (if (6 : Int32) < i5 then k2 a0 a1 (i2 + (1 : Int32)) h else bnd (gR h a1 1 0) fun x1 => bnd (aL h x1 i5) fun x2 => bnd (f_Grd_isOne (x2 &&& i3)) fun x3 => (if x3 = (0 : Int32) then b_Rea_keepOnlyPlace_72 F k16 a0 a1 i2 i3 i5 h else bnd (gL h a0 3 5) fun x4 => (if (lg_cmp ((x2 &&& i3) &&& x4) (0 : Int64)) = (0 : Int32) then b_Rea_keepOnlyPlace_72 F k16 a0 a1 i2 i3 i5 h else bnd (f_Grd_lowest (x2 &&& i3)) fun x5 => bnd (cK h a1 1) fun _ => bnd2 (f_Pos_keepOnly F a1 x5 i5 h) fun x7 h8 => bnd (cK h8 a0 3) fun _ => bnd2 (f_Rea_note a0 (2 : Int32) i2 x7 h8) fun x10 h11 => bnd (cZ x10) fun _ => some (x10, h11))))
def f_Rea_keepOnlyPlace_16 (F : Nat) (k2 : Nat → Nat → Int32 → PH → Option (Int32 × PH)) : Nat → Nat → Nat → Int32 → Int64 → Int32 → PH → Option (Int32 × PH)
  | 0 => fun _ _ _ _ _ _ => none
  | n + 1 => b_Rea_keepOnlyPlace_16 F k2 (f_Rea_keepOnlyPlace_16 F k2 n)
theorem g_Rea_keepOnlyPlace_16 {l : Launch} {E : ET} {d : Nat} (hd : 4 ≤ d) {F : Nat} {r : Int32} {h9 : PH} {x : Nat} {k2 : Nat → Nat → Int32 → PH → Option (Int32 × PH)} (hk2 : ∀ (a0 : Nat) (a1 : Nat) (i2 : Int32) (hh : PH), k2 a0 a1 i2 hh = some (r, h9) → Go l E m_Rea_keepOnlyPlace (rm d 0 0) (KM E 0 0 (PoE (some (.int r)) h9 x)) 0 0 hh x 2 [(0, .ref a0), (1, .ref a1), (2, .int i2)] []) {k16 : Nat → Nat → Int32 → Int64 → Int32 → PH → Option (Int32 × PH)} (hk16 : ∀ (a0 : Nat) (a1 : Nat) (i2 : Int32) (i3 : Int64) (i5 : Int32) (hh : PH), k16 a0 a1 i2 i3 i5 hh = some (r, h9) → Go l E m_Rea_keepOnlyPlace (rm d 0 0) (KM E 0 0 (PoE (some (.int r)) h9 x)) 0 0 hh x 16 [(0, .ref a0), (1, .ref a1), (2, .int i2), (3, .long i3), (5, .int i5)] []) (a0 : Nat) (a1 : Nat) (i2 : Int32) (i3 : Int64) (i5 : Int32) (h : PH) (hf : b_Rea_keepOnlyPlace_16 F k2 k16 a0 a1 i2 i3 i5 h = some (r, h9)) : Go l E m_Rea_keepOnlyPlace (rm d 0 0) (KM E 0 0 (PoE (some (.int r)) h9 x)) 0 0 h x 16 [(0, .ref a0), (1, .ref a1), (2, .int i2), (3, .long i3), (5, .int i5)] [] := by
  unfold b_Rea_keepOnlyPlace_16 at hf
  refine go_iload 4 d_Rea_keepOnlyPlace_16 rfl ?_
  refine go_bipush (6 : Int32) d_Rea_keepOnlyPlace_18 (by decide) ?_
  refine go_icmp_gt 78 d_Rea_keepOnlyPlace_20 (by decide) (fun q15 => ?_) (fun q15 => ?_)
  · rw [if_pos q15] at hf
    refine go_iinc (lv' := [(2, .int (i2 + (1 : Int32))), (0, .ref a0), (1, .ref a1), (3, .long i3), (5, .int i5)]) 2 (i2 + (1 : Int32)) d_Rea_keepOnlyPlace_78 rfl rfl rfl (by decide) ?_
    refine go_goto 2 d_Rea_keepOnlyPlace_81 (by decide) ?_
    refine go_sub (lv' := [(0, .ref a0), (1, .ref a1), (2, .int (i2 + (1 : Int32)))]) [1, 2, 0] rfl ?_
    exact hk2 a0 a1 (i2 + (1 : Int32)) h hf
  · rw [if_neg q15] at hf
    refine go_aload_n 1 d_Rea_keepOnlyPlace_23 rfl ?_
    obtain ⟨x1, e_x1, hf⟩ := bnd_x hf
    refine go_get d_Rea_keepOnlyPlace_24 (gR_x e_x1) fl_Rea_69 ?_
    refine go_iload 4 d_Rea_keepOnlyPlace_27 rfl ?_
    obtain ⟨x2, e_x2, hf⟩ := bnd_x hf
    refine go_laload d_Rea_keepOnlyPlace_29 e_x2 ?_
    refine go_lload_n 3 d_Rea_keepOnlyPlace_30 rfl ?_
    refine go_land d_Rea_keepOnlyPlace_31 ?_
    refine go_lstore (lv' := [(6, .long (x2 &&& i3)), (0, .ref a0), (1, .ref a1), (2, .int i2), (3, .long i3), (5, .int i5)]) d_Rea_keepOnlyPlace_32 rfl (by decide) ?_
    refine go_lload 0 d_Rea_keepOnlyPlace_34 rfl ?_
    obtain ⟨x3, e_x3, hf⟩ := bnd_x hf
    refine go_callS_I (As := [.long (x2 &&& i3)]) (st := []) (c_Grd_isOne (d := d - 1) (by omega) e_x3) lk_Rea_103 rfl rfl (rm_ok (by omega)) (Nat.le_of_ble_eq_true rfl) rm_c d_Rea_keepOnlyPlace_36 ?_
    refine go_if_eq 72 d_Rea_keepOnlyPlace_39 (by decide) (fun q14 => ?_) (fun q14 => ?_)
    · rw [if_pos q14] at hf
      refine go_sub (lv' := [(0, .ref a0), (1, .ref a1), (2, .int i2), (3, .long i3), (5, .int i5)]) [1, 2, 3, 4, 5] rfl ?_
      exact g_Rea_keepOnlyPlace_72 hd hk16 a0 a1 i2 i3 i5 h hf
    · rw [if_neg q14] at hf
      refine go_lload 0 d_Rea_keepOnlyPlace_42 rfl ?_
      refine go_aload_n 1 d_Rea_keepOnlyPlace_44 rfl ?_
      obtain ⟨x4, e_x4, hf⟩ := bnd_x hf
      refine go_get d_Rea_keepOnlyPlace_45 (gL_x e_x4) fl_Rea_63 ?_
      refine go_land d_Rea_keepOnlyPlace_48 ?_
      refine go_lconst (0 : Int64) d_Rea_keepOnlyPlace_49 (by decide) ?_
      refine go_lcmp d_Rea_keepOnlyPlace_50 ?_
      refine go_if_eq 72 d_Rea_keepOnlyPlace_51 (by decide) (fun q13 => ?_) (fun q13 => ?_)
      · rw [if_pos q13] at hf
        refine go_sub (lv' := [(0, .ref a0), (1, .ref a1), (2, .int i2), (3, .long i3), (5, .int i5)]) [1, 2, 3, 4, 5] rfl ?_
        exact g_Rea_keepOnlyPlace_72 hd hk16 a0 a1 i2 i3 i5 h hf
      · rw [if_neg q13] at hf
        refine go_aload_n 1 d_Rea_keepOnlyPlace_54 rfl ?_
        refine go_iconst (2 : Int32) d_Rea_keepOnlyPlace_55 (by decide) ?_
        refine go_iload_n 3 d_Rea_keepOnlyPlace_56 rfl ?_
        refine go_aload_n 2 d_Rea_keepOnlyPlace_57 rfl ?_
        refine go_lload 0 d_Rea_keepOnlyPlace_58 rfl ?_
        obtain ⟨x5, e_x5, hf⟩ := bnd_x hf
        refine go_callS_I (As := [.long (x2 &&& i3)]) (st := [.ref a1, .int i2, .int (2 : Int32), .ref a0]) (c_Grd_lowest (d := d - 1) (by omega) e_x5) lk_Rea_80 rfl rfl (rm_ok (by omega)) (Nat.le_of_ble_eq_true rfl) rm_c d_Rea_keepOnlyPlace_60 ?_
        refine go_iload 5 d_Rea_keepOnlyPlace_63 rfl ?_
        obtain ⟨_, e6, hf⟩ := bnd_x hf
        obtain ⟨x7, h8, e_x7, hf⟩ := bnd2_x hf
        refine go_callV_I (As := [.int x5, .int i5]) (st := [.int i2, .int (2 : Int32), .ref a0]) (c_Pos_keepOnly (d := d - 1) (by omega) e_x7) lk_Rea_107 rfl rfl e6 (by decide) rfl (rm_ok (by omega)) (Nat.le_of_ble_eq_true rfl) rm_c d_Rea_keepOnlyPlace_65 ?_
        obtain ⟨_, e9, hf⟩ := bnd_x hf
        obtain ⟨x10, h11, e_x10, hf⟩ := bnd2_x hf
        refine go_callV_I (As := [.int (2 : Int32), .int i2, .int x7]) (st := []) (c_Rea_note (d := d - 1) (by omega) e_x10) lk_Rea_18 rfl rfl e9 (by decide) rfl (rm_ok (by omega)) (Nat.le_of_ble_eq_true rfl) rm_c d_Rea_keepOnlyPlace_68 ?_
        obtain ⟨_, e12, hf⟩ := bnd_x hf
        obtain ⟨e8, e9⟩ := Prod.mk.inj (Option.some.inj hf)
        subst e8; subst e9
        exact go_zret d_Rea_keepOnlyPlace_71 e12 rfl ⟨rfl, rfl, rfl⟩
theorem t_Rea_keepOnlyPlace_16 {l : Launch} {E : ET} {d : Nat} (hd : 4 ≤ d) {F : Nat} {r : Int32} {h9 : PH} {x : Nat} {k2 : Nat → Nat → Int32 → PH → Option (Int32 × PH)} (hk2 : ∀ (a0 : Nat) (a1 : Nat) (i2 : Int32) (hh : PH), k2 a0 a1 i2 hh = some (r, h9) → Go l E m_Rea_keepOnlyPlace (rm d 0 0) (KM E 0 0 (PoE (some (.int r)) h9 x)) 0 0 hh x 2 [(0, .ref a0), (1, .ref a1), (2, .int i2)] []) : ∀ (n : Nat) (a0 : Nat) (a1 : Nat) (i2 : Int32) (i3 : Int64) (i5 : Int32) (hh : PH), f_Rea_keepOnlyPlace_16 F k2 n a0 a1 i2 i3 i5 hh = some (r, h9) → Go l E m_Rea_keepOnlyPlace (rm d 0 0) (KM E 0 0 (PoE (some (.int r)) h9 x)) 0 0 hh x 16 [(0, .ref a0), (1, .ref a1), (2, .int i2), (3, .long i3), (5, .int i5)] [] := by
  intro n
  induction n with
  | zero => intro v0 v1 v2 v3 v4 v5 hf; cases hf
  | succ n ih => intro v0 v1 v2 v3 v4 v5 hf; exact g_Rea_keepOnlyPlace_16 hd hk2 ih v0 v1 v2 v3 v4 v5 hf
def b_Rea_keepOnlyPlace_2 (F : Nat) (k2 : Nat → Nat → Int32 → PH → Option (Int32 × PH)) (a0 : Nat) (a1 : Nat) (i2 : Int32) (h : PH) : Option (Int32 × PH) :=
  (if (18 : Int32) ≤ i2 then some ((0 : Int32), h) else bnd (f_Grd_unit i2) fun x1 => f_Rea_keepOnlyPlace_16 F k2 F a0 a1 i2 x1 (1 : Int32) h)
def f_Rea_keepOnlyPlace_2 (F : Nat) : Nat → Nat → Nat → Int32 → PH → Option (Int32 × PH)
  | 0 => fun _ _ _ _ => none
  | n + 1 => b_Rea_keepOnlyPlace_2 F (f_Rea_keepOnlyPlace_2 F n)
theorem g_Rea_keepOnlyPlace_2 {l : Launch} {E : ET} {d : Nat} (hd : 4 ≤ d) {F : Nat} {r : Int32} {h9 : PH} {x : Nat} {k2 : Nat → Nat → Int32 → PH → Option (Int32 × PH)} (hk2 : ∀ (a0 : Nat) (a1 : Nat) (i2 : Int32) (hh : PH), k2 a0 a1 i2 hh = some (r, h9) → Go l E m_Rea_keepOnlyPlace (rm d 0 0) (KM E 0 0 (PoE (some (.int r)) h9 x)) 0 0 hh x 2 [(0, .ref a0), (1, .ref a1), (2, .int i2)] []) (a0 : Nat) (a1 : Nat) (i2 : Int32) (h : PH) (hf : b_Rea_keepOnlyPlace_2 F k2 a0 a1 i2 h = some (r, h9)) : Go l E m_Rea_keepOnlyPlace (rm d 0 0) (KM E 0 0 (PoE (some (.int r)) h9 x)) 0 0 h x 2 [(0, .ref a0), (1, .ref a1), (2, .int i2)] [] := by
  unfold b_Rea_keepOnlyPlace_2 at hf
  refine go_iload_n 2 d_Rea_keepOnlyPlace_2 rfl ?_
  refine go_bipush (18 : Int32) d_Rea_keepOnlyPlace_3 (by decide) ?_
  refine go_icmp_ge 84 d_Rea_keepOnlyPlace_5 (by decide) (fun q2 => ?_) (fun q2 => ?_)
  · rw [if_pos q2] at hf
    refine go_iconst (0 : Int32) d_Rea_keepOnlyPlace_84 (by decide) ?_
    obtain ⟨e8, e9⟩ := Prod.mk.inj (Option.some.inj hf)
    subst e8; subst e9
    exact go_zret d_Rea_keepOnlyPlace_85 rfl rfl ⟨rfl, rfl, rfl⟩
  · rw [if_neg q2] at hf
    refine go_iload_n 2 d_Rea_keepOnlyPlace_8 rfl ?_
    obtain ⟨x1, e_x1, hf⟩ := bnd_x hf
    refine go_callS_L (As := [.int i2]) (st := []) (c_Grd_unit (d := d - 1) (by omega) e_x1) lk_Rea_99 rfl rfl (rm_ok (by omega)) (Nat.le_of_ble_eq_true rfl) rm_c d_Rea_keepOnlyPlace_9 ?_
    refine go_lstore_n (lv' := [(3, .long x1), (0, .ref a0), (1, .ref a1), (2, .int i2)]) d_Rea_keepOnlyPlace_12 rfl (by decide) ?_
    refine go_iconst (1 : Int32) d_Rea_keepOnlyPlace_13 (by decide) ?_
    refine go_istore (lv' := [(5, .int (1 : Int32)), (3, .long x1), (0, .ref a0), (1, .ref a1), (2, .int i2)]) d_Rea_keepOnlyPlace_14 rfl (by decide) ?_
    refine go_sub (lv' := [(0, .ref a0), (1, .ref a1), (2, .int i2), (3, .long x1), (5, .int (1 : Int32))]) [2, 3, 4, 1, 0] rfl ?_
    exact t_Rea_keepOnlyPlace_16 hd hk2 _ a0 a1 i2 x1 (1 : Int32) h hf
theorem t_Rea_keepOnlyPlace_2 {l : Launch} {E : ET} {d : Nat} (hd : 4 ≤ d) {F : Nat} {r : Int32} {h9 : PH} {x : Nat}  : ∀ (n : Nat) (a0 : Nat) (a1 : Nat) (i2 : Int32) (hh : PH), f_Rea_keepOnlyPlace_2 F n a0 a1 i2 hh = some (r, h9) → Go l E m_Rea_keepOnlyPlace (rm d 0 0) (KM E 0 0 (PoE (some (.int r)) h9 x)) 0 0 hh x 2 [(0, .ref a0), (1, .ref a1), (2, .int i2)] [] := by
  intro n
  induction n with
  | zero => intro v0 v1 v2 v3 hf; cases hf
  | succ n ih => intro v0 v1 v2 v3 hf; exact g_Rea_keepOnlyPlace_2 hd ih v0 v1 v2 v3 hf
def f_Rea_keepOnlyPlace (F : Nat) (a0 : Nat) (a1 : Nat) (h : PH) : Option (Int32 × PH) :=
  f_Rea_keepOnlyPlace_2 F F a0 a1 (0 : Int32) h
theorem g_Rea_keepOnlyPlace_0 {l : Launch} {E : ET} {d : Nat} (hd : 4 ≤ d) {F : Nat} {r : Int32} {h9 : PH} {x : Nat}  (a0 : Nat) (a1 : Nat) (h : PH) (hf : f_Rea_keepOnlyPlace F a0 a1 h = some (r, h9)) : Go l E m_Rea_keepOnlyPlace (rm d 0 0) (KM E 0 0 (PoE (some (.int r)) h9 x)) 0 0 h x 0 [(0, .ref a0), (1, .ref a1)] [] := by
  unfold f_Rea_keepOnlyPlace at hf
  refine go_iconst (0 : Int32) d_Rea_keepOnlyPlace_0 (by decide) ?_
  refine go_istore_n (lv' := [(2, .int (0 : Int32)), (0, .ref a0), (1, .ref a1)]) d_Rea_keepOnlyPlace_1 rfl (by decide) ?_
  refine go_sub (lv' := [(0, .ref a0), (1, .ref a1), (2, .int (0 : Int32))]) [1, 2, 0] rfl ?_
  exact t_Rea_keepOnlyPlace_2 hd  _ a0 a1 (0 : Int32) h hf
theorem c_Rea_keepOnlyPlace {l : Launch} {E : ET} {d : Nat} (hd : 4 ≤ d) {F : Nat} {r : Int32} {h9 : PH} {x : Nat} {a0 : Nat} {a1 : Nat} {h : PH} (hf : f_Rea_keepOnlyPlace F a0 a1 h = some (r, h9)) : Fn l E m_Rea_keepOnlyPlace d 0 0 [.ref a0, .ref a1] h x (PoE (some (.int r)) h9 x) :=
  Fn.of (by decide +kernel) (Nat.le_of_ble_eq_true rfl) (g_Rea_keepOnlyPlace_0 hd a0 a1 h hf)
theorem d_Rea_wake_0 : decode prog_6_method_7_code 0 = .ok (.aload_n 0, 1) := by decide +kernel
theorem d_Rea_wake_1 : decode prog_6_method_7_code 1 = .ok (.dup, 1) := by decide +kernel
theorem d_Rea_wake_2 : decode prog_6_method_7_code 2 = .ok (.getfield 111, 3) := by decide +kernel
theorem d_Rea_wake_5 : decode prog_6_method_7_code 5 = .ok (.aload_n 1, 1) := by decide +kernel
theorem d_Rea_wake_6 : decode prog_6_method_7_code 6 = .ok (.aload_n 0, 1) := by decide +kernel
theorem d_Rea_wake_7 : decode prog_6_method_7_code 7 = .ok (.getfield 114, 3) := by decide +kernel
theorem d_Rea_wake_10 : decode prog_6_method_7_code 10 = .ok (.invokevirtual 117, 3) := by decide +kernel
theorem d_Rea_wake_13 : decode prog_6_method_7_code 13 = .ok (.ior, 1) := by decide +kernel
theorem d_Rea_wake_14 : decode prog_6_method_7_code 14 = .ok (.putfield 111, 3) := by decide +kernel
theorem d_Rea_wake_17 : decode prog_6_method_7_code 17 = .ok (.aload_n 0, 1) := by decide +kernel
theorem d_Rea_wake_18 : decode prog_6_method_7_code 18 = .ok (.lconst 0, 1) := by decide +kernel
theorem d_Rea_wake_19 : decode prog_6_method_7_code 19 = .ok (.putfield 114, 3) := by decide +kernel
theorem d_Rea_wake_22 : decode prog_6_method_7_code 22 = .ok (.aload_n 0, 1) := by decide +kernel
theorem d_Rea_wake_23 : decode prog_6_method_7_code 23 = .ok (.getfield 111, 3) := by decide +kernel
theorem d_Rea_wake_26 : decode prog_6_method_7_code 26 = .ok (.ifCond .eq 7, 3) := by decide +kernel
theorem d_Rea_wake_29 : decode prog_6_method_7_code 29 = .ok (.iconst 1, 1) := by decide +kernel
theorem d_Rea_wake_30 : decode prog_6_method_7_code 30 = .ok (.goto 4, 3) := by decide +kernel
theorem d_Rea_wake_33 : decode prog_6_method_7_code 33 = .ok (.iconst 0, 1) := by decide +kernel
theorem d_Rea_wake_34 : decode prog_6_method_7_code 34 = .ok (.ireturn, 1) := by decide +kernel
def f_Rea_wake (F : Nat) (a0 : Nat) (a1 : Nat) (h : PH) : Option (Int32 × PH) :=
  bnd (gI h a0 1 3) fun x1 => bnd (gL h a0 1 2) fun x2 => bnd (cK h a1 4) fun _ => bnd (f_Rul_touching F a1 x2 h) fun x4 => bnd (pV h a0 1 3 (.int (x1 ||| x4))) fun h5 => bnd (pV h5 a0 1 2 (.long (0 : Int64))) fun h6 => bnd (gI h6 a0 1 3) fun x7 => (if x7 = (0 : Int32) then some ((0 : Int32), h6) else some ((1 : Int32), h6))
theorem g_Rea_wake_0 {l : Launch} {E : ET} {d : Nat} (hd : 3 ≤ d) {F : Nat} {r : Int32} {h9 : PH} {x : Nat}  (a0 : Nat) (a1 : Nat) (h : PH) (hf : f_Rea_wake F a0 a1 h = some (r, h9)) : Go l E m_Rea_wake (rm d 0 0) (KM E 0 0 (PoE (some (.int r)) h9 x)) 0 0 h x 0 [(0, .ref a0), (1, .ref a1)] [] := by
  unfold f_Rea_wake at hf
  refine go_aload_n 0 d_Rea_wake_0 rfl ?_
  refine go_dup d_Rea_wake_1 rfl ?_
  obtain ⟨x1, e_x1, hf⟩ := bnd_x hf
  refine go_get d_Rea_wake_2 (gI_x e_x1) fl_Rea_111 ?_
  refine go_aload_n 1 d_Rea_wake_5 rfl ?_
  refine go_aload_n 0 d_Rea_wake_6 rfl ?_
  obtain ⟨x2, e_x2, hf⟩ := bnd_x hf
  refine go_get d_Rea_wake_7 (gL_x e_x2) fl_Rea_114 ?_
  obtain ⟨_, e3, hf⟩ := bnd_x hf
  obtain ⟨x4, e_x4, hf⟩ := bnd_x hf
  refine go_callV_I (As := [.long x2]) (st := [.int x1, .ref a0]) (c_Rul_touching (d := d - 1) (by omega) e_x4) lk_Rea_117 rfl rfl e3 (by decide) rfl (rm_ok (by omega)) (Nat.le_of_ble_eq_true rfl) rm_c d_Rea_wake_10 ?_
  refine go_ior d_Rea_wake_13 ?_
  obtain ⟨h5, e_h5, hf⟩ := bnd_x hf
  refine go_putI d_Rea_wake_14 e_h5 fl_Rea_111 rfl rfl ?_
  refine go_aload_n 0 d_Rea_wake_17 rfl ?_
  refine go_lconst (0 : Int64) d_Rea_wake_18 (by decide) ?_
  obtain ⟨h6, e_h6, hf⟩ := bnd_x hf
  refine go_putL d_Rea_wake_19 e_h6 fl_Rea_114 rfl rfl ?_
  refine go_aload_n 0 d_Rea_wake_22 rfl ?_
  obtain ⟨x7, e_x7, hf⟩ := bnd_x hf
  refine go_get d_Rea_wake_23 (gI_x e_x7) fl_Rea_111 ?_
  refine go_if_eq 33 d_Rea_wake_26 (by decide) (fun q8 => ?_) (fun q8 => ?_)
  · rw [if_pos q8] at hf
    refine go_iconst (0 : Int32) d_Rea_wake_33 (by decide) ?_
    obtain ⟨e8, e9⟩ := Prod.mk.inj (Option.some.inj hf)
    subst e8; subst e9
    exact go_zret d_Rea_wake_34 rfl rfl ⟨rfl, rfl, rfl⟩
  · rw [if_neg q8] at hf
    refine go_iconst (1 : Int32) d_Rea_wake_29 (by decide) ?_
    refine go_goto 34 d_Rea_wake_30 (by decide) ?_
    obtain ⟨e8, e9⟩ := Prod.mk.inj (Option.some.inj hf)
    subst e8; subst e9
    exact go_zret d_Rea_wake_34 rfl rfl ⟨rfl, rfl, rfl⟩
theorem c_Rea_wake {l : Launch} {E : ET} {d : Nat} (hd : 3 ≤ d) {F : Nat} {r : Int32} {h9 : PH} {x : Nat} {a0 : Nat} {a1 : Nat} {h : PH} (hf : f_Rea_wake F a0 a1 h = some (r, h9)) : Fn l E m_Rea_wake d 0 0 [.ref a0, .ref a1] h x (PoE (some (.int r)) h9 x) :=
  Fn.of (by decide +kernel) (Nat.le_of_ble_eq_true rfl) (g_Rea_wake_0 hd a0 a1 h hf)
theorem d_Rea_askKind_0 : decode prog_6_method_8_code 0 = .ok (.iconst 0, 1) := by decide +kernel
theorem d_Rea_askKind_1 : decode prog_6_method_8_code 1 = .ok (.istore 5, 2) := by decide +kernel
theorem d_Rea_askKind_3 : decode prog_6_method_8_code 3 = .ok (.iload 5, 2) := by decide +kernel
theorem d_Rea_askKind_5 : decode prog_6_method_8_code 5 = .ok (.aload_n 2, 1) := by decide +kernel
theorem d_Rea_askKind_6 : decode prog_6_method_8_code 6 = .ok (.getfield 120, 3) := by decide +kernel
theorem d_Rea_askKind_9 : decode prog_6_method_8_code 9 = .ok (.if_icmp .ge 76, 3) := by decide +kernel
theorem d_Rea_askKind_12 : decode prog_6_method_8_code 12 = .ok (.aload_n 1, 1) := by decide +kernel
theorem d_Rea_askKind_13 : decode prog_6_method_8_code 13 = .ok (.getfield 111, 3) := by decide +kernel
theorem d_Rea_askKind_16 : decode prog_6_method_8_code 16 = .ok (.iload 5, 2) := by decide +kernel
theorem d_Rea_askKind_18 : decode prog_6_method_8_code 18 = .ok (.ishr, 1) := by decide +kernel
theorem d_Rea_askKind_19 : decode prog_6_method_8_code 19 = .ok (.iconst 1, 1) := by decide +kernel
theorem d_Rea_askKind_20 : decode prog_6_method_8_code 20 = .ok (.iand, 1) := by decide +kernel
theorem d_Rea_askKind_21 : decode prog_6_method_8_code 21 = .ok (.ifCond .eq 58, 3) := by decide +kernel
theorem d_Rea_askKind_24 : decode prog_6_method_8_code 24 = .ok (.aload_n 2, 1) := by decide +kernel
theorem d_Rea_askKind_25 : decode prog_6_method_8_code 25 = .ok (.getfield 123, 3) := by decide +kernel
theorem d_Rea_askKind_28 : decode prog_6_method_8_code 28 = .ok (.iload 5, 2) := by decide +kernel
theorem d_Rea_askKind_30 : decode prog_6_method_8_code 30 = .ok (.iaload, 1) := by decide +kernel
theorem d_Rea_askKind_31 : decode prog_6_method_8_code 31 = .ok (.iload_n 3, 1) := by decide +kernel
theorem d_Rea_askKind_32 : decode prog_6_method_8_code 32 = .ok (.if_icmp .ne 47, 3) := by decide +kernel
theorem d_Rea_askKind_35 : decode prog_6_method_8_code 35 = .ok (.aload_n 1, 1) := by decide +kernel
theorem d_Rea_askKind_36 : decode prog_6_method_8_code 36 = .ok (.dup, 1) := by decide +kernel
theorem d_Rea_askKind_37 : decode prog_6_method_8_code 37 = .ok (.getfield 111, 3) := by decide +kernel
theorem d_Rea_askKind_40 : decode prog_6_method_8_code 40 = .ok (.iconst 1, 1) := by decide +kernel
theorem d_Rea_askKind_41 : decode prog_6_method_8_code 41 = .ok (.iload 5, 2) := by decide +kernel
theorem d_Rea_askKind_43 : decode prog_6_method_8_code 43 = .ok (.ishl, 1) := by decide +kernel
theorem d_Rea_askKind_44 : decode prog_6_method_8_code 44 = .ok (.iconst (-1), 1) := by decide +kernel
theorem d_Rea_askKind_45 : decode prog_6_method_8_code 45 = .ok (.ixor, 1) := by decide +kernel
theorem d_Rea_askKind_46 : decode prog_6_method_8_code 46 = .ok (.iand, 1) := by decide +kernel
theorem d_Rea_askKind_47 : decode prog_6_method_8_code 47 = .ok (.putfield 111, 3) := by decide +kernel
theorem d_Rea_askKind_50 : decode prog_6_method_8_code 50 = .ok (.aload_n 0, 1) := by decide +kernel
theorem d_Rea_askKind_51 : decode prog_6_method_8_code 51 = .ok (.getfield 12, 3) := by decide +kernel
theorem d_Rea_askKind_54 : decode prog_6_method_8_code 54 = .ok (.aload_n 1, 1) := by decide +kernel
theorem d_Rea_askKind_55 : decode prog_6_method_8_code 55 = .ok (.aload_n 2, 1) := by decide +kernel
theorem d_Rea_askKind_56 : decode prog_6_method_8_code 56 = .ok (.iload 5, 2) := by decide +kernel
theorem d_Rea_askKind_58 : decode prog_6_method_8_code 58 = .ok (.invokevirtual 127, 3) := by decide +kernel
theorem d_Rea_askKind_61 : decode prog_6_method_8_code 61 = .ok (.istore 6, 2) := by decide +kernel
theorem d_Rea_askKind_63 : decode prog_6_method_8_code 63 = .ok (.iload 6, 2) := by decide +kernel
theorem d_Rea_askKind_65 : decode prog_6_method_8_code 65 = .ok (.ifCond .le 14, 3) := by decide +kernel
theorem d_Rea_askKind_68 : decode prog_6_method_8_code 68 = .ok (.aload_n 0, 1) := by decide +kernel
theorem d_Rea_askKind_69 : decode prog_6_method_8_code 69 = .ok (.iload 4, 2) := by decide +kernel
theorem d_Rea_askKind_71 : decode prog_6_method_8_code 71 = .ok (.iload 5, 2) := by decide +kernel
theorem d_Rea_askKind_73 : decode prog_6_method_8_code 73 = .ok (.iload 6, 2) := by decide +kernel
theorem d_Rea_askKind_75 : decode prog_6_method_8_code 75 = .ok (.invokevirtual 18, 3) := by decide +kernel
theorem d_Rea_askKind_78 : decode prog_6_method_8_code 78 = .ok (.ireturn, 1) := by decide +kernel
theorem d_Rea_askKind_79 : decode prog_6_method_8_code 79 = .ok (.iinc 5 1, 3) := by decide +kernel
theorem d_Rea_askKind_82 : decode prog_6_method_8_code 82 = .ok (.goto (-79), 3) := by decide +kernel
theorem d_Rea_askKind_85 : decode prog_6_method_8_code 85 = .ok (.iconst 0, 1) := by decide +kernel
theorem d_Rea_askKind_86 : decode prog_6_method_8_code 86 = .ok (.ireturn, 1) := by decide +kernel
def b_Rea_askKind_79 (F : Nat) (k3 : Nat → Nat → Nat → Int32 → Int32 → Int32 → PH → Option (Int32 × PH)) (a0 : Nat) (a1 : Nat) (a2 : Nat) (i3 : Int32) (i4 : Int32) (i5 : Int32) (h : PH) : Option (Int32 × PH) :=
  k3 a0 a1 a2 i3 i4 (i5 + (1 : Int32)) h
theorem g_Rea_askKind_79 {l : Launch} {E : ET} {d : Nat} (hd : 64 ≤ d) {F : Nat} {r : Int32} {h9 : PH} {x : Nat} {k3 : Nat → Nat → Nat → Int32 → Int32 → Int32 → PH → Option (Int32 × PH)} (hk3 : ∀ (a0 : Nat) (a1 : Nat) (a2 : Nat) (i3 : Int32) (i4 : Int32) (i5 : Int32) (hh : PH), k3 a0 a1 a2 i3 i4 i5 hh = some (r, h9) → Go l E m_Rea_askKind (rm d 0 0) (KM E 0 0 (PoE (some (.int r)) h9 x)) 0 0 hh x 3 [(0, .ref a0), (1, .ref a1), (2, .ref a2), (3, .int i3), (4, .int i4), (5, .int i5)] []) (a0 : Nat) (a1 : Nat) (a2 : Nat) (i3 : Int32) (i4 : Int32) (i5 : Int32) (h : PH) (hf : b_Rea_askKind_79 F k3 a0 a1 a2 i3 i4 i5 h = some (r, h9)) : Go l E m_Rea_askKind (rm d 0 0) (KM E 0 0 (PoE (some (.int r)) h9 x)) 0 0 h x 79 [(0, .ref a0), (1, .ref a1), (2, .ref a2), (3, .int i3), (4, .int i4), (5, .int i5)] [] := by
  unfold b_Rea_askKind_79 at hf
  refine go_iinc (lv' := [(5, .int (i5 + (1 : Int32))), (0, .ref a0), (1, .ref a1), (2, .ref a2), (3, .int i3), (4, .int i4)]) 5 (i5 + (1 : Int32)) d_Rea_askKind_79 rfl rfl rfl (by decide) ?_
  refine go_goto 3 d_Rea_askKind_82 (by decide) ?_
  refine go_sub (lv' := [(0, .ref a0), (1, .ref a1), (2, .ref a2), (3, .int i3), (4, .int i4), (5, .int (i5 + (1 : Int32)))]) [1, 2, 3, 4, 5, 0] rfl ?_
  exact hk3 a0 a1 a2 i3 i4 (i5 + (1 : Int32)) h hf
def b_Rea_askKind_3 (F : Nat) (k3 : Nat → Nat → Nat → Int32 → Int32 → Int32 → PH → Option (Int32 × PH)) (a0 : Nat) (a1 : Nat) (a2 : Nat) (i3 : Int32) (i4 : Int32) (i5 : Int32) (h : PH) : Option (Int32 × PH) :=
  bnd (gI h a2 4 6) fun x1 => (if x1 ≤ i5 then some ((0 : Int32), h) else bnd (gI h a1 1 3) fun x2 => (if ((x2 >>> (i5 &&& 31)) &&& (1 : Int32)) = (0 : Int32) then b_Rea_askKind_79 F k3 a0 a1 a2 i3 i4 i5 h else bnd (gR h a2 4 0) fun x3 => bnd (aI h x3 i5) fun x4 => (if x4 = i3 then bnd (gI h a1 1 3) fun x5 => bnd (pV h a1 1 3 (.int (x5 &&& (((1 : Int32) <<< (i5 &&& 31)) ^^^ (-1 : Int32))))) fun h6 => bnd (gR h6 a0 3 0) fun x7 => bnd (cK h6 x7 6) fun _ => bnd2 (f_Siv_sift F x7 a1 a2 i5 h6) fun x9 h10 => (if x9 ≤ (0 : Int32) then b_Rea_askKind_79 F k3 a0 a1 a2 i3 i4 i5 h10 else bnd (cK h10 a0 3) fun _ => bnd2 (f_Rea_note a0 i4 i5 x9 h10) fun x12 h13 => bnd (cZ x12) fun _ => some (x12, h13)) else b_Rea_askKind_79 F k3 a0 a1 a2 i3 i4 i5 h)))
def f_Rea_askKind_3 (F : Nat) : Nat → Nat → Nat → Nat → Int32 → Int32 → Int32 → PH → Option (Int32 × PH)
  | 0 => fun _ _ _ _ _ _ _ => none
  | n + 1 => b_Rea_askKind_3 F (f_Rea_askKind_3 F n)
theorem g_Rea_askKind_3 {l : Launch} {E : ET} {d : Nat} (hd : 64 ≤ d) {F : Nat} {r : Int32} {h9 : PH} {x : Nat} {k3 : Nat → Nat → Nat → Int32 → Int32 → Int32 → PH → Option (Int32 × PH)} (hk3 : ∀ (a0 : Nat) (a1 : Nat) (a2 : Nat) (i3 : Int32) (i4 : Int32) (i5 : Int32) (hh : PH), k3 a0 a1 a2 i3 i4 i5 hh = some (r, h9) → Go l E m_Rea_askKind (rm d 0 0) (KM E 0 0 (PoE (some (.int r)) h9 x)) 0 0 hh x 3 [(0, .ref a0), (1, .ref a1), (2, .ref a2), (3, .int i3), (4, .int i4), (5, .int i5)] []) (a0 : Nat) (a1 : Nat) (a2 : Nat) (i3 : Int32) (i4 : Int32) (i5 : Int32) (h : PH) (hf : b_Rea_askKind_3 F k3 a0 a1 a2 i3 i4 i5 h = some (r, h9)) : Go l E m_Rea_askKind (rm d 0 0) (KM E 0 0 (PoE (some (.int r)) h9 x)) 0 0 h x 3 [(0, .ref a0), (1, .ref a1), (2, .ref a2), (3, .int i3), (4, .int i4), (5, .int i5)] [] := by
  unfold b_Rea_askKind_3 at hf
  refine go_iload 5 d_Rea_askKind_3 rfl ?_
  refine go_aload_n 2 d_Rea_askKind_5 rfl ?_
  obtain ⟨x1, e_x1, hf⟩ := bnd_x hf
  refine go_get d_Rea_askKind_6 (gI_x e_x1) fl_Rea_120 ?_
  refine go_icmp_ge 85 d_Rea_askKind_9 (by decide) (fun q18 => ?_) (fun q18 => ?_)
  · rw [if_pos q18] at hf
    refine go_iconst (0 : Int32) d_Rea_askKind_85 (by decide) ?_
    obtain ⟨e8, e9⟩ := Prod.mk.inj (Option.some.inj hf)
    subst e8; subst e9
    exact go_zret d_Rea_askKind_86 rfl rfl ⟨rfl, rfl, rfl⟩
  · rw [if_neg q18] at hf
    refine go_aload_n 1 d_Rea_askKind_12 rfl ?_
    obtain ⟨x2, e_x2, hf⟩ := bnd_x hf
    refine go_get d_Rea_askKind_13 (gI_x e_x2) fl_Rea_111 ?_
    refine go_iload 5 d_Rea_askKind_16 rfl ?_
    refine go_ishr d_Rea_askKind_18 ?_
    refine go_iconst (1 : Int32) d_Rea_askKind_19 (by decide) ?_
    refine go_iand d_Rea_askKind_20 ?_
    refine go_if_eq 79 d_Rea_askKind_21 (by decide) (fun q17 => ?_) (fun q17 => ?_)
    · rw [if_pos q17] at hf
      refine go_sub (lv' := [(0, .ref a0), (1, .ref a1), (2, .ref a2), (3, .int i3), (4, .int i4), (5, .int i5)]) [0, 1, 2, 3, 4, 5] rfl ?_
      exact g_Rea_askKind_79 hd hk3 a0 a1 a2 i3 i4 i5 h hf
    · rw [if_neg q17] at hf
      refine go_aload_n 2 d_Rea_askKind_24 rfl ?_
      obtain ⟨x3, e_x3, hf⟩ := bnd_x hf
      refine go_get d_Rea_askKind_25 (gR_x e_x3) fl_Rea_123 ?_
      refine go_iload 5 d_Rea_askKind_28 rfl ?_
      obtain ⟨x4, e_x4, hf⟩ := bnd_x hf
      refine go_iaload d_Rea_askKind_30 e_x4 ?_
      refine go_iload_n 3 d_Rea_askKind_31 rfl ?_
      refine go_icmp_ne 79 d_Rea_askKind_32 (by decide) (fun q16 => ?_) (fun q16 => ?_)
      · rw [if_neg q16] at hf
        refine go_sub (lv' := [(0, .ref a0), (1, .ref a1), (2, .ref a2), (3, .int i3), (4, .int i4), (5, .int i5)]) [0, 1, 2, 3, 4, 5] rfl ?_
        exact g_Rea_askKind_79 hd hk3 a0 a1 a2 i3 i4 i5 h hf
      · rw [if_pos q16] at hf
        refine go_aload_n 1 d_Rea_askKind_35 rfl ?_
        refine go_dup d_Rea_askKind_36 rfl ?_
        obtain ⟨x5, e_x5, hf⟩ := bnd_x hf
        refine go_get d_Rea_askKind_37 (gI_x e_x5) fl_Rea_111 ?_
        refine go_iconst (1 : Int32) d_Rea_askKind_40 (by decide) ?_
        refine go_iload 5 d_Rea_askKind_41 rfl ?_
        refine go_ishl d_Rea_askKind_43 ?_
        refine go_iconst (-1 : Int32) d_Rea_askKind_44 (by decide) ?_
        refine go_ixor d_Rea_askKind_45 ?_
        refine go_iand d_Rea_askKind_46 ?_
        obtain ⟨h6, e_h6, hf⟩ := bnd_x hf
        refine go_putI d_Rea_askKind_47 e_h6 fl_Rea_111 rfl rfl ?_
        refine go_aload_n 0 d_Rea_askKind_50 rfl ?_
        obtain ⟨x7, e_x7, hf⟩ := bnd_x hf
        refine go_get d_Rea_askKind_51 (gR_x e_x7) fl_Rea_12 ?_
        refine go_aload_n 1 d_Rea_askKind_54 rfl ?_
        refine go_aload_n 2 d_Rea_askKind_55 rfl ?_
        refine go_iload 5 d_Rea_askKind_56 rfl ?_
        obtain ⟨_, e8, hf⟩ := bnd_x hf
        obtain ⟨x9, h10, e_x9, hf⟩ := bnd2_x hf
        refine go_callV_I (As := [.ref a1, .ref a2, .int i5]) (st := []) (c_Siv_sift (d := d - 1) (by omega) e_x9) lk_Rea_127 rfl rfl e8 (by decide) rfl (rm_ok (by omega)) (Nat.le_of_ble_eq_true rfl) rm_c d_Rea_askKind_58 ?_
        refine go_istore (lv' := [(6, .int x9), (0, .ref a0), (1, .ref a1), (2, .ref a2), (3, .int i3), (4, .int i4), (5, .int i5)]) d_Rea_askKind_61 rfl (by decide) ?_
        refine go_iload 0 d_Rea_askKind_63 rfl ?_
        refine go_if_le 79 d_Rea_askKind_65 (by decide) (fun q15 => ?_) (fun q15 => ?_)
        · rw [if_pos q15] at hf
          refine go_sub (lv' := [(0, .ref a0), (1, .ref a1), (2, .ref a2), (3, .int i3), (4, .int i4), (5, .int i5)]) [1, 2, 3, 4, 5, 6] rfl ?_
          exact g_Rea_askKind_79 hd hk3 a0 a1 a2 i3 i4 i5 h10 hf
        · rw [if_neg q15] at hf
          refine go_aload_n 1 d_Rea_askKind_68 rfl ?_
          refine go_iload 5 d_Rea_askKind_69 rfl ?_
          refine go_iload 6 d_Rea_askKind_71 rfl ?_
          refine go_iload 0 d_Rea_askKind_73 rfl ?_
          obtain ⟨_, e11, hf⟩ := bnd_x hf
          obtain ⟨x12, h13, e_x12, hf⟩ := bnd2_x hf
          refine go_callV_I (As := [.int i4, .int i5, .int x9]) (st := []) (c_Rea_note (d := d - 1) (by omega) e_x12) lk_Rea_18 rfl rfl e11 (by decide) rfl (rm_ok (by omega)) (Nat.le_of_ble_eq_true rfl) rm_c d_Rea_askKind_75 ?_
          obtain ⟨_, e14, hf⟩ := bnd_x hf
          obtain ⟨e8, e9⟩ := Prod.mk.inj (Option.some.inj hf)
          subst e8; subst e9
          exact go_zret d_Rea_askKind_78 e14 rfl ⟨rfl, rfl, rfl⟩
theorem t_Rea_askKind_3 {l : Launch} {E : ET} {d : Nat} (hd : 64 ≤ d) {F : Nat} {r : Int32} {h9 : PH} {x : Nat}  : ∀ (n : Nat) (a0 : Nat) (a1 : Nat) (a2 : Nat) (i3 : Int32) (i4 : Int32) (i5 : Int32) (hh : PH), f_Rea_askKind_3 F n a0 a1 a2 i3 i4 i5 hh = some (r, h9) → Go l E m_Rea_askKind (rm d 0 0) (KM E 0 0 (PoE (some (.int r)) h9 x)) 0 0 hh x 3 [(0, .ref a0), (1, .ref a1), (2, .ref a2), (3, .int i3), (4, .int i4), (5, .int i5)] [] := by
  intro n
  induction n with
  | zero => intro v0 v1 v2 v3 v4 v5 v6 hf; cases hf
  | succ n ih => intro v0 v1 v2 v3 v4 v5 v6 hf; exact g_Rea_askKind_3 hd ih v0 v1 v2 v3 v4 v5 v6 hf
def f_Rea_askKind (F : Nat) (a0 : Nat) (a1 : Nat) (a2 : Nat) (i3 : Int32) (i4 : Int32) (h : PH) : Option (Int32 × PH) :=
  f_Rea_askKind_3 F F a0 a1 a2 i3 i4 (0 : Int32) h
theorem g_Rea_askKind_0 {l : Launch} {E : ET} {d : Nat} (hd : 64 ≤ d) {F : Nat} {r : Int32} {h9 : PH} {x : Nat}  (a0 : Nat) (a1 : Nat) (a2 : Nat) (i3 : Int32) (i4 : Int32) (h : PH) (hf : f_Rea_askKind F a0 a1 a2 i3 i4 h = some (r, h9)) : Go l E m_Rea_askKind (rm d 0 0) (KM E 0 0 (PoE (some (.int r)) h9 x)) 0 0 h x 0 [(0, .ref a0), (1, .ref a1), (2, .ref a2), (3, .int i3), (4, .int i4)] [] := by
  unfold f_Rea_askKind at hf
  refine go_iconst (0 : Int32) d_Rea_askKind_0 (by decide) ?_
  refine go_istore (lv' := [(5, .int (0 : Int32)), (0, .ref a0), (1, .ref a1), (2, .ref a2), (3, .int i3), (4, .int i4)]) d_Rea_askKind_1 rfl (by decide) ?_
  refine go_sub (lv' := [(0, .ref a0), (1, .ref a1), (2, .ref a2), (3, .int i3), (4, .int i4), (5, .int (0 : Int32))]) [1, 2, 3, 4, 5, 0] rfl ?_
  exact t_Rea_askKind_3 hd  _ a0 a1 a2 i3 i4 (0 : Int32) h hf
theorem c_Rea_askKind {l : Launch} {E : ET} {d : Nat} (hd : 64 ≤ d) {F : Nat} {r : Int32} {h9 : PH} {x : Nat} {a0 : Nat} {a1 : Nat} {a2 : Nat} {i3 : Int32} {i4 : Int32} {h : PH} (hf : f_Rea_askKind F a0 a1 a2 i3 i4 h = some (r, h9)) : Fn l E m_Rea_askKind d 0 0 [.ref a0, .ref a1, .ref a2, .int i3, .int i4] h x (PoE (some (.int r)) h9 x) :=
  Fn.of (by decide +kernel) (Nat.le_of_ble_eq_true rfl) (g_Rea_askKind_0 hd a0 a1 a2 i3 i4 h hf)
theorem d_Rea_lock_0 : decode prog_6_method_10_code 0 = .ok (.bipush 12, 2) := by decide +kernel
theorem d_Rea_lock_2 : decode prog_6_method_10_code 2 = .ok (.iload_n 2, 1) := by decide +kernel
theorem d_Rea_lock_3 : decode prog_6_method_10_code 3 = .ok (.iadd, 1) := by decide +kernel
theorem d_Rea_lock_4 : decode prog_6_method_10_code 4 = .ok (.invokestatic 99, 3) := by decide +kernel
theorem d_Rea_lock_7 : decode prog_6_method_10_code 7 = .ok (.lstore 4, 2) := by decide +kernel
theorem d_Rea_lock_9 : decode prog_6_method_10_code 9 = .ok (.iload_n 3, 1) := by decide +kernel
theorem d_Rea_lock_10 : decode prog_6_method_10_code 10 = .ok (.invokestatic 99, 3) := by decide +kernel
theorem d_Rea_lock_13 : decode prog_6_method_10_code 13 = .ok (.lstore 6, 2) := by decide +kernel
theorem d_Rea_lock_15 : decode prog_6_method_10_code 15 = .ok (.iconst 1, 1) := by decide +kernel
theorem d_Rea_lock_16 : decode prog_6_method_10_code 16 = .ok (.istore 8, 2) := by decide +kernel
theorem d_Rea_lock_18 : decode prog_6_method_10_code 18 = .ok (.iload 8, 2) := by decide +kernel
theorem d_Rea_lock_20 : decode prog_6_method_10_code 20 = .ok (.bipush 6, 2) := by decide +kernel
theorem d_Rea_lock_22 : decode prog_6_method_10_code 22 = .ok (.if_icmp .gt 97, 3) := by decide +kernel
theorem d_Rea_lock_25 : decode prog_6_method_10_code 25 = .ok (.aload_n 1, 1) := by decide +kernel
theorem d_Rea_lock_26 : decode prog_6_method_10_code 26 = .ok (.getfield 69, 3) := by decide +kernel
theorem d_Rea_lock_29 : decode prog_6_method_10_code 29 = .ok (.iload 8, 2) := by decide +kernel
theorem d_Rea_lock_31 : decode prog_6_method_10_code 31 = .ok (.laload, 1) := by decide +kernel
theorem d_Rea_lock_32 : decode prog_6_method_10_code 32 = .ok (.lload 4, 2) := by decide +kernel
theorem d_Rea_lock_34 : decode prog_6_method_10_code 34 = .ok (.land, 1) := by decide +kernel
theorem d_Rea_lock_35 : decode prog_6_method_10_code 35 = .ok (.lstore 9, 2) := by decide +kernel
theorem d_Rea_lock_37 : decode prog_6_method_10_code 37 = .ok (.aload_n 1, 1) := by decide +kernel
theorem d_Rea_lock_38 : decode prog_6_method_10_code 38 = .ok (.getfield 69, 3) := by decide +kernel
theorem d_Rea_lock_41 : decode prog_6_method_10_code 41 = .ok (.iload 8, 2) := by decide +kernel
theorem d_Rea_lock_43 : decode prog_6_method_10_code 43 = .ok (.laload, 1) := by decide +kernel
theorem d_Rea_lock_44 : decode prog_6_method_10_code 44 = .ok (.lload 6, 2) := by decide +kernel
theorem d_Rea_lock_46 : decode prog_6_method_10_code 46 = .ok (.land, 1) := by decide +kernel
theorem d_Rea_lock_47 : decode prog_6_method_10_code 47 = .ok (.lstore 11, 2) := by decide +kernel
theorem d_Rea_lock_49 : decode prog_6_method_10_code 49 = .ok (.lload 9, 2) := by decide +kernel
theorem d_Rea_lock_51 : decode prog_6_method_10_code 51 = .ok (.lload 11, 2) := by decide +kernel
theorem d_Rea_lock_53 : decode prog_6_method_10_code 53 = .ok (.land, 1) := by decide +kernel
theorem d_Rea_lock_54 : decode prog_6_method_10_code 54 = .ok (.lstore 13, 2) := by decide +kernel
theorem d_Rea_lock_56 : decode prog_6_method_10_code 56 = .ok (.lload 13, 2) := by decide +kernel
theorem d_Rea_lock_58 : decode prog_6_method_10_code 58 = .ok (.lconst 0, 1) := by decide +kernel
theorem d_Rea_lock_59 : decode prog_6_method_10_code 59 = .ok (.lcmp, 1) := by decide +kernel
theorem d_Rea_lock_60 : decode prog_6_method_10_code 60 = .ok (.ifCond .eq 53, 3) := by decide +kernel
theorem d_Rea_lock_63 : decode prog_6_method_10_code 63 = .ok (.lload 9, 2) := by decide +kernel
theorem d_Rea_lock_65 : decode prog_6_method_10_code 65 = .ok (.lload 11, 2) := by decide +kernel
theorem d_Rea_lock_67 : decode prog_6_method_10_code 67 = .ok (.lcmp, 1) := by decide +kernel
theorem d_Rea_lock_68 : decode prog_6_method_10_code 68 = .ok (.ifCond .eq 45, 3) := by decide +kernel
theorem d_Rea_lock_71 : decode prog_6_method_10_code 71 = .ok (.lload 9, 2) := by decide +kernel
theorem d_Rea_lock_73 : decode prog_6_method_10_code 73 = .ok (.lload 13, 2) := by decide +kernel
theorem d_Rea_lock_75 : decode prog_6_method_10_code 75 = .ok (.lcmp, 1) := by decide +kernel
theorem d_Rea_lock_76 : decode prog_6_method_10_code 76 = .ok (.ifCond .eq 11, 3) := by decide +kernel
theorem d_Rea_lock_79 : decode prog_6_method_10_code 79 = .ok (.lload 11, 2) := by decide +kernel
theorem d_Rea_lock_81 : decode prog_6_method_10_code 81 = .ok (.lload 13, 2) := by decide +kernel
theorem d_Rea_lock_83 : decode prog_6_method_10_code 83 = .ok (.lcmp, 1) := by decide +kernel
theorem d_Rea_lock_84 : decode prog_6_method_10_code 84 = .ok (.ifCond .ne 29, 3) := by decide +kernel
theorem d_Rea_lock_87 : decode prog_6_method_10_code 87 = .ok (.aload_n 0, 1) := by decide +kernel
theorem d_Rea_lock_88 : decode prog_6_method_10_code 88 = .ok (.bipush 6, 2) := by decide +kernel
theorem d_Rea_lock_90 : decode prog_6_method_10_code 90 = .ok (.iload_n 2, 1) := by decide +kernel
theorem d_Rea_lock_91 : decode prog_6_method_10_code 91 = .ok (.aload_n 1, 1) := by decide +kernel
theorem d_Rea_lock_92 : decode prog_6_method_10_code 92 = .ok (.iload 8, 2) := by decide +kernel
theorem d_Rea_lock_94 : decode prog_6_method_10_code 94 = .ok (.lload 9, 2) := by decide +kernel
theorem d_Rea_lock_96 : decode prog_6_method_10_code 96 = .ok (.lload 11, 2) := by decide +kernel
theorem d_Rea_lock_98 : decode prog_6_method_10_code 98 = .ok (.lor, 1) := by decide +kernel
theorem d_Rea_lock_99 : decode prog_6_method_10_code 99 = .ok (.lload 13, 2) := by decide +kernel
theorem d_Rea_lock_101 : decode prog_6_method_10_code 101 = .ok (.ldc2_w 75, 3) := by decide +kernel
theorem d_Rea_lock_104 : decode prog_6_method_10_code 104 = .ok (.lxor, 1) := by decide +kernel
theorem d_Rea_lock_105 : decode prog_6_method_10_code 105 = .ok (.land, 1) := by decide +kernel
theorem d_Rea_lock_106 : decode prog_6_method_10_code 106 = .ok (.invokevirtual 95, 3) := by decide +kernel
theorem d_Rea_lock_109 : decode prog_6_method_10_code 109 = .ok (.invokevirtual 18, 3) := by decide +kernel
theorem d_Rea_lock_112 : decode prog_6_method_10_code 112 = .ok (.ireturn, 1) := by decide +kernel
theorem d_Rea_lock_113 : decode prog_6_method_10_code 113 = .ok (.iinc 8 1, 3) := by decide +kernel
theorem d_Rea_lock_116 : decode prog_6_method_10_code 116 = .ok (.goto (-98), 3) := by decide +kernel
theorem d_Rea_lock_119 : decode prog_6_method_10_code 119 = .ok (.iconst 0, 1) := by decide +kernel
theorem d_Rea_lock_120 : decode prog_6_method_10_code 120 = .ok (.ireturn, 1) := by decide +kernel
def b_Rea_lock_87 (F : Nat) (a0 : Nat) (a1 : Nat) (i2 : Int32) (i8 : Int32) (i9 : Int64) (i11 : Int64) (i13 : Int64) (h : PH) : Option (Int32 × PH) :=
  bnd (cK h a1 1) fun _ => bnd2 (f_Pos_remove a1 i8 ((i9 ||| i11) &&& (i13 ^^^ (-1 : Int64))) h) fun x2 h3 => bnd (cK h3 a0 3) fun _ => bnd2 (f_Rea_note a0 (6 : Int32) i2 x2 h3) fun x5 h6 => bnd (cZ x5) fun _ => some (x5, h6)
theorem g_Rea_lock_87 {l : Launch} {E : ET} {d : Nat} (hd : 3 ≤ d) {F : Nat} {r : Int32} {h9 : PH} {x : Nat}  (a0 : Nat) (a1 : Nat) (i2 : Int32) (i8 : Int32) (i9 : Int64) (i11 : Int64) (i13 : Int64) (h : PH) (hf : b_Rea_lock_87 F a0 a1 i2 i8 i9 i11 i13 h = some (r, h9)) : Go l E m_Rea_lock (rm d 0 0) (KM E 0 0 (PoE (some (.int r)) h9 x)) 0 0 h x 87 [(0, .ref a0), (1, .ref a1), (2, .int i2), (8, .int i8), (9, .long i9), (11, .long i11), (13, .long i13)] [] := by
  unfold b_Rea_lock_87 at hf
  refine go_aload_n 0 d_Rea_lock_87 rfl ?_
  refine go_bipush (6 : Int32) d_Rea_lock_88 (by decide) ?_
  refine go_iload_n 2 d_Rea_lock_90 rfl ?_
  refine go_aload_n 1 d_Rea_lock_91 rfl ?_
  refine go_iload 3 d_Rea_lock_92 rfl ?_
  refine go_lload 4 d_Rea_lock_94 rfl ?_
  refine go_lload 5 d_Rea_lock_96 rfl ?_
  refine go_lor d_Rea_lock_98 ?_
  refine go_lload 6 d_Rea_lock_99 rfl ?_
  refine go_ldc2 (-1 : Int64) d_Rea_lock_101 kl_Rea_75 ?_
  refine go_lxor d_Rea_lock_104 ?_
  refine go_land d_Rea_lock_105 ?_
  obtain ⟨_, e1, hf⟩ := bnd_x hf
  obtain ⟨x2, h3, e_x2, hf⟩ := bnd2_x hf
  refine go_callV_I (As := [.int i8, .long ((i9 ||| i11) &&& (i13 ^^^ (-1 : Int64)))]) (st := [.int i2, .int (6 : Int32), .ref a0]) (c_Pos_remove (d := d - 1) (by omega) e_x2) lk_Rea_95 rfl rfl e1 (by decide) rfl (rm_ok (by omega)) (Nat.le_of_ble_eq_true rfl) rm_c d_Rea_lock_106 ?_
  obtain ⟨_, e4, hf⟩ := bnd_x hf
  obtain ⟨x5, h6, e_x5, hf⟩ := bnd2_x hf
  refine go_callV_I (As := [.int (6 : Int32), .int i2, .int x2]) (st := []) (c_Rea_note (d := d - 1) (by omega) e_x5) lk_Rea_18 rfl rfl e4 (by decide) rfl (rm_ok (by omega)) (Nat.le_of_ble_eq_true rfl) rm_c d_Rea_lock_109 ?_
  obtain ⟨_, e7, hf⟩ := bnd_x hf
  obtain ⟨e8, e9⟩ := Prod.mk.inj (Option.some.inj hf)
  subst e8; subst e9
  exact go_zret d_Rea_lock_112 e7 rfl ⟨rfl, rfl, rfl⟩
def b_Rea_lock_113 (F : Nat) (k18 : Nat → Nat → Int32 → Int64 → Int64 → Int32 → PH → Option (Int32 × PH)) (a0 : Nat) (a1 : Nat) (i2 : Int32) (i4 : Int64) (i6 : Int64) (i8 : Int32) (h : PH) : Option (Int32 × PH) :=
  k18 a0 a1 i2 i4 i6 (i8 + (1 : Int32)) h
theorem g_Rea_lock_113 {l : Launch} {E : ET} {d : Nat} (hd : 3 ≤ d) {F : Nat} {r : Int32} {h9 : PH} {x : Nat} {k18 : Nat → Nat → Int32 → Int64 → Int64 → Int32 → PH → Option (Int32 × PH)} (hk18 : ∀ (a0 : Nat) (a1 : Nat) (i2 : Int32) (i4 : Int64) (i6 : Int64) (i8 : Int32) (hh : PH), k18 a0 a1 i2 i4 i6 i8 hh = some (r, h9) → Go l E m_Rea_lock (rm d 0 0) (KM E 0 0 (PoE (some (.int r)) h9 x)) 0 0 hh x 18 [(0, .ref a0), (1, .ref a1), (2, .int i2), (4, .long i4), (6, .long i6), (8, .int i8)] []) (a0 : Nat) (a1 : Nat) (i2 : Int32) (i4 : Int64) (i6 : Int64) (i8 : Int32) (h : PH) (hf : b_Rea_lock_113 F k18 a0 a1 i2 i4 i6 i8 h = some (r, h9)) : Go l E m_Rea_lock (rm d 0 0) (KM E 0 0 (PoE (some (.int r)) h9 x)) 0 0 h x 113 [(0, .ref a0), (1, .ref a1), (2, .int i2), (4, .long i4), (6, .long i6), (8, .int i8)] [] := by
  unfold b_Rea_lock_113 at hf
  refine go_iinc (lv' := [(8, .int (i8 + (1 : Int32))), (0, .ref a0), (1, .ref a1), (2, .int i2), (4, .long i4), (6, .long i6)]) 5 (i8 + (1 : Int32)) d_Rea_lock_113 rfl rfl rfl (by decide) ?_
  refine go_goto 18 d_Rea_lock_116 (by decide) ?_
  refine go_sub (lv' := [(0, .ref a0), (1, .ref a1), (2, .int i2), (4, .long i4), (6, .long i6), (8, .int (i8 + (1 : Int32)))]) [1, 2, 3, 4, 5, 0] rfl ?_
  exact hk18 a0 a1 i2 i4 i6 (i8 + (1 : Int32)) h hf
def b_Rea_lock_18 (F : Nat) (k18 : Nat → Nat → Int32 → Int64 → Int64 → Int32 → PH → Option (Int32 × PH)) (a0 : Nat) (a1 : Nat) (i2 : Int32) (i4 : Int64) (i6 : Int64) (i8 : Int32) (h : PH) : Option (Int32 × PH) :=
  (if (6 : Int32) < i8 then some ((0 : Int32), h) else bnd (gR h a1 1 0) fun x1 => bnd (aL h x1 i8) fun x2 => bnd (gR h a1 1 0) fun x3 => bnd (aL h x3 i8) fun x4 => bnd (some ((x2 &&& i4) &&& (x4 &&& i6))) fun y5 => (if (lg_cmp y5 (0 : Int64)) = (0 : Int32) then b_Rea_lock_113 F k18 a0 a1 i2 i4 i6 i8 h else (if (lg_cmp (x2 &&& i4) (x4 &&& i6)) = (0 : Int32) then b_Rea_lock_113 F k18 a0 a1 i2 i4 i6 i8 h else (if (lg_cmp (x2 &&& i4) y5) = (0 : Int32) then b_Rea_lock_87 F a0 a1 i2 i8 (x2 &&& i4) (x4 &&& i6) y5 h else (if (lg_cmp (x4 &&& i6) y5) = (0 : Int32) then b_Rea_lock_87 F a0 a1 i2 i8 (x2 &&& i4) (x4 &&& i6) y5 h else b_Rea_lock_113 F k18 a0 a1 i2 i4 i6 i8 h)))))
def f_Rea_lock_18 (F : Nat) : Nat → Nat → Nat → Int32 → Int64 → Int64 → Int32 → PH → Option (Int32 × PH)
  | 0 => fun _ _ _ _ _ _ _ => none
  | n + 1 => b_Rea_lock_18 F (f_Rea_lock_18 F n)
theorem g_Rea_lock_18 {l : Launch} {E : ET} {d : Nat} (hd : 3 ≤ d) {F : Nat} {r : Int32} {h9 : PH} {x : Nat} {k18 : Nat → Nat → Int32 → Int64 → Int64 → Int32 → PH → Option (Int32 × PH)} (hk18 : ∀ (a0 : Nat) (a1 : Nat) (i2 : Int32) (i4 : Int64) (i6 : Int64) (i8 : Int32) (hh : PH), k18 a0 a1 i2 i4 i6 i8 hh = some (r, h9) → Go l E m_Rea_lock (rm d 0 0) (KM E 0 0 (PoE (some (.int r)) h9 x)) 0 0 hh x 18 [(0, .ref a0), (1, .ref a1), (2, .int i2), (4, .long i4), (6, .long i6), (8, .int i8)] []) (a0 : Nat) (a1 : Nat) (i2 : Int32) (i4 : Int64) (i6 : Int64) (i8 : Int32) (h : PH) (hf : b_Rea_lock_18 F k18 a0 a1 i2 i4 i6 i8 h = some (r, h9)) : Go l E m_Rea_lock (rm d 0 0) (KM E 0 0 (PoE (some (.int r)) h9 x)) 0 0 h x 18 [(0, .ref a0), (1, .ref a1), (2, .int i2), (4, .long i4), (6, .long i6), (8, .int i8)] [] := by
  unfold b_Rea_lock_18 at hf
  refine go_iload 5 d_Rea_lock_18 rfl ?_
  refine go_bipush (6 : Int32) d_Rea_lock_20 (by decide) ?_
  refine go_icmp_gt 119 d_Rea_lock_22 (by decide) (fun q10 => ?_) (fun q10 => ?_)
  · rw [if_pos q10] at hf
    refine go_iconst (0 : Int32) d_Rea_lock_119 (by decide) ?_
    obtain ⟨e8, e9⟩ := Prod.mk.inj (Option.some.inj hf)
    subst e8; subst e9
    exact go_zret d_Rea_lock_120 rfl rfl ⟨rfl, rfl, rfl⟩
  · rw [if_neg q10] at hf
    refine go_aload_n 1 d_Rea_lock_25 rfl ?_
    obtain ⟨x1, e_x1, hf⟩ := bnd_x hf
    refine go_get d_Rea_lock_26 (gR_x e_x1) fl_Rea_69 ?_
    refine go_iload 5 d_Rea_lock_29 rfl ?_
    obtain ⟨x2, e_x2, hf⟩ := bnd_x hf
    refine go_laload d_Rea_lock_31 e_x2 ?_
    refine go_lload 3 d_Rea_lock_32 rfl ?_
    refine go_land d_Rea_lock_34 ?_
    refine go_lstore (lv' := [(9, .long (x2 &&& i4)), (0, .ref a0), (1, .ref a1), (2, .int i2), (4, .long i4), (6, .long i6), (8, .int i8)]) d_Rea_lock_35 rfl (by decide) ?_
    refine go_aload_n 2 d_Rea_lock_37 rfl ?_
    obtain ⟨x3, e_x3, hf⟩ := bnd_x hf
    refine go_get d_Rea_lock_38 (gR_x e_x3) fl_Rea_69 ?_
    refine go_iload 6 d_Rea_lock_41 rfl ?_
    obtain ⟨x4, e_x4, hf⟩ := bnd_x hf
    refine go_laload d_Rea_lock_43 e_x4 ?_
    refine go_lload 5 d_Rea_lock_44 rfl ?_
    refine go_land d_Rea_lock_46 ?_
    refine go_lstore (lv' := [(11, .long (x4 &&& i6)), (9, .long (x2 &&& i4)), (0, .ref a0), (1, .ref a1), (2, .int i2), (4, .long i4), (6, .long i6), (8, .int i8)]) d_Rea_lock_47 rfl (by decide) ?_
    refine go_lload 1 d_Rea_lock_49 rfl ?_
    refine go_lload 0 d_Rea_lock_51 rfl ?_
    refine go_land d_Rea_lock_53 ?_
    obtain ⟨y5, e_y5, hf⟩ := bnd_x hf
    refine go_nmL e_y5 ?_
    refine go_lstore (lv' := [(13, .long y5), (11, .long (x4 &&& i6)), (9, .long (x2 &&& i4)), (0, .ref a0), (1, .ref a1), (2, .int i2), (4, .long i4), (6, .long i6), (8, .int i8)]) d_Rea_lock_54 rfl (by decide) ?_
    refine go_lload 0 d_Rea_lock_56 rfl ?_
    refine go_lconst (0 : Int64) d_Rea_lock_58 (by decide) ?_
    refine go_lcmp d_Rea_lock_59 ?_
    refine go_if_eq 113 d_Rea_lock_60 (by decide) (fun q9 => ?_) (fun q9 => ?_)
    · rw [if_pos q9] at hf
      refine go_sub (lv' := [(0, .ref a0), (1, .ref a1), (2, .int i2), (4, .long i4), (6, .long i6), (8, .int i8)]) [3, 4, 5, 6, 7, 8] rfl ?_
      exact g_Rea_lock_113 hd hk18 a0 a1 i2 i4 i6 i8 h hf
    · rw [if_neg q9] at hf
      refine go_lload 2 d_Rea_lock_63 rfl ?_
      refine go_lload 1 d_Rea_lock_65 rfl ?_
      refine go_lcmp d_Rea_lock_67 ?_
      refine go_if_eq 113 d_Rea_lock_68 (by decide) (fun q8 => ?_) (fun q8 => ?_)
      · rw [if_pos q8] at hf
        refine go_sub (lv' := [(0, .ref a0), (1, .ref a1), (2, .int i2), (4, .long i4), (6, .long i6), (8, .int i8)]) [3, 4, 5, 6, 7, 8] rfl ?_
        exact g_Rea_lock_113 hd hk18 a0 a1 i2 i4 i6 i8 h hf
      · rw [if_neg q8] at hf
        refine go_lload 2 d_Rea_lock_71 rfl ?_
        refine go_lload 0 d_Rea_lock_73 rfl ?_
        refine go_lcmp d_Rea_lock_75 ?_
        refine go_if_eq 87 d_Rea_lock_76 (by decide) (fun q7 => ?_) (fun q7 => ?_)
        · rw [if_pos q7] at hf
          refine go_sub (lv' := [(0, .ref a0), (1, .ref a1), (2, .int i2), (8, .int i8), (9, .long (x2 &&& i4)), (11, .long (x4 &&& i6)), (13, .long y5)]) [3, 4, 5, 8, 2, 1, 0] rfl ?_
          exact g_Rea_lock_87 hd  a0 a1 i2 i8 (x2 &&& i4) (x4 &&& i6) y5 h hf
        · rw [if_neg q7] at hf
          refine go_lload 1 d_Rea_lock_79 rfl ?_
          refine go_lload 0 d_Rea_lock_81 rfl ?_
          refine go_lcmp d_Rea_lock_83 ?_
          refine go_if_ne 113 d_Rea_lock_84 (by decide) (fun q6 => ?_) (fun q6 => ?_)
          · rw [if_neg q6] at hf
            refine go_sub (lv' := [(0, .ref a0), (1, .ref a1), (2, .int i2), (4, .long i4), (6, .long i6), (8, .int i8)]) [3, 4, 5, 6, 7, 8] rfl ?_
            exact g_Rea_lock_113 hd hk18 a0 a1 i2 i4 i6 i8 h hf
          · rw [if_pos q6] at hf
            refine go_sub (lv' := [(0, .ref a0), (1, .ref a1), (2, .int i2), (8, .int i8), (9, .long (x2 &&& i4)), (11, .long (x4 &&& i6)), (13, .long y5)]) [3, 4, 5, 8, 2, 1, 0] rfl ?_
            exact g_Rea_lock_87 hd  a0 a1 i2 i8 (x2 &&& i4) (x4 &&& i6) y5 h hf
theorem t_Rea_lock_18 {l : Launch} {E : ET} {d : Nat} (hd : 3 ≤ d) {F : Nat} {r : Int32} {h9 : PH} {x : Nat}  : ∀ (n : Nat) (a0 : Nat) (a1 : Nat) (i2 : Int32) (i4 : Int64) (i6 : Int64) (i8 : Int32) (hh : PH), f_Rea_lock_18 F n a0 a1 i2 i4 i6 i8 hh = some (r, h9) → Go l E m_Rea_lock (rm d 0 0) (KM E 0 0 (PoE (some (.int r)) h9 x)) 0 0 hh x 18 [(0, .ref a0), (1, .ref a1), (2, .int i2), (4, .long i4), (6, .long i6), (8, .int i8)] [] := by
  intro n
  induction n with
  | zero => intro v0 v1 v2 v3 v4 v5 v6 hf; cases hf
  | succ n ih => intro v0 v1 v2 v3 v4 v5 v6 hf; exact g_Rea_lock_18 hd ih v0 v1 v2 v3 v4 v5 v6 hf
def f_Rea_lock (F : Nat) (a0 : Nat) (a1 : Nat) (i2 : Int32) (i3 : Int32) (h : PH) : Option (Int32 × PH) :=
  bnd (f_Grd_unit ((12 : Int32) + i2)) fun x1 => bnd (f_Grd_unit i3) fun x2 => f_Rea_lock_18 F F a0 a1 i2 x1 x2 (1 : Int32) h
theorem g_Rea_lock_0 {l : Launch} {E : ET} {d : Nat} (hd : 3 ≤ d) {F : Nat} {r : Int32} {h9 : PH} {x : Nat}  (a0 : Nat) (a1 : Nat) (i2 : Int32) (i3 : Int32) (h : PH) (hf : f_Rea_lock F a0 a1 i2 i3 h = some (r, h9)) : Go l E m_Rea_lock (rm d 0 0) (KM E 0 0 (PoE (some (.int r)) h9 x)) 0 0 h x 0 [(0, .ref a0), (1, .ref a1), (2, .int i2), (3, .int i3)] [] := by
  unfold f_Rea_lock at hf
  refine go_bipush (12 : Int32) d_Rea_lock_0 (by decide) ?_
  refine go_iload_n 2 d_Rea_lock_2 rfl ?_
  refine go_iadd d_Rea_lock_3 ?_
  obtain ⟨x1, e_x1, hf⟩ := bnd_x hf
  refine go_callS_L (As := [.int ((12 : Int32) + i2)]) (st := []) (c_Grd_unit (d := d - 1) (by omega) e_x1) lk_Rea_99 rfl rfl (rm_ok (by omega)) (Nat.le_of_ble_eq_true rfl) rm_c d_Rea_lock_4 ?_
  refine go_lstore (lv' := [(4, .long x1), (0, .ref a0), (1, .ref a1), (2, .int i2), (3, .int i3)]) d_Rea_lock_7 rfl (by decide) ?_
  refine go_iload_n 4 d_Rea_lock_9 rfl ?_
  obtain ⟨x2, e_x2, hf⟩ := bnd_x hf
  refine go_callS_L (As := [.int i3]) (st := []) (c_Grd_unit (d := d - 1) (by omega) e_x2) lk_Rea_99 rfl rfl (rm_ok (by omega)) (Nat.le_of_ble_eq_true rfl) rm_c d_Rea_lock_10 ?_
  refine go_lstore (lv' := [(6, .long x2), (4, .long x1), (0, .ref a0), (1, .ref a1), (2, .int i2), (3, .int i3)]) d_Rea_lock_13 rfl (by decide) ?_
  refine go_iconst (1 : Int32) d_Rea_lock_15 (by decide) ?_
  refine go_istore (lv' := [(8, .int (1 : Int32)), (6, .long x2), (4, .long x1), (0, .ref a0), (1, .ref a1), (2, .int i2), (3, .int i3)]) d_Rea_lock_16 rfl (by decide) ?_
  refine go_sub (lv' := [(0, .ref a0), (1, .ref a1), (2, .int i2), (4, .long x1), (6, .long x2), (8, .int (1 : Int32))]) [3, 4, 5, 2, 1, 0] rfl ?_
  exact t_Rea_lock_18 hd  _ a0 a1 i2 x1 x2 (1 : Int32) h hf
theorem c_Rea_lock {l : Launch} {E : ET} {d : Nat} (hd : 3 ≤ d) {F : Nat} {r : Int32} {h9 : PH} {x : Nat} {a0 : Nat} {a1 : Nat} {i2 : Int32} {i3 : Int32} {h : PH} (hf : f_Rea_lock F a0 a1 i2 i3 h = some (r, h9)) : Fn l E m_Rea_lock d 0 0 [.ref a0, .ref a1, .int i2, .int i3] h x (PoE (some (.int r)) h9 x) :=
  Fn.of (by decide +kernel) (Nat.le_of_ble_eq_true rfl) (g_Rea_lock_0 hd a0 a1 i2 i3 h hf)
theorem d_Rea_lockAnywhere_0 : decode prog_6_method_9_code 0 = .ok (.iconst 0, 1) := by decide +kernel
theorem d_Rea_lockAnywhere_1 : decode prog_6_method_9_code 1 = .ok (.istore_n 2, 1) := by decide +kernel
theorem d_Rea_lockAnywhere_2 : decode prog_6_method_9_code 2 = .ok (.iload_n 2, 1) := by decide +kernel
theorem d_Rea_lockAnywhere_3 : decode prog_6_method_9_code 3 = .ok (.bipush 6, 2) := by decide +kernel
theorem d_Rea_lockAnywhere_5 : decode prog_6_method_9_code 5 = .ok (.if_icmp .ge 86, 3) := by decide +kernel
theorem d_Rea_lockAnywhere_8 : decode prog_6_method_9_code 8 = .ok (.iload_n 2, 1) := by decide +kernel
theorem d_Rea_lockAnywhere_9 : decode prog_6_method_9_code 9 = .ok (.iconst 2, 1) := by decide +kernel
theorem d_Rea_lockAnywhere_10 : decode prog_6_method_9_code 10 = .ok (.idiv, 1) := by decide +kernel
theorem d_Rea_lockAnywhere_11 : decode prog_6_method_9_code 11 = .ok (.iconst 2, 1) := by decide +kernel
theorem d_Rea_lockAnywhere_12 : decode prog_6_method_9_code 12 = .ok (.imul, 1) := by decide +kernel
theorem d_Rea_lockAnywhere_13 : decode prog_6_method_9_code 13 = .ok (.istore_n 3, 1) := by decide +kernel
theorem d_Rea_lockAnywhere_14 : decode prog_6_method_9_code 14 = .ok (.bipush 6, 2) := by decide +kernel
theorem d_Rea_lockAnywhere_16 : decode prog_6_method_9_code 16 = .ok (.iload_n 2, 1) := by decide +kernel
theorem d_Rea_lockAnywhere_17 : decode prog_6_method_9_code 17 = .ok (.iconst 2, 1) := by decide +kernel
theorem d_Rea_lockAnywhere_18 : decode prog_6_method_9_code 18 = .ok (.irem, 1) := by decide +kernel
theorem d_Rea_lockAnywhere_19 : decode prog_6_method_9_code 19 = .ok (.iconst 3, 1) := by decide +kernel
theorem d_Rea_lockAnywhere_20 : decode prog_6_method_9_code 20 = .ok (.imul, 1) := by decide +kernel
theorem d_Rea_lockAnywhere_21 : decode prog_6_method_9_code 21 = .ok (.iadd, 1) := by decide +kernel
theorem d_Rea_lockAnywhere_22 : decode prog_6_method_9_code 22 = .ok (.istore 4, 2) := by decide +kernel
theorem d_Rea_lockAnywhere_24 : decode prog_6_method_9_code 24 = .ok (.aload_n 0, 1) := by decide +kernel
theorem d_Rea_lockAnywhere_25 : decode prog_6_method_9_code 25 = .ok (.aload_n 1, 1) := by decide +kernel
theorem d_Rea_lockAnywhere_26 : decode prog_6_method_9_code 26 = .ok (.iload_n 2, 1) := by decide +kernel
theorem d_Rea_lockAnywhere_27 : decode prog_6_method_9_code 27 = .ok (.iload_n 3, 1) := by decide +kernel
theorem d_Rea_lockAnywhere_28 : decode prog_6_method_9_code 28 = .ok (.invokevirtual 131, 3) := by decide +kernel
theorem d_Rea_lockAnywhere_31 : decode prog_6_method_9_code 31 = .ok (.ifCond .ne 52, 3) := by decide +kernel
theorem d_Rea_lockAnywhere_34 : decode prog_6_method_9_code 34 = .ok (.aload_n 0, 1) := by decide +kernel
theorem d_Rea_lockAnywhere_35 : decode prog_6_method_9_code 35 = .ok (.aload_n 1, 1) := by decide +kernel
theorem d_Rea_lockAnywhere_36 : decode prog_6_method_9_code 36 = .ok (.iload_n 2, 1) := by decide +kernel
theorem d_Rea_lockAnywhere_37 : decode prog_6_method_9_code 37 = .ok (.iload_n 3, 1) := by decide +kernel
theorem d_Rea_lockAnywhere_38 : decode prog_6_method_9_code 38 = .ok (.iconst 1, 1) := by decide +kernel
theorem d_Rea_lockAnywhere_39 : decode prog_6_method_9_code 39 = .ok (.iadd, 1) := by decide +kernel
theorem d_Rea_lockAnywhere_40 : decode prog_6_method_9_code 40 = .ok (.invokevirtual 131, 3) := by decide +kernel
theorem d_Rea_lockAnywhere_43 : decode prog_6_method_9_code 43 = .ok (.ifCond .ne 40, 3) := by decide +kernel
theorem d_Rea_lockAnywhere_46 : decode prog_6_method_9_code 46 = .ok (.aload_n 0, 1) := by decide +kernel
theorem d_Rea_lockAnywhere_47 : decode prog_6_method_9_code 47 = .ok (.aload_n 1, 1) := by decide +kernel
theorem d_Rea_lockAnywhere_48 : decode prog_6_method_9_code 48 = .ok (.iload_n 2, 1) := by decide +kernel
theorem d_Rea_lockAnywhere_49 : decode prog_6_method_9_code 49 = .ok (.iload 4, 2) := by decide +kernel
theorem d_Rea_lockAnywhere_51 : decode prog_6_method_9_code 51 = .ok (.invokevirtual 131, 3) := by decide +kernel
theorem d_Rea_lockAnywhere_54 : decode prog_6_method_9_code 54 = .ok (.ifCond .ne 29, 3) := by decide +kernel
theorem d_Rea_lockAnywhere_57 : decode prog_6_method_9_code 57 = .ok (.aload_n 0, 1) := by decide +kernel
theorem d_Rea_lockAnywhere_58 : decode prog_6_method_9_code 58 = .ok (.aload_n 1, 1) := by decide +kernel
theorem d_Rea_lockAnywhere_59 : decode prog_6_method_9_code 59 = .ok (.iload_n 2, 1) := by decide +kernel
theorem d_Rea_lockAnywhere_60 : decode prog_6_method_9_code 60 = .ok (.iload 4, 2) := by decide +kernel
theorem d_Rea_lockAnywhere_62 : decode prog_6_method_9_code 62 = .ok (.iconst 1, 1) := by decide +kernel
theorem d_Rea_lockAnywhere_63 : decode prog_6_method_9_code 63 = .ok (.iadd, 1) := by decide +kernel
theorem d_Rea_lockAnywhere_64 : decode prog_6_method_9_code 64 = .ok (.invokevirtual 131, 3) := by decide +kernel
theorem d_Rea_lockAnywhere_67 : decode prog_6_method_9_code 67 = .ok (.ifCond .ne 16, 3) := by decide +kernel
theorem d_Rea_lockAnywhere_70 : decode prog_6_method_9_code 70 = .ok (.aload_n 0, 1) := by decide +kernel
theorem d_Rea_lockAnywhere_71 : decode prog_6_method_9_code 71 = .ok (.aload_n 1, 1) := by decide +kernel
theorem d_Rea_lockAnywhere_72 : decode prog_6_method_9_code 72 = .ok (.iload_n 2, 1) := by decide +kernel
theorem d_Rea_lockAnywhere_73 : decode prog_6_method_9_code 73 = .ok (.iload 4, 2) := by decide +kernel
theorem d_Rea_lockAnywhere_75 : decode prog_6_method_9_code 75 = .ok (.iconst 2, 1) := by decide +kernel
theorem d_Rea_lockAnywhere_76 : decode prog_6_method_9_code 76 = .ok (.iadd, 1) := by decide +kernel
theorem d_Rea_lockAnywhere_77 : decode prog_6_method_9_code 77 = .ok (.invokevirtual 131, 3) := by decide +kernel
theorem d_Rea_lockAnywhere_80 : decode prog_6_method_9_code 80 = .ok (.ifCond .eq 5, 3) := by decide +kernel
theorem d_Rea_lockAnywhere_83 : decode prog_6_method_9_code 83 = .ok (.iconst 1, 1) := by decide +kernel
theorem d_Rea_lockAnywhere_84 : decode prog_6_method_9_code 84 = .ok (.ireturn, 1) := by decide +kernel
theorem d_Rea_lockAnywhere_85 : decode prog_6_method_9_code 85 = .ok (.iinc 2 1, 3) := by decide +kernel
theorem d_Rea_lockAnywhere_88 : decode prog_6_method_9_code 88 = .ok (.goto (-86), 3) := by decide +kernel
theorem d_Rea_lockAnywhere_91 : decode prog_6_method_9_code 91 = .ok (.iconst 0, 1) := by decide +kernel
theorem d_Rea_lockAnywhere_92 : decode prog_6_method_9_code 92 = .ok (.ireturn, 1) := by decide +kernel
def b_Rea_lockAnywhere_2 (F : Nat) (k2 : Nat → Nat → Int32 → PH → Option (Int32 × PH)) (a0 : Nat) (a1 : Nat) (i2 : Int32) (h : PH) : Option (Int32 × PH) :=
  (if (6 : Int32) ≤ i2 then some ((0 : Int32), h) else bnd (some ((i2 / (2 : Int32)) * (2 : Int32))) fun y1 => bnd (some ((6 : Int32) + ((i2 - i2 / (2 : Int32) * (2 : Int32)) * (3 : Int32)))) fun y2 => bnd (cK h a0 3) fun _ => bnd2 (f_Rea_lock F a0 a1 i2 y1 h) fun x4 h5 => (if x4 = (0 : Int32) then bnd (cK h5 a0 3) fun _ => bnd2 (f_Rea_lock F a0 a1 i2 (y1 + (1 : Int32)) h5) fun x7 h8 => (if x7 = (0 : Int32) then bnd (cK h8 a0 3) fun _ => bnd2 (f_Rea_lock F a0 a1 i2 y2 h8) fun x10 h11 => (if x10 = (0 : Int32) then bnd (cK h11 a0 3) fun _ => bnd2 (f_Rea_lock F a0 a1 i2 (y2 + (1 : Int32)) h11) fun x13 h14 => (if x13 = (0 : Int32) then bnd (cK h14 a0 3) fun _ => bnd2 (f_Rea_lock F a0 a1 i2 (y2 + (2 : Int32)) h14) fun x16 h17 => (if x16 = (0 : Int32) then k2 a0 a1 (i2 + (1 : Int32)) h17 else some ((1 : Int32), h17)) else some ((1 : Int32), h14)) else some ((1 : Int32), h11)) else some ((1 : Int32), h8)) else some ((1 : Int32), h5)))
def f_Rea_lockAnywhere_2 (F : Nat) : Nat → Nat → Nat → Int32 → PH → Option (Int32 × PH)
  | 0 => fun _ _ _ _ => none
  | n + 1 => b_Rea_lockAnywhere_2 F (f_Rea_lockAnywhere_2 F n)
theorem g_Rea_lockAnywhere_2 {l : Launch} {E : ET} {d : Nat} (hd : 4 ≤ d) {F : Nat} {r : Int32} {h9 : PH} {x : Nat} {k2 : Nat → Nat → Int32 → PH → Option (Int32 × PH)} (hk2 : ∀ (a0 : Nat) (a1 : Nat) (i2 : Int32) (hh : PH), k2 a0 a1 i2 hh = some (r, h9) → Go l E m_Rea_lockAnywhere (rm d 0 0) (KM E 0 0 (PoE (some (.int r)) h9 x)) 0 0 hh x 2 [(0, .ref a0), (1, .ref a1), (2, .int i2)] []) (a0 : Nat) (a1 : Nat) (i2 : Int32) (h : PH) (hf : b_Rea_lockAnywhere_2 F k2 a0 a1 i2 h = some (r, h9)) : Go l E m_Rea_lockAnywhere (rm d 0 0) (KM E 0 0 (PoE (some (.int r)) h9 x)) 0 0 h x 2 [(0, .ref a0), (1, .ref a1), (2, .int i2)] [] := by
  unfold b_Rea_lockAnywhere_2 at hf
  refine go_iload_n 2 d_Rea_lockAnywhere_2 rfl ?_
  refine go_bipush (6 : Int32) d_Rea_lockAnywhere_3 (by decide) ?_
  refine go_icmp_ge 91 d_Rea_lockAnywhere_5 (by decide) (fun q23 => ?_) (fun q23 => ?_)
  · rw [if_pos q23] at hf
    refine go_iconst (0 : Int32) d_Rea_lockAnywhere_91 (by decide) ?_
    obtain ⟨e8, e9⟩ := Prod.mk.inj (Option.some.inj hf)
    subst e8; subst e9
    exact go_zret d_Rea_lockAnywhere_92 rfl rfl ⟨rfl, rfl, rfl⟩
  · rw [if_neg q23] at hf
    refine go_iload_n 2 d_Rea_lockAnywhere_8 rfl ?_
    refine go_iconst (2 : Int32) d_Rea_lockAnywhere_9 (by decide) ?_
    refine go_idiv d_Rea_lockAnywhere_10 (by decide) ?_
    refine go_iconst (2 : Int32) d_Rea_lockAnywhere_11 (by decide) ?_
    refine go_imul d_Rea_lockAnywhere_12 ?_
    obtain ⟨y1, e_y1, hf⟩ := bnd_x hf
    refine go_nmI e_y1 ?_
    refine go_istore_n (lv' := [(3, .int y1), (0, .ref a0), (1, .ref a1), (2, .int i2)]) d_Rea_lockAnywhere_13 rfl (by decide) ?_
    refine go_bipush (6 : Int32) d_Rea_lockAnywhere_14 (by decide) ?_
    refine go_iload_n 3 d_Rea_lockAnywhere_16 rfl ?_
    refine go_iconst (2 : Int32) d_Rea_lockAnywhere_17 (by decide) ?_
    refine go_irem d_Rea_lockAnywhere_18 (by decide) ?_
    refine go_iconst (3 : Int32) d_Rea_lockAnywhere_19 (by decide) ?_
    refine go_imul d_Rea_lockAnywhere_20 ?_
    refine go_iadd d_Rea_lockAnywhere_21 ?_
    obtain ⟨y2, e_y2, hf⟩ := bnd_x hf
    refine go_nmI e_y2 ?_
    refine go_istore (lv' := [(4, .int y2), (3, .int y1), (0, .ref a0), (1, .ref a1), (2, .int i2)]) d_Rea_lockAnywhere_22 rfl (by decide) ?_
    refine go_aload_n 2 d_Rea_lockAnywhere_24 rfl ?_
    refine go_aload_n 3 d_Rea_lockAnywhere_25 rfl ?_
    refine go_iload_n 4 d_Rea_lockAnywhere_26 rfl ?_
    refine go_iload_n 1 d_Rea_lockAnywhere_27 rfl ?_
    obtain ⟨_, e3, hf⟩ := bnd_x hf
    obtain ⟨x4, h5, e_x4, hf⟩ := bnd2_x hf
    refine go_callV_I (As := [.ref a1, .int i2, .int y1]) (st := []) (c_Rea_lock (d := d - 1) (by omega) e_x4) lk_Rea_131 rfl rfl e3 (by decide) rfl (rm_ok (by omega)) (Nat.le_of_ble_eq_true rfl) rm_c d_Rea_lockAnywhere_28 ?_
    refine go_if_ne 83 d_Rea_lockAnywhere_31 (by decide) (fun q22 => ?_) (fun q22 => ?_)
    · rw [if_neg q22] at hf
      refine go_iconst (1 : Int32) d_Rea_lockAnywhere_83 (by decide) ?_
      obtain ⟨e8, e9⟩ := Prod.mk.inj (Option.some.inj hf)
      subst e8; subst e9
      exact go_zret d_Rea_lockAnywhere_84 rfl rfl ⟨rfl, rfl, rfl⟩
    · rw [if_pos q22] at hf
      refine go_aload_n 2 d_Rea_lockAnywhere_34 rfl ?_
      refine go_aload_n 3 d_Rea_lockAnywhere_35 rfl ?_
      refine go_iload_n 4 d_Rea_lockAnywhere_36 rfl ?_
      refine go_iload_n 1 d_Rea_lockAnywhere_37 rfl ?_
      refine go_iconst (1 : Int32) d_Rea_lockAnywhere_38 (by decide) ?_
      refine go_iadd d_Rea_lockAnywhere_39 ?_
      obtain ⟨_, e6, hf⟩ := bnd_x hf
      obtain ⟨x7, h8, e_x7, hf⟩ := bnd2_x hf
      refine go_callV_I (As := [.ref a1, .int i2, .int (y1 + (1 : Int32))]) (st := []) (c_Rea_lock (d := d - 1) (by omega) e_x7) lk_Rea_131 rfl rfl e6 (by decide) rfl (rm_ok (by omega)) (Nat.le_of_ble_eq_true rfl) rm_c d_Rea_lockAnywhere_40 ?_
      refine go_if_ne 83 d_Rea_lockAnywhere_43 (by decide) (fun q21 => ?_) (fun q21 => ?_)
      · rw [if_neg q21] at hf
        refine go_iconst (1 : Int32) d_Rea_lockAnywhere_83 (by decide) ?_
        obtain ⟨e8, e9⟩ := Prod.mk.inj (Option.some.inj hf)
        subst e8; subst e9
        exact go_zret d_Rea_lockAnywhere_84 rfl rfl ⟨rfl, rfl, rfl⟩
      · rw [if_pos q21] at hf
        refine go_aload_n 2 d_Rea_lockAnywhere_46 rfl ?_
        refine go_aload_n 3 d_Rea_lockAnywhere_47 rfl ?_
        refine go_iload_n 4 d_Rea_lockAnywhere_48 rfl ?_
        refine go_iload 0 d_Rea_lockAnywhere_49 rfl ?_
        obtain ⟨_, e9, hf⟩ := bnd_x hf
        obtain ⟨x10, h11, e_x10, hf⟩ := bnd2_x hf
        refine go_callV_I (As := [.ref a1, .int i2, .int y2]) (st := []) (c_Rea_lock (d := d - 1) (by omega) e_x10) lk_Rea_131 rfl rfl e9 (by decide) rfl (rm_ok (by omega)) (Nat.le_of_ble_eq_true rfl) rm_c d_Rea_lockAnywhere_51 ?_
        refine go_if_ne 83 d_Rea_lockAnywhere_54 (by decide) (fun q20 => ?_) (fun q20 => ?_)
        · rw [if_neg q20] at hf
          refine go_iconst (1 : Int32) d_Rea_lockAnywhere_83 (by decide) ?_
          obtain ⟨e8, e9⟩ := Prod.mk.inj (Option.some.inj hf)
          subst e8; subst e9
          exact go_zret d_Rea_lockAnywhere_84 rfl rfl ⟨rfl, rfl, rfl⟩
        · rw [if_pos q20] at hf
          refine go_aload_n 2 d_Rea_lockAnywhere_57 rfl ?_
          refine go_aload_n 3 d_Rea_lockAnywhere_58 rfl ?_
          refine go_iload_n 4 d_Rea_lockAnywhere_59 rfl ?_
          refine go_iload 0 d_Rea_lockAnywhere_60 rfl ?_
          refine go_iconst (1 : Int32) d_Rea_lockAnywhere_62 (by decide) ?_
          refine go_iadd d_Rea_lockAnywhere_63 ?_
          obtain ⟨_, e12, hf⟩ := bnd_x hf
          obtain ⟨x13, h14, e_x13, hf⟩ := bnd2_x hf
          refine go_callV_I (As := [.ref a1, .int i2, .int (y2 + (1 : Int32))]) (st := []) (c_Rea_lock (d := d - 1) (by omega) e_x13) lk_Rea_131 rfl rfl e12 (by decide) rfl (rm_ok (by omega)) (Nat.le_of_ble_eq_true rfl) rm_c d_Rea_lockAnywhere_64 ?_
          refine go_if_ne 83 d_Rea_lockAnywhere_67 (by decide) (fun q19 => ?_) (fun q19 => ?_)
          · rw [if_neg q19] at hf
            refine go_iconst (1 : Int32) d_Rea_lockAnywhere_83 (by decide) ?_
            obtain ⟨e8, e9⟩ := Prod.mk.inj (Option.some.inj hf)
            subst e8; subst e9
            exact go_zret d_Rea_lockAnywhere_84 rfl rfl ⟨rfl, rfl, rfl⟩
          · rw [if_pos q19] at hf
            refine go_aload_n 2 d_Rea_lockAnywhere_70 rfl ?_
            refine go_aload_n 3 d_Rea_lockAnywhere_71 rfl ?_
            refine go_iload_n 4 d_Rea_lockAnywhere_72 rfl ?_
            refine go_iload 0 d_Rea_lockAnywhere_73 rfl ?_
            refine go_iconst (2 : Int32) d_Rea_lockAnywhere_75 (by decide) ?_
            refine go_iadd d_Rea_lockAnywhere_76 ?_
            obtain ⟨_, e15, hf⟩ := bnd_x hf
            obtain ⟨x16, h17, e_x16, hf⟩ := bnd2_x hf
            refine go_callV_I (As := [.ref a1, .int i2, .int (y2 + (2 : Int32))]) (st := []) (c_Rea_lock (d := d - 1) (by omega) e_x16) lk_Rea_131 rfl rfl e15 (by decide) rfl (rm_ok (by omega)) (Nat.le_of_ble_eq_true rfl) rm_c d_Rea_lockAnywhere_77 ?_
            refine go_if_eq 85 d_Rea_lockAnywhere_80 (by decide) (fun q18 => ?_) (fun q18 => ?_)
            · rw [if_pos q18] at hf
              refine go_iinc (lv' := [(2, .int (i2 + (1 : Int32))), (4, .int y2), (3, .int y1), (0, .ref a0), (1, .ref a1)]) 4 (i2 + (1 : Int32)) d_Rea_lockAnywhere_85 rfl rfl rfl (by decide) ?_
              refine go_goto 2 d_Rea_lockAnywhere_88 (by decide) ?_
              refine go_sub (lv' := [(0, .ref a0), (1, .ref a1), (2, .int (i2 + (1 : Int32)))]) [3, 4, 0] rfl ?_
              exact hk2 a0 a1 (i2 + (1 : Int32)) h17 hf
            · rw [if_neg q18] at hf
              refine go_iconst (1 : Int32) d_Rea_lockAnywhere_83 (by decide) ?_
              obtain ⟨e8, e9⟩ := Prod.mk.inj (Option.some.inj hf)
              subst e8; subst e9
              exact go_zret d_Rea_lockAnywhere_84 rfl rfl ⟨rfl, rfl, rfl⟩
theorem t_Rea_lockAnywhere_2 {l : Launch} {E : ET} {d : Nat} (hd : 4 ≤ d) {F : Nat} {r : Int32} {h9 : PH} {x : Nat}  : ∀ (n : Nat) (a0 : Nat) (a1 : Nat) (i2 : Int32) (hh : PH), f_Rea_lockAnywhere_2 F n a0 a1 i2 hh = some (r, h9) → Go l E m_Rea_lockAnywhere (rm d 0 0) (KM E 0 0 (PoE (some (.int r)) h9 x)) 0 0 hh x 2 [(0, .ref a0), (1, .ref a1), (2, .int i2)] [] := by
  intro n
  induction n with
  | zero => intro v0 v1 v2 v3 hf; cases hf
  | succ n ih => intro v0 v1 v2 v3 hf; exact g_Rea_lockAnywhere_2 hd ih v0 v1 v2 v3 hf
def f_Rea_lockAnywhere (F : Nat) (a0 : Nat) (a1 : Nat) (h : PH) : Option (Int32 × PH) :=
  f_Rea_lockAnywhere_2 F F a0 a1 (0 : Int32) h
theorem g_Rea_lockAnywhere_0 {l : Launch} {E : ET} {d : Nat} (hd : 4 ≤ d) {F : Nat} {r : Int32} {h9 : PH} {x : Nat}  (a0 : Nat) (a1 : Nat) (h : PH) (hf : f_Rea_lockAnywhere F a0 a1 h = some (r, h9)) : Go l E m_Rea_lockAnywhere (rm d 0 0) (KM E 0 0 (PoE (some (.int r)) h9 x)) 0 0 h x 0 [(0, .ref a0), (1, .ref a1)] [] := by
  unfold f_Rea_lockAnywhere at hf
  refine go_iconst (0 : Int32) d_Rea_lockAnywhere_0 (by decide) ?_
  refine go_istore_n (lv' := [(2, .int (0 : Int32)), (0, .ref a0), (1, .ref a1)]) d_Rea_lockAnywhere_1 rfl (by decide) ?_
  refine go_sub (lv' := [(0, .ref a0), (1, .ref a1), (2, .int (0 : Int32))]) [1, 2, 0] rfl ?_
  exact t_Rea_lockAnywhere_2 hd  _ a0 a1 (0 : Int32) h hf
theorem c_Rea_lockAnywhere {l : Launch} {E : ET} {d : Nat} (hd : 4 ≤ d) {F : Nat} {r : Int32} {h9 : PH} {x : Nat} {a0 : Nat} {a1 : Nat} {h : PH} (hf : f_Rea_lockAnywhere F a0 a1 h = some (r, h9)) : Fn l E m_Rea_lockAnywhere d 0 0 [.ref a0, .ref a1] h x (PoE (some (.int r)) h9 x) :=
  Fn.of (by decide +kernel) (Nat.le_of_ble_eq_true rfl) (g_Rea_lockAnywhere_0 hd a0 a1 h hf)
theorem d_Rea_splitPairOf_0 : decode prog_6_method_12_code 0 = .ok (.aload_n 1, 1) := by decide +kernel
theorem d_Rea_splitPairOf_1 : decode prog_6_method_12_code 1 = .ok (.iload_n 3, 1) := by decide +kernel
theorem d_Rea_splitPairOf_2 : decode prog_6_method_12_code 2 = .ok (.invokevirtual 144, 3) := by decide +kernel
theorem d_Rea_splitPairOf_5 : decode prog_6_method_12_code 5 = .ok (.istore 6, 2) := by decide +kernel
theorem d_Rea_splitPairOf_7 : decode prog_6_method_12_code 7 = .ok (.lload 4, 2) := by decide +kernel
theorem d_Rea_splitPairOf_9 : decode prog_6_method_12_code 9 = .ok (.lstore 7, 2) := by decide +kernel
theorem d_Rea_splitPairOf_11 : decode prog_6_method_12_code 11 = .ok (.iconst 1, 1) := by decide +kernel
theorem d_Rea_splitPairOf_12 : decode prog_6_method_12_code 12 = .ok (.istore 9, 2) := by decide +kernel
theorem d_Rea_splitPairOf_14 : decode prog_6_method_12_code 14 = .ok (.iload 9, 2) := by decide +kernel
theorem d_Rea_splitPairOf_16 : decode prog_6_method_12_code 16 = .ok (.bipush 6, 2) := by decide +kernel
theorem d_Rea_splitPairOf_18 : decode prog_6_method_12_code 18 = .ok (.if_icmp .gt 37, 3) := by decide +kernel
theorem d_Rea_splitPairOf_21 : decode prog_6_method_12_code 21 = .ok (.lload 7, 2) := by decide +kernel
theorem d_Rea_splitPairOf_23 : decode prog_6_method_12_code 23 = .ok (.iload 6, 2) := by decide +kernel
theorem d_Rea_splitPairOf_25 : decode prog_6_method_12_code 25 = .ok (.iload 9, 2) := by decide +kernel
theorem d_Rea_splitPairOf_27 : decode prog_6_method_12_code 27 = .ok (.ishr, 1) := by decide +kernel
theorem d_Rea_splitPairOf_28 : decode prog_6_method_12_code 28 = .ok (.iconst 1, 1) := by decide +kernel
theorem d_Rea_splitPairOf_29 : decode prog_6_method_12_code 29 = .ok (.iand, 1) := by decide +kernel
theorem d_Rea_splitPairOf_30 : decode prog_6_method_12_code 30 = .ok (.ifCond .eq 13, 3) := by decide +kernel
theorem d_Rea_splitPairOf_33 : decode prog_6_method_12_code 33 = .ok (.aload_n 1, 1) := by decide +kernel
theorem d_Rea_splitPairOf_34 : decode prog_6_method_12_code 34 = .ok (.getfield 69, 3) := by decide +kernel
theorem d_Rea_splitPairOf_37 : decode prog_6_method_12_code 37 = .ok (.iload 9, 2) := by decide +kernel
theorem d_Rea_splitPairOf_39 : decode prog_6_method_12_code 39 = .ok (.laload, 1) := by decide +kernel
theorem d_Rea_splitPairOf_40 : decode prog_6_method_12_code 40 = .ok (.goto 6, 3) := by decide +kernel
theorem d_Rea_splitPairOf_43 : decode prog_6_method_12_code 43 = .ok (.ldc2_w 30, 3) := by decide +kernel
theorem d_Rea_splitPairOf_46 : decode prog_6_method_12_code 46 = .ok (.land, 1) := by decide +kernel
theorem d_Rea_splitPairOf_47 : decode prog_6_method_12_code 47 = .ok (.lstore 7, 2) := by decide +kernel
theorem d_Rea_splitPairOf_49 : decode prog_6_method_12_code 49 = .ok (.iinc 9 1, 3) := by decide +kernel
theorem d_Rea_splitPairOf_52 : decode prog_6_method_12_code 52 = .ok (.goto (-38), 3) := by decide +kernel
theorem d_Rea_splitPairOf_55 : decode prog_6_method_12_code 55 = .ok (.lload 7, 2) := by decide +kernel
theorem d_Rea_splitPairOf_57 : decode prog_6_method_12_code 57 = .ok (.lconst 0, 1) := by decide +kernel
theorem d_Rea_splitPairOf_58 : decode prog_6_method_12_code 58 = .ok (.lcmp, 1) := by decide +kernel
theorem d_Rea_splitPairOf_59 : decode prog_6_method_12_code 59 = .ok (.ifCond .ne 5, 3) := by decide +kernel
theorem d_Rea_splitPairOf_62 : decode prog_6_method_12_code 62 = .ok (.iconst 0, 1) := by decide +kernel
theorem d_Rea_splitPairOf_63 : decode prog_6_method_12_code 63 = .ok (.ireturn, 1) := by decide +kernel
theorem d_Rea_splitPairOf_64 : decode prog_6_method_12_code 64 = .ok (.lconst 1, 1) := by decide +kernel
theorem d_Rea_splitPairOf_65 : decode prog_6_method_12_code 65 = .ok (.iload_n 3, 1) := by decide +kernel
theorem d_Rea_splitPairOf_66 : decode prog_6_method_12_code 66 = .ok (.lshl, 1) := by decide +kernel
theorem d_Rea_splitPairOf_67 : decode prog_6_method_12_code 67 = .ok (.lload 7, 2) := by decide +kernel
theorem d_Rea_splitPairOf_69 : decode prog_6_method_12_code 69 = .ok (.lload 7, 2) := by decide +kernel
theorem d_Rea_splitPairOf_71 : decode prog_6_method_12_code 71 = .ok (.lneg, 1) := by decide +kernel
theorem d_Rea_splitPairOf_72 : decode prog_6_method_12_code 72 = .ok (.land, 1) := by decide +kernel
theorem d_Rea_splitPairOf_73 : decode prog_6_method_12_code 73 = .ok (.lor, 1) := by decide +kernel
theorem d_Rea_splitPairOf_74 : decode prog_6_method_12_code 74 = .ok (.lstore 9, 2) := by decide +kernel
theorem d_Rea_splitPairOf_76 : decode prog_6_method_12_code 76 = .ok (.aload_n 1, 1) := by decide +kernel
theorem d_Rea_splitPairOf_77 : decode prog_6_method_12_code 77 = .ok (.iload 6, 2) := by decide +kernel
theorem d_Rea_splitPairOf_79 : decode prog_6_method_12_code 79 = .ok (.iload_n 2, 1) := by decide +kernel
theorem d_Rea_splitPairOf_80 : decode prog_6_method_12_code 80 = .ok (.invokestatic 99, 3) := by decide +kernel
theorem d_Rea_splitPairOf_83 : decode prog_6_method_12_code 83 = .ok (.lload 9, 2) := by decide +kernel
theorem d_Rea_splitPairOf_85 : decode prog_6_method_12_code 85 = .ok (.ldc2_w 75, 3) := by decide +kernel
theorem d_Rea_splitPairOf_88 : decode prog_6_method_12_code 88 = .ok (.lxor, 1) := by decide +kernel
theorem d_Rea_splitPairOf_89 : decode prog_6_method_12_code 89 = .ok (.land, 1) := by decide +kernel
theorem d_Rea_splitPairOf_90 : decode prog_6_method_12_code 90 = .ok (.invokevirtual 147, 3) := by decide +kernel
theorem d_Rea_splitPairOf_93 : decode prog_6_method_12_code 93 = .ok (.istore 11, 2) := by decide +kernel
theorem d_Rea_splitPairOf_95 : decode prog_6_method_12_code 95 = .ok (.iload 11, 2) := by decide +kernel
theorem d_Rea_splitPairOf_97 : decode prog_6_method_12_code 97 = .ok (.ifCond .le 19, 3) := by decide +kernel
theorem d_Rea_splitPairOf_100 : decode prog_6_method_12_code 100 = .ok (.aload_n 0, 1) := by decide +kernel
theorem d_Rea_splitPairOf_101 : decode prog_6_method_12_code 101 = .ok (.bipush 7, 2) := by decide +kernel
theorem d_Rea_splitPairOf_103 : decode prog_6_method_12_code 103 = .ok (.iload_n 2, 1) := by decide +kernel
theorem d_Rea_splitPairOf_104 : decode prog_6_method_12_code 104 = .ok (.iload 11, 2) := by decide +kernel
theorem d_Rea_splitPairOf_106 : decode prog_6_method_12_code 106 = .ok (.invokevirtual 18, 3) := by decide +kernel
theorem d_Rea_splitPairOf_109 : decode prog_6_method_12_code 109 = .ok (.ifCond .eq 7, 3) := by decide +kernel
theorem d_Rea_splitPairOf_112 : decode prog_6_method_12_code 112 = .ok (.iconst 1, 1) := by decide +kernel
theorem d_Rea_splitPairOf_113 : decode prog_6_method_12_code 113 = .ok (.goto 4, 3) := by decide +kernel
theorem d_Rea_splitPairOf_116 : decode prog_6_method_12_code 116 = .ok (.iconst 0, 1) := by decide +kernel
theorem d_Rea_splitPairOf_117 : decode prog_6_method_12_code 117 = .ok (.ireturn, 1) := by decide +kernel
def b_Rea_splitPairOf_46 (F : Nat) (k14 : Nat → Nat → Int32 → Int32 → Int32 → Int64 → Int32 → PH → Option (Int32 × PH)) (a0 : Nat) (a1 : Nat) (i2 : Int32) (i3 : Int32) (i6 : Int32) (i9 : Int32) (s0 : Int64) (s1 : Int64) (h : PH) : Option (Int32 × PH) :=
  k14 a0 a1 i2 i3 i6 (s1 &&& s0) (i9 + (1 : Int32)) h
theorem g_Rea_splitPairOf_46 {l : Launch} {E : ET} {d : Nat} (hd : 3 ≤ d) {F : Nat} {r : Int32} {h9 : PH} {x : Nat} {k14 : Nat → Nat → Int32 → Int32 → Int32 → Int64 → Int32 → PH → Option (Int32 × PH)} (hk14 : ∀ (a0 : Nat) (a1 : Nat) (i2 : Int32) (i3 : Int32) (i6 : Int32) (i7 : Int64) (i9 : Int32) (hh : PH), k14 a0 a1 i2 i3 i6 i7 i9 hh = some (r, h9) → Go l E m_Rea_splitPairOf (rm d 0 0) (KM E 0 0 (PoE (some (.int r)) h9 x)) 0 0 hh x 14 [(0, .ref a0), (1, .ref a1), (2, .int i2), (3, .int i3), (6, .int i6), (7, .long i7), (9, .int i9)] []) (a0 : Nat) (a1 : Nat) (i2 : Int32) (i3 : Int32) (i6 : Int32) (i9 : Int32) (s0 : Int64) (s1 : Int64) (h : PH) (hf : b_Rea_splitPairOf_46 F k14 a0 a1 i2 i3 i6 i9 s0 s1 h = some (r, h9)) : Go l E m_Rea_splitPairOf (rm d 0 0) (KM E 0 0 (PoE (some (.int r)) h9 x)) 0 0 h x 46 [(0, .ref a0), (1, .ref a1), (2, .int i2), (3, .int i3), (6, .int i6), (9, .int i9)] [.long s0, .long s1] := by
  unfold b_Rea_splitPairOf_46 at hf
  refine go_land d_Rea_splitPairOf_46 ?_
  refine go_lstore (lv' := [(7, .long (s1 &&& s0)), (0, .ref a0), (1, .ref a1), (2, .int i2), (3, .int i3), (6, .int i6), (9, .int i9)]) d_Rea_splitPairOf_47 rfl (by decide) ?_
  refine go_iinc (lv' := [(9, .int (i9 + (1 : Int32))), (7, .long (s1 &&& s0)), (0, .ref a0), (1, .ref a1), (2, .int i2), (3, .int i3), (6, .int i6)]) 6 (i9 + (1 : Int32)) d_Rea_splitPairOf_49 rfl rfl rfl (by decide) ?_
  refine go_goto 14 d_Rea_splitPairOf_52 (by decide) ?_
  refine go_sub (lv' := [(0, .ref a0), (1, .ref a1), (2, .int i2), (3, .int i3), (6, .int i6), (7, .long (s1 &&& s0)), (9, .int (i9 + (1 : Int32)))]) [2, 3, 4, 5, 6, 1, 0] rfl ?_
  exact hk14 a0 a1 i2 i3 i6 (s1 &&& s0) (i9 + (1 : Int32)) h hf
def b_Rea_splitPairOf_14 (F : Nat) (k14 : Nat → Nat → Int32 → Int32 → Int32 → Int64 → Int32 → PH → Option (Int32 × PH)) (a0 : Nat) (a1 : Nat) (i2 : Int32) (i3 : Int32) (i6 : Int32) (i7 : Int64) (i9 : Int32) (h : PH) : Option (Int32 × PH) :=
  (if (6 : Int32) < i9 then (if (lg_cmp i7 (0 : Int64)) = (0 : Int32) then some ((0 : Int32), h) else bnd (some (((1 : Int64) <<< ((i3).toInt64 &&& 63)) ||| (i7 &&& (-i7)))) fun y1 => bnd (f_Grd_unit i2) fun x2 => bnd (cK h a1 1) fun _ => bnd2 (f_Pos_removeDigits F a1 i6 (x2 &&& (y1 ^^^ (-1 : Int64))) h) fun x4 h5 => (if x4 ≤ (0 : Int32) then some ((0 : Int32), h5) else bnd (cK h5 a0 3) fun _ => bnd2 (f_Rea_note a0 (7 : Int32) i2 x4 h5) fun x7 h8 => (if x7 = (0 : Int32) then some ((0 : Int32), h8) else some ((1 : Int32), h8)))) else (if ((i6 >>> (i9 &&& 31)) &&& (1 : Int32)) = (0 : Int32) then b_Rea_splitPairOf_46 F k14 a0 a1 i2 i3 i6 i9 (68719476735 : Int64) i7 h else bnd (gR h a1 1 0) fun x12 => bnd (aL h x12 i9) fun x13 => b_Rea_splitPairOf_46 F k14 a0 a1 i2 i3 i6 i9 x13 i7 h))
def f_Rea_splitPairOf_14 (F : Nat) : Nat → Nat → Nat → Int32 → Int32 → Int32 → Int64 → Int32 → PH → Option (Int32 × PH)
  | 0 => fun _ _ _ _ _ _ _ _ => none
  | n + 1 => b_Rea_splitPairOf_14 F (f_Rea_splitPairOf_14 F n)
theorem g_Rea_splitPairOf_14 {l : Launch} {E : ET} {d : Nat} (hd : 3 ≤ d) {F : Nat} {r : Int32} {h9 : PH} {x : Nat} {k14 : Nat → Nat → Int32 → Int32 → Int32 → Int64 → Int32 → PH → Option (Int32 × PH)} (hk14 : ∀ (a0 : Nat) (a1 : Nat) (i2 : Int32) (i3 : Int32) (i6 : Int32) (i7 : Int64) (i9 : Int32) (hh : PH), k14 a0 a1 i2 i3 i6 i7 i9 hh = some (r, h9) → Go l E m_Rea_splitPairOf (rm d 0 0) (KM E 0 0 (PoE (some (.int r)) h9 x)) 0 0 hh x 14 [(0, .ref a0), (1, .ref a1), (2, .int i2), (3, .int i3), (6, .int i6), (7, .long i7), (9, .int i9)] []) (a0 : Nat) (a1 : Nat) (i2 : Int32) (i3 : Int32) (i6 : Int32) (i7 : Int64) (i9 : Int32) (h : PH) (hf : b_Rea_splitPairOf_14 F k14 a0 a1 i2 i3 i6 i7 i9 h = some (r, h9)) : Go l E m_Rea_splitPairOf (rm d 0 0) (KM E 0 0 (PoE (some (.int r)) h9 x)) 0 0 h x 14 [(0, .ref a0), (1, .ref a1), (2, .int i2), (3, .int i3), (6, .int i6), (7, .long i7), (9, .int i9)] [] := by
  unfold b_Rea_splitPairOf_14 at hf
  refine go_iload 6 d_Rea_splitPairOf_14 rfl ?_
  refine go_bipush (6 : Int32) d_Rea_splitPairOf_16 (by decide) ?_
  refine go_icmp_gt 55 d_Rea_splitPairOf_18 (by decide) (fun q15 => ?_) (fun q15 => ?_)
  · rw [if_pos q15] at hf
    refine go_lload 5 d_Rea_splitPairOf_55 rfl ?_
    refine go_lconst (0 : Int64) d_Rea_splitPairOf_57 (by decide) ?_
    refine go_lcmp d_Rea_splitPairOf_58 ?_
    refine go_if_ne 64 d_Rea_splitPairOf_59 (by decide) (fun q11 => ?_) (fun q11 => ?_)
    · rw [if_neg q11] at hf
      refine go_lconst (1 : Int64) d_Rea_splitPairOf_64 (by decide) ?_
      refine go_iload_n 3 d_Rea_splitPairOf_65 rfl ?_
      refine go_lshl d_Rea_splitPairOf_66 ?_
      refine go_lload 5 d_Rea_splitPairOf_67 rfl ?_
      refine go_lload 5 d_Rea_splitPairOf_69 rfl ?_
      refine go_lneg d_Rea_splitPairOf_71 ?_
      refine go_land d_Rea_splitPairOf_72 ?_
      refine go_lor d_Rea_splitPairOf_73 ?_
      obtain ⟨y1, e_y1, hf⟩ := bnd_x hf
      refine go_nmL e_y1 ?_
      refine go_lstore (lv' := [(9, .long y1), (0, .ref a0), (1, .ref a1), (2, .int i2), (3, .int i3), (6, .int i6), (7, .long i7)]) d_Rea_splitPairOf_74 rfl (by decide) ?_
      refine go_aload_n 2 d_Rea_splitPairOf_76 rfl ?_
      refine go_iload 5 d_Rea_splitPairOf_77 rfl ?_
      refine go_iload_n 3 d_Rea_splitPairOf_79 rfl ?_
      obtain ⟨x2, e_x2, hf⟩ := bnd_x hf
      refine go_callS_L (As := [.int i2]) (st := [.int i6, .ref a1]) (c_Grd_unit (d := d - 1) (by omega) e_x2) lk_Rea_99 rfl rfl (rm_ok (by omega)) (Nat.le_of_ble_eq_true rfl) rm_c d_Rea_splitPairOf_80 ?_
      refine go_lload 0 d_Rea_splitPairOf_83 rfl ?_
      refine go_ldc2 (-1 : Int64) d_Rea_splitPairOf_85 kl_Rea_75 ?_
      refine go_lxor d_Rea_splitPairOf_88 ?_
      refine go_land d_Rea_splitPairOf_89 ?_
      obtain ⟨_, e3, hf⟩ := bnd_x hf
      obtain ⟨x4, h5, e_x4, hf⟩ := bnd2_x hf
      refine go_callV_I (As := [.int i6, .long (x2 &&& (y1 ^^^ (-1 : Int64)))]) (st := []) (c_Pos_removeDigits (d := d - 1) (by omega) e_x4) lk_Rea_147 rfl rfl e3 (by decide) rfl (rm_ok (by omega)) (Nat.le_of_ble_eq_true rfl) rm_c d_Rea_splitPairOf_90 ?_
      refine go_istore (lv' := [(11, .int x4), (9, .long y1), (0, .ref a0), (1, .ref a1), (2, .int i2), (3, .int i3), (6, .int i6), (7, .long i7)]) d_Rea_splitPairOf_93 rfl (by decide) ?_
      refine go_iload 0 d_Rea_splitPairOf_95 rfl ?_
      refine go_if_le 116 d_Rea_splitPairOf_97 (by decide) (fun q10 => ?_) (fun q10 => ?_)
      · rw [if_pos q10] at hf
        refine go_iconst (0 : Int32) d_Rea_splitPairOf_116 (by decide) ?_
        obtain ⟨e8, e9⟩ := Prod.mk.inj (Option.some.inj hf)
        subst e8; subst e9
        exact go_zret d_Rea_splitPairOf_117 rfl rfl ⟨rfl, rfl, rfl⟩
      · rw [if_neg q10] at hf
        refine go_aload_n 2 d_Rea_splitPairOf_100 rfl ?_
        refine go_bipush (7 : Int32) d_Rea_splitPairOf_101 (by decide) ?_
        refine go_iload_n 4 d_Rea_splitPairOf_103 rfl ?_
        refine go_iload 0 d_Rea_splitPairOf_104 rfl ?_
        obtain ⟨_, e6, hf⟩ := bnd_x hf
        obtain ⟨x7, h8, e_x7, hf⟩ := bnd2_x hf
        refine go_callV_I (As := [.int (7 : Int32), .int i2, .int x4]) (st := []) (c_Rea_note (d := d - 1) (by omega) e_x7) lk_Rea_18 rfl rfl e6 (by decide) rfl (rm_ok (by omega)) (Nat.le_of_ble_eq_true rfl) rm_c d_Rea_splitPairOf_106 ?_
        refine go_if_eq 116 d_Rea_splitPairOf_109 (by decide) (fun q9 => ?_) (fun q9 => ?_)
        · rw [if_pos q9] at hf
          refine go_iconst (0 : Int32) d_Rea_splitPairOf_116 (by decide) ?_
          obtain ⟨e8, e9⟩ := Prod.mk.inj (Option.some.inj hf)
          subst e8; subst e9
          exact go_zret d_Rea_splitPairOf_117 rfl rfl ⟨rfl, rfl, rfl⟩
        · rw [if_neg q9] at hf
          refine go_iconst (1 : Int32) d_Rea_splitPairOf_112 (by decide) ?_
          refine go_goto 117 d_Rea_splitPairOf_113 (by decide) ?_
          obtain ⟨e8, e9⟩ := Prod.mk.inj (Option.some.inj hf)
          subst e8; subst e9
          exact go_zret d_Rea_splitPairOf_117 rfl rfl ⟨rfl, rfl, rfl⟩
    · rw [if_pos q11] at hf
      refine go_iconst (0 : Int32) d_Rea_splitPairOf_62 (by decide) ?_
      obtain ⟨e8, e9⟩ := Prod.mk.inj (Option.some.inj hf)
      subst e8; subst e9
      exact go_zret d_Rea_splitPairOf_63 rfl rfl ⟨rfl, rfl, rfl⟩
  · rw [if_neg q15] at hf
    refine go_lload 5 d_Rea_splitPairOf_21 rfl ?_
    refine go_iload 4 d_Rea_splitPairOf_23 rfl ?_
    refine go_iload 6 d_Rea_splitPairOf_25 rfl ?_
    refine go_ishr d_Rea_splitPairOf_27 ?_
    refine go_iconst (1 : Int32) d_Rea_splitPairOf_28 (by decide) ?_
    refine go_iand d_Rea_splitPairOf_29 ?_
    refine go_if_eq 43 d_Rea_splitPairOf_30 (by decide) (fun q14 => ?_) (fun q14 => ?_)
    · rw [if_pos q14] at hf
      refine go_ldc2 (68719476735 : Int64) d_Rea_splitPairOf_43 kl_Rea_30 ?_
      refine go_sub (lv' := [(0, .ref a0), (1, .ref a1), (2, .int i2), (3, .int i3), (6, .int i6), (9, .int i9)]) [0, 1, 2, 3, 4, 6] rfl ?_
      exact g_Rea_splitPairOf_46 hd hk14 a0 a1 i2 i3 i6 i9 (68719476735 : Int64) i7 h hf
    · rw [if_neg q14] at hf
      refine go_aload_n 1 d_Rea_splitPairOf_33 rfl ?_
      obtain ⟨x12, e_x12, hf⟩ := bnd_x hf
      refine go_get d_Rea_splitPairOf_34 (gR_x e_x12) fl_Rea_69 ?_
      refine go_iload 6 d_Rea_splitPairOf_37 rfl ?_
      obtain ⟨x13, e_x13, hf⟩ := bnd_x hf
      refine go_laload d_Rea_splitPairOf_39 e_x13 ?_
      refine go_goto 46 d_Rea_splitPairOf_40 (by decide) ?_
      refine go_sub (lv' := [(0, .ref a0), (1, .ref a1), (2, .int i2), (3, .int i3), (6, .int i6), (9, .int i9)]) [0, 1, 2, 3, 4, 6] rfl ?_
      exact g_Rea_splitPairOf_46 hd hk14 a0 a1 i2 i3 i6 i9 x13 i7 h hf
theorem t_Rea_splitPairOf_14 {l : Launch} {E : ET} {d : Nat} (hd : 3 ≤ d) {F : Nat} {r : Int32} {h9 : PH} {x : Nat}  : ∀ (n : Nat) (a0 : Nat) (a1 : Nat) (i2 : Int32) (i3 : Int32) (i6 : Int32) (i7 : Int64) (i9 : Int32) (hh : PH), f_Rea_splitPairOf_14 F n a0 a1 i2 i3 i6 i7 i9 hh = some (r, h9) → Go l E m_Rea_splitPairOf (rm d 0 0) (KM E 0 0 (PoE (some (.int r)) h9 x)) 0 0 hh x 14 [(0, .ref a0), (1, .ref a1), (2, .int i2), (3, .int i3), (6, .int i6), (7, .long i7), (9, .int i9)] [] := by
  intro n
  induction n with
  | zero => intro v0 v1 v2 v3 v4 v5 v6 v7 hf; cases hf
  | succ n ih => intro v0 v1 v2 v3 v4 v5 v6 v7 hf; exact g_Rea_splitPairOf_14 hd ih v0 v1 v2 v3 v4 v5 v6 v7 hf
def f_Rea_splitPairOf (F : Nat) (a0 : Nat) (a1 : Nat) (i2 : Int32) (i3 : Int32) (i4 : Int64) (h : PH) : Option (Int32 × PH) :=
  bnd (cK h a1 1) fun _ => bnd (f_Pos_digitsOf F a1 i3 h) fun x2 => f_Rea_splitPairOf_14 F F a0 a1 i2 i3 x2 i4 (1 : Int32) h
theorem g_Rea_splitPairOf_0 {l : Launch} {E : ET} {d : Nat} (hd : 3 ≤ d) {F : Nat} {r : Int32} {h9 : PH} {x : Nat}  (a0 : Nat) (a1 : Nat) (i2 : Int32) (i3 : Int32) (i4 : Int64) (h : PH) (hf : f_Rea_splitPairOf F a0 a1 i2 i3 i4 h = some (r, h9)) : Go l E m_Rea_splitPairOf (rm d 0 0) (KM E 0 0 (PoE (some (.int r)) h9 x)) 0 0 h x 0 [(0, .ref a0), (1, .ref a1), (2, .int i2), (3, .int i3), (4, .long i4)] [] := by
  unfold f_Rea_splitPairOf at hf
  refine go_aload_n 1 d_Rea_splitPairOf_0 rfl ?_
  refine go_iload_n 3 d_Rea_splitPairOf_1 rfl ?_
  obtain ⟨_, e1, hf⟩ := bnd_x hf
  obtain ⟨x2, e_x2, hf⟩ := bnd_x hf
  refine go_callV_I (As := [.int i3]) (st := []) (c_Pos_digitsOf (d := d - 1) (by omega) e_x2) lk_Rea_144 rfl rfl e1 (by decide) rfl (rm_ok (by omega)) (Nat.le_of_ble_eq_true rfl) rm_c d_Rea_splitPairOf_2 ?_
  refine go_istore (lv' := [(6, .int x2), (0, .ref a0), (1, .ref a1), (2, .int i2), (3, .int i3), (4, .long i4)]) d_Rea_splitPairOf_5 rfl (by decide) ?_
  refine go_lload 5 d_Rea_splitPairOf_7 rfl ?_
  refine go_lstore (lv' := [(7, .long i4), (6, .int x2), (0, .ref a0), (1, .ref a1), (2, .int i2), (3, .int i3), (4, .long i4)]) d_Rea_splitPairOf_9 rfl (by decide) ?_
  refine go_iconst (1 : Int32) d_Rea_splitPairOf_11 (by decide) ?_
  refine go_istore (lv' := [(9, .int (1 : Int32)), (7, .long i4), (6, .int x2), (0, .ref a0), (1, .ref a1), (2, .int i2), (3, .int i3), (4, .long i4)]) d_Rea_splitPairOf_12 rfl (by decide) ?_
  refine go_sub (lv' := [(0, .ref a0), (1, .ref a1), (2, .int i2), (3, .int i3), (6, .int x2), (7, .long i4), (9, .int (1 : Int32))]) [3, 4, 5, 6, 2, 1, 0] rfl ?_
  exact t_Rea_splitPairOf_14 hd  _ a0 a1 i2 i3 x2 i4 (1 : Int32) h hf
theorem c_Rea_splitPairOf {l : Launch} {E : ET} {d : Nat} (hd : 3 ≤ d) {F : Nat} {r : Int32} {h9 : PH} {x : Nat} {a0 : Nat} {a1 : Nat} {i2 : Int32} {i3 : Int32} {i4 : Int64} {h : PH} (hf : f_Rea_splitPairOf F a0 a1 i2 i3 i4 h = some (r, h9)) : Fn l E m_Rea_splitPairOf d 0 0 [.ref a0, .ref a1, .int i2, .int i3, .long i4] h x (PoE (some (.int r)) h9 x) :=
  Fn.of (by decide +kernel) (Nat.le_of_ble_eq_true rfl) (g_Rea_splitPairOf_0 hd a0 a1 i2 i3 i4 h hf)
theorem d_Rea_splitPair_0 : decode prog_6_method_11_code 0 = .ok (.aload_n 0, 1) := by decide +kernel
theorem d_Rea_splitPair_1 : decode prog_6_method_11_code 1 = .ok (.getfield 63, 3) := by decide +kernel
theorem d_Rea_splitPair_4 : decode prog_6_method_11_code 4 = .ok (.aload_n 0, 1) := by decide +kernel
theorem d_Rea_splitPair_5 : decode prog_6_method_11_code 5 = .ok (.getfield 66, 3) := by decide +kernel
theorem d_Rea_splitPair_8 : decode prog_6_method_11_code 8 = .ok (.ldc2_w 75, 3) := by decide +kernel
theorem d_Rea_splitPair_11 : decode prog_6_method_11_code 11 = .ok (.lxor, 1) := by decide +kernel
theorem d_Rea_splitPair_12 : decode prog_6_method_11_code 12 = .ok (.land, 1) := by decide +kernel
theorem d_Rea_splitPair_13 : decode prog_6_method_11_code 13 = .ok (.lstore_n 2, 1) := by decide +kernel
theorem d_Rea_splitPair_14 : decode prog_6_method_11_code 14 = .ok (.iconst 0, 1) := by decide +kernel
theorem d_Rea_splitPair_15 : decode prog_6_method_11_code 15 = .ok (.istore 4, 2) := by decide +kernel
theorem d_Rea_splitPair_17 : decode prog_6_method_11_code 17 = .ok (.iload 4, 2) := by decide +kernel
theorem d_Rea_splitPair_19 : decode prog_6_method_11_code 19 = .ok (.bipush 18, 2) := by decide +kernel
theorem d_Rea_splitPair_21 : decode prog_6_method_11_code 21 = .ok (.if_icmp .ge 69, 3) := by decide +kernel
theorem d_Rea_splitPair_24 : decode prog_6_method_11_code 24 = .ok (.iload 4, 2) := by decide +kernel
theorem d_Rea_splitPair_26 : decode prog_6_method_11_code 26 = .ok (.invokestatic 99, 3) := by decide +kernel
theorem d_Rea_splitPair_29 : decode prog_6_method_11_code 29 = .ok (.lload_n 2, 1) := by decide +kernel
theorem d_Rea_splitPair_30 : decode prog_6_method_11_code 30 = .ok (.land, 1) := by decide +kernel
theorem d_Rea_splitPair_31 : decode prog_6_method_11_code 31 = .ok (.lstore 5, 2) := by decide +kernel
theorem d_Rea_splitPair_33 : decode prog_6_method_11_code 33 = .ok (.lload 5, 2) := by decide +kernel
theorem d_Rea_splitPair_35 : decode prog_6_method_11_code 35 = .ok (.invokestatic 135, 3) := by decide +kernel
theorem d_Rea_splitPair_38 : decode prog_6_method_11_code 38 = .ok (.istore 7, 2) := by decide +kernel
theorem d_Rea_splitPair_40 : decode prog_6_method_11_code 40 = .ok (.iload 7, 2) := by decide +kernel
theorem d_Rea_splitPair_42 : decode prog_6_method_11_code 42 = .ok (.iconst 1, 1) := by decide +kernel
theorem d_Rea_splitPair_43 : decode prog_6_method_11_code 43 = .ok (.if_icmp .le 41, 3) := by decide +kernel
theorem d_Rea_splitPair_46 : decode prog_6_method_11_code 46 = .ok (.lload 5, 2) := by decide +kernel
theorem d_Rea_splitPair_48 : decode prog_6_method_11_code 48 = .ok (.invokestatic 80, 3) := by decide +kernel
theorem d_Rea_splitPair_51 : decode prog_6_method_11_code 51 = .ok (.istore 8, 2) := by decide +kernel
theorem d_Rea_splitPair_53 : decode prog_6_method_11_code 53 = .ok (.lload 5, 2) := by decide +kernel
theorem d_Rea_splitPair_55 : decode prog_6_method_11_code 55 = .ok (.lload 5, 2) := by decide +kernel
theorem d_Rea_splitPair_57 : decode prog_6_method_11_code 57 = .ok (.lconst 1, 1) := by decide +kernel
theorem d_Rea_splitPair_58 : decode prog_6_method_11_code 58 = .ok (.lsub, 1) := by decide +kernel
theorem d_Rea_splitPair_59 : decode prog_6_method_11_code 59 = .ok (.land, 1) := by decide +kernel
theorem d_Rea_splitPair_60 : decode prog_6_method_11_code 60 = .ok (.lstore 5, 2) := by decide +kernel
theorem d_Rea_splitPair_62 : decode prog_6_method_11_code 62 = .ok (.aload_n 0, 1) := by decide +kernel
theorem d_Rea_splitPair_63 : decode prog_6_method_11_code 63 = .ok (.aload_n 1, 1) := by decide +kernel
theorem d_Rea_splitPair_64 : decode prog_6_method_11_code 64 = .ok (.iload 4, 2) := by decide +kernel
theorem d_Rea_splitPair_66 : decode prog_6_method_11_code 66 = .ok (.iload 8, 2) := by decide +kernel
theorem d_Rea_splitPair_68 : decode prog_6_method_11_code 68 = .ok (.lload 5, 2) := by decide +kernel
theorem d_Rea_splitPair_70 : decode prog_6_method_11_code 70 = .ok (.invokevirtual 140, 3) := by decide +kernel
theorem d_Rea_splitPair_73 : decode prog_6_method_11_code 73 = .ok (.ifCond .eq 5, 3) := by decide +kernel
theorem d_Rea_splitPair_76 : decode prog_6_method_11_code 76 = .ok (.iconst 1, 1) := by decide +kernel
theorem d_Rea_splitPair_77 : decode prog_6_method_11_code 77 = .ok (.ireturn, 1) := by decide +kernel
theorem d_Rea_splitPair_78 : decode prog_6_method_11_code 78 = .ok (.iinc 7 (-1), 3) := by decide +kernel
theorem d_Rea_splitPair_81 : decode prog_6_method_11_code 81 = .ok (.goto (-41), 3) := by decide +kernel
theorem d_Rea_splitPair_84 : decode prog_6_method_11_code 84 = .ok (.iinc 4 1, 3) := by decide +kernel
theorem d_Rea_splitPair_87 : decode prog_6_method_11_code 87 = .ok (.goto (-70), 3) := by decide +kernel
theorem d_Rea_splitPair_90 : decode prog_6_method_11_code 90 = .ok (.iconst 0, 1) := by decide +kernel
theorem d_Rea_splitPair_91 : decode prog_6_method_11_code 91 = .ok (.ireturn, 1) := by decide +kernel
def b_Rea_splitPair_40 (F : Nat) (k17 : Nat → Nat → Int64 → Int32 → PH → Option (Int32 × PH)) (k40 : Nat → Nat → Int64 → Int32 → Int64 → Int32 → PH → Option (Int32 × PH)) (a0 : Nat) (a1 : Nat) (i2 : Int64) (i4 : Int32) (i5 : Int64) (i7 : Int32) (h : PH) : Option (Int32 × PH) :=
  (if i7 ≤ (1 : Int32) then k17 a0 a1 i2 (i4 + (1 : Int32)) h else bnd (f_Grd_lowest i5) fun x1 => bnd (some (i5 &&& (i5 - (1 : Int64)))) fun y2 => bnd (cK h a0 3) fun _ => bnd2 (f_Rea_splitPairOf F a0 a1 i4 x1 y2 h) fun x4 h5 => (if x4 = (0 : Int32) then k40 a0 a1 i2 i4 y2 (i7 + (-1 : Int32)) h5 else some ((1 : Int32), h5)))
def f_Rea_splitPair_40 (F : Nat) (k17 : Nat → Nat → Int64 → Int32 → PH → Option (Int32 × PH)) : Nat → Nat → Nat → Int64 → Int32 → Int64 → Int32 → PH → Option (Int32 × PH)
  | 0 => fun _ _ _ _ _ _ _ => none
  | n + 1 => b_Rea_splitPair_40 F k17 (f_Rea_splitPair_40 F k17 n)
theorem g_Rea_splitPair_40 {l : Launch} {E : ET} {d : Nat} (hd : 4 ≤ d) {F : Nat} {r : Int32} {h9 : PH} {x : Nat} {k17 : Nat → Nat → Int64 → Int32 → PH → Option (Int32 × PH)} (hk17 : ∀ (a0 : Nat) (a1 : Nat) (i2 : Int64) (i4 : Int32) (hh : PH), k17 a0 a1 i2 i4 hh = some (r, h9) → Go l E m_Rea_splitPair (rm d 0 0) (KM E 0 0 (PoE (some (.int r)) h9 x)) 0 0 hh x 17 [(0, .ref a0), (1, .ref a1), (2, .long i2), (4, .int i4)] []) {k40 : Nat → Nat → Int64 → Int32 → Int64 → Int32 → PH → Option (Int32 × PH)} (hk40 : ∀ (a0 : Nat) (a1 : Nat) (i2 : Int64) (i4 : Int32) (i5 : Int64) (i7 : Int32) (hh : PH), k40 a0 a1 i2 i4 i5 i7 hh = some (r, h9) → Go l E m_Rea_splitPair (rm d 0 0) (KM E 0 0 (PoE (some (.int r)) h9 x)) 0 0 hh x 40 [(0, .ref a0), (1, .ref a1), (2, .long i2), (4, .int i4), (5, .long i5), (7, .int i7)] []) (a0 : Nat) (a1 : Nat) (i2 : Int64) (i4 : Int32) (i5 : Int64) (i7 : Int32) (h : PH) (hf : b_Rea_splitPair_40 F k17 k40 a0 a1 i2 i4 i5 i7 h = some (r, h9)) : Go l E m_Rea_splitPair (rm d 0 0) (KM E 0 0 (PoE (some (.int r)) h9 x)) 0 0 h x 40 [(0, .ref a0), (1, .ref a1), (2, .long i2), (4, .int i4), (5, .long i5), (7, .int i7)] [] := by
  unfold b_Rea_splitPair_40 at hf
  refine go_iload 5 d_Rea_splitPair_40 rfl ?_
  refine go_iconst (1 : Int32) d_Rea_splitPair_42 (by decide) ?_
  refine go_icmp_le 84 d_Rea_splitPair_43 (by decide) (fun q7 => ?_) (fun q7 => ?_)
  · rw [if_pos q7] at hf
    refine go_iinc (lv' := [(4, .int (i4 + (1 : Int32))), (0, .ref a0), (1, .ref a1), (2, .long i2), (5, .long i5), (7, .int i7)]) 3 (i4 + (1 : Int32)) d_Rea_splitPair_84 rfl rfl rfl (by decide) ?_
    refine go_goto 17 d_Rea_splitPair_87 (by decide) ?_
    refine go_sub (lv' := [(0, .ref a0), (1, .ref a1), (2, .long i2), (4, .int (i4 + (1 : Int32)))]) [1, 2, 3, 0] rfl ?_
    exact hk17 a0 a1 i2 (i4 + (1 : Int32)) h hf
  · rw [if_neg q7] at hf
    refine go_lload 4 d_Rea_splitPair_46 rfl ?_
    obtain ⟨x1, e_x1, hf⟩ := bnd_x hf
    refine go_callS_I (As := [.long i5]) (st := []) (c_Grd_lowest (d := d - 1) (by omega) e_x1) lk_Rea_80 rfl rfl (rm_ok (by omega)) (Nat.le_of_ble_eq_true rfl) rm_c d_Rea_splitPair_48 ?_
    refine go_istore (lv' := [(8, .int x1), (0, .ref a0), (1, .ref a1), (2, .long i2), (4, .int i4), (5, .long i5), (7, .int i7)]) d_Rea_splitPair_51 rfl (by decide) ?_
    refine go_lload 5 d_Rea_splitPair_53 rfl ?_
    refine go_lload 5 d_Rea_splitPair_55 rfl ?_
    refine go_lconst (1 : Int64) d_Rea_splitPair_57 (by decide) ?_
    refine go_lsub d_Rea_splitPair_58 ?_
    refine go_land d_Rea_splitPair_59 ?_
    obtain ⟨y2, e_y2, hf⟩ := bnd_x hf
    refine go_nmL e_y2 ?_
    refine go_lstore (lv' := [(5, .long y2), (8, .int x1), (0, .ref a0), (1, .ref a1), (2, .long i2), (4, .int i4), (7, .int i7)]) d_Rea_splitPair_60 rfl (by decide) ?_
    refine go_aload_n 2 d_Rea_splitPair_62 rfl ?_
    refine go_aload_n 3 d_Rea_splitPair_63 rfl ?_
    refine go_iload 5 d_Rea_splitPair_64 rfl ?_
    refine go_iload 1 d_Rea_splitPair_66 rfl ?_
    refine go_lload 0 d_Rea_splitPair_68 rfl ?_
    obtain ⟨_, e3, hf⟩ := bnd_x hf
    obtain ⟨x4, h5, e_x4, hf⟩ := bnd2_x hf
    refine go_callV_I (As := [.ref a1, .int i4, .int x1, .long y2]) (st := []) (c_Rea_splitPairOf (d := d - 1) (by omega) e_x4) lk_Rea_140 rfl rfl e3 (by decide) rfl (rm_ok (by omega)) (Nat.le_of_ble_eq_true rfl) rm_c d_Rea_splitPair_70 ?_
    refine go_if_eq 78 d_Rea_splitPair_73 (by decide) (fun q6 => ?_) (fun q6 => ?_)
    · rw [if_pos q6] at hf
      refine go_iinc (lv' := [(7, .int (i7 + (-1 : Int32))), (5, .long y2), (8, .int x1), (0, .ref a0), (1, .ref a1), (2, .long i2), (4, .int i4)]) 6 (i7 + (-1 : Int32)) d_Rea_splitPair_78 rfl rfl rfl (by decide) ?_
      refine go_goto 40 d_Rea_splitPair_81 (by decide) ?_
      refine go_sub (lv' := [(0, .ref a0), (1, .ref a1), (2, .long i2), (4, .int i4), (5, .long y2), (7, .int (i7 + (-1 : Int32)))]) [3, 4, 5, 6, 1, 0] rfl ?_
      exact hk40 a0 a1 i2 i4 y2 (i7 + (-1 : Int32)) h5 hf
    · rw [if_neg q6] at hf
      refine go_iconst (1 : Int32) d_Rea_splitPair_76 (by decide) ?_
      obtain ⟨e8, e9⟩ := Prod.mk.inj (Option.some.inj hf)
      subst e8; subst e9
      exact go_zret d_Rea_splitPair_77 rfl rfl ⟨rfl, rfl, rfl⟩
theorem t_Rea_splitPair_40 {l : Launch} {E : ET} {d : Nat} (hd : 4 ≤ d) {F : Nat} {r : Int32} {h9 : PH} {x : Nat} {k17 : Nat → Nat → Int64 → Int32 → PH → Option (Int32 × PH)} (hk17 : ∀ (a0 : Nat) (a1 : Nat) (i2 : Int64) (i4 : Int32) (hh : PH), k17 a0 a1 i2 i4 hh = some (r, h9) → Go l E m_Rea_splitPair (rm d 0 0) (KM E 0 0 (PoE (some (.int r)) h9 x)) 0 0 hh x 17 [(0, .ref a0), (1, .ref a1), (2, .long i2), (4, .int i4)] []) : ∀ (n : Nat) (a0 : Nat) (a1 : Nat) (i2 : Int64) (i4 : Int32) (i5 : Int64) (i7 : Int32) (hh : PH), f_Rea_splitPair_40 F k17 n a0 a1 i2 i4 i5 i7 hh = some (r, h9) → Go l E m_Rea_splitPair (rm d 0 0) (KM E 0 0 (PoE (some (.int r)) h9 x)) 0 0 hh x 40 [(0, .ref a0), (1, .ref a1), (2, .long i2), (4, .int i4), (5, .long i5), (7, .int i7)] [] := by
  intro n
  induction n with
  | zero => intro v0 v1 v2 v3 v4 v5 v6 hf; cases hf
  | succ n ih => intro v0 v1 v2 v3 v4 v5 v6 hf; exact g_Rea_splitPair_40 hd hk17 ih v0 v1 v2 v3 v4 v5 v6 hf
def b_Rea_splitPair_17 (F : Nat) (k17 : Nat → Nat → Int64 → Int32 → PH → Option (Int32 × PH)) (a0 : Nat) (a1 : Nat) (i2 : Int64) (i4 : Int32) (h : PH) : Option (Int32 × PH) :=
  (if (18 : Int32) ≤ i4 then some ((0 : Int32), h) else bnd (f_Grd_unit i4) fun x1 => bnd (f_Lng_bitCount (x1 &&& i2)) fun x2 => f_Rea_splitPair_40 F k17 F a0 a1 i2 i4 (x1 &&& i2) x2 h)
def f_Rea_splitPair_17 (F : Nat) : Nat → Nat → Nat → Int64 → Int32 → PH → Option (Int32 × PH)
  | 0 => fun _ _ _ _ _ => none
  | n + 1 => b_Rea_splitPair_17 F (f_Rea_splitPair_17 F n)
theorem g_Rea_splitPair_17 {l : Launch} {E : ET} {d : Nat} (hd : 4 ≤ d) {F : Nat} {r : Int32} {h9 : PH} {x : Nat} {k17 : Nat → Nat → Int64 → Int32 → PH → Option (Int32 × PH)} (hk17 : ∀ (a0 : Nat) (a1 : Nat) (i2 : Int64) (i4 : Int32) (hh : PH), k17 a0 a1 i2 i4 hh = some (r, h9) → Go l E m_Rea_splitPair (rm d 0 0) (KM E 0 0 (PoE (some (.int r)) h9 x)) 0 0 hh x 17 [(0, .ref a0), (1, .ref a1), (2, .long i2), (4, .int i4)] []) (a0 : Nat) (a1 : Nat) (i2 : Int64) (i4 : Int32) (h : PH) (hf : b_Rea_splitPair_17 F k17 a0 a1 i2 i4 h = some (r, h9)) : Go l E m_Rea_splitPair (rm d 0 0) (KM E 0 0 (PoE (some (.int r)) h9 x)) 0 0 h x 17 [(0, .ref a0), (1, .ref a1), (2, .long i2), (4, .int i4)] [] := by
  unfold b_Rea_splitPair_17 at hf
  refine go_iload 3 d_Rea_splitPair_17 rfl ?_
  refine go_bipush (18 : Int32) d_Rea_splitPair_19 (by decide) ?_
  refine go_icmp_ge 90 d_Rea_splitPair_21 (by decide) (fun q3 => ?_) (fun q3 => ?_)
  · rw [if_pos q3] at hf
    refine go_iconst (0 : Int32) d_Rea_splitPair_90 (by decide) ?_
    obtain ⟨e8, e9⟩ := Prod.mk.inj (Option.some.inj hf)
    subst e8; subst e9
    exact go_zret d_Rea_splitPair_91 rfl rfl ⟨rfl, rfl, rfl⟩
  · rw [if_neg q3] at hf
    refine go_iload 3 d_Rea_splitPair_24 rfl ?_
    obtain ⟨x1, e_x1, hf⟩ := bnd_x hf
    refine go_callS_L (As := [.int i4]) (st := []) (c_Grd_unit (d := d - 1) (by omega) e_x1) lk_Rea_99 rfl rfl (rm_ok (by omega)) (Nat.le_of_ble_eq_true rfl) rm_c d_Rea_splitPair_26 ?_
    refine go_lload_n 2 d_Rea_splitPair_29 rfl ?_
    refine go_land d_Rea_splitPair_30 ?_
    refine go_lstore (lv' := [(5, .long (x1 &&& i2)), (0, .ref a0), (1, .ref a1), (2, .long i2), (4, .int i4)]) d_Rea_splitPair_31 rfl (by decide) ?_
    refine go_lload 0 d_Rea_splitPair_33 rfl ?_
    obtain ⟨x2, e_x2, hf⟩ := bnd_x hf
    refine go_callS_I (As := [.long (x1 &&& i2)]) (st := []) (c_Lng_bitCount (d := d - 1) (by omega) e_x2) lk_Rea_135 rfl rfl (rm_ok (by omega)) (Nat.le_of_ble_eq_true rfl) rm_c d_Rea_splitPair_35 ?_
    refine go_istore (lv' := [(7, .int x2), (5, .long (x1 &&& i2)), (0, .ref a0), (1, .ref a1), (2, .long i2), (4, .int i4)]) d_Rea_splitPair_38 rfl (by decide) ?_
    refine go_sub (lv' := [(0, .ref a0), (1, .ref a1), (2, .long i2), (4, .int i4), (5, .long (x1 &&& i2)), (7, .int x2)]) [2, 3, 4, 5, 1, 0] rfl ?_
    exact t_Rea_splitPair_40 hd hk17 _ a0 a1 i2 i4 (x1 &&& i2) x2 h hf
theorem t_Rea_splitPair_17 {l : Launch} {E : ET} {d : Nat} (hd : 4 ≤ d) {F : Nat} {r : Int32} {h9 : PH} {x : Nat}  : ∀ (n : Nat) (a0 : Nat) (a1 : Nat) (i2 : Int64) (i4 : Int32) (hh : PH), f_Rea_splitPair_17 F n a0 a1 i2 i4 hh = some (r, h9) → Go l E m_Rea_splitPair (rm d 0 0) (KM E 0 0 (PoE (some (.int r)) h9 x)) 0 0 hh x 17 [(0, .ref a0), (1, .ref a1), (2, .long i2), (4, .int i4)] [] := by
  intro n
  induction n with
  | zero => intro v0 v1 v2 v3 v4 hf; cases hf
  | succ n ih => intro v0 v1 v2 v3 v4 hf; exact g_Rea_splitPair_17 hd ih v0 v1 v2 v3 v4 hf
def f_Rea_splitPair (F : Nat) (a0 : Nat) (a1 : Nat) (h : PH) : Option (Int32 × PH) :=
  bnd (gL h a0 3 5) fun x1 => bnd (gL h a0 3 6) fun x2 => bnd (some (x1 &&& (x2 ^^^ (-1 : Int64)))) fun y3 => f_Rea_splitPair_17 F F a0 a1 y3 (0 : Int32) h
theorem g_Rea_splitPair_0 {l : Launch} {E : ET} {d : Nat} (hd : 4 ≤ d) {F : Nat} {r : Int32} {h9 : PH} {x : Nat}  (a0 : Nat) (a1 : Nat) (h : PH) (hf : f_Rea_splitPair F a0 a1 h = some (r, h9)) : Go l E m_Rea_splitPair (rm d 0 0) (KM E 0 0 (PoE (some (.int r)) h9 x)) 0 0 h x 0 [(0, .ref a0), (1, .ref a1)] [] := by
  unfold f_Rea_splitPair at hf
  refine go_aload_n 0 d_Rea_splitPair_0 rfl ?_
  obtain ⟨x1, e_x1, hf⟩ := bnd_x hf
  refine go_get d_Rea_splitPair_1 (gL_x e_x1) fl_Rea_63 ?_
  refine go_aload_n 0 d_Rea_splitPair_4 rfl ?_
  obtain ⟨x2, e_x2, hf⟩ := bnd_x hf
  refine go_get d_Rea_splitPair_5 (gL_x e_x2) fl_Rea_66 ?_
  refine go_ldc2 (-1 : Int64) d_Rea_splitPair_8 kl_Rea_75 ?_
  refine go_lxor d_Rea_splitPair_11 ?_
  refine go_land d_Rea_splitPair_12 ?_
  obtain ⟨y3, e_y3, hf⟩ := bnd_x hf
  refine go_nmL e_y3 ?_
  refine go_lstore_n (lv' := [(2, .long y3), (0, .ref a0), (1, .ref a1)]) d_Rea_splitPair_13 rfl (by decide) ?_
  refine go_iconst (0 : Int32) d_Rea_splitPair_14 (by decide) ?_
  refine go_istore (lv' := [(4, .int (0 : Int32)), (2, .long y3), (0, .ref a0), (1, .ref a1)]) d_Rea_splitPair_15 rfl (by decide) ?_
  refine go_sub (lv' := [(0, .ref a0), (1, .ref a1), (2, .long y3), (4, .int (0 : Int32))]) [2, 3, 1, 0] rfl ?_
  exact t_Rea_splitPair_17 hd  _ a0 a1 y3 (0 : Int32) h hf
theorem c_Rea_splitPair {l : Launch} {E : ET} {d : Nat} (hd : 4 ≤ d) {F : Nat} {r : Int32} {h9 : PH} {x : Nat} {a0 : Nat} {a1 : Nat} {h : PH} (hf : f_Rea_splitPair F a0 a1 h = some (r, h9)) : Fn l E m_Rea_splitPair d 0 0 [.ref a0, .ref a1] h x (PoE (some (.int r)) h9 x) :=
  Fn.of (by decide +kernel) (Nat.le_of_ble_eq_true rfl) (g_Rea_splitPair_0 hd a0 a1 h hf)
theorem d_Rea_next_0 : decode prog_6_method_2_code 0 = .ok (.aload_n 0, 1) := by decide +kernel
theorem d_Rea_next_1 : decode prog_6_method_2_code 1 = .ok (.iconst 0, 1) := by decide +kernel
theorem d_Rea_next_2 : decode prog_6_method_2_code 2 = .ok (.iconst (-1), 1) := by decide +kernel
theorem d_Rea_next_3 : decode prog_6_method_2_code 3 = .ok (.iconst 0, 1) := by decide +kernel
theorem d_Rea_next_4 : decode prog_6_method_2_code 4 = .ok (.invokevirtual 18, 3) := by decide +kernel
theorem d_Rea_next_7 : decode prog_6_method_2_code 7 = .ok (.pop, 1) := by decide +kernel
theorem d_Rea_next_8 : decode prog_6_method_2_code 8 = .ok (.aload_n 0, 1) := by decide +kernel
theorem d_Rea_next_9 : decode prog_6_method_2_code 9 = .ok (.aload_n 1, 1) := by decide +kernel
theorem d_Rea_next_10 : decode prog_6_method_2_code 10 = .ok (.invokevirtual 22, 3) := by decide +kernel
theorem d_Rea_next_13 : decode prog_6_method_2_code 13 = .ok (.aload_n 0, 1) := by decide +kernel
theorem d_Rea_next_14 : decode prog_6_method_2_code 14 = .ok (.getfield 26, 3) := by decide +kernel
theorem d_Rea_next_17 : decode prog_6_method_2_code 17 = .ok (.ldc2_w 30, 3) := by decide +kernel
theorem d_Rea_next_20 : decode prog_6_method_2_code 20 = .ok (.lcmp, 1) := by decide +kernel
theorem d_Rea_next_21 : decode prog_6_method_2_code 21 = .ok (.ifCond .eq 5, 3) := by decide +kernel
theorem d_Rea_next_24 : decode prog_6_method_2_code 24 = .ok (.iconst 0, 1) := by decide +kernel
theorem d_Rea_next_25 : decode prog_6_method_2_code 25 = .ok (.ireturn, 1) := by decide +kernel
theorem d_Rea_next_26 : decode prog_6_method_2_code 26 = .ok (.aload_n 0, 1) := by decide +kernel
theorem d_Rea_next_27 : decode prog_6_method_2_code 27 = .ok (.aload_n 1, 1) := by decide +kernel
theorem d_Rea_next_28 : decode prog_6_method_2_code 28 = .ok (.aload_n 2, 1) := by decide +kernel
theorem d_Rea_next_29 : decode prog_6_method_2_code 29 = .ok (.invokevirtual 32, 3) := by decide +kernel
theorem d_Rea_next_32 : decode prog_6_method_2_code 32 = .ok (.ifCond .ne 68, 3) := by decide +kernel
theorem d_Rea_next_35 : decode prog_6_method_2_code 35 = .ok (.aload_n 0, 1) := by decide +kernel
theorem d_Rea_next_36 : decode prog_6_method_2_code 36 = .ok (.aload_n 1, 1) := by decide +kernel
theorem d_Rea_next_37 : decode prog_6_method_2_code 37 = .ok (.invokevirtual 36, 3) := by decide +kernel
theorem d_Rea_next_40 : decode prog_6_method_2_code 40 = .ok (.ifCond .ne 60, 3) := by decide +kernel
theorem d_Rea_next_43 : decode prog_6_method_2_code 43 = .ok (.aload_n 1, 1) := by decide +kernel
theorem d_Rea_next_44 : decode prog_6_method_2_code 44 = .ok (.aload_n 2, 1) := by decide +kernel
theorem d_Rea_next_45 : decode prog_6_method_2_code 45 = .ok (.invokestatic 40, 3) := by decide +kernel
theorem d_Rea_next_48 : decode prog_6_method_2_code 48 = .ok (.ifCond .eq 36, 3) := by decide +kernel
theorem d_Rea_next_51 : decode prog_6_method_2_code 51 = .ok (.aload_n 0, 1) := by decide +kernel
theorem d_Rea_next_52 : decode prog_6_method_2_code 52 = .ok (.aload_n 1, 1) := by decide +kernel
theorem d_Rea_next_53 : decode prog_6_method_2_code 53 = .ok (.aload_n 2, 1) := by decide +kernel
theorem d_Rea_next_54 : decode prog_6_method_2_code 54 = .ok (.iconst 2, 1) := by decide +kernel
theorem d_Rea_next_55 : decode prog_6_method_2_code 55 = .ok (.iconst 3, 1) := by decide +kernel
theorem d_Rea_next_56 : decode prog_6_method_2_code 56 = .ok (.invokevirtual 43, 3) := by decide +kernel
theorem d_Rea_next_59 : decode prog_6_method_2_code 59 = .ok (.ifCond .ne 41, 3) := by decide +kernel
theorem d_Rea_next_62 : decode prog_6_method_2_code 62 = .ok (.aload_n 0, 1) := by decide +kernel
theorem d_Rea_next_63 : decode prog_6_method_2_code 63 = .ok (.aload_n 1, 1) := by decide +kernel
theorem d_Rea_next_64 : decode prog_6_method_2_code 64 = .ok (.aload_n 2, 1) := by decide +kernel
theorem d_Rea_next_65 : decode prog_6_method_2_code 65 = .ok (.iconst 0, 1) := by decide +kernel
theorem d_Rea_next_66 : decode prog_6_method_2_code 66 = .ok (.iconst 4, 1) := by decide +kernel
theorem d_Rea_next_67 : decode prog_6_method_2_code 67 = .ok (.invokevirtual 43, 3) := by decide +kernel
theorem d_Rea_next_70 : decode prog_6_method_2_code 70 = .ok (.ifCond .ne 30, 3) := by decide +kernel
theorem d_Rea_next_73 : decode prog_6_method_2_code 73 = .ok (.aload_n 0, 1) := by decide +kernel
theorem d_Rea_next_74 : decode prog_6_method_2_code 74 = .ok (.aload_n 1, 1) := by decide +kernel
theorem d_Rea_next_75 : decode prog_6_method_2_code 75 = .ok (.aload_n 2, 1) := by decide +kernel
theorem d_Rea_next_76 : decode prog_6_method_2_code 76 = .ok (.iconst 1, 1) := by decide +kernel
theorem d_Rea_next_77 : decode prog_6_method_2_code 77 = .ok (.iconst 5, 1) := by decide +kernel
theorem d_Rea_next_78 : decode prog_6_method_2_code 78 = .ok (.invokevirtual 43, 3) := by decide +kernel
theorem d_Rea_next_81 : decode prog_6_method_2_code 81 = .ok (.ifCond .ne 19, 3) := by decide +kernel
theorem d_Rea_next_84 : decode prog_6_method_2_code 84 = .ok (.aload_n 0, 1) := by decide +kernel
theorem d_Rea_next_85 : decode prog_6_method_2_code 85 = .ok (.aload_n 1, 1) := by decide +kernel
theorem d_Rea_next_86 : decode prog_6_method_2_code 86 = .ok (.invokevirtual 47, 3) := by decide +kernel
theorem d_Rea_next_89 : decode prog_6_method_2_code 89 = .ok (.ifCond .ne 11, 3) := by decide +kernel
theorem d_Rea_next_92 : decode prog_6_method_2_code 92 = .ok (.aload_n 0, 1) := by decide +kernel
theorem d_Rea_next_93 : decode prog_6_method_2_code 93 = .ok (.aload_n 1, 1) := by decide +kernel
theorem d_Rea_next_94 : decode prog_6_method_2_code 94 = .ok (.invokevirtual 50, 3) := by decide +kernel
theorem d_Rea_next_97 : decode prog_6_method_2_code 97 = .ok (.ifCond .eq 7, 3) := by decide +kernel
theorem d_Rea_next_100 : decode prog_6_method_2_code 100 = .ok (.iconst 1, 1) := by decide +kernel
theorem d_Rea_next_101 : decode prog_6_method_2_code 101 = .ok (.goto 4, 3) := by decide +kernel
theorem d_Rea_next_104 : decode prog_6_method_2_code 104 = .ok (.iconst 0, 1) := by decide +kernel
theorem d_Rea_next_105 : decode prog_6_method_2_code 105 = .ok (.istore_n 3, 1) := by decide +kernel
theorem d_Rea_next_106 : decode prog_6_method_2_code 106 = .ok (.iload_n 3, 1) := by decide +kernel
theorem d_Rea_next_107 : decode prog_6_method_2_code 107 = .ok (.ifCond .eq 10, 3) := by decide +kernel
theorem d_Rea_next_110 : decode prog_6_method_2_code 110 = .ok (.aload_n 0, 1) := by decide +kernel
theorem d_Rea_next_111 : decode prog_6_method_2_code 111 = .ok (.getfield 53, 3) := by decide +kernel
theorem d_Rea_next_114 : decode prog_6_method_2_code 114 = .ok (.goto 4, 3) := by decide +kernel
theorem d_Rea_next_117 : decode prog_6_method_2_code 117 = .ok (.iconst 0, 1) := by decide +kernel
theorem d_Rea_next_118 : decode prog_6_method_2_code 118 = .ok (.ireturn, 1) := by decide +kernel
def b_Rea_next_105 (F : Nat) (a0 : Nat) (s0 : Int32) (h : PH) : Option (Int32 × PH) :=
  (if s0 = (0 : Int32) then some ((0 : Int32), h) else bnd (gI h a0 3 1) fun x1 => some (x1, h))
theorem g_Rea_next_105 {l : Launch} {E : ET} {d : Nat} (hd : 65 ≤ d) {F : Nat} {r : Int32} {h9 : PH} {x : Nat}  (a0 : Nat) (s0 : Int32) (h : PH) (hf : b_Rea_next_105 F a0 s0 h = some (r, h9)) : Go l E m_Rea_next (rm d 0 0) (KM E 0 0 (PoE (some (.int r)) h9 x)) 0 0 h x 105 [(0, .ref a0)] [.int s0] := by
  unfold b_Rea_next_105 at hf
  refine go_istore_n (lv' := [(3, .int s0), (0, .ref a0)]) d_Rea_next_105 rfl (by decide) ?_
  refine go_iload_n 0 d_Rea_next_106 rfl ?_
  refine go_if_eq 117 d_Rea_next_107 (by decide) (fun q2 => ?_) (fun q2 => ?_)
  · rw [if_pos q2] at hf
    refine go_iconst (0 : Int32) d_Rea_next_117 (by decide) ?_
    obtain ⟨e8, e9⟩ := Prod.mk.inj (Option.some.inj hf)
    subst e8; subst e9
    exact go_iret d_Rea_next_118 rfl ⟨rfl, rfl, rfl⟩
  · rw [if_neg q2] at hf
    refine go_aload_n 1 d_Rea_next_110 rfl ?_
    obtain ⟨x1, e_x1, hf⟩ := bnd_x hf
    refine go_get d_Rea_next_111 (gI_x e_x1) fl_Rea_53 ?_
    refine go_goto 118 d_Rea_next_114 (by decide) ?_
    obtain ⟨e8, e9⟩ := Prod.mk.inj (Option.some.inj hf)
    subst e8; subst e9
    exact go_iret d_Rea_next_118 rfl ⟨rfl, rfl, rfl⟩
def b_Rea_next_100 (F : Nat) (a0 : Nat) (h : PH) : Option (Int32 × PH) :=
  b_Rea_next_105 F a0 (1 : Int32) h
theorem g_Rea_next_100 {l : Launch} {E : ET} {d : Nat} (hd : 65 ≤ d) {F : Nat} {r : Int32} {h9 : PH} {x : Nat}  (a0 : Nat) (h : PH) (hf : b_Rea_next_100 F a0 h = some (r, h9)) : Go l E m_Rea_next (rm d 0 0) (KM E 0 0 (PoE (some (.int r)) h9 x)) 0 0 h x 100 [(0, .ref a0)] [] := by
  unfold b_Rea_next_100 at hf
  refine go_iconst (1 : Int32) d_Rea_next_100 (by decide) ?_
  refine go_goto 105 d_Rea_next_101 (by decide) ?_
  refine go_sub (lv' := [(0, .ref a0)]) [0] rfl ?_
  exact g_Rea_next_105 hd  a0 (1 : Int32) h hf
def b_Rea_next_84 (F : Nat) (a0 : Nat) (a1 : Nat) (h : PH) : Option (Int32 × PH) :=
  bnd (cK h a0 3) fun _ => bnd2 (f_Rea_lockAnywhere F a0 a1 h) fun x2 h3 => (if x2 = (0 : Int32) then bnd (cK h3 a0 3) fun _ => bnd2 (f_Rea_splitPair F a0 a1 h3) fun x5 h6 => (if x5 = (0 : Int32) then b_Rea_next_105 F a0 (0 : Int32) h6 else b_Rea_next_100 F a0 h6) else b_Rea_next_100 F a0 h3)
theorem g_Rea_next_84 {l : Launch} {E : ET} {d : Nat} (hd : 65 ≤ d) {F : Nat} {r : Int32} {h9 : PH} {x : Nat}  (a0 : Nat) (a1 : Nat) (h : PH) (hf : b_Rea_next_84 F a0 a1 h = some (r, h9)) : Go l E m_Rea_next (rm d 0 0) (KM E 0 0 (PoE (some (.int r)) h9 x)) 0 0 h x 84 [(0, .ref a0), (1, .ref a1)] [] := by
  unfold b_Rea_next_84 at hf
  refine go_aload_n 0 d_Rea_next_84 rfl ?_
  refine go_aload_n 1 d_Rea_next_85 rfl ?_
  obtain ⟨_, e1, hf⟩ := bnd_x hf
  obtain ⟨x2, h3, e_x2, hf⟩ := bnd2_x hf
  refine go_callV_I (As := [.ref a1]) (st := []) (c_Rea_lockAnywhere (d := d - 1) (by omega) e_x2) lk_Rea_47 rfl rfl e1 (by decide) rfl (rm_ok (by omega)) (Nat.le_of_ble_eq_true rfl) rm_c d_Rea_next_86 ?_
  refine go_if_ne 100 d_Rea_next_89 (by decide) (fun q8 => ?_) (fun q8 => ?_)
  · rw [if_neg q8] at hf
    refine go_sub (lv' := [(0, .ref a0)]) [0] rfl ?_
    exact g_Rea_next_100 hd  a0 h3 hf
  · rw [if_pos q8] at hf
    refine go_aload_n 0 d_Rea_next_92 rfl ?_
    refine go_aload_n 1 d_Rea_next_93 rfl ?_
    obtain ⟨_, e4, hf⟩ := bnd_x hf
    obtain ⟨x5, h6, e_x5, hf⟩ := bnd2_x hf
    refine go_callV_I (As := [.ref a1]) (st := []) (c_Rea_splitPair (d := d - 1) (by omega) e_x5) lk_Rea_50 rfl rfl e4 (by decide) rfl (rm_ok (by omega)) (Nat.le_of_ble_eq_true rfl) rm_c d_Rea_next_94 ?_
    refine go_if_eq 104 d_Rea_next_97 (by decide) (fun q7 => ?_) (fun q7 => ?_)
    · rw [if_pos q7] at hf
      refine go_iconst (0 : Int32) d_Rea_next_104 (by decide) ?_
      refine go_sub (lv' := [(0, .ref a0)]) [0] rfl ?_
      exact g_Rea_next_105 hd  a0 (0 : Int32) h6 hf
    · rw [if_neg q7] at hf
      refine go_sub (lv' := [(0, .ref a0)]) [0] rfl ?_
      exact g_Rea_next_100 hd  a0 h6 hf
def f_Rea_next (F : Nat) (a0 : Nat) (a1 : Nat) (a2 : Nat) (h : PH) : Option (Int32 × PH) :=
  bnd (cK h a0 3) fun _ => bnd2 (f_Rea_note a0 (0 : Int32) (-1 : Int32) (0 : Int32) h) fun x2 h3 => bnd (cK h3 a0 3) fun _ => bnd (f_Rea_survey F a0 a1 h3) fun h5 => bnd (gL h5 a0 3 4) fun x6 => (if (lg_cmp x6 (68719476735 : Int64)) = (0 : Int32) then bnd (cK h5 a0 3) fun _ => bnd2 (f_Rea_placeSingle F a0 a1 a2 h5) fun x8 h9 => (if x8 = (0 : Int32) then bnd (cK h9 a0 3) fun _ => bnd2 (f_Rea_keepOnlyPlace F a0 a1 h9) fun x11 h12 => (if x11 = (0 : Int32) then bnd2 (f_Rea_wake F a1 a2 h12) fun x13 h14 => (if x13 = (0 : Int32) then b_Rea_next_84 F a0 a1 h14 else bnd (cK h14 a0 3) fun _ => bnd2 (f_Rea_askKind F a0 a1 a2 (2 : Int32) (3 : Int32) h14) fun x16 h17 => (if x16 = (0 : Int32) then bnd (cK h17 a0 3) fun _ => bnd2 (f_Rea_askKind F a0 a1 a2 (0 : Int32) (4 : Int32) h17) fun x19 h20 => (if x19 = (0 : Int32) then bnd (cK h20 a0 3) fun _ => bnd2 (f_Rea_askKind F a0 a1 a2 (1 : Int32) (5 : Int32) h20) fun x22 h23 => (if x22 = (0 : Int32) then b_Rea_next_84 F a0 a1 h23 else b_Rea_next_100 F a0 h23) else b_Rea_next_100 F a0 h20) else b_Rea_next_100 F a0 h17)) else b_Rea_next_100 F a0 h12) else b_Rea_next_100 F a0 h9) else some ((0 : Int32), h5))
theorem g_Rea_next_0 {l : Launch} {E : ET} {d : Nat} (hd : 65 ≤ d) {F : Nat} {r : Int32} {h9 : PH} {x : Nat}  (a0 : Nat) (a1 : Nat) (a2 : Nat) (h : PH) (hf : f_Rea_next F a0 a1 a2 h = some (r, h9)) : Go l E m_Rea_next (rm d 0 0) (KM E 0 0 (PoE (some (.int r)) h9 x)) 0 0 h x 0 [(0, .ref a0), (1, .ref a1), (2, .ref a2)] [] := by
  unfold f_Rea_next at hf
  refine go_aload_n 0 d_Rea_next_0 rfl ?_
  refine go_iconst (0 : Int32) d_Rea_next_1 (by decide) ?_
  refine go_iconst (-1 : Int32) d_Rea_next_2 (by decide) ?_
  refine go_iconst (0 : Int32) d_Rea_next_3 (by decide) ?_
  obtain ⟨_, e1, hf⟩ := bnd_x hf
  obtain ⟨x2, h3, e_x2, hf⟩ := bnd2_x hf
  refine go_callV_I (As := [.int (0 : Int32), .int (-1 : Int32), .int (0 : Int32)]) (st := []) (c_Rea_note (d := d - 1) (by omega) e_x2) lk_Rea_18 rfl rfl e1 (by decide) rfl (rm_ok (by omega)) (Nat.le_of_ble_eq_true rfl) rm_c d_Rea_next_4 ?_
  refine go_pop d_Rea_next_7 rfl ?_
  refine go_aload_n 0 d_Rea_next_8 rfl ?_
  refine go_aload_n 1 d_Rea_next_9 rfl ?_
  obtain ⟨_, e4, hf⟩ := bnd_x hf
  obtain ⟨h5, e_x5, hf⟩ := bnd_x hf
  refine go_callV_N (As := [.ref a1]) (st := []) (c_Rea_survey (d := d - 1) (by omega) e_x5) lk_Rea_22 rfl rfl e4 (by decide) rfl (rm_ok (by omega)) (Nat.le_of_ble_eq_true rfl) rm_c d_Rea_next_10 ?_
  refine go_aload_n 0 d_Rea_next_13 rfl ?_
  obtain ⟨x6, e_x6, hf⟩ := bnd_x hf
  refine go_get d_Rea_next_14 (gL_x e_x6) fl_Rea_26 ?_
  refine go_ldc2 (68719476735 : Int64) d_Rea_next_17 kl_Rea_30 ?_
  refine go_lcmp d_Rea_next_20 ?_
  refine go_if_eq 26 d_Rea_next_21 (by decide) (fun q30 => ?_) (fun q30 => ?_)
  · rw [if_pos q30] at hf
    refine go_aload_n 0 d_Rea_next_26 rfl ?_
    refine go_aload_n 1 d_Rea_next_27 rfl ?_
    refine go_aload_n 2 d_Rea_next_28 rfl ?_
    obtain ⟨_, e7, hf⟩ := bnd_x hf
    obtain ⟨x8, h9, e_x8, hf⟩ := bnd2_x hf
    refine go_callV_I (As := [.ref a1, .ref a2]) (st := []) (c_Rea_placeSingle (d := d - 1) (by omega) e_x8) lk_Rea_32 rfl rfl e7 (by decide) rfl (rm_ok (by omega)) (Nat.le_of_ble_eq_true rfl) rm_c d_Rea_next_29 ?_
    refine go_if_ne 100 d_Rea_next_32 (by decide) (fun q29 => ?_) (fun q29 => ?_)
    · rw [if_neg q29] at hf
      refine go_sub (lv' := [(0, .ref a0)]) [0] rfl ?_
      exact g_Rea_next_100 hd  a0 h9 hf
    · rw [if_pos q29] at hf
      refine go_aload_n 0 d_Rea_next_35 rfl ?_
      refine go_aload_n 1 d_Rea_next_36 rfl ?_
      obtain ⟨_, e10, hf⟩ := bnd_x hf
      obtain ⟨x11, h12, e_x11, hf⟩ := bnd2_x hf
      refine go_callV_I (As := [.ref a1]) (st := []) (c_Rea_keepOnlyPlace (d := d - 1) (by omega) e_x11) lk_Rea_36 rfl rfl e10 (by decide) rfl (rm_ok (by omega)) (Nat.le_of_ble_eq_true rfl) rm_c d_Rea_next_37 ?_
      refine go_if_ne 100 d_Rea_next_40 (by decide) (fun q28 => ?_) (fun q28 => ?_)
      · rw [if_neg q28] at hf
        refine go_sub (lv' := [(0, .ref a0)]) [0] rfl ?_
        exact g_Rea_next_100 hd  a0 h12 hf
      · rw [if_pos q28] at hf
        refine go_aload_n 1 d_Rea_next_43 rfl ?_
        refine go_aload_n 2 d_Rea_next_44 rfl ?_
        obtain ⟨x13, h14, e_x13, hf⟩ := bnd2_x hf
        refine go_callS_I (As := [.ref a1, .ref a2]) (st := []) (c_Rea_wake (d := d - 1) (by omega) e_x13) lk_Rea_40 rfl rfl (rm_ok (by omega)) (Nat.le_of_ble_eq_true rfl) rm_c d_Rea_next_45 ?_
        refine go_if_eq 84 d_Rea_next_48 (by decide) (fun q27 => ?_) (fun q27 => ?_)
        · rw [if_pos q27] at hf
          refine go_sub (lv' := [(0, .ref a0), (1, .ref a1)]) [0, 1] rfl ?_
          exact g_Rea_next_84 hd  a0 a1 h14 hf
        · rw [if_neg q27] at hf
          refine go_aload_n 0 d_Rea_next_51 rfl ?_
          refine go_aload_n 1 d_Rea_next_52 rfl ?_
          refine go_aload_n 2 d_Rea_next_53 rfl ?_
          refine go_iconst (2 : Int32) d_Rea_next_54 (by decide) ?_
          refine go_iconst (3 : Int32) d_Rea_next_55 (by decide) ?_
          obtain ⟨_, e15, hf⟩ := bnd_x hf
          obtain ⟨x16, h17, e_x16, hf⟩ := bnd2_x hf
          refine go_callV_I (As := [.ref a1, .ref a2, .int (2 : Int32), .int (3 : Int32)]) (st := []) (c_Rea_askKind (d := d - 1) (by omega) e_x16) lk_Rea_43 rfl rfl e15 (by decide) rfl (rm_ok (by omega)) (Nat.le_of_ble_eq_true rfl) rm_c d_Rea_next_56 ?_
          refine go_if_ne 100 d_Rea_next_59 (by decide) (fun q26 => ?_) (fun q26 => ?_)
          · rw [if_neg q26] at hf
            refine go_sub (lv' := [(0, .ref a0)]) [0] rfl ?_
            exact g_Rea_next_100 hd  a0 h17 hf
          · rw [if_pos q26] at hf
            refine go_aload_n 0 d_Rea_next_62 rfl ?_
            refine go_aload_n 1 d_Rea_next_63 rfl ?_
            refine go_aload_n 2 d_Rea_next_64 rfl ?_
            refine go_iconst (0 : Int32) d_Rea_next_65 (by decide) ?_
            refine go_iconst (4 : Int32) d_Rea_next_66 (by decide) ?_
            obtain ⟨_, e18, hf⟩ := bnd_x hf
            obtain ⟨x19, h20, e_x19, hf⟩ := bnd2_x hf
            refine go_callV_I (As := [.ref a1, .ref a2, .int (0 : Int32), .int (4 : Int32)]) (st := []) (c_Rea_askKind (d := d - 1) (by omega) e_x19) lk_Rea_43 rfl rfl e18 (by decide) rfl (rm_ok (by omega)) (Nat.le_of_ble_eq_true rfl) rm_c d_Rea_next_67 ?_
            refine go_if_ne 100 d_Rea_next_70 (by decide) (fun q25 => ?_) (fun q25 => ?_)
            · rw [if_neg q25] at hf
              refine go_sub (lv' := [(0, .ref a0)]) [0] rfl ?_
              exact g_Rea_next_100 hd  a0 h20 hf
            · rw [if_pos q25] at hf
              refine go_aload_n 0 d_Rea_next_73 rfl ?_
              refine go_aload_n 1 d_Rea_next_74 rfl ?_
              refine go_aload_n 2 d_Rea_next_75 rfl ?_
              refine go_iconst (1 : Int32) d_Rea_next_76 (by decide) ?_
              refine go_iconst (5 : Int32) d_Rea_next_77 (by decide) ?_
              obtain ⟨_, e21, hf⟩ := bnd_x hf
              obtain ⟨x22, h23, e_x22, hf⟩ := bnd2_x hf
              refine go_callV_I (As := [.ref a1, .ref a2, .int (1 : Int32), .int (5 : Int32)]) (st := []) (c_Rea_askKind (d := d - 1) (by omega) e_x22) lk_Rea_43 rfl rfl e21 (by decide) rfl (rm_ok (by omega)) (Nat.le_of_ble_eq_true rfl) rm_c d_Rea_next_78 ?_
              refine go_if_ne 100 d_Rea_next_81 (by decide) (fun q24 => ?_) (fun q24 => ?_)
              · rw [if_neg q24] at hf
                refine go_sub (lv' := [(0, .ref a0)]) [0] rfl ?_
                exact g_Rea_next_100 hd  a0 h23 hf
              · rw [if_pos q24] at hf
                refine go_sub (lv' := [(0, .ref a0), (1, .ref a1)]) [0, 1] rfl ?_
                exact g_Rea_next_84 hd  a0 a1 h23 hf
  · rw [if_neg q30] at hf
    refine go_iconst (0 : Int32) d_Rea_next_24 (by decide) ?_
    obtain ⟨e8, e9⟩ := Prod.mk.inj (Option.some.inj hf)
    subst e8; subst e9
    exact go_iret d_Rea_next_25 rfl ⟨rfl, rfl, rfl⟩
theorem c_Rea_next {l : Launch} {E : ET} {d : Nat} (hd : 65 ≤ d) {F : Nat} {r : Int32} {h9 : PH} {x : Nat} {a0 : Nat} {a1 : Nat} {a2 : Nat} {h : PH} (hf : f_Rea_next F a0 a1 a2 h = some (r, h9)) : Fn l E m_Rea_next d 0 0 [.ref a0, .ref a1, .ref a2] h x (PoE (some (.int r)) h9 x) :=
  Fn.of (by decide +kernel) (Nat.le_of_ble_eq_true rfl) (g_Rea_next_0 hd a0 a1 a2 h hf)
