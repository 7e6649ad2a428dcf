/-! 13.solver: methods as functions, by program. -/
theorem d_Sol_forget_0 : decode prog_10_method_2_code 0 = .ok (.aload_n 0, 1) := by decide +kernel
theorem d_Sol_forget_1 : decode prog_10_method_2_code 1 = .ok (.iconst 0, 1) := by decide +kernel
theorem d_Sol_forget_2 : decode prog_10_method_2_code 2 = .ok (.putfield 36, 3) := by decide +kernel
theorem d_Sol_forget_5 : decode prog_10_method_2_code 5 = .ok (.aload_n 0, 1) := by decide +kernel
theorem d_Sol_forget_6 : decode prog_10_method_2_code 6 = .ok (.iconst 0, 1) := by decide +kernel
theorem d_Sol_forget_7 : decode prog_10_method_2_code 7 = .ok (.putfield 40, 3) := by decide +kernel
theorem d_Sol_forget_10 : decode prog_10_method_2_code 10 = .ok (.aload_n 0, 1) := by decide +kernel
theorem d_Sol_forget_11 : decode prog_10_method_2_code 11 = .ok (.iconst 0, 1) := by decide +kernel
theorem d_Sol_forget_12 : decode prog_10_method_2_code 12 = .ok (.putfield 43, 3) := by decide +kernel
theorem d_Sol_forget_15 : decode prog_10_method_2_code 15 = .ok (.return_, 1) := by decide +kernel
def f_Sol_forget (a0 : Nat) (h : PH) : Option PH :=
  bnd (pV h a0 7 4 (.int (0 : Int32))) fun h1 => bnd (pV h1 a0 7 5 (.int (0 : Int32))) fun h2 => bnd (pV h2 a0 7 6 (.int (0 : Int32))) fun h3 => some h3
theorem g_Sol_forget_0 {l : Launch} {E : ET} {d : Nat} (hd : 1 ≤ d) {h9 : PH} {x : Nat}  (a0 : Nat) (h : PH) (hf : f_Sol_forget a0 h = some h9) : Go l E m_Sol_forget (rm d 0 0) (KM E 0 0 (PoE none h9 x)) 0 0 h x 0 [(0, .ref a0)] [] := by
  unfold f_Sol_forget at hf
  refine go_aload_n 0 d_Sol_forget_0 rfl ?_
  refine go_iconst (0 : Int32) d_Sol_forget_1 (by decide) ?_
  obtain ⟨h1, e_h1, hf⟩ := bnd_x hf
  refine go_putI d_Sol_forget_2 e_h1 fl_Sol_36 rfl rfl ?_
  refine go_aload_n 0 d_Sol_forget_5 rfl ?_
  refine go_iconst (0 : Int32) d_Sol_forget_6 (by decide) ?_
  obtain ⟨h2, e_h2, hf⟩ := bnd_x hf
  refine go_putI d_Sol_forget_7 e_h2 fl_Sol_40 rfl rfl ?_
  refine go_aload_n 0 d_Sol_forget_10 rfl ?_
  refine go_iconst (0 : Int32) d_Sol_forget_11 (by decide) ?_
  obtain ⟨h3, e_h3, hf⟩ := bnd_x hf
  refine go_putZ d_Sol_forget_12 rfl e_h3 fl_Sol_43 rfl rfl ?_
  have e9 := Option.some.inj hf
  subst e9
  exact go_vret d_Sol_forget_15 rfl ⟨rfl, rfl, rfl⟩
theorem c_Sol_forget {l : Launch} {E : ET} {d : Nat} (hd : 1 ≤ d) {h9 : PH} {x : Nat} {a0 : Nat} {h : PH} (hf : f_Sol_forget a0 h = some h9) : Fn l E m_Sol_forget d 0 0 [.ref a0] h x (PoE none h9 x) :=
  Fn.of (by decide +kernel) (Nat.le_of_ble_eq_true rfl) (g_Sol_forget_0 hd a0 h hf)
theorem d_Sol_rank_0 : decode prog_10_method_6_code 0 = .ok (.iconst 1, 1) := by decide +kernel
theorem d_Sol_rank_1 : decode prog_10_method_6_code 1 = .ok (.istore_n 2, 1) := by decide +kernel
theorem d_Sol_rank_2 : decode prog_10_method_6_code 2 = .ok (.iload_n 2, 1) := by decide +kernel
theorem d_Sol_rank_3 : decode prog_10_method_6_code 3 = .ok (.bipush 6, 2) := by decide +kernel
theorem d_Sol_rank_5 : decode prog_10_method_6_code 5 = .ok (.if_icmp .gt 16, 3) := by decide +kernel
theorem d_Sol_rank_8 : decode prog_10_method_6_code 8 = .ok (.aload_n 0, 1) := by decide +kernel
theorem d_Sol_rank_9 : decode prog_10_method_6_code 9 = .ok (.getfield 33, 3) := by decide +kernel
theorem d_Sol_rank_12 : decode prog_10_method_6_code 12 = .ok (.iload_n 2, 1) := by decide +kernel
theorem d_Sol_rank_13 : decode prog_10_method_6_code 13 = .ok (.lconst 0, 1) := by decide +kernel
theorem d_Sol_rank_14 : decode prog_10_method_6_code 14 = .ok (.lastore, 1) := by decide +kernel
theorem d_Sol_rank_15 : decode prog_10_method_6_code 15 = .ok (.iinc 2 1, 3) := by decide +kernel
theorem d_Sol_rank_18 : decode prog_10_method_6_code 18 = .ok (.goto (-16), 3) := by decide +kernel
theorem d_Sol_rank_21 : decode prog_10_method_6_code 21 = .ok (.iconst 1, 1) := by decide +kernel
theorem d_Sol_rank_22 : decode prog_10_method_6_code 22 = .ok (.istore_n 2, 1) := by decide +kernel
theorem d_Sol_rank_23 : decode prog_10_method_6_code 23 = .ok (.iload_n 2, 1) := by decide +kernel
theorem d_Sol_rank_24 : decode prog_10_method_6_code 24 = .ok (.bipush 6, 2) := by decide +kernel
theorem d_Sol_rank_26 : decode prog_10_method_6_code 26 = .ok (.if_icmp .gt 63, 3) := by decide +kernel
theorem d_Sol_rank_29 : decode prog_10_method_6_code 29 = .ok (.aload_n 1, 1) := by decide +kernel
theorem d_Sol_rank_30 : decode prog_10_method_6_code 30 = .ok (.getfield 92, 3) := by decide +kernel
theorem d_Sol_rank_33 : decode prog_10_method_6_code 33 = .ok (.iload_n 2, 1) := by decide +kernel
theorem d_Sol_rank_34 : decode prog_10_method_6_code 34 = .ok (.laload, 1) := by decide +kernel
theorem d_Sol_rank_35 : decode prog_10_method_6_code 35 = .ok (.lstore_n 3, 1) := by decide +kernel
theorem d_Sol_rank_36 : decode prog_10_method_6_code 36 = .ok (.bipush 6, 2) := by decide +kernel
theorem d_Sol_rank_38 : decode prog_10_method_6_code 38 = .ok (.istore 5, 2) := by decide +kernel
theorem d_Sol_rank_40 : decode prog_10_method_6_code 40 = .ok (.iload 5, 2) := by decide +kernel
theorem d_Sol_rank_42 : decode prog_10_method_6_code 42 = .ok (.iconst 1, 1) := by decide +kernel
theorem d_Sol_rank_43 : decode prog_10_method_6_code 43 = .ok (.if_icmp .le 30, 3) := by decide +kernel
theorem d_Sol_rank_46 : decode prog_10_method_6_code 46 = .ok (.aload_n 0, 1) := by decide +kernel
theorem d_Sol_rank_47 : decode prog_10_method_6_code 47 = .ok (.getfield 33, 3) := by decide +kernel
theorem d_Sol_rank_50 : decode prog_10_method_6_code 50 = .ok (.iload 5, 2) := by decide +kernel
theorem d_Sol_rank_52 : decode prog_10_method_6_code 52 = .ok (.dup2, 1) := by decide +kernel
theorem d_Sol_rank_53 : decode prog_10_method_6_code 53 = .ok (.laload, 1) := by decide +kernel
theorem d_Sol_rank_54 : decode prog_10_method_6_code 54 = .ok (.aload_n 0, 1) := by decide +kernel
theorem d_Sol_rank_55 : decode prog_10_method_6_code 55 = .ok (.getfield 33, 3) := by decide +kernel
theorem d_Sol_rank_58 : decode prog_10_method_6_code 58 = .ok (.iload 5, 2) := by decide +kernel
theorem d_Sol_rank_60 : decode prog_10_method_6_code 60 = .ok (.iconst 1, 1) := by decide +kernel
theorem d_Sol_rank_61 : decode prog_10_method_6_code 61 = .ok (.isub, 1) := by decide +kernel
theorem d_Sol_rank_62 : decode prog_10_method_6_code 62 = .ok (.laload, 1) := by decide +kernel
theorem d_Sol_rank_63 : decode prog_10_method_6_code 63 = .ok (.lload_n 3, 1) := by decide +kernel
theorem d_Sol_rank_64 : decode prog_10_method_6_code 64 = .ok (.land, 1) := by decide +kernel
theorem d_Sol_rank_65 : decode prog_10_method_6_code 65 = .ok (.lor, 1) := by decide +kernel
theorem d_Sol_rank_66 : decode prog_10_method_6_code 66 = .ok (.lastore, 1) := by decide +kernel
theorem d_Sol_rank_67 : decode prog_10_method_6_code 67 = .ok (.iinc 5 (-1), 3) := by decide +kernel
theorem d_Sol_rank_70 : decode prog_10_method_6_code 70 = .ok (.goto (-30), 3) := by decide +kernel
theorem d_Sol_rank_73 : decode prog_10_method_6_code 73 = .ok (.aload_n 0, 1) := by decide +kernel
theorem d_Sol_rank_74 : decode prog_10_method_6_code 74 = .ok (.getfield 33, 3) := by decide +kernel
theorem d_Sol_rank_77 : decode prog_10_method_6_code 77 = .ok (.iconst 1, 1) := by decide +kernel
theorem d_Sol_rank_78 : decode prog_10_method_6_code 78 = .ok (.dup2, 1) := by decide +kernel
theorem d_Sol_rank_79 : decode prog_10_method_6_code 79 = .ok (.laload, 1) := by decide +kernel
theorem d_Sol_rank_80 : decode prog_10_method_6_code 80 = .ok (.lload_n 3, 1) := by decide +kernel
theorem d_Sol_rank_81 : decode prog_10_method_6_code 81 = .ok (.lor, 1) := by decide +kernel
theorem d_Sol_rank_82 : decode prog_10_method_6_code 82 = .ok (.lastore, 1) := by decide +kernel
theorem d_Sol_rank_83 : decode prog_10_method_6_code 83 = .ok (.iinc 2 1, 3) := by decide +kernel
theorem d_Sol_rank_86 : decode prog_10_method_6_code 86 = .ok (.goto (-63), 3) := by decide +kernel
theorem d_Sol_rank_89 : decode prog_10_method_6_code 89 = .ok (.return_, 1) := by decide +kernel
def b_Sol_rank_40 (F : Nat) (k23 : Nat → Nat → Int32 → PH → Option PH) (k40 : Nat → Nat → Int32 → Int64 → Int32 → PH → Option PH) (a0 : Nat) (a1 : Nat) (i2 : Int32) (i3 : Int64) (i5 : Int32) (h : PH) : Option PH :=
  (if i5 ≤ (1 : Int32) then bnd (gR h a0 7 8) fun x1 => bnd (aL h x1 (1 : Int32)) fun x2 => bnd (sL h x1 (1 : Int32) (x2 ||| i3)) fun h3 => k23 a0 a1 (i2 + (1 : Int32)) h3 else bnd (gR h a0 7 8) fun x4 => bnd (aL h x4 i5) fun x5 => bnd (gR h a0 7 8) fun x6 => bnd (aL h x6 (i5 - (1 : Int32))) fun x7 => bnd (sL h x4 i5 (x5 ||| (x7 &&& i3))) fun h8 => k40 a0 a1 i2 i3 (i5 + (-1 : Int32)) h8)
def f_Sol_rank_40 (F : Nat) (k23 : Nat → Nat → Int32 → PH → Option PH) : Nat → Nat → Nat → Int32 → Int64 → Int32 → PH → Option PH
  | 0 => fun _ _ _ _ _ _ => none
  | n + 1 => b_Sol_rank_40 F k23 (f_Sol_rank_40 F k23 n)
theorem g_Sol_rank_40 {l : Launch} {E : ET} {d : Nat} (hd : 1 ≤ d) {F : Nat} {h9 : PH} {x : Nat} {k23 : Nat → Nat → Int32 → PH → Option PH} (hk23 : ∀ (a0 : Nat) (a1 : Nat) (i2 : Int32) (hh : PH), k23 a0 a1 i2 hh = some h9 → Go l E m_Sol_rank (rm d 0 0) (KM E 0 0 (PoE none h9 x)) 0 0 hh x 23 [(0, .ref a0), (1, .ref a1), (2, .int i2)] []) {k40 : Nat → Nat → Int32 → Int64 → Int32 → PH → Option PH} (hk40 : ∀ (a0 : Nat) (a1 : Nat) (i2 : Int32) (i3 : Int64) (i5 : Int32) (hh : PH), k40 a0 a1 i2 i3 i5 hh = some h9 → Go l E m_Sol_rank (rm d 0 0) (KM E 0 0 (PoE none h9 x)) 0 0 hh x 40 [(0, .ref a0), (1, .ref a1), (2, .int i2), (3, .long i3), (5, .int i5)] []) (a0 : Nat) (a1 : Nat) (i2 : Int32) (i3 : Int64) (i5 : Int32) (h : PH) (hf : b_Sol_rank_40 F k23 k40 a0 a1 i2 i3 i5 h = some h9) : Go l E m_Sol_rank (rm d 0 0) (KM E 0 0 (PoE none h9 x)) 0 0 h x 40 [(0, .ref a0), (1, .ref a1), (2, .int i2), (3, .long i3), (5, .int i5)] [] := by
  unfold b_Sol_rank_40 at hf
  refine go_iload 4 d_Sol_rank_40 rfl ?_
  refine go_iconst (1 : Int32) d_Sol_rank_42 (by decide) ?_
  refine go_icmp_le 73 d_Sol_rank_43 (by decide) (fun q9 => ?_) (fun q9 => ?_)
  · rw [if_pos q9] at hf
    refine go_aload_n 0 d_Sol_rank_73 rfl ?_
    obtain ⟨x1, e_x1, hf⟩ := bnd_x hf
    refine go_get d_Sol_rank_74 (gR_x e_x1) fl_Sol_33 ?_
    refine go_iconst (1 : Int32) d_Sol_rank_77 (by decide) ?_
    refine go_dup2 d_Sol_rank_78 rfl rfl ?_
    obtain ⟨x2, e_x2, hf⟩ := bnd_x hf
    refine go_laload d_Sol_rank_79 e_x2 ?_
    refine go_lload_n 3 d_Sol_rank_80 rfl ?_
    refine go_lor d_Sol_rank_81 ?_
    obtain ⟨h3, e_h3, hf⟩ := bnd_x hf
    refine go_lastore d_Sol_rank_82 e_h3 ?_
    refine go_iinc (lv' := [(2, .int (i2 + (1 : Int32))), (0, .ref a0), (1, .ref a1), (3, .long i3), (5, .int i5)]) 2 (i2 + (1 : Int32)) d_Sol_rank_83 rfl rfl rfl (by decide) ?_
    refine go_goto 23 d_Sol_rank_86 (by decide) ?_
    refine go_sub (lv' := [(0, .ref a0), (1, .ref a1), (2, .int (i2 + (1 : Int32)))]) [1, 2, 0] rfl ?_
    exact hk23 a0 a1 (i2 + (1 : Int32)) h3 hf
  · rw [if_neg q9] at hf
    refine go_aload_n 0 d_Sol_rank_46 rfl ?_
    obtain ⟨x4, e_x4, hf⟩ := bnd_x hf
    refine go_get d_Sol_rank_47 (gR_x e_x4) fl_Sol_33 ?_
    refine go_iload 4 d_Sol_rank_50 rfl ?_
    refine go_dup2 d_Sol_rank_52 rfl rfl ?_
    obtain ⟨x5, e_x5, hf⟩ := bnd_x hf
    refine go_laload d_Sol_rank_53 e_x5 ?_
    refine go_aload_n 0 d_Sol_rank_54 rfl ?_
    obtain ⟨x6, e_x6, hf⟩ := bnd_x hf
    refine go_get d_Sol_rank_55 (gR_x e_x6) fl_Sol_33 ?_
    refine go_iload 4 d_Sol_rank_58 rfl ?_
    refine go_iconst (1 : Int32) d_Sol_rank_60 (by decide) ?_
    refine go_isub d_Sol_rank_61 ?_
    obtain ⟨x7, e_x7, hf⟩ := bnd_x hf
    refine go_laload d_Sol_rank_62 e_x7 ?_
    refine go_lload_n 3 d_Sol_rank_63 rfl ?_
    refine go_land d_Sol_rank_64 ?_
    refine go_lor d_Sol_rank_65 ?_
    obtain ⟨h8, e_h8, hf⟩ := bnd_x hf
    refine go_lastore d_Sol_rank_66 e_h8 ?_
    refine go_iinc (lv' := [(5, .int (i5 + (-1 : Int32))), (0, .ref a0), (1, .ref a1), (2, .int i2), (3, .long i3)]) 4 (i5 + (-1 : Int32)) d_Sol_rank_67 rfl rfl rfl (by decide) ?_
    refine go_goto 40 d_Sol_rank_70 (by decide) ?_
    refine go_sub (lv' := [(0, .ref a0), (1, .ref a1), (2, .int i2), (3, .long i3), (5, .int (i5 + (-1 : Int32)))]) [1, 2, 3, 4, 0] rfl ?_
    exact hk40 a0 a1 i2 i3 (i5 + (-1 : Int32)) h8 hf
theorem t_Sol_rank_40 {l : Launch} {E : ET} {d : Nat} (hd : 1 ≤ d) {F : Nat} {h9 : PH} {x : Nat} {k23 : Nat → Nat → Int32 → PH → Option PH} (hk23 : ∀ (a0 : Nat) (a1 : Nat) (i2 : Int32) (hh : PH), k23 a0 a1 i2 hh = some h9 → Go l E m_Sol_rank (rm d 0 0) (KM E 0 0 (PoE none h9 x)) 0 0 hh x 23 [(0, .ref a0), (1, .ref a1), (2, .int i2)] []) : ∀ (n : Nat) (a0 : Nat) (a1 : Nat) (i2 : Int32) (i3 : Int64) (i5 : Int32) (hh : PH), f_Sol_rank_40 F k23 n a0 a1 i2 i3 i5 hh = some h9 → Go l E m_Sol_rank (rm d 0 0) (KM E 0 0 (PoE none h9 x)) 0 0 hh x 40 [(0, .ref a0), (1, .ref a1), (2, .int i2), (3, .long i3), (5, .int i5)] [] := by
  intro n
  induction n with
  | zero => intro v0 v1 v2 v3 v4 v5 hf; cases hf
  | succ n ih => intro v0 v1 v2 v3 v4 v5 hf; exact g_Sol_rank_40 hd hk23 ih v0 v1 v2 v3 v4 v5 hf
def b_Sol_rank_23 (F : Nat) (k23 : Nat → Nat → Int32 → PH → Option PH) (a0 : Nat) (a1 : Nat) (i2 : Int32) (h : PH) : Option PH :=
  (if (6 : Int32) < i2 then some h else bnd (gR h a1 1 0) fun x1 => bnd (aL h x1 i2) fun x2 => f_Sol_rank_40 F k23 F a0 a1 i2 x2 (6 : Int32) h)
def f_Sol_rank_23 (F : Nat) : Nat → Nat → Nat → Int32 → PH → Option PH
  | 0 => fun _ _ _ _ => none
  | n + 1 => b_Sol_rank_23 F (f_Sol_rank_23 F n)
theorem g_Sol_rank_23 {l : Launch} {E : ET} {d : Nat} (hd : 1 ≤ d) {F : Nat} {h9 : PH} {x : Nat} {k23 : Nat → Nat → Int32 → PH → Option PH} (hk23 : ∀ (a0 : Nat) (a1 : Nat) (i2 : Int32) (hh : PH), k23 a0 a1 i2 hh = some h9 → Go l E m_Sol_rank (rm d 0 0) (KM E 0 0 (PoE none h9 x)) 0 0 hh x 23 [(0, .ref a0), (1, .ref a1), (2, .int i2)] []) (a0 : Nat) (a1 : Nat) (i2 : Int32) (h : PH) (hf : b_Sol_rank_23 F k23 a0 a1 i2 h = some h9) : Go l E m_Sol_rank (rm d 0 0) (KM E 0 0 (PoE none h9 x)) 0 0 h x 23 [(0, .ref a0), (1, .ref a1), (2, .int i2)] [] := by
  unfold b_Sol_rank_23 at hf
  refine go_iload_n 2 d_Sol_rank_23 rfl ?_
  refine go_bipush (6 : Int32) d_Sol_rank_24 (by decide) ?_
  refine go_icmp_gt 89 d_Sol_rank_26 (by decide) (fun q3 => ?_) (fun q3 => ?_)
  · rw [if_pos q3] at hf
    have e9 := Option.some.inj hf
    subst e9
    exact go_vret d_Sol_rank_89 rfl ⟨rfl, rfl, rfl⟩
  · rw [if_neg q3] at hf
    refine go_aload_n 1 d_Sol_rank_29 rfl ?_
    obtain ⟨x1, e_x1, hf⟩ := bnd_x hf
    refine go_get d_Sol_rank_30 (gR_x e_x1) fl_Sol_92 ?_
    refine go_iload_n 2 d_Sol_rank_33 rfl ?_
    obtain ⟨x2, e_x2, hf⟩ := bnd_x hf
    refine go_laload d_Sol_rank_34 e_x2 ?_
    refine go_lstore_n (lv' := [(3, .long x2), (0, .ref a0), (1, .ref a1), (2, .int i2)]) d_Sol_rank_35 rfl (by decide) ?_
    refine go_bipush (6 : Int32) d_Sol_rank_36 (by decide) ?_
    refine go_istore (lv' := [(5, .int (6 : Int32)), (3, .long x2), (0, .ref a0), (1, .ref a1), (2, .int i2)]) d_Sol_rank_38 rfl (by decide) ?_
    refine go_sub (lv' := [(0, .ref a0), (1, .ref a1), (2, .int i2), (3, .long x2), (5, .int (6 : Int32))]) [2, 3, 4, 1, 0] rfl ?_
    exact t_Sol_rank_40 hd hk23 _ a0 a1 i2 x2 (6 : Int32) h hf
theorem t_Sol_rank_23 {l : Launch} {E : ET} {d : Nat} (hd : 1 ≤ d) {F : Nat} {h9 : PH} {x : Nat}  : ∀ (n : Nat) (a0 : Nat) (a1 : Nat) (i2 : Int32) (hh : PH), f_Sol_rank_23 F n a0 a1 i2 hh = some h9 → Go l E m_Sol_rank (rm d 0 0) (KM E 0 0 (PoE none h9 x)) 0 0 hh x 23 [(0, .ref a0), (1, .ref a1), (2, .int i2)] [] := by
  intro n
  induction n with
  | zero => intro v0 v1 v2 v3 hf; cases hf
  | succ n ih => intro v0 v1 v2 v3 hf; exact g_Sol_rank_23 hd ih v0 v1 v2 v3 hf
def b_Sol_rank_2 (F : Nat) (k2 : Nat → Nat → Int32 → PH → Option PH) (a0 : Nat) (a1 : Nat) (i2 : Int32) (h : PH) : Option PH :=
  (if (6 : Int32) < i2 then f_Sol_rank_23 F F a0 a1 (1 : Int32) h else bnd (gR h a0 7 8) fun x1 => bnd (sL h x1 i2 (0 : Int64)) fun h2 => k2 a0 a1 (i2 + (1 : Int32)) h2)
def f_Sol_rank_2 (F : Nat) : Nat → Nat → Nat → Int32 → PH → Option PH
  | 0 => fun _ _ _ _ => none
  | n + 1 => b_Sol_rank_2 F (f_Sol_rank_2 F n)
theorem g_Sol_rank_2 {l : Launch} {E : ET} {d : Nat} (hd : 1 ≤ d) {F : Nat} {h9 : PH} {x : Nat} {k2 : Nat → Nat → Int32 → PH → Option PH} (hk2 : ∀ (a0 : Nat) (a1 : Nat) (i2 : Int32) (hh : PH), k2 a0 a1 i2 hh = some h9 → Go l E m_Sol_rank (rm d 0 0) (KM E 0 0 (PoE none h9 x)) 0 0 hh x 2 [(0, .ref a0), (1, .ref a1), (2, .int i2)] []) (a0 : Nat) (a1 : Nat) (i2 : Int32) (h : PH) (hf : b_Sol_rank_2 F k2 a0 a1 i2 h = some h9) : Go l E m_Sol_rank (rm d 0 0) (KM E 0 0 (PoE none h9 x)) 0 0 h x 2 [(0, .ref a0), (1, .ref a1), (2, .int i2)] [] := by
  unfold b_Sol_rank_2 at hf
  refine go_iload_n 2 d_Sol_rank_2 rfl ?_
  refine go_bipush (6 : Int32) d_Sol_rank_3 (by decide) ?_
  refine go_icmp_gt 21 d_Sol_rank_5 (by decide) (fun q3 => ?_) (fun q3 => ?_)
  · rw [if_pos q3] at hf
    refine go_iconst (1 : Int32) d_Sol_rank_21 (by decide) ?_
    refine go_istore_n (lv' := [(2, .int (1 : Int32)), (0, .ref a0), (1, .ref a1)]) d_Sol_rank_22 rfl (by decide) ?_
    refine go_sub (lv' := [(0, .ref a0), (1, .ref a1), (2, .int (1 : Int32))]) [1, 2, 0] rfl ?_
    exact t_Sol_rank_23 hd  _ a0 a1 (1 : Int32) h hf
  · rw [if_neg q3] at hf
    refine go_aload_n 0 d_Sol_rank_8 rfl ?_
    obtain ⟨x1, e_x1, hf⟩ := bnd_x hf
    refine go_get d_Sol_rank_9 (gR_x e_x1) fl_Sol_33 ?_
    refine go_iload_n 2 d_Sol_rank_12 rfl ?_
    refine go_lconst (0 : Int64) d_Sol_rank_13 (by decide) ?_
    obtain ⟨h2, e_h2, hf⟩ := bnd_x hf
    refine go_lastore d_Sol_rank_14 e_h2 ?_
    refine go_iinc (lv' := [(2, .int (i2 + (1 : Int32))), (0, .ref a0), (1, .ref a1)]) 2 (i2 + (1 : Int32)) d_Sol_rank_15 rfl rfl rfl (by decide) ?_
    refine go_goto 2 d_Sol_rank_18 (by decide) ?_
    refine go_sub (lv' := [(0, .ref a0), (1, .ref a1), (2, .int (i2 + (1 : Int32)))]) [1, 2, 0] rfl ?_
    exact hk2 a0 a1 (i2 + (1 : Int32)) h2 hf
theorem t_Sol_rank_2 {l : Launch} {E : ET} {d : Nat} (hd : 1 ≤ d) {F : Nat} {h9 : PH} {x : Nat}  : ∀ (n : Nat) (a0 : Nat) (a1 : Nat) (i2 : Int32) (hh : PH), f_Sol_rank_2 F n a0 a1 i2 hh = some h9 → Go l E m_Sol_rank (rm d 0 0) (KM E 0 0 (PoE none h9 x)) 0 0 hh x 2 [(0, .ref a0), (1, .ref a1), (2, .int i2)] [] := by
  intro n
  induction n with
  | zero => intro v0 v1 v2 v3 hf; cases hf
  | succ n ih => intro v0 v1 v2 v3 hf; exact g_Sol_rank_2 hd ih v0 v1 v2 v3 hf
def f_Sol_rank (F : Nat) (a0 : Nat) (a1 : Nat) (h : PH) : Option PH :=
  f_Sol_rank_2 F F a0 a1 (1 : Int32) h
theorem g_Sol_rank_0 {l : Launch} {E : ET} {d : Nat} (hd : 1 ≤ d) {F : Nat} {h9 : PH} {x : Nat}  (a0 : Nat) (a1 : Nat) (h : PH) (hf : f_Sol_rank F a0 a1 h = some h9) : Go l E m_Sol_rank (rm d 0 0) (KM E 0 0 (PoE none h9 x)) 0 0 h x 0 [(0, .ref a0), (1, .ref a1)] [] := by
  unfold f_Sol_rank at hf
  refine go_iconst (1 : Int32) d_Sol_rank_0 (by decide) ?_
  refine go_istore_n (lv' := [(2, .int (1 : Int32)), (0, .ref a0), (1, .ref a1)]) d_Sol_rank_1 rfl (by decide) ?_
  refine go_sub (lv' := [(0, .ref a0), (1, .ref a1), (2, .int (1 : Int32))]) [1, 2, 0] rfl ?_
  exact t_Sol_rank_2 hd  _ a0 a1 (1 : Int32) h hf
theorem c_Sol_rank {l : Launch} {E : ET} {d : Nat} (hd : 1 ≤ d) {F : Nat} {h9 : PH} {x : Nat} {a0 : Nat} {a1 : Nat} {h : PH} (hf : f_Sol_rank F a0 a1 h = some h9) : Fn l E m_Sol_rank d 0 0 [.ref a0, .ref a1] h x (PoE none h9 x) :=
  Fn.of (by decide +kernel) (Nat.le_of_ble_eq_true rfl) (g_Sol_rank_0 hd a0 a1 h hf)
theorem d_Sol_cellWithFewest_0 : decode prog_10_method_5_code 0 = .ok (.aload_n 0, 1) := by decide +kernel
theorem d_Sol_cellWithFewest_1 : decode prog_10_method_5_code 1 = .ok (.aload_n 1, 1) := by decide +kernel
theorem d_Sol_cellWithFewest_2 : decode prog_10_method_5_code 2 = .ok (.invokevirtual 81, 3) := by decide +kernel
theorem d_Sol_cellWithFewest_5 : decode prog_10_method_5_code 5 = .ok (.iconst 2, 1) := by decide +kernel
theorem d_Sol_cellWithFewest_6 : decode prog_10_method_5_code 6 = .ok (.istore_n 2, 1) := by decide +kernel
theorem d_Sol_cellWithFewest_7 : decode prog_10_method_5_code 7 = .ok (.iload_n 2, 1) := by decide +kernel
theorem d_Sol_cellWithFewest_8 : decode prog_10_method_5_code 8 = .ok (.bipush 6, 2) := by decide +kernel
theorem d_Sol_cellWithFewest_10 : decode prog_10_method_5_code 10 = .ok (.if_icmp .gt 40, 3) := by decide +kernel
theorem d_Sol_cellWithFewest_13 : decode prog_10_method_5_code 13 = .ok (.aload_n 0, 1) := by decide +kernel
theorem d_Sol_cellWithFewest_14 : decode prog_10_method_5_code 14 = .ok (.getfield 33, 3) := by decide +kernel
theorem d_Sol_cellWithFewest_17 : decode prog_10_method_5_code 17 = .ok (.iload_n 2, 1) := by decide +kernel
theorem d_Sol_cellWithFewest_18 : decode prog_10_method_5_code 18 = .ok (.laload, 1) := by decide +kernel
theorem d_Sol_cellWithFewest_19 : decode prog_10_method_5_code 19 = .ok (.aload_n 0, 1) := by decide +kernel
theorem d_Sol_cellWithFewest_20 : decode prog_10_method_5_code 20 = .ok (.getfield 33, 3) := by decide +kernel
theorem d_Sol_cellWithFewest_23 : decode prog_10_method_5_code 23 = .ok (.iload_n 2, 1) := by decide +kernel
theorem d_Sol_cellWithFewest_24 : decode prog_10_method_5_code 24 = .ok (.iconst 1, 1) := by decide +kernel
theorem d_Sol_cellWithFewest_25 : decode prog_10_method_5_code 25 = .ok (.iadd, 1) := by decide +kernel
theorem d_Sol_cellWithFewest_26 : decode prog_10_method_5_code 26 = .ok (.laload, 1) := by decide +kernel
theorem d_Sol_cellWithFewest_27 : decode prog_10_method_5_code 27 = .ok (.ldc2_w 84, 3) := by decide +kernel
theorem d_Sol_cellWithFewest_30 : decode prog_10_method_5_code 30 = .ok (.lxor, 1) := by decide +kernel
theorem d_Sol_cellWithFewest_31 : decode prog_10_method_5_code 31 = .ok (.land, 1) := by decide +kernel
theorem d_Sol_cellWithFewest_32 : decode prog_10_method_5_code 32 = .ok (.lstore_n 3, 1) := by decide +kernel
theorem d_Sol_cellWithFewest_33 : decode prog_10_method_5_code 33 = .ok (.lload_n 3, 1) := by decide +kernel
theorem d_Sol_cellWithFewest_34 : decode prog_10_method_5_code 34 = .ok (.lconst 0, 1) := by decide +kernel
theorem d_Sol_cellWithFewest_35 : decode prog_10_method_5_code 35 = .ok (.lcmp, 1) := by decide +kernel
theorem d_Sol_cellWithFewest_36 : decode prog_10_method_5_code 36 = .ok (.ifCond .eq 8, 3) := by decide +kernel
theorem d_Sol_cellWithFewest_39 : decode prog_10_method_5_code 39 = .ok (.lload_n 3, 1) := by decide +kernel
theorem d_Sol_cellWithFewest_40 : decode prog_10_method_5_code 40 = .ok (.invokestatic 86, 3) := by decide +kernel
theorem d_Sol_cellWithFewest_43 : decode prog_10_method_5_code 43 = .ok (.ireturn, 1) := by decide +kernel
theorem d_Sol_cellWithFewest_44 : decode prog_10_method_5_code 44 = .ok (.iinc 2 1, 3) := by decide +kernel
theorem d_Sol_cellWithFewest_47 : decode prog_10_method_5_code 47 = .ok (.goto (-40), 3) := by decide +kernel
theorem d_Sol_cellWithFewest_50 : decode prog_10_method_5_code 50 = .ok (.iconst 0, 1) := by decide +kernel
theorem d_Sol_cellWithFewest_51 : decode prog_10_method_5_code 51 = .ok (.ireturn, 1) := by decide +kernel
def b_Sol_cellWithFewest_7 (F : Nat) (k7 : Nat → Int32 → PH → Option (Int32 × PH)) (a0 : Nat) (i2 : Int32) (h : PH) : Option (Int32 × PH) :=
  (if (6 : Int32) < i2 then some ((0 : Int32), h) else bnd (gR h a0 7 8) fun x1 => bnd (aL h x1 i2) fun x2 => bnd (gR h a0 7 8) fun x3 => bnd (aL h x3 (i2 + (1 : Int32))) fun x4 => bnd (some (x2 &&& (x4 ^^^ (-1 : Int64)))) fun y5 => (if (lg_cmp y5 (0 : Int64)) = (0 : Int32) then k7 a0 (i2 + (1 : Int32)) h else bnd (f_Grd_lowest y5) fun x6 => some (x6, h)))
def f_Sol_cellWithFewest_7 (F : Nat) : Nat → Nat → Int32 → PH → Option (Int32 × PH)
  | 0 => fun _ _ _ => none
  | n + 1 => b_Sol_cellWithFewest_7 F (f_Sol_cellWithFewest_7 F n)
theorem g_Sol_cellWithFewest_7 {l : Launch} {E : ET} {d : Nat} (hd : 3 ≤ d) {F : Nat} {r : Int32} {h9 : PH} {x : Nat} {k7 : Nat → Int32 → PH → Option (Int32 × PH)} (hk7 : ∀ (a0 : Nat) (i2 : Int32) (hh : PH), k7 a0 i2 hh = some (r, h9) → Go l E m_Sol_cellWithFewest (rm d 0 0) (KM E 0 0 (PoE (some (.int r)) h9 x)) 0 0 hh x 7 [(0, .ref a0), (2, .int i2)] []) (a0 : Nat) (i2 : Int32) (h : PH) (hf : b_Sol_cellWithFewest_7 F k7 a0 i2 h = some (r, h9)) : Go l E m_Sol_cellWithFewest (rm d 0 0) (KM E 0 0 (PoE (some (.int r)) h9 x)) 0 0 h x 7 [(0, .ref a0), (2, .int i2)] [] := by
  unfold b_Sol_cellWithFewest_7 at hf
  refine go_iload_n 1 d_Sol_cellWithFewest_7 rfl ?_
  refine go_bipush (6 : Int32) d_Sol_cellWithFewest_8 (by decide) ?_
  refine go_icmp_gt 50 d_Sol_cellWithFewest_10 (by decide) (fun q8 => ?_) (fun q8 => ?_)
  · rw [if_pos q8] at hf
    refine go_iconst (0 : Int32) d_Sol_cellWithFewest_50 (by decide) ?_
    obtain ⟨e8, e9⟩ := Prod.mk.inj (Option.some.inj hf)
    subst e8; subst e9
    exact go_iret d_Sol_cellWithFewest_51 rfl ⟨rfl, rfl, rfl⟩
  · rw [if_neg q8] at hf
    refine go_aload_n 0 d_Sol_cellWithFewest_13 rfl ?_
    obtain ⟨x1, e_x1, hf⟩ := bnd_x hf
    refine go_get d_Sol_cellWithFewest_14 (gR_x e_x1) fl_Sol_33 ?_
    refine go_iload_n 1 d_Sol_cellWithFewest_17 rfl ?_
    obtain ⟨x2, e_x2, hf⟩ := bnd_x hf
    refine go_laload d_Sol_cellWithFewest_18 e_x2 ?_
    refine go_aload_n 0 d_Sol_cellWithFewest_19 rfl ?_
    obtain ⟨x3, e_x3, hf⟩ := bnd_x hf
    refine go_get d_Sol_cellWithFewest_20 (gR_x e_x3) fl_Sol_33 ?_
    refine go_iload_n 1 d_Sol_cellWithFewest_23 rfl ?_
    refine go_iconst (1 : Int32) d_Sol_cellWithFewest_24 (by decide) ?_
    refine go_iadd d_Sol_cellWithFewest_25 ?_
    obtain ⟨x4, e_x4, hf⟩ := bnd_x hf
    refine go_laload d_Sol_cellWithFewest_26 e_x4 ?_
    refine go_ldc2 (-1 : Int64) d_Sol_cellWithFewest_27 kl_Sol_84 ?_
    refine go_lxor d_Sol_cellWithFewest_30 ?_
    refine go_land d_Sol_cellWithFewest_31 ?_
    obtain ⟨y5, e_y5, hf⟩ := bnd_x hf
    refine go_nmL e_y5 ?_
    refine go_lstore_n (lv' := [(3, .long y5), (0, .ref a0), (2, .int i2)]) d_Sol_cellWithFewest_32 rfl (by decide) ?_
    refine go_lload_n 0 d_Sol_cellWithFewest_33 rfl ?_
    refine go_lconst (0 : Int64) d_Sol_cellWithFewest_34 (by decide) ?_
    refine go_lcmp d_Sol_cellWithFewest_35 ?_
    refine go_if_eq 44 d_Sol_cellWithFewest_36 (by decide) (fun q7 => ?_) (fun q7 => ?_)
    · rw [if_pos q7] at hf
      refine go_iinc (lv' := [(2, .int (i2 + (1 : Int32))), (3, .long y5), (0, .ref a0)]) 2 (i2 + (1 : Int32)) d_Sol_cellWithFewest_44 rfl rfl rfl (by decide) ?_
      refine go_goto 7 d_Sol_cellWithFewest_47 (by decide) ?_
      refine go_sub (lv' := [(0, .ref a0), (2, .int (i2 + (1 : Int32)))]) [2, 0] rfl ?_
      exact hk7 a0 (i2 + (1 : Int32)) h hf
    · rw [if_neg q7] at hf
      refine go_lload_n 0 d_Sol_cellWithFewest_39 rfl ?_
      obtain ⟨x6, e_x6, hf⟩ := bnd_x hf
      refine go_callS_I (As := [.long y5]) (st := []) (c_Grd_lowest (d := d - 1) (by omega) e_x6) lk_Sol_86 rfl rfl (rm_ok (by omega)) (Nat.le_of_ble_eq_true rfl) rm_c d_Sol_cellWithFewest_40 ?_
      obtain ⟨e8, e9⟩ := Prod.mk.inj (Option.some.inj hf)
      subst e8; subst e9
      exact go_iret d_Sol_cellWithFewest_43 rfl ⟨rfl, rfl, rfl⟩
theorem t_Sol_cellWithFewest_7 {l : Launch} {E : ET} {d : Nat} (hd : 3 ≤ d) {F : Nat} {r : Int32} {h9 : PH} {x : Nat}  : ∀ (n : Nat) (a0 : Nat) (i2 : Int32) (hh : PH), f_Sol_cellWithFewest_7 F n a0 i2 hh = some (r, h9) → Go l E m_Sol_cellWithFewest (rm d 0 0) (KM E 0 0 (PoE (some (.int r)) h9 x)) 0 0 hh x 7 [(0, .ref a0), (2, .int i2)] [] := by
  intro n
  induction n with
  | zero => intro v0 v1 v2 hf; cases hf
  | succ n ih => intro v0 v1 v2 hf; exact g_Sol_cellWithFewest_7 hd ih v0 v1 v2 hf
def f_Sol_cellWithFewest (F : Nat) (a0 : Nat) (a1 : Nat) (h : PH) : Option (Int32 × PH) :=
  bnd (cK h a0 7) fun _ => bnd (f_Sol_rank F a0 a1 h) fun h2 => f_Sol_cellWithFewest_7 F F a0 (2 : Int32) h2
theorem g_Sol_cellWithFewest_0 {l : Launch} {E : ET} {d : Nat} (hd : 3 ≤ d) {F : Nat} {r : Int32} {h9 : PH} {x : Nat}  (a0 : Nat) (a1 : Nat) (h : PH) (hf : f_Sol_cellWithFewest F a0 a1 h = some (r, h9)) : Go l E m_Sol_cellWithFewest (rm d 0 0) (KM E 0 0 (PoE (some (.int r)) h9 x)) 0 0 h x 0 [(0, .ref a0), (1, .ref a1)] [] := by
  unfold f_Sol_cellWithFewest at hf
  refine go_aload_n 0 d_Sol_cellWithFewest_0 rfl ?_
  refine go_aload_n 1 d_Sol_cellWithFewest_1 rfl ?_
  obtain ⟨_, e1, hf⟩ := bnd_x hf
  obtain ⟨h2, e_x2, hf⟩ := bnd_x hf
  refine go_callV_N (As := [.ref a1]) (st := []) (c_Sol_rank (d := d - 1) (by omega) e_x2) lk_Sol_81 rfl rfl e1 (by decide) rfl (rm_ok (by omega)) (Nat.le_of_ble_eq_true rfl) rm_c d_Sol_cellWithFewest_2 ?_
  refine go_iconst (2 : Int32) d_Sol_cellWithFewest_5 (by decide) ?_
  refine go_istore_n (lv' := [(2, .int (2 : Int32)), (0, .ref a0), (1, .ref a1)]) d_Sol_cellWithFewest_6 rfl (by decide) ?_
  refine go_sub (lv' := [(0, .ref a0), (2, .int (2 : Int32))]) [1, 0] rfl ?_
  exact t_Sol_cellWithFewest_7 hd  _ a0 (2 : Int32) h2 hf
theorem c_Sol_cellWithFewest {l : Launch} {E : ET} {d : Nat} (hd : 3 ≤ d) {F : Nat} {r : Int32} {h9 : PH} {x : Nat} {a0 : Nat} {a1 : Nat} {h : PH} (hf : f_Sol_cellWithFewest F a0 a1 h = some (r, h9)) : Fn l E m_Sol_cellWithFewest d 0 0 [.ref a0, .ref a1] h x (PoE (some (.int r)) h9 x) :=
  Fn.of (by decide +kernel) (Nat.le_of_ble_eq_true rfl) (g_Sol_cellWithFewest_0 hd a0 a1 h hf)
theorem d_Sol_solveLevel_0 : decode prog_10_method_4_code 0 = .ok (.aload_n 0, 1) := by decide +kernel
theorem d_Sol_solveLevel_1 : decode prog_10_method_4_code 1 = .ok (.getfield 20, 3) := by decide +kernel
theorem d_Sol_solveLevel_4 : decode prog_10_method_4_code 4 = .ok (.iload_n 2, 1) := by decide +kernel
theorem d_Sol_solveLevel_5 : decode prog_10_method_4_code 5 = .ok (.aaload, 1) := by decide +kernel
theorem d_Sol_solveLevel_6 : decode prog_10_method_4_code 6 = .ok (.astore_n 3, 1) := by decide +kernel
theorem d_Sol_solveLevel_7 : decode prog_10_method_4_code 7 = .ok (.iconst 0, 1) := by decide +kernel
theorem d_Sol_solveLevel_8 : decode prog_10_method_4_code 8 = .ok (.istore 4, 2) := by decide +kernel
theorem d_Sol_solveLevel_10 : decode prog_10_method_4_code 10 = .ok (.iload 4, 2) := by decide +kernel
theorem d_Sol_solveLevel_12 : decode prog_10_method_4_code 12 = .ok (.sipush 500, 3) := by decide +kernel
theorem d_Sol_solveLevel_15 : decode prog_10_method_4_code 15 = .ok (.if_icmp .ge 21, 3) := by decide +kernel
theorem d_Sol_solveLevel_18 : decode prog_10_method_4_code 18 = .ok (.aload_n 0, 1) := by decide +kernel
theorem d_Sol_solveLevel_19 : decode prog_10_method_4_code 19 = .ok (.getfield 12, 3) := by decide +kernel
theorem d_Sol_solveLevel_22 : decode prog_10_method_4_code 22 = .ok (.aload_n 3, 1) := by decide +kernel
theorem d_Sol_solveLevel_23 : decode prog_10_method_4_code 23 = .ok (.aload_n 1, 1) := by decide +kernel
theorem d_Sol_solveLevel_24 : decode prog_10_method_4_code 24 = .ok (.invokevirtual 58, 3) := by decide +kernel
theorem d_Sol_solveLevel_27 : decode prog_10_method_4_code 27 = .ok (.ifCond .eq 9, 3) := by decide +kernel
theorem d_Sol_solveLevel_30 : decode prog_10_method_4_code 30 = .ok (.iinc 4 1, 3) := by decide +kernel
theorem d_Sol_solveLevel_33 : decode prog_10_method_4_code 33 = .ok (.goto (-23), 3) := by decide +kernel
theorem d_Sol_solveLevel_36 : decode prog_10_method_4_code 36 = .ok (.aload_n 3, 1) := by decide +kernel
theorem d_Sol_solveLevel_37 : decode prog_10_method_4_code 37 = .ok (.invokevirtual 62, 3) := by decide +kernel
theorem d_Sol_solveLevel_40 : decode prog_10_method_4_code 40 = .ok (.ifCond .eq 13, 3) := by decide +kernel
theorem d_Sol_solveLevel_43 : decode prog_10_method_4_code 43 = .ok (.aload_n 0, 1) := by decide +kernel
theorem d_Sol_solveLevel_44 : decode prog_10_method_4_code 44 = .ok (.getfield 29, 3) := by decide +kernel
theorem d_Sol_solveLevel_47 : decode prog_10_method_4_code 47 = .ok (.aload_n 3, 1) := by decide +kernel
theorem d_Sol_solveLevel_48 : decode prog_10_method_4_code 48 = .ok (.invokevirtual 50, 3) := by decide +kernel
theorem d_Sol_solveLevel_51 : decode prog_10_method_4_code 51 = .ok (.iconst 1, 1) := by decide +kernel
theorem d_Sol_solveLevel_52 : decode prog_10_method_4_code 52 = .ok (.ireturn, 1) := by decide +kernel
theorem d_Sol_solveLevel_53 : decode prog_10_method_4_code 53 = .ok (.aload_n 3, 1) := by decide +kernel
theorem d_Sol_solveLevel_54 : decode prog_10_method_4_code 54 = .ok (.invokevirtual 66, 3) := by decide +kernel
theorem d_Sol_solveLevel_57 : decode prog_10_method_4_code 57 = .ok (.ifCond .ne 11, 3) := by decide +kernel
theorem d_Sol_solveLevel_60 : decode prog_10_method_4_code 60 = .ok (.iload_n 2, 1) := by decide +kernel
theorem d_Sol_solveLevel_61 : decode prog_10_method_4_code 61 = .ok (.iconst 1, 1) := by decide +kernel
theorem d_Sol_solveLevel_62 : decode prog_10_method_4_code 62 = .ok (.iadd, 1) := by decide +kernel
theorem d_Sol_solveLevel_63 : decode prog_10_method_4_code 63 = .ok (.bipush 38, 2) := by decide +kernel
theorem d_Sol_solveLevel_65 : decode prog_10_method_4_code 65 = .ok (.if_icmp .lt 5, 3) := by decide +kernel
theorem d_Sol_solveLevel_68 : decode prog_10_method_4_code 68 = .ok (.iconst 0, 1) := by decide +kernel
theorem d_Sol_solveLevel_69 : decode prog_10_method_4_code 69 = .ok (.ireturn, 1) := by decide +kernel
theorem d_Sol_solveLevel_70 : decode prog_10_method_4_code 70 = .ok (.aload_n 0, 1) := by decide +kernel
theorem d_Sol_solveLevel_71 : decode prog_10_method_4_code 71 = .ok (.aload_n 3, 1) := by decide +kernel
theorem d_Sol_solveLevel_72 : decode prog_10_method_4_code 72 = .ok (.invokevirtual 69, 3) := by decide +kernel
theorem d_Sol_solveLevel_75 : decode prog_10_method_4_code 75 = .ok (.istore 5, 2) := by decide +kernel
theorem d_Sol_solveLevel_77 : decode prog_10_method_4_code 77 = .ok (.aload_n 3, 1) := by decide +kernel
theorem d_Sol_solveLevel_78 : decode prog_10_method_4_code 78 = .ok (.iload 5, 2) := by decide +kernel
theorem d_Sol_solveLevel_80 : decode prog_10_method_4_code 80 = .ok (.invokevirtual 73, 3) := by decide +kernel
theorem d_Sol_solveLevel_83 : decode prog_10_method_4_code 83 = .ok (.istore 6, 2) := by decide +kernel
theorem d_Sol_solveLevel_85 : decode prog_10_method_4_code 85 = .ok (.iconst 1, 1) := by decide +kernel
theorem d_Sol_solveLevel_86 : decode prog_10_method_4_code 86 = .ok (.istore 7, 2) := by decide +kernel
theorem d_Sol_solveLevel_88 : decode prog_10_method_4_code 88 = .ok (.iload 7, 2) := by decide +kernel
theorem d_Sol_solveLevel_90 : decode prog_10_method_4_code 90 = .ok (.bipush 6, 2) := by decide +kernel
theorem d_Sol_solveLevel_92 : decode prog_10_method_4_code 92 = .ok (.if_icmp .gt 70, 3) := by decide +kernel
theorem d_Sol_solveLevel_95 : decode prog_10_method_4_code 95 = .ok (.iload 6, 2) := by decide +kernel
theorem d_Sol_solveLevel_97 : decode prog_10_method_4_code 97 = .ok (.iload 7, 2) := by decide +kernel
theorem d_Sol_solveLevel_99 : decode prog_10_method_4_code 99 = .ok (.ishr, 1) := by decide +kernel
theorem d_Sol_solveLevel_100 : decode prog_10_method_4_code 100 = .ok (.iconst 1, 1) := by decide +kernel
theorem d_Sol_solveLevel_101 : decode prog_10_method_4_code 101 = .ok (.iand, 1) := by decide +kernel
theorem d_Sol_solveLevel_102 : decode prog_10_method_4_code 102 = .ok (.ifCond .eq 54, 3) := by decide +kernel
theorem d_Sol_solveLevel_105 : decode prog_10_method_4_code 105 = .ok (.aload_n 0, 1) := by decide +kernel
theorem d_Sol_solveLevel_106 : decode prog_10_method_4_code 106 = .ok (.dup, 1) := by decide +kernel
theorem d_Sol_solveLevel_107 : decode prog_10_method_4_code 107 = .ok (.getfield 47, 3) := by decide +kernel
theorem d_Sol_solveLevel_110 : decode prog_10_method_4_code 110 = .ok (.iconst 1, 1) := by decide +kernel
theorem d_Sol_solveLevel_111 : decode prog_10_method_4_code 111 = .ok (.iadd, 1) := by decide +kernel
theorem d_Sol_solveLevel_112 : decode prog_10_method_4_code 112 = .ok (.putfield 47, 3) := by decide +kernel
theorem d_Sol_solveLevel_115 : decode prog_10_method_4_code 115 = .ok (.aload_n 0, 1) := by decide +kernel
theorem d_Sol_solveLevel_116 : decode prog_10_method_4_code 116 = .ok (.getfield 20, 3) := by decide +kernel
theorem d_Sol_solveLevel_119 : decode prog_10_method_4_code 119 = .ok (.iload_n 2, 1) := by decide +kernel
theorem d_Sol_solveLevel_120 : decode prog_10_method_4_code 120 = .ok (.iconst 1, 1) := by decide +kernel
theorem d_Sol_solveLevel_121 : decode prog_10_method_4_code 121 = .ok (.iadd, 1) := by decide +kernel
theorem d_Sol_solveLevel_122 : decode prog_10_method_4_code 122 = .ok (.aaload, 1) := by decide +kernel
theorem d_Sol_solveLevel_123 : decode prog_10_method_4_code 123 = .ok (.aload_n 3, 1) := by decide +kernel
theorem d_Sol_solveLevel_124 : decode prog_10_method_4_code 124 = .ok (.invokevirtual 50, 3) := by decide +kernel
theorem d_Sol_solveLevel_127 : decode prog_10_method_4_code 127 = .ok (.aload_n 0, 1) := by decide +kernel
theorem d_Sol_solveLevel_128 : decode prog_10_method_4_code 128 = .ok (.getfield 20, 3) := by decide +kernel
theorem d_Sol_solveLevel_131 : decode prog_10_method_4_code 131 = .ok (.iload_n 2, 1) := by decide +kernel
theorem d_Sol_solveLevel_132 : decode prog_10_method_4_code 132 = .ok (.iconst 1, 1) := by decide +kernel
theorem d_Sol_solveLevel_133 : decode prog_10_method_4_code 133 = .ok (.iadd, 1) := by decide +kernel
theorem d_Sol_solveLevel_134 : decode prog_10_method_4_code 134 = .ok (.aaload, 1) := by decide +kernel
theorem d_Sol_solveLevel_135 : decode prog_10_method_4_code 135 = .ok (.iload 5, 2) := by decide +kernel
theorem d_Sol_solveLevel_137 : decode prog_10_method_4_code 137 = .ok (.iload 7, 2) := by decide +kernel
theorem d_Sol_solveLevel_139 : decode prog_10_method_4_code 139 = .ok (.invokevirtual 77, 3) := by decide +kernel
theorem d_Sol_solveLevel_142 : decode prog_10_method_4_code 142 = .ok (.pop, 1) := by decide +kernel
theorem d_Sol_solveLevel_143 : decode prog_10_method_4_code 143 = .ok (.aload_n 0, 1) := by decide +kernel
theorem d_Sol_solveLevel_144 : decode prog_10_method_4_code 144 = .ok (.aload_n 1, 1) := by decide +kernel
theorem d_Sol_solveLevel_145 : decode prog_10_method_4_code 145 = .ok (.iload_n 2, 1) := by decide +kernel
theorem d_Sol_solveLevel_146 : decode prog_10_method_4_code 146 = .ok (.iconst 1, 1) := by decide +kernel
theorem d_Sol_solveLevel_147 : decode prog_10_method_4_code 147 = .ok (.iadd, 1) := by decide +kernel
theorem d_Sol_solveLevel_148 : decode prog_10_method_4_code 148 = .ok (.invokestatic 54, 3) := by decide +kernel
theorem d_Sol_solveLevel_151 : decode prog_10_method_4_code 151 = .ok (.ifCond .eq 5, 3) := by decide +kernel
theorem d_Sol_solveLevel_154 : decode prog_10_method_4_code 154 = .ok (.iconst 1, 1) := by decide +kernel
theorem d_Sol_solveLevel_155 : decode prog_10_method_4_code 155 = .ok (.ireturn, 1) := by decide +kernel
theorem d_Sol_solveLevel_156 : decode prog_10_method_4_code 156 = .ok (.iinc 7 1, 3) := by decide +kernel
theorem d_Sol_solveLevel_159 : decode prog_10_method_4_code 159 = .ok (.goto (-71), 3) := by decide +kernel
theorem d_Sol_solveLevel_162 : decode prog_10_method_4_code 162 = .ok (.iconst 0, 1) := by decide +kernel
theorem d_Sol_solveLevel_163 : decode prog_10_method_4_code 163 = .ok (.ireturn, 1) := by decide +kernel
def b_Sol_solveLevel_156 (F : Nat) (kr : Nat → Nat → Int32 → PH → Option (Int32 × PH)) (k88 : Nat → Nat → Int32 → Nat → Int32 → Int32 → Int32 → PH → Option (Int32 × PH)) (a0 : Nat) (a1 : Nat) (i2 : Int32) (a3 : Nat) (i5 : Int32) (i6 : Int32) (i7 : Int32) (h : PH) : Option (Int32 × PH) :=
  k88 a0 a1 i2 a3 i5 i6 (i7 + (1 : Int32)) h
theorem g_Sol_solveLevel_156 {l : Launch} {E : ET} {d : Nat} (hd : 66 ≤ d) {F : Nat} {r : Int32} {h9 : PH} {x : Nat} {kr : Nat → Nat → Int32 → PH → Option (Int32 × PH)} (hkr : ∀ (a0 : Nat) (a1 : Nat) (a2 : Int32) (ha : PH) (rr : Int32) (hb : PH), kr a0 a1 a2 ha = some (rr, hb) → Fn l E m_Sol_solveLevel (d - 1) 0 0 [.ref a0, .ref a1, .int a2] ha x (PoE (some (.int rr)) hb x)) {k88 : Nat → Nat → Int32 → Nat → Int32 → Int32 → Int32 → PH → Option (Int32 × PH)} (hk88 : ∀ (a0 : Nat) (a1 : Nat) (i2 : Int32) (a3 : Nat) (i5 : Int32) (i6 : Int32) (i7 : Int32) (hh : PH), k88 a0 a1 i2 a3 i5 i6 i7 hh = some (r, h9) → Go l E m_Sol_solveLevel (rm d 0 0) (KM E 0 0 (PoE (some (.int r)) h9 x)) 0 0 hh x 88 [(0, .ref a0), (1, .ref a1), (2, .int i2), (3, .ref a3), (5, .int i5), (6, .int i6), (7, .int i7)] []) (a0 : Nat) (a1 : Nat) (i2 : Int32) (a3 : Nat) (i5 : Int32) (i6 : Int32) (i7 : Int32) (h : PH) (hf : b_Sol_solveLevel_156 F kr k88 a0 a1 i2 a3 i5 i6 i7 h = some (r, h9)) : Go l E m_Sol_solveLevel (rm d 0 0) (KM E 0 0 (PoE (some (.int r)) h9 x)) 0 0 h x 156 [(0, .ref a0), (1, .ref a1), (2, .int i2), (3, .ref a3), (5, .int i5), (6, .int i6), (7, .int i7)] [] := by
  unfold b_Sol_solveLevel_156 at hf
  refine go_iinc (lv' := [(7, .int (i7 + (1 : Int32))), (0, .ref a0), (1, .ref a1), (2, .int i2), (3, .ref a3), (5, .int i5), (6, .int i6)]) 6 (i7 + (1 : Int32)) d_Sol_solveLevel_156 rfl rfl rfl (by decide) ?_
  refine go_goto 88 d_Sol_solveLevel_159 (by decide) ?_
  refine go_sub (lv' := [(0, .ref a0), (1, .ref a1), (2, .int i2), (3, .ref a3), (5, .int i5), (6, .int i6), (7, .int (i7 + (1 : Int32)))]) [1, 2, 3, 4, 5, 6, 0] rfl ?_
  exact hk88 a0 a1 i2 a3 i5 i6 (i7 + (1 : Int32)) h hf
def b_Sol_solveLevel_88 (F : Nat) (kr : Nat → Nat → Int32 → PH → Option (Int32 × PH)) (k88 : Nat → Nat → Int32 → Nat → Int32 → Int32 → Int32 → PH → Option (Int32 × PH)) (a0 : Nat) (a1 : Nat) (i2 : Int32) (a3 : Nat) (i5 : Int32) (i6 : Int32) (i7 : Int32) (h : PH) : Option (Int32 × PH) :=
  (if (6 : Int32) < i7 then some ((0 : Int32), h) else (if ((i6 >>> (i7 &&& 31)) &&& (1 : Int32)) = (0 : Int32) then b_Sol_solveLevel_156 F kr k88 a0 a1 i2 a3 i5 i6 i7 h else bnd (gI h a0 7 7) fun x1 => bnd (pV h a0 7 7 (.int (x1 + (1 : Int32)))) fun h2 => bnd (gR h2 a0 7 1) fun x3 => bnd (aR h2 x3 (i2 + (1 : Int32))) fun x4 => bnd (cK h2 x4 1) fun _ => bnd (f_Pos_copyFrom x4 a3 h2) fun h6 => bnd (gR h6 a0 7 1) fun x7 => bnd (aR h6 x7 (i2 + (1 : Int32))) fun x8 => bnd (cK h6 x8 1) fun _ => bnd2 (f_Pos_keepOnly F x8 i5 i7 h6) fun x10 h11 => bnd2 (kr a0 a1 (i2 + (1 : Int32)) h11) fun x12 h13 => (if x12 = (0 : Int32) then b_Sol_solveLevel_156 F kr k88 a0 a1 i2 a3 i5 i6 i7 h13 else some ((1 : Int32), h13))))
def f_Sol_solveLevel_88 (F : Nat) (kr : Nat → Nat → Int32 → PH → Option (Int32 × PH)) : Nat → Nat → Nat → Int32 → Nat → Int32 → Int32 → Int32 → PH → Option (Int32 × PH)
  | 0 => fun _ _ _ _ _ _ _ _ => none
  | n + 1 => b_Sol_solveLevel_88 F kr (f_Sol_solveLevel_88 F kr n)
theorem g_Sol_solveLevel_88 {l : Launch} {E : ET} {d : Nat} (hd : 66 ≤ d) {F : Nat} {r : Int32} {h9 : PH} {x : Nat} {kr : Nat → Nat → Int32 → PH → Option (Int32 × PH)} (hkr : ∀ (a0 : Nat) (a1 : Nat) (a2 : Int32) (ha : PH) (rr : Int32) (hb : PH), kr a0 a1 a2 ha = some (rr, hb) → Fn l E m_Sol_solveLevel (d - 1) 0 0 [.ref a0, .ref a1, .int a2] ha x (PoE (some (.int rr)) hb x)) {k88 : Nat → Nat → Int32 → Nat → Int32 → Int32 → Int32 → PH → Option (Int32 × PH)} (hk88 : ∀ (a0 : Nat) (a1 : Nat) (i2 : Int32) (a3 : Nat) (i5 : Int32) (i6 : Int32) (i7 : Int32) (hh : PH), k88 a0 a1 i2 a3 i5 i6 i7 hh = some (r, h9) → Go l E m_Sol_solveLevel (rm d 0 0) (KM E 0 0 (PoE (some (.int r)) h9 x)) 0 0 hh x 88 [(0, .ref a0), (1, .ref a1), (2, .int i2), (3, .ref a3), (5, .int i5), (6, .int i6), (7, .int i7)] []) (a0 : Nat) (a1 : Nat) (i2 : Int32) (a3 : Nat) (i5 : Int32) (i6 : Int32) (i7 : Int32) (h : PH) (hf : b_Sol_solveLevel_88 F kr k88 a0 a1 i2 a3 i5 i6 i7 h = some (r, h9)) : Go l E m_Sol_solveLevel (rm d 0 0) (KM E 0 0 (PoE (some (.int r)) h9 x)) 0 0 h x 88 [(0, .ref a0), (1, .ref a1), (2, .int i2), (3, .ref a3), (5, .int i5), (6, .int i6), (7, .int i7)] [] := by
  unfold b_Sol_solveLevel_88 at hf
  refine go_iload 6 d_Sol_solveLevel_88 rfl ?_
  refine go_bipush (6 : Int32) d_Sol_solveLevel_90 (by decide) ?_
  refine go_icmp_gt 162 d_Sol_solveLevel_92 (by decide) (fun q16 => ?_) (fun q16 => ?_)
  · rw [if_pos q16] at hf
    refine go_iconst (0 : Int32) d_Sol_solveLevel_162 (by decide) ?_
    obtain ⟨e8, e9⟩ := Prod.mk.inj (Option.some.inj hf)
    subst e8; subst e9
    exact go_zret d_Sol_solveLevel_163 rfl rfl ⟨rfl, rfl, rfl⟩
  · rw [if_neg q16] at hf
    refine go_iload 5 d_Sol_solveLevel_95 rfl ?_
    refine go_iload 6 d_Sol_solveLevel_97 rfl ?_
    refine go_ishr d_Sol_solveLevel_99 ?_
    refine go_iconst (1 : Int32) d_Sol_solveLevel_100 (by decide) ?_
    refine go_iand d_Sol_solveLevel_101 ?_
    refine go_if_eq 156 d_Sol_solveLevel_102 (by decide) (fun q15 => ?_) (fun q15 => ?_)
    · rw [if_pos q15] at hf
      refine go_sub (lv' := [(0, .ref a0), (1, .ref a1), (2, .int i2), (3, .ref a3), (5, .int i5), (6, .int i6), (7, .int i7)]) [0, 1, 2, 3, 4, 5, 6] rfl ?_
      exact g_Sol_solveLevel_156 hd hkr hk88 a0 a1 i2 a3 i5 i6 i7 h hf
    · rw [if_neg q15] at hf
      refine go_aload_n 0 d_Sol_solveLevel_105 rfl ?_
      refine go_dup d_Sol_solveLevel_106 rfl ?_
      obtain ⟨x1, e_x1, hf⟩ := bnd_x hf
      refine go_get d_Sol_solveLevel_107 (gI_x e_x1) fl_Sol_47 ?_
      refine go_iconst (1 : Int32) d_Sol_solveLevel_110 (by decide) ?_
      refine go_iadd d_Sol_solveLevel_111 ?_
      obtain ⟨h2, e_h2, hf⟩ := bnd_x hf
      refine go_putI d_Sol_solveLevel_112 e_h2 fl_Sol_47 rfl rfl ?_
      refine go_aload_n 0 d_Sol_solveLevel_115 rfl ?_
      obtain ⟨x3, e_x3, hf⟩ := bnd_x hf
      refine go_get d_Sol_solveLevel_116 (gR_x e_x3) fl_Sol_20 ?_
      refine go_iload_n 2 d_Sol_solveLevel_119 rfl ?_
      refine go_iconst (1 : Int32) d_Sol_solveLevel_120 (by decide) ?_
      refine go_iadd d_Sol_solveLevel_121 ?_
      obtain ⟨x4, e_x4, hf⟩ := bnd_x hf
      refine go_aaload d_Sol_solveLevel_122 e_x4 ?_
      refine go_aload_n 3 d_Sol_solveLevel_123 rfl ?_
      obtain ⟨_, e5, hf⟩ := bnd_x hf
      obtain ⟨h6, e_x6, hf⟩ := bnd_x hf
      refine go_callV_N (As := [.ref a3]) (st := []) (c_Pos_copyFrom (d := d - 1) (by omega) e_x6) lk_Sol_50 rfl rfl e5 (by decide) rfl (rm_ok (by omega)) (Nat.le_of_ble_eq_true rfl) rm_c d_Sol_solveLevel_124 ?_
      refine go_aload_n 0 d_Sol_solveLevel_127 rfl ?_
      obtain ⟨x7, e_x7, hf⟩ := bnd_x hf
      refine go_get d_Sol_solveLevel_128 (gR_x e_x7) fl_Sol_20 ?_
      refine go_iload_n 2 d_Sol_solveLevel_131 rfl ?_
      refine go_iconst (1 : Int32) d_Sol_solveLevel_132 (by decide) ?_
      refine go_iadd d_Sol_solveLevel_133 ?_
      obtain ⟨x8, e_x8, hf⟩ := bnd_x hf
      refine go_aaload d_Sol_solveLevel_134 e_x8 ?_
      refine go_iload 4 d_Sol_solveLevel_135 rfl ?_
      refine go_iload 6 d_Sol_solveLevel_137 rfl ?_
      obtain ⟨_, e9, hf⟩ := bnd_x hf
      obtain ⟨x10, h11, e_x10, hf⟩ := bnd2_x hf
      refine go_callV_I (As := [.int i5, .int i7]) (st := []) (c_Pos_keepOnly (d := d - 1) (by omega) e_x10) lk_Sol_77 rfl rfl e9 (by decide) rfl (rm_ok (by omega)) (Nat.le_of_ble_eq_true rfl) rm_c d_Sol_solveLevel_139 ?_
      refine go_pop d_Sol_solveLevel_142 rfl ?_
      refine go_aload_n 0 d_Sol_solveLevel_143 rfl ?_
      refine go_aload_n 1 d_Sol_solveLevel_144 rfl ?_
      refine go_iload_n 2 d_Sol_solveLevel_145 rfl ?_
      refine go_iconst (1 : Int32) d_Sol_solveLevel_146 (by decide) ?_
      refine go_iadd d_Sol_solveLevel_147 ?_
      obtain ⟨x12, h13, e_x12, hf⟩ := bnd2_x hf
      refine go_callS_I (As := [.ref a0, .ref a1, .int (i2 + (1 : Int32))]) (st := []) (hkr _ _ _ _ _ _ e_x12) lk_Sol_54 rfl rfl (rm_ok (by omega)) (Nat.le_of_ble_eq_true rfl) rm_c d_Sol_solveLevel_148 ?_
      refine go_if_eq 156 d_Sol_solveLevel_151 (by decide) (fun q14 => ?_) (fun q14 => ?_)
      · rw [if_pos q14] at hf
        refine go_sub (lv' := [(0, .ref a0), (1, .ref a1), (2, .int i2), (3, .ref a3), (5, .int i5), (6, .int i6), (7, .int i7)]) [0, 1, 2, 3, 4, 5, 6] rfl ?_
        exact g_Sol_solveLevel_156 hd hkr hk88 a0 a1 i2 a3 i5 i6 i7 h13 hf
      · rw [if_neg q14] at hf
        refine go_iconst (1 : Int32) d_Sol_solveLevel_154 (by decide) ?_
        obtain ⟨e8, e9⟩ := Prod.mk.inj (Option.some.inj hf)
        subst e8; subst e9
        exact go_zret d_Sol_solveLevel_155 rfl rfl ⟨rfl, rfl, rfl⟩
theorem t_Sol_solveLevel_88 {l : Launch} {E : ET} {d : Nat} (hd : 66 ≤ d) {F : Nat} {r : Int32} {h9 : PH} {x : Nat} {kr : Nat → Nat → Int32 → PH → Option (Int32 × PH)} (hkr : ∀ (a0 : Nat) (a1 : Nat) (a2 : Int32) (ha : PH) (rr : Int32) (hb : PH), kr a0 a1 a2 ha = some (rr, hb) → Fn l E m_Sol_solveLevel (d - 1) 0 0 [.ref a0, .ref a1, .int a2] ha x (PoE (some (.int rr)) hb x))  : ∀ (n : Nat) (a0 : Nat) (a1 : Nat) (i2 : Int32) (a3 : Nat) (i5 : Int32) (i6 : Int32) (i7 : Int32) (hh : PH), f_Sol_solveLevel_88 F kr n a0 a1 i2 a3 i5 i6 i7 hh = some (r, h9) → Go l E m_Sol_solveLevel (rm d 0 0) (KM E 0 0 (PoE (some (.int r)) h9 x)) 0 0 hh x 88 [(0, .ref a0), (1, .ref a1), (2, .int i2), (3, .ref a3), (5, .int i5), (6, .int i6), (7, .int i7)] [] := by
  intro n
  induction n with
  | zero => intro v0 v1 v2 v3 v4 v5 v6 v7 hf; cases hf
  | succ n ih => intro v0 v1 v2 v3 v4 v5 v6 v7 hf; exact g_Sol_solveLevel_88 hd hkr ih v0 v1 v2 v3 v4 v5 v6 v7 hf
def b_Sol_solveLevel_36 (F : Nat) (kr : Nat → Nat → Int32 → PH → Option (Int32 × PH)) (a0 : Nat) (a1 : Nat) (i2 : Int32) (a3 : Nat) (h : PH) : Option (Int32 × PH) :=
  bnd (cK h a3 1) fun _ => bnd (f_Pos_isFinished a3 h) fun x2 => (if x2 = (0 : Int32) then bnd (cK h a3 1) fun _ => bnd (f_Pos_isDead a3 h) fun x4 => (if x4 = (0 : Int32) then (if (i2 + (1 : Int32)) < (38 : Int32) then bnd (cK h a0 7) fun _ => bnd2 (f_Sol_cellWithFewest F a0 a3 h) fun x6 h7 => bnd (cK h7 a3 1) fun _ => bnd (f_Pos_digitsOf F a3 x6 h7) fun x9 => f_Sol_solveLevel_88 F kr F a0 a1 i2 a3 x6 x9 (1 : Int32) h7 else some ((0 : Int32), h)) else some ((0 : Int32), h)) else bnd (gR h a0 7 3) fun x12 => bnd (cK h x12 1) fun _ => bnd (f_Pos_copyFrom x12 a3 h) fun h14 => some ((1 : Int32), h14))
theorem g_Sol_solveLevel_36 {l : Launch} {E : ET} {d : Nat} (hd : 66 ≤ d) {F : Nat} {r : Int32} {h9 : PH} {x : Nat} {kr : Nat → Nat → Int32 → PH → Option (Int32 × PH)} (hkr : ∀ (a0 : Nat) (a1 : Nat) (a2 : Int32) (ha : PH) (rr : Int32) (hb : PH), kr a0 a1 a2 ha = some (rr, hb) → Fn l E m_Sol_solveLevel (d - 1) 0 0 [.ref a0, .ref a1, .int a2] ha x (PoE (some (.int rr)) hb x))  (a0 : Nat) (a1 : Nat) (i2 : Int32) (a3 : Nat) (h : PH) (hf : b_Sol_solveLevel_36 F kr a0 a1 i2 a3 h = some (r, h9)) : Go l E m_Sol_solveLevel (rm d 0 0) (KM E 0 0 (PoE (some (.int r)) h9 x)) 0 0 h x 36 [(0, .ref a0), (1, .ref a1), (2, .int i2), (3, .ref a3)] [] := by
  unfold b_Sol_solveLevel_36 at hf
  refine go_aload_n 3 d_Sol_solveLevel_36 rfl ?_
  obtain ⟨_, e1, hf⟩ := bnd_x hf
  obtain ⟨x2, e_x2, hf⟩ := bnd_x hf
  refine go_callV_I (As := []) (st := []) (c_Pos_isFinished (d := d - 1) (by omega) e_x2) lk_Sol_62 rfl rfl e1 (by decide) rfl (rm_ok (by omega)) (Nat.le_of_ble_eq_true rfl) rm_c d_Sol_solveLevel_37 ?_
  refine go_if_eq 53 d_Sol_solveLevel_40 (by decide) (fun q15 => ?_) (fun q15 => ?_)
  · rw [if_pos q15] at hf
    refine go_aload_n 3 d_Sol_solveLevel_53 rfl ?_
    obtain ⟨_, e3, hf⟩ := bnd_x hf
    obtain ⟨x4, e_x4, hf⟩ := bnd_x hf
    refine go_callV_I (As := []) (st := []) (c_Pos_isDead (d := d - 1) (by omega) e_x4) lk_Sol_66 rfl rfl e3 (by decide) rfl (rm_ok (by omega)) (Nat.le_of_ble_eq_true rfl) rm_c d_Sol_solveLevel_54 ?_
    refine go_if_ne 68 d_Sol_solveLevel_57 (by decide) (fun q11 => ?_) (fun q11 => ?_)
    · rw [if_neg q11] at hf
      refine go_iconst (0 : Int32) d_Sol_solveLevel_68 (by decide) ?_
      obtain ⟨e8, e9⟩ := Prod.mk.inj (Option.some.inj hf)
      subst e8; subst e9
      exact go_zret d_Sol_solveLevel_69 rfl rfl ⟨rfl, rfl, rfl⟩
    · rw [if_pos q11] at hf
      refine go_iload_n 2 d_Sol_solveLevel_60 rfl ?_
      refine go_iconst (1 : Int32) d_Sol_solveLevel_61 (by decide) ?_
      refine go_iadd d_Sol_solveLevel_62 ?_
      refine go_bipush (38 : Int32) d_Sol_solveLevel_63 (by decide) ?_
      refine go_icmp_lt 70 d_Sol_solveLevel_65 (by decide) (fun q10 => ?_) (fun q10 => ?_)
      · rw [if_pos q10] at hf
        refine go_aload_n 0 d_Sol_solveLevel_70 rfl ?_
        refine go_aload_n 3 d_Sol_solveLevel_71 rfl ?_
        obtain ⟨_, e5, hf⟩ := bnd_x hf
        obtain ⟨x6, h7, e_x6, hf⟩ := bnd2_x hf
        refine go_callV_I (As := [.ref a3]) (st := []) (c_Sol_cellWithFewest (d := d - 1) (by omega) e_x6) lk_Sol_69 rfl rfl e5 (by decide) rfl (rm_ok (by omega)) (Nat.le_of_ble_eq_true rfl) rm_c d_Sol_solveLevel_72 ?_
        refine go_istore (lv' := [(5, .int x6), (0, .ref a0), (1, .ref a1), (2, .int i2), (3, .ref a3)]) d_Sol_solveLevel_75 rfl (by decide) ?_
        refine go_aload_n 4 d_Sol_solveLevel_77 rfl ?_
        refine go_iload 0 d_Sol_solveLevel_78 rfl ?_
        obtain ⟨_, e8, hf⟩ := bnd_x hf
        obtain ⟨x9, e_x9, hf⟩ := bnd_x hf
        refine go_callV_I (As := [.int x6]) (st := []) (c_Pos_digitsOf (d := d - 1) (by omega) e_x9) lk_Sol_73 rfl rfl e8 (by decide) rfl (rm_ok (by omega)) (Nat.le_of_ble_eq_true rfl) rm_c d_Sol_solveLevel_80 ?_
        refine go_istore (lv' := [(6, .int x9), (5, .int x6), (0, .ref a0), (1, .ref a1), (2, .int i2), (3, .ref a3)]) d_Sol_solveLevel_83 rfl (by decide) ?_
        refine go_iconst (1 : Int32) d_Sol_solveLevel_85 (by decide) ?_
        refine go_istore (lv' := [(7, .int (1 : Int32)), (6, .int x9), (5, .int x6), (0, .ref a0), (1, .ref a1), (2, .int i2), (3, .ref a3)]) d_Sol_solveLevel_86 rfl (by decide) ?_
        refine go_sub (lv' := [(0, .ref a0), (1, .ref a1), (2, .int i2), (3, .ref a3), (5, .int x6), (6, .int x9), (7, .int (1 : Int32))]) [3, 4, 5, 6, 2, 1, 0] rfl ?_
        exact t_Sol_solveLevel_88 hd hkr  _ a0 a1 i2 a3 x6 x9 (1 : Int32) h7 hf
      · rw [if_neg q10] at hf
        refine go_iconst (0 : Int32) d_Sol_solveLevel_68 (by decide) ?_
        obtain ⟨e8, e9⟩ := Prod.mk.inj (Option.some.inj hf)
        subst e8; subst e9
        exact go_zret d_Sol_solveLevel_69 rfl rfl ⟨rfl, rfl, rfl⟩
  · rw [if_neg q15] at hf
    refine go_aload_n 0 d_Sol_solveLevel_43 rfl ?_
    obtain ⟨x12, e_x12, hf⟩ := bnd_x hf
    refine go_get d_Sol_solveLevel_44 (gR_x e_x12) fl_Sol_29 ?_
    refine go_aload_n 3 d_Sol_solveLevel_47 rfl ?_
    obtain ⟨_, e13, hf⟩ := bnd_x hf
    obtain ⟨h14, e_x14, hf⟩ := bnd_x hf
    refine go_callV_N (As := [.ref a3]) (st := []) (c_Pos_copyFrom (d := d - 1) (by omega) e_x14) lk_Sol_50 rfl rfl e13 (by decide) rfl (rm_ok (by omega)) (Nat.le_of_ble_eq_true rfl) rm_c d_Sol_solveLevel_48 ?_
    refine go_iconst (1 : Int32) d_Sol_solveLevel_51 (by decide) ?_
    obtain ⟨e8, e9⟩ := Prod.mk.inj (Option.some.inj hf)
    subst e8; subst e9
    exact go_zret d_Sol_solveLevel_52 rfl rfl ⟨rfl, rfl, rfl⟩
def b_Sol_solveLevel_10 (F : Nat) (kr : Nat → Nat → Int32 → PH → Option (Int32 × PH)) (k10 : Nat → Nat → Int32 → Nat → Int32 → PH → Option (Int32 × PH)) (a0 : Nat) (a1 : Nat) (i2 : Int32) (a3 : Nat) (i4 : Int32) (h : PH) : Option (Int32 × PH) :=
  (if (500 : Int32) ≤ i4 then b_Sol_solveLevel_36 F kr a0 a1 i2 a3 h else bnd (gR h a0 7 0) fun x1 => bnd (cK h x1 3) fun _ => bnd2 (f_Rea_next F x1 a3 a1 h) fun x3 h4 => (if x3 = (0 : Int32) then b_Sol_solveLevel_36 F kr a0 a1 i2 a3 h4 else k10 a0 a1 i2 a3 (i4 + (1 : Int32)) h4))
def f_Sol_solveLevel_10 (F : Nat) (kr : Nat → Nat → Int32 → PH → Option (Int32 × PH)) : Nat → Nat → Nat → Int32 → Nat → Int32 → PH → Option (Int32 × PH)
  | 0 => fun _ _ _ _ _ _ => none
  | n + 1 => b_Sol_solveLevel_10 F kr (f_Sol_solveLevel_10 F kr n)
theorem g_Sol_solveLevel_10 {l : Launch} {E : ET} {d : Nat} (hd : 66 ≤ d) {F : Nat} {r : Int32} {h9 : PH} {x : Nat} {kr : Nat → Nat → Int32 → PH → Option (Int32 × PH)} (hkr : ∀ (a0 : Nat) (a1 : Nat) (a2 : Int32) (ha : PH) (rr : Int32) (hb : PH), kr a0 a1 a2 ha = some (rr, hb) → Fn l E m_Sol_solveLevel (d - 1) 0 0 [.ref a0, .ref a1, .int a2] ha x (PoE (some (.int rr)) hb x)) {k10 : Nat → Nat → Int32 → Nat → Int32 → PH → Option (Int32 × PH)} (hk10 : ∀ (a0 : Nat) (a1 : Nat) (i2 : Int32) (a3 : Nat) (i4 : Int32) (hh : PH), k10 a0 a1 i2 a3 i4 hh = some (r, h9) → Go l E m_Sol_solveLevel (rm d 0 0) (KM E 0 0 (PoE (some (.int r)) h9 x)) 0 0 hh x 10 [(0, .ref a0), (1, .ref a1), (2, .int i2), (3, .ref a3), (4, .int i4)] []) (a0 : Nat) (a1 : Nat) (i2 : Int32) (a3 : Nat) (i4 : Int32) (h : PH) (hf : b_Sol_solveLevel_10 F kr k10 a0 a1 i2 a3 i4 h = some (r, h9)) : Go l E m_Sol_solveLevel (rm d 0 0) (KM E 0 0 (PoE (some (.int r)) h9 x)) 0 0 h x 10 [(0, .ref a0), (1, .ref a1), (2, .int i2), (3, .ref a3), (4, .int i4)] [] := by
  unfold b_Sol_solveLevel_10 at hf
  refine go_iload 4 d_Sol_solveLevel_10 rfl ?_
  refine go_sipush (500 : Int32) d_Sol_solveLevel_12 (by decide) ?_
  refine go_icmp_ge 36 d_Sol_solveLevel_15 (by decide) (fun q6 => ?_) (fun q6 => ?_)
  · rw [if_pos q6] at hf
    refine go_sub (lv' := [(0, .ref a0), (1, .ref a1), (2, .int i2), (3, .ref a3)]) [0, 1, 2, 3] rfl ?_
    exact g_Sol_solveLevel_36 hd hkr  a0 a1 i2 a3 h hf
  · rw [if_neg q6] at hf
    refine go_aload_n 0 d_Sol_solveLevel_18 rfl ?_
    obtain ⟨x1, e_x1, hf⟩ := bnd_x hf
    refine go_get d_Sol_solveLevel_19 (gR_x e_x1) fl_Sol_12 ?_
    refine go_aload_n 3 d_Sol_solveLevel_22 rfl ?_
    refine go_aload_n 1 d_Sol_solveLevel_23 rfl ?_
    obtain ⟨_, e2, hf⟩ := bnd_x hf
    obtain ⟨x3, h4, e_x3, hf⟩ := bnd2_x hf
    refine go_callV_I (As := [.ref a3, .ref a1]) (st := []) (c_Rea_next (d := d - 1) (by omega) e_x3) lk_Sol_58 rfl rfl e2 (by decide) rfl (rm_ok (by omega)) (Nat.le_of_ble_eq_true rfl) rm_c d_Sol_solveLevel_24 ?_
    refine go_if_eq 36 d_Sol_solveLevel_27 (by decide) (fun q5 => ?_) (fun q5 => ?_)
    · rw [if_pos q5] at hf
      refine go_sub (lv' := [(0, .ref a0), (1, .ref a1), (2, .int i2), (3, .ref a3)]) [0, 1, 2, 3] rfl ?_
      exact g_Sol_solveLevel_36 hd hkr  a0 a1 i2 a3 h4 hf
    · rw [if_neg q5] at hf
      refine go_iinc (lv' := [(4, .int (i4 + (1 : Int32))), (0, .ref a0), (1, .ref a1), (2, .int i2), (3, .ref a3)]) 4 (i4 + (1 : Int32)) d_Sol_solveLevel_30 rfl rfl rfl (by decide) ?_
      refine go_goto 10 d_Sol_solveLevel_33 (by decide) ?_
      refine go_sub (lv' := [(0, .ref a0), (1, .ref a1), (2, .int i2), (3, .ref a3), (4, .int (i4 + (1 : Int32)))]) [1, 2, 3, 4, 0] rfl ?_
      exact hk10 a0 a1 i2 a3 (i4 + (1 : Int32)) h4 hf
theorem t_Sol_solveLevel_10 {l : Launch} {E : ET} {d : Nat} (hd : 66 ≤ d) {F : Nat} {r : Int32} {h9 : PH} {x : Nat} {kr : Nat → Nat → Int32 → PH → Option (Int32 × PH)} (hkr : ∀ (a0 : Nat) (a1 : Nat) (a2 : Int32) (ha : PH) (rr : Int32) (hb : PH), kr a0 a1 a2 ha = some (rr, hb) → Fn l E m_Sol_solveLevel (d - 1) 0 0 [.ref a0, .ref a1, .int a2] ha x (PoE (some (.int rr)) hb x))  : ∀ (n : Nat) (a0 : Nat) (a1 : Nat) (i2 : Int32) (a3 : Nat) (i4 : Int32) (hh : PH), f_Sol_solveLevel_10 F kr n a0 a1 i2 a3 i4 hh = some (r, h9) → Go l E m_Sol_solveLevel (rm d 0 0) (KM E 0 0 (PoE (some (.int r)) h9 x)) 0 0 hh x 10 [(0, .ref a0), (1, .ref a1), (2, .int i2), (3, .ref a3), (4, .int i4)] [] := by
  intro n
  induction n with
  | zero => intro v0 v1 v2 v3 v4 v5 hf; cases hf
  | succ n ih => intro v0 v1 v2 v3 v4 v5 hf; exact g_Sol_solveLevel_10 hd hkr ih v0 v1 v2 v3 v4 v5 hf
def b_Sol_solveLevel_0 (F : Nat) (kr : Nat → Nat → Int32 → PH → Option (Int32 × PH)) (a0 : Nat) (a1 : Nat) (i2 : Int32) (h : PH) : Option (Int32 × PH) :=
  bnd (gR h a0 7 1) fun x1 => bnd (aR h x1 i2) fun x2 => f_Sol_solveLevel_10 F kr F a0 a1 i2 x2 (0 : Int32) h
theorem g_Sol_solveLevel_0 {l : Launch} {E : ET} {d : Nat} (hd : 66 ≤ d) {F : Nat} {r : Int32} {h9 : PH} {x : Nat} {kr : Nat → Nat → Int32 → PH → Option (Int32 × PH)} (hkr : ∀ (a0 : Nat) (a1 : Nat) (a2 : Int32) (ha : PH) (rr : Int32) (hb : PH), kr a0 a1 a2 ha = some (rr, hb) → Fn l E m_Sol_solveLevel (d - 1) 0 0 [.ref a0, .ref a1, .int a2] ha x (PoE (some (.int rr)) hb x))  (a0 : Nat) (a1 : Nat) (i2 : Int32) (h : PH) (hf : b_Sol_solveLevel_0 F kr a0 a1 i2 h = some (r, h9)) : Go l E m_Sol_solveLevel (rm d 0 0) (KM E 0 0 (PoE (some (.int r)) h9 x)) 0 0 h x 0 [(0, .ref a0), (1, .ref a1), (2, .int i2)] [] := by
  unfold b_Sol_solveLevel_0 at hf
  refine go_aload_n 0 d_Sol_solveLevel_0 rfl ?_
  obtain ⟨x1, e_x1, hf⟩ := bnd_x hf
  refine go_get d_Sol_solveLevel_1 (gR_x e_x1) fl_Sol_20 ?_
  refine go_iload_n 2 d_Sol_solveLevel_4 rfl ?_
  obtain ⟨x2, e_x2, hf⟩ := bnd_x hf
  refine go_aaload d_Sol_solveLevel_5 e_x2 ?_
  refine go_astore_n (lv' := [(3, .ref x2), (0, .ref a0), (1, .ref a1), (2, .int i2)]) d_Sol_solveLevel_6 rfl (by decide) ?_
  refine go_iconst (0 : Int32) d_Sol_solveLevel_7 (by decide) ?_
  refine go_istore (lv' := [(4, .int (0 : Int32)), (3, .ref x2), (0, .ref a0), (1, .ref a1), (2, .int i2)]) d_Sol_solveLevel_8 rfl (by decide) ?_
  refine go_sub (lv' := [(0, .ref a0), (1, .ref a1), (2, .int i2), (3, .ref x2), (4, .int (0 : Int32))]) [2, 3, 4, 1, 0] rfl ?_
  exact t_Sol_solveLevel_10 hd hkr  _ a0 a1 i2 x2 (0 : Int32) h hf
def f_Sol_solveLevel (F : Nat) : Nat → Nat → Nat → Int32 → PH → Option (Int32 × PH)
  | 0 => fun _ _ _ _ => none
  | n + 1 => b_Sol_solveLevel_0 F (f_Sol_solveLevel F n)
theorem cr_Sol_solveLevel {l : Launch} {E : ET} {F : Nat} {x : Nat} : ∀ (n d : Nat), 66 + n ≤ d → ∀ (a0 : Nat) (a1 : Nat) (i2 : Int32) (h : PH) (r : Int32) (h9 : PH), f_Sol_solveLevel F n a0 a1 i2 h = some (r, h9) → Fn l E m_Sol_solveLevel d 0 0 [.ref a0, .ref a1, .int i2] h x (PoE (some (.int r)) h9 x) := by
  intro n
  induction n with
  | zero => intro d hd _ _ _ _ _ _ hf; cases hf
  | succ n ih =>
    intro d hd a0 a1 i2 h r h9 hf
    exact Fn.of (by decide +kernel) (Nat.le_of_ble_eq_true rfl) (g_Sol_solveLevel_0 (by omega) (fun b0 b1 b2 ha rr hb q => ih (d - 1) (by omega) b0 b1 b2 ha rr hb q) a0 a1 i2 h hf)
theorem c_Sol_solveLevel {l : Launch} {E : ET} {d : Nat} (hd : 126 ≤ d) {F : Nat} {r : Int32} {h9 : PH} {x : Nat} {a0 : Nat} {a1 : Nat} {i2 : Int32} {h : PH} (hf : f_Sol_solveLevel F RD a0 a1 i2 h = some (r, h9)) : Fn l E m_Sol_solveLevel d 0 0 [.ref a0, .ref a1, .int i2] h x (PoE (some (.int r)) h9 x) :=
  cr_Sol_solveLevel RD d (by show 66 + 60 ≤ d; omega) _ _ _ _ _ _ hf
theorem d_Sol_countGuesses_0 : decode prog_10_method_3_code 0 = .ok (.aload_n 0, 1) := by decide +kernel
theorem d_Sol_countGuesses_1 : decode prog_10_method_3_code 1 = .ok (.getfield 43, 3) := by decide +kernel
theorem d_Sol_countGuesses_4 : decode prog_10_method_3_code 4 = .ok (.ifCond .ne 30, 3) := by decide +kernel
theorem d_Sol_countGuesses_7 : decode prog_10_method_3_code 7 = .ok (.aload_n 0, 1) := by decide +kernel
theorem d_Sol_countGuesses_8 : decode prog_10_method_3_code 8 = .ok (.iconst 0, 1) := by decide +kernel
theorem d_Sol_countGuesses_9 : decode prog_10_method_3_code 9 = .ok (.putfield 47, 3) := by decide +kernel
theorem d_Sol_countGuesses_12 : decode prog_10_method_3_code 12 = .ok (.aload_n 0, 1) := by decide +kernel
theorem d_Sol_countGuesses_13 : decode prog_10_method_3_code 13 = .ok (.getfield 20, 3) := by decide +kernel
theorem d_Sol_countGuesses_16 : decode prog_10_method_3_code 16 = .ok (.iconst 0, 1) := by decide +kernel
theorem d_Sol_countGuesses_17 : decode prog_10_method_3_code 17 = .ok (.aaload, 1) := by decide +kernel
theorem d_Sol_countGuesses_18 : decode prog_10_method_3_code 18 = .ok (.aload_n 1, 1) := by decide +kernel
theorem d_Sol_countGuesses_19 : decode prog_10_method_3_code 19 = .ok (.invokevirtual 50, 3) := by decide +kernel
theorem d_Sol_countGuesses_22 : decode prog_10_method_3_code 22 = .ok (.aload_n 0, 1) := by decide +kernel
theorem d_Sol_countGuesses_23 : decode prog_10_method_3_code 23 = .ok (.aload_n 2, 1) := by decide +kernel
theorem d_Sol_countGuesses_24 : decode prog_10_method_3_code 24 = .ok (.iconst 0, 1) := by decide +kernel
theorem d_Sol_countGuesses_25 : decode prog_10_method_3_code 25 = .ok (.invokestatic 54, 3) := by decide +kernel
theorem d_Sol_countGuesses_28 : decode prog_10_method_3_code 28 = .ok (.pop, 1) := by decide +kernel
theorem d_Sol_countGuesses_29 : decode prog_10_method_3_code 29 = .ok (.aload_n 0, 1) := by decide +kernel
theorem d_Sol_countGuesses_30 : decode prog_10_method_3_code 30 = .ok (.iconst 1, 1) := by decide +kernel
theorem d_Sol_countGuesses_31 : decode prog_10_method_3_code 31 = .ok (.putfield 43, 3) := by decide +kernel
theorem d_Sol_countGuesses_34 : decode prog_10_method_3_code 34 = .ok (.aload_n 0, 1) := by decide +kernel
theorem d_Sol_countGuesses_35 : decode prog_10_method_3_code 35 = .ok (.getfield 47, 3) := by decide +kernel
theorem d_Sol_countGuesses_38 : decode prog_10_method_3_code 38 = .ok (.ireturn, 1) := by decide +kernel
def b_Sol_countGuesses_34 (F : Nat) (a0 : Nat) (h : PH) : Option (Int32 × PH) :=
  bnd (gI h a0 7 7) fun x1 => some (x1, h)
theorem g_Sol_countGuesses_34 {l : Launch} {E : ET} {d : Nat} (hd : 127 ≤ d) {F : Nat} {r : Int32} {h9 : PH} {x : Nat}  (a0 : Nat) (h : PH) (hf : b_Sol_countGuesses_34 F a0 h = some (r, h9)) : Go l E m_Sol_countGuesses (rm d 0 0) (KM E 0 0 (PoE (some (.int r)) h9 x)) 0 0 h x 34 [(0, .ref a0)] [] := by
  unfold b_Sol_countGuesses_34 at hf
  refine go_aload_n 0 d_Sol_countGuesses_34 rfl ?_
  obtain ⟨x1, e_x1, hf⟩ := bnd_x hf
  refine go_get d_Sol_countGuesses_35 (gI_x e_x1) fl_Sol_47 ?_
  obtain ⟨e8, e9⟩ := Prod.mk.inj (Option.some.inj hf)
  subst e8; subst e9
  exact go_iret d_Sol_countGuesses_38 rfl ⟨rfl, rfl, rfl⟩
def f_Sol_countGuesses (F : Nat) (a0 : Nat) (a1 : Nat) (a2 : Nat) (h : PH) : Option (Int32 × PH) :=
  bnd (gI h a0 7 6) fun x1 => (if x1 = (0 : Int32) then bnd (pV h a0 7 7 (.int (0 : Int32))) fun h2 => bnd (gR h2 a0 7 1) fun x3 => bnd (aR h2 x3 (0 : Int32)) fun x4 => bnd (cK h2 x4 1) fun _ => bnd (f_Pos_copyFrom x4 a1 h2) fun h6 => bnd2 (f_Sol_solveLevel F RD a0 a2 (0 : Int32) h6) fun x7 h8 => bnd (pV h8 a0 7 6 (.int (1 : Int32))) fun h9 => b_Sol_countGuesses_34 F a0 h9 else b_Sol_countGuesses_34 F a0 h)
theorem g_Sol_countGuesses_0 {l : Launch} {E : ET} {d : Nat} (hd : 127 ≤ d) {F : Nat} {r : Int32} {h9 : PH} {x : Nat}  (a0 : Nat) (a1 : Nat) (a2 : Nat) (h : PH) (hf : f_Sol_countGuesses F a0 a1 a2 h = some (r, h9)) : Go l E m_Sol_countGuesses (rm d 0 0) (KM E 0 0 (PoE (some (.int r)) h9 x)) 0 0 h x 0 [(0, .ref a0), (1, .ref a1), (2, .ref a2)] [] := by
  unfold f_Sol_countGuesses at hf
  refine go_aload_n 0 d_Sol_countGuesses_0 rfl ?_
  obtain ⟨x1, e_x1, hf⟩ := bnd_x hf
  refine go_get d_Sol_countGuesses_1 (gI_x e_x1) fl_Sol_43 ?_
  refine go_if_ne 34 d_Sol_countGuesses_4 (by decide) (fun q10 => ?_) (fun q10 => ?_)
  · rw [if_neg q10] at hf
    refine go_sub (lv' := [(0, .ref a0)]) [0] rfl ?_
    exact g_Sol_countGuesses_34 hd  a0 h hf
  · rw [if_pos q10] at hf
    refine go_aload_n 0 d_Sol_countGuesses_7 rfl ?_
    refine go_iconst (0 : Int32) d_Sol_countGuesses_8 (by decide) ?_
    obtain ⟨h2, e_h2, hf⟩ := bnd_x hf
    refine go_putI d_Sol_countGuesses_9 e_h2 fl_Sol_47 rfl rfl ?_
    refine go_aload_n 0 d_Sol_countGuesses_12 rfl ?_
    obtain ⟨x3, e_x3, hf⟩ := bnd_x hf
    refine go_get d_Sol_countGuesses_13 (gR_x e_x3) fl_Sol_20 ?_
    refine go_iconst (0 : Int32) d_Sol_countGuesses_16 (by decide) ?_
    obtain ⟨x4, e_x4, hf⟩ := bnd_x hf
    refine go_aaload d_Sol_countGuesses_17 e_x4 ?_
    refine go_aload_n 1 d_Sol_countGuesses_18 rfl ?_
    obtain ⟨_, e5, hf⟩ := bnd_x hf
    obtain ⟨h6, e_x6, hf⟩ := bnd_x hf
    refine go_callV_N (As := [.ref a1]) (st := []) (c_Pos_copyFrom (d := d - 1) (by omega) e_x6) lk_Sol_50 rfl rfl e5 (by decide) rfl (rm_ok (by omega)) (Nat.le_of_ble_eq_true rfl) rm_c d_Sol_countGuesses_19 ?_
    refine go_aload_n 0 d_Sol_countGuesses_22 rfl ?_
    refine go_aload_n 2 d_Sol_countGuesses_23 rfl ?_
    refine go_iconst (0 : Int32) d_Sol_countGuesses_24 (by decide) ?_
    obtain ⟨x7, h8, e_x7, hf⟩ := bnd2_x hf
    refine go_callS_I (As := [.ref a0, .ref a2, .int (0 : Int32)]) (st := []) (c_Sol_solveLevel (d := d - 1) (by omega) e_x7) lk_Sol_54 rfl rfl (rm_ok (by omega)) (Nat.le_of_ble_eq_true rfl) rm_c d_Sol_countGuesses_25 ?_
    refine go_pop d_Sol_countGuesses_28 rfl ?_
    refine go_aload_n 0 d_Sol_countGuesses_29 rfl ?_
    refine go_iconst (1 : Int32) d_Sol_countGuesses_30 (by decide) ?_
    obtain ⟨h9, e_h9, hf⟩ := bnd_x hf
    refine go_putZ d_Sol_countGuesses_31 rfl e_h9 fl_Sol_43 rfl rfl ?_
    refine go_sub (lv' := [(0, .ref a0)]) [0] rfl ?_
    exact g_Sol_countGuesses_34 hd  a0 h9 hf
theorem c_Sol_countGuesses {l : Launch} {E : ET} {d : Nat} (hd : 127 ≤ d) {F : Nat} {r : Int32} {h9 : PH} {x : Nat} {a0 : Nat} {a1 : Nat} {a2 : Nat} {h : PH} (hf : f_Sol_countGuesses F a0 a1 a2 h = some (r, h9)) : Fn l E m_Sol_countGuesses d 0 0 [.ref a0, .ref a1, .ref a2] h x (PoE (some (.int r)) h9 x) :=
  Fn.of (by decide +kernel) (Nat.le_of_ble_eq_true rfl) (g_Sol_countGuesses_0 hd a0 a1 a2 h hf)
theorem d_Sol_noteSolution_0 : decode prog_10_method_9_code 0 = .ok (.aload_n 0, 1) := by decide +kernel
theorem d_Sol_noteSolution_1 : decode prog_10_method_9_code 1 = .ok (.dup, 1) := by decide +kernel
theorem d_Sol_noteSolution_2 : decode prog_10_method_9_code 2 = .ok (.getfield 40, 3) := by decide +kernel
theorem d_Sol_noteSolution_5 : decode prog_10_method_9_code 5 = .ok (.iconst 1, 1) := by decide +kernel
theorem d_Sol_noteSolution_6 : decode prog_10_method_9_code 6 = .ok (.iadd, 1) := by decide +kernel
theorem d_Sol_noteSolution_7 : decode prog_10_method_9_code 7 = .ok (.putfield 40, 3) := by decide +kernel
theorem d_Sol_noteSolution_10 : decode prog_10_method_9_code 10 = .ok (.iconst 1, 1) := by decide +kernel
theorem d_Sol_noteSolution_11 : decode prog_10_method_9_code 11 = .ok (.istore_n 2, 1) := by decide +kernel
theorem d_Sol_noteSolution_12 : decode prog_10_method_9_code 12 = .ok (.iload_n 2, 1) := by decide +kernel
theorem d_Sol_noteSolution_13 : decode prog_10_method_9_code 13 = .ok (.bipush 6, 2) := by decide +kernel
theorem d_Sol_noteSolution_15 : decode prog_10_method_9_code 15 = .ok (.if_icmp .gt 24, 3) := by decide +kernel
theorem d_Sol_noteSolution_18 : decode prog_10_method_9_code 18 = .ok (.aload_n 0, 1) := by decide +kernel
theorem d_Sol_noteSolution_19 : decode prog_10_method_9_code 19 = .ok (.getfield 24, 3) := by decide +kernel
theorem d_Sol_noteSolution_22 : decode prog_10_method_9_code 22 = .ok (.iload_n 2, 1) := by decide +kernel
theorem d_Sol_noteSolution_23 : decode prog_10_method_9_code 23 = .ok (.dup2, 1) := by decide +kernel
theorem d_Sol_noteSolution_24 : decode prog_10_method_9_code 24 = .ok (.laload, 1) := by decide +kernel
theorem d_Sol_noteSolution_25 : decode prog_10_method_9_code 25 = .ok (.aload_n 1, 1) := by decide +kernel
theorem d_Sol_noteSolution_26 : decode prog_10_method_9_code 26 = .ok (.getfield 92, 3) := by decide +kernel
theorem d_Sol_noteSolution_29 : decode prog_10_method_9_code 29 = .ok (.iload_n 2, 1) := by decide +kernel
theorem d_Sol_noteSolution_30 : decode prog_10_method_9_code 30 = .ok (.laload, 1) := by decide +kernel
theorem d_Sol_noteSolution_31 : decode prog_10_method_9_code 31 = .ok (.lor, 1) := by decide +kernel
theorem d_Sol_noteSolution_32 : decode prog_10_method_9_code 32 = .ok (.lastore, 1) := by decide +kernel
theorem d_Sol_noteSolution_33 : decode prog_10_method_9_code 33 = .ok (.iinc 2 1, 3) := by decide +kernel
theorem d_Sol_noteSolution_36 : decode prog_10_method_9_code 36 = .ok (.goto (-24), 3) := by decide +kernel
theorem d_Sol_noteSolution_39 : decode prog_10_method_9_code 39 = .ok (.return_, 1) := by decide +kernel
def b_Sol_noteSolution_12 (F : Nat) (k12 : Nat → Nat → Int32 → PH → Option PH) (a0 : Nat) (a1 : Nat) (i2 : Int32) (h : PH) : Option PH :=
  (if (6 : Int32) < i2 then some h else bnd (gR h a0 7 2) fun x1 => bnd (aL h x1 i2) fun x2 => bnd (gR h a1 1 0) fun x3 => bnd (aL h x3 i2) fun x4 => bnd (sL h x1 i2 (x2 ||| x4)) fun h5 => k12 a0 a1 (i2 + (1 : Int32)) h5)
def f_Sol_noteSolution_12 (F : Nat) : Nat → Nat → Nat → Int32 → PH → Option PH
  | 0 => fun _ _ _ _ => none
  | n + 1 => b_Sol_noteSolution_12 F (f_Sol_noteSolution_12 F n)
theorem g_Sol_noteSolution_12 {l : Launch} {E : ET} {d : Nat} (hd : 1 ≤ d) {F : Nat} {h9 : PH} {x : Nat} {k12 : Nat → Nat → Int32 → PH → Option PH} (hk12 : ∀ (a0 : Nat) (a1 : Nat) (i2 : Int32) (hh : PH), k12 a0 a1 i2 hh = some h9 → Go l E m_Sol_noteSolution (rm d 0 0) (KM E 0 0 (PoE none h9 x)) 0 0 hh x 12 [(0, .ref a0), (1, .ref a1), (2, .int i2)] []) (a0 : Nat) (a1 : Nat) (i2 : Int32) (h : PH) (hf : b_Sol_noteSolution_12 F k12 a0 a1 i2 h = some h9) : Go l E m_Sol_noteSolution (rm d 0 0) (KM E 0 0 (PoE none h9 x)) 0 0 h x 12 [(0, .ref a0), (1, .ref a1), (2, .int i2)] [] := by
  unfold b_Sol_noteSolution_12 at hf
  refine go_iload_n 2 d_Sol_noteSolution_12 rfl ?_
  refine go_bipush (6 : Int32) d_Sol_noteSolution_13 (by decide) ?_
  refine go_icmp_gt 39 d_Sol_noteSolution_15 (by decide) (fun q6 => ?_) (fun q6 => ?_)
  · rw [if_pos q6] at hf
    have e9 := Option.some.inj hf
    subst e9
    exact go_vret d_Sol_noteSolution_39 rfl ⟨rfl, rfl, rfl⟩
  · rw [if_neg q6] at hf
    refine go_aload_n 0 d_Sol_noteSolution_18 rfl ?_
    obtain ⟨x1, e_x1, hf⟩ := bnd_x hf
    refine go_get d_Sol_noteSolution_19 (gR_x e_x1) fl_Sol_24 ?_
    refine go_iload_n 2 d_Sol_noteSolution_22 rfl ?_
    refine go_dup2 d_Sol_noteSolution_23 rfl rfl ?_
    obtain ⟨x2, e_x2, hf⟩ := bnd_x hf
    refine go_laload d_Sol_noteSolution_24 e_x2 ?_
    refine go_aload_n 1 d_Sol_noteSolution_25 rfl ?_
    obtain ⟨x3, e_x3, hf⟩ := bnd_x hf
    refine go_get d_Sol_noteSolution_26 (gR_x e_x3) fl_Sol_92 ?_
    refine go_iload_n 2 d_Sol_noteSolution_29 rfl ?_
    obtain ⟨x4, e_x4, hf⟩ := bnd_x hf
    refine go_laload d_Sol_noteSolution_30 e_x4 ?_
    refine go_lor d_Sol_noteSolution_31 ?_
    obtain ⟨h5, e_h5, hf⟩ := bnd_x hf
    refine go_lastore d_Sol_noteSolution_32 e_h5 ?_
    refine go_iinc (lv' := [(2, .int (i2 + (1 : Int32))), (0, .ref a0), (1, .ref a1)]) 2 (i2 + (1 : Int32)) d_Sol_noteSolution_33 rfl rfl rfl (by decide) ?_
    refine go_goto 12 d_Sol_noteSolution_36 (by decide) ?_
    refine go_sub (lv' := [(0, .ref a0), (1, .ref a1), (2, .int (i2 + (1 : Int32)))]) [1, 2, 0] rfl ?_
    exact hk12 a0 a1 (i2 + (1 : Int32)) h5 hf
theorem t_Sol_noteSolution_12 {l : Launch} {E : ET} {d : Nat} (hd : 1 ≤ d) {F : Nat} {h9 : PH} {x : Nat}  : ∀ (n : Nat) (a0 : Nat) (a1 : Nat) (i2 : Int32) (hh : PH), f_Sol_noteSolution_12 F n a0 a1 i2 hh = some h9 → Go l E m_Sol_noteSolution (rm d 0 0) (KM E 0 0 (PoE none h9 x)) 0 0 hh x 12 [(0, .ref a0), (1, .ref a1), (2, .int i2)] [] := by
  intro n
  induction n with
  | zero => intro v0 v1 v2 v3 hf; cases hf
  | succ n ih => intro v0 v1 v2 v3 hf; exact g_Sol_noteSolution_12 hd ih v0 v1 v2 v3 hf
def f_Sol_noteSolution (F : Nat) (a0 : Nat) (a1 : Nat) (h : PH) : Option PH :=
  bnd (gI h a0 7 5) fun x1 => bnd (pV h a0 7 5 (.int (x1 + (1 : Int32)))) fun h2 => f_Sol_noteSolution_12 F F a0 a1 (1 : Int32) h2
theorem g_Sol_noteSolution_0 {l : Launch} {E : ET} {d : Nat} (hd : 1 ≤ d) {F : Nat} {h9 : PH} {x : Nat}  (a0 : Nat) (a1 : Nat) (h : PH) (hf : f_Sol_noteSolution F a0 a1 h = some h9) : Go l E m_Sol_noteSolution (rm d 0 0) (KM E 0 0 (PoE none h9 x)) 0 0 h x 0 [(0, .ref a0), (1, .ref a1)] [] := by
  unfold f_Sol_noteSolution at hf
  refine go_aload_n 0 d_Sol_noteSolution_0 rfl ?_
  refine go_dup d_Sol_noteSolution_1 rfl ?_
  obtain ⟨x1, e_x1, hf⟩ := bnd_x hf
  refine go_get d_Sol_noteSolution_2 (gI_x e_x1) fl_Sol_40 ?_
  refine go_iconst (1 : Int32) d_Sol_noteSolution_5 (by decide) ?_
  refine go_iadd d_Sol_noteSolution_6 ?_
  obtain ⟨h2, e_h2, hf⟩ := bnd_x hf
  refine go_putI d_Sol_noteSolution_7 e_h2 fl_Sol_40 rfl rfl ?_
  refine go_iconst (1 : Int32) d_Sol_noteSolution_10 (by decide) ?_
  refine go_istore_n (lv' := [(2, .int (1 : Int32)), (0, .ref a0), (1, .ref a1)]) d_Sol_noteSolution_11 rfl (by decide) ?_
  refine go_sub (lv' := [(0, .ref a0), (1, .ref a1), (2, .int (1 : Int32))]) [1, 2, 0] rfl ?_
  exact t_Sol_noteSolution_12 hd  _ a0 a1 (1 : Int32) h2 hf
theorem c_Sol_noteSolution {l : Launch} {E : ET} {d : Nat} (hd : 1 ≤ d) {F : Nat} {h9 : PH} {x : Nat} {a0 : Nat} {a1 : Nat} {h : PH} (hf : f_Sol_noteSolution F a0 a1 h = some h9) : Fn l E m_Sol_noteSolution d 0 0 [.ref a0, .ref a1] h x (PoE none h9 x) :=
  Fn.of (by decide +kernel) (Nat.le_of_ble_eq_true rfl) (g_Sol_noteSolution_0 hd a0 a1 h hf)
theorem d_Sol_rate_0 : decode prog_10_method_12_code 0 = .ok (.lload_n 2, 1) := by decide +kernel
theorem d_Sol_rate_1 : decode prog_10_method_12_code 1 = .ok (.aload_n 0, 1) := by decide +kernel
theorem d_Sol_rate_2 : decode prog_10_method_12_code 2 = .ok (.getfield 101, 3) := by decide +kernel
theorem d_Sol_rate_5 : decode prog_10_method_12_code 5 = .ok (.land, 1) := by decide +kernel
theorem d_Sol_rate_6 : decode prog_10_method_12_code 6 = .ok (.lconst 0, 1) := by decide +kernel
theorem d_Sol_rate_7 : decode prog_10_method_12_code 7 = .ok (.lcmp, 1) := by decide +kernel
theorem d_Sol_rate_8 : decode prog_10_method_12_code 8 = .ok (.ifCond .ne 9, 3) := by decide +kernel
theorem d_Sol_rate_11 : decode prog_10_method_12_code 11 = .ok (.iconst 2, 1) := by decide +kernel
theorem d_Sol_rate_12 : decode prog_10_method_12_code 12 = .ok (.iload_n 1, 1) := by decide +kernel
theorem d_Sol_rate_13 : decode prog_10_method_12_code 13 = .ok (.imul, 1) := by decide +kernel
theorem d_Sol_rate_14 : decode prog_10_method_12_code 14 = .ok (.goto 4, 3) := by decide +kernel
theorem d_Sol_rate_17 : decode prog_10_method_12_code 17 = .ok (.iload_n 1, 1) := by decide +kernel
theorem d_Sol_rate_18 : decode prog_10_method_12_code 18 = .ok (.ireturn, 1) := by decide +kernel
def f_Sol_rate (a0 : Nat) (i1 : Int32) (i2 : Int64) (h : PH) : Option Int32 :=
  bnd (gL h a0 7 9) fun x1 => (if (lg_cmp (i2 &&& x1) (0 : Int64)) = (0 : Int32) then some ((2 : Int32) * i1) else some i1)
theorem g_Sol_rate_0 {l : Launch} {E : ET} {d : Nat} (hd : 1 ≤ d) {r : Int32} {h : PH} {x : Nat}  (a0 : Nat) (i1 : Int32) (i2 : Int64) (hf : f_Sol_rate a0 i1 i2 h = some r) : Go l E m_Sol_rate (rm d 0 0) (KM E 0 0 (PoE (some (.int r)) h x)) 0 0 h x 0 [(0, .ref a0), (1, .int i1), (2, .long i2)] [] := by
  unfold f_Sol_rate at hf
  refine go_lload_n 2 d_Sol_rate_0 rfl ?_
  refine go_aload_n 0 d_Sol_rate_1 rfl ?_
  obtain ⟨x1, e_x1, hf⟩ := bnd_x hf
  refine go_get d_Sol_rate_2 (gL_x e_x1) fl_Sol_101 ?_
  refine go_land d_Sol_rate_5 ?_
  refine go_lconst (0 : Int64) d_Sol_rate_6 (by decide) ?_
  refine go_lcmp d_Sol_rate_7 ?_
  refine go_if_ne 17 d_Sol_rate_8 (by decide) (fun q2 => ?_) (fun q2 => ?_)
  · rw [if_neg q2] at hf
    refine go_iload_n 1 d_Sol_rate_17 rfl ?_
    have e9 := Option.some.inj hf
    subst e9
    exact go_iret d_Sol_rate_18 rfl ⟨rfl, rfl, rfl⟩
  · rw [if_pos q2] at hf
    refine go_iconst (2 : Int32) d_Sol_rate_11 (by decide) ?_
    refine go_iload_n 1 d_Sol_rate_12 rfl ?_
    refine go_imul d_Sol_rate_13 ?_
    refine go_goto 18 d_Sol_rate_14 (by decide) ?_
    have e9 := Option.some.inj hf
    subst e9
    exact go_iret d_Sol_rate_18 rfl ⟨rfl, rfl, rfl⟩
theorem c_Sol_rate {l : Launch} {E : ET} {d : Nat} (hd : 1 ≤ d) {r : Int32} {h : PH} {x : Nat} {a0 : Nat} {i1 : Int32} {i2 : Int64} (hf : f_Sol_rate a0 i1 i2 h = some r) : Fn l E m_Sol_rate d 0 0 [.ref a0, .int i1, .long i2] h x (PoE (some (.int r)) h x) :=
  Fn.of (by decide +kernel) (Nat.le_of_ble_eq_true rfl) (g_Sol_rate_0 hd a0 i1 i2 hf)
theorem d_Sol_chooseCell_0 : decode prog_10_method_11_code 0 = .ok (.aload_n 0, 1) := by decide +kernel
theorem d_Sol_chooseCell_1 : decode prog_10_method_11_code 1 = .ok (.aload_n 1, 1) := by decide +kernel
theorem d_Sol_chooseCell_2 : decode prog_10_method_11_code 2 = .ok (.invokevirtual 81, 3) := by decide +kernel
theorem d_Sol_chooseCell_5 : decode prog_10_method_11_code 5 = .ok (.aload_n 0, 1) := by decide +kernel
theorem d_Sol_chooseCell_6 : decode prog_10_method_11_code 6 = .ok (.bipush 7, 2) := by decide +kernel
theorem d_Sol_chooseCell_8 : decode prog_10_method_11_code 8 = .ok (.lconst 0, 1) := by decide +kernel
theorem d_Sol_chooseCell_9 : decode prog_10_method_11_code 9 = .ok (.invokevirtual 139, 3) := by decide +kernel
theorem d_Sol_chooseCell_12 : decode prog_10_method_11_code 12 = .ok (.istore_n 2, 1) := by decide +kernel
theorem d_Sol_chooseCell_13 : decode prog_10_method_11_code 13 = .ok (.iconst 2, 1) := by decide +kernel
theorem d_Sol_chooseCell_14 : decode prog_10_method_11_code 14 = .ok (.istore_n 3, 1) := by decide +kernel
theorem d_Sol_chooseCell_15 : decode prog_10_method_11_code 15 = .ok (.iload_n 3, 1) := by decide +kernel
theorem d_Sol_chooseCell_16 : decode prog_10_method_11_code 16 = .ok (.bipush 6, 2) := by decide +kernel
theorem d_Sol_chooseCell_18 : decode prog_10_method_11_code 18 = .ok (.if_icmp .gt 96, 3) := by decide +kernel
theorem d_Sol_chooseCell_21 : decode prog_10_method_11_code 21 = .ok (.aload_n 0, 1) := by decide +kernel
theorem d_Sol_chooseCell_22 : decode prog_10_method_11_code 22 = .ok (.getfield 33, 3) := by decide +kernel
theorem d_Sol_chooseCell_25 : decode prog_10_method_11_code 25 = .ok (.iload_n 3, 1) := by decide +kernel
theorem d_Sol_chooseCell_26 : decode prog_10_method_11_code 26 = .ok (.laload, 1) := by decide +kernel
theorem d_Sol_chooseCell_27 : decode prog_10_method_11_code 27 = .ok (.aload_n 0, 1) := by decide +kernel
theorem d_Sol_chooseCell_28 : decode prog_10_method_11_code 28 = .ok (.getfield 33, 3) := by decide +kernel
theorem d_Sol_chooseCell_31 : decode prog_10_method_11_code 31 = .ok (.iload_n 3, 1) := by decide +kernel
theorem d_Sol_chooseCell_32 : decode prog_10_method_11_code 32 = .ok (.iconst 1, 1) := by decide +kernel
theorem d_Sol_chooseCell_33 : decode prog_10_method_11_code 33 = .ok (.iadd, 1) := by decide +kernel
theorem d_Sol_chooseCell_34 : decode prog_10_method_11_code 34 = .ok (.laload, 1) := by decide +kernel
theorem d_Sol_chooseCell_35 : decode prog_10_method_11_code 35 = .ok (.ldc2_w 84, 3) := by decide +kernel
theorem d_Sol_chooseCell_38 : decode prog_10_method_11_code 38 = .ok (.lxor, 1) := by decide +kernel
theorem d_Sol_chooseCell_39 : decode prog_10_method_11_code 39 = .ok (.land, 1) := by decide +kernel
theorem d_Sol_chooseCell_40 : decode prog_10_method_11_code 40 = .ok (.lstore 4, 2) := by decide +kernel
theorem d_Sol_chooseCell_42 : decode prog_10_method_11_code 42 = .ok (.lload 4, 2) := by decide +kernel
theorem d_Sol_chooseCell_44 : decode prog_10_method_11_code 44 = .ok (.aload_n 0, 1) := by decide +kernel
theorem d_Sol_chooseCell_45 : decode prog_10_method_11_code 45 = .ok (.getfield 101, 3) := by decide +kernel
theorem d_Sol_chooseCell_48 : decode prog_10_method_11_code 48 = .ok (.land, 1) := by decide +kernel
theorem d_Sol_chooseCell_49 : decode prog_10_method_11_code 49 = .ok (.lstore 6, 2) := by decide +kernel
theorem d_Sol_chooseCell_51 : decode prog_10_method_11_code 51 = .ok (.aload_n 0, 1) := by decide +kernel
theorem d_Sol_chooseCell_52 : decode prog_10_method_11_code 52 = .ok (.iload_n 3, 1) := by decide +kernel
theorem d_Sol_chooseCell_53 : decode prog_10_method_11_code 53 = .ok (.lload 6, 2) := by decide +kernel
theorem d_Sol_chooseCell_55 : decode prog_10_method_11_code 55 = .ok (.invokevirtual 139, 3) := by decide +kernel
theorem d_Sol_chooseCell_58 : decode prog_10_method_11_code 58 = .ok (.istore 8, 2) := by decide +kernel
theorem d_Sol_chooseCell_60 : decode prog_10_method_11_code 60 = .ok (.lload 4, 2) := by decide +kernel
theorem d_Sol_chooseCell_62 : decode prog_10_method_11_code 62 = .ok (.lconst 0, 1) := by decide +kernel
theorem d_Sol_chooseCell_63 : decode prog_10_method_11_code 63 = .ok (.lcmp, 1) := by decide +kernel
theorem d_Sol_chooseCell_64 : decode prog_10_method_11_code 64 = .ok (.ifCond .eq 44, 3) := by decide +kernel
theorem d_Sol_chooseCell_67 : decode prog_10_method_11_code 67 = .ok (.iload 8, 2) := by decide +kernel
theorem d_Sol_chooseCell_69 : decode prog_10_method_11_code 69 = .ok (.iload_n 2, 1) := by decide +kernel
theorem d_Sol_chooseCell_70 : decode prog_10_method_11_code 70 = .ok (.if_icmp .ge 38, 3) := by decide +kernel
theorem d_Sol_chooseCell_73 : decode prog_10_method_11_code 73 = .ok (.iload 8, 2) := by decide +kernel
theorem d_Sol_chooseCell_75 : decode prog_10_method_11_code 75 = .ok (.istore_n 2, 1) := by decide +kernel
theorem d_Sol_chooseCell_76 : decode prog_10_method_11_code 76 = .ok (.aload_n 0, 1) := by decide +kernel
theorem d_Sol_chooseCell_77 : decode prog_10_method_11_code 77 = .ok (.lload 6, 2) := by decide +kernel
theorem d_Sol_chooseCell_79 : decode prog_10_method_11_code 79 = .ok (.lconst 0, 1) := by decide +kernel
theorem d_Sol_chooseCell_80 : decode prog_10_method_11_code 80 = .ok (.lcmp, 1) := by decide +kernel
theorem d_Sol_chooseCell_81 : decode prog_10_method_11_code 81 = .ok (.ifCond .eq 12, 3) := by decide +kernel
theorem d_Sol_chooseCell_84 : decode prog_10_method_11_code 84 = .ok (.lload 6, 2) := by decide +kernel
theorem d_Sol_chooseCell_86 : decode prog_10_method_11_code 86 = .ok (.lload 6, 2) := by decide +kernel
theorem d_Sol_chooseCell_88 : decode prog_10_method_11_code 88 = .ok (.lneg, 1) := by decide +kernel
theorem d_Sol_chooseCell_89 : decode prog_10_method_11_code 89 = .ok (.land, 1) := by decide +kernel
theorem d_Sol_chooseCell_90 : decode prog_10_method_11_code 90 = .ok (.goto 9, 3) := by decide +kernel
theorem d_Sol_chooseCell_93 : decode prog_10_method_11_code 93 = .ok (.lload 4, 2) := by decide +kernel
theorem d_Sol_chooseCell_95 : decode prog_10_method_11_code 95 = .ok (.lload 4, 2) := by decide +kernel
theorem d_Sol_chooseCell_97 : decode prog_10_method_11_code 97 = .ok (.lneg, 1) := by decide +kernel
theorem d_Sol_chooseCell_98 : decode prog_10_method_11_code 98 = .ok (.land, 1) := by decide +kernel
theorem d_Sol_chooseCell_99 : decode prog_10_method_11_code 99 = .ok (.putfield 121, 3) := by decide +kernel
theorem d_Sol_chooseCell_102 : decode prog_10_method_11_code 102 = .ok (.aload_n 0, 1) := by decide +kernel
theorem d_Sol_chooseCell_103 : decode prog_10_method_11_code 103 = .ok (.bipush 126, 2) := by decide +kernel
theorem d_Sol_chooseCell_105 : decode prog_10_method_11_code 105 = .ok (.putfield 124, 3) := by decide +kernel
theorem d_Sol_chooseCell_108 : decode prog_10_method_11_code 108 = .ok (.iinc 3 1, 3) := by decide +kernel
theorem d_Sol_chooseCell_111 : decode prog_10_method_11_code 111 = .ok (.goto (-96), 3) := by decide +kernel
theorem d_Sol_chooseCell_114 : decode prog_10_method_11_code 114 = .ok (.iload_n 2, 1) := by decide +kernel
theorem d_Sol_chooseCell_115 : decode prog_10_method_11_code 115 = .ok (.ireturn, 1) := by decide +kernel
def b_Sol_chooseCell_108 (F : Nat) (k15 : Nat → Int32 → Int32 → PH → Option (Int32 × PH)) (a0 : Nat) (i2 : Int32) (i3 : Int32) (h : PH) : Option (Int32 × PH) :=
  k15 a0 i2 (i3 + (1 : Int32)) h
theorem g_Sol_chooseCell_108 {l : Launch} {E : ET} {d : Nat} (hd : 2 ≤ d) {F : Nat} {r : Int32} {h9 : PH} {x : Nat} {k15 : Nat → Int32 → Int32 → PH → Option (Int32 × PH)} (hk15 : ∀ (a0 : Nat) (i2 : Int32) (i3 : Int32) (hh : PH), k15 a0 i2 i3 hh = some (r, h9) → Go l E m_Sol_chooseCell (rm d 0 0) (KM E 0 0 (PoE (some (.int r)) h9 x)) 0 0 hh x 15 [(0, .ref a0), (2, .int i2), (3, .int i3)] []) (a0 : Nat) (i2 : Int32) (i3 : Int32) (h : PH) (hf : b_Sol_chooseCell_108 F k15 a0 i2 i3 h = some (r, h9)) : Go l E m_Sol_chooseCell (rm d 0 0) (KM E 0 0 (PoE (some (.int r)) h9 x)) 0 0 h x 108 [(0, .ref a0), (2, .int i2), (3, .int i3)] [] := by
  unfold b_Sol_chooseCell_108 at hf
  refine go_iinc (lv' := [(3, .int (i3 + (1 : Int32))), (0, .ref a0), (2, .int i2)]) 2 (i3 + (1 : Int32)) d_Sol_chooseCell_108 rfl rfl rfl (by decide) ?_
  refine go_goto 15 d_Sol_chooseCell_111 (by decide) ?_
  refine go_sub (lv' := [(0, .ref a0), (2, .int i2), (3, .int (i3 + (1 : Int32)))]) [1, 2, 0] rfl ?_
  exact hk15 a0 i2 (i3 + (1 : Int32)) h hf
def b_Sol_chooseCell_99 (F : Nat) (k15 : Nat → Int32 → Int32 → PH → Option (Int32 × PH)) (a0 : Nat) (i2 : Int32) (i3 : Int32) (s0 : Int64) (s1 : Nat) (h : PH) : Option (Int32 × PH) :=
  bnd (pV h s1 7 10 (.long s0)) fun h1 => bnd (pV h1 a0 7 11 (.int (126 : Int32))) fun h2 => b_Sol_chooseCell_108 F k15 a0 i2 i3 h2
theorem g_Sol_chooseCell_99 {l : Launch} {E : ET} {d : Nat} (hd : 2 ≤ d) {F : Nat} {r : Int32} {h9 : PH} {x : Nat} {k15 : Nat → Int32 → Int32 → PH → Option (Int32 × PH)} (hk15 : ∀ (a0 : Nat) (i2 : Int32) (i3 : Int32) (hh : PH), k15 a0 i2 i3 hh = some (r, h9) → Go l E m_Sol_chooseCell (rm d 0 0) (KM E 0 0 (PoE (some (.int r)) h9 x)) 0 0 hh x 15 [(0, .ref a0), (2, .int i2), (3, .int i3)] []) (a0 : Nat) (i2 : Int32) (i3 : Int32) (s0 : Int64) (s1 : Nat) (h : PH) (hf : b_Sol_chooseCell_99 F k15 a0 i2 i3 s0 s1 h = some (r, h9)) : Go l E m_Sol_chooseCell (rm d 0 0) (KM E 0 0 (PoE (some (.int r)) h9 x)) 0 0 h x 99 [(0, .ref a0), (2, .int i2), (3, .int i3)] [.long s0, .ref s1] := by
  unfold b_Sol_chooseCell_99 at hf
  obtain ⟨h1, e_h1, hf⟩ := bnd_x hf
  refine go_putL d_Sol_chooseCell_99 e_h1 fl_Sol_121 rfl rfl ?_
  refine go_aload_n 0 d_Sol_chooseCell_102 rfl ?_
  refine go_bipush (126 : Int32) d_Sol_chooseCell_103 (by decide) ?_
  obtain ⟨h2, e_h2, hf⟩ := bnd_x hf
  refine go_putI d_Sol_chooseCell_105 e_h2 fl_Sol_124 rfl rfl ?_
  refine go_sub (lv' := [(0, .ref a0), (2, .int i2), (3, .int i3)]) [0, 1, 2] rfl ?_
  exact g_Sol_chooseCell_108 hd hk15 a0 i2 i3 h2 hf
def b_Sol_chooseCell_15 (F : Nat) (k15 : Nat → Int32 → Int32 → PH → Option (Int32 × PH)) (a0 : Nat) (i2 : Int32) (i3 : Int32) (h : PH) : Option (Int32 × PH) :=
  (if (6 : Int32) < i3 then some (i2, h) else bnd (gR h a0 7 8) fun x1 => bnd (aL h x1 i3) fun x2 => bnd (gR h a0 7 8) fun x3 => bnd (aL h x3 (i3 + (1 : Int32))) fun x4 => bnd (some (x2 &&& (x4 ^^^ (-1 : Int64)))) fun y5 => bnd (gL h a0 7 9) fun x6 => bnd (cK h a0 7) fun _ => bnd (f_Sol_rate a0 i3 (y5 &&& x6) h) fun x8 => (if (lg_cmp y5 (0 : Int64)) = (0 : Int32) then b_Sol_chooseCell_108 F k15 a0 i2 i3 h else (if i2 ≤ x8 then b_Sol_chooseCell_108 F k15 a0 i2 i3 h else (if (lg_cmp (y5 &&& x6) (0 : Int64)) = (0 : Int32) then b_Sol_chooseCell_99 F k15 a0 x8 i3 (y5 &&& (-y5)) a0 h else b_Sol_chooseCell_99 F k15 a0 x8 i3 ((y5 &&& x6) &&& (-(y5 &&& x6))) a0 h))))
def f_Sol_chooseCell_15 (F : Nat) : Nat → Nat → Int32 → Int32 → PH → Option (Int32 × PH)
  | 0 => fun _ _ _ _ => none
  | n + 1 => b_Sol_chooseCell_15 F (f_Sol_chooseCell_15 F n)
theorem g_Sol_chooseCell_15 {l : Launch} {E : ET} {d : Nat} (hd : 2 ≤ d) {F : Nat} {r : Int32} {h9 : PH} {x : Nat} {k15 : Nat → Int32 → Int32 → PH → Option (Int32 × PH)} (hk15 : ∀ (a0 : Nat) (i2 : Int32) (i3 : Int32) (hh : PH), k15 a0 i2 i3 hh = some (r, h9) → Go l E m_Sol_chooseCell (rm d 0 0) (KM E 0 0 (PoE (some (.int r)) h9 x)) 0 0 hh x 15 [(0, .ref a0), (2, .int i2), (3, .int i3)] []) (a0 : Nat) (i2 : Int32) (i3 : Int32) (h : PH) (hf : b_Sol_chooseCell_15 F k15 a0 i2 i3 h = some (r, h9)) : Go l E m_Sol_chooseCell (rm d 0 0) (KM E 0 0 (PoE (some (.int r)) h9 x)) 0 0 h x 15 [(0, .ref a0), (2, .int i2), (3, .int i3)] [] := by
  unfold b_Sol_chooseCell_15 at hf
  refine go_iload_n 2 d_Sol_chooseCell_15 rfl ?_
  refine go_bipush (6 : Int32) d_Sol_chooseCell_16 (by decide) ?_
  refine go_icmp_gt 114 d_Sol_chooseCell_18 (by decide) (fun q12 => ?_) (fun q12 => ?_)
  · rw [if_pos q12] at hf
    refine go_iload_n 1 d_Sol_chooseCell_114 rfl ?_
    obtain ⟨e8, e9⟩ := Prod.mk.inj (Option.some.inj hf)
    subst e8; subst e9
    exact go_iret d_Sol_chooseCell_115 rfl ⟨rfl, rfl, rfl⟩
  · rw [if_neg q12] at hf
    refine go_aload_n 0 d_Sol_chooseCell_21 rfl ?_
    obtain ⟨x1, e_x1, hf⟩ := bnd_x hf
    refine go_get d_Sol_chooseCell_22 (gR_x e_x1) fl_Sol_33 ?_
    refine go_iload_n 2 d_Sol_chooseCell_25 rfl ?_
    obtain ⟨x2, e_x2, hf⟩ := bnd_x hf
    refine go_laload d_Sol_chooseCell_26 e_x2 ?_
    refine go_aload_n 0 d_Sol_chooseCell_27 rfl ?_
    obtain ⟨x3, e_x3, hf⟩ := bnd_x hf
    refine go_get d_Sol_chooseCell_28 (gR_x e_x3) fl_Sol_33 ?_
    refine go_iload_n 2 d_Sol_chooseCell_31 rfl ?_
    refine go_iconst (1 : Int32) d_Sol_chooseCell_32 (by decide) ?_
    refine go_iadd d_Sol_chooseCell_33 ?_
    obtain ⟨x4, e_x4, hf⟩ := bnd_x hf
    refine go_laload d_Sol_chooseCell_34 e_x4 ?_
    refine go_ldc2 (-1 : Int64) d_Sol_chooseCell_35 kl_Sol_84 ?_
    refine go_lxor d_Sol_chooseCell_38 ?_
    refine go_land d_Sol_chooseCell_39 ?_
    obtain ⟨y5, e_y5, hf⟩ := bnd_x hf
    refine go_nmL e_y5 ?_
    refine go_lstore (lv' := [(4, .long y5), (0, .ref a0), (2, .int i2), (3, .int i3)]) d_Sol_chooseCell_40 rfl (by decide) ?_
    refine go_lload 0 d_Sol_chooseCell_42 rfl ?_
    refine go_aload_n 1 d_Sol_chooseCell_44 rfl ?_
    obtain ⟨x6, e_x6, hf⟩ := bnd_x hf
    refine go_get d_Sol_chooseCell_45 (gL_x e_x6) fl_Sol_101 ?_
    refine go_land d_Sol_chooseCell_48 ?_
    refine go_lstore (lv' := [(6, .long (y5 &&& x6)), (4, .long y5), (0, .ref a0), (2, .int i2), (3, .int i3)]) d_Sol_chooseCell_49 rfl (by decide) ?_
    refine go_aload_n 2 d_Sol_chooseCell_51 rfl ?_
    refine go_iload_n 4 d_Sol_chooseCell_52 rfl ?_
    refine go_lload 0 d_Sol_chooseCell_53 rfl ?_
    obtain ⟨_, e7, hf⟩ := bnd_x hf
    obtain ⟨x8, e_x8, hf⟩ := bnd_x hf
    refine go_callV_I (As := [.int i3, .long (y5 &&& x6)]) (st := []) (c_Sol_rate (d := d - 1) (by omega) e_x8) lk_Sol_139 rfl rfl e7 (by decide) rfl (rm_ok (by omega)) (Nat.le_of_ble_eq_true rfl) rm_c d_Sol_chooseCell_55 ?_
    refine go_istore (lv' := [(8, .int x8), (6, .long (y5 &&& x6)), (4, .long y5), (0, .ref a0), (2, .int i2), (3, .int i3)]) d_Sol_chooseCell_58 rfl (by decide) ?_
    refine go_lload 2 d_Sol_chooseCell_60 rfl ?_
    refine go_lconst (0 : Int64) d_Sol_chooseCell_62 (by decide) ?_
    refine go_lcmp d_Sol_chooseCell_63 ?_
    refine go_if_eq 108 d_Sol_chooseCell_64 (by decide) (fun q11 => ?_) (fun q11 => ?_)
    · rw [if_pos q11] at hf
      refine go_sub (lv' := [(0, .ref a0), (2, .int i2), (3, .int i3)]) [3, 4, 5] rfl ?_
      exact g_Sol_chooseCell_108 hd hk15 a0 i2 i3 h hf
    · rw [if_neg q11] at hf
      refine go_iload 0 d_Sol_chooseCell_67 rfl ?_
      refine go_iload_n 4 d_Sol_chooseCell_69 rfl ?_
      refine go_icmp_ge 108 d_Sol_chooseCell_70 (by decide) (fun q10 => ?_) (fun q10 => ?_)
      · rw [if_pos q10] at hf
        refine go_sub (lv' := [(0, .ref a0), (2, .int i2), (3, .int i3)]) [3, 4, 5] rfl ?_
        exact g_Sol_chooseCell_108 hd hk15 a0 i2 i3 h hf
      · rw [if_neg q10] at hf
        refine go_iload 0 d_Sol_chooseCell_73 rfl ?_
        refine go_istore_n (lv' := [(2, .int x8), (8, .int x8), (6, .long (y5 &&& x6)), (4, .long y5), (0, .ref a0), (3, .int i3)]) d_Sol_chooseCell_75 rfl (by decide) ?_
        refine go_aload_n 4 d_Sol_chooseCell_76 rfl ?_
        refine go_lload 2 d_Sol_chooseCell_77 rfl ?_
        refine go_lconst (0 : Int64) d_Sol_chooseCell_79 (by decide) ?_
        refine go_lcmp d_Sol_chooseCell_80 ?_
        refine go_if_eq 93 d_Sol_chooseCell_81 (by decide) (fun q9 => ?_) (fun q9 => ?_)
        · rw [if_pos q9] at hf
          refine go_lload 3 d_Sol_chooseCell_93 rfl ?_
          refine go_lload 3 d_Sol_chooseCell_95 rfl ?_
          refine go_lneg d_Sol_chooseCell_97 ?_
          refine go_land d_Sol_chooseCell_98 ?_
          refine go_sub (lv' := [(0, .ref a0), (2, .int x8), (3, .int i3)]) [4, 0, 5] rfl ?_
          exact g_Sol_chooseCell_99 hd hk15 a0 x8 i3 (y5 &&& (-y5)) a0 h hf
        · rw [if_neg q9] at hf
          refine go_lload 2 d_Sol_chooseCell_84 rfl ?_
          refine go_lload 2 d_Sol_chooseCell_86 rfl ?_
          refine go_lneg d_Sol_chooseCell_88 ?_
          refine go_land d_Sol_chooseCell_89 ?_
          refine go_goto 99 d_Sol_chooseCell_90 (by decide) ?_
          refine go_sub (lv' := [(0, .ref a0), (2, .int x8), (3, .int i3)]) [4, 0, 5] rfl ?_
          exact g_Sol_chooseCell_99 hd hk15 a0 x8 i3 ((y5 &&& x6) &&& (-(y5 &&& x6))) a0 h hf
theorem t_Sol_chooseCell_15 {l : Launch} {E : ET} {d : Nat} (hd : 2 ≤ d) {F : Nat} {r : Int32} {h9 : PH} {x : Nat}  : ∀ (n : Nat) (a0 : Nat) (i2 : Int32) (i3 : Int32) (hh : PH), f_Sol_chooseCell_15 F n a0 i2 i3 hh = some (r, h9) → Go l E m_Sol_chooseCell (rm d 0 0) (KM E 0 0 (PoE (some (.int r)) h9 x)) 0 0 hh x 15 [(0, .ref a0), (2, .int i2), (3, .int i3)] [] := by
  intro n
  induction n with
  | zero => intro v0 v1 v2 v3 hf; cases hf
  | succ n ih => intro v0 v1 v2 v3 hf; exact g_Sol_chooseCell_15 hd ih v0 v1 v2 v3 hf
def f_Sol_chooseCell (F : Nat) (a0 : Nat) (a1 : Nat) (h : PH) : Option (Int32 × PH) :=
  bnd (cK h a0 7) fun _ => bnd (f_Sol_rank F a0 a1 h) fun h2 => bnd (cK h2 a0 7) fun _ => bnd (f_Sol_rate a0 (7 : Int32) (0 : Int64) h2) fun x4 => f_Sol_chooseCell_15 F F a0 x4 (2 : Int32) h2
theorem g_Sol_chooseCell_0 {l : Launch} {E : ET} {d : Nat} (hd : 2 ≤ d) {F : Nat} {r : Int32} {h9 : PH} {x : Nat}  (a0 : Nat) (a1 : Nat) (h : PH) (hf : f_Sol_chooseCell F a0 a1 h = some (r, h9)) : Go l E m_Sol_chooseCell (rm d 0 0) (KM E 0 0 (PoE (some (.int r)) h9 x)) 0 0 h x 0 [(0, .ref a0), (1, .ref a1)] [] := by
  unfold f_Sol_chooseCell at hf
  refine go_aload_n 0 d_Sol_chooseCell_0 rfl ?_
  refine go_aload_n 1 d_Sol_chooseCell_1 rfl ?_
  obtain ⟨_, e1, hf⟩ := bnd_x hf
  obtain ⟨h2, e_x2, hf⟩ := bnd_x hf
  refine go_callV_N (As := [.ref a1]) (st := []) (c_Sol_rank (d := d - 1) (by omega) e_x2) lk_Sol_81 rfl rfl e1 (by decide) rfl (rm_ok (by omega)) (Nat.le_of_ble_eq_true rfl) rm_c d_Sol_chooseCell_2 ?_
  refine go_aload_n 0 d_Sol_chooseCell_5 rfl ?_
  refine go_bipush (7 : Int32) d_Sol_chooseCell_6 (by decide) ?_
  refine go_lconst (0 : Int64) d_Sol_chooseCell_8 (by decide) ?_
  obtain ⟨_, e3, hf⟩ := bnd_x hf
  obtain ⟨x4, e_x4, hf⟩ := bnd_x hf
  refine go_callV_I (As := [.int (7 : Int32), .long (0 : Int64)]) (st := []) (c_Sol_rate (d := d - 1) (by omega) e_x4) lk_Sol_139 rfl rfl e3 (by decide) rfl (rm_ok (by omega)) (Nat.le_of_ble_eq_true rfl) rm_c d_Sol_chooseCell_9 ?_
  refine go_istore_n (lv' := [(2, .int x4), (0, .ref a0), (1, .ref a1)]) d_Sol_chooseCell_12 rfl (by decide) ?_
  refine go_iconst (2 : Int32) d_Sol_chooseCell_13 (by decide) ?_
  refine go_istore_n (lv' := [(3, .int (2 : Int32)), (2, .int x4), (0, .ref a0), (1, .ref a1)]) d_Sol_chooseCell_14 rfl (by decide) ?_
  refine go_sub (lv' := [(0, .ref a0), (2, .int x4), (3, .int (2 : Int32))]) [2, 1, 0] rfl ?_
  exact t_Sol_chooseCell_15 hd  _ a0 x4 (2 : Int32) h2 hf
theorem c_Sol_chooseCell {l : Launch} {E : ET} {d : Nat} (hd : 2 ≤ d) {F : Nat} {r : Int32} {h9 : PH} {x : Nat} {a0 : Nat} {a1 : Nat} {h : PH} (hf : f_Sol_chooseCell F a0 a1 h = some (r, h9)) : Fn l E m_Sol_chooseCell d 0 0 [.ref a0, .ref a1] h x (PoE (some (.int r)) h9 x) :=
  Fn.of (by decide +kernel) (Nat.le_of_ble_eq_true rfl) (g_Sol_chooseCell_0 hd a0 a1 h hf)
theorem d_Sol_chooseBranch_0 : decode prog_10_method_10_code 0 = .ok (.aload_n 0, 1) := by decide +kernel
theorem d_Sol_chooseBranch_1 : decode prog_10_method_10_code 1 = .ok (.aload_n 1, 1) := by decide +kernel
theorem d_Sol_chooseBranch_2 : decode prog_10_method_10_code 2 = .ok (.invokevirtual 132, 3) := by decide +kernel
theorem d_Sol_chooseBranch_5 : decode prog_10_method_10_code 5 = .ok (.istore_n 2, 1) := by decide +kernel
theorem d_Sol_chooseBranch_6 : decode prog_10_method_10_code 6 = .ok (.iconst 0, 1) := by decide +kernel
theorem d_Sol_chooseBranch_7 : decode prog_10_method_10_code 7 = .ok (.istore_n 3, 1) := by decide +kernel
theorem d_Sol_chooseBranch_8 : decode prog_10_method_10_code 8 = .ok (.iload_n 3, 1) := by decide +kernel
theorem d_Sol_chooseBranch_9 : decode prog_10_method_10_code 9 = .ok (.bipush 18, 2) := by decide +kernel
theorem d_Sol_chooseBranch_11 : decode prog_10_method_10_code 11 = .ok (.if_icmp .ge 92, 3) := by decide +kernel
theorem d_Sol_chooseBranch_14 : decode prog_10_method_10_code 14 = .ok (.iconst 1, 1) := by decide +kernel
theorem d_Sol_chooseBranch_15 : decode prog_10_method_10_code 15 = .ok (.istore 4, 2) := by decide +kernel
theorem d_Sol_chooseBranch_17 : decode prog_10_method_10_code 17 = .ok (.iload 4, 2) := by decide +kernel
theorem d_Sol_chooseBranch_19 : decode prog_10_method_10_code 19 = .ok (.bipush 6, 2) := by decide +kernel
theorem d_Sol_chooseBranch_21 : decode prog_10_method_10_code 21 = .ok (.if_icmp .gt 76, 3) := by decide +kernel
theorem d_Sol_chooseBranch_24 : decode prog_10_method_10_code 24 = .ok (.aload_n 1, 1) := by decide +kernel
theorem d_Sol_chooseBranch_25 : decode prog_10_method_10_code 25 = .ok (.getfield 92, 3) := by decide +kernel
theorem d_Sol_chooseBranch_28 : decode prog_10_method_10_code 28 = .ok (.iload 4, 2) := by decide +kernel
theorem d_Sol_chooseBranch_30 : decode prog_10_method_10_code 30 = .ok (.laload, 1) := by decide +kernel
theorem d_Sol_chooseBranch_31 : decode prog_10_method_10_code 31 = .ok (.iload_n 3, 1) := by decide +kernel
theorem d_Sol_chooseBranch_32 : decode prog_10_method_10_code 32 = .ok (.invokestatic 135, 3) := by decide +kernel
theorem d_Sol_chooseBranch_35 : decode prog_10_method_10_code 35 = .ok (.land, 1) := by decide +kernel
theorem d_Sol_chooseBranch_36 : decode prog_10_method_10_code 36 = .ok (.lstore 5, 2) := by decide +kernel
theorem d_Sol_chooseBranch_38 : decode prog_10_method_10_code 38 = .ok (.lload 5, 2) := by decide +kernel
theorem d_Sol_chooseBranch_40 : decode prog_10_method_10_code 40 = .ok (.lconst 0, 1) := by decide +kernel
theorem d_Sol_chooseBranch_41 : decode prog_10_method_10_code 41 = .ok (.lcmp, 1) := by decide +kernel
theorem d_Sol_chooseBranch_42 : decode prog_10_method_10_code 42 = .ok (.ifCond .ne 5, 3) := by decide +kernel
theorem d_Sol_chooseBranch_45 : decode prog_10_method_10_code 45 = .ok (.iconst 0, 1) := by decide +kernel
theorem d_Sol_chooseBranch_46 : decode prog_10_method_10_code 46 = .ok (.ireturn, 1) := by decide +kernel
theorem d_Sol_chooseBranch_47 : decode prog_10_method_10_code 47 = .ok (.aload_n 0, 1) := by decide +kernel
theorem d_Sol_chooseBranch_48 : decode prog_10_method_10_code 48 = .ok (.lload 5, 2) := by decide +kernel
theorem d_Sol_chooseBranch_50 : decode prog_10_method_10_code 50 = .ok (.invokestatic 127, 3) := by decide +kernel
theorem d_Sol_chooseBranch_53 : decode prog_10_method_10_code 53 = .ok (.lload 5, 2) := by decide +kernel
theorem d_Sol_chooseBranch_55 : decode prog_10_method_10_code 55 = .ok (.invokevirtual 139, 3) := by decide +kernel
theorem d_Sol_chooseBranch_58 : decode prog_10_method_10_code 58 = .ok (.istore 7, 2) := by decide +kernel
theorem d_Sol_chooseBranch_60 : decode prog_10_method_10_code 60 = .ok (.iload 7, 2) := by decide +kernel
theorem d_Sol_chooseBranch_62 : decode prog_10_method_10_code 62 = .ok (.iload_n 2, 1) := by decide +kernel
theorem d_Sol_chooseBranch_63 : decode prog_10_method_10_code 63 = .ok (.if_icmp .ge 28, 3) := by decide +kernel
theorem d_Sol_chooseBranch_66 : decode prog_10_method_10_code 66 = .ok (.lload 5, 2) := by decide +kernel
theorem d_Sol_chooseBranch_68 : decode prog_10_method_10_code 68 = .ok (.invokestatic 143, 3) := by decide +kernel
theorem d_Sol_chooseBranch_71 : decode prog_10_method_10_code 71 = .ok (.ifCond .ne 20, 3) := by decide +kernel
theorem d_Sol_chooseBranch_74 : decode prog_10_method_10_code 74 = .ok (.iload 7, 2) := by decide +kernel
theorem d_Sol_chooseBranch_76 : decode prog_10_method_10_code 76 = .ok (.istore_n 2, 1) := by decide +kernel
theorem d_Sol_chooseBranch_77 : decode prog_10_method_10_code 77 = .ok (.aload_n 0, 1) := by decide +kernel
theorem d_Sol_chooseBranch_78 : decode prog_10_method_10_code 78 = .ok (.lload 5, 2) := by decide +kernel
theorem d_Sol_chooseBranch_80 : decode prog_10_method_10_code 80 = .ok (.putfield 121, 3) := by decide +kernel
theorem d_Sol_chooseBranch_83 : decode prog_10_method_10_code 83 = .ok (.aload_n 0, 1) := by decide +kernel
theorem d_Sol_chooseBranch_84 : decode prog_10_method_10_code 84 = .ok (.iconst 1, 1) := by decide +kernel
theorem d_Sol_chooseBranch_85 : decode prog_10_method_10_code 85 = .ok (.iload 4, 2) := by decide +kernel
theorem d_Sol_chooseBranch_87 : decode prog_10_method_10_code 87 = .ok (.ishl, 1) := by decide +kernel
theorem d_Sol_chooseBranch_88 : decode prog_10_method_10_code 88 = .ok (.putfield 124, 3) := by decide +kernel
theorem d_Sol_chooseBranch_91 : decode prog_10_method_10_code 91 = .ok (.iinc 4 1, 3) := by decide +kernel
theorem d_Sol_chooseBranch_94 : decode prog_10_method_10_code 94 = .ok (.goto (-77), 3) := by decide +kernel
theorem d_Sol_chooseBranch_97 : decode prog_10_method_10_code 97 = .ok (.iinc 3 1, 3) := by decide +kernel
theorem d_Sol_chooseBranch_100 : decode prog_10_method_10_code 100 = .ok (.goto (-92), 3) := by decide +kernel
theorem d_Sol_chooseBranch_103 : decode prog_10_method_10_code 103 = .ok (.iconst 1, 1) := by decide +kernel
theorem d_Sol_chooseBranch_104 : decode prog_10_method_10_code 104 = .ok (.ireturn, 1) := by decide +kernel
def b_Sol_chooseBranch_91 (F : Nat) (k17 : Nat → Nat → Int32 → Int32 → Int32 → PH → Option (Int32 × PH)) (a0 : Nat) (a1 : Nat) (i2 : Int32) (i3 : Int32) (i4 : Int32) (h : PH) : Option (Int32 × PH) :=
  k17 a0 a1 i2 i3 (i4 + (1 : Int32)) h
theorem g_Sol_chooseBranch_91 {l : Launch} {E : ET} {d : Nat} (hd : 3 ≤ d) {F : Nat} {r : Int32} {h9 : PH} {x : Nat} {k17 : Nat → Nat → Int32 → Int32 → Int32 → PH → Option (Int32 × PH)} (hk17 : ∀ (a0 : Nat) (a1 : Nat) (i2 : Int32) (i3 : Int32) (i4 : Int32) (hh : PH), k17 a0 a1 i2 i3 i4 hh = some (r, h9) → Go l E m_Sol_chooseBranch (rm d 0 0) (KM E 0 0 (PoE (some (.int r)) h9 x)) 0 0 hh x 17 [(0, .ref a0), (1, .ref a1), (2, .int i2), (3, .int i3), (4, .int i4)] []) (a0 : Nat) (a1 : Nat) (i2 : Int32) (i3 : Int32) (i4 : Int32) (h : PH) (hf : b_Sol_chooseBranch_91 F k17 a0 a1 i2 i3 i4 h = some (r, h9)) : Go l E m_Sol_chooseBranch (rm d 0 0) (KM E 0 0 (PoE (some (.int r)) h9 x)) 0 0 h x 91 [(0, .ref a0), (1, .ref a1), (2, .int i2), (3, .int i3), (4, .int i4)] [] := by
  unfold b_Sol_chooseBranch_91 at hf
  refine go_iinc (lv' := [(4, .int (i4 + (1 : Int32))), (0, .ref a0), (1, .ref a1), (2, .int i2), (3, .int i3)]) 4 (i4 + (1 : Int32)) d_Sol_chooseBranch_91 rfl rfl rfl (by decide) ?_
  refine go_goto 17 d_Sol_chooseBranch_94 (by decide) ?_
  refine go_sub (lv' := [(0, .ref a0), (1, .ref a1), (2, .int i2), (3, .int i3), (4, .int (i4 + (1 : Int32)))]) [1, 2, 3, 4, 0] rfl ?_
  exact hk17 a0 a1 i2 i3 (i4 + (1 : Int32)) h hf
def b_Sol_chooseBranch_17 (F : Nat) (k8 : Nat → Nat → Int32 → Int32 → PH → Option (Int32 × PH)) (k17 : Nat → Nat → Int32 → Int32 → Int32 → PH → Option (Int32 × PH)) (a0 : Nat) (a1 : Nat) (i2 : Int32) (i3 : Int32) (i4 : Int32) (h : PH) : Option (Int32 × PH) :=
  (if (6 : Int32) < i4 then k8 a0 a1 i2 (i3 + (1 : Int32)) h else bnd (gR h a1 1 0) fun x1 => bnd (aL h x1 i4) fun x2 => bnd (f_Grd_unit i3) fun x3 => (if (lg_cmp (x2 &&& x3) (0 : Int64)) = (0 : Int32) then some ((0 : Int32), h) else bnd (f_Lng_bitCount (x2 &&& x3)) fun x4 => bnd (cK h a0 7) fun _ => bnd (f_Sol_rate a0 x4 (x2 &&& x3) h) fun x6 => (if i2 ≤ x6 then b_Sol_chooseBranch_91 F k17 a0 a1 i2 i3 i4 h else bnd (f_Grd_isOne (x2 &&& x3)) fun x7 => (if x7 = (0 : Int32) then bnd (pV h a0 7 10 (.long (x2 &&& x3))) fun h8 => bnd (pV h8 a0 7 11 (.int ((1 : Int32) <<< (i4 &&& 31)))) fun h9 => b_Sol_chooseBranch_91 F k17 a0 a1 x6 i3 i4 h9 else b_Sol_chooseBranch_91 F k17 a0 a1 i2 i3 i4 h))))
def f_Sol_chooseBranch_17 (F : Nat) (k8 : Nat → Nat → Int32 → Int32 → PH → Option (Int32 × PH)) : Nat → Nat → Nat → Int32 → Int32 → Int32 → PH → Option (Int32 × PH)
  | 0 => fun _ _ _ _ _ _ => none
  | n + 1 => b_Sol_chooseBranch_17 F k8 (f_Sol_chooseBranch_17 F k8 n)
theorem g_Sol_chooseBranch_17 {l : Launch} {E : ET} {d : Nat} (hd : 3 ≤ d) {F : Nat} {r : Int32} {h9 : PH} {x : Nat} {k8 : Nat → Nat → Int32 → Int32 → PH → Option (Int32 × PH)} (hk8 : ∀ (a0 : Nat) (a1 : Nat) (i2 : Int32) (i3 : Int32) (hh : PH), k8 a0 a1 i2 i3 hh = some (r, h9) → Go l E m_Sol_chooseBranch (rm d 0 0) (KM E 0 0 (PoE (some (.int r)) h9 x)) 0 0 hh x 8 [(0, .ref a0), (1, .ref a1), (2, .int i2), (3, .int i3)] []) {k17 : Nat → Nat → Int32 → Int32 → Int32 → PH → Option (Int32 × PH)} (hk17 : ∀ (a0 : Nat) (a1 : Nat) (i2 : Int32) (i3 : Int32) (i4 : Int32) (hh : PH), k17 a0 a1 i2 i3 i4 hh = some (r, h9) → Go l E m_Sol_chooseBranch (rm d 0 0) (KM E 0 0 (PoE (some (.int r)) h9 x)) 0 0 hh x 17 [(0, .ref a0), (1, .ref a1), (2, .int i2), (3, .int i3), (4, .int i4)] []) (a0 : Nat) (a1 : Nat) (i2 : Int32) (i3 : Int32) (i4 : Int32) (h : PH) (hf : b_Sol_chooseBranch_17 F k8 k17 a0 a1 i2 i3 i4 h = some (r, h9)) : Go l E m_Sol_chooseBranch (rm d 0 0) (KM E 0 0 (PoE (some (.int r)) h9 x)) 0 0 h x 17 [(0, .ref a0), (1, .ref a1), (2, .int i2), (3, .int i3), (4, .int i4)] [] := by
  unfold b_Sol_chooseBranch_17 at hf
  refine go_iload 4 d_Sol_chooseBranch_17 rfl ?_
  refine go_bipush (6 : Int32) d_Sol_chooseBranch_19 (by decide) ?_
  refine go_icmp_gt 97 d_Sol_chooseBranch_21 (by decide) (fun q13 => ?_) (fun q13 => ?_)
  · rw [if_pos q13] at hf
    refine go_iinc (lv' := [(3, .int (i3 + (1 : Int32))), (0, .ref a0), (1, .ref a1), (2, .int i2), (4, .int i4)]) 3 (i3 + (1 : Int32)) d_Sol_chooseBranch_97 rfl rfl rfl (by decide) ?_
    refine go_goto 8 d_Sol_chooseBranch_100 (by decide) ?_
    refine go_sub (lv' := [(0, .ref a0), (1, .ref a1), (2, .int i2), (3, .int (i3 + (1 : Int32)))]) [1, 2, 3, 0] rfl ?_
    exact hk8 a0 a1 i2 (i3 + (1 : Int32)) h hf
  · rw [if_neg q13] at hf
    refine go_aload_n 1 d_Sol_chooseBranch_24 rfl ?_
    obtain ⟨x1, e_x1, hf⟩ := bnd_x hf
    refine go_get d_Sol_chooseBranch_25 (gR_x e_x1) fl_Sol_92 ?_
    refine go_iload 4 d_Sol_chooseBranch_28 rfl ?_
    obtain ⟨x2, e_x2, hf⟩ := bnd_x hf
    refine go_laload d_Sol_chooseBranch_30 e_x2 ?_
    refine go_iload_n 3 d_Sol_chooseBranch_31 rfl ?_
    obtain ⟨x3, e_x3, hf⟩ := bnd_x hf
    refine go_callS_L (As := [.int i3]) (st := [.long x2]) (c_Grd_unit (d := d - 1) (by omega) e_x3) lk_Sol_135 rfl rfl (rm_ok (by omega)) (Nat.le_of_ble_eq_true rfl) rm_c d_Sol_chooseBranch_32 ?_
    refine go_land d_Sol_chooseBranch_35 ?_
    refine go_lstore (lv' := [(5, .long (x2 &&& x3)), (0, .ref a0), (1, .ref a1), (2, .int i2), (3, .int i3), (4, .int i4)]) d_Sol_chooseBranch_36 rfl (by decide) ?_
    refine go_lload 0 d_Sol_chooseBranch_38 rfl ?_
    refine go_lconst (0 : Int64) d_Sol_chooseBranch_40 (by decide) ?_
    refine go_lcmp d_Sol_chooseBranch_41 ?_
    refine go_if_ne 47 d_Sol_chooseBranch_42 (by decide) (fun q12 => ?_) (fun q12 => ?_)
    · rw [if_neg q12] at hf
      refine go_aload_n 1 d_Sol_chooseBranch_47 rfl ?_
      refine go_lload 0 d_Sol_chooseBranch_48 rfl ?_
      obtain ⟨x4, e_x4, hf⟩ := bnd_x hf
      refine go_callS_I (As := [.long (x2 &&& x3)]) (st := [.ref a0]) (c_Lng_bitCount (d := d - 1) (by omega) e_x4) lk_Sol_127 rfl rfl (rm_ok (by omega)) (Nat.le_of_ble_eq_true rfl) rm_c d_Sol_chooseBranch_50 ?_
      refine go_lload 0 d_Sol_chooseBranch_53 rfl ?_
      obtain ⟨_, e5, hf⟩ := bnd_x hf
      obtain ⟨x6, e_x6, hf⟩ := bnd_x hf
      refine go_callV_I (As := [.int x4, .long (x2 &&& x3)]) (st := []) (c_Sol_rate (d := d - 1) (by omega) e_x6) lk_Sol_139 rfl rfl e5 (by decide) rfl (rm_ok (by omega)) (Nat.le_of_ble_eq_true rfl) rm_c d_Sol_chooseBranch_55 ?_
      refine go_istore (lv' := [(7, .int x6), (5, .long (x2 &&& x3)), (0, .ref a0), (1, .ref a1), (2, .int i2), (3, .int i3), (4, .int i4)]) d_Sol_chooseBranch_58 rfl (by decide) ?_
      refine go_iload 0 d_Sol_chooseBranch_60 rfl ?_
      refine go_iload_n 4 d_Sol_chooseBranch_62 rfl ?_
      refine go_icmp_ge 91 d_Sol_chooseBranch_63 (by decide) (fun q11 => ?_) (fun q11 => ?_)
      · rw [if_pos q11] at hf
        refine go_sub (lv' := [(0, .ref a0), (1, .ref a1), (2, .int i2), (3, .int i3), (4, .int i4)]) [2, 3, 4, 5, 6] rfl ?_
        exact g_Sol_chooseBranch_91 hd hk17 a0 a1 i2 i3 i4 h hf
      · rw [if_neg q11] at hf
        refine go_lload 1 d_Sol_chooseBranch_66 rfl ?_
        obtain ⟨x7, e_x7, hf⟩ := bnd_x hf
        refine go_callS_I (As := [.long (x2 &&& x3)]) (st := []) (c_Grd_isOne (d := d - 1) (by omega) e_x7) lk_Sol_143 rfl rfl (rm_ok (by omega)) (Nat.le_of_ble_eq_true rfl) rm_c d_Sol_chooseBranch_68 ?_
        refine go_if_ne 91 d_Sol_chooseBranch_71 (by decide) (fun q10 => ?_) (fun q10 => ?_)
        · rw [if_neg q10] at hf
          refine go_sub (lv' := [(0, .ref a0), (1, .ref a1), (2, .int i2), (3, .int i3), (4, .int i4)]) [2, 3, 4, 5, 6] rfl ?_
          exact g_Sol_chooseBranch_91 hd hk17 a0 a1 i2 i3 i4 h hf
        · rw [if_pos q10] at hf
          refine go_iload 0 d_Sol_chooseBranch_74 rfl ?_
          refine go_istore_n (lv' := [(2, .int x6), (7, .int x6), (5, .long (x2 &&& x3)), (0, .ref a0), (1, .ref a1), (3, .int i3), (4, .int i4)]) d_Sol_chooseBranch_76 rfl (by decide) ?_
          refine go_aload_n 3 d_Sol_chooseBranch_77 rfl ?_
          refine go_lload 2 d_Sol_chooseBranch_78 rfl ?_
          obtain ⟨h8, e_h8, hf⟩ := bnd_x hf
          refine go_putL d_Sol_chooseBranch_80 e_h8 fl_Sol_121 rfl rfl ?_
          refine go_aload_n 3 d_Sol_chooseBranch_83 rfl ?_
          refine go_iconst (1 : Int32) d_Sol_chooseBranch_84 (by decide) ?_
          refine go_iload 6 d_Sol_chooseBranch_85 rfl ?_
          refine go_ishl d_Sol_chooseBranch_87 ?_
          obtain ⟨h9, e_h9, hf⟩ := bnd_x hf
          refine go_putI d_Sol_chooseBranch_88 e_h9 fl_Sol_124 rfl rfl ?_
          refine go_sub (lv' := [(0, .ref a0), (1, .ref a1), (2, .int x6), (3, .int i3), (4, .int i4)]) [3, 4, 0, 5, 6] rfl ?_
          exact g_Sol_chooseBranch_91 hd hk17 a0 a1 x6 i3 i4 h9 hf
    · rw [if_pos q12] at hf
      refine go_iconst (0 : Int32) d_Sol_chooseBranch_45 (by decide) ?_
      obtain ⟨e8, e9⟩ := Prod.mk.inj (Option.some.inj hf)
      subst e8; subst e9
      exact go_zret d_Sol_chooseBranch_46 rfl rfl ⟨rfl, rfl, rfl⟩
theorem t_Sol_chooseBranch_17 {l : Launch} {E : ET} {d : Nat} (hd : 3 ≤ d) {F : Nat} {r : Int32} {h9 : PH} {x : Nat} {k8 : Nat → Nat → Int32 → Int32 → PH → Option (Int32 × PH)} (hk8 : ∀ (a0 : Nat) (a1 : Nat) (i2 : Int32) (i3 : Int32) (hh : PH), k8 a0 a1 i2 i3 hh = some (r, h9) → Go l E m_Sol_chooseBranch (rm d 0 0) (KM E 0 0 (PoE (some (.int r)) h9 x)) 0 0 hh x 8 [(0, .ref a0), (1, .ref a1), (2, .int i2), (3, .int i3)] []) : ∀ (n : Nat) (a0 : Nat) (a1 : Nat) (i2 : Int32) (i3 : Int32) (i4 : Int32) (hh : PH), f_Sol_chooseBranch_17 F k8 n a0 a1 i2 i3 i4 hh = some (r, h9) → Go l E m_Sol_chooseBranch (rm d 0 0) (KM E 0 0 (PoE (some (.int r)) h9 x)) 0 0 hh x 17 [(0, .ref a0), (1, .ref a1), (2, .int i2), (3, .int i3), (4, .int i4)] [] := by
  intro n
  induction n with
  | zero => intro v0 v1 v2 v3 v4 v5 hf; cases hf
  | succ n ih => intro v0 v1 v2 v3 v4 v5 hf; exact g_Sol_chooseBranch_17 hd hk8 ih v0 v1 v2 v3 v4 v5 hf
def b_Sol_chooseBranch_8 (F : Nat) (k8 : Nat → Nat → Int32 → Int32 → PH → Option (Int32 × PH)) (a0 : Nat) (a1 : Nat) (i2 : Int32) (i3 : Int32) (h : PH) : Option (Int32 × PH) :=
  (if (18 : Int32) ≤ i3 then some ((1 : Int32), h) else f_Sol_chooseBranch_17 F k8 F a0 a1 i2 i3 (1 : Int32) h)
def f_Sol_chooseBranch_8 (F : Nat) : Nat → Nat → Nat → Int32 → Int32 → PH → Option (Int32 × PH)
  | 0 => fun _ _ _ _ _ => none
  | n + 1 => b_Sol_chooseBranch_8 F (f_Sol_chooseBranch_8 F n)
theorem g_Sol_chooseBranch_8 {l : Launch} {E : ET} {d : Nat} (hd : 3 ≤ d) {F : Nat} {r : Int32} {h9 : PH} {x : Nat} {k8 : Nat → Nat → Int32 → Int32 → PH → Option (Int32 × PH)} (hk8 : ∀ (a0 : Nat) (a1 : Nat) (i2 : Int32) (i3 : Int32) (hh : PH), k8 a0 a1 i2 i3 hh = some (r, h9) → Go l E m_Sol_chooseBranch (rm d 0 0) (KM E 0 0 (PoE (some (.int r)) h9 x)) 0 0 hh x 8 [(0, .ref a0), (1, .ref a1), (2, .int i2), (3, .int i3)] []) (a0 : Nat) (a1 : Nat) (i2 : Int32) (i3 : Int32) (h : PH) (hf : b_Sol_chooseBranch_8 F k8 a0 a1 i2 i3 h = some (r, h9)) : Go l E m_Sol_chooseBranch (rm d 0 0) (KM E 0 0 (PoE (some (.int r)) h9 x)) 0 0 h x 8 [(0, .ref a0), (1, .ref a1), (2, .int i2), (3, .int i3)] [] := by
  unfold b_Sol_chooseBranch_8 at hf
  refine go_iload_n 3 d_Sol_chooseBranch_8 rfl ?_
  refine go_bipush (18 : Int32) d_Sol_chooseBranch_9 (by decide) ?_
  refine go_icmp_ge 103 d_Sol_chooseBranch_11 (by decide) (fun q1 => ?_) (fun q1 => ?_)
  · rw [if_pos q1] at hf
    refine go_iconst (1 : Int32) d_Sol_chooseBranch_103 (by decide) ?_
    obtain ⟨e8, e9⟩ := Prod.mk.inj (Option.some.inj hf)
    subst e8; subst e9
    exact go_zret d_Sol_chooseBranch_104 rfl rfl ⟨rfl, rfl, rfl⟩
  · rw [if_neg q1] at hf
    refine go_iconst (1 : Int32) d_Sol_chooseBranch_14 (by decide) ?_
    refine go_istore (lv' := [(4, .int (1 : Int32)), (0, .ref a0), (1, .ref a1), (2, .int i2), (3, .int i3)]) d_Sol_chooseBranch_15 rfl (by decide) ?_
    refine go_sub (lv' := [(0, .ref a0), (1, .ref a1), (2, .int i2), (3, .int i3), (4, .int (1 : Int32))]) [1, 2, 3, 4, 0] rfl ?_
    exact t_Sol_chooseBranch_17 hd hk8 _ a0 a1 i2 i3 (1 : Int32) h hf
theorem t_Sol_chooseBranch_8 {l : Launch} {E : ET} {d : Nat} (hd : 3 ≤ d) {F : Nat} {r : Int32} {h9 : PH} {x : Nat}  : ∀ (n : Nat) (a0 : Nat) (a1 : Nat) (i2 : Int32) (i3 : Int32) (hh : PH), f_Sol_chooseBranch_8 F n a0 a1 i2 i3 hh = some (r, h9) → Go l E m_Sol_chooseBranch (rm d 0 0) (KM E 0 0 (PoE (some (.int r)) h9 x)) 0 0 hh x 8 [(0, .ref a0), (1, .ref a1), (2, .int i2), (3, .int i3)] [] := by
  intro n
  induction n with
  | zero => intro v0 v1 v2 v3 v4 hf; cases hf
  | succ n ih => intro v0 v1 v2 v3 v4 hf; exact g_Sol_chooseBranch_8 hd ih v0 v1 v2 v3 v4 hf
def f_Sol_chooseBranch (F : Nat) (a0 : Nat) (a1 : Nat) (h : PH) : Option (Int32 × PH) :=
  bnd (cK h a0 7) fun _ => bnd2 (f_Sol_chooseCell F a0 a1 h) fun x2 h3 => f_Sol_chooseBranch_8 F F a0 a1 x2 (0 : Int32) h3
theorem g_Sol_chooseBranch_0 {l : Launch} {E : ET} {d : Nat} (hd : 3 ≤ d) {F : Nat} {r : Int32} {h9 : PH} {x : Nat}  (a0 : Nat) (a1 : Nat) (h : PH) (hf : f_Sol_chooseBranch F a0 a1 h = some (r, h9)) : Go l E m_Sol_chooseBranch (rm d 0 0) (KM E 0 0 (PoE (some (.int r)) h9 x)) 0 0 h x 0 [(0, .ref a0), (1, .ref a1)] [] := by
  unfold f_Sol_chooseBranch at hf
  refine go_aload_n 0 d_Sol_chooseBranch_0 rfl ?_
  refine go_aload_n 1 d_Sol_chooseBranch_1 rfl ?_
  obtain ⟨_, e1, hf⟩ := bnd_x hf
  obtain ⟨x2, h3, e_x2, hf⟩ := bnd2_x hf
  refine go_callV_I (As := [.ref a1]) (st := []) (c_Sol_chooseCell (d := d - 1) (by omega) e_x2) lk_Sol_132 rfl rfl e1 (by decide) rfl (rm_ok (by omega)) (Nat.le_of_ble_eq_true rfl) rm_c d_Sol_chooseBranch_2 ?_
  refine go_istore_n (lv' := [(2, .int x2), (0, .ref a0), (1, .ref a1)]) d_Sol_chooseBranch_5 rfl (by decide) ?_
  refine go_iconst (0 : Int32) d_Sol_chooseBranch_6 (by decide) ?_
  refine go_istore_n (lv' := [(3, .int (0 : Int32)), (2, .int x2), (0, .ref a0), (1, .ref a1)]) d_Sol_chooseBranch_7 rfl (by decide) ?_
  refine go_sub (lv' := [(0, .ref a0), (1, .ref a1), (2, .int x2), (3, .int (0 : Int32))]) [2, 3, 1, 0] rfl ?_
  exact t_Sol_chooseBranch_8 hd  _ a0 a1 x2 (0 : Int32) h3 hf
theorem c_Sol_chooseBranch {l : Launch} {E : ET} {d : Nat} (hd : 3 ≤ d) {F : Nat} {r : Int32} {h9 : PH} {x : Nat} {a0 : Nat} {a1 : Nat} {h : PH} (hf : f_Sol_chooseBranch F a0 a1 h = some (r, h9)) : Fn l E m_Sol_chooseBranch d 0 0 [.ref a0, .ref a1] h x (PoE (some (.int r)) h9 x) :=
  Fn.of (by decide +kernel) (Nat.le_of_ble_eq_true rfl) (g_Sol_chooseBranch_0 hd a0 a1 h hf)
theorem d_Sol_countLevel_0 : decode prog_10_method_8_code 0 = .ok (.aload_n 0, 1) := by decide +kernel
theorem d_Sol_countLevel_1 : decode prog_10_method_8_code 1 = .ok (.getfield 20, 3) := by decide +kernel
theorem d_Sol_countLevel_4 : decode prog_10_method_8_code 4 = .ok (.iload_n 2, 1) := by decide +kernel
theorem d_Sol_countLevel_5 : decode prog_10_method_8_code 5 = .ok (.aaload, 1) := by decide +kernel
theorem d_Sol_countLevel_6 : decode prog_10_method_8_code 6 = .ok (.astore_n 3, 1) := by decide +kernel
theorem d_Sol_countLevel_7 : decode prog_10_method_8_code 7 = .ok (.iconst 0, 1) := by decide +kernel
theorem d_Sol_countLevel_8 : decode prog_10_method_8_code 8 = .ok (.istore 4, 2) := by decide +kernel
theorem d_Sol_countLevel_10 : decode prog_10_method_8_code 10 = .ok (.iload 4, 2) := by decide +kernel
theorem d_Sol_countLevel_12 : decode prog_10_method_8_code 12 = .ok (.sipush 500, 3) := by decide +kernel
theorem d_Sol_countLevel_15 : decode prog_10_method_8_code 15 = .ok (.if_icmp .ge 21, 3) := by decide +kernel
theorem d_Sol_countLevel_18 : decode prog_10_method_8_code 18 = .ok (.aload_n 0, 1) := by decide +kernel
theorem d_Sol_countLevel_19 : decode prog_10_method_8_code 19 = .ok (.getfield 12, 3) := by decide +kernel
theorem d_Sol_countLevel_22 : decode prog_10_method_8_code 22 = .ok (.aload_n 3, 1) := by decide +kernel
theorem d_Sol_countLevel_23 : decode prog_10_method_8_code 23 = .ok (.aload_n 1, 1) := by decide +kernel
theorem d_Sol_countLevel_24 : decode prog_10_method_8_code 24 = .ok (.invokevirtual 58, 3) := by decide +kernel
theorem d_Sol_countLevel_27 : decode prog_10_method_8_code 27 = .ok (.ifCond .eq 9, 3) := by decide +kernel
theorem d_Sol_countLevel_30 : decode prog_10_method_8_code 30 = .ok (.iinc 4 1, 3) := by decide +kernel
theorem d_Sol_countLevel_33 : decode prog_10_method_8_code 33 = .ok (.goto (-23), 3) := by decide +kernel
theorem d_Sol_countLevel_36 : decode prog_10_method_8_code 36 = .ok (.aload_n 3, 1) := by decide +kernel
theorem d_Sol_countLevel_37 : decode prog_10_method_8_code 37 = .ok (.invokevirtual 62, 3) := by decide +kernel
theorem d_Sol_countLevel_40 : decode prog_10_method_8_code 40 = .ok (.ifCond .eq 9, 3) := by decide +kernel
theorem d_Sol_countLevel_43 : decode prog_10_method_8_code 43 = .ok (.aload_n 0, 1) := by decide +kernel
theorem d_Sol_countLevel_44 : decode prog_10_method_8_code 44 = .ok (.aload_n 3, 1) := by decide +kernel
theorem d_Sol_countLevel_45 : decode prog_10_method_8_code 45 = .ok (.invokevirtual 114, 3) := by decide +kernel
theorem d_Sol_countLevel_48 : decode prog_10_method_8_code 48 = .ok (.return_, 1) := by decide +kernel
theorem d_Sol_countLevel_49 : decode prog_10_method_8_code 49 = .ok (.aload_n 3, 1) := by decide +kernel
theorem d_Sol_countLevel_50 : decode prog_10_method_8_code 50 = .ok (.invokevirtual 66, 3) := by decide +kernel
theorem d_Sol_countLevel_53 : decode prog_10_method_8_code 53 = .ok (.ifCond .ne 19, 3) := by decide +kernel
theorem d_Sol_countLevel_56 : decode prog_10_method_8_code 56 = .ok (.iload_n 2, 1) := by decide +kernel
theorem d_Sol_countLevel_57 : decode prog_10_method_8_code 57 = .ok (.iconst 1, 1) := by decide +kernel
theorem d_Sol_countLevel_58 : decode prog_10_method_8_code 58 = .ok (.iadd, 1) := by decide +kernel
theorem d_Sol_countLevel_59 : decode prog_10_method_8_code 59 = .ok (.bipush 38, 2) := by decide +kernel
theorem d_Sol_countLevel_61 : decode prog_10_method_8_code 61 = .ok (.if_icmp .ge 11, 3) := by decide +kernel
theorem d_Sol_countLevel_64 : decode prog_10_method_8_code 64 = .ok (.aload_n 0, 1) := by decide +kernel
theorem d_Sol_countLevel_65 : decode prog_10_method_8_code 65 = .ok (.aload_n 3, 1) := by decide +kernel
theorem d_Sol_countLevel_66 : decode prog_10_method_8_code 66 = .ok (.invokevirtual 117, 3) := by decide +kernel
theorem d_Sol_countLevel_69 : decode prog_10_method_8_code 69 = .ok (.ifCond .ne 4, 3) := by decide +kernel
theorem d_Sol_countLevel_72 : decode prog_10_method_8_code 72 = .ok (.return_, 1) := by decide +kernel
theorem d_Sol_countLevel_73 : decode prog_10_method_8_code 73 = .ok (.aload_n 0, 1) := by decide +kernel
theorem d_Sol_countLevel_74 : decode prog_10_method_8_code 74 = .ok (.getfield 121, 3) := by decide +kernel
theorem d_Sol_countLevel_77 : decode prog_10_method_8_code 77 = .ok (.lstore 5, 2) := by decide +kernel
theorem d_Sol_countLevel_79 : decode prog_10_method_8_code 79 = .ok (.aload_n 0, 1) := by decide +kernel
theorem d_Sol_countLevel_80 : decode prog_10_method_8_code 80 = .ok (.getfield 124, 3) := by decide +kernel
theorem d_Sol_countLevel_83 : decode prog_10_method_8_code 83 = .ok (.istore 7, 2) := by decide +kernel
theorem d_Sol_countLevel_85 : decode prog_10_method_8_code 85 = .ok (.iconst 1, 1) := by decide +kernel
theorem d_Sol_countLevel_86 : decode prog_10_method_8_code 86 = .ok (.istore 8, 2) := by decide +kernel
theorem d_Sol_countLevel_88 : decode prog_10_method_8_code 88 = .ok (.iload 8, 2) := by decide +kernel
theorem d_Sol_countLevel_90 : decode prog_10_method_8_code 90 = .ok (.bipush 6, 2) := by decide +kernel
theorem d_Sol_countLevel_92 : decode prog_10_method_8_code 92 = .ok (.if_icmp .gt 112, 3) := by decide +kernel
theorem d_Sol_countLevel_95 : decode prog_10_method_8_code 95 = .ok (.iload 7, 2) := by decide +kernel
theorem d_Sol_countLevel_97 : decode prog_10_method_8_code 97 = .ok (.iload 8, 2) := by decide +kernel
theorem d_Sol_countLevel_99 : decode prog_10_method_8_code 99 = .ok (.ishr, 1) := by decide +kernel
theorem d_Sol_countLevel_100 : decode prog_10_method_8_code 100 = .ok (.iconst 1, 1) := by decide +kernel
theorem d_Sol_countLevel_101 : decode prog_10_method_8_code 101 = .ok (.iand, 1) := by decide +kernel
theorem d_Sol_countLevel_102 : decode prog_10_method_8_code 102 = .ok (.ifCond .eq 16, 3) := by decide +kernel
theorem d_Sol_countLevel_105 : decode prog_10_method_8_code 105 = .ok (.lload 5, 2) := by decide +kernel
theorem d_Sol_countLevel_107 : decode prog_10_method_8_code 107 = .ok (.aload_n 3, 1) := by decide +kernel
theorem d_Sol_countLevel_108 : decode prog_10_method_8_code 108 = .ok (.getfield 92, 3) := by decide +kernel
theorem d_Sol_countLevel_111 : decode prog_10_method_8_code 111 = .ok (.iload 8, 2) := by decide +kernel
theorem d_Sol_countLevel_113 : decode prog_10_method_8_code 113 = .ok (.laload, 1) := by decide +kernel
theorem d_Sol_countLevel_114 : decode prog_10_method_8_code 114 = .ok (.land, 1) := by decide +kernel
theorem d_Sol_countLevel_115 : decode prog_10_method_8_code 115 = .ok (.goto 4, 3) := by decide +kernel
theorem d_Sol_countLevel_118 : decode prog_10_method_8_code 118 = .ok (.lconst 0, 1) := by decide +kernel
theorem d_Sol_countLevel_119 : decode prog_10_method_8_code 119 = .ok (.lstore 9, 2) := by decide +kernel
theorem d_Sol_countLevel_121 : decode prog_10_method_8_code 121 = .ok (.lload 9, 2) := by decide +kernel
theorem d_Sol_countLevel_123 : decode prog_10_method_8_code 123 = .ok (.invokestatic 127, 3) := by decide +kernel
theorem d_Sol_countLevel_126 : decode prog_10_method_8_code 126 = .ok (.istore 11, 2) := by decide +kernel
theorem d_Sol_countLevel_128 : decode prog_10_method_8_code 128 = .ok (.iload 11, 2) := by decide +kernel
theorem d_Sol_countLevel_130 : decode prog_10_method_8_code 130 = .ok (.ifCond .le 68, 3) := by decide +kernel
theorem d_Sol_countLevel_133 : decode prog_10_method_8_code 133 = .ok (.aload_n 0, 1) := by decide +kernel
theorem d_Sol_countLevel_134 : decode prog_10_method_8_code 134 = .ok (.getfield 40, 3) := by decide +kernel
theorem d_Sol_countLevel_137 : decode prog_10_method_8_code 137 = .ok (.aload_n 0, 1) := by decide +kernel
theorem d_Sol_countLevel_138 : decode prog_10_method_8_code 138 = .ok (.getfield 36, 3) := by decide +kernel
theorem d_Sol_countLevel_141 : decode prog_10_method_8_code 141 = .ok (.if_icmp .ge 57, 3) := by decide +kernel
theorem d_Sol_countLevel_144 : decode prog_10_method_8_code 144 = .ok (.aload_n 0, 1) := by decide +kernel
theorem d_Sol_countLevel_145 : decode prog_10_method_8_code 145 = .ok (.getfield 20, 3) := by decide +kernel
theorem d_Sol_countLevel_148 : decode prog_10_method_8_code 148 = .ok (.iload_n 2, 1) := by decide +kernel
theorem d_Sol_countLevel_149 : decode prog_10_method_8_code 149 = .ok (.iconst 1, 1) := by decide +kernel
theorem d_Sol_countLevel_150 : decode prog_10_method_8_code 150 = .ok (.iadd, 1) := by decide +kernel
theorem d_Sol_countLevel_151 : decode prog_10_method_8_code 151 = .ok (.aaload, 1) := by decide +kernel
theorem d_Sol_countLevel_152 : decode prog_10_method_8_code 152 = .ok (.aload_n 3, 1) := by decide +kernel
theorem d_Sol_countLevel_153 : decode prog_10_method_8_code 153 = .ok (.invokevirtual 50, 3) := by decide +kernel
theorem d_Sol_countLevel_156 : decode prog_10_method_8_code 156 = .ok (.aload_n 0, 1) := by decide +kernel
theorem d_Sol_countLevel_157 : decode prog_10_method_8_code 157 = .ok (.getfield 20, 3) := by decide +kernel
theorem d_Sol_countLevel_160 : decode prog_10_method_8_code 160 = .ok (.iload_n 2, 1) := by decide +kernel
theorem d_Sol_countLevel_161 : decode prog_10_method_8_code 161 = .ok (.iconst 1, 1) := by decide +kernel
theorem d_Sol_countLevel_162 : decode prog_10_method_8_code 162 = .ok (.iadd, 1) := by decide +kernel
theorem d_Sol_countLevel_163 : decode prog_10_method_8_code 163 = .ok (.aaload, 1) := by decide +kernel
theorem d_Sol_countLevel_164 : decode prog_10_method_8_code 164 = .ok (.lload 9, 2) := by decide +kernel
theorem d_Sol_countLevel_166 : decode prog_10_method_8_code 166 = .ok (.invokestatic 86, 3) := by decide +kernel
theorem d_Sol_countLevel_169 : decode prog_10_method_8_code 169 = .ok (.iload 8, 2) := by decide +kernel
theorem d_Sol_countLevel_171 : decode prog_10_method_8_code 171 = .ok (.invokevirtual 77, 3) := by decide +kernel
theorem d_Sol_countLevel_174 : decode prog_10_method_8_code 174 = .ok (.pop, 1) := by decide +kernel
theorem d_Sol_countLevel_175 : decode prog_10_method_8_code 175 = .ok (.lload 9, 2) := by decide +kernel
theorem d_Sol_countLevel_177 : decode prog_10_method_8_code 177 = .ok (.lload 9, 2) := by decide +kernel
theorem d_Sol_countLevel_179 : decode prog_10_method_8_code 179 = .ok (.lconst 1, 1) := by decide +kernel
theorem d_Sol_countLevel_180 : decode prog_10_method_8_code 180 = .ok (.lsub, 1) := by decide +kernel
theorem d_Sol_countLevel_181 : decode prog_10_method_8_code 181 = .ok (.land, 1) := by decide +kernel
theorem d_Sol_countLevel_182 : decode prog_10_method_8_code 182 = .ok (.lstore 9, 2) := by decide +kernel
theorem d_Sol_countLevel_184 : decode prog_10_method_8_code 184 = .ok (.aload_n 0, 1) := by decide +kernel
theorem d_Sol_countLevel_185 : decode prog_10_method_8_code 185 = .ok (.aload_n 1, 1) := by decide +kernel
theorem d_Sol_countLevel_186 : decode prog_10_method_8_code 186 = .ok (.iload_n 2, 1) := by decide +kernel
theorem d_Sol_countLevel_187 : decode prog_10_method_8_code 187 = .ok (.iconst 1, 1) := by decide +kernel
theorem d_Sol_countLevel_188 : decode prog_10_method_8_code 188 = .ok (.iadd, 1) := by decide +kernel
theorem d_Sol_countLevel_189 : decode prog_10_method_8_code 189 = .ok (.invokestatic 105, 3) := by decide +kernel
theorem d_Sol_countLevel_192 : decode prog_10_method_8_code 192 = .ok (.iinc 11 (-1), 3) := by decide +kernel
theorem d_Sol_countLevel_195 : decode prog_10_method_8_code 195 = .ok (.goto (-67), 3) := by decide +kernel
theorem d_Sol_countLevel_198 : decode prog_10_method_8_code 198 = .ok (.iinc 8 1, 3) := by decide +kernel
theorem d_Sol_countLevel_201 : decode prog_10_method_8_code 201 = .ok (.goto (-113), 3) := by decide +kernel
theorem d_Sol_countLevel_204 : decode prog_10_method_8_code 204 = .ok (.return_, 1) := by decide +kernel
def b_Sol_countLevel_198 (F : Nat) (kr : Nat → Nat → Int32 → PH → Option PH) (k88 : Nat → Nat → Int32 → Nat → Int64 → Int32 → Int32 → PH → Option PH) (a0 : Nat) (a1 : Nat) (i2 : Int32) (a3 : Nat) (i5 : Int64) (i7 : Int32) (i8 : Int32) (h : PH) : Option PH :=
  k88 a0 a1 i2 a3 i5 i7 (i8 + (1 : Int32)) h
theorem g_Sol_countLevel_198 {l : Launch} {E : ET} {d : Nat} (hd : 66 ≤ d) {F : Nat} {h9 : PH} {x : Nat} {kr : Nat → Nat → Int32 → PH → Option PH} (hkr : ∀ (a0 : Nat) (a1 : Nat) (a2 : Int32) (ha : PH) (hb : PH), kr a0 a1 a2 ha = some hb → Fn l E m_Sol_countLevel (d - 1) 0 0 [.ref a0, .ref a1, .int a2] ha x (PoE none hb x)) {k88 : Nat → Nat → Int32 → Nat → Int64 → Int32 → Int32 → PH → Option PH} (hk88 : ∀ (a0 : Nat) (a1 : Nat) (i2 : Int32) (a3 : Nat) (i5 : Int64) (i7 : Int32) (i8 : Int32) (hh : PH), k88 a0 a1 i2 a3 i5 i7 i8 hh = some h9 → Go l E m_Sol_countLevel (rm d 0 0) (KM E 0 0 (PoE none h9 x)) 0 0 hh x 88 [(0, .ref a0), (1, .ref a1), (2, .int i2), (3, .ref a3), (5, .long i5), (7, .int i7), (8, .int i8)] []) (a0 : Nat) (a1 : Nat) (i2 : Int32) (a3 : Nat) (i5 : Int64) (i7 : Int32) (i8 : Int32) (h : PH) (hf : b_Sol_countLevel_198 F kr k88 a0 a1 i2 a3 i5 i7 i8 h = some h9) : Go l E m_Sol_countLevel (rm d 0 0) (KM E 0 0 (PoE none h9 x)) 0 0 h x 198 [(0, .ref a0), (1, .ref a1), (2, .int i2), (3, .ref a3), (5, .long i5), (7, .int i7), (8, .int i8)] [] := by
  unfold b_Sol_countLevel_198 at hf
  refine go_iinc (lv' := [(8, .int (i8 + (1 : Int32))), (0, .ref a0), (1, .ref a1), (2, .int i2), (3, .ref a3), (5, .long i5), (7, .int i7)]) 6 (i8 + (1 : Int32)) d_Sol_countLevel_198 rfl rfl rfl (by decide) ?_
  refine go_goto 88 d_Sol_countLevel_201 (by decide) ?_
  refine go_sub (lv' := [(0, .ref a0), (1, .ref a1), (2, .int i2), (3, .ref a3), (5, .long i5), (7, .int i7), (8, .int (i8 + (1 : Int32)))]) [1, 2, 3, 4, 5, 6, 0] rfl ?_
  exact hk88 a0 a1 i2 a3 i5 i7 (i8 + (1 : Int32)) h hf
def b_Sol_countLevel_128 (F : Nat) (kr : Nat → Nat → Int32 → PH → Option PH) (k88 : Nat → Nat → Int32 → Nat → Int64 → Int32 → Int32 → PH → Option PH) (k128 : Nat → Nat → Int32 → Nat → Int64 → Int32 → Int32 → Int64 → Int32 → PH → Option PH) (a0 : Nat) (a1 : Nat) (i2 : Int32) (a3 : Nat) (i5 : Int64) (i7 : Int32) (i8 : Int32) (i9 : Int64) (i11 : Int32) (h : PH) : Option PH :=
  (if i11 ≤ (0 : Int32) then b_Sol_countLevel_198 F kr k88 a0 a1 i2 a3 i5 i7 i8 h else bnd (gI h a0 7 5) fun x1 => bnd (gI h a0 7 4) fun x2 => (if x2 ≤ x1 then b_Sol_countLevel_198 F kr k88 a0 a1 i2 a3 i5 i7 i8 h else bnd (gR h a0 7 1) fun x3 => bnd (aR h x3 (i2 + (1 : Int32))) fun x4 => bnd (cK h x4 1) fun _ => bnd (f_Pos_copyFrom x4 a3 h) fun h6 => bnd (gR h6 a0 7 1) fun x7 => bnd (aR h6 x7 (i2 + (1 : Int32))) fun x8 => bnd (f_Grd_lowest i9) fun x9 => bnd (cK h6 x8 1) fun _ => bnd2 (f_Pos_keepOnly F x8 x9 i8 h6) fun x11 h12 => bnd (some (i9 &&& (i9 - (1 : Int64)))) fun y13 => bnd (kr a0 a1 (i2 + (1 : Int32)) h12) fun h14 => k128 a0 a1 i2 a3 i5 i7 i8 y13 (i11 + (-1 : Int32)) h14))
def f_Sol_countLevel_128 (F : Nat) (kr : Nat → Nat → Int32 → PH → Option PH) (k88 : Nat → Nat → Int32 → Nat → Int64 → Int32 → Int32 → PH → Option PH) : Nat → Nat → Nat → Int32 → Nat → Int64 → Int32 → Int32 → Int64 → Int32 → PH → Option PH
  | 0 => fun _ _ _ _ _ _ _ _ _ _ => none
  | n + 1 => b_Sol_countLevel_128 F kr k88 (f_Sol_countLevel_128 F kr k88 n)
theorem g_Sol_countLevel_128 {l : Launch} {E : ET} {d : Nat} (hd : 66 ≤ d) {F : Nat} {h9 : PH} {x : Nat} {kr : Nat → Nat → Int32 → PH → Option PH} (hkr : ∀ (a0 : Nat) (a1 : Nat) (a2 : Int32) (ha : PH) (hb : PH), kr a0 a1 a2 ha = some hb → Fn l E m_Sol_countLevel (d - 1) 0 0 [.ref a0, .ref a1, .int a2] ha x (PoE none hb x)) {k88 : Nat → Nat → Int32 → Nat → Int64 → Int32 → Int32 → PH → Option PH} (hk88 : ∀ (a0 : Nat) (a1 : Nat) (i2 : Int32) (a3 : Nat) (i5 : Int64) (i7 : Int32) (i8 : Int32) (hh : PH), k88 a0 a1 i2 a3 i5 i7 i8 hh = some h9 → Go l E m_Sol_countLevel (rm d 0 0) (KM E 0 0 (PoE none h9 x)) 0 0 hh x 88 [(0, .ref a0), (1, .ref a1), (2, .int i2), (3, .ref a3), (5, .long i5), (7, .int i7), (8, .int i8)] []) {k128 : Nat → Nat → Int32 → Nat → Int64 → Int32 → Int32 → Int64 → Int32 → PH → Option PH} (hk128 : ∀ (a0 : Nat) (a1 : Nat) (i2 : Int32) (a3 : Nat) (i5 : Int64) (i7 : Int32) (i8 : Int32) (i9 : Int64) (i11 : Int32) (hh : PH), k128 a0 a1 i2 a3 i5 i7 i8 i9 i11 hh = some h9 → Go l E m_Sol_countLevel (rm d 0 0) (KM E 0 0 (PoE none h9 x)) 0 0 hh x 128 [(0, .ref a0), (1, .ref a1), (2, .int i2), (3, .ref a3), (5, .long i5), (7, .int i7), (8, .int i8), (9, .long i9), (11, .int i11)] []) (a0 : Nat) (a1 : Nat) (i2 : Int32) (a3 : Nat) (i5 : Int64) (i7 : Int32) (i8 : Int32) (i9 : Int64) (i11 : Int32) (h : PH) (hf : b_Sol_countLevel_128 F kr k88 k128 a0 a1 i2 a3 i5 i7 i8 i9 i11 h = some h9) : Go l E m_Sol_countLevel (rm d 0 0) (KM E 0 0 (PoE none h9 x)) 0 0 h x 128 [(0, .ref a0), (1, .ref a1), (2, .int i2), (3, .ref a3), (5, .long i5), (7, .int i7), (8, .int i8), (9, .long i9), (11, .int i11)] [] := by
  unfold b_Sol_countLevel_128 at hf
  refine go_iload 8 d_Sol_countLevel_128 rfl ?_
  refine go_if_le 198 d_Sol_countLevel_130 (by decide) (fun q16 => ?_) (fun q16 => ?_)
  · rw [if_pos q16] at hf
    refine go_sub (lv' := [(0, .ref a0), (1, .ref a1), (2, .int i2), (3, .ref a3), (5, .long i5), (7, .int i7), (8, .int i8)]) [0, 1, 2, 3, 4, 5, 6] rfl ?_
    exact g_Sol_countLevel_198 hd hkr hk88 a0 a1 i2 a3 i5 i7 i8 h hf
  · rw [if_neg q16] at hf
    refine go_aload_n 0 d_Sol_countLevel_133 rfl ?_
    obtain ⟨x1, e_x1, hf⟩ := bnd_x hf
    refine go_get d_Sol_countLevel_134 (gI_x e_x1) fl_Sol_40 ?_
    refine go_aload_n 0 d_Sol_countLevel_137 rfl ?_
    obtain ⟨x2, e_x2, hf⟩ := bnd_x hf
    refine go_get d_Sol_countLevel_138 (gI_x e_x2) fl_Sol_36 ?_
    refine go_icmp_ge 198 d_Sol_countLevel_141 (by decide) (fun q15 => ?_) (fun q15 => ?_)
    · rw [if_pos q15] at hf
      refine go_sub (lv' := [(0, .ref a0), (1, .ref a1), (2, .int i2), (3, .ref a3), (5, .long i5), (7, .int i7), (8, .int i8)]) [0, 1, 2, 3, 4, 5, 6] rfl ?_
      exact g_Sol_countLevel_198 hd hkr hk88 a0 a1 i2 a3 i5 i7 i8 h hf
    · rw [if_neg q15] at hf
      refine go_aload_n 0 d_Sol_countLevel_144 rfl ?_
      obtain ⟨x3, e_x3, hf⟩ := bnd_x hf
      refine go_get d_Sol_countLevel_145 (gR_x e_x3) fl_Sol_20 ?_
      refine go_iload_n 2 d_Sol_countLevel_148 rfl ?_
      refine go_iconst (1 : Int32) d_Sol_countLevel_149 (by decide) ?_
      refine go_iadd d_Sol_countLevel_150 ?_
      obtain ⟨x4, e_x4, hf⟩ := bnd_x hf
      refine go_aaload d_Sol_countLevel_151 e_x4 ?_
      refine go_aload_n 3 d_Sol_countLevel_152 rfl ?_
      obtain ⟨_, e5, hf⟩ := bnd_x hf
      obtain ⟨h6, e_x6, hf⟩ := bnd_x hf
      refine go_callV_N (As := [.ref a3]) (st := []) (c_Pos_copyFrom (d := d - 1) (by omega) e_x6) lk_Sol_50 rfl rfl e5 (by decide) rfl (rm_ok (by omega)) (Nat.le_of_ble_eq_true rfl) rm_c d_Sol_countLevel_153 ?_
      refine go_aload_n 0 d_Sol_countLevel_156 rfl ?_
      obtain ⟨x7, e_x7, hf⟩ := bnd_x hf
      refine go_get d_Sol_countLevel_157 (gR_x e_x7) fl_Sol_20 ?_
      refine go_iload_n 2 d_Sol_countLevel_160 rfl ?_
      refine go_iconst (1 : Int32) d_Sol_countLevel_161 (by decide) ?_
      refine go_iadd d_Sol_countLevel_162 ?_
      obtain ⟨x8, e_x8, hf⟩ := bnd_x hf
      refine go_aaload d_Sol_countLevel_163 e_x8 ?_
      refine go_lload 7 d_Sol_countLevel_164 rfl ?_
      obtain ⟨x9, e_x9, hf⟩ := bnd_x hf
      refine go_callS_I (As := [.long i9]) (st := [.ref x8]) (c_Grd_lowest (d := d - 1) (by omega) e_x9) lk_Sol_86 rfl rfl (rm_ok (by omega)) (Nat.le_of_ble_eq_true rfl) rm_c d_Sol_countLevel_166 ?_
      refine go_iload 6 d_Sol_countLevel_169 rfl ?_
      obtain ⟨_, e10, hf⟩ := bnd_x hf
      obtain ⟨x11, h12, e_x11, hf⟩ := bnd2_x hf
      refine go_callV_I (As := [.int x9, .int i8]) (st := []) (c_Pos_keepOnly (d := d - 1) (by omega) e_x11) lk_Sol_77 rfl rfl e10 (by decide) rfl (rm_ok (by omega)) (Nat.le_of_ble_eq_true rfl) rm_c d_Sol_countLevel_171 ?_
      refine go_pop d_Sol_countLevel_174 rfl ?_
      refine go_lload 7 d_Sol_countLevel_175 rfl ?_
      refine go_lload 7 d_Sol_countLevel_177 rfl ?_
      refine go_lconst (1 : Int64) d_Sol_countLevel_179 (by decide) ?_
      refine go_lsub d_Sol_countLevel_180 ?_
      refine go_land d_Sol_countLevel_181 ?_
      obtain ⟨y13, e_y13, hf⟩ := bnd_x hf
      refine go_nmL e_y13 ?_
      refine go_lstore (lv' := [(9, .long y13), (0, .ref a0), (1, .ref a1), (2, .int i2), (3, .ref a3), (5, .long i5), (7, .int i7), (8, .int i8), (11, .int i11)]) d_Sol_countLevel_182 rfl (by decide) ?_
      refine go_aload_n 1 d_Sol_countLevel_184 rfl ?_
      refine go_aload_n 2 d_Sol_countLevel_185 rfl ?_
      refine go_iload_n 3 d_Sol_countLevel_186 rfl ?_
      refine go_iconst (1 : Int32) d_Sol_countLevel_187 (by decide) ?_
      refine go_iadd d_Sol_countLevel_188 ?_
      obtain ⟨h14, e_x14, hf⟩ := bnd_x hf
      refine go_callS_N (As := [.ref a0, .ref a1, .int (i2 + (1 : Int32))]) (st := []) (hkr _ _ _ _ _ e_x14) lk_Sol_105 rfl rfl (rm_ok (by omega)) (Nat.le_of_ble_eq_true rfl) rm_c d_Sol_countLevel_189 ?_
      refine go_iinc (lv' := [(11, .int (i11 + (-1 : Int32))), (9, .long y13), (0, .ref a0), (1, .ref a1), (2, .int i2), (3, .ref a3), (5, .long i5), (7, .int i7), (8, .int i8)]) 8 (i11 + (-1 : Int32)) d_Sol_countLevel_192 rfl rfl rfl (by decide) ?_
      refine go_goto 128 d_Sol_countLevel_195 (by decide) ?_
      refine go_sub (lv' := [(0, .ref a0), (1, .ref a1), (2, .int i2), (3, .ref a3), (5, .long i5), (7, .int i7), (8, .int i8), (9, .long y13), (11, .int (i11 + (-1 : Int32)))]) [2, 3, 4, 5, 6, 7, 8, 1, 0] rfl ?_
      exact hk128 a0 a1 i2 a3 i5 i7 i8 y13 (i11 + (-1 : Int32)) h14 hf
theorem t_Sol_countLevel_128 {l : Launch} {E : ET} {d : Nat} (hd : 66 ≤ d) {F : Nat} {h9 : PH} {x : Nat} {kr : Nat → Nat → Int32 → PH → Option PH} (hkr : ∀ (a0 : Nat) (a1 : Nat) (a2 : Int32) (ha : PH) (hb : PH), kr a0 a1 a2 ha = some hb → Fn l E m_Sol_countLevel (d - 1) 0 0 [.ref a0, .ref a1, .int a2] ha x (PoE none hb x)) {k88 : Nat → Nat → Int32 → Nat → Int64 → Int32 → Int32 → PH → Option PH} (hk88 : ∀ (a0 : Nat) (a1 : Nat) (i2 : Int32) (a3 : Nat) (i5 : Int64) (i7 : Int32) (i8 : Int32) (hh : PH), k88 a0 a1 i2 a3 i5 i7 i8 hh = some h9 → Go l E m_Sol_countLevel (rm d 0 0) (KM E 0 0 (PoE none h9 x)) 0 0 hh x 88 [(0, .ref a0), (1, .ref a1), (2, .int i2), (3, .ref a3), (5, .long i5), (7, .int i7), (8, .int i8)] []) : ∀ (n : Nat) (a0 : Nat) (a1 : Nat) (i2 : Int32) (a3 : Nat) (i5 : Int64) (i7 : Int32) (i8 : Int32) (i9 : Int64) (i11 : Int32) (hh : PH), f_Sol_countLevel_128 F kr k88 n a0 a1 i2 a3 i5 i7 i8 i9 i11 hh = some h9 → Go l E m_Sol_countLevel (rm d 0 0) (KM E 0 0 (PoE none h9 x)) 0 0 hh x 128 [(0, .ref a0), (1, .ref a1), (2, .int i2), (3, .ref a3), (5, .long i5), (7, .int i7), (8, .int i8), (9, .long i9), (11, .int i11)] [] := by
  intro n
  induction n with
  | zero => intro v0 v1 v2 v3 v4 v5 v6 v7 v8 v9 hf; cases hf
  | succ n ih => intro v0 v1 v2 v3 v4 v5 v6 v7 v8 v9 hf; exact g_Sol_countLevel_128 hd hkr hk88 ih v0 v1 v2 v3 v4 v5 v6 v7 v8 v9 hf
def b_Sol_countLevel_119 (F : Nat) (kr : Nat → Nat → Int32 → PH → Option PH) (k88 : Nat → Nat → Int32 → Nat → Int64 → Int32 → Int32 → PH → Option PH) (a0 : Nat) (a1 : Nat) (i2 : Int32) (a3 : Nat) (i5 : Int64) (i7 : Int32) (i8 : Int32) (s0 : Int64) (h : PH) : Option PH :=
  bnd (f_Lng_bitCount s0) fun x1 => f_Sol_countLevel_128 F kr k88 F a0 a1 i2 a3 i5 i7 i8 s0 x1 h
theorem g_Sol_countLevel_119 {l : Launch} {E : ET} {d : Nat} (hd : 66 ≤ d) {F : Nat} {h9 : PH} {x : Nat} {kr : Nat → Nat → Int32 → PH → Option PH} (hkr : ∀ (a0 : Nat) (a1 : Nat) (a2 : Int32) (ha : PH) (hb : PH), kr a0 a1 a2 ha = some hb → Fn l E m_Sol_countLevel (d - 1) 0 0 [.ref a0, .ref a1, .int a2] ha x (PoE none hb x)) {k88 : Nat → Nat → Int32 → Nat → Int64 → Int32 → Int32 → PH → Option PH} (hk88 : ∀ (a0 : Nat) (a1 : Nat) (i2 : Int32) (a3 : Nat) (i5 : Int64) (i7 : Int32) (i8 : Int32) (hh : PH), k88 a0 a1 i2 a3 i5 i7 i8 hh = some h9 → Go l E m_Sol_countLevel (rm d 0 0) (KM E 0 0 (PoE none h9 x)) 0 0 hh x 88 [(0, .ref a0), (1, .ref a1), (2, .int i2), (3, .ref a3), (5, .long i5), (7, .int i7), (8, .int i8)] []) (a0 : Nat) (a1 : Nat) (i2 : Int32) (a3 : Nat) (i5 : Int64) (i7 : Int32) (i8 : Int32) (s0 : Int64) (h : PH) (hf : b_Sol_countLevel_119 F kr k88 a0 a1 i2 a3 i5 i7 i8 s0 h = some h9) : Go l E m_Sol_countLevel (rm d 0 0) (KM E 0 0 (PoE none h9 x)) 0 0 h x 119 [(0, .ref a0), (1, .ref a1), (2, .int i2), (3, .ref a3), (5, .long i5), (7, .int i7), (8, .int i8)] [.long s0] := by
  unfold b_Sol_countLevel_119 at hf
  refine go_lstore (lv' := [(9, .long s0), (0, .ref a0), (1, .ref a1), (2, .int i2), (3, .ref a3), (5, .long i5), (7, .int i7), (8, .int i8)]) d_Sol_countLevel_119 rfl (by decide) ?_
  refine go_lload 0 d_Sol_countLevel_121 rfl ?_
  obtain ⟨x1, e_x1, hf⟩ := bnd_x hf
  refine go_callS_I (As := [.long s0]) (st := []) (c_Lng_bitCount (d := d - 1) (by omega) e_x1) lk_Sol_127 rfl rfl (rm_ok (by omega)) (Nat.le_of_ble_eq_true rfl) rm_c d_Sol_countLevel_123 ?_
  refine go_istore (lv' := [(11, .int x1), (9, .long s0), (0, .ref a0), (1, .ref a1), (2, .int i2), (3, .ref a3), (5, .long i5), (7, .int i7), (8, .int i8)]) d_Sol_countLevel_126 rfl (by decide) ?_
  refine go_sub (lv' := [(0, .ref a0), (1, .ref a1), (2, .int i2), (3, .ref a3), (5, .long i5), (7, .int i7), (8, .int i8), (9, .long s0), (11, .int x1)]) [2, 3, 4, 5, 6, 7, 8, 1, 0] rfl ?_
  exact t_Sol_countLevel_128 hd hkr hk88 _ a0 a1 i2 a3 i5 i7 i8 s0 x1 h hf
def b_Sol_countLevel_88 (F : Nat) (kr : Nat → Nat → Int32 → PH → Option PH) (k88 : Nat → Nat → Int32 → Nat → Int64 → Int32 → Int32 → PH → Option PH) (a0 : Nat) (a1 : Nat) (i2 : Int32) (a3 : Nat) (i5 : Int64) (i7 : Int32) (i8 : Int32) (h : PH) : Option PH :=
  (if (6 : Int32) < i8 then some h else (if ((i7 >>> (i8 &&& 31)) &&& (1 : Int32)) = (0 : Int32) then b_Sol_countLevel_119 F kr k88 a0 a1 i2 a3 i5 i7 i8 (0 : Int64) h else bnd (gR h a3 1 0) fun x1 => bnd (aL h x1 i8) fun x2 => b_Sol_countLevel_119 F kr k88 a0 a1 i2 a3 i5 i7 i8 (i5 &&& x2) h))
def f_Sol_countLevel_88 (F : Nat) (kr : Nat → Nat → Int32 → PH → Option PH) : Nat → Nat → Nat → Int32 → Nat → Int64 → Int32 → Int32 → PH → Option PH
  | 0 => fun _ _ _ _ _ _ _ _ => none
  | n + 1 => b_Sol_countLevel_88 F kr (f_Sol_countLevel_88 F kr n)
theorem g_Sol_countLevel_88 {l : Launch} {E : ET} {d : Nat} (hd : 66 ≤ d) {F : Nat} {h9 : PH} {x : Nat} {kr : Nat → Nat → Int32 → PH → Option PH} (hkr : ∀ (a0 : Nat) (a1 : Nat) (a2 : Int32) (ha : PH) (hb : PH), kr a0 a1 a2 ha = some hb → Fn l E m_Sol_countLevel (d - 1) 0 0 [.ref a0, .ref a1, .int a2] ha x (PoE none hb x)) {k88 : Nat → Nat → Int32 → Nat → Int64 → Int32 → Int32 → PH → Option PH} (hk88 : ∀ (a0 : Nat) (a1 : Nat) (i2 : Int32) (a3 : Nat) (i5 : Int64) (i7 : Int32) (i8 : Int32) (hh : PH), k88 a0 a1 i2 a3 i5 i7 i8 hh = some h9 → Go l E m_Sol_countLevel (rm d 0 0) (KM E 0 0 (PoE none h9 x)) 0 0 hh x 88 [(0, .ref a0), (1, .ref a1), (2, .int i2), (3, .ref a3), (5, .long i5), (7, .int i7), (8, .int i8)] []) (a0 : Nat) (a1 : Nat) (i2 : Int32) (a3 : Nat) (i5 : Int64) (i7 : Int32) (i8 : Int32) (h : PH) (hf : b_Sol_countLevel_88 F kr k88 a0 a1 i2 a3 i5 i7 i8 h = some h9) : Go l E m_Sol_countLevel (rm d 0 0) (KM E 0 0 (PoE none h9 x)) 0 0 h x 88 [(0, .ref a0), (1, .ref a1), (2, .int i2), (3, .ref a3), (5, .long i5), (7, .int i7), (8, .int i8)] [] := by
  unfold b_Sol_countLevel_88 at hf
  refine go_iload 6 d_Sol_countLevel_88 rfl ?_
  refine go_bipush (6 : Int32) d_Sol_countLevel_90 (by decide) ?_
  refine go_icmp_gt 204 d_Sol_countLevel_92 (by decide) (fun q4 => ?_) (fun q4 => ?_)
  · rw [if_pos q4] at hf
    have e9 := Option.some.inj hf
    subst e9
    exact go_vret d_Sol_countLevel_204 rfl ⟨rfl, rfl, rfl⟩
  · rw [if_neg q4] at hf
    refine go_iload 5 d_Sol_countLevel_95 rfl ?_
    refine go_iload 6 d_Sol_countLevel_97 rfl ?_
    refine go_ishr d_Sol_countLevel_99 ?_
    refine go_iconst (1 : Int32) d_Sol_countLevel_100 (by decide) ?_
    refine go_iand d_Sol_countLevel_101 ?_
    refine go_if_eq 118 d_Sol_countLevel_102 (by decide) (fun q3 => ?_) (fun q3 => ?_)
    · rw [if_pos q3] at hf
      refine go_lconst (0 : Int64) d_Sol_countLevel_118 (by decide) ?_
      refine go_sub (lv' := [(0, .ref a0), (1, .ref a1), (2, .int i2), (3, .ref a3), (5, .long i5), (7, .int i7), (8, .int i8)]) [0, 1, 2, 3, 4, 5, 6] rfl ?_
      exact g_Sol_countLevel_119 hd hkr hk88 a0 a1 i2 a3 i5 i7 i8 (0 : Int64) h hf
    · rw [if_neg q3] at hf
      refine go_lload 4 d_Sol_countLevel_105 rfl ?_
      refine go_aload_n 3 d_Sol_countLevel_107 rfl ?_
      obtain ⟨x1, e_x1, hf⟩ := bnd_x hf
      refine go_get d_Sol_countLevel_108 (gR_x e_x1) fl_Sol_92 ?_
      refine go_iload 6 d_Sol_countLevel_111 rfl ?_
      obtain ⟨x2, e_x2, hf⟩ := bnd_x hf
      refine go_laload d_Sol_countLevel_113 e_x2 ?_
      refine go_land d_Sol_countLevel_114 ?_
      refine go_goto 119 d_Sol_countLevel_115 (by decide) ?_
      refine go_sub (lv' := [(0, .ref a0), (1, .ref a1), (2, .int i2), (3, .ref a3), (5, .long i5), (7, .int i7), (8, .int i8)]) [0, 1, 2, 3, 4, 5, 6] rfl ?_
      exact g_Sol_countLevel_119 hd hkr hk88 a0 a1 i2 a3 i5 i7 i8 (i5 &&& x2) h hf
theorem t_Sol_countLevel_88 {l : Launch} {E : ET} {d : Nat} (hd : 66 ≤ d) {F : Nat} {h9 : PH} {x : Nat} {kr : Nat → Nat → Int32 → PH → Option PH} (hkr : ∀ (a0 : Nat) (a1 : Nat) (a2 : Int32) (ha : PH) (hb : PH), kr a0 a1 a2 ha = some hb → Fn l E m_Sol_countLevel (d - 1) 0 0 [.ref a0, .ref a1, .int a2] ha x (PoE none hb x))  : ∀ (n : Nat) (a0 : Nat) (a1 : Nat) (i2 : Int32) (a3 : Nat) (i5 : Int64) (i7 : Int32) (i8 : Int32) (hh : PH), f_Sol_countLevel_88 F kr n a0 a1 i2 a3 i5 i7 i8 hh = some h9 → Go l E m_Sol_countLevel (rm d 0 0) (KM E 0 0 (PoE none h9 x)) 0 0 hh x 88 [(0, .ref a0), (1, .ref a1), (2, .int i2), (3, .ref a3), (5, .long i5), (7, .int i7), (8, .int i8)] [] := by
  intro n
  induction n with
  | zero => intro v0 v1 v2 v3 v4 v5 v6 v7 hf; cases hf
  | succ n ih => intro v0 v1 v2 v3 v4 v5 v6 v7 hf; exact g_Sol_countLevel_88 hd hkr ih v0 v1 v2 v3 v4 v5 v6 v7 hf
def b_Sol_countLevel_36 (F : Nat) (kr : Nat → Nat → Int32 → PH → Option PH) (a0 : Nat) (a1 : Nat) (i2 : Int32) (a3 : Nat) (h : PH) : Option PH :=
  bnd (cK h a3 1) fun _ => bnd (f_Pos_isFinished a3 h) fun x2 => (if x2 = (0 : Int32) then bnd (cK h a3 1) fun _ => bnd (f_Pos_isDead a3 h) fun x4 => (if x4 = (0 : Int32) then (if (38 : Int32) ≤ (i2 + (1 : Int32)) then some h else bnd (cK h a0 7) fun _ => bnd2 (f_Sol_chooseBranch F a0 a3 h) fun x6 h7 => (if x6 = (0 : Int32) then some h7 else bnd (gL h7 a0 7 10) fun x8 => bnd (gI h7 a0 7 11) fun x9 => f_Sol_countLevel_88 F kr F a0 a1 i2 a3 x8 x9 (1 : Int32) h7)) else some h) else bnd (cK h a0 7) fun _ => bnd (f_Sol_noteSolution F a0 a3 h) fun h14 => some h14)
theorem g_Sol_countLevel_36 {l : Launch} {E : ET} {d : Nat} (hd : 66 ≤ d) {F : Nat} {h9 : PH} {x : Nat} {kr : Nat → Nat → Int32 → PH → Option PH} (hkr : ∀ (a0 : Nat) (a1 : Nat) (a2 : Int32) (ha : PH) (hb : PH), kr a0 a1 a2 ha = some hb → Fn l E m_Sol_countLevel (d - 1) 0 0 [.ref a0, .ref a1, .int a2] ha x (PoE none hb x))  (a0 : Nat) (a1 : Nat) (i2 : Int32) (a3 : Nat) (h : PH) (hf : b_Sol_countLevel_36 F kr a0 a1 i2 a3 h = some h9) : Go l E m_Sol_countLevel (rm d 0 0) (KM E 0 0 (PoE none h9 x)) 0 0 h x 36 [(0, .ref a0), (1, .ref a1), (2, .int i2), (3, .ref a3)] [] := by
  unfold b_Sol_countLevel_36 at hf
  refine go_aload_n 3 d_Sol_countLevel_36 rfl ?_
  obtain ⟨_, e1, hf⟩ := bnd_x hf
  obtain ⟨x2, e_x2, hf⟩ := bnd_x hf
  refine go_callV_I (As := []) (st := []) (c_Pos_isFinished (d := d - 1) (by omega) e_x2) lk_Sol_62 rfl rfl e1 (by decide) rfl (rm_ok (by omega)) (Nat.le_of_ble_eq_true rfl) rm_c d_Sol_countLevel_37 ?_
  refine go_if_eq 49 d_Sol_countLevel_40 (by decide) (fun q15 => ?_) (fun q15 => ?_)
  · rw [if_pos q15] at hf
    refine go_aload_n 3 d_Sol_countLevel_49 rfl ?_
    obtain ⟨_, e3, hf⟩ := bnd_x hf
    obtain ⟨x4, e_x4, hf⟩ := bnd_x hf
    refine go_callV_I (As := []) (st := []) (c_Pos_isDead (d := d - 1) (by omega) e_x4) lk_Sol_66 rfl rfl e3 (by decide) rfl (rm_ok (by omega)) (Nat.le_of_ble_eq_true rfl) rm_c d_Sol_countLevel_50 ?_
    refine go_if_ne 72 d_Sol_countLevel_53 (by decide) (fun q12 => ?_) (fun q12 => ?_)
    · rw [if_neg q12] at hf
      have e9 := Option.some.inj hf
      subst e9
      exact go_vret d_Sol_countLevel_72 rfl ⟨rfl, rfl, rfl⟩
    · rw [if_pos q12] at hf
      refine go_iload_n 2 d_Sol_countLevel_56 rfl ?_
      refine go_iconst (1 : Int32) d_Sol_countLevel_57 (by decide) ?_
      refine go_iadd d_Sol_countLevel_58 ?_
      refine go_bipush (38 : Int32) d_Sol_countLevel_59 (by decide) ?_
      refine go_icmp_ge 72 d_Sol_countLevel_61 (by decide) (fun q11 => ?_) (fun q11 => ?_)
      · rw [if_pos q11] at hf
        have e9 := Option.some.inj hf
        subst e9
        exact go_vret d_Sol_countLevel_72 rfl ⟨rfl, rfl, rfl⟩
      · rw [if_neg q11] at hf
        refine go_aload_n 0 d_Sol_countLevel_64 rfl ?_
        refine go_aload_n 3 d_Sol_countLevel_65 rfl ?_
        obtain ⟨_, e5, hf⟩ := bnd_x hf
        obtain ⟨x6, h7, e_x6, hf⟩ := bnd2_x hf
        refine go_callV_I (As := [.ref a3]) (st := []) (c_Sol_chooseBranch (d := d - 1) (by omega) e_x6) lk_Sol_117 rfl rfl e5 (by decide) rfl (rm_ok (by omega)) (Nat.le_of_ble_eq_true rfl) rm_c d_Sol_countLevel_66 ?_
        refine go_if_ne 73 d_Sol_countLevel_69 (by decide) (fun q10 => ?_) (fun q10 => ?_)
        · rw [if_neg q10] at hf
          refine go_aload_n 0 d_Sol_countLevel_73 rfl ?_
          obtain ⟨x8, e_x8, hf⟩ := bnd_x hf
          refine go_get d_Sol_countLevel_74 (gL_x e_x8) fl_Sol_121 ?_
          refine go_lstore (lv' := [(5, .long x8), (0, .ref a0), (1, .ref a1), (2, .int i2), (3, .ref a3)]) d_Sol_countLevel_77 rfl (by decide) ?_
          refine go_aload_n 1 d_Sol_countLevel_79 rfl ?_
          obtain ⟨x9, e_x9, hf⟩ := bnd_x hf
          refine go_get d_Sol_countLevel_80 (gI_x e_x9) fl_Sol_124 ?_
          refine go_istore (lv' := [(7, .int x9), (5, .long x8), (0, .ref a0), (1, .ref a1), (2, .int i2), (3, .ref a3)]) d_Sol_countLevel_83 rfl (by decide) ?_
          refine go_iconst (1 : Int32) d_Sol_countLevel_85 (by decide) ?_
          refine go_istore (lv' := [(8, .int (1 : Int32)), (7, .int x9), (5, .long x8), (0, .ref a0), (1, .ref a1), (2, .int i2), (3, .ref a3)]) d_Sol_countLevel_86 rfl (by decide) ?_
          refine go_sub (lv' := [(0, .ref a0), (1, .ref a1), (2, .int i2), (3, .ref a3), (5, .long x8), (7, .int x9), (8, .int (1 : Int32))]) [3, 4, 5, 6, 2, 1, 0] rfl ?_
          exact t_Sol_countLevel_88 hd hkr  _ a0 a1 i2 a3 x8 x9 (1 : Int32) h7 hf
        · rw [if_pos q10] at hf
          have e9 := Option.some.inj hf
          subst e9
          exact go_vret d_Sol_countLevel_72 rfl ⟨rfl, rfl, rfl⟩
  · rw [if_neg q15] at hf
    refine go_aload_n 0 d_Sol_countLevel_43 rfl ?_
    refine go_aload_n 3 d_Sol_countLevel_44 rfl ?_
    obtain ⟨_, e13, hf⟩ := bnd_x hf
    obtain ⟨h14, e_x14, hf⟩ := bnd_x hf
    refine go_callV_N (As := [.ref a3]) (st := []) (c_Sol_noteSolution (d := d - 1) (by omega) e_x14) lk_Sol_114 rfl rfl e13 (by decide) rfl (rm_ok (by omega)) (Nat.le_of_ble_eq_true rfl) rm_c d_Sol_countLevel_45 ?_
    have e9 := Option.some.inj hf
    subst e9
    exact go_vret d_Sol_countLevel_48 rfl ⟨rfl, rfl, rfl⟩
def b_Sol_countLevel_10 (F : Nat) (kr : Nat → Nat → Int32 → PH → Option PH) (k10 : Nat → Nat → Int32 → Nat → Int32 → PH → Option PH) (a0 : Nat) (a1 : Nat) (i2 : Int32) (a3 : Nat) (i4 : Int32) (h : PH) : Option PH :=
  (if (500 : Int32) ≤ i4 then b_Sol_countLevel_36 F kr a0 a1 i2 a3 h else bnd (gR h a0 7 0) fun x1 => bnd (cK h x1 3) fun _ => bnd2 (f_Rea_next F x1 a3 a1 h) fun x3 h4 => (if x3 = (0 : Int32) then b_Sol_countLevel_36 F kr a0 a1 i2 a3 h4 else k10 a0 a1 i2 a3 (i4 + (1 : Int32)) h4))
def f_Sol_countLevel_10 (F : Nat) (kr : Nat → Nat → Int32 → PH → Option PH) : Nat → Nat → Nat → Int32 → Nat → Int32 → PH → Option PH
  | 0 => fun _ _ _ _ _ _ => none
  | n + 1 => b_Sol_countLevel_10 F kr (f_Sol_countLevel_10 F kr n)
theorem g_Sol_countLevel_10 {l : Launch} {E : ET} {d : Nat} (hd : 66 ≤ d) {F : Nat} {h9 : PH} {x : Nat} {kr : Nat → Nat → Int32 → PH → Option PH} (hkr : ∀ (a0 : Nat) (a1 : Nat) (a2 : Int32) (ha : PH) (hb : PH), kr a0 a1 a2 ha = some hb → Fn l E m_Sol_countLevel (d - 1) 0 0 [.ref a0, .ref a1, .int a2] ha x (PoE none hb x)) {k10 : Nat → Nat → Int32 → Nat → Int32 → PH → Option PH} (hk10 : ∀ (a0 : Nat) (a1 : Nat) (i2 : Int32) (a3 : Nat) (i4 : Int32) (hh : PH), k10 a0 a1 i2 a3 i4 hh = some h9 → Go l E m_Sol_countLevel (rm d 0 0) (KM E 0 0 (PoE none h9 x)) 0 0 hh x 10 [(0, .ref a0), (1, .ref a1), (2, .int i2), (3, .ref a3), (4, .int i4)] []) (a0 : Nat) (a1 : Nat) (i2 : Int32) (a3 : Nat) (i4 : Int32) (h : PH) (hf : b_Sol_countLevel_10 F kr k10 a0 a1 i2 a3 i4 h = some h9) : Go l E m_Sol_countLevel (rm d 0 0) (KM E 0 0 (PoE none h9 x)) 0 0 h x 10 [(0, .ref a0), (1, .ref a1), (2, .int i2), (3, .ref a3), (4, .int i4)] [] := by
  unfold b_Sol_countLevel_10 at hf
  refine go_iload 4 d_Sol_countLevel_10 rfl ?_
  refine go_sipush (500 : Int32) d_Sol_countLevel_12 (by decide) ?_
  refine go_icmp_ge 36 d_Sol_countLevel_15 (by decide) (fun q6 => ?_) (fun q6 => ?_)
  · rw [if_pos q6] at hf
    refine go_sub (lv' := [(0, .ref a0), (1, .ref a1), (2, .int i2), (3, .ref a3)]) [0, 1, 2, 3] rfl ?_
    exact g_Sol_countLevel_36 hd hkr  a0 a1 i2 a3 h hf
  · rw [if_neg q6] at hf
    refine go_aload_n 0 d_Sol_countLevel_18 rfl ?_
    obtain ⟨x1, e_x1, hf⟩ := bnd_x hf
    refine go_get d_Sol_countLevel_19 (gR_x e_x1) fl_Sol_12 ?_
    refine go_aload_n 3 d_Sol_countLevel_22 rfl ?_
    refine go_aload_n 1 d_Sol_countLevel_23 rfl ?_
    obtain ⟨_, e2, hf⟩ := bnd_x hf
    obtain ⟨x3, h4, e_x3, hf⟩ := bnd2_x hf
    refine go_callV_I (As := [.ref a3, .ref a1]) (st := []) (c_Rea_next (d := d - 1) (by omega) e_x3) lk_Sol_58 rfl rfl e2 (by decide) rfl (rm_ok (by omega)) (Nat.le_of_ble_eq_true rfl) rm_c d_Sol_countLevel_24 ?_
    refine go_if_eq 36 d_Sol_countLevel_27 (by decide) (fun q5 => ?_) (fun q5 => ?_)
    · rw [if_pos q5] at hf
      refine go_sub (lv' := [(0, .ref a0), (1, .ref a1), (2, .int i2), (3, .ref a3)]) [0, 1, 2, 3] rfl ?_
      exact g_Sol_countLevel_36 hd hkr  a0 a1 i2 a3 h4 hf
    · rw [if_neg q5] at hf
      refine go_iinc (lv' := [(4, .int (i4 + (1 : Int32))), (0, .ref a0), (1, .ref a1), (2, .int i2), (3, .ref a3)]) 4 (i4 + (1 : Int32)) d_Sol_countLevel_30 rfl rfl rfl (by decide) ?_
      refine go_goto 10 d_Sol_countLevel_33 (by decide) ?_
      refine go_sub (lv' := [(0, .ref a0), (1, .ref a1), (2, .int i2), (3, .ref a3), (4, .int (i4 + (1 : Int32)))]) [1, 2, 3, 4, 0] rfl ?_
      exact hk10 a0 a1 i2 a3 (i4 + (1 : Int32)) h4 hf
theorem t_Sol_countLevel_10 {l : Launch} {E : ET} {d : Nat} (hd : 66 ≤ d) {F : Nat} {h9 : PH} {x : Nat} {kr : Nat → Nat → Int32 → PH → Option PH} (hkr : ∀ (a0 : Nat) (a1 : Nat) (a2 : Int32) (ha : PH) (hb : PH), kr a0 a1 a2 ha = some hb → Fn l E m_Sol_countLevel (d - 1) 0 0 [.ref a0, .ref a1, .int a2] ha x (PoE none hb x))  : ∀ (n : Nat) (a0 : Nat) (a1 : Nat) (i2 : Int32) (a3 : Nat) (i4 : Int32) (hh : PH), f_Sol_countLevel_10 F kr n a0 a1 i2 a3 i4 hh = some h9 → Go l E m_Sol_countLevel (rm d 0 0) (KM E 0 0 (PoE none h9 x)) 0 0 hh x 10 [(0, .ref a0), (1, .ref a1), (2, .int i2), (3, .ref a3), (4, .int i4)] [] := by
  intro n
  induction n with
  | zero => intro v0 v1 v2 v3 v4 v5 hf; cases hf
  | succ n ih => intro v0 v1 v2 v3 v4 v5 hf; exact g_Sol_countLevel_10 hd hkr ih v0 v1 v2 v3 v4 v5 hf
def b_Sol_countLevel_0 (F : Nat) (kr : Nat → Nat → Int32 → PH → Option PH) (a0 : Nat) (a1 : Nat) (i2 : Int32) (h : PH) : Option PH :=
  bnd (gR h a0 7 1) fun x1 => bnd (aR h x1 i2) fun x2 => f_Sol_countLevel_10 F kr F a0 a1 i2 x2 (0 : Int32) h
theorem g_Sol_countLevel_0 {l : Launch} {E : ET} {d : Nat} (hd : 66 ≤ d) {F : Nat} {h9 : PH} {x : Nat} {kr : Nat → Nat → Int32 → PH → Option PH} (hkr : ∀ (a0 : Nat) (a1 : Nat) (a2 : Int32) (ha : PH) (hb : PH), kr a0 a1 a2 ha = some hb → Fn l E m_Sol_countLevel (d - 1) 0 0 [.ref a0, .ref a1, .int a2] ha x (PoE none hb x))  (a0 : Nat) (a1 : Nat) (i2 : Int32) (h : PH) (hf : b_Sol_countLevel_0 F kr a0 a1 i2 h = some h9) : Go l E m_Sol_countLevel (rm d 0 0) (KM E 0 0 (PoE none h9 x)) 0 0 h x 0 [(0, .ref a0), (1, .ref a1), (2, .int i2)] [] := by
  unfold b_Sol_countLevel_0 at hf
  refine go_aload_n 0 d_Sol_countLevel_0 rfl ?_
  obtain ⟨x1, e_x1, hf⟩ := bnd_x hf
  refine go_get d_Sol_countLevel_1 (gR_x e_x1) fl_Sol_20 ?_
  refine go_iload_n 2 d_Sol_countLevel_4 rfl ?_
  obtain ⟨x2, e_x2, hf⟩ := bnd_x hf
  refine go_aaload d_Sol_countLevel_5 e_x2 ?_
  refine go_astore_n (lv' := [(3, .ref x2), (0, .ref a0), (1, .ref a1), (2, .int i2)]) d_Sol_countLevel_6 rfl (by decide) ?_
  refine go_iconst (0 : Int32) d_Sol_countLevel_7 (by decide) ?_
  refine go_istore (lv' := [(4, .int (0 : Int32)), (3, .ref x2), (0, .ref a0), (1, .ref a1), (2, .int i2)]) d_Sol_countLevel_8 rfl (by decide) ?_
  refine go_sub (lv' := [(0, .ref a0), (1, .ref a1), (2, .int i2), (3, .ref x2), (4, .int (0 : Int32))]) [2, 3, 4, 1, 0] rfl ?_
  exact t_Sol_countLevel_10 hd hkr  _ a0 a1 i2 x2 (0 : Int32) h hf
def f_Sol_countLevel (F : Nat) : Nat → Nat → Nat → Int32 → PH → Option PH
  | 0 => fun _ _ _ _ => none
  | n + 1 => b_Sol_countLevel_0 F (f_Sol_countLevel F n)
theorem cr_Sol_countLevel {l : Launch} {E : ET} {F : Nat} {x : Nat} : ∀ (n d : Nat), 66 + n ≤ d → ∀ (a0 : Nat) (a1 : Nat) (i2 : Int32) (h : PH) (h9 : PH), f_Sol_countLevel F n a0 a1 i2 h = some h9 → Fn l E m_Sol_countLevel d 0 0 [.ref a0, .ref a1, .int i2] h x (PoE none h9 x) := by
  intro n
  induction n with
  | zero => intro d hd _ _ _ _ _ hf; cases hf
  | succ n ih =>
    intro d hd a0 a1 i2 h h9 hf
    exact Fn.of (by decide +kernel) (Nat.le_of_ble_eq_true rfl) (g_Sol_countLevel_0 (by omega) (fun b0 b1 b2 ha hb q => ih (d - 1) (by omega) b0 b1 b2 ha hb q) a0 a1 i2 h hf)
theorem c_Sol_countLevel {l : Launch} {E : ET} {d : Nat} (hd : 126 ≤ d) {F : Nat} {h9 : PH} {x : Nat} {a0 : Nat} {a1 : Nat} {i2 : Int32} {h : PH} (hf : f_Sol_countLevel F RD a0 a1 i2 h = some h9) : Fn l E m_Sol_countLevel d 0 0 [.ref a0, .ref a1, .int i2] h x (PoE none h9 x) :=
  cr_Sol_countLevel RD d (by show 66 + 60 ≤ d; omega) _ _ _ _ _ hf
theorem d_Sol_countSolutions_0 : decode prog_10_method_7_code 0 = .ok (.aload_n 0, 1) := by decide +kernel
theorem d_Sol_countSolutions_1 : decode prog_10_method_7_code 1 = .ok (.getfield 40, 3) := by decide +kernel
theorem d_Sol_countSolutions_4 : decode prog_10_method_7_code 4 = .ok (.aload_n 0, 1) := by decide +kernel
theorem d_Sol_countSolutions_5 : decode prog_10_method_7_code 5 = .ok (.getfield 36, 3) := by decide +kernel
theorem d_Sol_countSolutions_8 : decode prog_10_method_7_code 8 = .ok (.if_icmp .ge 7, 3) := by decide +kernel
theorem d_Sol_countSolutions_11 : decode prog_10_method_7_code 11 = .ok (.iconst 1, 1) := by decide +kernel
theorem d_Sol_countSolutions_12 : decode prog_10_method_7_code 12 = .ok (.goto 4, 3) := by decide +kernel
theorem d_Sol_countSolutions_15 : decode prog_10_method_7_code 15 = .ok (.iconst 0, 1) := by decide +kernel
theorem d_Sol_countSolutions_16 : decode prog_10_method_7_code 16 = .ok (.istore 4, 2) := by decide +kernel
theorem d_Sol_countSolutions_18 : decode prog_10_method_7_code 18 = .ok (.iload 4, 2) := by decide +kernel
theorem d_Sol_countSolutions_20 : decode prog_10_method_7_code 20 = .ok (.ifCond .ne 69, 3) := by decide +kernel
theorem d_Sol_countSolutions_23 : decode prog_10_method_7_code 23 = .ok (.aload_n 0, 1) := by decide +kernel
theorem d_Sol_countSolutions_24 : decode prog_10_method_7_code 24 = .ok (.getfield 36, 3) := by decide +kernel
theorem d_Sol_countSolutions_27 : decode prog_10_method_7_code 27 = .ok (.iload_n 3, 1) := by decide +kernel
theorem d_Sol_countSolutions_28 : decode prog_10_method_7_code 28 = .ok (.if_icmp .ge 61, 3) := by decide +kernel
theorem d_Sol_countSolutions_31 : decode prog_10_method_7_code 31 = .ok (.aload_n 0, 1) := by decide +kernel
theorem d_Sol_countSolutions_32 : decode prog_10_method_7_code 32 = .ok (.iload_n 3, 1) := by decide +kernel
theorem d_Sol_countSolutions_33 : decode prog_10_method_7_code 33 = .ok (.putfield 36, 3) := by decide +kernel
theorem d_Sol_countSolutions_36 : decode prog_10_method_7_code 36 = .ok (.aload_n 0, 1) := by decide +kernel
theorem d_Sol_countSolutions_37 : decode prog_10_method_7_code 37 = .ok (.iconst 0, 1) := by decide +kernel
theorem d_Sol_countSolutions_38 : decode prog_10_method_7_code 38 = .ok (.putfield 40, 3) := by decide +kernel
theorem d_Sol_countSolutions_41 : decode prog_10_method_7_code 41 = .ok (.iconst 1, 1) := by decide +kernel
theorem d_Sol_countSolutions_42 : decode prog_10_method_7_code 42 = .ok (.istore 5, 2) := by decide +kernel
theorem d_Sol_countSolutions_44 : decode prog_10_method_7_code 44 = .ok (.iload 5, 2) := by decide +kernel
theorem d_Sol_countSolutions_46 : decode prog_10_method_7_code 46 = .ok (.bipush 6, 2) := by decide +kernel
theorem d_Sol_countSolutions_48 : decode prog_10_method_7_code 48 = .ok (.if_icmp .gt 17, 3) := by decide +kernel
theorem d_Sol_countSolutions_51 : decode prog_10_method_7_code 51 = .ok (.aload_n 0, 1) := by decide +kernel
theorem d_Sol_countSolutions_52 : decode prog_10_method_7_code 52 = .ok (.getfield 24, 3) := by decide +kernel
theorem d_Sol_countSolutions_55 : decode prog_10_method_7_code 55 = .ok (.iload 5, 2) := by decide +kernel
theorem d_Sol_countSolutions_57 : decode prog_10_method_7_code 57 = .ok (.lconst 0, 1) := by decide +kernel
theorem d_Sol_countSolutions_58 : decode prog_10_method_7_code 58 = .ok (.lastore, 1) := by decide +kernel
theorem d_Sol_countSolutions_59 : decode prog_10_method_7_code 59 = .ok (.iinc 5 1, 3) := by decide +kernel
theorem d_Sol_countSolutions_62 : decode prog_10_method_7_code 62 = .ok (.goto (-18), 3) := by decide +kernel
theorem d_Sol_countSolutions_65 : decode prog_10_method_7_code 65 = .ok (.aload_n 0, 1) := by decide +kernel
theorem d_Sol_countSolutions_66 : decode prog_10_method_7_code 66 = .ok (.aload_n 2, 1) := by decide +kernel
theorem d_Sol_countSolutions_67 : decode prog_10_method_7_code 67 = .ok (.invokevirtual 95, 3) := by decide +kernel
theorem d_Sol_countSolutions_70 : decode prog_10_method_7_code 70 = .ok (.putfield 101, 3) := by decide +kernel
theorem d_Sol_countSolutions_73 : decode prog_10_method_7_code 73 = .ok (.aload_n 0, 1) := by decide +kernel
theorem d_Sol_countSolutions_74 : decode prog_10_method_7_code 74 = .ok (.getfield 20, 3) := by decide +kernel
theorem d_Sol_countSolutions_77 : decode prog_10_method_7_code 77 = .ok (.iconst 0, 1) := by decide +kernel
theorem d_Sol_countSolutions_78 : decode prog_10_method_7_code 78 = .ok (.aaload, 1) := by decide +kernel
theorem d_Sol_countSolutions_79 : decode prog_10_method_7_code 79 = .ok (.aload_n 1, 1) := by decide +kernel
theorem d_Sol_countSolutions_80 : decode prog_10_method_7_code 80 = .ok (.invokevirtual 50, 3) := by decide +kernel
theorem d_Sol_countSolutions_83 : decode prog_10_method_7_code 83 = .ok (.aload_n 0, 1) := by decide +kernel
theorem d_Sol_countSolutions_84 : decode prog_10_method_7_code 84 = .ok (.aload_n 2, 1) := by decide +kernel
theorem d_Sol_countSolutions_85 : decode prog_10_method_7_code 85 = .ok (.iconst 0, 1) := by decide +kernel
theorem d_Sol_countSolutions_86 : decode prog_10_method_7_code 86 = .ok (.invokestatic 105, 3) := by decide +kernel
theorem d_Sol_countSolutions_89 : decode prog_10_method_7_code 89 = .ok (.aload_n 0, 1) := by decide +kernel
theorem d_Sol_countSolutions_90 : decode prog_10_method_7_code 90 = .ok (.getfield 40, 3) := by decide +kernel
theorem d_Sol_countSolutions_93 : decode prog_10_method_7_code 93 = .ok (.iload_n 3, 1) := by decide +kernel
theorem d_Sol_countSolutions_94 : decode prog_10_method_7_code 94 = .ok (.invokestatic 109, 3) := by decide +kernel
theorem d_Sol_countSolutions_97 : decode prog_10_method_7_code 97 = .ok (.ireturn, 1) := by decide +kernel
def b_Sol_countSolutions_89 (F : Nat) (a0 : Nat) (i3 : Int32) (h : PH) : Option (Int32 × PH) :=
  bnd (gI h a0 7 5) fun x1 => bnd (some (if i3 < x1 then i3 else x1)) fun y2 => some (y2, h)
theorem g_Sol_countSolutions_89 {l : Launch} {E : ET} {d : Nat} (hd : 127 ≤ d) {F : Nat} {r : Int32} {h9 : PH} {x : Nat}  (a0 : Nat) (i3 : Int32) (h : PH) (hf : b_Sol_countSolutions_89 F a0 i3 h = some (r, h9)) : Go l E m_Sol_countSolutions (rm d 0 0) (KM E 0 0 (PoE (some (.int r)) h9 x)) 0 0 h x 89 [(0, .ref a0), (3, .int i3)] [] := by
  unfold b_Sol_countSolutions_89 at hf
  refine go_aload_n 0 d_Sol_countSolutions_89 rfl ?_
  obtain ⟨x1, e_x1, hf⟩ := bnd_x hf
  refine go_get d_Sol_countSolutions_90 (gI_x e_x1) fl_Sol_40 ?_
  refine go_iload_n 1 d_Sol_countSolutions_93 rfl ?_
  obtain ⟨y2, e_y2, hf⟩ := bnd_x hf
  refine go_min d_Sol_countSolutions_94 ml_Sol_109 (rm_n (by omega)) (Nat.le_of_ble_eq_true rfl) ?_
  refine go_nmI e_y2 ?_
  obtain ⟨e8, e9⟩ := Prod.mk.inj (Option.some.inj hf)
  subst e8; subst e9
  exact go_iret d_Sol_countSolutions_97 rfl ⟨rfl, rfl, rfl⟩
def b_Sol_countSolutions_44 (F : Nat) (k44 : Nat → Nat → Nat → Int32 → Int32 → PH → Option (Int32 × PH)) (a0 : Nat) (a1 : Nat) (a2 : Nat) (i3 : Int32) (i5 : Int32) (h : PH) : Option (Int32 × PH) :=
  (if (6 : Int32) < i5 then bnd (cK h a2 4) fun _ => bnd (f_Rul_area F a2 h) fun x2 => bnd (pV h a0 7 9 (.long x2)) fun h3 => bnd (gR h3 a0 7 1) fun x4 => bnd (aR h3 x4 (0 : Int32)) fun x5 => bnd (cK h3 x5 1) fun _ => bnd (f_Pos_copyFrom x5 a1 h3) fun h7 => bnd (f_Sol_countLevel F RD a0 a2 (0 : Int32) h7) fun h8 => b_Sol_countSolutions_89 F a0 i3 h8 else bnd (gR h a0 7 2) fun x9 => bnd (sL h x9 i5 (0 : Int64)) fun h10 => k44 a0 a1 a2 i3 (i5 + (1 : Int32)) h10)
def f_Sol_countSolutions_44 (F : Nat) : Nat → Nat → Nat → Nat → Int32 → Int32 → PH → Option (Int32 × PH)
  | 0 => fun _ _ _ _ _ _ => none
  | n + 1 => b_Sol_countSolutions_44 F (f_Sol_countSolutions_44 F n)
theorem g_Sol_countSolutions_44 {l : Launch} {E : ET} {d : Nat} (hd : 127 ≤ d) {F : Nat} {r : Int32} {h9 : PH} {x : Nat} {k44 : Nat → Nat → Nat → Int32 → Int32 → PH → Option (Int32 × PH)} (hk44 : ∀ (a0 : Nat) (a1 : Nat) (a2 : Nat) (i3 : Int32) (i5 : Int32) (hh : PH), k44 a0 a1 a2 i3 i5 hh = some (r, h9) → Go l E m_Sol_countSolutions (rm d 0 0) (KM E 0 0 (PoE (some (.int r)) h9 x)) 0 0 hh x 44 [(0, .ref a0), (1, .ref a1), (2, .ref a2), (3, .int i3), (5, .int i5)] []) (a0 : Nat) (a1 : Nat) (a2 : Nat) (i3 : Int32) (i5 : Int32) (h : PH) (hf : b_Sol_countSolutions_44 F k44 a0 a1 a2 i3 i5 h = some (r, h9)) : Go l E m_Sol_countSolutions (rm d 0 0) (KM E 0 0 (PoE (some (.int r)) h9 x)) 0 0 h x 44 [(0, .ref a0), (1, .ref a1), (2, .ref a2), (3, .int i3), (5, .int i5)] [] := by
  unfold b_Sol_countSolutions_44 at hf
  refine go_iload 4 d_Sol_countSolutions_44 rfl ?_
  refine go_bipush (6 : Int32) d_Sol_countSolutions_46 (by decide) ?_
  refine go_icmp_gt 65 d_Sol_countSolutions_48 (by decide) (fun q11 => ?_) (fun q11 => ?_)
  · rw [if_pos q11] at hf
    refine go_aload_n 0 d_Sol_countSolutions_65 rfl ?_
    refine go_aload_n 2 d_Sol_countSolutions_66 rfl ?_
    obtain ⟨_, e1, hf⟩ := bnd_x hf
    obtain ⟨x2, e_x2, hf⟩ := bnd_x hf
    refine go_callV_L (As := []) (st := [.ref a0]) (c_Rul_area (d := d - 1) (by omega) e_x2) lk_Sol_95 rfl rfl e1 (by decide) rfl (rm_ok (by omega)) (Nat.le_of_ble_eq_true rfl) rm_c d_Sol_countSolutions_67 ?_
    obtain ⟨h3, e_h3, hf⟩ := bnd_x hf
    refine go_putL d_Sol_countSolutions_70 e_h3 fl_Sol_101 rfl rfl ?_
    refine go_aload_n 0 d_Sol_countSolutions_73 rfl ?_
    obtain ⟨x4, e_x4, hf⟩ := bnd_x hf
    refine go_get d_Sol_countSolutions_74 (gR_x e_x4) fl_Sol_20 ?_
    refine go_iconst (0 : Int32) d_Sol_countSolutions_77 (by decide) ?_
    obtain ⟨x5, e_x5, hf⟩ := bnd_x hf
    refine go_aaload d_Sol_countSolutions_78 e_x5 ?_
    refine go_aload_n 1 d_Sol_countSolutions_79 rfl ?_
    obtain ⟨_, e6, hf⟩ := bnd_x hf
    obtain ⟨h7, e_x7, hf⟩ := bnd_x hf
    refine go_callV_N (As := [.ref a1]) (st := []) (c_Pos_copyFrom (d := d - 1) (by omega) e_x7) lk_Sol_50 rfl rfl e6 (by decide) rfl (rm_ok (by omega)) (Nat.le_of_ble_eq_true rfl) rm_c d_Sol_countSolutions_80 ?_
    refine go_aload_n 0 d_Sol_countSolutions_83 rfl ?_
    refine go_aload_n 2 d_Sol_countSolutions_84 rfl ?_
    refine go_iconst (0 : Int32) d_Sol_countSolutions_85 (by decide) ?_
    obtain ⟨h8, e_x8, hf⟩ := bnd_x hf
    refine go_callS_N (As := [.ref a0, .ref a2, .int (0 : Int32)]) (st := []) (c_Sol_countLevel (d := d - 1) (by omega) e_x8) lk_Sol_105 rfl rfl (rm_ok (by omega)) (Nat.le_of_ble_eq_true rfl) rm_c d_Sol_countSolutions_86 ?_
    refine go_sub (lv' := [(0, .ref a0), (3, .int i3)]) [0, 3] rfl ?_
    exact g_Sol_countSolutions_89 hd  a0 i3 h8 hf
  · rw [if_neg q11] at hf
    refine go_aload_n 0 d_Sol_countSolutions_51 rfl ?_
    obtain ⟨x9, e_x9, hf⟩ := bnd_x hf
    refine go_get d_Sol_countSolutions_52 (gR_x e_x9) fl_Sol_24 ?_
    refine go_iload 4 d_Sol_countSolutions_55 rfl ?_
    refine go_lconst (0 : Int64) d_Sol_countSolutions_57 (by decide) ?_
    obtain ⟨h10, e_h10, hf⟩ := bnd_x hf
    refine go_lastore d_Sol_countSolutions_58 e_h10 ?_
    refine go_iinc (lv' := [(5, .int (i5 + (1 : Int32))), (0, .ref a0), (1, .ref a1), (2, .ref a2), (3, .int i3)]) 4 (i5 + (1 : Int32)) d_Sol_countSolutions_59 rfl rfl rfl (by decide) ?_
    refine go_goto 44 d_Sol_countSolutions_62 (by decide) ?_
    refine go_sub (lv' := [(0, .ref a0), (1, .ref a1), (2, .ref a2), (3, .int i3), (5, .int (i5 + (1 : Int32)))]) [1, 2, 3, 4, 0] rfl ?_
    exact hk44 a0 a1 a2 i3 (i5 + (1 : Int32)) h10 hf
theorem t_Sol_countSolutions_44 {l : Launch} {E : ET} {d : Nat} (hd : 127 ≤ d) {F : Nat} {r : Int32} {h9 : PH} {x : Nat}  : ∀ (n : Nat) (a0 : Nat) (a1 : Nat) (a2 : Nat) (i3 : Int32) (i5 : Int32) (hh : PH), f_Sol_countSolutions_44 F n a0 a1 a2 i3 i5 hh = some (r, h9) → Go l E m_Sol_countSolutions (rm d 0 0) (KM E 0 0 (PoE (some (.int r)) h9 x)) 0 0 hh x 44 [(0, .ref a0), (1, .ref a1), (2, .ref a2), (3, .int i3), (5, .int i5)] [] := by
  intro n
  induction n with
  | zero => intro v0 v1 v2 v3 v4 v5 hf; cases hf
  | succ n ih => intro v0 v1 v2 v3 v4 v5 hf; exact g_Sol_countSolutions_44 hd ih v0 v1 v2 v3 v4 v5 hf
def b_Sol_countSolutions_16 (F : Nat) (a0 : Nat) (a1 : Nat) (a2 : Nat) (i3 : Int32) (s0 : Int32) (h : PH) : Option (Int32 × PH) :=
  (if s0 = (0 : Int32) then bnd (gI h a0 7 4) fun x1 => (if i3 ≤ x1 then b_Sol_countSolutions_89 F a0 i3 h else bnd (pV h a0 7 4 (.int i3)) fun h2 => bnd (pV h2 a0 7 5 (.int (0 : Int32))) fun h3 => f_Sol_countSolutions_44 F F a0 a1 a2 i3 (1 : Int32) h3) else b_Sol_countSolutions_89 F a0 i3 h)
theorem g_Sol_countSolutions_16 {l : Launch} {E : ET} {d : Nat} (hd : 127 ≤ d) {F : Nat} {r : Int32} {h9 : PH} {x : Nat}  (a0 : Nat) (a1 : Nat) (a2 : Nat) (i3 : Int32) (s0 : Int32) (h : PH) (hf : b_Sol_countSolutions_16 F a0 a1 a2 i3 s0 h = some (r, h9)) : Go l E m_Sol_countSolutions (rm d 0 0) (KM E 0 0 (PoE (some (.int r)) h9 x)) 0 0 h x 16 [(0, .ref a0), (1, .ref a1), (2, .ref a2), (3, .int i3)] [.int s0] := by
  unfold b_Sol_countSolutions_16 at hf
  refine go_istore (lv' := [(4, .int s0), (0, .ref a0), (1, .ref a1), (2, .ref a2), (3, .int i3)]) d_Sol_countSolutions_16 rfl (by decide) ?_
  refine go_iload 0 d_Sol_countSolutions_18 rfl ?_
  refine go_if_ne 89 d_Sol_countSolutions_20 (by decide) (fun q5 => ?_) (fun q5 => ?_)
  · rw [if_neg q5] at hf
    refine go_sub (lv' := [(0, .ref a0), (3, .int i3)]) [1, 4] rfl ?_
    exact g_Sol_countSolutions_89 hd  a0 i3 h hf
  · rw [if_pos q5] at hf
    refine go_aload_n 1 d_Sol_countSolutions_23 rfl ?_
    obtain ⟨x1, e_x1, hf⟩ := bnd_x hf
    refine go_get d_Sol_countSolutions_24 (gI_x e_x1) fl_Sol_36 ?_
    refine go_iload_n 4 d_Sol_countSolutions_27 rfl ?_
    refine go_icmp_ge 89 d_Sol_countSolutions_28 (by decide) (fun q4 => ?_) (fun q4 => ?_)
    · rw [if_pos q4] at hf
      refine go_sub (lv' := [(0, .ref a0), (3, .int i3)]) [1, 4] rfl ?_
      exact g_Sol_countSolutions_89 hd  a0 i3 h hf
    · rw [if_neg q4] at hf
      refine go_aload_n 1 d_Sol_countSolutions_31 rfl ?_
      refine go_iload_n 4 d_Sol_countSolutions_32 rfl ?_
      obtain ⟨h2, e_h2, hf⟩ := bnd_x hf
      refine go_putI d_Sol_countSolutions_33 e_h2 fl_Sol_36 rfl rfl ?_
      refine go_aload_n 1 d_Sol_countSolutions_36 rfl ?_
      refine go_iconst (0 : Int32) d_Sol_countSolutions_37 (by decide) ?_
      obtain ⟨h3, e_h3, hf⟩ := bnd_x hf
      refine go_putI d_Sol_countSolutions_38 e_h3 fl_Sol_40 rfl rfl ?_
      refine go_iconst (1 : Int32) d_Sol_countSolutions_41 (by decide) ?_
      refine go_istore (lv' := [(5, .int (1 : Int32)), (4, .int s0), (0, .ref a0), (1, .ref a1), (2, .ref a2), (3, .int i3)]) d_Sol_countSolutions_42 rfl (by decide) ?_
      refine go_sub (lv' := [(0, .ref a0), (1, .ref a1), (2, .ref a2), (3, .int i3), (5, .int (1 : Int32))]) [2, 3, 4, 5, 0] rfl ?_
      exact t_Sol_countSolutions_44 hd  _ a0 a1 a2 i3 (1 : Int32) h3 hf
def f_Sol_countSolutions (F : Nat) (a0 : Nat) (a1 : Nat) (a2 : Nat) (i3 : Int32) (h : PH) : Option (Int32 × PH) :=
  bnd (gI h a0 7 5) fun x1 => bnd (gI h a0 7 4) fun x2 => (if x2 ≤ x1 then b_Sol_countSolutions_16 F a0 a1 a2 i3 (0 : Int32) h else b_Sol_countSolutions_16 F a0 a1 a2 i3 (1 : Int32) h)
theorem g_Sol_countSolutions_0 {l : Launch} {E : ET} {d : Nat} (hd : 127 ≤ d) {F : Nat} {r : Int32} {h9 : PH} {x : Nat}  (a0 : Nat) (a1 : Nat) (a2 : Nat) (i3 : Int32) (h : PH) (hf : f_Sol_countSolutions F a0 a1 a2 i3 h = some (r, h9)) : Go l E m_Sol_countSolutions (rm d 0 0) (KM E 0 0 (PoE (some (.int r)) h9 x)) 0 0 h x 0 [(0, .ref a0), (1, .ref a1), (2, .ref a2), (3, .int i3)] [] := by
  unfold f_Sol_countSolutions at hf
  refine go_aload_n 0 d_Sol_countSolutions_0 rfl ?_
  obtain ⟨x1, e_x1, hf⟩ := bnd_x hf
  refine go_get d_Sol_countSolutions_1 (gI_x e_x1) fl_Sol_40 ?_
  refine go_aload_n 0 d_Sol_countSolutions_4 rfl ?_
  obtain ⟨x2, e_x2, hf⟩ := bnd_x hf
  refine go_get d_Sol_countSolutions_5 (gI_x e_x2) fl_Sol_36 ?_
  refine go_icmp_ge 15 d_Sol_countSolutions_8 (by decide) (fun q3 => ?_) (fun q3 => ?_)
  · rw [if_pos q3] at hf
    refine go_iconst (0 : Int32) d_Sol_countSolutions_15 (by decide) ?_
    refine go_sub (lv' := [(0, .ref a0), (1, .ref a1), (2, .ref a2), (3, .int i3)]) [0, 1, 2, 3] rfl ?_
    exact g_Sol_countSolutions_16 hd  a0 a1 a2 i3 (0 : Int32) h hf
  · rw [if_neg q3] at hf
    refine go_iconst (1 : Int32) d_Sol_countSolutions_11 (by decide) ?_
    refine go_goto 16 d_Sol_countSolutions_12 (by decide) ?_
    refine go_sub (lv' := [(0, .ref a0), (1, .ref a1), (2, .ref a2), (3, .int i3)]) [0, 1, 2, 3] rfl ?_
    exact g_Sol_countSolutions_16 hd  a0 a1 a2 i3 (1 : Int32) h hf
theorem c_Sol_countSolutions {l : Launch} {E : ET} {d : Nat} (hd : 127 ≤ d) {F : Nat} {r : Int32} {h9 : PH} {x : Nat} {a0 : Nat} {a1 : Nat} {a2 : Nat} {i3 : Int32} {h : PH} (hf : f_Sol_countSolutions F a0 a1 a2 i3 h = some (r, h9)) : Fn l E m_Sol_countSolutions d 0 0 [.ref a0, .ref a1, .ref a2, .int i3] h x (PoE (some (.int r)) h9 x) :=
  Fn.of (by decide +kernel) (Nat.le_of_ble_eq_true rfl) (g_Sol_countSolutions_0 hd a0 a1 a2 i3 h hf)
theorem d_Sol_countUnseen_0 : decode prog_10_method_13_code 0 = .ok (.iconst 0, 1) := by decide +kernel
theorem d_Sol_countUnseen_1 : decode prog_10_method_13_code 1 = .ok (.istore_n 2, 1) := by decide +kernel
theorem d_Sol_countUnseen_2 : decode prog_10_method_13_code 2 = .ok (.iconst 1, 1) := by decide +kernel
theorem d_Sol_countUnseen_3 : decode prog_10_method_13_code 3 = .ok (.istore_n 3, 1) := by decide +kernel
theorem d_Sol_countUnseen_4 : decode prog_10_method_13_code 4 = .ok (.iload_n 3, 1) := by decide +kernel
theorem d_Sol_countUnseen_5 : decode prog_10_method_13_code 5 = .ok (.bipush 6, 2) := by decide +kernel
theorem d_Sol_countUnseen_7 : decode prog_10_method_13_code 7 = .ok (.if_icmp .gt 32, 3) := by decide +kernel
theorem d_Sol_countUnseen_10 : decode prog_10_method_13_code 10 = .ok (.iload_n 2, 1) := by decide +kernel
theorem d_Sol_countUnseen_11 : decode prog_10_method_13_code 11 = .ok (.aload_n 1, 1) := by decide +kernel
theorem d_Sol_countUnseen_12 : decode prog_10_method_13_code 12 = .ok (.getfield 92, 3) := by decide +kernel
theorem d_Sol_countUnseen_15 : decode prog_10_method_13_code 15 = .ok (.iload_n 3, 1) := by decide +kernel
theorem d_Sol_countUnseen_16 : decode prog_10_method_13_code 16 = .ok (.laload, 1) := by decide +kernel
theorem d_Sol_countUnseen_17 : decode prog_10_method_13_code 17 = .ok (.aload_n 0, 1) := by decide +kernel
theorem d_Sol_countUnseen_18 : decode prog_10_method_13_code 18 = .ok (.getfield 24, 3) := by decide +kernel
theorem d_Sol_countUnseen_21 : decode prog_10_method_13_code 21 = .ok (.iload_n 3, 1) := by decide +kernel
theorem d_Sol_countUnseen_22 : decode prog_10_method_13_code 22 = .ok (.laload, 1) := by decide +kernel
theorem d_Sol_countUnseen_23 : decode prog_10_method_13_code 23 = .ok (.ldc2_w 84, 3) := by decide +kernel
theorem d_Sol_countUnseen_26 : decode prog_10_method_13_code 26 = .ok (.lxor, 1) := by decide +kernel
theorem d_Sol_countUnseen_27 : decode prog_10_method_13_code 27 = .ok (.land, 1) := by decide +kernel
theorem d_Sol_countUnseen_28 : decode prog_10_method_13_code 28 = .ok (.invokestatic 127, 3) := by decide +kernel
theorem d_Sol_countUnseen_31 : decode prog_10_method_13_code 31 = .ok (.iadd, 1) := by decide +kernel
theorem d_Sol_countUnseen_32 : decode prog_10_method_13_code 32 = .ok (.istore_n 2, 1) := by decide +kernel
theorem d_Sol_countUnseen_33 : decode prog_10_method_13_code 33 = .ok (.iinc 3 1, 3) := by decide +kernel
theorem d_Sol_countUnseen_36 : decode prog_10_method_13_code 36 = .ok (.goto (-32), 3) := by decide +kernel
theorem d_Sol_countUnseen_39 : decode prog_10_method_13_code 39 = .ok (.iload_n 2, 1) := by decide +kernel
theorem d_Sol_countUnseen_40 : decode prog_10_method_13_code 40 = .ok (.ireturn, 1) := by decide +kernel
def b_Sol_countUnseen_4 (F : Nat) (k4 : Nat → Nat → Int32 → Int32 → PH → Option Int32) (a0 : Nat) (a1 : Nat) (i2 : Int32) (i3 : Int32) (h : PH) : Option Int32 :=
  (if (6 : Int32) < i3 then some i2 else bnd (gR h a1 1 0) fun x1 => bnd (aL h x1 i3) fun x2 => bnd (gR h a0 7 2) fun x3 => bnd (aL h x3 i3) fun x4 => bnd (f_Lng_bitCount (x2 &&& (x4 ^^^ (-1 : Int64)))) fun x5 => k4 a0 a1 (i2 + x5) (i3 + (1 : Int32)) h)
def f_Sol_countUnseen_4 (F : Nat) : Nat → Nat → Nat → Int32 → Int32 → PH → Option Int32
  | 0 => fun _ _ _ _ _ => none
  | n + 1 => b_Sol_countUnseen_4 F (f_Sol_countUnseen_4 F n)
theorem g_Sol_countUnseen_4 {l : Launch} {E : ET} {d : Nat} (hd : 2 ≤ d) {F : Nat} {r : Int32} {h : PH} {x : Nat} {k4 : Nat → Nat → Int32 → Int32 → PH → Option Int32} (hk4 : ∀ (a0 : Nat) (a1 : Nat) (i2 : Int32) (i3 : Int32), k4 a0 a1 i2 i3 h = some r → Go l E m_Sol_countUnseen (rm d 0 0) (KM E 0 0 (PoE (some (.int r)) h x)) 0 0 h x 4 [(0, .ref a0), (1, .ref a1), (2, .int i2), (3, .int i3)] []) (a0 : Nat) (a1 : Nat) (i2 : Int32) (i3 : Int32) (hf : b_Sol_countUnseen_4 F k4 a0 a1 i2 i3 h = some r) : Go l E m_Sol_countUnseen (rm d 0 0) (KM E 0 0 (PoE (some (.int r)) h x)) 0 0 h x 4 [(0, .ref a0), (1, .ref a1), (2, .int i2), (3, .int i3)] [] := by
  unfold b_Sol_countUnseen_4 at hf
  refine go_iload_n 3 d_Sol_countUnseen_4 rfl ?_
  refine go_bipush (6 : Int32) d_Sol_countUnseen_5 (by decide) ?_
  refine go_icmp_gt 39 d_Sol_countUnseen_7 (by decide) (fun q6 => ?_) (fun q6 => ?_)
  · rw [if_pos q6] at hf
    refine go_iload_n 2 d_Sol_countUnseen_39 rfl ?_
    have e9 := Option.some.inj hf
    subst e9
    exact go_iret d_Sol_countUnseen_40 rfl ⟨rfl, rfl, rfl⟩
  · rw [if_neg q6] at hf
    refine go_iload_n 2 d_Sol_countUnseen_10 rfl ?_
    refine go_aload_n 1 d_Sol_countUnseen_11 rfl ?_
    obtain ⟨x1, e_x1, hf⟩ := bnd_x hf
    refine go_get d_Sol_countUnseen_12 (gR_x e_x1) fl_Sol_92 ?_
    refine go_iload_n 3 d_Sol_countUnseen_15 rfl ?_
    obtain ⟨x2, e_x2, hf⟩ := bnd_x hf
    refine go_laload d_Sol_countUnseen_16 e_x2 ?_
    refine go_aload_n 0 d_Sol_countUnseen_17 rfl ?_
    obtain ⟨x3, e_x3, hf⟩ := bnd_x hf
    refine go_get d_Sol_countUnseen_18 (gR_x e_x3) fl_Sol_24 ?_
    refine go_iload_n 3 d_Sol_countUnseen_21 rfl ?_
    obtain ⟨x4, e_x4, hf⟩ := bnd_x hf
    refine go_laload d_Sol_countUnseen_22 e_x4 ?_
    refine go_ldc2 (-1 : Int64) d_Sol_countUnseen_23 kl_Sol_84 ?_
    refine go_lxor d_Sol_countUnseen_26 ?_
    refine go_land d_Sol_countUnseen_27 ?_
    obtain ⟨x5, e_x5, hf⟩ := bnd_x hf
    refine go_callS_I (As := [.long (x2 &&& (x4 ^^^ (-1 : Int64)))]) (st := [.int i2]) (c_Lng_bitCount (d := d - 1) (by omega) e_x5) lk_Sol_127 rfl rfl (rm_ok (by omega)) (Nat.le_of_ble_eq_true rfl) rm_c d_Sol_countUnseen_28 ?_
    refine go_iadd d_Sol_countUnseen_31 ?_
    refine go_istore_n (lv' := [(2, .int (i2 + x5)), (0, .ref a0), (1, .ref a1), (3, .int i3)]) d_Sol_countUnseen_32 rfl (by decide) ?_
    refine go_iinc (lv' := [(3, .int (i3 + (1 : Int32))), (2, .int (i2 + x5)), (0, .ref a0), (1, .ref a1)]) 3 (i3 + (1 : Int32)) d_Sol_countUnseen_33 rfl rfl rfl (by decide) ?_
    refine go_goto 4 d_Sol_countUnseen_36 (by decide) ?_
    refine go_sub (lv' := [(0, .ref a0), (1, .ref a1), (2, .int (i2 + x5)), (3, .int (i3 + (1 : Int32)))]) [2, 3, 1, 0] rfl ?_
    exact hk4 a0 a1 (i2 + x5) (i3 + (1 : Int32)) hf
theorem t_Sol_countUnseen_4 {l : Launch} {E : ET} {d : Nat} (hd : 2 ≤ d) {F : Nat} {r : Int32} {h : PH} {x : Nat}  : ∀ (n : Nat) (a0 : Nat) (a1 : Nat) (i2 : Int32) (i3 : Int32), f_Sol_countUnseen_4 F n a0 a1 i2 i3 h = some r → Go l E m_Sol_countUnseen (rm d 0 0) (KM E 0 0 (PoE (some (.int r)) h x)) 0 0 h x 4 [(0, .ref a0), (1, .ref a1), (2, .int i2), (3, .int i3)] [] := by
  intro n
  induction n with
  | zero => intro v0 v1 v2 v3 hf; cases hf
  | succ n ih => intro v0 v1 v2 v3 hf; exact g_Sol_countUnseen_4 hd ih v0 v1 v2 v3 hf
def f_Sol_countUnseen (F : Nat) (a0 : Nat) (a1 : Nat) (h : PH) : Option Int32 :=
  f_Sol_countUnseen_4 F F a0 a1 (0 : Int32) (1 : Int32) h
theorem g_Sol_countUnseen_0 {l : Launch} {E : ET} {d : Nat} (hd : 2 ≤ d) {F : Nat} {r : Int32} {h : PH} {x : Nat}  (a0 : Nat) (a1 : Nat) (hf : f_Sol_countUnseen F a0 a1 h = some r) : Go l E m_Sol_countUnseen (rm d 0 0) (KM E 0 0 (PoE (some (.int r)) h x)) 0 0 h x 0 [(0, .ref a0), (1, .ref a1)] [] := by
  unfold f_Sol_countUnseen at hf
  refine go_iconst (0 : Int32) d_Sol_countUnseen_0 (by decide) ?_
  refine go_istore_n (lv' := [(2, .int (0 : Int32)), (0, .ref a0), (1, .ref a1)]) d_Sol_countUnseen_1 rfl (by decide) ?_
  refine go_iconst (1 : Int32) d_Sol_countUnseen_2 (by decide) ?_
  refine go_istore_n (lv' := [(3, .int (1 : Int32)), (2, .int (0 : Int32)), (0, .ref a0), (1, .ref a1)]) d_Sol_countUnseen_3 rfl (by decide) ?_
  refine go_sub (lv' := [(0, .ref a0), (1, .ref a1), (2, .int (0 : Int32)), (3, .int (1 : Int32))]) [2, 3, 1, 0] rfl ?_
  exact t_Sol_countUnseen_4 hd  _ a0 a1 (0 : Int32) (1 : Int32)  hf
theorem c_Sol_countUnseen {l : Launch} {E : ET} {d : Nat} (hd : 2 ≤ d) {F : Nat} {r : Int32} {h : PH} {x : Nat} {a0 : Nat} {a1 : Nat} (hf : f_Sol_countUnseen F a0 a1 h = some r) : Fn l E m_Sol_countUnseen d 0 0 [.ref a0, .ref a1] h x (PoE (some (.int r)) h x) :=
  Fn.of (by decide +kernel) (Nat.le_of_ble_eq_true rfl) (g_Sol_countUnseen_0 hd a0 a1 hf)
