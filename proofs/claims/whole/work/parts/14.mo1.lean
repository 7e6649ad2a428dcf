/-! 14.mo1: methods as functions, by program. -/
theorem d_Mo_thrown_0 : decode prog_13_method_2_code 0 = .ok (.aload_n 0, 1) := by decide +kernel
theorem d_Mo_thrown_1 : decode prog_13_method_2_code 1 = .ok (.getfield 52, 3) := by decide +kernel
theorem d_Mo_thrown_4 : decode prog_13_method_2_code 4 = .ok (.ireturn, 1) := by decide +kernel
def f_Mo_thrown (a0 : Nat) (h : PH) : Option Int32 :=
  bnd (gI h a0 10 5) fun x1 => some x1
theorem g_Mo_thrown_0 {l : Launch} {E : ET} {d : Nat} (hd : 1 ≤ d) {r : Int32} {h : PH} {x : Nat}  (a0 : Nat) (hf : f_Mo_thrown a0 h = some r) : Go l E m_Mo_thrown (rm d 0 0) (KM E 0 0 (PoE (some (.int r)) h x)) 0 0 h x 0 [(0, .ref a0)] [] := by
  unfold f_Mo_thrown at hf
  refine go_aload_n 0 d_Mo_thrown_0 rfl ?_
  obtain ⟨x1, e_x1, hf⟩ := bnd_x hf
  refine go_get d_Mo_thrown_1 (gI_x e_x1) fl_Mo_52 ?_
  have e9 := Option.some.inj hf
  subst e9
  exact go_iret d_Mo_thrown_4 rfl ⟨rfl, rfl, rfl⟩
theorem c_Mo_thrown {l : Launch} {E : ET} {d : Nat} (hd : 1 ≤ d) {r : Int32} {h : PH} {x : Nat} {a0 : Nat} (hf : f_Mo_thrown a0 h = some r) : Fn l E m_Mo_thrown d 0 0 [.ref a0] h x (PoE (some (.int r)) h x) :=
  Fn.of (by decide +kernel) (Nat.le_of_ble_eq_true rfl) (g_Mo_thrown_0 hd a0 hf)
theorem d_Mo_in_0 : decode prog_13_method_3_code 0 = .ok (.iload_n 0, 1) := by decide +kernel
theorem d_Mo_in_1 : decode prog_13_method_3_code 1 = .ok (.iload_n 1, 1) := by decide +kernel
theorem d_Mo_in_2 : decode prog_13_method_3_code 2 = .ok (.if_icmp .lt 12, 3) := by decide +kernel
theorem d_Mo_in_5 : decode prog_13_method_3_code 5 = .ok (.iload_n 0, 1) := by decide +kernel
theorem d_Mo_in_6 : decode prog_13_method_3_code 6 = .ok (.iload_n 2, 1) := by decide +kernel
theorem d_Mo_in_7 : decode prog_13_method_3_code 7 = .ok (.if_icmp .gt 7, 3) := by decide +kernel
theorem d_Mo_in_10 : decode prog_13_method_3_code 10 = .ok (.iconst 1, 1) := by decide +kernel
theorem d_Mo_in_11 : decode prog_13_method_3_code 11 = .ok (.goto 4, 3) := by decide +kernel
theorem d_Mo_in_14 : decode prog_13_method_3_code 14 = .ok (.iconst 0, 1) := by decide +kernel
theorem d_Mo_in_15 : decode prog_13_method_3_code 15 = .ok (.ireturn, 1) := by decide +kernel
def f_Mo_in (i0 : Int32) (i1 : Int32) (i2 : Int32) : Option Int32 :=
  (if i0 < i1 then some (0 : Int32) else (if i2 < i0 then some (0 : Int32) else some (1 : Int32)))
theorem g_Mo_in_0 {l : Launch} {E : ET} {d : Nat} (hd : 1 ≤ d) {r : Int32} {h : PH} {x : Nat}  (i0 : Int32) (i1 : Int32) (i2 : Int32) (hf : f_Mo_in i0 i1 i2 = some r) : Go l E m_Mo_in (rm d 0 0) (KM E 0 0 (PoE (some (.int r)) h x)) 0 0 h x 0 [(0, .int i0), (1, .int i1), (2, .int i2)] [] := by
  unfold f_Mo_in at hf
  refine go_iload_n 0 d_Mo_in_0 rfl ?_
  refine go_iload_n 1 d_Mo_in_1 rfl ?_
  refine go_icmp_lt 14 d_Mo_in_2 (by decide) (fun q2 => ?_) (fun q2 => ?_)
  · rw [if_pos q2] at hf
    refine go_iconst (0 : Int32) d_Mo_in_14 (by decide) ?_
    have e9 := Option.some.inj hf
    subst e9
    exact go_zret d_Mo_in_15 rfl rfl ⟨rfl, rfl, rfl⟩
  · rw [if_neg q2] at hf
    refine go_iload_n 0 d_Mo_in_5 rfl ?_
    refine go_iload_n 2 d_Mo_in_6 rfl ?_
    refine go_icmp_gt 14 d_Mo_in_7 (by decide) (fun q1 => ?_) (fun q1 => ?_)
    · rw [if_pos q1] at hf
      refine go_iconst (0 : Int32) d_Mo_in_14 (by decide) ?_
      have e9 := Option.some.inj hf
      subst e9
      exact go_zret d_Mo_in_15 rfl rfl ⟨rfl, rfl, rfl⟩
    · rw [if_neg q1] at hf
      refine go_iconst (1 : Int32) d_Mo_in_10 (by decide) ?_
      refine go_goto 15 d_Mo_in_11 (by decide) ?_
      have e9 := Option.some.inj hf
      subst e9
      exact go_zret d_Mo_in_15 rfl rfl ⟨rfl, rfl, rfl⟩
theorem c_Mo_in {l : Launch} {E : ET} {d : Nat} (hd : 1 ≤ d) {r : Int32} {h : PH} {x : Nat} {i0 : Int32} {i1 : Int32} {i2 : Int32} (hf : f_Mo_in i0 i1 i2 = some r) : Fn l E m_Mo_in d 0 0 [.int i0, .int i1, .int i2] h x (PoE (some (.int r)) h x) :=
  Fn.of (by decide +kernel) (Nat.le_of_ble_eq_true rfl) (g_Mo_in_0 hd i0 i1 i2 hf)
theorem d_Mo_keep_0 : decode prog_13_method_4_code 0 = .ok (.aload_n 0, 1) := by decide +kernel
theorem d_Mo_keep_1 : decode prog_13_method_4_code 1 = .ok (.getfield 56, 3) := by decide +kernel
theorem d_Mo_keep_4 : decode prog_13_method_4_code 4 = .ok (.iconst 4, 1) := by decide +kernel
theorem d_Mo_keep_5 : decode prog_13_method_4_code 5 = .ok (.if_icmp .ne 44, 3) := by decide +kernel
theorem d_Mo_keep_8 : decode prog_13_method_4_code 8 = .ok (.iconst 0, 1) := by decide +kernel
theorem d_Mo_keep_9 : decode prog_13_method_4_code 9 = .ok (.istore_n 1, 1) := by decide +kernel
theorem d_Mo_keep_10 : decode prog_13_method_4_code 10 = .ok (.iload_n 1, 1) := by decide +kernel
theorem d_Mo_keep_11 : decode prog_13_method_4_code 11 = .ok (.sipush 1446, 3) := by decide +kernel
theorem d_Mo_keep_14 : decode prog_13_method_4_code 14 = .ok (.if_icmp .ge 25, 3) := by decide +kernel
theorem d_Mo_keep_17 : decode prog_13_method_4_code 17 = .ok (.aload_n 0, 1) := by decide +kernel
theorem d_Mo_keep_18 : decode prog_13_method_4_code 18 = .ok (.getfield 13, 3) := by decide +kernel
theorem d_Mo_keep_21 : decode prog_13_method_4_code 21 = .ok (.iload_n 1, 1) := by decide +kernel
theorem d_Mo_keep_22 : decode prog_13_method_4_code 22 = .ok (.aload_n 0, 1) := by decide +kernel
theorem d_Mo_keep_23 : decode prog_13_method_4_code 23 = .ok (.getfield 13, 3) := by decide +kernel
theorem d_Mo_keep_26 : decode prog_13_method_4_code 26 = .ok (.iload_n 1, 1) := by decide +kernel
theorem d_Mo_keep_27 : decode prog_13_method_4_code 27 = .ok (.sipush 482, 3) := by decide +kernel
theorem d_Mo_keep_30 : decode prog_13_method_4_code 30 = .ok (.iadd, 1) := by decide +kernel
theorem d_Mo_keep_31 : decode prog_13_method_4_code 31 = .ok (.iaload, 1) := by decide +kernel
theorem d_Mo_keep_32 : decode prog_13_method_4_code 32 = .ok (.iastore, 1) := by decide +kernel
theorem d_Mo_keep_33 : decode prog_13_method_4_code 33 = .ok (.iinc 1 1, 3) := by decide +kernel
theorem d_Mo_keep_36 : decode prog_13_method_4_code 36 = .ok (.goto (-26), 3) := by decide +kernel
theorem d_Mo_keep_39 : decode prog_13_method_4_code 39 = .ok (.aload_n 0, 1) := by decide +kernel
theorem d_Mo_keep_40 : decode prog_13_method_4_code 40 = .ok (.dup, 1) := by decide +kernel
theorem d_Mo_keep_41 : decode prog_13_method_4_code 41 = .ok (.getfield 56, 3) := by decide +kernel
theorem d_Mo_keep_44 : decode prog_13_method_4_code 44 = .ok (.iconst 1, 1) := by decide +kernel
theorem d_Mo_keep_45 : decode prog_13_method_4_code 45 = .ok (.isub, 1) := by decide +kernel
theorem d_Mo_keep_46 : decode prog_13_method_4_code 46 = .ok (.putfield 56, 3) := by decide +kernel
theorem d_Mo_keep_49 : decode prog_13_method_4_code 49 = .ok (.iconst 0, 1) := by decide +kernel
theorem d_Mo_keep_50 : decode prog_13_method_4_code 50 = .ok (.istore_n 1, 1) := by decide +kernel
theorem d_Mo_keep_51 : decode prog_13_method_4_code 51 = .ok (.iload_n 1, 1) := by decide +kernel
theorem d_Mo_keep_52 : decode prog_13_method_4_code 52 = .ok (.sipush 482, 3) := by decide +kernel
theorem d_Mo_keep_55 : decode prog_13_method_4_code 55 = .ok (.if_icmp .ge 30, 3) := by decide +kernel
theorem d_Mo_keep_58 : decode prog_13_method_4_code 58 = .ok (.aload_n 0, 1) := by decide +kernel
theorem d_Mo_keep_59 : decode prog_13_method_4_code 59 = .ok (.getfield 13, 3) := by decide +kernel
theorem d_Mo_keep_62 : decode prog_13_method_4_code 62 = .ok (.sipush 482, 3) := by decide +kernel
theorem d_Mo_keep_65 : decode prog_13_method_4_code 65 = .ok (.aload_n 0, 1) := by decide +kernel
theorem d_Mo_keep_66 : decode prog_13_method_4_code 66 = .ok (.getfield 56, 3) := by decide +kernel
theorem d_Mo_keep_69 : decode prog_13_method_4_code 69 = .ok (.imul, 1) := by decide +kernel
theorem d_Mo_keep_70 : decode prog_13_method_4_code 70 = .ok (.iload_n 1, 1) := by decide +kernel
theorem d_Mo_keep_71 : decode prog_13_method_4_code 71 = .ok (.iadd, 1) := by decide +kernel
theorem d_Mo_keep_72 : decode prog_13_method_4_code 72 = .ok (.aload_n 0, 1) := by decide +kernel
theorem d_Mo_keep_73 : decode prog_13_method_4_code 73 = .ok (.getfield 7, 3) := by decide +kernel
theorem d_Mo_keep_76 : decode prog_13_method_4_code 76 = .ok (.iload_n 1, 1) := by decide +kernel
theorem d_Mo_keep_77 : decode prog_13_method_4_code 77 = .ok (.iaload, 1) := by decide +kernel
theorem d_Mo_keep_78 : decode prog_13_method_4_code 78 = .ok (.iastore, 1) := by decide +kernel
theorem d_Mo_keep_79 : decode prog_13_method_4_code 79 = .ok (.iinc 1 1, 3) := by decide +kernel
theorem d_Mo_keep_82 : decode prog_13_method_4_code 82 = .ok (.goto (-31), 3) := by decide +kernel
theorem d_Mo_keep_85 : decode prog_13_method_4_code 85 = .ok (.aload_n 0, 1) := by decide +kernel
theorem d_Mo_keep_86 : decode prog_13_method_4_code 86 = .ok (.dup, 1) := by decide +kernel
theorem d_Mo_keep_87 : decode prog_13_method_4_code 87 = .ok (.getfield 56, 3) := by decide +kernel
theorem d_Mo_keep_90 : decode prog_13_method_4_code 90 = .ok (.iconst 1, 1) := by decide +kernel
theorem d_Mo_keep_91 : decode prog_13_method_4_code 91 = .ok (.iadd, 1) := by decide +kernel
theorem d_Mo_keep_92 : decode prog_13_method_4_code 92 = .ok (.putfield 56, 3) := by decide +kernel
theorem d_Mo_keep_95 : decode prog_13_method_4_code 95 = .ok (.return_, 1) := by decide +kernel
def b_Mo_keep_51 (F : Nat) (k51 : Nat → Int32 → PH → Option PH) (a0 : Nat) (i1 : Int32) (h : PH) : Option PH :=
  (if (482 : Int32) ≤ i1 then bnd (gI h a0 10 2) fun x1 => bnd (pV h a0 10 2 (.int (x1 + (1 : Int32)))) fun h2 => some h2 else bnd (gR h a0 10 1) fun x3 => bnd (gI h a0 10 2) fun x4 => bnd (gR h a0 10 0) fun x5 => bnd (aI h x5 i1) fun x6 => bnd (sI h x3 (((482 : Int32) * x4) + i1) x6) fun h7 => k51 a0 (i1 + (1 : Int32)) h7)
def f_Mo_keep_51 (F : Nat) : Nat → Nat → Int32 → PH → Option PH
  | 0 => fun _ _ _ => none
  | n + 1 => b_Mo_keep_51 F (f_Mo_keep_51 F n)
theorem g_Mo_keep_51 {l : Launch} {E : ET} {d : Nat} (hd : 1 ≤ d) {F : Nat} {h9 : PH} {x : Nat} {k51 : Nat → Int32 → PH → Option PH} (hk51 : ∀ (a0 : Nat) (i1 : Int32) (hh : PH), k51 a0 i1 hh = some h9 → Go l E m_Mo_keep (rm d 0 0) (KM E 0 0 (PoE none h9 x)) 0 0 hh x 51 [(0, .ref a0), (1, .int i1)] []) (a0 : Nat) (i1 : Int32) (h : PH) (hf : b_Mo_keep_51 F k51 a0 i1 h = some h9) : Go l E m_Mo_keep (rm d 0 0) (KM E 0 0 (PoE none h9 x)) 0 0 h x 51 [(0, .ref a0), (1, .int i1)] [] := by
  unfold b_Mo_keep_51 at hf
  refine go_iload_n 1 d_Mo_keep_51 rfl ?_
  refine go_sipush (482 : Int32) d_Mo_keep_52 (by decide) ?_
  refine go_icmp_ge 85 d_Mo_keep_55 (by decide) (fun q8 => ?_) (fun q8 => ?_)
  · rw [if_pos q8] at hf
    refine go_aload_n 0 d_Mo_keep_85 rfl ?_
    refine go_dup d_Mo_keep_86 rfl ?_
    obtain ⟨x1, e_x1, hf⟩ := bnd_x hf
    refine go_get d_Mo_keep_87 (gI_x e_x1) fl_Mo_56 ?_
    refine go_iconst (1 : Int32) d_Mo_keep_90 (by decide) ?_
    refine go_iadd d_Mo_keep_91 ?_
    obtain ⟨h2, e_h2, hf⟩ := bnd_x hf
    refine go_putI d_Mo_keep_92 e_h2 fl_Mo_56 rfl rfl ?_
    have e9 := Option.some.inj hf
    subst e9
    exact go_vret d_Mo_keep_95 rfl ⟨rfl, rfl, rfl⟩
  · rw [if_neg q8] at hf
    refine go_aload_n 0 d_Mo_keep_58 rfl ?_
    obtain ⟨x3, e_x3, hf⟩ := bnd_x hf
    refine go_get d_Mo_keep_59 (gR_x e_x3) fl_Mo_13 ?_
    refine go_sipush (482 : Int32) d_Mo_keep_62 (by decide) ?_
    refine go_aload_n 0 d_Mo_keep_65 rfl ?_
    obtain ⟨x4, e_x4, hf⟩ := bnd_x hf
    refine go_get d_Mo_keep_66 (gI_x e_x4) fl_Mo_56 ?_
    refine go_imul d_Mo_keep_69 ?_
    refine go_iload_n 1 d_Mo_keep_70 rfl ?_
    refine go_iadd d_Mo_keep_71 ?_
    refine go_aload_n 0 d_Mo_keep_72 rfl ?_
    obtain ⟨x5, e_x5, hf⟩ := bnd_x hf
    refine go_get d_Mo_keep_73 (gR_x e_x5) fl_Mo_7 ?_
    refine go_iload_n 1 d_Mo_keep_76 rfl ?_
    obtain ⟨x6, e_x6, hf⟩ := bnd_x hf
    refine go_iaload d_Mo_keep_77 e_x6 ?_
    obtain ⟨h7, e_h7, hf⟩ := bnd_x hf
    refine go_iastore d_Mo_keep_78 e_h7 ?_
    refine go_iinc (lv' := [(1, .int (i1 + (1 : Int32))), (0, .ref a0)]) 1 (i1 + (1 : Int32)) d_Mo_keep_79 rfl rfl rfl (by decide) ?_
    refine go_goto 51 d_Mo_keep_82 (by decide) ?_
    refine go_sub (lv' := [(0, .ref a0), (1, .int (i1 + (1 : Int32)))]) [1, 0] rfl ?_
    exact hk51 a0 (i1 + (1 : Int32)) h7 hf
theorem t_Mo_keep_51 {l : Launch} {E : ET} {d : Nat} (hd : 1 ≤ d) {F : Nat} {h9 : PH} {x : Nat}  : ∀ (n : Nat) (a0 : Nat) (i1 : Int32) (hh : PH), f_Mo_keep_51 F n a0 i1 hh = some h9 → Go l E m_Mo_keep (rm d 0 0) (KM E 0 0 (PoE none h9 x)) 0 0 hh x 51 [(0, .ref a0), (1, .int i1)] [] := by
  intro n
  induction n with
  | zero => intro v0 v1 v2 hf; cases hf
  | succ n ih => intro v0 v1 v2 hf; exact g_Mo_keep_51 hd ih v0 v1 v2 hf
def b_Mo_keep_49 (F : Nat) (a0 : Nat) (h : PH) : Option PH :=
  f_Mo_keep_51 F F a0 (0 : Int32) h
theorem g_Mo_keep_49 {l : Launch} {E : ET} {d : Nat} (hd : 1 ≤ d) {F : Nat} {h9 : PH} {x : Nat}  (a0 : Nat) (h : PH) (hf : b_Mo_keep_49 F a0 h = some h9) : Go l E m_Mo_keep (rm d 0 0) (KM E 0 0 (PoE none h9 x)) 0 0 h x 49 [(0, .ref a0)] [] := by
  unfold b_Mo_keep_49 at hf
  refine go_iconst (0 : Int32) d_Mo_keep_49 (by decide) ?_
  refine go_istore_n (lv' := [(1, .int (0 : Int32)), (0, .ref a0)]) d_Mo_keep_50 rfl (by decide) ?_
  refine go_sub (lv' := [(0, .ref a0), (1, .int (0 : Int32))]) [1, 0] rfl ?_
  exact t_Mo_keep_51 hd  _ a0 (0 : Int32) h hf
def b_Mo_keep_10 (F : Nat) (k10 : Nat → Int32 → PH → Option PH) (a0 : Nat) (i1 : Int32) (h : PH) : Option PH :=
  (if (1446 : Int32) ≤ i1 then bnd (gI h a0 10 2) fun x1 => bnd (pV h a0 10 2 (.int (x1 - (1 : Int32)))) fun h2 => b_Mo_keep_49 F a0 h2 else bnd (gR h a0 10 1) fun x3 => bnd (gR h a0 10 1) fun x4 => bnd (aI h x4 (i1 + (482 : Int32))) fun x5 => bnd (sI h x3 i1 x5) fun h6 => k10 a0 (i1 + (1 : Int32)) h6)
def f_Mo_keep_10 (F : Nat) : Nat → Nat → Int32 → PH → Option PH
  | 0 => fun _ _ _ => none
  | n + 1 => b_Mo_keep_10 F (f_Mo_keep_10 F n)
theorem g_Mo_keep_10 {l : Launch} {E : ET} {d : Nat} (hd : 1 ≤ d) {F : Nat} {h9 : PH} {x : Nat} {k10 : Nat → Int32 → PH → Option PH} (hk10 : ∀ (a0 : Nat) (i1 : Int32) (hh : PH), k10 a0 i1 hh = some h9 → Go l E m_Mo_keep (rm d 0 0) (KM E 0 0 (PoE none h9 x)) 0 0 hh x 10 [(0, .ref a0), (1, .int i1)] []) (a0 : Nat) (i1 : Int32) (h : PH) (hf : b_Mo_keep_10 F k10 a0 i1 h = some h9) : Go l E m_Mo_keep (rm d 0 0) (KM E 0 0 (PoE none h9 x)) 0 0 h x 10 [(0, .ref a0), (1, .int i1)] [] := by
  unfold b_Mo_keep_10 at hf
  refine go_iload_n 1 d_Mo_keep_10 rfl ?_
  refine go_sipush (1446 : Int32) d_Mo_keep_11 (by decide) ?_
  refine go_icmp_ge 39 d_Mo_keep_14 (by decide) (fun q7 => ?_) (fun q7 => ?_)
  · rw [if_pos q7] at hf
    refine go_aload_n 0 d_Mo_keep_39 rfl ?_
    refine go_dup d_Mo_keep_40 rfl ?_
    obtain ⟨x1, e_x1, hf⟩ := bnd_x hf
    refine go_get d_Mo_keep_41 (gI_x e_x1) fl_Mo_56 ?_
    refine go_iconst (1 : Int32) d_Mo_keep_44 (by decide) ?_
    refine go_isub d_Mo_keep_45 ?_
    obtain ⟨h2, e_h2, hf⟩ := bnd_x hf
    refine go_putI d_Mo_keep_46 e_h2 fl_Mo_56 rfl rfl ?_
    refine go_sub (lv' := [(0, .ref a0)]) [0] rfl ?_
    exact g_Mo_keep_49 hd  a0 h2 hf
  · rw [if_neg q7] at hf
    refine go_aload_n 0 d_Mo_keep_17 rfl ?_
    obtain ⟨x3, e_x3, hf⟩ := bnd_x hf
    refine go_get d_Mo_keep_18 (gR_x e_x3) fl_Mo_13 ?_
    refine go_iload_n 1 d_Mo_keep_21 rfl ?_
    refine go_aload_n 0 d_Mo_keep_22 rfl ?_
    obtain ⟨x4, e_x4, hf⟩ := bnd_x hf
    refine go_get d_Mo_keep_23 (gR_x e_x4) fl_Mo_13 ?_
    refine go_iload_n 1 d_Mo_keep_26 rfl ?_
    refine go_sipush (482 : Int32) d_Mo_keep_27 (by decide) ?_
    refine go_iadd d_Mo_keep_30 ?_
    obtain ⟨x5, e_x5, hf⟩ := bnd_x hf
    refine go_iaload d_Mo_keep_31 e_x5 ?_
    obtain ⟨h6, e_h6, hf⟩ := bnd_x hf
    refine go_iastore d_Mo_keep_32 e_h6 ?_
    refine go_iinc (lv' := [(1, .int (i1 + (1 : Int32))), (0, .ref a0)]) 1 (i1 + (1 : Int32)) d_Mo_keep_33 rfl rfl rfl (by decide) ?_
    refine go_goto 10 d_Mo_keep_36 (by decide) ?_
    refine go_sub (lv' := [(0, .ref a0), (1, .int (i1 + (1 : Int32)))]) [1, 0] rfl ?_
    exact hk10 a0 (i1 + (1 : Int32)) h6 hf
theorem t_Mo_keep_10 {l : Launch} {E : ET} {d : Nat} (hd : 1 ≤ d) {F : Nat} {h9 : PH} {x : Nat}  : ∀ (n : Nat) (a0 : Nat) (i1 : Int32) (hh : PH), f_Mo_keep_10 F n a0 i1 hh = some h9 → Go l E m_Mo_keep (rm d 0 0) (KM E 0 0 (PoE none h9 x)) 0 0 hh x 10 [(0, .ref a0), (1, .int i1)] [] := by
  intro n
  induction n with
  | zero => intro v0 v1 v2 hf; cases hf
  | succ n ih => intro v0 v1 v2 hf; exact g_Mo_keep_10 hd ih v0 v1 v2 hf
def f_Mo_keep (F : Nat) (a0 : Nat) (h : PH) : Option PH :=
  bnd (gI h a0 10 2) fun x1 => (if x1 = (4 : Int32) then f_Mo_keep_10 F F a0 (0 : Int32) h else b_Mo_keep_49 F a0 h)
theorem g_Mo_keep_0 {l : Launch} {E : ET} {d : Nat} (hd : 1 ≤ d) {F : Nat} {h9 : PH} {x : Nat}  (a0 : Nat) (h : PH) (hf : f_Mo_keep F a0 h = some h9) : Go l E m_Mo_keep (rm d 0 0) (KM E 0 0 (PoE none h9 x)) 0 0 h x 0 [(0, .ref a0)] [] := by
  unfold f_Mo_keep at hf
  refine go_aload_n 0 d_Mo_keep_0 rfl ?_
  obtain ⟨x1, e_x1, hf⟩ := bnd_x hf
  refine go_get d_Mo_keep_1 (gI_x e_x1) fl_Mo_56 ?_
  refine go_iconst (4 : Int32) d_Mo_keep_4 (by decide) ?_
  refine go_icmp_ne 49 d_Mo_keep_5 (by decide) (fun q2 => ?_) (fun q2 => ?_)
  · rw [if_neg q2] at hf
    refine go_sub (lv' := [(0, .ref a0)]) [0] rfl ?_
    exact g_Mo_keep_49 hd  a0 h hf
  · rw [if_pos q2] at hf
    refine go_iconst (0 : Int32) d_Mo_keep_8 (by decide) ?_
    refine go_istore_n (lv' := [(1, .int (0 : Int32)), (0, .ref a0)]) d_Mo_keep_9 rfl (by decide) ?_
    refine go_sub (lv' := [(0, .ref a0), (1, .int (0 : Int32))]) [1, 0] rfl ?_
    exact t_Mo_keep_10 hd  _ a0 (0 : Int32) h hf
theorem c_Mo_keep {l : Launch} {E : ET} {d : Nat} (hd : 1 ≤ d) {F : Nat} {h9 : PH} {x : Nat} {a0 : Nat} {h : PH} (hf : f_Mo_keep F a0 h = some h9) : Fn l E m_Mo_keep d 0 0 [.ref a0] h x (PoE none h9 x) :=
  Fn.of (by decide +kernel) (Nat.le_of_ble_eq_true rfl) (g_Mo_keep_0 hd a0 h hf)
theorem d_Mo_change_0 : decode prog_13_method_5_code 0 = .ok (.aload_n 0, 1) := by decide +kernel
theorem d_Mo_change_1 : decode prog_13_method_5_code 1 = .ok (.invokevirtual 59, 3) := by decide +kernel
theorem d_Mo_change_4 : decode prog_13_method_5_code 4 = .ok (.aload_n 0, 1) := by decide +kernel
theorem d_Mo_change_5 : decode prog_13_method_5_code 5 = .ok (.getfield 7, 3) := by decide +kernel
theorem d_Mo_change_8 : decode prog_13_method_5_code 8 = .ok (.sipush 181, 3) := by decide +kernel
theorem d_Mo_change_11 : decode prog_13_method_5_code 11 = .ok (.iconst 0, 1) := by decide +kernel
theorem d_Mo_change_12 : decode prog_13_method_5_code 12 = .ok (.iastore, 1) := by decide +kernel
theorem d_Mo_change_13 : decode prog_13_method_5_code 13 = .ok (.return_, 1) := by decide +kernel
def f_Mo_change (F : Nat) (a0 : Nat) (h : PH) : Option PH :=
  bnd (cK h a0 10) fun _ => bnd (f_Mo_keep F a0 h) fun h2 => bnd (gR h2 a0 10 0) fun x3 => bnd (sI h2 x3 (181 : Int32) (0 : Int32)) fun h4 => some h4
theorem g_Mo_change_0 {l : Launch} {E : ET} {d : Nat} (hd : 2 ≤ d) {F : Nat} {h9 : PH} {x : Nat}  (a0 : Nat) (h : PH) (hf : f_Mo_change F a0 h = some h9) : Go l E m_Mo_change (rm d 0 0) (KM E 0 0 (PoE none h9 x)) 0 0 h x 0 [(0, .ref a0)] [] := by
  unfold f_Mo_change at hf
  refine go_aload_n 0 d_Mo_change_0 rfl ?_
  obtain ⟨_, e1, hf⟩ := bnd_x hf
  obtain ⟨h2, e_x2, hf⟩ := bnd_x hf
  refine go_callV_N (As := []) (st := []) (c_Mo_keep (d := d - 1) (by omega) e_x2) lk_Mo_59 rfl rfl e1 (by decide) rfl (rm_ok (by omega)) (Nat.le_of_ble_eq_true rfl) rm_c d_Mo_change_1 ?_
  refine go_aload_n 0 d_Mo_change_4 rfl ?_
  obtain ⟨x3, e_x3, hf⟩ := bnd_x hf
  refine go_get d_Mo_change_5 (gR_x e_x3) fl_Mo_7 ?_
  refine go_sipush (181 : Int32) d_Mo_change_8 (by decide) ?_
  refine go_iconst (0 : Int32) d_Mo_change_11 (by decide) ?_
  obtain ⟨h4, e_h4, hf⟩ := bnd_x hf
  refine go_iastore d_Mo_change_12 e_h4 ?_
  have e9 := Option.some.inj hf
  subst e9
  exact go_vret d_Mo_change_13 rfl ⟨rfl, rfl, rfl⟩
theorem c_Mo_change {l : Launch} {E : ET} {d : Nat} (hd : 2 ≤ d) {F : Nat} {h9 : PH} {x : Nat} {a0 : Nat} {h : PH} (hf : f_Mo_change F a0 h = some h9) : Fn l E m_Mo_change d 0 0 [.ref a0] h x (PoE none h9 x) :=
  Fn.of (by decide +kernel) (Nat.le_of_ble_eq_true rfl) (g_Mo_change_0 hd a0 h hf)
theorem d_Mo_isCell_0 : decode prog_13_method_6_code 0 = .ok (.iload_n 0, 1) := by decide +kernel
theorem d_Mo_isCell_1 : decode prog_13_method_6_code 1 = .ok (.iconst 0, 1) := by decide +kernel
theorem d_Mo_isCell_2 : decode prog_13_method_6_code 2 = .ok (.bipush 35, 2) := by decide +kernel
theorem d_Mo_isCell_4 : decode prog_13_method_6_code 4 = .ok (.invokestatic 62, 3) := by decide +kernel
theorem d_Mo_isCell_7 : decode prog_13_method_6_code 7 = .ok (.ireturn, 1) := by decide +kernel
def f_Mo_isCell (i0 : Int32) : Option Int32 :=
  bnd (f_Mo_in i0 (0 : Int32) (35 : Int32)) fun x1 => bnd (cZ x1) fun _ => some x1
theorem g_Mo_isCell_0 {l : Launch} {E : ET} {d : Nat} (hd : 2 ≤ d) {r : Int32} {h : PH} {x : Nat}  (i0 : Int32) (hf : f_Mo_isCell i0 = some r) : Go l E m_Mo_isCell (rm d 0 0) (KM E 0 0 (PoE (some (.int r)) h x)) 0 0 h x 0 [(0, .int i0)] [] := by
  unfold f_Mo_isCell at hf
  refine go_iload_n 0 d_Mo_isCell_0 rfl ?_
  refine go_iconst (0 : Int32) d_Mo_isCell_1 (by decide) ?_
  refine go_bipush (35 : Int32) d_Mo_isCell_2 (by decide) ?_
  obtain ⟨x1, e_x1, hf⟩ := bnd_x hf
  refine go_callS_I (As := [.int i0, .int (0 : Int32), .int (35 : Int32)]) (st := []) (c_Mo_in (d := d - 1) (by omega) e_x1) lk_Mo_62 rfl rfl (rm_ok (by omega)) (Nat.le_of_ble_eq_true rfl) rm_c d_Mo_isCell_4 ?_
  obtain ⟨_, e2, hf⟩ := bnd_x hf
  have e9 := Option.some.inj hf
  subst e9
  exact go_zret d_Mo_isCell_7 e2 rfl ⟨rfl, rfl, rfl⟩
theorem c_Mo_isCell {l : Launch} {E : ET} {d : Nat} (hd : 2 ≤ d) {r : Int32} {h : PH} {x : Nat} {i0 : Int32} (hf : f_Mo_isCell i0 = some r) : Fn l E m_Mo_isCell d 0 0 [.int i0] h x (PoE (some (.int r)) h x) :=
  Fn.of (by decide +kernel) (Nat.le_of_ble_eq_true rfl) (g_Mo_isCell_0 hd i0 hf)
theorem d_Mo_isDigit_0 : decode prog_13_method_7_code 0 = .ok (.iload_n 0, 1) := by decide +kernel
theorem d_Mo_isDigit_1 : decode prog_13_method_7_code 1 = .ok (.iconst 1, 1) := by decide +kernel
theorem d_Mo_isDigit_2 : decode prog_13_method_7_code 2 = .ok (.bipush 6, 2) := by decide +kernel
theorem d_Mo_isDigit_4 : decode prog_13_method_7_code 4 = .ok (.invokestatic 62, 3) := by decide +kernel
theorem d_Mo_isDigit_7 : decode prog_13_method_7_code 7 = .ok (.ireturn, 1) := by decide +kernel
def f_Mo_isDigit (i0 : Int32) : Option Int32 :=
  bnd (f_Mo_in i0 (1 : Int32) (6 : Int32)) fun x1 => bnd (cZ x1) fun _ => some x1
theorem g_Mo_isDigit_0 {l : Launch} {E : ET} {d : Nat} (hd : 2 ≤ d) {r : Int32} {h : PH} {x : Nat}  (i0 : Int32) (hf : f_Mo_isDigit i0 = some r) : Go l E m_Mo_isDigit (rm d 0 0) (KM E 0 0 (PoE (some (.int r)) h x)) 0 0 h x 0 [(0, .int i0)] [] := by
  unfold f_Mo_isDigit at hf
  refine go_iload_n 0 d_Mo_isDigit_0 rfl ?_
  refine go_iconst (1 : Int32) d_Mo_isDigit_1 (by decide) ?_
  refine go_bipush (6 : Int32) d_Mo_isDigit_2 (by decide) ?_
  obtain ⟨x1, e_x1, hf⟩ := bnd_x hf
  refine go_callS_I (As := [.int i0, .int (1 : Int32), .int (6 : Int32)]) (st := []) (c_Mo_in (d := d - 1) (by omega) e_x1) lk_Mo_62 rfl rfl (rm_ok (by omega)) (Nat.le_of_ble_eq_true rfl) rm_c d_Mo_isDigit_4 ?_
  obtain ⟨_, e2, hf⟩ := bnd_x hf
  have e9 := Option.some.inj hf
  subst e9
  exact go_zret d_Mo_isDigit_7 e2 rfl ⟨rfl, rfl, rfl⟩
theorem c_Mo_isDigit {l : Launch} {E : ET} {d : Nat} (hd : 2 ≤ d) {r : Int32} {h : PH} {x : Nat} {i0 : Int32} (hf : f_Mo_isDigit i0 = some r) : Fn l E m_Mo_isDigit d 0 0 [.int i0] h x (PoE (some (.int r)) h x) :=
  Fn.of (by decide +kernel) (Nat.le_of_ble_eq_true rfl) (g_Mo_isDigit_0 hd i0 hf)
theorem d_Mo_has_0 : decode prog_13_method_8_code 0 = .ok (.iload_n 0, 1) := by decide +kernel
theorem d_Mo_has_1 : decode prog_13_method_8_code 1 = .ok (.iload_n 1, 1) := by decide +kernel
theorem d_Mo_has_2 : decode prog_13_method_8_code 2 = .ok (.ishr, 1) := by decide +kernel
theorem d_Mo_has_3 : decode prog_13_method_8_code 3 = .ok (.iconst 1, 1) := by decide +kernel
theorem d_Mo_has_4 : decode prog_13_method_8_code 4 = .ok (.iand, 1) := by decide +kernel
theorem d_Mo_has_5 : decode prog_13_method_8_code 5 = .ok (.iconst 1, 1) := by decide +kernel
theorem d_Mo_has_6 : decode prog_13_method_8_code 6 = .ok (.if_icmp .ne 7, 3) := by decide +kernel
theorem d_Mo_has_9 : decode prog_13_method_8_code 9 = .ok (.iconst 1, 1) := by decide +kernel
theorem d_Mo_has_10 : decode prog_13_method_8_code 10 = .ok (.goto 4, 3) := by decide +kernel
theorem d_Mo_has_13 : decode prog_13_method_8_code 13 = .ok (.iconst 0, 1) := by decide +kernel
theorem d_Mo_has_14 : decode prog_13_method_8_code 14 = .ok (.ireturn, 1) := by decide +kernel
def f_Mo_has (i0 : Int32) (i1 : Int32) : Option Int32 :=
  (if ((i0 >>> (i1 &&& 31)) &&& (1 : Int32)) = (1 : Int32) then some (1 : Int32) else some (0 : Int32))
theorem g_Mo_has_0 {l : Launch} {E : ET} {d : Nat} (hd : 1 ≤ d) {r : Int32} {h : PH} {x : Nat}  (i0 : Int32) (i1 : Int32) (hf : f_Mo_has i0 i1 = some r) : Go l E m_Mo_has (rm d 0 0) (KM E 0 0 (PoE (some (.int r)) h x)) 0 0 h x 0 [(0, .int i0), (1, .int i1)] [] := by
  unfold f_Mo_has at hf
  refine go_iload_n 0 d_Mo_has_0 rfl ?_
  refine go_iload_n 1 d_Mo_has_1 rfl ?_
  refine go_ishr d_Mo_has_2 ?_
  refine go_iconst (1 : Int32) d_Mo_has_3 (by decide) ?_
  refine go_iand d_Mo_has_4 ?_
  refine go_iconst (1 : Int32) d_Mo_has_5 (by decide) ?_
  refine go_icmp_ne 13 d_Mo_has_6 (by decide) (fun q1 => ?_) (fun q1 => ?_)
  · rw [if_neg q1] at hf
    refine go_iconst (0 : Int32) d_Mo_has_13 (by decide) ?_
    have e9 := Option.some.inj hf
    subst e9
    exact go_zret d_Mo_has_14 rfl rfl ⟨rfl, rfl, rfl⟩
  · rw [if_pos q1] at hf
    refine go_iconst (1 : Int32) d_Mo_has_9 (by decide) ?_
    refine go_goto 14 d_Mo_has_10 (by decide) ?_
    have e9 := Option.some.inj hf
    subst e9
    exact go_zret d_Mo_has_14 rfl rfl ⟨rfl, rfl, rfl⟩
theorem c_Mo_has {l : Launch} {E : ET} {d : Nat} (hd : 1 ≤ d) {r : Int32} {h : PH} {x : Nat} {i0 : Int32} {i1 : Int32} (hf : f_Mo_has i0 i1 = some r) : Fn l E m_Mo_has d 0 0 [.int i0, .int i1] h x (PoE (some (.int r)) h x) :=
  Fn.of (by decide +kernel) (Nat.le_of_ble_eq_true rfl) (g_Mo_has_0 hd i0 i1 hf)
theorem d_Mo_size_0 : decode prog_13_method_9_code 0 = .ok (.iconst 0, 1) := by decide +kernel
theorem d_Mo_size_1 : decode prog_13_method_9_code 1 = .ok (.istore_n 1, 1) := by decide +kernel
theorem d_Mo_size_2 : decode prog_13_method_9_code 2 = .ok (.iload_n 0, 1) := by decide +kernel
theorem d_Mo_size_3 : decode prog_13_method_9_code 3 = .ok (.istore_n 2, 1) := by decide +kernel
theorem d_Mo_size_4 : decode prog_13_method_9_code 4 = .ok (.iload_n 2, 1) := by decide +kernel
theorem d_Mo_size_5 : decode prog_13_method_9_code 5 = .ok (.ifCond .eq 15, 3) := by decide +kernel
theorem d_Mo_size_8 : decode prog_13_method_9_code 8 = .ok (.iinc 1 1, 3) := by decide +kernel
theorem d_Mo_size_11 : decode prog_13_method_9_code 11 = .ok (.iload_n 2, 1) := by decide +kernel
theorem d_Mo_size_12 : decode prog_13_method_9_code 12 = .ok (.iload_n 2, 1) := by decide +kernel
theorem d_Mo_size_13 : decode prog_13_method_9_code 13 = .ok (.iconst 1, 1) := by decide +kernel
theorem d_Mo_size_14 : decode prog_13_method_9_code 14 = .ok (.isub, 1) := by decide +kernel
theorem d_Mo_size_15 : decode prog_13_method_9_code 15 = .ok (.iand, 1) := by decide +kernel
theorem d_Mo_size_16 : decode prog_13_method_9_code 16 = .ok (.istore_n 2, 1) := by decide +kernel
theorem d_Mo_size_17 : decode prog_13_method_9_code 17 = .ok (.goto (-13), 3) := by decide +kernel
theorem d_Mo_size_20 : decode prog_13_method_9_code 20 = .ok (.iload_n 1, 1) := by decide +kernel
theorem d_Mo_size_21 : decode prog_13_method_9_code 21 = .ok (.ireturn, 1) := by decide +kernel
def b_Mo_size_4 (F : Nat) (k4 : Int32 → Int32 → Option Int32) (i1 : Int32) (i2 : Int32) : Option Int32 :=
  (if i2 = (0 : Int32) then some i1 else bnd (some (i2 &&& (i2 - (1 : Int32)))) fun y1 => k4 (i1 + (1 : Int32)) y1)
def f_Mo_size_4 (F : Nat) : Nat → Int32 → Int32 → Option Int32
  | 0 => fun _ _ => none
  | n + 1 => b_Mo_size_4 F (f_Mo_size_4 F n)
theorem g_Mo_size_4 {l : Launch} {E : ET} {d : Nat} (hd : 1 ≤ d) {F : Nat} {r : Int32} {h : PH} {x : Nat} {k4 : Int32 → Int32 → Option Int32} (hk4 : ∀ (i1 : Int32) (i2 : Int32), k4 i1 i2 = some r → Go l E m_Mo_size (rm d 0 0) (KM E 0 0 (PoE (some (.int r)) h x)) 0 0 h x 4 [(1, .int i1), (2, .int i2)] []) (i1 : Int32) (i2 : Int32) (hf : b_Mo_size_4 F k4 i1 i2 = some r) : Go l E m_Mo_size (rm d 0 0) (KM E 0 0 (PoE (some (.int r)) h x)) 0 0 h x 4 [(1, .int i1), (2, .int i2)] [] := by
  unfold b_Mo_size_4 at hf
  refine go_iload_n 1 d_Mo_size_4 rfl ?_
  refine go_if_eq 20 d_Mo_size_5 (by decide) (fun q2 => ?_) (fun q2 => ?_)
  · rw [if_pos q2] at hf
    refine go_iload_n 0 d_Mo_size_20 rfl ?_
    have e9 := Option.some.inj hf
    subst e9
    exact go_iret d_Mo_size_21 rfl ⟨rfl, rfl, rfl⟩
  · rw [if_neg q2] at hf
    refine go_iinc (lv' := [(1, .int (i1 + (1 : Int32))), (2, .int i2)]) 0 (i1 + (1 : Int32)) d_Mo_size_8 rfl rfl rfl (by decide) ?_
    refine go_iload_n 1 d_Mo_size_11 rfl ?_
    refine go_iload_n 1 d_Mo_size_12 rfl ?_
    refine go_iconst (1 : Int32) d_Mo_size_13 (by decide) ?_
    refine go_isub d_Mo_size_14 ?_
    refine go_iand d_Mo_size_15 ?_
    obtain ⟨y1, e_y1, hf⟩ := bnd_x hf
    refine go_nmI e_y1 ?_
    refine go_istore_n (lv' := [(2, .int y1), (1, .int (i1 + (1 : Int32)))]) d_Mo_size_16 rfl (by decide) ?_
    refine go_goto 4 d_Mo_size_17 (by decide) ?_
    refine go_sub (lv' := [(1, .int (i1 + (1 : Int32))), (2, .int y1)]) [1, 0] rfl ?_
    exact hk4 (i1 + (1 : Int32)) y1 hf
theorem t_Mo_size_4 {l : Launch} {E : ET} {d : Nat} (hd : 1 ≤ d) {F : Nat} {r : Int32} {h : PH} {x : Nat}  : ∀ (n : Nat) (i1 : Int32) (i2 : Int32), f_Mo_size_4 F n i1 i2 = some r → Go l E m_Mo_size (rm d 0 0) (KM E 0 0 (PoE (some (.int r)) h x)) 0 0 h x 4 [(1, .int i1), (2, .int i2)] [] := by
  intro n
  induction n with
  | zero => intro v0 v1 hf; cases hf
  | succ n ih => intro v0 v1 hf; exact g_Mo_size_4 hd ih v0 v1 hf
def f_Mo_size (F : Nat) (i0 : Int32) : Option Int32 :=
  f_Mo_size_4 F F (0 : Int32) i0
theorem g_Mo_size_0 {l : Launch} {E : ET} {d : Nat} (hd : 1 ≤ d) {F : Nat} {r : Int32} {h : PH} {x : Nat}  (i0 : Int32) (hf : f_Mo_size F i0 = some r) : Go l E m_Mo_size (rm d 0 0) (KM E 0 0 (PoE (some (.int r)) h x)) 0 0 h x 0 [(0, .int i0)] [] := by
  unfold f_Mo_size at hf
  refine go_iconst (0 : Int32) d_Mo_size_0 (by decide) ?_
  refine go_istore_n (lv' := [(1, .int (0 : Int32)), (0, .int i0)]) d_Mo_size_1 rfl (by decide) ?_
  refine go_iload_n 1 d_Mo_size_2 rfl ?_
  refine go_istore_n (lv' := [(2, .int i0), (1, .int (0 : Int32)), (0, .int i0)]) d_Mo_size_3 rfl (by decide) ?_
  refine go_sub (lv' := [(1, .int (0 : Int32)), (2, .int i0)]) [1, 0] rfl ?_
  exact t_Mo_size_4 hd  _ (0 : Int32) i0  hf
theorem c_Mo_size {l : Launch} {E : ET} {d : Nat} (hd : 1 ≤ d) {F : Nat} {r : Int32} {h : PH} {x : Nat} {i0 : Int32} (hf : f_Mo_size F i0 = some r) : Fn l E m_Mo_size d 0 0 [.int i0] h x (PoE (some (.int r)) h x) :=
  Fn.of (by decide +kernel) (Nat.le_of_ble_eq_true rfl) (g_Mo_size_0 hd i0 hf)
theorem d_Mo_least_0 : decode prog_13_method_10_code 0 = .ok (.iconst 1, 1) := by decide +kernel
theorem d_Mo_least_1 : decode prog_13_method_10_code 1 = .ok (.istore_n 1, 1) := by decide +kernel
theorem d_Mo_least_2 : decode prog_13_method_10_code 2 = .ok (.iload_n 1, 1) := by decide +kernel
theorem d_Mo_least_3 : decode prog_13_method_10_code 3 = .ok (.bipush 7, 2) := by decide +kernel
theorem d_Mo_least_5 : decode prog_13_method_10_code 5 = .ok (.if_icmp .ge 17, 3) := by decide +kernel
theorem d_Mo_least_8 : decode prog_13_method_10_code 8 = .ok (.iload_n 0, 1) := by decide +kernel
theorem d_Mo_least_9 : decode prog_13_method_10_code 9 = .ok (.iload_n 1, 1) := by decide +kernel
theorem d_Mo_least_10 : decode prog_13_method_10_code 10 = .ok (.invokestatic 66, 3) := by decide +kernel
theorem d_Mo_least_13 : decode prog_13_method_10_code 13 = .ok (.ifCond .ne 9, 3) := by decide +kernel
theorem d_Mo_least_16 : decode prog_13_method_10_code 16 = .ok (.iinc 1 1, 3) := by decide +kernel
theorem d_Mo_least_19 : decode prog_13_method_10_code 19 = .ok (.goto (-17), 3) := by decide +kernel
theorem d_Mo_least_22 : decode prog_13_method_10_code 22 = .ok (.iload_n 1, 1) := by decide +kernel
theorem d_Mo_least_23 : decode prog_13_method_10_code 23 = .ok (.ireturn, 1) := by decide +kernel
def b_Mo_least_2 (F : Nat) (k2 : Int32 → Int32 → Option Int32) (i0 : Int32) (i1 : Int32) : Option Int32 :=
  (if (7 : Int32) ≤ i1 then some i1 else bnd (f_Mo_has i0 i1) fun x1 => (if x1 = (0 : Int32) then k2 i0 (i1 + (1 : Int32)) else some i1))
def f_Mo_least_2 (F : Nat) : Nat → Int32 → Int32 → Option Int32
  | 0 => fun _ _ => none
  | n + 1 => b_Mo_least_2 F (f_Mo_least_2 F n)
theorem g_Mo_least_2 {l : Launch} {E : ET} {d : Nat} (hd : 2 ≤ d) {F : Nat} {r : Int32} {h : PH} {x : Nat} {k2 : Int32 → Int32 → Option Int32} (hk2 : ∀ (i0 : Int32) (i1 : Int32), k2 i0 i1 = some r → Go l E m_Mo_least (rm d 0 0) (KM E 0 0 (PoE (some (.int r)) h x)) 0 0 h x 2 [(0, .int i0), (1, .int i1)] []) (i0 : Int32) (i1 : Int32) (hf : b_Mo_least_2 F k2 i0 i1 = some r) : Go l E m_Mo_least (rm d 0 0) (KM E 0 0 (PoE (some (.int r)) h x)) 0 0 h x 2 [(0, .int i0), (1, .int i1)] [] := by
  unfold b_Mo_least_2 at hf
  refine go_iload_n 1 d_Mo_least_2 rfl ?_
  refine go_bipush (7 : Int32) d_Mo_least_3 (by decide) ?_
  refine go_icmp_ge 22 d_Mo_least_5 (by decide) (fun q3 => ?_) (fun q3 => ?_)
  · rw [if_pos q3] at hf
    refine go_iload_n 1 d_Mo_least_22 rfl ?_
    have e9 := Option.some.inj hf
    subst e9
    exact go_iret d_Mo_least_23 rfl ⟨rfl, rfl, rfl⟩
  · rw [if_neg q3] at hf
    refine go_iload_n 0 d_Mo_least_8 rfl ?_
    refine go_iload_n 1 d_Mo_least_9 rfl ?_
    obtain ⟨x1, e_x1, hf⟩ := bnd_x hf
    refine go_callS_I (As := [.int i0, .int i1]) (st := []) (c_Mo_has (d := d - 1) (by omega) e_x1) lk_Mo_66 rfl rfl (rm_ok (by omega)) (Nat.le_of_ble_eq_true rfl) rm_c d_Mo_least_10 ?_
    refine go_if_ne 22 d_Mo_least_13 (by decide) (fun q2 => ?_) (fun q2 => ?_)
    · rw [if_neg q2] at hf
      refine go_iload_n 1 d_Mo_least_22 rfl ?_
      have e9 := Option.some.inj hf
      subst e9
      exact go_iret d_Mo_least_23 rfl ⟨rfl, rfl, rfl⟩
    · rw [if_pos q2] at hf
      refine go_iinc (lv' := [(1, .int (i1 + (1 : Int32))), (0, .int i0)]) 1 (i1 + (1 : Int32)) d_Mo_least_16 rfl rfl rfl (by decide) ?_
      refine go_goto 2 d_Mo_least_19 (by decide) ?_
      refine go_sub (lv' := [(0, .int i0), (1, .int (i1 + (1 : Int32)))]) [1, 0] rfl ?_
      exact hk2 i0 (i1 + (1 : Int32)) hf
theorem t_Mo_least_2 {l : Launch} {E : ET} {d : Nat} (hd : 2 ≤ d) {F : Nat} {r : Int32} {h : PH} {x : Nat}  : ∀ (n : Nat) (i0 : Int32) (i1 : Int32), f_Mo_least_2 F n i0 i1 = some r → Go l E m_Mo_least (rm d 0 0) (KM E 0 0 (PoE (some (.int r)) h x)) 0 0 h x 2 [(0, .int i0), (1, .int i1)] [] := by
  intro n
  induction n with
  | zero => intro v0 v1 hf; cases hf
  | succ n ih => intro v0 v1 hf; exact g_Mo_least_2 hd ih v0 v1 hf
def f_Mo_least (F : Nat) (i0 : Int32) : Option Int32 :=
  f_Mo_least_2 F F i0 (1 : Int32)
theorem g_Mo_least_0 {l : Launch} {E : ET} {d : Nat} (hd : 2 ≤ d) {F : Nat} {r : Int32} {h : PH} {x : Nat}  (i0 : Int32) (hf : f_Mo_least F i0 = some r) : Go l E m_Mo_least (rm d 0 0) (KM E 0 0 (PoE (some (.int r)) h x)) 0 0 h x 0 [(0, .int i0)] [] := by
  unfold f_Mo_least at hf
  refine go_iconst (1 : Int32) d_Mo_least_0 (by decide) ?_
  refine go_istore_n (lv' := [(1, .int (1 : Int32)), (0, .int i0)]) d_Mo_least_1 rfl (by decide) ?_
  refine go_sub (lv' := [(0, .int i0), (1, .int (1 : Int32))]) [1, 0] rfl ?_
  exact t_Mo_least_2 hd  _ i0 (1 : Int32)  hf
theorem c_Mo_least {l : Launch} {E : ET} {d : Nat} (hd : 2 ≤ d) {F : Nat} {r : Int32} {h : PH} {x : Nat} {i0 : Int32} (hf : f_Mo_least F i0 = some r) : Fn l E m_Mo_least d 0 0 [.int i0] h x (PoE (some (.int r)) h x) :=
  Fn.of (by decide +kernel) (Nat.le_of_ble_eq_true rfl) (g_Mo_least_0 hd i0 hf)
theorem d_Mo_greatest_0 : decode prog_13_method_11_code 0 = .ok (.bipush 6, 2) := by decide +kernel
theorem d_Mo_greatest_2 : decode prog_13_method_11_code 2 = .ok (.istore_n 1, 1) := by decide +kernel
theorem d_Mo_greatest_3 : decode prog_13_method_11_code 3 = .ok (.iload_n 1, 1) := by decide +kernel
theorem d_Mo_greatest_4 : decode prog_13_method_11_code 4 = .ok (.ifCond .le 17, 3) := by decide +kernel
theorem d_Mo_greatest_7 : decode prog_13_method_11_code 7 = .ok (.iload_n 0, 1) := by decide +kernel
theorem d_Mo_greatest_8 : decode prog_13_method_11_code 8 = .ok (.iload_n 1, 1) := by decide +kernel
theorem d_Mo_greatest_9 : decode prog_13_method_11_code 9 = .ok (.invokestatic 66, 3) := by decide +kernel
theorem d_Mo_greatest_12 : decode prog_13_method_11_code 12 = .ok (.ifCond .ne 9, 3) := by decide +kernel
theorem d_Mo_greatest_15 : decode prog_13_method_11_code 15 = .ok (.iinc 1 (-1), 3) := by decide +kernel
theorem d_Mo_greatest_18 : decode prog_13_method_11_code 18 = .ok (.goto (-15), 3) := by decide +kernel
theorem d_Mo_greatest_21 : decode prog_13_method_11_code 21 = .ok (.iload_n 1, 1) := by decide +kernel
theorem d_Mo_greatest_22 : decode prog_13_method_11_code 22 = .ok (.ireturn, 1) := by decide +kernel
def b_Mo_greatest_3 (F : Nat) (k3 : Int32 → Int32 → Option Int32) (i0 : Int32) (i1 : Int32) : Option Int32 :=
  (if i1 ≤ (0 : Int32) then some i1 else bnd (f_Mo_has i0 i1) fun x1 => (if x1 = (0 : Int32) then k3 i0 (i1 + (-1 : Int32)) else some i1))
def f_Mo_greatest_3 (F : Nat) : Nat → Int32 → Int32 → Option Int32
  | 0 => fun _ _ => none
  | n + 1 => b_Mo_greatest_3 F (f_Mo_greatest_3 F n)
theorem g_Mo_greatest_3 {l : Launch} {E : ET} {d : Nat} (hd : 2 ≤ d) {F : Nat} {r : Int32} {h : PH} {x : Nat} {k3 : Int32 → Int32 → Option Int32} (hk3 : ∀ (i0 : Int32) (i1 : Int32), k3 i0 i1 = some r → Go l E m_Mo_greatest (rm d 0 0) (KM E 0 0 (PoE (some (.int r)) h x)) 0 0 h x 3 [(0, .int i0), (1, .int i1)] []) (i0 : Int32) (i1 : Int32) (hf : b_Mo_greatest_3 F k3 i0 i1 = some r) : Go l E m_Mo_greatest (rm d 0 0) (KM E 0 0 (PoE (some (.int r)) h x)) 0 0 h x 3 [(0, .int i0), (1, .int i1)] [] := by
  unfold b_Mo_greatest_3 at hf
  refine go_iload_n 1 d_Mo_greatest_3 rfl ?_
  refine go_if_le 21 d_Mo_greatest_4 (by decide) (fun q3 => ?_) (fun q3 => ?_)
  · rw [if_pos q3] at hf
    refine go_iload_n 1 d_Mo_greatest_21 rfl ?_
    have e9 := Option.some.inj hf
    subst e9
    exact go_iret d_Mo_greatest_22 rfl ⟨rfl, rfl, rfl⟩
  · rw [if_neg q3] at hf
    refine go_iload_n 0 d_Mo_greatest_7 rfl ?_
    refine go_iload_n 1 d_Mo_greatest_8 rfl ?_
    obtain ⟨x1, e_x1, hf⟩ := bnd_x hf
    refine go_callS_I (As := [.int i0, .int i1]) (st := []) (c_Mo_has (d := d - 1) (by omega) e_x1) lk_Mo_66 rfl rfl (rm_ok (by omega)) (Nat.le_of_ble_eq_true rfl) rm_c d_Mo_greatest_9 ?_
    refine go_if_ne 21 d_Mo_greatest_12 (by decide) (fun q2 => ?_) (fun q2 => ?_)
    · rw [if_neg q2] at hf
      refine go_iload_n 1 d_Mo_greatest_21 rfl ?_
      have e9 := Option.some.inj hf
      subst e9
      exact go_iret d_Mo_greatest_22 rfl ⟨rfl, rfl, rfl⟩
    · rw [if_pos q2] at hf
      refine go_iinc (lv' := [(1, .int (i1 + (-1 : Int32))), (0, .int i0)]) 1 (i1 + (-1 : Int32)) d_Mo_greatest_15 rfl rfl rfl (by decide) ?_
      refine go_goto 3 d_Mo_greatest_18 (by decide) ?_
      refine go_sub (lv' := [(0, .int i0), (1, .int (i1 + (-1 : Int32)))]) [1, 0] rfl ?_
      exact hk3 i0 (i1 + (-1 : Int32)) hf
theorem t_Mo_greatest_3 {l : Launch} {E : ET} {d : Nat} (hd : 2 ≤ d) {F : Nat} {r : Int32} {h : PH} {x : Nat}  : ∀ (n : Nat) (i0 : Int32) (i1 : Int32), f_Mo_greatest_3 F n i0 i1 = some r → Go l E m_Mo_greatest (rm d 0 0) (KM E 0 0 (PoE (some (.int r)) h x)) 0 0 h x 3 [(0, .int i0), (1, .int i1)] [] := by
  intro n
  induction n with
  | zero => intro v0 v1 hf; cases hf
  | succ n ih => intro v0 v1 hf; exact g_Mo_greatest_3 hd ih v0 v1 hf
def f_Mo_greatest (F : Nat) (i0 : Int32) : Option Int32 :=
  f_Mo_greatest_3 F F i0 (6 : Int32)
theorem g_Mo_greatest_0 {l : Launch} {E : ET} {d : Nat} (hd : 2 ≤ d) {F : Nat} {r : Int32} {h : PH} {x : Nat}  (i0 : Int32) (hf : f_Mo_greatest F i0 = some r) : Go l E m_Mo_greatest (rm d 0 0) (KM E 0 0 (PoE (some (.int r)) h x)) 0 0 h x 0 [(0, .int i0)] [] := by
  unfold f_Mo_greatest at hf
  refine go_bipush (6 : Int32) d_Mo_greatest_0 (by decide) ?_
  refine go_istore_n (lv' := [(1, .int (6 : Int32)), (0, .int i0)]) d_Mo_greatest_2 rfl (by decide) ?_
  refine go_sub (lv' := [(0, .int i0), (1, .int (6 : Int32))]) [1, 0] rfl ?_
  exact t_Mo_greatest_3 hd  _ i0 (6 : Int32)  hf
theorem c_Mo_greatest {l : Launch} {E : ET} {d : Nat} (hd : 2 ≤ d) {F : Nat} {r : Int32} {h : PH} {x : Nat} {i0 : Int32} (hf : f_Mo_greatest F i0 = some r) : Fn l E m_Mo_greatest d 0 0 [.int i0] h x (PoE (some (.int r)) h x) :=
  Fn.of (by decide +kernel) (Nat.le_of_ble_eq_true rfl) (g_Mo_greatest_0 hd i0 hf)
theorem d_Mo_boxOf_0 : decode prog_13_method_12_code 0 = .ok (.iconst 2, 1) := by decide +kernel
theorem d_Mo_boxOf_1 : decode prog_13_method_12_code 1 = .ok (.iload_n 0, 1) := by decide +kernel
theorem d_Mo_boxOf_2 : decode prog_13_method_12_code 2 = .ok (.bipush 12, 2) := by decide +kernel
theorem d_Mo_boxOf_4 : decode prog_13_method_12_code 4 = .ok (.idiv, 1) := by decide +kernel
theorem d_Mo_boxOf_5 : decode prog_13_method_12_code 5 = .ok (.imul, 1) := by decide +kernel
theorem d_Mo_boxOf_6 : decode prog_13_method_12_code 6 = .ok (.iload_n 0, 1) := by decide +kernel
theorem d_Mo_boxOf_7 : decode prog_13_method_12_code 7 = .ok (.bipush 6, 2) := by decide +kernel
theorem d_Mo_boxOf_9 : decode prog_13_method_12_code 9 = .ok (.irem, 1) := by decide +kernel
theorem d_Mo_boxOf_10 : decode prog_13_method_12_code 10 = .ok (.iconst 3, 1) := by decide +kernel
theorem d_Mo_boxOf_11 : decode prog_13_method_12_code 11 = .ok (.idiv, 1) := by decide +kernel
theorem d_Mo_boxOf_12 : decode prog_13_method_12_code 12 = .ok (.iadd, 1) := by decide +kernel
theorem d_Mo_boxOf_13 : decode prog_13_method_12_code 13 = .ok (.ireturn, 1) := by decide +kernel
def f_Mo_boxOf (i0 : Int32) : Option Int32 :=
  some (((2 : Int32) * (i0 / (12 : Int32))) + ((i0 - i0 / (6 : Int32) * (6 : Int32)) / (3 : Int32)))
theorem g_Mo_boxOf_0 {l : Launch} {E : ET} {d : Nat} (hd : 1 ≤ d) {r : Int32} {h : PH} {x : Nat}  (i0 : Int32) (hf : f_Mo_boxOf i0 = some r) : Go l E m_Mo_boxOf (rm d 0 0) (KM E 0 0 (PoE (some (.int r)) h x)) 0 0 h x 0 [(0, .int i0)] [] := by
  unfold f_Mo_boxOf at hf
  refine go_iconst (2 : Int32) d_Mo_boxOf_0 (by decide) ?_
  refine go_iload_n 0 d_Mo_boxOf_1 rfl ?_
  refine go_bipush (12 : Int32) d_Mo_boxOf_2 (by decide) ?_
  refine go_idiv d_Mo_boxOf_4 (by decide) ?_
  refine go_imul d_Mo_boxOf_5 ?_
  refine go_iload_n 0 d_Mo_boxOf_6 rfl ?_
  refine go_bipush (6 : Int32) d_Mo_boxOf_7 (by decide) ?_
  refine go_irem d_Mo_boxOf_9 (by decide) ?_
  refine go_iconst (3 : Int32) d_Mo_boxOf_10 (by decide) ?_
  refine go_idiv d_Mo_boxOf_11 (by decide) ?_
  refine go_iadd d_Mo_boxOf_12 ?_
  have e9 := Option.some.inj hf
  subst e9
  exact go_iret d_Mo_boxOf_13 rfl ⟨rfl, rfl, rfl⟩
theorem c_Mo_boxOf {l : Launch} {E : ET} {d : Nat} (hd : 1 ≤ d) {r : Int32} {h : PH} {x : Nat} {i0 : Int32} (hf : f_Mo_boxOf i0 = some r) : Fn l E m_Mo_boxOf d 0 0 [.int i0] h x (PoE (some (.int r)) h x) :=
  Fn.of (by decide +kernel) (Nat.le_of_ble_eq_true rfl) (g_Mo_boxOf_0 hd i0 hf)
theorem d_Mo_isIn_0 : decode prog_13_method_13_code 0 = .ok (.iload_n 0, 1) := by decide +kernel
theorem d_Mo_isIn_1 : decode prog_13_method_13_code 1 = .ok (.bipush 6, 2) := by decide +kernel
theorem d_Mo_isIn_3 : decode prog_13_method_13_code 3 = .ok (.if_icmp .ge 19, 3) := by decide +kernel
theorem d_Mo_isIn_6 : decode prog_13_method_13_code 6 = .ok (.iload_n 1, 1) := by decide +kernel
theorem d_Mo_isIn_7 : decode prog_13_method_13_code 7 = .ok (.bipush 6, 2) := by decide +kernel
theorem d_Mo_isIn_9 : decode prog_13_method_13_code 9 = .ok (.idiv, 1) := by decide +kernel
theorem d_Mo_isIn_10 : decode prog_13_method_13_code 10 = .ok (.iload_n 0, 1) := by decide +kernel
theorem d_Mo_isIn_11 : decode prog_13_method_13_code 11 = .ok (.if_icmp .ne 7, 3) := by decide +kernel
theorem d_Mo_isIn_14 : decode prog_13_method_13_code 14 = .ok (.iconst 1, 1) := by decide +kernel
theorem d_Mo_isIn_15 : decode prog_13_method_13_code 15 = .ok (.goto 48, 3) := by decide +kernel
theorem d_Mo_isIn_18 : decode prog_13_method_13_code 18 = .ok (.iconst 0, 1) := by decide +kernel
theorem d_Mo_isIn_19 : decode prog_13_method_13_code 19 = .ok (.goto 44, 3) := by decide +kernel
theorem d_Mo_isIn_22 : decode prog_13_method_13_code 22 = .ok (.iload_n 0, 1) := by decide +kernel
theorem d_Mo_isIn_23 : decode prog_13_method_13_code 23 = .ok (.bipush 12, 2) := by decide +kernel
theorem d_Mo_isIn_25 : decode prog_13_method_13_code 25 = .ok (.if_icmp .ge 22, 3) := by decide +kernel
theorem d_Mo_isIn_28 : decode prog_13_method_13_code 28 = .ok (.iload_n 1, 1) := by decide +kernel
theorem d_Mo_isIn_29 : decode prog_13_method_13_code 29 = .ok (.bipush 6, 2) := by decide +kernel
theorem d_Mo_isIn_31 : decode prog_13_method_13_code 31 = .ok (.irem, 1) := by decide +kernel
theorem d_Mo_isIn_32 : decode prog_13_method_13_code 32 = .ok (.iload_n 0, 1) := by decide +kernel
theorem d_Mo_isIn_33 : decode prog_13_method_13_code 33 = .ok (.bipush 6, 2) := by decide +kernel
theorem d_Mo_isIn_35 : decode prog_13_method_13_code 35 = .ok (.isub, 1) := by decide +kernel
theorem d_Mo_isIn_36 : decode prog_13_method_13_code 36 = .ok (.if_icmp .ne 7, 3) := by decide +kernel
theorem d_Mo_isIn_39 : decode prog_13_method_13_code 39 = .ok (.iconst 1, 1) := by decide +kernel
theorem d_Mo_isIn_40 : decode prog_13_method_13_code 40 = .ok (.goto 23, 3) := by decide +kernel
theorem d_Mo_isIn_43 : decode prog_13_method_13_code 43 = .ok (.iconst 0, 1) := by decide +kernel
theorem d_Mo_isIn_44 : decode prog_13_method_13_code 44 = .ok (.goto 19, 3) := by decide +kernel
theorem d_Mo_isIn_47 : decode prog_13_method_13_code 47 = .ok (.iload_n 1, 1) := by decide +kernel
theorem d_Mo_isIn_48 : decode prog_13_method_13_code 48 = .ok (.invokestatic 70, 3) := by decide +kernel
theorem d_Mo_isIn_51 : decode prog_13_method_13_code 51 = .ok (.iload_n 0, 1) := by decide +kernel
theorem d_Mo_isIn_52 : decode prog_13_method_13_code 52 = .ok (.bipush 12, 2) := by decide +kernel
theorem d_Mo_isIn_54 : decode prog_13_method_13_code 54 = .ok (.isub, 1) := by decide +kernel
theorem d_Mo_isIn_55 : decode prog_13_method_13_code 55 = .ok (.if_icmp .ne 7, 3) := by decide +kernel
theorem d_Mo_isIn_58 : decode prog_13_method_13_code 58 = .ok (.iconst 1, 1) := by decide +kernel
theorem d_Mo_isIn_59 : decode prog_13_method_13_code 59 = .ok (.goto 4, 3) := by decide +kernel
theorem d_Mo_isIn_62 : decode prog_13_method_13_code 62 = .ok (.iconst 0, 1) := by decide +kernel
theorem d_Mo_isIn_63 : decode prog_13_method_13_code 63 = .ok (.ireturn, 1) := by decide +kernel
def f_Mo_isIn (i0 : Int32) (i1 : Int32) : Option Int32 :=
  (if (6 : Int32) ≤ i0 then (if (12 : Int32) ≤ i0 then bnd (f_Mo_boxOf i1) fun x1 => (if x1 = (i0 - (12 : Int32)) then some (1 : Int32) else some (0 : Int32)) else (if (i1 - i1 / (6 : Int32) * (6 : Int32)) = (i0 - (6 : Int32)) then some (1 : Int32) else some (0 : Int32))) else (if (i1 / (6 : Int32)) = i0 then some (1 : Int32) else some (0 : Int32)))
theorem g_Mo_isIn_0 {l : Launch} {E : ET} {d : Nat} (hd : 2 ≤ d) {r : Int32} {h : PH} {x : Nat}  (i0 : Int32) (i1 : Int32) (hf : f_Mo_isIn i0 i1 = some r) : Go l E m_Mo_isIn (rm d 0 0) (KM E 0 0 (PoE (some (.int r)) h x)) 0 0 h x 0 [(0, .int i0), (1, .int i1)] [] := by
  unfold f_Mo_isIn at hf
  refine go_iload_n 0 d_Mo_isIn_0 rfl ?_
  refine go_bipush (6 : Int32) d_Mo_isIn_1 (by decide) ?_
  refine go_icmp_ge 22 d_Mo_isIn_3 (by decide) (fun q6 => ?_) (fun q6 => ?_)
  · rw [if_pos q6] at hf
    refine go_iload_n 0 d_Mo_isIn_22 rfl ?_
    refine go_bipush (12 : Int32) d_Mo_isIn_23 (by decide) ?_
    refine go_icmp_ge 47 d_Mo_isIn_25 (by decide) (fun q4 => ?_) (fun q4 => ?_)
    · rw [if_pos q4] at hf
      refine go_iload_n 1 d_Mo_isIn_47 rfl ?_
      obtain ⟨x1, e_x1, hf⟩ := bnd_x hf
      refine go_callS_I (As := [.int i1]) (st := []) (c_Mo_boxOf (d := d - 1) (by omega) e_x1) lk_Mo_70 rfl rfl (rm_ok (by omega)) (Nat.le_of_ble_eq_true rfl) rm_c d_Mo_isIn_48 ?_
      refine go_iload_n 0 d_Mo_isIn_51 rfl ?_
      refine go_bipush (12 : Int32) d_Mo_isIn_52 (by decide) ?_
      refine go_isub d_Mo_isIn_54 ?_
      refine go_icmp_ne 62 d_Mo_isIn_55 (by decide) (fun q2 => ?_) (fun q2 => ?_)
      · rw [if_neg q2] at hf
        refine go_iconst (0 : Int32) d_Mo_isIn_62 (by decide) ?_
        have e9 := Option.some.inj hf
        subst e9
        exact go_zret d_Mo_isIn_63 rfl rfl ⟨rfl, rfl, rfl⟩
      · rw [if_pos q2] at hf
        refine go_iconst (1 : Int32) d_Mo_isIn_58 (by decide) ?_
        refine go_goto 63 d_Mo_isIn_59 (by decide) ?_
        have e9 := Option.some.inj hf
        subst e9
        exact go_zret d_Mo_isIn_63 rfl rfl ⟨rfl, rfl, rfl⟩
    · rw [if_neg q4] at hf
      refine go_iload_n 1 d_Mo_isIn_28 rfl ?_
      refine go_bipush (6 : Int32) d_Mo_isIn_29 (by decide) ?_
      refine go_irem d_Mo_isIn_31 (by decide) ?_
      refine go_iload_n 0 d_Mo_isIn_32 rfl ?_
      refine go_bipush (6 : Int32) d_Mo_isIn_33 (by decide) ?_
      refine go_isub d_Mo_isIn_35 ?_
      refine go_icmp_ne 43 d_Mo_isIn_36 (by decide) (fun q3 => ?_) (fun q3 => ?_)
      · rw [if_neg q3] at hf
        refine go_iconst (0 : Int32) d_Mo_isIn_43 (by decide) ?_
        refine go_goto 63 d_Mo_isIn_44 (by decide) ?_
        have e9 := Option.some.inj hf
        subst e9
        exact go_zret d_Mo_isIn_63 rfl rfl ⟨rfl, rfl, rfl⟩
      · rw [if_pos q3] at hf
        refine go_iconst (1 : Int32) d_Mo_isIn_39 (by decide) ?_
        refine go_goto 63 d_Mo_isIn_40 (by decide) ?_
        have e9 := Option.some.inj hf
        subst e9
        exact go_zret d_Mo_isIn_63 rfl rfl ⟨rfl, rfl, rfl⟩
  · rw [if_neg q6] at hf
    refine go_iload_n 1 d_Mo_isIn_6 rfl ?_
    refine go_bipush (6 : Int32) d_Mo_isIn_7 (by decide) ?_
    refine go_idiv d_Mo_isIn_9 (by decide) ?_
    refine go_iload_n 0 d_Mo_isIn_10 rfl ?_
    refine go_icmp_ne 18 d_Mo_isIn_11 (by decide) (fun q5 => ?_) (fun q5 => ?_)
    · rw [if_neg q5] at hf
      refine go_iconst (0 : Int32) d_Mo_isIn_18 (by decide) ?_
      refine go_goto 63 d_Mo_isIn_19 (by decide) ?_
      have e9 := Option.some.inj hf
      subst e9
      exact go_zret d_Mo_isIn_63 rfl rfl ⟨rfl, rfl, rfl⟩
    · rw [if_pos q5] at hf
      refine go_iconst (1 : Int32) d_Mo_isIn_14 (by decide) ?_
      refine go_goto 63 d_Mo_isIn_15 (by decide) ?_
      have e9 := Option.some.inj hf
      subst e9
      exact go_zret d_Mo_isIn_63 rfl rfl ⟨rfl, rfl, rfl⟩
theorem c_Mo_isIn {l : Launch} {E : ET} {d : Nat} (hd : 2 ≤ d) {r : Int32} {h : PH} {x : Nat} {i0 : Int32} {i1 : Int32} (hf : f_Mo_isIn i0 i1 = some r) : Fn l E m_Mo_isIn d 0 0 [.int i0, .int i1] h x (PoE (some (.int r)) h x) :=
  Fn.of (by decide +kernel) (Nat.le_of_ble_eq_true rfl) (g_Mo_isIn_0 hd i0 i1 hf)
theorem d_Mo_cellIn_0 : decode prog_13_method_14_code 0 = .ok (.iload_n 0, 1) := by decide +kernel
theorem d_Mo_cellIn_1 : decode prog_13_method_14_code 1 = .ok (.bipush 6, 2) := by decide +kernel
theorem d_Mo_cellIn_3 : decode prog_13_method_14_code 3 = .ok (.if_icmp .ge 10, 3) := by decide +kernel
theorem d_Mo_cellIn_6 : decode prog_13_method_14_code 6 = .ok (.bipush 6, 2) := by decide +kernel
theorem d_Mo_cellIn_8 : decode prog_13_method_14_code 8 = .ok (.iload_n 0, 1) := by decide +kernel
theorem d_Mo_cellIn_9 : decode prog_13_method_14_code 9 = .ok (.imul, 1) := by decide +kernel
theorem d_Mo_cellIn_10 : decode prog_13_method_14_code 10 = .ok (.iload_n 1, 1) := by decide +kernel
theorem d_Mo_cellIn_11 : decode prog_13_method_14_code 11 = .ok (.iadd, 1) := by decide +kernel
theorem d_Mo_cellIn_12 : decode prog_13_method_14_code 12 = .ok (.ireturn, 1) := by decide +kernel
theorem d_Mo_cellIn_13 : decode prog_13_method_14_code 13 = .ok (.iload_n 0, 1) := by decide +kernel
theorem d_Mo_cellIn_14 : decode prog_13_method_14_code 14 = .ok (.bipush 12, 2) := by decide +kernel
theorem d_Mo_cellIn_16 : decode prog_13_method_14_code 16 = .ok (.if_icmp .ge 13, 3) := by decide +kernel
theorem d_Mo_cellIn_19 : decode prog_13_method_14_code 19 = .ok (.bipush 6, 2) := by decide +kernel
theorem d_Mo_cellIn_21 : decode prog_13_method_14_code 21 = .ok (.iload_n 1, 1) := by decide +kernel
theorem d_Mo_cellIn_22 : decode prog_13_method_14_code 22 = .ok (.imul, 1) := by decide +kernel
theorem d_Mo_cellIn_23 : decode prog_13_method_14_code 23 = .ok (.iload_n 0, 1) := by decide +kernel
theorem d_Mo_cellIn_24 : decode prog_13_method_14_code 24 = .ok (.iadd, 1) := by decide +kernel
theorem d_Mo_cellIn_25 : decode prog_13_method_14_code 25 = .ok (.bipush 6, 2) := by decide +kernel
theorem d_Mo_cellIn_27 : decode prog_13_method_14_code 27 = .ok (.isub, 1) := by decide +kernel
theorem d_Mo_cellIn_28 : decode prog_13_method_14_code 28 = .ok (.ireturn, 1) := by decide +kernel
theorem d_Mo_cellIn_29 : decode prog_13_method_14_code 29 = .ok (.iload_n 0, 1) := by decide +kernel
theorem d_Mo_cellIn_30 : decode prog_13_method_14_code 30 = .ok (.bipush 12, 2) := by decide +kernel
theorem d_Mo_cellIn_32 : decode prog_13_method_14_code 32 = .ok (.isub, 1) := by decide +kernel
theorem d_Mo_cellIn_33 : decode prog_13_method_14_code 33 = .ok (.istore_n 2, 1) := by decide +kernel
theorem d_Mo_cellIn_34 : decode prog_13_method_14_code 34 = .ok (.bipush 6, 2) := by decide +kernel
theorem d_Mo_cellIn_36 : decode prog_13_method_14_code 36 = .ok (.iconst 2, 1) := by decide +kernel
theorem d_Mo_cellIn_37 : decode prog_13_method_14_code 37 = .ok (.iload_n 2, 1) := by decide +kernel
theorem d_Mo_cellIn_38 : decode prog_13_method_14_code 38 = .ok (.iconst 2, 1) := by decide +kernel
theorem d_Mo_cellIn_39 : decode prog_13_method_14_code 39 = .ok (.idiv, 1) := by decide +kernel
theorem d_Mo_cellIn_40 : decode prog_13_method_14_code 40 = .ok (.imul, 1) := by decide +kernel
theorem d_Mo_cellIn_41 : decode prog_13_method_14_code 41 = .ok (.iload_n 1, 1) := by decide +kernel
theorem d_Mo_cellIn_42 : decode prog_13_method_14_code 42 = .ok (.iconst 3, 1) := by decide +kernel
theorem d_Mo_cellIn_43 : decode prog_13_method_14_code 43 = .ok (.idiv, 1) := by decide +kernel
theorem d_Mo_cellIn_44 : decode prog_13_method_14_code 44 = .ok (.iadd, 1) := by decide +kernel
theorem d_Mo_cellIn_45 : decode prog_13_method_14_code 45 = .ok (.imul, 1) := by decide +kernel
theorem d_Mo_cellIn_46 : decode prog_13_method_14_code 46 = .ok (.iconst 3, 1) := by decide +kernel
theorem d_Mo_cellIn_47 : decode prog_13_method_14_code 47 = .ok (.iload_n 2, 1) := by decide +kernel
theorem d_Mo_cellIn_48 : decode prog_13_method_14_code 48 = .ok (.iconst 2, 1) := by decide +kernel
theorem d_Mo_cellIn_49 : decode prog_13_method_14_code 49 = .ok (.irem, 1) := by decide +kernel
theorem d_Mo_cellIn_50 : decode prog_13_method_14_code 50 = .ok (.imul, 1) := by decide +kernel
theorem d_Mo_cellIn_51 : decode prog_13_method_14_code 51 = .ok (.iadd, 1) := by decide +kernel
theorem d_Mo_cellIn_52 : decode prog_13_method_14_code 52 = .ok (.iload_n 1, 1) := by decide +kernel
theorem d_Mo_cellIn_53 : decode prog_13_method_14_code 53 = .ok (.iconst 3, 1) := by decide +kernel
theorem d_Mo_cellIn_54 : decode prog_13_method_14_code 54 = .ok (.irem, 1) := by decide +kernel
theorem d_Mo_cellIn_55 : decode prog_13_method_14_code 55 = .ok (.iadd, 1) := by decide +kernel
theorem d_Mo_cellIn_56 : decode prog_13_method_14_code 56 = .ok (.ireturn, 1) := by decide +kernel
def f_Mo_cellIn (i0 : Int32) (i1 : Int32) : Option Int32 :=
  (if (6 : Int32) ≤ i0 then (if (12 : Int32) ≤ i0 then bnd (some (i0 - (12 : Int32))) fun y1 => some ((((6 : Int32) * (((2 : Int32) * (y1 / (2 : Int32))) + (i1 / (3 : Int32)))) + ((3 : Int32) * (y1 - y1 / (2 : Int32) * (2 : Int32)))) + (i1 - i1 / (3 : Int32) * (3 : Int32))) else some ((((6 : Int32) * i1) + i0) - (6 : Int32))) else some (((6 : Int32) * i0) + i1))
theorem g_Mo_cellIn_0 {l : Launch} {E : ET} {d : Nat} (hd : 1 ≤ d) {r : Int32} {h : PH} {x : Nat}  (i0 : Int32) (i1 : Int32) (hf : f_Mo_cellIn i0 i1 = some r) : Go l E m_Mo_cellIn (rm d 0 0) (KM E 0 0 (PoE (some (.int r)) h x)) 0 0 h x 0 [(0, .int i0), (1, .int i1)] [] := by
  unfold f_Mo_cellIn at hf
  refine go_iload_n 0 d_Mo_cellIn_0 rfl ?_
  refine go_bipush (6 : Int32) d_Mo_cellIn_1 (by decide) ?_
  refine go_icmp_ge 13 d_Mo_cellIn_3 (by decide) (fun q3 => ?_) (fun q3 => ?_)
  · rw [if_pos q3] at hf
    refine go_iload_n 0 d_Mo_cellIn_13 rfl ?_
    refine go_bipush (12 : Int32) d_Mo_cellIn_14 (by decide) ?_
    refine go_icmp_ge 29 d_Mo_cellIn_16 (by decide) (fun q2 => ?_) (fun q2 => ?_)
    · rw [if_pos q2] at hf
      refine go_iload_n 0 d_Mo_cellIn_29 rfl ?_
      refine go_bipush (12 : Int32) d_Mo_cellIn_30 (by decide) ?_
      refine go_isub d_Mo_cellIn_32 ?_
      obtain ⟨y1, e_y1, hf⟩ := bnd_x hf
      refine go_nmI e_y1 ?_
      refine go_istore_n (lv' := [(2, .int y1), (0, .int i0), (1, .int i1)]) d_Mo_cellIn_33 rfl (by decide) ?_
      refine go_bipush (6 : Int32) d_Mo_cellIn_34 (by decide) ?_
      refine go_iconst (2 : Int32) d_Mo_cellIn_36 (by decide) ?_
      refine go_iload_n 0 d_Mo_cellIn_37 rfl ?_
      refine go_iconst (2 : Int32) d_Mo_cellIn_38 (by decide) ?_
      refine go_idiv d_Mo_cellIn_39 (by decide) ?_
      refine go_imul d_Mo_cellIn_40 ?_
      refine go_iload_n 2 d_Mo_cellIn_41 rfl ?_
      refine go_iconst (3 : Int32) d_Mo_cellIn_42 (by decide) ?_
      refine go_idiv d_Mo_cellIn_43 (by decide) ?_
      refine go_iadd d_Mo_cellIn_44 ?_
      refine go_imul d_Mo_cellIn_45 ?_
      refine go_iconst (3 : Int32) d_Mo_cellIn_46 (by decide) ?_
      refine go_iload_n 0 d_Mo_cellIn_47 rfl ?_
      refine go_iconst (2 : Int32) d_Mo_cellIn_48 (by decide) ?_
      refine go_irem d_Mo_cellIn_49 (by decide) ?_
      refine go_imul d_Mo_cellIn_50 ?_
      refine go_iadd d_Mo_cellIn_51 ?_
      refine go_iload_n 2 d_Mo_cellIn_52 rfl ?_
      refine go_iconst (3 : Int32) d_Mo_cellIn_53 (by decide) ?_
      refine go_irem d_Mo_cellIn_54 (by decide) ?_
      refine go_iadd d_Mo_cellIn_55 ?_
      have e9 := Option.some.inj hf
      subst e9
      exact go_iret d_Mo_cellIn_56 rfl ⟨rfl, rfl, rfl⟩
    · rw [if_neg q2] at hf
      refine go_bipush (6 : Int32) d_Mo_cellIn_19 (by decide) ?_
      refine go_iload_n 1 d_Mo_cellIn_21 rfl ?_
      refine go_imul d_Mo_cellIn_22 ?_
      refine go_iload_n 0 d_Mo_cellIn_23 rfl ?_
      refine go_iadd d_Mo_cellIn_24 ?_
      refine go_bipush (6 : Int32) d_Mo_cellIn_25 (by decide) ?_
      refine go_isub d_Mo_cellIn_27 ?_
      have e9 := Option.some.inj hf
      subst e9
      exact go_iret d_Mo_cellIn_28 rfl ⟨rfl, rfl, rfl⟩
  · rw [if_neg q3] at hf
    refine go_bipush (6 : Int32) d_Mo_cellIn_6 (by decide) ?_
    refine go_iload_n 0 d_Mo_cellIn_8 rfl ?_
    refine go_imul d_Mo_cellIn_9 ?_
    refine go_iload_n 1 d_Mo_cellIn_10 rfl ?_
    refine go_iadd d_Mo_cellIn_11 ?_
    have e9 := Option.some.inj hf
    subst e9
    exact go_iret d_Mo_cellIn_12 rfl ⟨rfl, rfl, rfl⟩
theorem c_Mo_cellIn {l : Launch} {E : ET} {d : Nat} (hd : 1 ≤ d) {r : Int32} {h : PH} {x : Nat} {i0 : Int32} {i1 : Int32} (hf : f_Mo_cellIn i0 i1 = some r) : Fn l E m_Mo_cellIn d 0 0 [.int i0, .int i1] h x (PoE (some (.int r)) h x) :=
  Fn.of (by decide +kernel) (Nat.le_of_ble_eq_true rfl) (g_Mo_cellIn_0 hd i0 i1 hf)
theorem d_Mo_kindOf_0 : decode prog_13_method_15_code 0 = .ok (.aload_n 0, 1) := by decide +kernel
theorem d_Mo_kindOf_1 : decode prog_13_method_15_code 1 = .ok (.getfield 7, 3) := by decide +kernel
theorem d_Mo_kindOf_4 : decode prog_13_method_15_code 4 = .ok (.bipush 109, 2) := by decide +kernel
theorem d_Mo_kindOf_6 : decode prog_13_method_15_code 6 = .ok (.bipush 9, 2) := by decide +kernel
theorem d_Mo_kindOf_8 : decode prog_13_method_15_code 8 = .ok (.iload_n 1, 1) := by decide +kernel
theorem d_Mo_kindOf_9 : decode prog_13_method_15_code 9 = .ok (.imul, 1) := by decide +kernel
theorem d_Mo_kindOf_10 : decode prog_13_method_15_code 10 = .ok (.iadd, 1) := by decide +kernel
theorem d_Mo_kindOf_11 : decode prog_13_method_15_code 11 = .ok (.iaload, 1) := by decide +kernel
theorem d_Mo_kindOf_12 : decode prog_13_method_15_code 12 = .ok (.ireturn, 1) := by decide +kernel
def f_Mo_kindOf (a0 : Nat) (i1 : Int32) (h : PH) : Option Int32 :=
  bnd (gR h a0 10 0) fun x1 => bnd (aI h x1 ((109 : Int32) + ((9 : Int32) * i1))) fun x2 => some x2
theorem g_Mo_kindOf_0 {l : Launch} {E : ET} {d : Nat} (hd : 1 ≤ d) {r : Int32} {h : PH} {x : Nat}  (a0 : Nat) (i1 : Int32) (hf : f_Mo_kindOf a0 i1 h = some r) : Go l E m_Mo_kindOf (rm d 0 0) (KM E 0 0 (PoE (some (.int r)) h x)) 0 0 h x 0 [(0, .ref a0), (1, .int i1)] [] := by
  unfold f_Mo_kindOf at hf
  refine go_aload_n 0 d_Mo_kindOf_0 rfl ?_
  obtain ⟨x1, e_x1, hf⟩ := bnd_x hf
  refine go_get d_Mo_kindOf_1 (gR_x e_x1) fl_Mo_7 ?_
  refine go_bipush (109 : Int32) d_Mo_kindOf_4 (by decide) ?_
  refine go_bipush (9 : Int32) d_Mo_kindOf_6 (by decide) ?_
  refine go_iload_n 1 d_Mo_kindOf_8 rfl ?_
  refine go_imul d_Mo_kindOf_9 ?_
  refine go_iadd d_Mo_kindOf_10 ?_
  obtain ⟨x2, e_x2, hf⟩ := bnd_x hf
  refine go_iaload d_Mo_kindOf_11 e_x2 ?_
  have e9 := Option.some.inj hf
  subst e9
  exact go_iret d_Mo_kindOf_12 rfl ⟨rfl, rfl, rfl⟩
theorem c_Mo_kindOf {l : Launch} {E : ET} {d : Nat} (hd : 1 ≤ d) {r : Int32} {h : PH} {x : Nat} {a0 : Nat} {i1 : Int32} (hf : f_Mo_kindOf a0 i1 h = some r) : Fn l E m_Mo_kindOf d 0 0 [.ref a0, .int i1] h x (PoE (some (.int r)) h x) :=
  Fn.of (by decide +kernel) (Nat.le_of_ble_eq_true rfl) (g_Mo_kindOf_0 hd a0 i1 hf)
theorem d_Mo_lengthOf_0 : decode prog_13_method_16_code 0 = .ok (.aload_n 0, 1) := by decide +kernel
theorem d_Mo_lengthOf_1 : decode prog_13_method_16_code 1 = .ok (.getfield 7, 3) := by decide +kernel
theorem d_Mo_lengthOf_4 : decode prog_13_method_16_code 4 = .ok (.bipush 109, 2) := by decide +kernel
theorem d_Mo_lengthOf_6 : decode prog_13_method_16_code 6 = .ok (.bipush 9, 2) := by decide +kernel
theorem d_Mo_lengthOf_8 : decode prog_13_method_16_code 8 = .ok (.iload_n 1, 1) := by decide +kernel
theorem d_Mo_lengthOf_9 : decode prog_13_method_16_code 9 = .ok (.imul, 1) := by decide +kernel
theorem d_Mo_lengthOf_10 : decode prog_13_method_16_code 10 = .ok (.iadd, 1) := by decide +kernel
theorem d_Mo_lengthOf_11 : decode prog_13_method_16_code 11 = .ok (.iconst 2, 1) := by decide +kernel
theorem d_Mo_lengthOf_12 : decode prog_13_method_16_code 12 = .ok (.iadd, 1) := by decide +kernel
theorem d_Mo_lengthOf_13 : decode prog_13_method_16_code 13 = .ok (.iaload, 1) := by decide +kernel
theorem d_Mo_lengthOf_14 : decode prog_13_method_16_code 14 = .ok (.ireturn, 1) := by decide +kernel
def f_Mo_lengthOf (a0 : Nat) (i1 : Int32) (h : PH) : Option Int32 :=
  bnd (gR h a0 10 0) fun x1 => bnd (aI h x1 (((109 : Int32) + ((9 : Int32) * i1)) + (2 : Int32))) fun x2 => some x2
theorem g_Mo_lengthOf_0 {l : Launch} {E : ET} {d : Nat} (hd : 1 ≤ d) {r : Int32} {h : PH} {x : Nat}  (a0 : Nat) (i1 : Int32) (hf : f_Mo_lengthOf a0 i1 h = some r) : Go l E m_Mo_lengthOf (rm d 0 0) (KM E 0 0 (PoE (some (.int r)) h x)) 0 0 h x 0 [(0, .ref a0), (1, .int i1)] [] := by
  unfold f_Mo_lengthOf at hf
  refine go_aload_n 0 d_Mo_lengthOf_0 rfl ?_
  obtain ⟨x1, e_x1, hf⟩ := bnd_x hf
  refine go_get d_Mo_lengthOf_1 (gR_x e_x1) fl_Mo_7 ?_
  refine go_bipush (109 : Int32) d_Mo_lengthOf_4 (by decide) ?_
  refine go_bipush (9 : Int32) d_Mo_lengthOf_6 (by decide) ?_
  refine go_iload_n 1 d_Mo_lengthOf_8 rfl ?_
  refine go_imul d_Mo_lengthOf_9 ?_
  refine go_iadd d_Mo_lengthOf_10 ?_
  refine go_iconst (2 : Int32) d_Mo_lengthOf_11 (by decide) ?_
  refine go_iadd d_Mo_lengthOf_12 ?_
  obtain ⟨x2, e_x2, hf⟩ := bnd_x hf
  refine go_iaload d_Mo_lengthOf_13 e_x2 ?_
  have e9 := Option.some.inj hf
  subst e9
  exact go_iret d_Mo_lengthOf_14 rfl ⟨rfl, rfl, rfl⟩
theorem c_Mo_lengthOf {l : Launch} {E : ET} {d : Nat} (hd : 1 ≤ d) {r : Int32} {h : PH} {x : Nat} {a0 : Nat} {i1 : Int32} (hf : f_Mo_lengthOf a0 i1 h = some r) : Fn l E m_Mo_lengthOf d 0 0 [.ref a0, .int i1] h x (PoE (some (.int r)) h x) :=
  Fn.of (by decide +kernel) (Nat.le_of_ble_eq_true rfl) (g_Mo_lengthOf_0 hd a0 i1 hf)
theorem d_Mo_cellAt_0 : decode prog_13_method_17_code 0 = .ok (.aload_n 0, 1) := by decide +kernel
theorem d_Mo_cellAt_1 : decode prog_13_method_17_code 1 = .ok (.getfield 7, 3) := by decide +kernel
theorem d_Mo_cellAt_4 : decode prog_13_method_17_code 4 = .ok (.bipush 109, 2) := by decide +kernel
theorem d_Mo_cellAt_6 : decode prog_13_method_17_code 6 = .ok (.bipush 9, 2) := by decide +kernel
theorem d_Mo_cellAt_8 : decode prog_13_method_17_code 8 = .ok (.iload_n 1, 1) := by decide +kernel
theorem d_Mo_cellAt_9 : decode prog_13_method_17_code 9 = .ok (.imul, 1) := by decide +kernel
theorem d_Mo_cellAt_10 : decode prog_13_method_17_code 10 = .ok (.iadd, 1) := by decide +kernel
theorem d_Mo_cellAt_11 : decode prog_13_method_17_code 11 = .ok (.iconst 3, 1) := by decide +kernel
theorem d_Mo_cellAt_12 : decode prog_13_method_17_code 12 = .ok (.iadd, 1) := by decide +kernel
theorem d_Mo_cellAt_13 : decode prog_13_method_17_code 13 = .ok (.iload_n 2, 1) := by decide +kernel
theorem d_Mo_cellAt_14 : decode prog_13_method_17_code 14 = .ok (.iadd, 1) := by decide +kernel
theorem d_Mo_cellAt_15 : decode prog_13_method_17_code 15 = .ok (.iaload, 1) := by decide +kernel
theorem d_Mo_cellAt_16 : decode prog_13_method_17_code 16 = .ok (.ireturn, 1) := by decide +kernel
def f_Mo_cellAt (a0 : Nat) (i1 : Int32) (i2 : Int32) (h : PH) : Option Int32 :=
  bnd (gR h a0 10 0) fun x1 => bnd (aI h x1 ((((109 : Int32) + ((9 : Int32) * i1)) + (3 : Int32)) + i2)) fun x2 => some x2
theorem g_Mo_cellAt_0 {l : Launch} {E : ET} {d : Nat} (hd : 1 ≤ d) {r : Int32} {h : PH} {x : Nat}  (a0 : Nat) (i1 : Int32) (i2 : Int32) (hf : f_Mo_cellAt a0 i1 i2 h = some r) : Go l E m_Mo_cellAt (rm d 0 0) (KM E 0 0 (PoE (some (.int r)) h x)) 0 0 h x 0 [(0, .ref a0), (1, .int i1), (2, .int i2)] [] := by
  unfold f_Mo_cellAt at hf
  refine go_aload_n 0 d_Mo_cellAt_0 rfl ?_
  obtain ⟨x1, e_x1, hf⟩ := bnd_x hf
  refine go_get d_Mo_cellAt_1 (gR_x e_x1) fl_Mo_7 ?_
  refine go_bipush (109 : Int32) d_Mo_cellAt_4 (by decide) ?_
  refine go_bipush (9 : Int32) d_Mo_cellAt_6 (by decide) ?_
  refine go_iload_n 1 d_Mo_cellAt_8 rfl ?_
  refine go_imul d_Mo_cellAt_9 ?_
  refine go_iadd d_Mo_cellAt_10 ?_
  refine go_iconst (3 : Int32) d_Mo_cellAt_11 (by decide) ?_
  refine go_iadd d_Mo_cellAt_12 ?_
  refine go_iload_n 2 d_Mo_cellAt_13 rfl ?_
  refine go_iadd d_Mo_cellAt_14 ?_
  obtain ⟨x2, e_x2, hf⟩ := bnd_x hf
  refine go_iaload d_Mo_cellAt_15 e_x2 ?_
  have e9 := Option.some.inj hf
  subst e9
  exact go_iret d_Mo_cellAt_16 rfl ⟨rfl, rfl, rfl⟩
theorem c_Mo_cellAt {l : Launch} {E : ET} {d : Nat} (hd : 1 ≤ d) {r : Int32} {h : PH} {x : Nat} {a0 : Nat} {i1 : Int32} {i2 : Int32} (hf : f_Mo_cellAt a0 i1 i2 h = some r) : Fn l E m_Mo_cellAt d 0 0 [.ref a0, .int i1, .int i2] h x (PoE (some (.int r)) h x) :=
  Fn.of (by decide +kernel) (Nat.le_of_ble_eq_true rfl) (g_Mo_cellAt_0 hd a0 i1 i2 hf)
theorem d_Mo_contains_0 : decode prog_13_method_18_code 0 = .ok (.iconst 0, 1) := by decide +kernel
theorem d_Mo_contains_1 : decode prog_13_method_18_code 1 = .ok (.istore_n 3, 1) := by decide +kernel
theorem d_Mo_contains_2 : decode prog_13_method_18_code 2 = .ok (.iconst 0, 1) := by decide +kernel
theorem d_Mo_contains_3 : decode prog_13_method_18_code 3 = .ok (.istore 4, 2) := by decide +kernel
theorem d_Mo_contains_5 : decode prog_13_method_18_code 5 = .ok (.iload 4, 2) := by decide +kernel
theorem d_Mo_contains_7 : decode prog_13_method_18_code 7 = .ok (.aload_n 0, 1) := by decide +kernel
theorem d_Mo_contains_8 : decode prog_13_method_18_code 8 = .ok (.iload_n 1, 1) := by decide +kernel
theorem d_Mo_contains_9 : decode prog_13_method_18_code 9 = .ok (.invokevirtual 74, 3) := by decide +kernel
theorem d_Mo_contains_12 : decode prog_13_method_18_code 12 = .ok (.if_icmp .ge 30, 3) := by decide +kernel
theorem d_Mo_contains_15 : decode prog_13_method_18_code 15 = .ok (.iload_n 3, 1) := by decide +kernel
theorem d_Mo_contains_16 : decode prog_13_method_18_code 16 = .ok (.ifCond .ne 14, 3) := by decide +kernel
theorem d_Mo_contains_19 : decode prog_13_method_18_code 19 = .ok (.aload_n 0, 1) := by decide +kernel
theorem d_Mo_contains_20 : decode prog_13_method_18_code 20 = .ok (.iload_n 1, 1) := by decide +kernel
theorem d_Mo_contains_21 : decode prog_13_method_18_code 21 = .ok (.iload 4, 2) := by decide +kernel
theorem d_Mo_contains_23 : decode prog_13_method_18_code 23 = .ok (.invokevirtual 77, 3) := by decide +kernel
theorem d_Mo_contains_26 : decode prog_13_method_18_code 26 = .ok (.iload_n 2, 1) := by decide +kernel
theorem d_Mo_contains_27 : decode prog_13_method_18_code 27 = .ok (.if_icmp .ne 7, 3) := by decide +kernel
theorem d_Mo_contains_30 : decode prog_13_method_18_code 30 = .ok (.iconst 1, 1) := by decide +kernel
theorem d_Mo_contains_31 : decode prog_13_method_18_code 31 = .ok (.goto 4, 3) := by decide +kernel
theorem d_Mo_contains_34 : decode prog_13_method_18_code 34 = .ok (.iconst 0, 1) := by decide +kernel
theorem d_Mo_contains_35 : decode prog_13_method_18_code 35 = .ok (.istore_n 3, 1) := by decide +kernel
theorem d_Mo_contains_36 : decode prog_13_method_18_code 36 = .ok (.iinc 4 1, 3) := by decide +kernel
theorem d_Mo_contains_39 : decode prog_13_method_18_code 39 = .ok (.goto (-34), 3) := by decide +kernel
theorem d_Mo_contains_42 : decode prog_13_method_18_code 42 = .ok (.iload_n 3, 1) := by decide +kernel
theorem d_Mo_contains_43 : decode prog_13_method_18_code 43 = .ok (.ireturn, 1) := by decide +kernel
def b_Mo_contains_35 (F : Nat) (k5 : Nat → Int32 → Int32 → Int32 → Int32 → PH → Option Int32) (a0 : Nat) (i1 : Int32) (i2 : Int32) (i4 : Int32) (s0 : Int32) (h : PH) : Option Int32 :=
  k5 a0 i1 i2 s0 (i4 + (1 : Int32)) h
theorem g_Mo_contains_35 {l : Launch} {E : ET} {d : Nat} (hd : 2 ≤ d) {F : Nat} {r : Int32} {h : PH} {x : Nat} {k5 : Nat → Int32 → Int32 → Int32 → Int32 → PH → Option Int32} (hk5 : ∀ (a0 : Nat) (i1 : Int32) (i2 : Int32) (i3 : Int32) (i4 : Int32), k5 a0 i1 i2 i3 i4 h = some r → Go l E m_Mo_contains (rm d 0 0) (KM E 0 0 (PoE (some (.int r)) h x)) 0 0 h x 5 [(0, .ref a0), (1, .int i1), (2, .int i2), (3, .int i3), (4, .int i4)] []) (a0 : Nat) (i1 : Int32) (i2 : Int32) (i4 : Int32) (s0 : Int32) (hf : b_Mo_contains_35 F k5 a0 i1 i2 i4 s0 h = some r) : Go l E m_Mo_contains (rm d 0 0) (KM E 0 0 (PoE (some (.int r)) h x)) 0 0 h x 35 [(0, .ref a0), (1, .int i1), (2, .int i2), (4, .int i4)] [.int s0] := by
  unfold b_Mo_contains_35 at hf
  refine go_istore_n (lv' := [(3, .int s0), (0, .ref a0), (1, .int i1), (2, .int i2), (4, .int i4)]) d_Mo_contains_35 rfl (by decide) ?_
  refine go_iinc (lv' := [(4, .int (i4 + (1 : Int32))), (3, .int s0), (0, .ref a0), (1, .int i1), (2, .int i2)]) 4 (i4 + (1 : Int32)) d_Mo_contains_36 rfl rfl rfl (by decide) ?_
  refine go_goto 5 d_Mo_contains_39 (by decide) ?_
  refine go_sub (lv' := [(0, .ref a0), (1, .int i1), (2, .int i2), (3, .int s0), (4, .int (i4 + (1 : Int32)))]) [2, 3, 4, 1, 0] rfl ?_
  exact hk5 a0 i1 i2 s0 (i4 + (1 : Int32)) hf
def b_Mo_contains_30 (F : Nat) (k5 : Nat → Int32 → Int32 → Int32 → Int32 → PH → Option Int32) (a0 : Nat) (i1 : Int32) (i2 : Int32) (i4 : Int32) (h : PH) : Option Int32 :=
  b_Mo_contains_35 F k5 a0 i1 i2 i4 (1 : Int32) h
theorem g_Mo_contains_30 {l : Launch} {E : ET} {d : Nat} (hd : 2 ≤ d) {F : Nat} {r : Int32} {h : PH} {x : Nat} {k5 : Nat → Int32 → Int32 → Int32 → Int32 → PH → Option Int32} (hk5 : ∀ (a0 : Nat) (i1 : Int32) (i2 : Int32) (i3 : Int32) (i4 : Int32), k5 a0 i1 i2 i3 i4 h = some r → Go l E m_Mo_contains (rm d 0 0) (KM E 0 0 (PoE (some (.int r)) h x)) 0 0 h x 5 [(0, .ref a0), (1, .int i1), (2, .int i2), (3, .int i3), (4, .int i4)] []) (a0 : Nat) (i1 : Int32) (i2 : Int32) (i4 : Int32) (hf : b_Mo_contains_30 F k5 a0 i1 i2 i4 h = some r) : Go l E m_Mo_contains (rm d 0 0) (KM E 0 0 (PoE (some (.int r)) h x)) 0 0 h x 30 [(0, .ref a0), (1, .int i1), (2, .int i2), (4, .int i4)] [] := by
  unfold b_Mo_contains_30 at hf
  refine go_iconst (1 : Int32) d_Mo_contains_30 (by decide) ?_
  refine go_goto 35 d_Mo_contains_31 (by decide) ?_
  refine go_sub (lv' := [(0, .ref a0), (1, .int i1), (2, .int i2), (4, .int i4)]) [0, 1, 2, 3] rfl ?_
  exact g_Mo_contains_35 hd hk5 a0 i1 i2 i4 (1 : Int32)  hf
def b_Mo_contains_5 (F : Nat) (k5 : Nat → Int32 → Int32 → Int32 → Int32 → PH → Option Int32) (a0 : Nat) (i1 : Int32) (i2 : Int32) (i3 : Int32) (i4 : Int32) (h : PH) : Option Int32 :=
  bnd (cK h a0 10) fun _ => bnd (f_Mo_lengthOf a0 i1 h) fun x2 => (if x2 ≤ i4 then bnd (cZ i3) fun _ => some i3 else (if i3 = (0 : Int32) then bnd (cK h a0 10) fun _ => bnd (f_Mo_cellAt a0 i1 i4 h) fun x5 => (if x5 = i2 then b_Mo_contains_30 F k5 a0 i1 i2 i4 h else b_Mo_contains_35 F k5 a0 i1 i2 i4 (0 : Int32) h) else b_Mo_contains_30 F k5 a0 i1 i2 i4 h))
def f_Mo_contains_5 (F : Nat) : Nat → Nat → Int32 → Int32 → Int32 → Int32 → PH → Option Int32
  | 0 => fun _ _ _ _ _ _ => none
  | n + 1 => b_Mo_contains_5 F (f_Mo_contains_5 F n)
theorem g_Mo_contains_5 {l : Launch} {E : ET} {d : Nat} (hd : 2 ≤ d) {F : Nat} {r : Int32} {h : PH} {x : Nat} {k5 : Nat → Int32 → Int32 → Int32 → Int32 → PH → Option Int32} (hk5 : ∀ (a0 : Nat) (i1 : Int32) (i2 : Int32) (i3 : Int32) (i4 : Int32), k5 a0 i1 i2 i3 i4 h = some r → Go l E m_Mo_contains (rm d 0 0) (KM E 0 0 (PoE (some (.int r)) h x)) 0 0 h x 5 [(0, .ref a0), (1, .int i1), (2, .int i2), (3, .int i3), (4, .int i4)] []) (a0 : Nat) (i1 : Int32) (i2 : Int32) (i3 : Int32) (i4 : Int32) (hf : b_Mo_contains_5 F k5 a0 i1 i2 i3 i4 h = some r) : Go l E m_Mo_contains (rm d 0 0) (KM E 0 0 (PoE (some (.int r)) h x)) 0 0 h x 5 [(0, .ref a0), (1, .int i1), (2, .int i2), (3, .int i3), (4, .int i4)] [] := by
  unfold b_Mo_contains_5 at hf
  refine go_iload 4 d_Mo_contains_5 rfl ?_
  refine go_aload_n 0 d_Mo_contains_7 rfl ?_
  refine go_iload_n 1 d_Mo_contains_8 rfl ?_
  obtain ⟨_, e1, hf⟩ := bnd_x hf
  obtain ⟨x2, e_x2, hf⟩ := bnd_x hf
  refine go_callV_I (As := [.int i1]) (st := [.int i4]) (c_Mo_lengthOf (d := d - 1) (by omega) e_x2) lk_Mo_74 rfl rfl e1 (by decide) rfl (rm_ok (by omega)) (Nat.le_of_ble_eq_true rfl) rm_c d_Mo_contains_9 ?_
  refine go_icmp_ge 42 d_Mo_contains_12 (by decide) (fun q8 => ?_) (fun q8 => ?_)
  · rw [if_pos q8] at hf
    refine go_iload_n 3 d_Mo_contains_42 rfl ?_
    obtain ⟨_, e3, hf⟩ := bnd_x hf
    have e9 := Option.some.inj hf
    subst e9
    exact go_zret d_Mo_contains_43 e3 rfl ⟨rfl, rfl, rfl⟩
  · rw [if_neg q8] at hf
    refine go_iload_n 3 d_Mo_contains_15 rfl ?_
    refine go_if_ne 30 d_Mo_contains_16 (by decide) (fun q7 => ?_) (fun q7 => ?_)
    · rw [if_neg q7] at hf
      refine go_sub (lv' := [(0, .ref a0), (1, .int i1), (2, .int i2), (4, .int i4)]) [0, 1, 2, 4] rfl ?_
      exact g_Mo_contains_30 hd hk5 a0 i1 i2 i4  hf
    · rw [if_pos q7] at hf
      refine go_aload_n 0 d_Mo_contains_19 rfl ?_
      refine go_iload_n 1 d_Mo_contains_20 rfl ?_
      refine go_iload 4 d_Mo_contains_21 rfl ?_
      obtain ⟨_, e4, hf⟩ := bnd_x hf
      obtain ⟨x5, e_x5, hf⟩ := bnd_x hf
      refine go_callV_I (As := [.int i1, .int i4]) (st := []) (c_Mo_cellAt (d := d - 1) (by omega) e_x5) lk_Mo_77 rfl rfl e4 (by decide) rfl (rm_ok (by omega)) (Nat.le_of_ble_eq_true rfl) rm_c d_Mo_contains_23 ?_
      refine go_iload_n 2 d_Mo_contains_26 rfl ?_
      refine go_icmp_ne 34 d_Mo_contains_27 (by decide) (fun q6 => ?_) (fun q6 => ?_)
      · rw [if_neg q6] at hf
        refine go_iconst (0 : Int32) d_Mo_contains_34 (by decide) ?_
        refine go_sub (lv' := [(0, .ref a0), (1, .int i1), (2, .int i2), (4, .int i4)]) [0, 1, 2, 4] rfl ?_
        exact g_Mo_contains_35 hd hk5 a0 i1 i2 i4 (0 : Int32)  hf
      · rw [if_pos q6] at hf
        refine go_sub (lv' := [(0, .ref a0), (1, .int i1), (2, .int i2), (4, .int i4)]) [0, 1, 2, 4] rfl ?_
        exact g_Mo_contains_30 hd hk5 a0 i1 i2 i4  hf
theorem t_Mo_contains_5 {l : Launch} {E : ET} {d : Nat} (hd : 2 ≤ d) {F : Nat} {r : Int32} {h : PH} {x : Nat}  : ∀ (n : Nat) (a0 : Nat) (i1 : Int32) (i2 : Int32) (i3 : Int32) (i4 : Int32), f_Mo_contains_5 F n a0 i1 i2 i3 i4 h = some r → Go l E m_Mo_contains (rm d 0 0) (KM E 0 0 (PoE (some (.int r)) h x)) 0 0 h x 5 [(0, .ref a0), (1, .int i1), (2, .int i2), (3, .int i3), (4, .int i4)] [] := by
  intro n
  induction n with
  | zero => intro v0 v1 v2 v3 v4 hf; cases hf
  | succ n ih => intro v0 v1 v2 v3 v4 hf; exact g_Mo_contains_5 hd ih v0 v1 v2 v3 v4 hf
def f_Mo_contains (F : Nat) (a0 : Nat) (i1 : Int32) (i2 : Int32) (h : PH) : Option Int32 :=
  f_Mo_contains_5 F F a0 i1 i2 (0 : Int32) (0 : Int32) h
theorem g_Mo_contains_0 {l : Launch} {E : ET} {d : Nat} (hd : 2 ≤ d) {F : Nat} {r : Int32} {h : PH} {x : Nat}  (a0 : Nat) (i1 : Int32) (i2 : Int32) (hf : f_Mo_contains F a0 i1 i2 h = some r) : Go l E m_Mo_contains (rm d 0 0) (KM E 0 0 (PoE (some (.int r)) h x)) 0 0 h x 0 [(0, .ref a0), (1, .int i1), (2, .int i2)] [] := by
  unfold f_Mo_contains at hf
  refine go_iconst (0 : Int32) d_Mo_contains_0 (by decide) ?_
  refine go_istore_n (lv' := [(3, .int (0 : Int32)), (0, .ref a0), (1, .int i1), (2, .int i2)]) d_Mo_contains_1 rfl (by decide) ?_
  refine go_iconst (0 : Int32) d_Mo_contains_2 (by decide) ?_
  refine go_istore (lv' := [(4, .int (0 : Int32)), (3, .int (0 : Int32)), (0, .ref a0), (1, .int i1), (2, .int i2)]) d_Mo_contains_3 rfl (by decide) ?_
  refine go_sub (lv' := [(0, .ref a0), (1, .int i1), (2, .int i2), (3, .int (0 : Int32)), (4, .int (0 : Int32))]) [2, 3, 4, 1, 0] rfl ?_
  exact t_Mo_contains_5 hd  _ a0 i1 i2 (0 : Int32) (0 : Int32)  hf
theorem c_Mo_contains {l : Launch} {E : ET} {d : Nat} (hd : 2 ≤ d) {F : Nat} {r : Int32} {h : PH} {x : Nat} {a0 : Nat} {i1 : Int32} {i2 : Int32} (hf : f_Mo_contains F a0 i1 i2 h = some r) : Fn l E m_Mo_contains d 0 0 [.ref a0, .int i1, .int i2] h x (PoE (some (.int r)) h x) :=
  Fn.of (by decide +kernel) (Nat.le_of_ble_eq_true rfl) (g_Mo_contains_0 hd a0 i1 i2 hf)
theorem d_Mo_arePeers_0 : decode prog_13_method_19_code 0 = .ok (.iload_n 1, 1) := by decide +kernel
theorem d_Mo_arePeers_1 : decode prog_13_method_19_code 1 = .ok (.bipush 6, 2) := by decide +kernel
theorem d_Mo_arePeers_3 : decode prog_13_method_19_code 3 = .ok (.idiv, 1) := by decide +kernel
theorem d_Mo_arePeers_4 : decode prog_13_method_19_code 4 = .ok (.iload_n 2, 1) := by decide +kernel
theorem d_Mo_arePeers_5 : decode prog_13_method_19_code 5 = .ok (.bipush 6, 2) := by decide +kernel
theorem d_Mo_arePeers_7 : decode prog_13_method_19_code 7 = .ok (.idiv, 1) := by decide +kernel
theorem d_Mo_arePeers_8 : decode prog_13_method_19_code 8 = .ok (.if_icmp .eq 25, 3) := by decide +kernel
theorem d_Mo_arePeers_11 : decode prog_13_method_19_code 11 = .ok (.iload_n 1, 1) := by decide +kernel
theorem d_Mo_arePeers_12 : decode prog_13_method_19_code 12 = .ok (.bipush 6, 2) := by decide +kernel
theorem d_Mo_arePeers_14 : decode prog_13_method_19_code 14 = .ok (.irem, 1) := by decide +kernel
theorem d_Mo_arePeers_15 : decode prog_13_method_19_code 15 = .ok (.iload_n 2, 1) := by decide +kernel
theorem d_Mo_arePeers_16 : decode prog_13_method_19_code 16 = .ok (.bipush 6, 2) := by decide +kernel
theorem d_Mo_arePeers_18 : decode prog_13_method_19_code 18 = .ok (.irem, 1) := by decide +kernel
theorem d_Mo_arePeers_19 : decode prog_13_method_19_code 19 = .ok (.if_icmp .eq 14, 3) := by decide +kernel
theorem d_Mo_arePeers_22 : decode prog_13_method_19_code 22 = .ok (.iload_n 1, 1) := by decide +kernel
theorem d_Mo_arePeers_23 : decode prog_13_method_19_code 23 = .ok (.invokestatic 70, 3) := by decide +kernel
theorem d_Mo_arePeers_26 : decode prog_13_method_19_code 26 = .ok (.iload_n 2, 1) := by decide +kernel
theorem d_Mo_arePeers_27 : decode prog_13_method_19_code 27 = .ok (.invokestatic 70, 3) := by decide +kernel
theorem d_Mo_arePeers_30 : decode prog_13_method_19_code 30 = .ok (.if_icmp .ne 7, 3) := by decide +kernel
theorem d_Mo_arePeers_33 : decode prog_13_method_19_code 33 = .ok (.iconst 1, 1) := by decide +kernel
theorem d_Mo_arePeers_34 : decode prog_13_method_19_code 34 = .ok (.goto 4, 3) := by decide +kernel
theorem d_Mo_arePeers_37 : decode prog_13_method_19_code 37 = .ok (.iconst 0, 1) := by decide +kernel
theorem d_Mo_arePeers_38 : decode prog_13_method_19_code 38 = .ok (.istore_n 3, 1) := by decide +kernel
theorem d_Mo_arePeers_39 : decode prog_13_method_19_code 39 = .ok (.iconst 0, 1) := by decide +kernel
theorem d_Mo_arePeers_40 : decode prog_13_method_19_code 40 = .ok (.istore 4, 2) := by decide +kernel
theorem d_Mo_arePeers_42 : decode prog_13_method_19_code 42 = .ok (.iload 4, 2) := by decide +kernel
theorem d_Mo_arePeers_44 : decode prog_13_method_19_code 44 = .ok (.aload_n 0, 1) := by decide +kernel
theorem d_Mo_arePeers_45 : decode prog_13_method_19_code 45 = .ok (.getfield 7, 3) := by decide +kernel
theorem d_Mo_arePeers_48 : decode prog_13_method_19_code 48 = .ok (.bipush 108, 2) := by decide +kernel
theorem d_Mo_arePeers_50 : decode prog_13_method_19_code 50 = .ok (.iaload, 1) := by decide +kernel
theorem d_Mo_arePeers_51 : decode prog_13_method_19_code 51 = .ok (.if_icmp .ge 48, 3) := by decide +kernel
theorem d_Mo_arePeers_54 : decode prog_13_method_19_code 54 = .ok (.iload_n 3, 1) := by decide +kernel
theorem d_Mo_arePeers_55 : decode prog_13_method_19_code 55 = .ok (.ifCond .ne 44, 3) := by decide +kernel
theorem d_Mo_arePeers_58 : decode prog_13_method_19_code 58 = .ok (.aload_n 0, 1) := by decide +kernel
theorem d_Mo_arePeers_59 : decode prog_13_method_19_code 59 = .ok (.iload 4, 2) := by decide +kernel
theorem d_Mo_arePeers_61 : decode prog_13_method_19_code 61 = .ok (.invokevirtual 81, 3) := by decide +kernel
theorem d_Mo_arePeers_64 : decode prog_13_method_19_code 64 = .ok (.ifCond .ne 27, 3) := by decide +kernel
theorem d_Mo_arePeers_67 : decode prog_13_method_19_code 67 = .ok (.aload_n 0, 1) := by decide +kernel
theorem d_Mo_arePeers_68 : decode prog_13_method_19_code 68 = .ok (.iload 4, 2) := by decide +kernel
theorem d_Mo_arePeers_70 : decode prog_13_method_19_code 70 = .ok (.iload_n 1, 1) := by decide +kernel
theorem d_Mo_arePeers_71 : decode prog_13_method_19_code 71 = .ok (.invokevirtual 84, 3) := by decide +kernel
theorem d_Mo_arePeers_74 : decode prog_13_method_19_code 74 = .ok (.ifCond .eq 17, 3) := by decide +kernel
theorem d_Mo_arePeers_77 : decode prog_13_method_19_code 77 = .ok (.aload_n 0, 1) := by decide +kernel
theorem d_Mo_arePeers_78 : decode prog_13_method_19_code 78 = .ok (.iload 4, 2) := by decide +kernel
theorem d_Mo_arePeers_80 : decode prog_13_method_19_code 80 = .ok (.iload_n 2, 1) := by decide +kernel
theorem d_Mo_arePeers_81 : decode prog_13_method_19_code 81 = .ok (.invokevirtual 84, 3) := by decide +kernel
theorem d_Mo_arePeers_84 : decode prog_13_method_19_code 84 = .ok (.ifCond .eq 7, 3) := by decide +kernel
theorem d_Mo_arePeers_87 : decode prog_13_method_19_code 87 = .ok (.iconst 1, 1) := by decide +kernel
theorem d_Mo_arePeers_88 : decode prog_13_method_19_code 88 = .ok (.goto 4, 3) := by decide +kernel
theorem d_Mo_arePeers_91 : decode prog_13_method_19_code 91 = .ok (.iconst 0, 1) := by decide +kernel
theorem d_Mo_arePeers_92 : decode prog_13_method_19_code 92 = .ok (.istore_n 3, 1) := by decide +kernel
theorem d_Mo_arePeers_93 : decode prog_13_method_19_code 93 = .ok (.iinc 4 1, 3) := by decide +kernel
theorem d_Mo_arePeers_96 : decode prog_13_method_19_code 96 = .ok (.goto (-54), 3) := by decide +kernel
theorem d_Mo_arePeers_99 : decode prog_13_method_19_code 99 = .ok (.iload_n 3, 1) := by decide +kernel
theorem d_Mo_arePeers_100 : decode prog_13_method_19_code 100 = .ok (.ifCond .eq 12, 3) := by decide +kernel
theorem d_Mo_arePeers_103 : decode prog_13_method_19_code 103 = .ok (.iload_n 1, 1) := by decide +kernel
theorem d_Mo_arePeers_104 : decode prog_13_method_19_code 104 = .ok (.iload_n 2, 1) := by decide +kernel
theorem d_Mo_arePeers_105 : decode prog_13_method_19_code 105 = .ok (.if_icmp .eq 7, 3) := by decide +kernel
theorem d_Mo_arePeers_108 : decode prog_13_method_19_code 108 = .ok (.iconst 1, 1) := by decide +kernel
theorem d_Mo_arePeers_109 : decode prog_13_method_19_code 109 = .ok (.goto 4, 3) := by decide +kernel
theorem d_Mo_arePeers_112 : decode prog_13_method_19_code 112 = .ok (.iconst 0, 1) := by decide +kernel
theorem d_Mo_arePeers_113 : decode prog_13_method_19_code 113 = .ok (.ireturn, 1) := by decide +kernel
def b_Mo_arePeers_92 (F : Nat) (k42 : Nat → Int32 → Int32 → Int32 → Int32 → PH → Option Int32) (a0 : Nat) (i1 : Int32) (i2 : Int32) (i4 : Int32) (s0 : Int32) (h : PH) : Option Int32 :=
  k42 a0 i1 i2 s0 (i4 + (1 : Int32)) h
theorem g_Mo_arePeers_92 {l : Launch} {E : ET} {d : Nat} (hd : 3 ≤ d) {F : Nat} {r : Int32} {h : PH} {x : Nat} {k42 : Nat → Int32 → Int32 → Int32 → Int32 → PH → Option Int32} (hk42 : ∀ (a0 : Nat) (i1 : Int32) (i2 : Int32) (i3 : Int32) (i4 : Int32), k42 a0 i1 i2 i3 i4 h = some r → Go l E m_Mo_arePeers (rm d 0 0) (KM E 0 0 (PoE (some (.int r)) h x)) 0 0 h x 42 [(0, .ref a0), (1, .int i1), (2, .int i2), (3, .int i3), (4, .int i4)] []) (a0 : Nat) (i1 : Int32) (i2 : Int32) (i4 : Int32) (s0 : Int32) (hf : b_Mo_arePeers_92 F k42 a0 i1 i2 i4 s0 h = some r) : Go l E m_Mo_arePeers (rm d 0 0) (KM E 0 0 (PoE (some (.int r)) h x)) 0 0 h x 92 [(0, .ref a0), (1, .int i1), (2, .int i2), (4, .int i4)] [.int s0] := by
  unfold b_Mo_arePeers_92 at hf
  refine go_istore_n (lv' := [(3, .int s0), (0, .ref a0), (1, .int i1), (2, .int i2), (4, .int i4)]) d_Mo_arePeers_92 rfl (by decide) ?_
  refine go_iinc (lv' := [(4, .int (i4 + (1 : Int32))), (3, .int s0), (0, .ref a0), (1, .int i1), (2, .int i2)]) 4 (i4 + (1 : Int32)) d_Mo_arePeers_93 rfl rfl rfl (by decide) ?_
  refine go_goto 42 d_Mo_arePeers_96 (by decide) ?_
  refine go_sub (lv' := [(0, .ref a0), (1, .int i1), (2, .int i2), (3, .int s0), (4, .int (i4 + (1 : Int32)))]) [2, 3, 4, 1, 0] rfl ?_
  exact hk42 a0 i1 i2 s0 (i4 + (1 : Int32)) hf
def b_Mo_arePeers_91 (F : Nat) (k42 : Nat → Int32 → Int32 → Int32 → Int32 → PH → Option Int32) (a0 : Nat) (i1 : Int32) (i2 : Int32) (i4 : Int32) (h : PH) : Option Int32 :=
  b_Mo_arePeers_92 F k42 a0 i1 i2 i4 (0 : Int32) h
theorem g_Mo_arePeers_91 {l : Launch} {E : ET} {d : Nat} (hd : 3 ≤ d) {F : Nat} {r : Int32} {h : PH} {x : Nat} {k42 : Nat → Int32 → Int32 → Int32 → Int32 → PH → Option Int32} (hk42 : ∀ (a0 : Nat) (i1 : Int32) (i2 : Int32) (i3 : Int32) (i4 : Int32), k42 a0 i1 i2 i3 i4 h = some r → Go l E m_Mo_arePeers (rm d 0 0) (KM E 0 0 (PoE (some (.int r)) h x)) 0 0 h x 42 [(0, .ref a0), (1, .int i1), (2, .int i2), (3, .int i3), (4, .int i4)] []) (a0 : Nat) (i1 : Int32) (i2 : Int32) (i4 : Int32) (hf : b_Mo_arePeers_91 F k42 a0 i1 i2 i4 h = some r) : Go l E m_Mo_arePeers (rm d 0 0) (KM E 0 0 (PoE (some (.int r)) h x)) 0 0 h x 91 [(0, .ref a0), (1, .int i1), (2, .int i2), (4, .int i4)] [] := by
  unfold b_Mo_arePeers_91 at hf
  refine go_iconst (0 : Int32) d_Mo_arePeers_91 (by decide) ?_
  refine go_sub (lv' := [(0, .ref a0), (1, .int i1), (2, .int i2), (4, .int i4)]) [0, 1, 2, 3] rfl ?_
  exact g_Mo_arePeers_92 hd hk42 a0 i1 i2 i4 (0 : Int32)  hf
def b_Mo_arePeers_99 (F : Nat) (i1 : Int32) (i2 : Int32) (i3 : Int32) (h : PH) : Option Int32 :=
  (if i3 = (0 : Int32) then some (0 : Int32) else (if i1 = i2 then some (0 : Int32) else some (1 : Int32)))
theorem g_Mo_arePeers_99 {l : Launch} {E : ET} {d : Nat} (hd : 3 ≤ d) {F : Nat} {r : Int32} {h : PH} {x : Nat}  (i1 : Int32) (i2 : Int32) (i3 : Int32) (hf : b_Mo_arePeers_99 F i1 i2 i3 h = some r) : Go l E m_Mo_arePeers (rm d 0 0) (KM E 0 0 (PoE (some (.int r)) h x)) 0 0 h x 99 [(1, .int i1), (2, .int i2), (3, .int i3)] [] := by
  unfold b_Mo_arePeers_99 at hf
  refine go_iload_n 2 d_Mo_arePeers_99 rfl ?_
  refine go_if_eq 112 d_Mo_arePeers_100 (by decide) (fun q2 => ?_) (fun q2 => ?_)
  · rw [if_pos q2] at hf
    refine go_iconst (0 : Int32) d_Mo_arePeers_112 (by decide) ?_
    have e9 := Option.some.inj hf
    subst e9
    exact go_zret d_Mo_arePeers_113 rfl rfl ⟨rfl, rfl, rfl⟩
  · rw [if_neg q2] at hf
    refine go_iload_n 0 d_Mo_arePeers_103 rfl ?_
    refine go_iload_n 1 d_Mo_arePeers_104 rfl ?_
    refine go_icmp_eq 112 d_Mo_arePeers_105 (by decide) (fun q1 => ?_) (fun q1 => ?_)
    · rw [if_pos q1] at hf
      refine go_iconst (0 : Int32) d_Mo_arePeers_112 (by decide) ?_
      have e9 := Option.some.inj hf
      subst e9
      exact go_zret d_Mo_arePeers_113 rfl rfl ⟨rfl, rfl, rfl⟩
    · rw [if_neg q1] at hf
      refine go_iconst (1 : Int32) d_Mo_arePeers_108 (by decide) ?_
      refine go_goto 113 d_Mo_arePeers_109 (by decide) ?_
      have e9 := Option.some.inj hf
      subst e9
      exact go_zret d_Mo_arePeers_113 rfl rfl ⟨rfl, rfl, rfl⟩
def b_Mo_arePeers_42 (F : Nat) (k42 : Nat → Int32 → Int32 → Int32 → Int32 → PH → Option Int32) (a0 : Nat) (i1 : Int32) (i2 : Int32) (i3 : Int32) (i4 : Int32) (h : PH) : Option Int32 :=
  bnd (gR h a0 10 0) fun x1 => bnd (aI h x1 (108 : Int32)) fun x2 => (if x2 ≤ i4 then b_Mo_arePeers_99 F i1 i2 i3 h else (if i3 = (0 : Int32) then bnd (cK h a0 10) fun _ => bnd (f_Mo_kindOf a0 i4 h) fun x4 => (if x4 = (0 : Int32) then bnd (cK h a0 10) fun _ => bnd (f_Mo_contains F a0 i4 i1 h) fun x6 => (if x6 = (0 : Int32) then b_Mo_arePeers_91 F k42 a0 i1 i2 i4 h else bnd (cK h a0 10) fun _ => bnd (f_Mo_contains F a0 i4 i2 h) fun x8 => (if x8 = (0 : Int32) then b_Mo_arePeers_91 F k42 a0 i1 i2 i4 h else b_Mo_arePeers_92 F k42 a0 i1 i2 i4 (1 : Int32) h)) else b_Mo_arePeers_91 F k42 a0 i1 i2 i4 h) else b_Mo_arePeers_99 F i1 i2 i3 h))
def f_Mo_arePeers_42 (F : Nat) : Nat → Nat → Int32 → Int32 → Int32 → Int32 → PH → Option Int32
  | 0 => fun _ _ _ _ _ _ => none
  | n + 1 => b_Mo_arePeers_42 F (f_Mo_arePeers_42 F n)
theorem g_Mo_arePeers_42 {l : Launch} {E : ET} {d : Nat} (hd : 3 ≤ d) {F : Nat} {r : Int32} {h : PH} {x : Nat} {k42 : Nat → Int32 → Int32 → Int32 → Int32 → PH → Option Int32} (hk42 : ∀ (a0 : Nat) (i1 : Int32) (i2 : Int32) (i3 : Int32) (i4 : Int32), k42 a0 i1 i2 i3 i4 h = some r → Go l E m_Mo_arePeers (rm d 0 0) (KM E 0 0 (PoE (some (.int r)) h x)) 0 0 h x 42 [(0, .ref a0), (1, .int i1), (2, .int i2), (3, .int i3), (4, .int i4)] []) (a0 : Nat) (i1 : Int32) (i2 : Int32) (i3 : Int32) (i4 : Int32) (hf : b_Mo_arePeers_42 F k42 a0 i1 i2 i3 i4 h = some r) : Go l E m_Mo_arePeers (rm d 0 0) (KM E 0 0 (PoE (some (.int r)) h x)) 0 0 h x 42 [(0, .ref a0), (1, .int i1), (2, .int i2), (3, .int i3), (4, .int i4)] [] := by
  unfold b_Mo_arePeers_42 at hf
  refine go_iload 4 d_Mo_arePeers_42 rfl ?_
  refine go_aload_n 0 d_Mo_arePeers_44 rfl ?_
  obtain ⟨x1, e_x1, hf⟩ := bnd_x hf
  refine go_get d_Mo_arePeers_45 (gR_x e_x1) fl_Mo_7 ?_
  refine go_bipush (108 : Int32) d_Mo_arePeers_48 (by decide) ?_
  obtain ⟨x2, e_x2, hf⟩ := bnd_x hf
  refine go_iaload d_Mo_arePeers_50 e_x2 ?_
  refine go_icmp_ge 99 d_Mo_arePeers_51 (by decide) (fun q13 => ?_) (fun q13 => ?_)
  · rw [if_pos q13] at hf
    refine go_sub (lv' := [(1, .int i1), (2, .int i2), (3, .int i3)]) [1, 2, 3] rfl ?_
    exact g_Mo_arePeers_99 hd  i1 i2 i3  hf
  · rw [if_neg q13] at hf
    refine go_iload_n 3 d_Mo_arePeers_54 rfl ?_
    refine go_if_ne 99 d_Mo_arePeers_55 (by decide) (fun q12 => ?_) (fun q12 => ?_)
    · rw [if_neg q12] at hf
      refine go_sub (lv' := [(1, .int i1), (2, .int i2), (3, .int i3)]) [1, 2, 3] rfl ?_
      exact g_Mo_arePeers_99 hd  i1 i2 i3  hf
    · rw [if_pos q12] at hf
      refine go_aload_n 0 d_Mo_arePeers_58 rfl ?_
      refine go_iload 4 d_Mo_arePeers_59 rfl ?_
      obtain ⟨_, e3, hf⟩ := bnd_x hf
      obtain ⟨x4, e_x4, hf⟩ := bnd_x hf
      refine go_callV_I (As := [.int i4]) (st := []) (c_Mo_kindOf (d := d - 1) (by omega) e_x4) lk_Mo_81 rfl rfl e3 (by decide) rfl (rm_ok (by omega)) (Nat.le_of_ble_eq_true rfl) rm_c d_Mo_arePeers_61 ?_
      refine go_if_ne 91 d_Mo_arePeers_64 (by decide) (fun q11 => ?_) (fun q11 => ?_)
      · rw [if_neg q11] at hf
        refine go_sub (lv' := [(0, .ref a0), (1, .int i1), (2, .int i2), (4, .int i4)]) [0, 1, 2, 4] rfl ?_
        exact g_Mo_arePeers_91 hd hk42 a0 i1 i2 i4  hf
      · rw [if_pos q11] at hf
        refine go_aload_n 0 d_Mo_arePeers_67 rfl ?_
        refine go_iload 4 d_Mo_arePeers_68 rfl ?_
        refine go_iload_n 1 d_Mo_arePeers_70 rfl ?_
        obtain ⟨_, e5, hf⟩ := bnd_x hf
        obtain ⟨x6, e_x6, hf⟩ := bnd_x hf
        refine go_callV_I (As := [.int i4, .int i1]) (st := []) (c_Mo_contains (d := d - 1) (by omega) e_x6) lk_Mo_84 rfl rfl e5 (by decide) rfl (rm_ok (by omega)) (Nat.le_of_ble_eq_true rfl) rm_c d_Mo_arePeers_71 ?_
        refine go_if_eq 91 d_Mo_arePeers_74 (by decide) (fun q10 => ?_) (fun q10 => ?_)
        · rw [if_pos q10] at hf
          refine go_sub (lv' := [(0, .ref a0), (1, .int i1), (2, .int i2), (4, .int i4)]) [0, 1, 2, 4] rfl ?_
          exact g_Mo_arePeers_91 hd hk42 a0 i1 i2 i4  hf
        · rw [if_neg q10] at hf
          refine go_aload_n 0 d_Mo_arePeers_77 rfl ?_
          refine go_iload 4 d_Mo_arePeers_78 rfl ?_
          refine go_iload_n 2 d_Mo_arePeers_80 rfl ?_
          obtain ⟨_, e7, hf⟩ := bnd_x hf
          obtain ⟨x8, e_x8, hf⟩ := bnd_x hf
          refine go_callV_I (As := [.int i4, .int i2]) (st := []) (c_Mo_contains (d := d - 1) (by omega) e_x8) lk_Mo_84 rfl rfl e7 (by decide) rfl (rm_ok (by omega)) (Nat.le_of_ble_eq_true rfl) rm_c d_Mo_arePeers_81 ?_
          refine go_if_eq 91 d_Mo_arePeers_84 (by decide) (fun q9 => ?_) (fun q9 => ?_)
          · rw [if_pos q9] at hf
            refine go_sub (lv' := [(0, .ref a0), (1, .int i1), (2, .int i2), (4, .int i4)]) [0, 1, 2, 4] rfl ?_
            exact g_Mo_arePeers_91 hd hk42 a0 i1 i2 i4  hf
          · rw [if_neg q9] at hf
            refine go_iconst (1 : Int32) d_Mo_arePeers_87 (by decide) ?_
            refine go_goto 92 d_Mo_arePeers_88 (by decide) ?_
            refine go_sub (lv' := [(0, .ref a0), (1, .int i1), (2, .int i2), (4, .int i4)]) [0, 1, 2, 4] rfl ?_
            exact g_Mo_arePeers_92 hd hk42 a0 i1 i2 i4 (1 : Int32)  hf
theorem t_Mo_arePeers_42 {l : Launch} {E : ET} {d : Nat} (hd : 3 ≤ d) {F : Nat} {r : Int32} {h : PH} {x : Nat}  : ∀ (n : Nat) (a0 : Nat) (i1 : Int32) (i2 : Int32) (i3 : Int32) (i4 : Int32), f_Mo_arePeers_42 F n a0 i1 i2 i3 i4 h = some r → Go l E m_Mo_arePeers (rm d 0 0) (KM E 0 0 (PoE (some (.int r)) h x)) 0 0 h x 42 [(0, .ref a0), (1, .int i1), (2, .int i2), (3, .int i3), (4, .int i4)] [] := by
  intro n
  induction n with
  | zero => intro v0 v1 v2 v3 v4 hf; cases hf
  | succ n ih => intro v0 v1 v2 v3 v4 hf; exact g_Mo_arePeers_42 hd ih v0 v1 v2 v3 v4 hf
def b_Mo_arePeers_38 (F : Nat) (a0 : Nat) (i1 : Int32) (i2 : Int32) (s0 : Int32) (h : PH) : Option Int32 :=
  f_Mo_arePeers_42 F F a0 i1 i2 s0 (0 : Int32) h
theorem g_Mo_arePeers_38 {l : Launch} {E : ET} {d : Nat} (hd : 3 ≤ d) {F : Nat} {r : Int32} {h : PH} {x : Nat}  (a0 : Nat) (i1 : Int32) (i2 : Int32) (s0 : Int32) (hf : b_Mo_arePeers_38 F a0 i1 i2 s0 h = some r) : Go l E m_Mo_arePeers (rm d 0 0) (KM E 0 0 (PoE (some (.int r)) h x)) 0 0 h x 38 [(0, .ref a0), (1, .int i1), (2, .int i2)] [.int s0] := by
  unfold b_Mo_arePeers_38 at hf
  refine go_istore_n (lv' := [(3, .int s0), (0, .ref a0), (1, .int i1), (2, .int i2)]) d_Mo_arePeers_38 rfl (by decide) ?_
  refine go_iconst (0 : Int32) d_Mo_arePeers_39 (by decide) ?_
  refine go_istore (lv' := [(4, .int (0 : Int32)), (3, .int s0), (0, .ref a0), (1, .int i1), (2, .int i2)]) d_Mo_arePeers_40 rfl (by decide) ?_
  refine go_sub (lv' := [(0, .ref a0), (1, .int i1), (2, .int i2), (3, .int s0), (4, .int (0 : Int32))]) [2, 3, 4, 1, 0] rfl ?_
  exact t_Mo_arePeers_42 hd  _ a0 i1 i2 s0 (0 : Int32)  hf
def b_Mo_arePeers_33 (F : Nat) (a0 : Nat) (i1 : Int32) (i2 : Int32) (h : PH) : Option Int32 :=
  b_Mo_arePeers_38 F a0 i1 i2 (1 : Int32) h
theorem g_Mo_arePeers_33 {l : Launch} {E : ET} {d : Nat} (hd : 3 ≤ d) {F : Nat} {r : Int32} {h : PH} {x : Nat}  (a0 : Nat) (i1 : Int32) (i2 : Int32) (hf : b_Mo_arePeers_33 F a0 i1 i2 h = some r) : Go l E m_Mo_arePeers (rm d 0 0) (KM E 0 0 (PoE (some (.int r)) h x)) 0 0 h x 33 [(0, .ref a0), (1, .int i1), (2, .int i2)] [] := by
  unfold b_Mo_arePeers_33 at hf
  refine go_iconst (1 : Int32) d_Mo_arePeers_33 (by decide) ?_
  refine go_goto 38 d_Mo_arePeers_34 (by decide) ?_
  refine go_sub (lv' := [(0, .ref a0), (1, .int i1), (2, .int i2)]) [0, 1, 2] rfl ?_
  exact g_Mo_arePeers_38 hd  a0 i1 i2 (1 : Int32)  hf
def f_Mo_arePeers (F : Nat) (a0 : Nat) (i1 : Int32) (i2 : Int32) (h : PH) : Option Int32 :=
  (if (i1 / (6 : Int32)) = (i2 / (6 : Int32)) then b_Mo_arePeers_33 F a0 i1 i2 h else (if (i1 - i1 / (6 : Int32) * (6 : Int32)) = (i2 - i2 / (6 : Int32) * (6 : Int32)) then b_Mo_arePeers_33 F a0 i1 i2 h else bnd (f_Mo_boxOf i1) fun x1 => bnd (f_Mo_boxOf i2) fun x2 => (if x1 = x2 then b_Mo_arePeers_33 F a0 i1 i2 h else b_Mo_arePeers_38 F a0 i1 i2 (0 : Int32) h)))
theorem g_Mo_arePeers_0 {l : Launch} {E : ET} {d : Nat} (hd : 3 ≤ d) {F : Nat} {r : Int32} {h : PH} {x : Nat}  (a0 : Nat) (i1 : Int32) (i2 : Int32) (hf : f_Mo_arePeers F a0 i1 i2 h = some r) : Go l E m_Mo_arePeers (rm d 0 0) (KM E 0 0 (PoE (some (.int r)) h x)) 0 0 h x 0 [(0, .ref a0), (1, .int i1), (2, .int i2)] [] := by
  unfold f_Mo_arePeers at hf
  refine go_iload_n 1 d_Mo_arePeers_0 rfl ?_
  refine go_bipush (6 : Int32) d_Mo_arePeers_1 (by decide) ?_
  refine go_idiv d_Mo_arePeers_3 (by decide) ?_
  refine go_iload_n 2 d_Mo_arePeers_4 rfl ?_
  refine go_bipush (6 : Int32) d_Mo_arePeers_5 (by decide) ?_
  refine go_idiv d_Mo_arePeers_7 (by decide) ?_
  refine go_icmp_eq 33 d_Mo_arePeers_8 (by decide) (fun q5 => ?_) (fun q5 => ?_)
  · rw [if_pos q5] at hf
    refine go_sub (lv' := [(0, .ref a0), (1, .int i1), (2, .int i2)]) [0, 1, 2] rfl ?_
    exact g_Mo_arePeers_33 hd  a0 i1 i2  hf
  · rw [if_neg q5] at hf
    refine go_iload_n 1 d_Mo_arePeers_11 rfl ?_
    refine go_bipush (6 : Int32) d_Mo_arePeers_12 (by decide) ?_
    refine go_irem d_Mo_arePeers_14 (by decide) ?_
    refine go_iload_n 2 d_Mo_arePeers_15 rfl ?_
    refine go_bipush (6 : Int32) d_Mo_arePeers_16 (by decide) ?_
    refine go_irem d_Mo_arePeers_18 (by decide) ?_
    refine go_icmp_eq 33 d_Mo_arePeers_19 (by decide) (fun q4 => ?_) (fun q4 => ?_)
    · rw [if_pos q4] at hf
      refine go_sub (lv' := [(0, .ref a0), (1, .int i1), (2, .int i2)]) [0, 1, 2] rfl ?_
      exact g_Mo_arePeers_33 hd  a0 i1 i2  hf
    · rw [if_neg q4] at hf
      refine go_iload_n 1 d_Mo_arePeers_22 rfl ?_
      obtain ⟨x1, e_x1, hf⟩ := bnd_x hf
      refine go_callS_I (As := [.int i1]) (st := []) (c_Mo_boxOf (d := d - 1) (by omega) e_x1) lk_Mo_70 rfl rfl (rm_ok (by omega)) (Nat.le_of_ble_eq_true rfl) rm_c d_Mo_arePeers_23 ?_
      refine go_iload_n 2 d_Mo_arePeers_26 rfl ?_
      obtain ⟨x2, e_x2, hf⟩ := bnd_x hf
      refine go_callS_I (As := [.int i2]) (st := [.int x1]) (c_Mo_boxOf (d := d - 1) (by omega) e_x2) lk_Mo_70 rfl rfl (rm_ok (by omega)) (Nat.le_of_ble_eq_true rfl) rm_c d_Mo_arePeers_27 ?_
      refine go_icmp_ne 37 d_Mo_arePeers_30 (by decide) (fun q3 => ?_) (fun q3 => ?_)
      · rw [if_neg q3] at hf
        refine go_iconst (0 : Int32) d_Mo_arePeers_37 (by decide) ?_
        refine go_sub (lv' := [(0, .ref a0), (1, .int i1), (2, .int i2)]) [0, 1, 2] rfl ?_
        exact g_Mo_arePeers_38 hd  a0 i1 i2 (0 : Int32)  hf
      · rw [if_pos q3] at hf
        refine go_sub (lv' := [(0, .ref a0), (1, .int i1), (2, .int i2)]) [0, 1, 2] rfl ?_
        exact g_Mo_arePeers_33 hd  a0 i1 i2  hf
theorem c_Mo_arePeers {l : Launch} {E : ET} {d : Nat} (hd : 3 ≤ d) {F : Nat} {r : Int32} {h : PH} {x : Nat} {a0 : Nat} {i1 : Int32} {i2 : Int32} (hf : f_Mo_arePeers F a0 i1 i2 h = some r) : Fn l E m_Mo_arePeers d 0 0 [.ref a0, .int i1, .int i2] h x (PoE (some (.int r)) h x) :=
  Fn.of (by decide +kernel) (Nat.le_of_ble_eq_true rfl) (g_Mo_arePeers_0 hd a0 i1 i2 hf)
theorem d_Mo_isDead_0 : decode prog_13_method_20_code 0 = .ok (.iconst 0, 1) := by decide +kernel
theorem d_Mo_isDead_1 : decode prog_13_method_20_code 1 = .ok (.istore_n 1, 1) := by decide +kernel
theorem d_Mo_isDead_2 : decode prog_13_method_20_code 2 = .ok (.iconst 0, 1) := by decide +kernel
theorem d_Mo_isDead_3 : decode prog_13_method_20_code 3 = .ok (.istore_n 2, 1) := by decide +kernel
theorem d_Mo_isDead_4 : decode prog_13_method_20_code 4 = .ok (.iload_n 2, 1) := by decide +kernel
theorem d_Mo_isDead_5 : decode prog_13_method_20_code 5 = .ok (.bipush 36, 2) := by decide +kernel
theorem d_Mo_isDead_7 : decode prog_13_method_20_code 7 = .ok (.if_icmp .ge 25, 3) := by decide +kernel
theorem d_Mo_isDead_10 : decode prog_13_method_20_code 10 = .ok (.iload_n 1, 1) := by decide +kernel
theorem d_Mo_isDead_11 : decode prog_13_method_20_code 11 = .ok (.ifCond .ne 9, 3) := by decide +kernel
theorem d_Mo_isDead_14 : decode prog_13_method_20_code 14 = .ok (.aload_n 0, 1) := by decide +kernel
theorem d_Mo_isDead_15 : decode prog_13_method_20_code 15 = .ok (.iload_n 2, 1) := by decide +kernel
theorem d_Mo_isDead_16 : decode prog_13_method_20_code 16 = .ok (.iaload, 1) := by decide +kernel
theorem d_Mo_isDead_17 : decode prog_13_method_20_code 17 = .ok (.ifCond .ne 7, 3) := by decide +kernel
theorem d_Mo_isDead_20 : decode prog_13_method_20_code 20 = .ok (.iconst 1, 1) := by decide +kernel
theorem d_Mo_isDead_21 : decode prog_13_method_20_code 21 = .ok (.goto 4, 3) := by decide +kernel
theorem d_Mo_isDead_24 : decode prog_13_method_20_code 24 = .ok (.iconst 0, 1) := by decide +kernel
theorem d_Mo_isDead_25 : decode prog_13_method_20_code 25 = .ok (.istore_n 1, 1) := by decide +kernel
theorem d_Mo_isDead_26 : decode prog_13_method_20_code 26 = .ok (.iinc 2 1, 3) := by decide +kernel
theorem d_Mo_isDead_29 : decode prog_13_method_20_code 29 = .ok (.goto (-25), 3) := by decide +kernel
theorem d_Mo_isDead_32 : decode prog_13_method_20_code 32 = .ok (.iload_n 1, 1) := by decide +kernel
theorem d_Mo_isDead_33 : decode prog_13_method_20_code 33 = .ok (.ireturn, 1) := by decide +kernel
def b_Mo_isDead_25 (F : Nat) (k4 : Nat → Int32 → Int32 → PH → Option Int32) (a0 : Nat) (i2 : Int32) (s0 : Int32) (h : PH) : Option Int32 :=
  k4 a0 s0 (i2 + (1 : Int32)) h
theorem g_Mo_isDead_25 {l : Launch} {E : ET} {d : Nat} (hd : 1 ≤ d) {F : Nat} {r : Int32} {h : PH} {x : Nat} {k4 : Nat → Int32 → Int32 → PH → Option Int32} (hk4 : ∀ (a0 : Nat) (i1 : Int32) (i2 : Int32), k4 a0 i1 i2 h = some r → Go l E m_Mo_isDead (rm d 0 0) (KM E 0 0 (PoE (some (.int r)) h x)) 0 0 h x 4 [(0, .ref a0), (1, .int i1), (2, .int i2)] []) (a0 : Nat) (i2 : Int32) (s0 : Int32) (hf : b_Mo_isDead_25 F k4 a0 i2 s0 h = some r) : Go l E m_Mo_isDead (rm d 0 0) (KM E 0 0 (PoE (some (.int r)) h x)) 0 0 h x 25 [(0, .ref a0), (2, .int i2)] [.int s0] := by
  unfold b_Mo_isDead_25 at hf
  refine go_istore_n (lv' := [(1, .int s0), (0, .ref a0), (2, .int i2)]) d_Mo_isDead_25 rfl (by decide) ?_
  refine go_iinc (lv' := [(2, .int (i2 + (1 : Int32))), (1, .int s0), (0, .ref a0)]) 2 (i2 + (1 : Int32)) d_Mo_isDead_26 rfl rfl rfl (by decide) ?_
  refine go_goto 4 d_Mo_isDead_29 (by decide) ?_
  refine go_sub (lv' := [(0, .ref a0), (1, .int s0), (2, .int (i2 + (1 : Int32)))]) [2, 1, 0] rfl ?_
  exact hk4 a0 s0 (i2 + (1 : Int32)) hf
def b_Mo_isDead_20 (F : Nat) (k4 : Nat → Int32 → Int32 → PH → Option Int32) (a0 : Nat) (i2 : Int32) (h : PH) : Option Int32 :=
  b_Mo_isDead_25 F k4 a0 i2 (1 : Int32) h
theorem g_Mo_isDead_20 {l : Launch} {E : ET} {d : Nat} (hd : 1 ≤ d) {F : Nat} {r : Int32} {h : PH} {x : Nat} {k4 : Nat → Int32 → Int32 → PH → Option Int32} (hk4 : ∀ (a0 : Nat) (i1 : Int32) (i2 : Int32), k4 a0 i1 i2 h = some r → Go l E m_Mo_isDead (rm d 0 0) (KM E 0 0 (PoE (some (.int r)) h x)) 0 0 h x 4 [(0, .ref a0), (1, .int i1), (2, .int i2)] []) (a0 : Nat) (i2 : Int32) (hf : b_Mo_isDead_20 F k4 a0 i2 h = some r) : Go l E m_Mo_isDead (rm d 0 0) (KM E 0 0 (PoE (some (.int r)) h x)) 0 0 h x 20 [(0, .ref a0), (2, .int i2)] [] := by
  unfold b_Mo_isDead_20 at hf
  refine go_iconst (1 : Int32) d_Mo_isDead_20 (by decide) ?_
  refine go_goto 25 d_Mo_isDead_21 (by decide) ?_
  refine go_sub (lv' := [(0, .ref a0), (2, .int i2)]) [0, 1] rfl ?_
  exact g_Mo_isDead_25 hd hk4 a0 i2 (1 : Int32)  hf
def b_Mo_isDead_4 (F : Nat) (k4 : Nat → Int32 → Int32 → PH → Option Int32) (a0 : Nat) (i1 : Int32) (i2 : Int32) (h : PH) : Option Int32 :=
  (if (36 : Int32) ≤ i2 then bnd (cZ i1) fun _ => some i1 else (if i1 = (0 : Int32) then bnd (aI h a0 i2) fun x2 => (if x2 = (0 : Int32) then b_Mo_isDead_20 F k4 a0 i2 h else b_Mo_isDead_25 F k4 a0 i2 (0 : Int32) h) else b_Mo_isDead_20 F k4 a0 i2 h))
def f_Mo_isDead_4 (F : Nat) : Nat → Nat → Int32 → Int32 → PH → Option Int32
  | 0 => fun _ _ _ _ => none
  | n + 1 => b_Mo_isDead_4 F (f_Mo_isDead_4 F n)
theorem g_Mo_isDead_4 {l : Launch} {E : ET} {d : Nat} (hd : 1 ≤ d) {F : Nat} {r : Int32} {h : PH} {x : Nat} {k4 : Nat → Int32 → Int32 → PH → Option Int32} (hk4 : ∀ (a0 : Nat) (i1 : Int32) (i2 : Int32), k4 a0 i1 i2 h = some r → Go l E m_Mo_isDead (rm d 0 0) (KM E 0 0 (PoE (some (.int r)) h x)) 0 0 h x 4 [(0, .ref a0), (1, .int i1), (2, .int i2)] []) (a0 : Nat) (i1 : Int32) (i2 : Int32) (hf : b_Mo_isDead_4 F k4 a0 i1 i2 h = some r) : Go l E m_Mo_isDead (rm d 0 0) (KM E 0 0 (PoE (some (.int r)) h x)) 0 0 h x 4 [(0, .ref a0), (1, .int i1), (2, .int i2)] [] := by
  unfold b_Mo_isDead_4 at hf
  refine go_iload_n 2 d_Mo_isDead_4 rfl ?_
  refine go_bipush (36 : Int32) d_Mo_isDead_5 (by decide) ?_
  refine go_icmp_ge 32 d_Mo_isDead_7 (by decide) (fun q5 => ?_) (fun q5 => ?_)
  · rw [if_pos q5] at hf
    refine go_iload_n 1 d_Mo_isDead_32 rfl ?_
    obtain ⟨_, e1, hf⟩ := bnd_x hf
    have e9 := Option.some.inj hf
    subst e9
    exact go_zret d_Mo_isDead_33 e1 rfl ⟨rfl, rfl, rfl⟩
  · rw [if_neg q5] at hf
    refine go_iload_n 1 d_Mo_isDead_10 rfl ?_
    refine go_if_ne 20 d_Mo_isDead_11 (by decide) (fun q4 => ?_) (fun q4 => ?_)
    · rw [if_neg q4] at hf
      refine go_sub (lv' := [(0, .ref a0), (2, .int i2)]) [0, 2] rfl ?_
      exact g_Mo_isDead_20 hd hk4 a0 i2  hf
    · rw [if_pos q4] at hf
      refine go_aload_n 0 d_Mo_isDead_14 rfl ?_
      refine go_iload_n 2 d_Mo_isDead_15 rfl ?_
      obtain ⟨x2, e_x2, hf⟩ := bnd_x hf
      refine go_iaload d_Mo_isDead_16 e_x2 ?_
      refine go_if_ne 24 d_Mo_isDead_17 (by decide) (fun q3 => ?_) (fun q3 => ?_)
      · rw [if_neg q3] at hf
        refine go_iconst (0 : Int32) d_Mo_isDead_24 (by decide) ?_
        refine go_sub (lv' := [(0, .ref a0), (2, .int i2)]) [0, 2] rfl ?_
        exact g_Mo_isDead_25 hd hk4 a0 i2 (0 : Int32)  hf
      · rw [if_pos q3] at hf
        refine go_sub (lv' := [(0, .ref a0), (2, .int i2)]) [0, 2] rfl ?_
        exact g_Mo_isDead_20 hd hk4 a0 i2  hf
theorem t_Mo_isDead_4 {l : Launch} {E : ET} {d : Nat} (hd : 1 ≤ d) {F : Nat} {r : Int32} {h : PH} {x : Nat}  : ∀ (n : Nat) (a0 : Nat) (i1 : Int32) (i2 : Int32), f_Mo_isDead_4 F n a0 i1 i2 h = some r → Go l E m_Mo_isDead (rm d 0 0) (KM E 0 0 (PoE (some (.int r)) h x)) 0 0 h x 4 [(0, .ref a0), (1, .int i1), (2, .int i2)] [] := by
  intro n
  induction n with
  | zero => intro v0 v1 v2 hf; cases hf
  | succ n ih => intro v0 v1 v2 hf; exact g_Mo_isDead_4 hd ih v0 v1 v2 hf
def f_Mo_isDead (F : Nat) (a0 : Nat) (h : PH) : Option Int32 :=
  f_Mo_isDead_4 F F a0 (0 : Int32) (0 : Int32) h
theorem g_Mo_isDead_0 {l : Launch} {E : ET} {d : Nat} (hd : 1 ≤ d) {F : Nat} {r : Int32} {h : PH} {x : Nat}  (a0 : Nat) (hf : f_Mo_isDead F a0 h = some r) : Go l E m_Mo_isDead (rm d 0 0) (KM E 0 0 (PoE (some (.int r)) h x)) 0 0 h x 0 [(0, .ref a0)] [] := by
  unfold f_Mo_isDead at hf
  refine go_iconst (0 : Int32) d_Mo_isDead_0 (by decide) ?_
  refine go_istore_n (lv' := [(1, .int (0 : Int32)), (0, .ref a0)]) d_Mo_isDead_1 rfl (by decide) ?_
  refine go_iconst (0 : Int32) d_Mo_isDead_2 (by decide) ?_
  refine go_istore_n (lv' := [(2, .int (0 : Int32)), (1, .int (0 : Int32)), (0, .ref a0)]) d_Mo_isDead_3 rfl (by decide) ?_
  refine go_sub (lv' := [(0, .ref a0), (1, .int (0 : Int32)), (2, .int (0 : Int32))]) [2, 1, 0] rfl ?_
  exact t_Mo_isDead_4 hd  _ a0 (0 : Int32) (0 : Int32)  hf
theorem c_Mo_isDead {l : Launch} {E : ET} {d : Nat} (hd : 1 ≤ d) {F : Nat} {r : Int32} {h : PH} {x : Nat} {a0 : Nat} (hf : f_Mo_isDead F a0 h = some r) : Fn l E m_Mo_isDead d 0 0 [.ref a0] h x (PoE (some (.int r)) h x) :=
  Fn.of (by decide +kernel) (Nat.le_of_ble_eq_true rfl) (g_Mo_isDead_0 hd a0 hf)
theorem d_Mo_placedMany_0 : decode prog_13_method_21_code 0 = .ok (.iconst 0, 1) := by decide +kernel
theorem d_Mo_placedMany_1 : decode prog_13_method_21_code 1 = .ok (.istore_n 1, 1) := by decide +kernel
theorem d_Mo_placedMany_2 : decode prog_13_method_21_code 2 = .ok (.iconst 0, 1) := by decide +kernel
theorem d_Mo_placedMany_3 : decode prog_13_method_21_code 3 = .ok (.istore_n 2, 1) := by decide +kernel
theorem d_Mo_placedMany_4 : decode prog_13_method_21_code 4 = .ok (.iload_n 2, 1) := by decide +kernel
theorem d_Mo_placedMany_5 : decode prog_13_method_21_code 5 = .ok (.bipush 36, 2) := by decide +kernel
theorem d_Mo_placedMany_7 : decode prog_13_method_21_code 7 = .ok (.if_icmp .ge 18, 3) := by decide +kernel
theorem d_Mo_placedMany_10 : decode prog_13_method_21_code 10 = .ok (.iload_n 1, 1) := by decide +kernel
theorem d_Mo_placedMany_11 : decode prog_13_method_21_code 11 = .ok (.aload_n 0, 1) := by decide +kernel
theorem d_Mo_placedMany_12 : decode prog_13_method_21_code 12 = .ok (.bipush 36, 2) := by decide +kernel
theorem d_Mo_placedMany_14 : decode prog_13_method_21_code 14 = .ok (.iload_n 2, 1) := by decide +kernel
theorem d_Mo_placedMany_15 : decode prog_13_method_21_code 15 = .ok (.iadd, 1) := by decide +kernel
theorem d_Mo_placedMany_16 : decode prog_13_method_21_code 16 = .ok (.iaload, 1) := by decide +kernel
theorem d_Mo_placedMany_17 : decode prog_13_method_21_code 17 = .ok (.iadd, 1) := by decide +kernel
theorem d_Mo_placedMany_18 : decode prog_13_method_21_code 18 = .ok (.istore_n 1, 1) := by decide +kernel
theorem d_Mo_placedMany_19 : decode prog_13_method_21_code 19 = .ok (.iinc 2 1, 3) := by decide +kernel
theorem d_Mo_placedMany_22 : decode prog_13_method_21_code 22 = .ok (.goto (-18), 3) := by decide +kernel
theorem d_Mo_placedMany_25 : decode prog_13_method_21_code 25 = .ok (.iload_n 1, 1) := by decide +kernel
theorem d_Mo_placedMany_26 : decode prog_13_method_21_code 26 = .ok (.ireturn, 1) := by decide +kernel
def b_Mo_placedMany_4 (F : Nat) (k4 : Nat → Int32 → Int32 → PH → Option Int32) (a0 : Nat) (i1 : Int32) (i2 : Int32) (h : PH) : Option Int32 :=
  (if (36 : Int32) ≤ i2 then some i1 else bnd (aI h a0 ((36 : Int32) + i2)) fun x1 => k4 a0 (i1 + x1) (i2 + (1 : Int32)) h)
def f_Mo_placedMany_4 (F : Nat) : Nat → Nat → Int32 → Int32 → PH → Option Int32
  | 0 => fun _ _ _ _ => none
  | n + 1 => b_Mo_placedMany_4 F (f_Mo_placedMany_4 F n)
theorem g_Mo_placedMany_4 {l : Launch} {E : ET} {d : Nat} (hd : 1 ≤ d) {F : Nat} {r : Int32} {h : PH} {x : Nat} {k4 : Nat → Int32 → Int32 → PH → Option Int32} (hk4 : ∀ (a0 : Nat) (i1 : Int32) (i2 : Int32), k4 a0 i1 i2 h = some r → Go l E m_Mo_placedMany (rm d 0 0) (KM E 0 0 (PoE (some (.int r)) h x)) 0 0 h x 4 [(0, .ref a0), (1, .int i1), (2, .int i2)] []) (a0 : Nat) (i1 : Int32) (i2 : Int32) (hf : b_Mo_placedMany_4 F k4 a0 i1 i2 h = some r) : Go l E m_Mo_placedMany (rm d 0 0) (KM E 0 0 (PoE (some (.int r)) h x)) 0 0 h x 4 [(0, .ref a0), (1, .int i1), (2, .int i2)] [] := by
  unfold b_Mo_placedMany_4 at hf
  refine go_iload_n 2 d_Mo_placedMany_4 rfl ?_
  refine go_bipush (36 : Int32) d_Mo_placedMany_5 (by decide) ?_
  refine go_icmp_ge 25 d_Mo_placedMany_7 (by decide) (fun q2 => ?_) (fun q2 => ?_)
  · rw [if_pos q2] at hf
    refine go_iload_n 1 d_Mo_placedMany_25 rfl ?_
    have e9 := Option.some.inj hf
    subst e9
    exact go_iret d_Mo_placedMany_26 rfl ⟨rfl, rfl, rfl⟩
  · rw [if_neg q2] at hf
    refine go_iload_n 1 d_Mo_placedMany_10 rfl ?_
    refine go_aload_n 0 d_Mo_placedMany_11 rfl ?_
    refine go_bipush (36 : Int32) d_Mo_placedMany_12 (by decide) ?_
    refine go_iload_n 2 d_Mo_placedMany_14 rfl ?_
    refine go_iadd d_Mo_placedMany_15 ?_
    obtain ⟨x1, e_x1, hf⟩ := bnd_x hf
    refine go_iaload d_Mo_placedMany_16 e_x1 ?_
    refine go_iadd d_Mo_placedMany_17 ?_
    refine go_istore_n (lv' := [(1, .int (i1 + x1)), (0, .ref a0), (2, .int i2)]) d_Mo_placedMany_18 rfl (by decide) ?_
    refine go_iinc (lv' := [(2, .int (i2 + (1 : Int32))), (1, .int (i1 + x1)), (0, .ref a0)]) 2 (i2 + (1 : Int32)) d_Mo_placedMany_19 rfl rfl rfl (by decide) ?_
    refine go_goto 4 d_Mo_placedMany_22 (by decide) ?_
    refine go_sub (lv' := [(0, .ref a0), (1, .int (i1 + x1)), (2, .int (i2 + (1 : Int32)))]) [2, 1, 0] rfl ?_
    exact hk4 a0 (i1 + x1) (i2 + (1 : Int32)) hf
theorem t_Mo_placedMany_4 {l : Launch} {E : ET} {d : Nat} (hd : 1 ≤ d) {F : Nat} {r : Int32} {h : PH} {x : Nat}  : ∀ (n : Nat) (a0 : Nat) (i1 : Int32) (i2 : Int32), f_Mo_placedMany_4 F n a0 i1 i2 h = some r → Go l E m_Mo_placedMany (rm d 0 0) (KM E 0 0 (PoE (some (.int r)) h x)) 0 0 h x 4 [(0, .ref a0), (1, .int i1), (2, .int i2)] [] := by
  intro n
  induction n with
  | zero => intro v0 v1 v2 hf; cases hf
  | succ n ih => intro v0 v1 v2 hf; exact g_Mo_placedMany_4 hd ih v0 v1 v2 hf
def f_Mo_placedMany (F : Nat) (a0 : Nat) (h : PH) : Option Int32 :=
  f_Mo_placedMany_4 F F a0 (0 : Int32) (0 : Int32) h
theorem g_Mo_placedMany_0 {l : Launch} {E : ET} {d : Nat} (hd : 1 ≤ d) {F : Nat} {r : Int32} {h : PH} {x : Nat}  (a0 : Nat) (hf : f_Mo_placedMany F a0 h = some r) : Go l E m_Mo_placedMany (rm d 0 0) (KM E 0 0 (PoE (some (.int r)) h x)) 0 0 h x 0 [(0, .ref a0)] [] := by
  unfold f_Mo_placedMany at hf
  refine go_iconst (0 : Int32) d_Mo_placedMany_0 (by decide) ?_
  refine go_istore_n (lv' := [(1, .int (0 : Int32)), (0, .ref a0)]) d_Mo_placedMany_1 rfl (by decide) ?_
  refine go_iconst (0 : Int32) d_Mo_placedMany_2 (by decide) ?_
  refine go_istore_n (lv' := [(2, .int (0 : Int32)), (1, .int (0 : Int32)), (0, .ref a0)]) d_Mo_placedMany_3 rfl (by decide) ?_
  refine go_sub (lv' := [(0, .ref a0), (1, .int (0 : Int32)), (2, .int (0 : Int32))]) [2, 1, 0] rfl ?_
  exact t_Mo_placedMany_4 hd  _ a0 (0 : Int32) (0 : Int32)  hf
theorem c_Mo_placedMany {l : Launch} {E : ET} {d : Nat} (hd : 1 ≤ d) {F : Nat} {r : Int32} {h : PH} {x : Nat} {a0 : Nat} (hf : f_Mo_placedMany F a0 h = some r) : Fn l E m_Mo_placedMany d 0 0 [.ref a0] h x (PoE (some (.int r)) h x) :=
  Fn.of (by decide +kernel) (Nat.le_of_ble_eq_true rfl) (g_Mo_placedMany_0 hd a0 hf)
theorem d_Mo_isSolved_0 : decode prog_13_method_22_code 0 = .ok (.aload_n 0, 1) := by decide +kernel
theorem d_Mo_isSolved_1 : decode prog_13_method_22_code 1 = .ok (.invokestatic 87, 3) := by decide +kernel
theorem d_Mo_isSolved_4 : decode prog_13_method_22_code 4 = .ok (.bipush 36, 2) := by decide +kernel
theorem d_Mo_isSolved_6 : decode prog_13_method_22_code 6 = .ok (.if_icmp .ne 14, 3) := by decide +kernel
theorem d_Mo_isSolved_9 : decode prog_13_method_22_code 9 = .ok (.aload_n 0, 1) := by decide +kernel
theorem d_Mo_isSolved_10 : decode prog_13_method_22_code 10 = .ok (.invokestatic 91, 3) := by decide +kernel
theorem d_Mo_isSolved_13 : decode prog_13_method_22_code 13 = .ok (.ifCond .ne 7, 3) := by decide +kernel
theorem d_Mo_isSolved_16 : decode prog_13_method_22_code 16 = .ok (.iconst 1, 1) := by decide +kernel
theorem d_Mo_isSolved_17 : decode prog_13_method_22_code 17 = .ok (.goto 4, 3) := by decide +kernel
theorem d_Mo_isSolved_20 : decode prog_13_method_22_code 20 = .ok (.iconst 0, 1) := by decide +kernel
theorem d_Mo_isSolved_21 : decode prog_13_method_22_code 21 = .ok (.ireturn, 1) := by decide +kernel
def f_Mo_isSolved (F : Nat) (a0 : Nat) (h : PH) : Option Int32 :=
  bnd (f_Mo_placedMany F a0 h) fun x1 => (if x1 = (36 : Int32) then bnd (f_Mo_isDead F a0 h) fun x2 => (if x2 = (0 : Int32) then some (1 : Int32) else some (0 : Int32)) else some (0 : Int32))
theorem g_Mo_isSolved_0 {l : Launch} {E : ET} {d : Nat} (hd : 2 ≤ d) {F : Nat} {r : Int32} {h : PH} {x : Nat}  (a0 : Nat) (hf : f_Mo_isSolved F a0 h = some r) : Go l E m_Mo_isSolved (rm d 0 0) (KM E 0 0 (PoE (some (.int r)) h x)) 0 0 h x 0 [(0, .ref a0)] [] := by
  unfold f_Mo_isSolved at hf
  refine go_aload_n 0 d_Mo_isSolved_0 rfl ?_
  obtain ⟨x1, e_x1, hf⟩ := bnd_x hf
  refine go_callS_I (As := [.ref a0]) (st := []) (c_Mo_placedMany (d := d - 1) (by omega) e_x1) lk_Mo_87 rfl rfl (rm_ok (by omega)) (Nat.le_of_ble_eq_true rfl) rm_c d_Mo_isSolved_1 ?_
  refine go_bipush (36 : Int32) d_Mo_isSolved_4 (by decide) ?_
  refine go_icmp_ne 20 d_Mo_isSolved_6 (by decide) (fun q4 => ?_) (fun q4 => ?_)
  · rw [if_neg q4] at hf
    refine go_iconst (0 : Int32) d_Mo_isSolved_20 (by decide) ?_
    have e9 := Option.some.inj hf
    subst e9
    exact go_zret d_Mo_isSolved_21 rfl rfl ⟨rfl, rfl, rfl⟩
  · rw [if_pos q4] at hf
    refine go_aload_n 0 d_Mo_isSolved_9 rfl ?_
    obtain ⟨x2, e_x2, hf⟩ := bnd_x hf
    refine go_callS_I (As := [.ref a0]) (st := []) (c_Mo_isDead (d := d - 1) (by omega) e_x2) lk_Mo_91 rfl rfl (rm_ok (by omega)) (Nat.le_of_ble_eq_true rfl) rm_c d_Mo_isSolved_10 ?_
    refine go_if_ne 20 d_Mo_isSolved_13 (by decide) (fun q3 => ?_) (fun q3 => ?_)
    · rw [if_neg q3] at hf
      refine go_iconst (0 : Int32) d_Mo_isSolved_20 (by decide) ?_
      have e9 := Option.some.inj hf
      subst e9
      exact go_zret d_Mo_isSolved_21 rfl rfl ⟨rfl, rfl, rfl⟩
    · rw [if_pos q3] at hf
      refine go_iconst (1 : Int32) d_Mo_isSolved_16 (by decide) ?_
      refine go_goto 21 d_Mo_isSolved_17 (by decide) ?_
      have e9 := Option.some.inj hf
      subst e9
      exact go_zret d_Mo_isSolved_21 rfl rfl ⟨rfl, rfl, rfl⟩
theorem c_Mo_isSolved {l : Launch} {E : ET} {d : Nat} (hd : 2 ≤ d) {F : Nat} {r : Int32} {h : PH} {x : Nat} {a0 : Nat} (hf : f_Mo_isSolved F a0 h = some r) : Fn l E m_Mo_isSolved d 0 0 [.ref a0] h x (PoE (some (.int r)) h x) :=
  Fn.of (by decide +kernel) (Nat.le_of_ble_eq_true rfl) (g_Mo_isSolved_0 hd a0 hf)
theorem d_Mo_takes_0 : decode prog_13_method_23_code 0 = .ok (.aload_n 0, 1) := by decide +kernel
theorem d_Mo_takes_1 : decode prog_13_method_23_code 1 = .ok (.dup, 1) := by decide +kernel
theorem d_Mo_takes_2 : decode prog_13_method_23_code 2 = .ok (.getfield 95, 3) := by decide +kernel
theorem d_Mo_takes_5 : decode prog_13_method_23_code 5 = .ok (.aload_n 1, 1) := by decide +kernel
theorem d_Mo_takes_6 : decode prog_13_method_23_code 6 = .ok (.iload_n 2, 1) := by decide +kernel
theorem d_Mo_takes_7 : decode prog_13_method_23_code 7 = .ok (.iaload, 1) := by decide +kernel
theorem d_Mo_takes_8 : decode prog_13_method_23_code 8 = .ok (.iload_n 3, 1) := by decide +kernel
theorem d_Mo_takes_9 : decode prog_13_method_23_code 9 = .ok (.iand, 1) := by decide +kernel
theorem d_Mo_takes_10 : decode prog_13_method_23_code 10 = .ok (.invokestatic 98, 3) := by decide +kernel
theorem d_Mo_takes_13 : decode prog_13_method_23_code 13 = .ok (.iadd, 1) := by decide +kernel
theorem d_Mo_takes_14 : decode prog_13_method_23_code 14 = .ok (.putfield 95, 3) := by decide +kernel
theorem d_Mo_takes_17 : decode prog_13_method_23_code 17 = .ok (.aload_n 1, 1) := by decide +kernel
theorem d_Mo_takes_18 : decode prog_13_method_23_code 18 = .ok (.iload_n 2, 1) := by decide +kernel
theorem d_Mo_takes_19 : decode prog_13_method_23_code 19 = .ok (.dup2, 1) := by decide +kernel
theorem d_Mo_takes_20 : decode prog_13_method_23_code 20 = .ok (.iaload, 1) := by decide +kernel
theorem d_Mo_takes_21 : decode prog_13_method_23_code 21 = .ok (.iload_n 3, 1) := by decide +kernel
theorem d_Mo_takes_22 : decode prog_13_method_23_code 22 = .ok (.iconst (-1), 1) := by decide +kernel
theorem d_Mo_takes_23 : decode prog_13_method_23_code 23 = .ok (.ixor, 1) := by decide +kernel
theorem d_Mo_takes_24 : decode prog_13_method_23_code 24 = .ok (.iand, 1) := by decide +kernel
theorem d_Mo_takes_25 : decode prog_13_method_23_code 25 = .ok (.iastore, 1) := by decide +kernel
theorem d_Mo_takes_26 : decode prog_13_method_23_code 26 = .ok (.return_, 1) := by decide +kernel
def f_Mo_takes (F : Nat) (a0 : Nat) (a1 : Nat) (i2 : Int32) (i3 : Int32) (h : PH) : Option PH :=
  bnd (gI h a0 10 8) fun x1 => bnd (aI h a1 i2) fun x2 => bnd (f_Mo_size F (x2 &&& i3)) fun x3 => bnd (pV h a0 10 8 (.int (x1 + x3))) fun h4 => bnd (aI h4 a1 i2) fun x5 => bnd (sI h4 a1 i2 (x5 &&& (i3 ^^^ (-1 : Int32)))) fun h6 => some h6
theorem g_Mo_takes_0 {l : Launch} {E : ET} {d : Nat} (hd : 2 ≤ d) {F : Nat} {h9 : PH} {x : Nat}  (a0 : Nat) (a1 : Nat) (i2 : Int32) (i3 : Int32) (h : PH) (hf : f_Mo_takes F a0 a1 i2 i3 h = some h9) : Go l E m_Mo_takes (rm d 0 0) (KM E 0 0 (PoE none h9 x)) 0 0 h x 0 [(0, .ref a0), (1, .ref a1), (2, .int i2), (3, .int i3)] [] := by
  unfold f_Mo_takes at hf
  refine go_aload_n 0 d_Mo_takes_0 rfl ?_
  refine go_dup d_Mo_takes_1 rfl ?_
  obtain ⟨x1, e_x1, hf⟩ := bnd_x hf
  refine go_get d_Mo_takes_2 (gI_x e_x1) fl_Mo_95 ?_
  refine go_aload_n 1 d_Mo_takes_5 rfl ?_
  refine go_iload_n 2 d_Mo_takes_6 rfl ?_
  obtain ⟨x2, e_x2, hf⟩ := bnd_x hf
  refine go_iaload d_Mo_takes_7 e_x2 ?_
  refine go_iload_n 3 d_Mo_takes_8 rfl ?_
  refine go_iand d_Mo_takes_9 ?_
  obtain ⟨x3, e_x3, hf⟩ := bnd_x hf
  refine go_callS_I (As := [.int (x2 &&& i3)]) (st := [.int x1, .ref a0]) (c_Mo_size (d := d - 1) (by omega) e_x3) lk_Mo_98 rfl rfl (rm_ok (by omega)) (Nat.le_of_ble_eq_true rfl) rm_c d_Mo_takes_10 ?_
  refine go_iadd d_Mo_takes_13 ?_
  obtain ⟨h4, e_h4, hf⟩ := bnd_x hf
  refine go_putI d_Mo_takes_14 e_h4 fl_Mo_95 rfl rfl ?_
  refine go_aload_n 1 d_Mo_takes_17 rfl ?_
  refine go_iload_n 2 d_Mo_takes_18 rfl ?_
  refine go_dup2 d_Mo_takes_19 rfl rfl ?_
  obtain ⟨x5, e_x5, hf⟩ := bnd_x hf
  refine go_iaload d_Mo_takes_20 e_x5 ?_
  refine go_iload_n 3 d_Mo_takes_21 rfl ?_
  refine go_iconst (-1 : Int32) d_Mo_takes_22 (by decide) ?_
  refine go_ixor d_Mo_takes_23 ?_
  refine go_iand d_Mo_takes_24 ?_
  obtain ⟨h6, e_h6, hf⟩ := bnd_x hf
  refine go_iastore d_Mo_takes_25 e_h6 ?_
  have e9 := Option.some.inj hf
  subst e9
  exact go_vret d_Mo_takes_26 rfl ⟨rfl, rfl, rfl⟩
theorem c_Mo_takes {l : Launch} {E : ET} {d : Nat} (hd : 2 ≤ d) {F : Nat} {h9 : PH} {x : Nat} {a0 : Nat} {a1 : Nat} {i2 : Int32} {i3 : Int32} {h : PH} (hf : f_Mo_takes F a0 a1 i2 i3 h = some h9) : Fn l E m_Mo_takes d 0 0 [.ref a0, .ref a1, .int i2, .int i3] h x (PoE none h9 x) :=
  Fn.of (by decide +kernel) (Nat.le_of_ble_eq_true rfl) (g_Mo_takes_0 hd a0 a1 i2 i3 h hf)
theorem d_Mo_singles_0 : decode prog_13_method_24_code 0 = .ok (.iconst 0, 1) := by decide +kernel
theorem d_Mo_singles_1 : decode prog_13_method_24_code 1 = .ok (.istore_n 2, 1) := by decide +kernel
theorem d_Mo_singles_2 : decode prog_13_method_24_code 2 = .ok (.iload_n 2, 1) := by decide +kernel
theorem d_Mo_singles_3 : decode prog_13_method_24_code 3 = .ok (.bipush 36, 2) := by decide +kernel
theorem d_Mo_singles_5 : decode prog_13_method_24_code 5 = .ok (.if_icmp .ge 74, 3) := by decide +kernel
theorem d_Mo_singles_8 : decode prog_13_method_24_code 8 = .ok (.aload_n 1, 1) := by decide +kernel
theorem d_Mo_singles_9 : decode prog_13_method_24_code 9 = .ok (.bipush 36, 2) := by decide +kernel
theorem d_Mo_singles_11 : decode prog_13_method_24_code 11 = .ok (.iload_n 2, 1) := by decide +kernel
theorem d_Mo_singles_12 : decode prog_13_method_24_code 12 = .ok (.iadd, 1) := by decide +kernel
theorem d_Mo_singles_13 : decode prog_13_method_24_code 13 = .ok (.iaload, 1) := by decide +kernel
theorem d_Mo_singles_14 : decode prog_13_method_24_code 14 = .ok (.ifCond .ne 59, 3) := by decide +kernel
theorem d_Mo_singles_17 : decode prog_13_method_24_code 17 = .ok (.aload_n 1, 1) := by decide +kernel
theorem d_Mo_singles_18 : decode prog_13_method_24_code 18 = .ok (.iload_n 2, 1) := by decide +kernel
theorem d_Mo_singles_19 : decode prog_13_method_24_code 19 = .ok (.iaload, 1) := by decide +kernel
theorem d_Mo_singles_20 : decode prog_13_method_24_code 20 = .ok (.invokestatic 98, 3) := by decide +kernel
theorem d_Mo_singles_23 : decode prog_13_method_24_code 23 = .ok (.iconst 1, 1) := by decide +kernel
theorem d_Mo_singles_24 : decode prog_13_method_24_code 24 = .ok (.if_icmp .ne 49, 3) := by decide +kernel
theorem d_Mo_singles_27 : decode prog_13_method_24_code 27 = .ok (.aload_n 1, 1) := by decide +kernel
theorem d_Mo_singles_28 : decode prog_13_method_24_code 28 = .ok (.bipush 36, 2) := by decide +kernel
theorem d_Mo_singles_30 : decode prog_13_method_24_code 30 = .ok (.iload_n 2, 1) := by decide +kernel
theorem d_Mo_singles_31 : decode prog_13_method_24_code 31 = .ok (.iadd, 1) := by decide +kernel
theorem d_Mo_singles_32 : decode prog_13_method_24_code 32 = .ok (.iconst 1, 1) := by decide +kernel
theorem d_Mo_singles_33 : decode prog_13_method_24_code 33 = .ok (.iastore, 1) := by decide +kernel
theorem d_Mo_singles_34 : decode prog_13_method_24_code 34 = .ok (.aload_n 0, 1) := by decide +kernel
theorem d_Mo_singles_35 : decode prog_13_method_24_code 35 = .ok (.iload_n 2, 1) := by decide +kernel
theorem d_Mo_singles_36 : decode prog_13_method_24_code 36 = .ok (.putfield 101, 3) := by decide +kernel
theorem d_Mo_singles_39 : decode prog_13_method_24_code 39 = .ok (.iconst 0, 1) := by decide +kernel
theorem d_Mo_singles_40 : decode prog_13_method_24_code 40 = .ok (.istore_n 3, 1) := by decide +kernel
theorem d_Mo_singles_41 : decode prog_13_method_24_code 41 = .ok (.iload_n 3, 1) := by decide +kernel
theorem d_Mo_singles_42 : decode prog_13_method_24_code 42 = .ok (.bipush 36, 2) := by decide +kernel
theorem d_Mo_singles_44 : decode prog_13_method_24_code 44 = .ok (.if_icmp .ge 27, 3) := by decide +kernel
theorem d_Mo_singles_47 : decode prog_13_method_24_code 47 = .ok (.aload_n 0, 1) := by decide +kernel
theorem d_Mo_singles_48 : decode prog_13_method_24_code 48 = .ok (.iload_n 2, 1) := by decide +kernel
theorem d_Mo_singles_49 : decode prog_13_method_24_code 49 = .ok (.iload_n 3, 1) := by decide +kernel
theorem d_Mo_singles_50 : decode prog_13_method_24_code 50 = .ok (.invokevirtual 104, 3) := by decide +kernel
theorem d_Mo_singles_53 : decode prog_13_method_24_code 53 = .ok (.ifCond .eq 12, 3) := by decide +kernel
theorem d_Mo_singles_56 : decode prog_13_method_24_code 56 = .ok (.aload_n 0, 1) := by decide +kernel
theorem d_Mo_singles_57 : decode prog_13_method_24_code 57 = .ok (.aload_n 1, 1) := by decide +kernel
theorem d_Mo_singles_58 : decode prog_13_method_24_code 58 = .ok (.iload_n 3, 1) := by decide +kernel
theorem d_Mo_singles_59 : decode prog_13_method_24_code 59 = .ok (.aload_n 1, 1) := by decide +kernel
theorem d_Mo_singles_60 : decode prog_13_method_24_code 60 = .ok (.iload_n 2, 1) := by decide +kernel
theorem d_Mo_singles_61 : decode prog_13_method_24_code 61 = .ok (.iaload, 1) := by decide +kernel
theorem d_Mo_singles_62 : decode prog_13_method_24_code 62 = .ok (.invokevirtual 107, 3) := by decide +kernel
theorem d_Mo_singles_65 : decode prog_13_method_24_code 65 = .ok (.iinc 3 1, 3) := by decide +kernel
theorem d_Mo_singles_68 : decode prog_13_method_24_code 68 = .ok (.goto (-27), 3) := by decide +kernel
theorem d_Mo_singles_71 : decode prog_13_method_24_code 71 = .ok (.iconst 1, 1) := by decide +kernel
theorem d_Mo_singles_72 : decode prog_13_method_24_code 72 = .ok (.ireturn, 1) := by decide +kernel
theorem d_Mo_singles_73 : decode prog_13_method_24_code 73 = .ok (.iinc 2 1, 3) := by decide +kernel
theorem d_Mo_singles_76 : decode prog_13_method_24_code 76 = .ok (.goto (-74), 3) := by decide +kernel
theorem d_Mo_singles_79 : decode prog_13_method_24_code 79 = .ok (.iconst 0, 1) := by decide +kernel
theorem d_Mo_singles_80 : decode prog_13_method_24_code 80 = .ok (.ireturn, 1) := by decide +kernel
def b_Mo_singles_65 (F : Nat) (k41 : Nat → Nat → Int32 → Int32 → PH → Option (Int32 × PH)) (a0 : Nat) (a1 : Nat) (i2 : Int32) (i3 : Int32) (h : PH) : Option (Int32 × PH) :=
  k41 a0 a1 i2 (i3 + (1 : Int32)) h
theorem g_Mo_singles_65 {l : Launch} {E : ET} {d : Nat} (hd : 4 ≤ d) {F : Nat} {r : Int32} {h9 : PH} {x : Nat} {k41 : Nat → Nat → Int32 → Int32 → PH → Option (Int32 × PH)} (hk41 : ∀ (a0 : Nat) (a1 : Nat) (i2 : Int32) (i3 : Int32) (hh : PH), k41 a0 a1 i2 i3 hh = some (r, h9) → Go l E m_Mo_singles (rm d 0 0) (KM E 0 0 (PoE (some (.int r)) h9 x)) 0 0 hh x 41 [(0, .ref a0), (1, .ref a1), (2, .int i2), (3, .int i3)] []) (a0 : Nat) (a1 : Nat) (i2 : Int32) (i3 : Int32) (h : PH) (hf : b_Mo_singles_65 F k41 a0 a1 i2 i3 h = some (r, h9)) : Go l E m_Mo_singles (rm d 0 0) (KM E 0 0 (PoE (some (.int r)) h9 x)) 0 0 h x 65 [(0, .ref a0), (1, .ref a1), (2, .int i2), (3, .int i3)] [] := by
  unfold b_Mo_singles_65 at hf
  refine go_iinc (lv' := [(3, .int (i3 + (1 : Int32))), (0, .ref a0), (1, .ref a1), (2, .int i2)]) 3 (i3 + (1 : Int32)) d_Mo_singles_65 rfl rfl rfl (by decide) ?_
  refine go_goto 41 d_Mo_singles_68 (by decide) ?_
  refine go_sub (lv' := [(0, .ref a0), (1, .ref a1), (2, .int i2), (3, .int (i3 + (1 : Int32)))]) [1, 2, 3, 0] rfl ?_
  exact hk41 a0 a1 i2 (i3 + (1 : Int32)) h hf
def b_Mo_singles_41 (F : Nat) (k41 : Nat → Nat → Int32 → Int32 → PH → Option (Int32 × PH)) (a0 : Nat) (a1 : Nat) (i2 : Int32) (i3 : Int32) (h : PH) : Option (Int32 × PH) :=
  (if (36 : Int32) ≤ i3 then some ((1 : Int32), h) else bnd (cK h a0 10) fun _ => bnd (f_Mo_arePeers F a0 i2 i3 h) fun x2 => (if x2 = (0 : Int32) then b_Mo_singles_65 F k41 a0 a1 i2 i3 h else bnd (aI h a1 i2) fun x3 => bnd (cK h a0 10) fun _ => bnd (f_Mo_takes F a0 a1 i3 x3 h) fun h5 => b_Mo_singles_65 F k41 a0 a1 i2 i3 h5))
def f_Mo_singles_41 (F : Nat) : Nat → Nat → Nat → Int32 → Int32 → PH → Option (Int32 × PH)
  | 0 => fun _ _ _ _ _ => none
  | n + 1 => b_Mo_singles_41 F (f_Mo_singles_41 F n)
theorem g_Mo_singles_41 {l : Launch} {E : ET} {d : Nat} (hd : 4 ≤ d) {F : Nat} {r : Int32} {h9 : PH} {x : Nat} {k41 : Nat → Nat → Int32 → Int32 → PH → Option (Int32 × PH)} (hk41 : ∀ (a0 : Nat) (a1 : Nat) (i2 : Int32) (i3 : Int32) (hh : PH), k41 a0 a1 i2 i3 hh = some (r, h9) → Go l E m_Mo_singles (rm d 0 0) (KM E 0 0 (PoE (some (.int r)) h9 x)) 0 0 hh x 41 [(0, .ref a0), (1, .ref a1), (2, .int i2), (3, .int i3)] []) (a0 : Nat) (a1 : Nat) (i2 : Int32) (i3 : Int32) (h : PH) (hf : b_Mo_singles_41 F k41 a0 a1 i2 i3 h = some (r, h9)) : Go l E m_Mo_singles (rm d 0 0) (KM E 0 0 (PoE (some (.int r)) h9 x)) 0 0 h x 41 [(0, .ref a0), (1, .ref a1), (2, .int i2), (3, .int i3)] [] := by
  unfold b_Mo_singles_41 at hf
  refine go_iload_n 3 d_Mo_singles_41 rfl ?_
  refine go_bipush (36 : Int32) d_Mo_singles_42 (by decide) ?_
  refine go_icmp_ge 71 d_Mo_singles_44 (by decide) (fun q7 => ?_) (fun q7 => ?_)
  · rw [if_pos q7] at hf
    refine go_iconst (1 : Int32) d_Mo_singles_71 (by decide) ?_
    obtain ⟨e8, e9⟩ := Prod.mk.inj (Option.some.inj hf)
    subst e8; subst e9
    exact go_zret d_Mo_singles_72 rfl rfl ⟨rfl, rfl, rfl⟩
  · rw [if_neg q7] at hf
    refine go_aload_n 0 d_Mo_singles_47 rfl ?_
    refine go_iload_n 2 d_Mo_singles_48 rfl ?_
    refine go_iload_n 3 d_Mo_singles_49 rfl ?_
    obtain ⟨_, e1, hf⟩ := bnd_x hf
    obtain ⟨x2, e_x2, hf⟩ := bnd_x hf
    refine go_callV_I (As := [.int i2, .int i3]) (st := []) (c_Mo_arePeers (d := d - 1) (by omega) e_x2) lk_Mo_104 rfl rfl e1 (by decide) rfl (rm_ok (by omega)) (Nat.le_of_ble_eq_true rfl) rm_c d_Mo_singles_50 ?_
    refine go_if_eq 65 d_Mo_singles_53 (by decide) (fun q6 => ?_) (fun q6 => ?_)
    · rw [if_pos q6] at hf
      refine go_sub (lv' := [(0, .ref a0), (1, .ref a1), (2, .int i2), (3, .int i3)]) [0, 1, 2, 3] rfl ?_
      exact g_Mo_singles_65 hd hk41 a0 a1 i2 i3 h hf
    · rw [if_neg q6] at hf
      refine go_aload_n 0 d_Mo_singles_56 rfl ?_
      refine go_aload_n 1 d_Mo_singles_57 rfl ?_
      refine go_iload_n 3 d_Mo_singles_58 rfl ?_
      refine go_aload_n 1 d_Mo_singles_59 rfl ?_
      refine go_iload_n 2 d_Mo_singles_60 rfl ?_
      obtain ⟨x3, e_x3, hf⟩ := bnd_x hf
      refine go_iaload d_Mo_singles_61 e_x3 ?_
      obtain ⟨_, e4, hf⟩ := bnd_x hf
      obtain ⟨h5, e_x5, hf⟩ := bnd_x hf
      refine go_callV_N (As := [.ref a1, .int i3, .int x3]) (st := []) (c_Mo_takes (d := d - 1) (by omega) e_x5) lk_Mo_107 rfl rfl e4 (by decide) rfl (rm_ok (by omega)) (Nat.le_of_ble_eq_true rfl) rm_c d_Mo_singles_62 ?_
      refine go_sub (lv' := [(0, .ref a0), (1, .ref a1), (2, .int i2), (3, .int i3)]) [0, 1, 2, 3] rfl ?_
      exact g_Mo_singles_65 hd hk41 a0 a1 i2 i3 h5 hf
theorem t_Mo_singles_41 {l : Launch} {E : ET} {d : Nat} (hd : 4 ≤ d) {F : Nat} {r : Int32} {h9 : PH} {x : Nat}  : ∀ (n : Nat) (a0 : Nat) (a1 : Nat) (i2 : Int32) (i3 : Int32) (hh : PH), f_Mo_singles_41 F n a0 a1 i2 i3 hh = some (r, h9) → Go l E m_Mo_singles (rm d 0 0) (KM E 0 0 (PoE (some (.int r)) h9 x)) 0 0 hh x 41 [(0, .ref a0), (1, .ref a1), (2, .int i2), (3, .int i3)] [] := by
  intro n
  induction n with
  | zero => intro v0 v1 v2 v3 v4 hf; cases hf
  | succ n ih => intro v0 v1 v2 v3 v4 hf; exact g_Mo_singles_41 hd ih v0 v1 v2 v3 v4 hf
def b_Mo_singles_73 (F : Nat) (k2 : Nat → Nat → Int32 → PH → Option (Int32 × PH)) (a0 : Nat) (a1 : Nat) (i2 : Int32) (h : PH) : Option (Int32 × PH) :=
  k2 a0 a1 (i2 + (1 : Int32)) h
theorem g_Mo_singles_73 {l : Launch} {E : ET} {d : Nat} (hd : 4 ≤ d) {F : Nat} {r : Int32} {h9 : PH} {x : Nat} {k2 : Nat → Nat → Int32 → PH → Option (Int32 × PH)} (hk2 : ∀ (a0 : Nat) (a1 : Nat) (i2 : Int32) (hh : PH), k2 a0 a1 i2 hh = some (r, h9) → Go l E m_Mo_singles (rm d 0 0) (KM E 0 0 (PoE (some (.int r)) h9 x)) 0 0 hh x 2 [(0, .ref a0), (1, .ref a1), (2, .int i2)] []) (a0 : Nat) (a1 : Nat) (i2 : Int32) (h : PH) (hf : b_Mo_singles_73 F k2 a0 a1 i2 h = some (r, h9)) : Go l E m_Mo_singles (rm d 0 0) (KM E 0 0 (PoE (some (.int r)) h9 x)) 0 0 h x 73 [(0, .ref a0), (1, .ref a1), (2, .int i2)] [] := by
  unfold b_Mo_singles_73 at hf
  refine go_iinc (lv' := [(2, .int (i2 + (1 : Int32))), (0, .ref a0), (1, .ref a1)]) 2 (i2 + (1 : Int32)) d_Mo_singles_73 rfl rfl rfl (by decide) ?_
  refine go_goto 2 d_Mo_singles_76 (by decide) ?_
  refine go_sub (lv' := [(0, .ref a0), (1, .ref a1), (2, .int (i2 + (1 : Int32)))]) [1, 2, 0] rfl ?_
  exact hk2 a0 a1 (i2 + (1 : Int32)) h hf
def b_Mo_singles_2 (F : Nat) (k2 : Nat → Nat → Int32 → PH → Option (Int32 × PH)) (a0 : Nat) (a1 : Nat) (i2 : Int32) (h : PH) : Option (Int32 × PH) :=
  (if (36 : Int32) ≤ i2 then some ((0 : Int32), h) else bnd (aI h a1 ((36 : Int32) + i2)) fun x1 => (if x1 = (0 : Int32) then bnd (aI h a1 i2) fun x2 => bnd (f_Mo_size F x2) fun x3 => (if x3 = (1 : Int32) then bnd (sI h a1 ((36 : Int32) + i2) (1 : Int32)) fun h4 => bnd (pV h4 a0 10 7 (.int i2)) fun h5 => f_Mo_singles_41 F F a0 a1 i2 (0 : Int32) h5 else b_Mo_singles_73 F k2 a0 a1 i2 h) else b_Mo_singles_73 F k2 a0 a1 i2 h))
def f_Mo_singles_2 (F : Nat) : Nat → Nat → Nat → Int32 → PH → Option (Int32 × PH)
  | 0 => fun _ _ _ _ => none
  | n + 1 => b_Mo_singles_2 F (f_Mo_singles_2 F n)
theorem g_Mo_singles_2 {l : Launch} {E : ET} {d : Nat} (hd : 4 ≤ d) {F : Nat} {r : Int32} {h9 : PH} {x : Nat} {k2 : Nat → Nat → Int32 → PH → Option (Int32 × PH)} (hk2 : ∀ (a0 : Nat) (a1 : Nat) (i2 : Int32) (hh : PH), k2 a0 a1 i2 hh = some (r, h9) → Go l E m_Mo_singles (rm d 0 0) (KM E 0 0 (PoE (some (.int r)) h9 x)) 0 0 hh x 2 [(0, .ref a0), (1, .ref a1), (2, .int i2)] []) (a0 : Nat) (a1 : Nat) (i2 : Int32) (h : PH) (hf : b_Mo_singles_2 F k2 a0 a1 i2 h = some (r, h9)) : Go l E m_Mo_singles (rm d 0 0) (KM E 0 0 (PoE (some (.int r)) h9 x)) 0 0 h x 2 [(0, .ref a0), (1, .ref a1), (2, .int i2)] [] := by
  unfold b_Mo_singles_2 at hf
  refine go_iload_n 2 d_Mo_singles_2 rfl ?_
  refine go_bipush (36 : Int32) d_Mo_singles_3 (by decide) ?_
  refine go_icmp_ge 79 d_Mo_singles_5 (by decide) (fun q8 => ?_) (fun q8 => ?_)
  · rw [if_pos q8] at hf
    refine go_iconst (0 : Int32) d_Mo_singles_79 (by decide) ?_
    obtain ⟨e8, e9⟩ := Prod.mk.inj (Option.some.inj hf)
    subst e8; subst e9
    exact go_zret d_Mo_singles_80 rfl rfl ⟨rfl, rfl, rfl⟩
  · rw [if_neg q8] at hf
    refine go_aload_n 1 d_Mo_singles_8 rfl ?_
    refine go_bipush (36 : Int32) d_Mo_singles_9 (by decide) ?_
    refine go_iload_n 2 d_Mo_singles_11 rfl ?_
    refine go_iadd d_Mo_singles_12 ?_
    obtain ⟨x1, e_x1, hf⟩ := bnd_x hf
    refine go_iaload d_Mo_singles_13 e_x1 ?_
    refine go_if_ne 73 d_Mo_singles_14 (by decide) (fun q7 => ?_) (fun q7 => ?_)
    · rw [if_neg q7] at hf
      refine go_sub (lv' := [(0, .ref a0), (1, .ref a1), (2, .int i2)]) [0, 1, 2] rfl ?_
      exact g_Mo_singles_73 hd hk2 a0 a1 i2 h hf
    · rw [if_pos q7] at hf
      refine go_aload_n 1 d_Mo_singles_17 rfl ?_
      refine go_iload_n 2 d_Mo_singles_18 rfl ?_
      obtain ⟨x2, e_x2, hf⟩ := bnd_x hf
      refine go_iaload d_Mo_singles_19 e_x2 ?_
      obtain ⟨x3, e_x3, hf⟩ := bnd_x hf
      refine go_callS_I (As := [.int x2]) (st := []) (c_Mo_size (d := d - 1) (by omega) e_x3) lk_Mo_98 rfl rfl (rm_ok (by omega)) (Nat.le_of_ble_eq_true rfl) rm_c d_Mo_singles_20 ?_
      refine go_iconst (1 : Int32) d_Mo_singles_23 (by decide) ?_
      refine go_icmp_ne 73 d_Mo_singles_24 (by decide) (fun q6 => ?_) (fun q6 => ?_)
      · rw [if_neg q6] at hf
        refine go_sub (lv' := [(0, .ref a0), (1, .ref a1), (2, .int i2)]) [0, 1, 2] rfl ?_
        exact g_Mo_singles_73 hd hk2 a0 a1 i2 h hf
      · rw [if_pos q6] at hf
        refine go_aload_n 1 d_Mo_singles_27 rfl ?_
        refine go_bipush (36 : Int32) d_Mo_singles_28 (by decide) ?_
        refine go_iload_n 2 d_Mo_singles_30 rfl ?_
        refine go_iadd d_Mo_singles_31 ?_
        refine go_iconst (1 : Int32) d_Mo_singles_32 (by decide) ?_
        obtain ⟨h4, e_h4, hf⟩ := bnd_x hf
        refine go_iastore d_Mo_singles_33 e_h4 ?_
        refine go_aload_n 0 d_Mo_singles_34 rfl ?_
        refine go_iload_n 2 d_Mo_singles_35 rfl ?_
        obtain ⟨h5, e_h5, hf⟩ := bnd_x hf
        refine go_putI d_Mo_singles_36 e_h5 fl_Mo_101 rfl rfl ?_
        refine go_iconst (0 : Int32) d_Mo_singles_39 (by decide) ?_
        refine go_istore_n (lv' := [(3, .int (0 : Int32)), (0, .ref a0), (1, .ref a1), (2, .int i2)]) d_Mo_singles_40 rfl (by decide) ?_
        refine go_sub (lv' := [(0, .ref a0), (1, .ref a1), (2, .int i2), (3, .int (0 : Int32))]) [1, 2, 3, 0] rfl ?_
        exact t_Mo_singles_41 hd  _ a0 a1 i2 (0 : Int32) h5 hf
theorem t_Mo_singles_2 {l : Launch} {E : ET} {d : Nat} (hd : 4 ≤ d) {F : Nat} {r : Int32} {h9 : PH} {x : Nat}  : ∀ (n : Nat) (a0 : Nat) (a1 : Nat) (i2 : Int32) (hh : PH), f_Mo_singles_2 F n a0 a1 i2 hh = some (r, h9) → Go l E m_Mo_singles (rm d 0 0) (KM E 0 0 (PoE (some (.int r)) h9 x)) 0 0 hh x 2 [(0, .ref a0), (1, .ref a1), (2, .int i2)] [] := by
  intro n
  induction n with
  | zero => intro v0 v1 v2 v3 hf; cases hf
  | succ n ih => intro v0 v1 v2 v3 hf; exact g_Mo_singles_2 hd ih v0 v1 v2 v3 hf
def f_Mo_singles (F : Nat) (a0 : Nat) (a1 : Nat) (h : PH) : Option (Int32 × PH) :=
  f_Mo_singles_2 F F a0 a1 (0 : Int32) h
theorem g_Mo_singles_0 {l : Launch} {E : ET} {d : Nat} (hd : 4 ≤ d) {F : Nat} {r : Int32} {h9 : PH} {x : Nat}  (a0 : Nat) (a1 : Nat) (h : PH) (hf : f_Mo_singles F a0 a1 h = some (r, h9)) : Go l E m_Mo_singles (rm d 0 0) (KM E 0 0 (PoE (some (.int r)) h9 x)) 0 0 h x 0 [(0, .ref a0), (1, .ref a1)] [] := by
  unfold f_Mo_singles at hf
  refine go_iconst (0 : Int32) d_Mo_singles_0 (by decide) ?_
  refine go_istore_n (lv' := [(2, .int (0 : Int32)), (0, .ref a0), (1, .ref a1)]) d_Mo_singles_1 rfl (by decide) ?_
  refine go_sub (lv' := [(0, .ref a0), (1, .ref a1), (2, .int (0 : Int32))]) [1, 2, 0] rfl ?_
  exact t_Mo_singles_2 hd  _ a0 a1 (0 : Int32) h hf
theorem c_Mo_singles {l : Launch} {E : ET} {d : Nat} (hd : 4 ≤ d) {F : Nat} {r : Int32} {h9 : PH} {x : Nat} {a0 : Nat} {a1 : Nat} {h : PH} (hf : f_Mo_singles F a0 a1 h = some (r, h9)) : Fn l E m_Mo_singles d 0 0 [.ref a0, .ref a1] h x (PoE (some (.int r)) h9 x) :=
  Fn.of (by decide +kernel) (Nat.le_of_ble_eq_true rfl) (g_Mo_singles_0 hd a0 a1 h hf)
theorem d_Mo_onlyPlaces_0 : decode prog_13_method_25_code 0 = .ok (.iconst 0, 1) := by decide +kernel
theorem d_Mo_onlyPlaces_1 : decode prog_13_method_25_code 1 = .ok (.istore_n 2, 1) := by decide +kernel
theorem d_Mo_onlyPlaces_2 : decode prog_13_method_25_code 2 = .ok (.iload_n 2, 1) := by decide +kernel
theorem d_Mo_onlyPlaces_3 : decode prog_13_method_25_code 3 = .ok (.bipush 18, 2) := by decide +kernel
theorem d_Mo_onlyPlaces_5 : decode prog_13_method_25_code 5 = .ok (.if_icmp .ge 133, 3) := by decide +kernel
theorem d_Mo_onlyPlaces_8 : decode prog_13_method_25_code 8 = .ok (.iconst 1, 1) := by decide +kernel
theorem d_Mo_onlyPlaces_9 : decode prog_13_method_25_code 9 = .ok (.istore_n 3, 1) := by decide +kernel
theorem d_Mo_onlyPlaces_10 : decode prog_13_method_25_code 10 = .ok (.iload_n 3, 1) := by decide +kernel
theorem d_Mo_onlyPlaces_11 : decode prog_13_method_25_code 11 = .ok (.bipush 7, 2) := by decide +kernel
theorem d_Mo_onlyPlaces_13 : decode prog_13_method_25_code 13 = .ok (.if_icmp .ge 119, 3) := by decide +kernel
theorem d_Mo_onlyPlaces_16 : decode prog_13_method_25_code 16 = .ok (.iconst 0, 1) := by decide +kernel
theorem d_Mo_onlyPlaces_17 : decode prog_13_method_25_code 17 = .ok (.istore 4, 2) := by decide +kernel
theorem d_Mo_onlyPlaces_19 : decode prog_13_method_25_code 19 = .ok (.iconst 0, 1) := by decide +kernel
theorem d_Mo_onlyPlaces_20 : decode prog_13_method_25_code 20 = .ok (.istore 5, 2) := by decide +kernel
theorem d_Mo_onlyPlaces_22 : decode prog_13_method_25_code 22 = .ok (.iconst 0, 1) := by decide +kernel
theorem d_Mo_onlyPlaces_23 : decode prog_13_method_25_code 23 = .ok (.istore 6, 2) := by decide +kernel
theorem d_Mo_onlyPlaces_25 : decode prog_13_method_25_code 25 = .ok (.iload 6, 2) := by decide +kernel
theorem d_Mo_onlyPlaces_27 : decode prog_13_method_25_code 27 = .ok (.bipush 6, 2) := by decide +kernel
theorem d_Mo_onlyPlaces_29 : decode prog_13_method_25_code 29 = .ok (.if_icmp .ge 58, 3) := by decide +kernel
theorem d_Mo_onlyPlaces_32 : decode prog_13_method_25_code 32 = .ok (.iload_n 2, 1) := by decide +kernel
theorem d_Mo_onlyPlaces_33 : decode prog_13_method_25_code 33 = .ok (.iload 6, 2) := by decide +kernel
theorem d_Mo_onlyPlaces_35 : decode prog_13_method_25_code 35 = .ok (.invokestatic 111, 3) := by decide +kernel
theorem d_Mo_onlyPlaces_38 : decode prog_13_method_25_code 38 = .ok (.istore 7, 2) := by decide +kernel
theorem d_Mo_onlyPlaces_40 : decode prog_13_method_25_code 40 = .ok (.iload 4, 2) := by decide +kernel
theorem d_Mo_onlyPlaces_42 : decode prog_13_method_25_code 42 = .ok (.aload_n 1, 1) := by decide +kernel
theorem d_Mo_onlyPlaces_43 : decode prog_13_method_25_code 43 = .ok (.iload 7, 2) := by decide +kernel
theorem d_Mo_onlyPlaces_45 : decode prog_13_method_25_code 45 = .ok (.iaload, 1) := by decide +kernel
theorem d_Mo_onlyPlaces_46 : decode prog_13_method_25_code 46 = .ok (.iload_n 3, 1) := by decide +kernel
theorem d_Mo_onlyPlaces_47 : decode prog_13_method_25_code 47 = .ok (.invokestatic 66, 3) := by decide +kernel
theorem d_Mo_onlyPlaces_50 : decode prog_13_method_25_code 50 = .ok (.ifCond .eq 7, 3) := by decide +kernel
theorem d_Mo_onlyPlaces_53 : decode prog_13_method_25_code 53 = .ok (.iconst 1, 1) := by decide +kernel
theorem d_Mo_onlyPlaces_54 : decode prog_13_method_25_code 54 = .ok (.goto 4, 3) := by decide +kernel
theorem d_Mo_onlyPlaces_57 : decode prog_13_method_25_code 57 = .ok (.iconst 0, 1) := by decide +kernel
theorem d_Mo_onlyPlaces_58 : decode prog_13_method_25_code 58 = .ok (.iadd, 1) := by decide +kernel
theorem d_Mo_onlyPlaces_59 : decode prog_13_method_25_code 59 = .ok (.istore 4, 2) := by decide +kernel
theorem d_Mo_onlyPlaces_61 : decode prog_13_method_25_code 61 = .ok (.aload_n 1, 1) := by decide +kernel
theorem d_Mo_onlyPlaces_62 : decode prog_13_method_25_code 62 = .ok (.iload 7, 2) := by decide +kernel
theorem d_Mo_onlyPlaces_64 : decode prog_13_method_25_code 64 = .ok (.iaload, 1) := by decide +kernel
theorem d_Mo_onlyPlaces_65 : decode prog_13_method_25_code 65 = .ok (.iload_n 3, 1) := by decide +kernel
theorem d_Mo_onlyPlaces_66 : decode prog_13_method_25_code 66 = .ok (.invokestatic 66, 3) := by decide +kernel
theorem d_Mo_onlyPlaces_69 : decode prog_13_method_25_code 69 = .ok (.ifCond .eq 8, 3) := by decide +kernel
theorem d_Mo_onlyPlaces_72 : decode prog_13_method_25_code 72 = .ok (.iload 7, 2) := by decide +kernel
theorem d_Mo_onlyPlaces_74 : decode prog_13_method_25_code 74 = .ok (.goto 5, 3) := by decide +kernel
theorem d_Mo_onlyPlaces_77 : decode prog_13_method_25_code 77 = .ok (.iload 5, 2) := by decide +kernel
theorem d_Mo_onlyPlaces_79 : decode prog_13_method_25_code 79 = .ok (.istore 5, 2) := by decide +kernel
theorem d_Mo_onlyPlaces_81 : decode prog_13_method_25_code 81 = .ok (.iinc 6 1, 3) := by decide +kernel
theorem d_Mo_onlyPlaces_84 : decode prog_13_method_25_code 84 = .ok (.goto (-59), 3) := by decide +kernel
theorem d_Mo_onlyPlaces_87 : decode prog_13_method_25_code 87 = .ok (.iload 4, 2) := by decide +kernel
theorem d_Mo_onlyPlaces_89 : decode prog_13_method_25_code 89 = .ok (.iconst 1, 1) := by decide +kernel
theorem d_Mo_onlyPlaces_90 : decode prog_13_method_25_code 90 = .ok (.if_icmp .ne 36, 3) := by decide +kernel
theorem d_Mo_onlyPlaces_93 : decode prog_13_method_25_code 93 = .ok (.aload_n 1, 1) := by decide +kernel
theorem d_Mo_onlyPlaces_94 : decode prog_13_method_25_code 94 = .ok (.iload 5, 2) := by decide +kernel
theorem d_Mo_onlyPlaces_96 : decode prog_13_method_25_code 96 = .ok (.iaload, 1) := by decide +kernel
theorem d_Mo_onlyPlaces_97 : decode prog_13_method_25_code 97 = .ok (.invokestatic 98, 3) := by decide +kernel
theorem d_Mo_onlyPlaces_100 : decode prog_13_method_25_code 100 = .ok (.iconst 1, 1) := by decide +kernel
theorem d_Mo_onlyPlaces_101 : decode prog_13_method_25_code 101 = .ok (.if_icmp .le 25, 3) := by decide +kernel
theorem d_Mo_onlyPlaces_104 : decode prog_13_method_25_code 104 = .ok (.aload_n 0, 1) := by decide +kernel
theorem d_Mo_onlyPlaces_105 : decode prog_13_method_25_code 105 = .ok (.iload_n 2, 1) := by decide +kernel
theorem d_Mo_onlyPlaces_106 : decode prog_13_method_25_code 106 = .ok (.putfield 101, 3) := by decide +kernel
theorem d_Mo_onlyPlaces_109 : decode prog_13_method_25_code 109 = .ok (.aload_n 0, 1) := by decide +kernel
theorem d_Mo_onlyPlaces_110 : decode prog_13_method_25_code 110 = .ok (.aload_n 1, 1) := by decide +kernel
theorem d_Mo_onlyPlaces_111 : decode prog_13_method_25_code 111 = .ok (.iload 5, 2) := by decide +kernel
theorem d_Mo_onlyPlaces_113 : decode prog_13_method_25_code 113 = .ok (.bipush 126, 2) := by decide +kernel
theorem d_Mo_onlyPlaces_115 : decode prog_13_method_25_code 115 = .ok (.iconst 1, 1) := by decide +kernel
theorem d_Mo_onlyPlaces_116 : decode prog_13_method_25_code 116 = .ok (.iload_n 3, 1) := by decide +kernel
theorem d_Mo_onlyPlaces_117 : decode prog_13_method_25_code 117 = .ok (.ishl, 1) := by decide +kernel
theorem d_Mo_onlyPlaces_118 : decode prog_13_method_25_code 118 = .ok (.iconst (-1), 1) := by decide +kernel
theorem d_Mo_onlyPlaces_119 : decode prog_13_method_25_code 119 = .ok (.ixor, 1) := by decide +kernel
theorem d_Mo_onlyPlaces_120 : decode prog_13_method_25_code 120 = .ok (.iand, 1) := by decide +kernel
theorem d_Mo_onlyPlaces_121 : decode prog_13_method_25_code 121 = .ok (.invokevirtual 107, 3) := by decide +kernel
theorem d_Mo_onlyPlaces_124 : decode prog_13_method_25_code 124 = .ok (.iconst 1, 1) := by decide +kernel
theorem d_Mo_onlyPlaces_125 : decode prog_13_method_25_code 125 = .ok (.ireturn, 1) := by decide +kernel
theorem d_Mo_onlyPlaces_126 : decode prog_13_method_25_code 126 = .ok (.iinc 3 1, 3) := by decide +kernel
theorem d_Mo_onlyPlaces_129 : decode prog_13_method_25_code 129 = .ok (.goto (-119), 3) := by decide +kernel
theorem d_Mo_onlyPlaces_132 : decode prog_13_method_25_code 132 = .ok (.iinc 2 1, 3) := by decide +kernel
theorem d_Mo_onlyPlaces_135 : decode prog_13_method_25_code 135 = .ok (.goto (-133), 3) := by decide +kernel
theorem d_Mo_onlyPlaces_138 : decode prog_13_method_25_code 138 = .ok (.iconst 0, 1) := by decide +kernel
theorem d_Mo_onlyPlaces_139 : decode prog_13_method_25_code 139 = .ok (.ireturn, 1) := by decide +kernel
def b_Mo_onlyPlaces_79 (F : Nat) (k25 : Nat → Nat → Int32 → Int32 → Int32 → Int32 → Int32 → PH → Option (Int32 × PH)) (a0 : Nat) (a1 : Nat) (i2 : Int32) (i3 : Int32) (i4 : Int32) (i6 : Int32) (s0 : Int32) (h : PH) : Option (Int32 × PH) :=
  k25 a0 a1 i2 i3 i4 s0 (i6 + (1 : Int32)) h
theorem g_Mo_onlyPlaces_79 {l : Launch} {E : ET} {d : Nat} (hd : 3 ≤ d) {F : Nat} {r : Int32} {h9 : PH} {x : Nat} {k25 : Nat → Nat → Int32 → Int32 → Int32 → Int32 → Int32 → PH → Option (Int32 × PH)} (hk25 : ∀ (a0 : Nat) (a1 : Nat) (i2 : Int32) (i3 : Int32) (i4 : Int32) (i5 : Int32) (i6 : Int32) (hh : PH), k25 a0 a1 i2 i3 i4 i5 i6 hh = some (r, h9) → Go l E m_Mo_onlyPlaces (rm d 0 0) (KM E 0 0 (PoE (some (.int r)) h9 x)) 0 0 hh x 25 [(0, .ref a0), (1, .ref a1), (2, .int i2), (3, .int i3), (4, .int i4), (5, .int i5), (6, .int i6)] []) (a0 : Nat) (a1 : Nat) (i2 : Int32) (i3 : Int32) (i4 : Int32) (i6 : Int32) (s0 : Int32) (h : PH) (hf : b_Mo_onlyPlaces_79 F k25 a0 a1 i2 i3 i4 i6 s0 h = some (r, h9)) : Go l E m_Mo_onlyPlaces (rm d 0 0) (KM E 0 0 (PoE (some (.int r)) h9 x)) 0 0 h x 79 [(0, .ref a0), (1, .ref a1), (2, .int i2), (3, .int i3), (4, .int i4), (6, .int i6)] [.int s0] := by
  unfold b_Mo_onlyPlaces_79 at hf
  refine go_istore (lv' := [(5, .int s0), (0, .ref a0), (1, .ref a1), (2, .int i2), (3, .int i3), (4, .int i4), (6, .int i6)]) d_Mo_onlyPlaces_79 rfl (by decide) ?_
  refine go_iinc (lv' := [(6, .int (i6 + (1 : Int32))), (5, .int s0), (0, .ref a0), (1, .ref a1), (2, .int i2), (3, .int i3), (4, .int i4)]) 6 (i6 + (1 : Int32)) d_Mo_onlyPlaces_81 rfl rfl rfl (by decide) ?_
  refine go_goto 25 d_Mo_onlyPlaces_84 (by decide) ?_
  refine go_sub (lv' := [(0, .ref a0), (1, .ref a1), (2, .int i2), (3, .int i3), (4, .int i4), (5, .int s0), (6, .int (i6 + (1 : Int32)))]) [2, 3, 4, 5, 6, 1, 0] rfl ?_
  exact hk25 a0 a1 i2 i3 i4 s0 (i6 + (1 : Int32)) h hf
def b_Mo_onlyPlaces_58 (F : Nat) (k25 : Nat → Nat → Int32 → Int32 → Int32 → Int32 → Int32 → PH → Option (Int32 × PH)) (a0 : Nat) (a1 : Nat) (i2 : Int32) (i3 : Int32) (i5 : Int32) (i6 : Int32) (i7 : Int32) (s0 : Int32) (s1 : Int32) (h : PH) : Option (Int32 × PH) :=
  bnd (aI h a1 i7) fun x1 => bnd (f_Mo_has x1 i3) fun x2 => (if x2 = (0 : Int32) then b_Mo_onlyPlaces_79 F k25 a0 a1 i2 i3 (s1 + s0) i6 i5 h else b_Mo_onlyPlaces_79 F k25 a0 a1 i2 i3 (s1 + s0) i6 i7 h)
theorem g_Mo_onlyPlaces_58 {l : Launch} {E : ET} {d : Nat} (hd : 3 ≤ d) {F : Nat} {r : Int32} {h9 : PH} {x : Nat} {k25 : Nat → Nat → Int32 → Int32 → Int32 → Int32 → Int32 → PH → Option (Int32 × PH)} (hk25 : ∀ (a0 : Nat) (a1 : Nat) (i2 : Int32) (i3 : Int32) (i4 : Int32) (i5 : Int32) (i6 : Int32) (hh : PH), k25 a0 a1 i2 i3 i4 i5 i6 hh = some (r, h9) → Go l E m_Mo_onlyPlaces (rm d 0 0) (KM E 0 0 (PoE (some (.int r)) h9 x)) 0 0 hh x 25 [(0, .ref a0), (1, .ref a1), (2, .int i2), (3, .int i3), (4, .int i4), (5, .int i5), (6, .int i6)] []) (a0 : Nat) (a1 : Nat) (i2 : Int32) (i3 : Int32) (i5 : Int32) (i6 : Int32) (i7 : Int32) (s0 : Int32) (s1 : Int32) (h : PH) (hf : b_Mo_onlyPlaces_58 F k25 a0 a1 i2 i3 i5 i6 i7 s0 s1 h = some (r, h9)) : Go l E m_Mo_onlyPlaces (rm d 0 0) (KM E 0 0 (PoE (some (.int r)) h9 x)) 0 0 h x 58 [(0, .ref a0), (1, .ref a1), (2, .int i2), (3, .int i3), (5, .int i5), (6, .int i6), (7, .int i7)] [.int s0, .int s1] := by
  unfold b_Mo_onlyPlaces_58 at hf
  refine go_iadd d_Mo_onlyPlaces_58 ?_
  refine go_istore (lv' := [(4, .int (s1 + s0)), (0, .ref a0), (1, .ref a1), (2, .int i2), (3, .int i3), (5, .int i5), (6, .int i6), (7, .int i7)]) d_Mo_onlyPlaces_59 rfl (by decide) ?_
  refine go_aload_n 2 d_Mo_onlyPlaces_61 rfl ?_
  refine go_iload 7 d_Mo_onlyPlaces_62 rfl ?_
  obtain ⟨x1, e_x1, hf⟩ := bnd_x hf
  refine go_iaload d_Mo_onlyPlaces_64 e_x1 ?_
  refine go_iload_n 4 d_Mo_onlyPlaces_65 rfl ?_
  obtain ⟨x2, e_x2, hf⟩ := bnd_x hf
  refine go_callS_I (As := [.int x1, .int i3]) (st := []) (c_Mo_has (d := d - 1) (by omega) e_x2) lk_Mo_66 rfl rfl (rm_ok (by omega)) (Nat.le_of_ble_eq_true rfl) rm_c d_Mo_onlyPlaces_66 ?_
  refine go_if_eq 77 d_Mo_onlyPlaces_69 (by decide) (fun q3 => ?_) (fun q3 => ?_)
  · rw [if_pos q3] at hf
    refine go_iload 5 d_Mo_onlyPlaces_77 rfl ?_
    refine go_sub (lv' := [(0, .ref a0), (1, .ref a1), (2, .int i2), (3, .int i3), (4, .int (s1 + s0)), (6, .int i6)]) [1, 2, 3, 4, 0, 6] rfl ?_
    exact g_Mo_onlyPlaces_79 hd hk25 a0 a1 i2 i3 (s1 + s0) i6 i5 h hf
  · rw [if_neg q3] at hf
    refine go_iload 7 d_Mo_onlyPlaces_72 rfl ?_
    refine go_goto 79 d_Mo_onlyPlaces_74 (by decide) ?_
    refine go_sub (lv' := [(0, .ref a0), (1, .ref a1), (2, .int i2), (3, .int i3), (4, .int (s1 + s0)), (6, .int i6)]) [1, 2, 3, 4, 0, 6] rfl ?_
    exact g_Mo_onlyPlaces_79 hd hk25 a0 a1 i2 i3 (s1 + s0) i6 i7 h hf
def b_Mo_onlyPlaces_126 (F : Nat) (k10 : Nat → Nat → Int32 → Int32 → PH → Option (Int32 × PH)) (a0 : Nat) (a1 : Nat) (i2 : Int32) (i3 : Int32) (h : PH) : Option (Int32 × PH) :=
  k10 a0 a1 i2 (i3 + (1 : Int32)) h
theorem g_Mo_onlyPlaces_126 {l : Launch} {E : ET} {d : Nat} (hd : 3 ≤ d) {F : Nat} {r : Int32} {h9 : PH} {x : Nat} {k10 : Nat → Nat → Int32 → Int32 → PH → Option (Int32 × PH)} (hk10 : ∀ (a0 : Nat) (a1 : Nat) (i2 : Int32) (i3 : Int32) (hh : PH), k10 a0 a1 i2 i3 hh = some (r, h9) → Go l E m_Mo_onlyPlaces (rm d 0 0) (KM E 0 0 (PoE (some (.int r)) h9 x)) 0 0 hh x 10 [(0, .ref a0), (1, .ref a1), (2, .int i2), (3, .int i3)] []) (a0 : Nat) (a1 : Nat) (i2 : Int32) (i3 : Int32) (h : PH) (hf : b_Mo_onlyPlaces_126 F k10 a0 a1 i2 i3 h = some (r, h9)) : Go l E m_Mo_onlyPlaces (rm d 0 0) (KM E 0 0 (PoE (some (.int r)) h9 x)) 0 0 h x 126 [(0, .ref a0), (1, .ref a1), (2, .int i2), (3, .int i3)] [] := by
  unfold b_Mo_onlyPlaces_126 at hf
  refine go_iinc (lv' := [(3, .int (i3 + (1 : Int32))), (0, .ref a0), (1, .ref a1), (2, .int i2)]) 3 (i3 + (1 : Int32)) d_Mo_onlyPlaces_126 rfl rfl rfl (by decide) ?_
  refine go_goto 10 d_Mo_onlyPlaces_129 (by decide) ?_
  refine go_sub (lv' := [(0, .ref a0), (1, .ref a1), (2, .int i2), (3, .int (i3 + (1 : Int32)))]) [1, 2, 3, 0] rfl ?_
  exact hk10 a0 a1 i2 (i3 + (1 : Int32)) h hf
def b_Mo_onlyPlaces_25 (F : Nat) (k10 : Nat → Nat → Int32 → Int32 → PH → Option (Int32 × PH)) (k25 : Nat → Nat → Int32 → Int32 → Int32 → Int32 → Int32 → PH → Option (Int32 × PH)) (a0 : Nat) (a1 : Nat) (i2 : Int32) (i3 : Int32) (i4 : Int32) (i5 : Int32) (i6 : Int32) (h : PH) : Option (Int32 × PH) :=
  (if (6 : Int32) ≤ i6 then (if i4 = (1 : Int32) then bnd (aI h a1 i5) fun x1 => bnd (f_Mo_size F x1) fun x2 => (if x2 ≤ (1 : Int32) then b_Mo_onlyPlaces_126 F k10 a0 a1 i2 i3 h else bnd (pV h a0 10 7 (.int i2)) fun h3 => bnd (cK h3 a0 10) fun _ => bnd (f_Mo_takes F a0 a1 i5 ((126 : Int32) &&& (((1 : Int32) <<< (i3 &&& 31)) ^^^ (-1 : Int32))) h3) fun h5 => some ((1 : Int32), h5)) else b_Mo_onlyPlaces_126 F k10 a0 a1 i2 i3 h) else bnd (f_Mo_cellIn i2 i6) fun x8 => bnd (aI h a1 x8) fun x9 => bnd (f_Mo_has x9 i3) fun x10 => (if x10 = (0 : Int32) then b_Mo_onlyPlaces_58 F k25 a0 a1 i2 i3 i5 i6 x8 (0 : Int32) i4 h else b_Mo_onlyPlaces_58 F k25 a0 a1 i2 i3 i5 i6 x8 (1 : Int32) i4 h))
def f_Mo_onlyPlaces_25 (F : Nat) (k10 : Nat → Nat → Int32 → Int32 → PH → Option (Int32 × PH)) : Nat → Nat → Nat → Int32 → Int32 → Int32 → Int32 → Int32 → PH → Option (Int32 × PH)
  | 0 => fun _ _ _ _ _ _ _ _ => none
  | n + 1 => b_Mo_onlyPlaces_25 F k10 (f_Mo_onlyPlaces_25 F k10 n)
theorem g_Mo_onlyPlaces_25 {l : Launch} {E : ET} {d : Nat} (hd : 3 ≤ d) {F : Nat} {r : Int32} {h9 : PH} {x : Nat} {k10 : Nat → Nat → Int32 → Int32 → PH → Option (Int32 × PH)} (hk10 : ∀ (a0 : Nat) (a1 : Nat) (i2 : Int32) (i3 : Int32) (hh : PH), k10 a0 a1 i2 i3 hh = some (r, h9) → Go l E m_Mo_onlyPlaces (rm d 0 0) (KM E 0 0 (PoE (some (.int r)) h9 x)) 0 0 hh x 10 [(0, .ref a0), (1, .ref a1), (2, .int i2), (3, .int i3)] []) {k25 : Nat → Nat → Int32 → Int32 → Int32 → Int32 → Int32 → PH → Option (Int32 × PH)} (hk25 : ∀ (a0 : Nat) (a1 : Nat) (i2 : Int32) (i3 : Int32) (i4 : Int32) (i5 : Int32) (i6 : Int32) (hh : PH), k25 a0 a1 i2 i3 i4 i5 i6 hh = some (r, h9) → Go l E m_Mo_onlyPlaces (rm d 0 0) (KM E 0 0 (PoE (some (.int r)) h9 x)) 0 0 hh x 25 [(0, .ref a0), (1, .ref a1), (2, .int i2), (3, .int i3), (4, .int i4), (5, .int i5), (6, .int i6)] []) (a0 : Nat) (a1 : Nat) (i2 : Int32) (i3 : Int32) (i4 : Int32) (i5 : Int32) (i6 : Int32) (h : PH) (hf : b_Mo_onlyPlaces_25 F k10 k25 a0 a1 i2 i3 i4 i5 i6 h = some (r, h9)) : Go l E m_Mo_onlyPlaces (rm d 0 0) (KM E 0 0 (PoE (some (.int r)) h9 x)) 0 0 h x 25 [(0, .ref a0), (1, .ref a1), (2, .int i2), (3, .int i3), (4, .int i4), (5, .int i5), (6, .int i6)] [] := by
  unfold b_Mo_onlyPlaces_25 at hf
  refine go_iload 6 d_Mo_onlyPlaces_25 rfl ?_
  refine go_bipush (6 : Int32) d_Mo_onlyPlaces_27 (by decide) ?_
  refine go_icmp_ge 87 d_Mo_onlyPlaces_29 (by decide) (fun q12 => ?_) (fun q12 => ?_)
  · rw [if_pos q12] at hf
    refine go_iload 4 d_Mo_onlyPlaces_87 rfl ?_
    refine go_iconst (1 : Int32) d_Mo_onlyPlaces_89 (by decide) ?_
    refine go_icmp_ne 126 d_Mo_onlyPlaces_90 (by decide) (fun q7 => ?_) (fun q7 => ?_)
    · rw [if_neg q7] at hf
      refine go_sub (lv' := [(0, .ref a0), (1, .ref a1), (2, .int i2), (3, .int i3)]) [0, 1, 2, 3] rfl ?_
      exact g_Mo_onlyPlaces_126 hd hk10 a0 a1 i2 i3 h hf
    · rw [if_pos q7] at hf
      refine go_aload_n 1 d_Mo_onlyPlaces_93 rfl ?_
      refine go_iload 5 d_Mo_onlyPlaces_94 rfl ?_
      obtain ⟨x1, e_x1, hf⟩ := bnd_x hf
      refine go_iaload d_Mo_onlyPlaces_96 e_x1 ?_
      obtain ⟨x2, e_x2, hf⟩ := bnd_x hf
      refine go_callS_I (As := [.int x1]) (st := []) (c_Mo_size (d := d - 1) (by omega) e_x2) lk_Mo_98 rfl rfl (rm_ok (by omega)) (Nat.le_of_ble_eq_true rfl) rm_c d_Mo_onlyPlaces_97 ?_
      refine go_iconst (1 : Int32) d_Mo_onlyPlaces_100 (by decide) ?_
      refine go_icmp_le 126 d_Mo_onlyPlaces_101 (by decide) (fun q6 => ?_) (fun q6 => ?_)
      · rw [if_pos q6] at hf
        refine go_sub (lv' := [(0, .ref a0), (1, .ref a1), (2, .int i2), (3, .int i3)]) [0, 1, 2, 3] rfl ?_
        exact g_Mo_onlyPlaces_126 hd hk10 a0 a1 i2 i3 h hf
      · rw [if_neg q6] at hf
        refine go_aload_n 0 d_Mo_onlyPlaces_104 rfl ?_
        refine go_iload_n 2 d_Mo_onlyPlaces_105 rfl ?_
        obtain ⟨h3, e_h3, hf⟩ := bnd_x hf
        refine go_putI d_Mo_onlyPlaces_106 e_h3 fl_Mo_101 rfl rfl ?_
        refine go_aload_n 0 d_Mo_onlyPlaces_109 rfl ?_
        refine go_aload_n 1 d_Mo_onlyPlaces_110 rfl ?_
        refine go_iload 5 d_Mo_onlyPlaces_111 rfl ?_
        refine go_bipush (126 : Int32) d_Mo_onlyPlaces_113 (by decide) ?_
        refine go_iconst (1 : Int32) d_Mo_onlyPlaces_115 (by decide) ?_
        refine go_iload_n 3 d_Mo_onlyPlaces_116 rfl ?_
        refine go_ishl d_Mo_onlyPlaces_117 ?_
        refine go_iconst (-1 : Int32) d_Mo_onlyPlaces_118 (by decide) ?_
        refine go_ixor d_Mo_onlyPlaces_119 ?_
        refine go_iand d_Mo_onlyPlaces_120 ?_
        obtain ⟨_, e4, hf⟩ := bnd_x hf
        obtain ⟨h5, e_x5, hf⟩ := bnd_x hf
        refine go_callV_N (As := [.ref a1, .int i5, .int ((126 : Int32) &&& (((1 : Int32) <<< (i3 &&& 31)) ^^^ (-1 : Int32)))]) (st := []) (c_Mo_takes (d := d - 1) (by omega) e_x5) lk_Mo_107 rfl rfl e4 (by decide) rfl (rm_ok (by omega)) (Nat.le_of_ble_eq_true rfl) rm_c d_Mo_onlyPlaces_121 ?_
        refine go_iconst (1 : Int32) d_Mo_onlyPlaces_124 (by decide) ?_
        obtain ⟨e8, e9⟩ := Prod.mk.inj (Option.some.inj hf)
        subst e8; subst e9
        exact go_zret d_Mo_onlyPlaces_125 rfl rfl ⟨rfl, rfl, rfl⟩
  · rw [if_neg q12] at hf
    refine go_iload_n 2 d_Mo_onlyPlaces_32 rfl ?_
    refine go_iload 6 d_Mo_onlyPlaces_33 rfl ?_
    obtain ⟨x8, e_x8, hf⟩ := bnd_x hf
    refine go_callS_I (As := [.int i2, .int i6]) (st := []) (c_Mo_cellIn (d := d - 1) (by omega) e_x8) lk_Mo_111 rfl rfl (rm_ok (by omega)) (Nat.le_of_ble_eq_true rfl) rm_c d_Mo_onlyPlaces_35 ?_
    refine go_istore (lv' := [(7, .int x8), (0, .ref a0), (1, .ref a1), (2, .int i2), (3, .int i3), (4, .int i4), (5, .int i5), (6, .int i6)]) d_Mo_onlyPlaces_38 rfl (by decide) ?_
    refine go_iload 5 d_Mo_onlyPlaces_40 rfl ?_
    refine go_aload_n 2 d_Mo_onlyPlaces_42 rfl ?_
    refine go_iload 0 d_Mo_onlyPlaces_43 rfl ?_
    obtain ⟨x9, e_x9, hf⟩ := bnd_x hf
    refine go_iaload d_Mo_onlyPlaces_45 e_x9 ?_
    refine go_iload_n 4 d_Mo_onlyPlaces_46 rfl ?_
    obtain ⟨x10, e_x10, hf⟩ := bnd_x hf
    refine go_callS_I (As := [.int x9, .int i3]) (st := [.int i4]) (c_Mo_has (d := d - 1) (by omega) e_x10) lk_Mo_66 rfl rfl (rm_ok (by omega)) (Nat.le_of_ble_eq_true rfl) rm_c d_Mo_onlyPlaces_47 ?_
    refine go_if_eq 57 d_Mo_onlyPlaces_50 (by decide) (fun q11 => ?_) (fun q11 => ?_)
    · rw [if_pos q11] at hf
      refine go_iconst (0 : Int32) d_Mo_onlyPlaces_57 (by decide) ?_
      refine go_sub (lv' := [(0, .ref a0), (1, .ref a1), (2, .int i2), (3, .int i3), (5, .int i5), (6, .int i6), (7, .int x8)]) [1, 2, 3, 4, 6, 7, 0] rfl ?_
      exact g_Mo_onlyPlaces_58 hd hk25 a0 a1 i2 i3 i5 i6 x8 (0 : Int32) i4 h hf
    · rw [if_neg q11] at hf
      refine go_iconst (1 : Int32) d_Mo_onlyPlaces_53 (by decide) ?_
      refine go_goto 58 d_Mo_onlyPlaces_54 (by decide) ?_
      refine go_sub (lv' := [(0, .ref a0), (1, .ref a1), (2, .int i2), (3, .int i3), (5, .int i5), (6, .int i6), (7, .int x8)]) [1, 2, 3, 4, 6, 7, 0] rfl ?_
      exact g_Mo_onlyPlaces_58 hd hk25 a0 a1 i2 i3 i5 i6 x8 (1 : Int32) i4 h hf
theorem t_Mo_onlyPlaces_25 {l : Launch} {E : ET} {d : Nat} (hd : 3 ≤ d) {F : Nat} {r : Int32} {h9 : PH} {x : Nat} {k10 : Nat → Nat → Int32 → Int32 → PH → Option (Int32 × PH)} (hk10 : ∀ (a0 : Nat) (a1 : Nat) (i2 : Int32) (i3 : Int32) (hh : PH), k10 a0 a1 i2 i3 hh = some (r, h9) → Go l E m_Mo_onlyPlaces (rm d 0 0) (KM E 0 0 (PoE (some (.int r)) h9 x)) 0 0 hh x 10 [(0, .ref a0), (1, .ref a1), (2, .int i2), (3, .int i3)] []) : ∀ (n : Nat) (a0 : Nat) (a1 : Nat) (i2 : Int32) (i3 : Int32) (i4 : Int32) (i5 : Int32) (i6 : Int32) (hh : PH), f_Mo_onlyPlaces_25 F k10 n a0 a1 i2 i3 i4 i5 i6 hh = some (r, h9) → Go l E m_Mo_onlyPlaces (rm d 0 0) (KM E 0 0 (PoE (some (.int r)) h9 x)) 0 0 hh x 25 [(0, .ref a0), (1, .ref a1), (2, .int i2), (3, .int i3), (4, .int i4), (5, .int i5), (6, .int i6)] [] := by
  intro n
  induction n with
  | zero => intro v0 v1 v2 v3 v4 v5 v6 v7 hf; cases hf
  | succ n ih => intro v0 v1 v2 v3 v4 v5 v6 v7 hf; exact g_Mo_onlyPlaces_25 hd hk10 ih v0 v1 v2 v3 v4 v5 v6 v7 hf
def b_Mo_onlyPlaces_10 (F : Nat) (k2 : Nat → Nat → Int32 → PH → Option (Int32 × PH)) (k10 : Nat → Nat → Int32 → Int32 → PH → Option (Int32 × PH)) (a0 : Nat) (a1 : Nat) (i2 : Int32) (i3 : Int32) (h : PH) : Option (Int32 × PH) :=
  (if (7 : Int32) ≤ i3 then k2 a0 a1 (i2 + (1 : Int32)) h else f_Mo_onlyPlaces_25 F k10 F a0 a1 i2 i3 (0 : Int32) (0 : Int32) (0 : Int32) h)
def f_Mo_onlyPlaces_10 (F : Nat) (k2 : Nat → Nat → Int32 → PH → Option (Int32 × PH)) : Nat → Nat → Nat → Int32 → Int32 → PH → Option (Int32 × PH)
  | 0 => fun _ _ _ _ _ => none
  | n + 1 => b_Mo_onlyPlaces_10 F k2 (f_Mo_onlyPlaces_10 F k2 n)
theorem g_Mo_onlyPlaces_10 {l : Launch} {E : ET} {d : Nat} (hd : 3 ≤ d) {F : Nat} {r : Int32} {h9 : PH} {x : Nat} {k2 : Nat → Nat → Int32 → PH → Option (Int32 × PH)} (hk2 : ∀ (a0 : Nat) (a1 : Nat) (i2 : Int32) (hh : PH), k2 a0 a1 i2 hh = some (r, h9) → Go l E m_Mo_onlyPlaces (rm d 0 0) (KM E 0 0 (PoE (some (.int r)) h9 x)) 0 0 hh x 2 [(0, .ref a0), (1, .ref a1), (2, .int i2)] []) {k10 : Nat → Nat → Int32 → Int32 → PH → Option (Int32 × PH)} (hk10 : ∀ (a0 : Nat) (a1 : Nat) (i2 : Int32) (i3 : Int32) (hh : PH), k10 a0 a1 i2 i3 hh = some (r, h9) → Go l E m_Mo_onlyPlaces (rm d 0 0) (KM E 0 0 (PoE (some (.int r)) h9 x)) 0 0 hh x 10 [(0, .ref a0), (1, .ref a1), (2, .int i2), (3, .int i3)] []) (a0 : Nat) (a1 : Nat) (i2 : Int32) (i3 : Int32) (h : PH) (hf : b_Mo_onlyPlaces_10 F k2 k10 a0 a1 i2 i3 h = some (r, h9)) : Go l E m_Mo_onlyPlaces (rm d 0 0) (KM E 0 0 (PoE (some (.int r)) h9 x)) 0 0 h x 10 [(0, .ref a0), (1, .ref a1), (2, .int i2), (3, .int i3)] [] := by
  unfold b_Mo_onlyPlaces_10 at hf
  refine go_iload_n 3 d_Mo_onlyPlaces_10 rfl ?_
  refine go_bipush (7 : Int32) d_Mo_onlyPlaces_11 (by decide) ?_
  refine go_icmp_ge 132 d_Mo_onlyPlaces_13 (by decide) (fun q1 => ?_) (fun q1 => ?_)
  · rw [if_pos q1] at hf
    refine go_iinc (lv' := [(2, .int (i2 + (1 : Int32))), (0, .ref a0), (1, .ref a1), (3, .int i3)]) 2 (i2 + (1 : Int32)) d_Mo_onlyPlaces_132 rfl rfl rfl (by decide) ?_
    refine go_goto 2 d_Mo_onlyPlaces_135 (by decide) ?_
    refine go_sub (lv' := [(0, .ref a0), (1, .ref a1), (2, .int (i2 + (1 : Int32)))]) [1, 2, 0] rfl ?_
    exact hk2 a0 a1 (i2 + (1 : Int32)) h hf
  · rw [if_neg q1] at hf
    refine go_iconst (0 : Int32) d_Mo_onlyPlaces_16 (by decide) ?_
    refine go_istore (lv' := [(4, .int (0 : Int32)), (0, .ref a0), (1, .ref a1), (2, .int i2), (3, .int i3)]) d_Mo_onlyPlaces_17 rfl (by decide) ?_
    refine go_iconst (0 : Int32) d_Mo_onlyPlaces_19 (by decide) ?_
    refine go_istore (lv' := [(5, .int (0 : Int32)), (4, .int (0 : Int32)), (0, .ref a0), (1, .ref a1), (2, .int i2), (3, .int i3)]) d_Mo_onlyPlaces_20 rfl (by decide) ?_
    refine go_iconst (0 : Int32) d_Mo_onlyPlaces_22 (by decide) ?_
    refine go_istore (lv' := [(6, .int (0 : Int32)), (5, .int (0 : Int32)), (4, .int (0 : Int32)), (0, .ref a0), (1, .ref a1), (2, .int i2), (3, .int i3)]) d_Mo_onlyPlaces_23 rfl (by decide) ?_
    refine go_sub (lv' := [(0, .ref a0), (1, .ref a1), (2, .int i2), (3, .int i3), (4, .int (0 : Int32)), (5, .int (0 : Int32)), (6, .int (0 : Int32))]) [3, 4, 5, 6, 2, 1, 0] rfl ?_
    exact t_Mo_onlyPlaces_25 hd hk10 _ a0 a1 i2 i3 (0 : Int32) (0 : Int32) (0 : Int32) h hf
theorem t_Mo_onlyPlaces_10 {l : Launch} {E : ET} {d : Nat} (hd : 3 ≤ d) {F : Nat} {r : Int32} {h9 : PH} {x : Nat} {k2 : Nat → Nat → Int32 → PH → Option (Int32 × PH)} (hk2 : ∀ (a0 : Nat) (a1 : Nat) (i2 : Int32) (hh : PH), k2 a0 a1 i2 hh = some (r, h9) → Go l E m_Mo_onlyPlaces (rm d 0 0) (KM E 0 0 (PoE (some (.int r)) h9 x)) 0 0 hh x 2 [(0, .ref a0), (1, .ref a1), (2, .int i2)] []) : ∀ (n : Nat) (a0 : Nat) (a1 : Nat) (i2 : Int32) (i3 : Int32) (hh : PH), f_Mo_onlyPlaces_10 F k2 n a0 a1 i2 i3 hh = some (r, h9) → Go l E m_Mo_onlyPlaces (rm d 0 0) (KM E 0 0 (PoE (some (.int r)) h9 x)) 0 0 hh x 10 [(0, .ref a0), (1, .ref a1), (2, .int i2), (3, .int i3)] [] := by
  intro n
  induction n with
  | zero => intro v0 v1 v2 v3 v4 hf; cases hf
  | succ n ih => intro v0 v1 v2 v3 v4 hf; exact g_Mo_onlyPlaces_10 hd hk2 ih v0 v1 v2 v3 v4 hf
def b_Mo_onlyPlaces_2 (F : Nat) (k2 : Nat → Nat → Int32 → PH → Option (Int32 × PH)) (a0 : Nat) (a1 : Nat) (i2 : Int32) (h : PH) : Option (Int32 × PH) :=
  (if (18 : Int32) ≤ i2 then some ((0 : Int32), h) else f_Mo_onlyPlaces_10 F k2 F a0 a1 i2 (1 : Int32) h)
def f_Mo_onlyPlaces_2 (F : Nat) : Nat → Nat → Nat → Int32 → PH → Option (Int32 × PH)
  | 0 => fun _ _ _ _ => none
  | n + 1 => b_Mo_onlyPlaces_2 F (f_Mo_onlyPlaces_2 F n)
theorem g_Mo_onlyPlaces_2 {l : Launch} {E : ET} {d : Nat} (hd : 3 ≤ d) {F : Nat} {r : Int32} {h9 : PH} {x : Nat} {k2 : Nat → Nat → Int32 → PH → Option (Int32 × PH)} (hk2 : ∀ (a0 : Nat) (a1 : Nat) (i2 : Int32) (hh : PH), k2 a0 a1 i2 hh = some (r, h9) → Go l E m_Mo_onlyPlaces (rm d 0 0) (KM E 0 0 (PoE (some (.int r)) h9 x)) 0 0 hh x 2 [(0, .ref a0), (1, .ref a1), (2, .int i2)] []) (a0 : Nat) (a1 : Nat) (i2 : Int32) (h : PH) (hf : b_Mo_onlyPlaces_2 F k2 a0 a1 i2 h = some (r, h9)) : Go l E m_Mo_onlyPlaces (rm d 0 0) (KM E 0 0 (PoE (some (.int r)) h9 x)) 0 0 h x 2 [(0, .ref a0), (1, .ref a1), (2, .int i2)] [] := by
  unfold b_Mo_onlyPlaces_2 at hf
  refine go_iload_n 2 d_Mo_onlyPlaces_2 rfl ?_
  refine go_bipush (18 : Int32) d_Mo_onlyPlaces_3 (by decide) ?_
  refine go_icmp_ge 138 d_Mo_onlyPlaces_5 (by decide) (fun q1 => ?_) (fun q1 => ?_)
  · rw [if_pos q1] at hf
    refine go_iconst (0 : Int32) d_Mo_onlyPlaces_138 (by decide) ?_
    obtain ⟨e8, e9⟩ := Prod.mk.inj (Option.some.inj hf)
    subst e8; subst e9
    exact go_zret d_Mo_onlyPlaces_139 rfl rfl ⟨rfl, rfl, rfl⟩
  · rw [if_neg q1] at hf
    refine go_iconst (1 : Int32) d_Mo_onlyPlaces_8 (by decide) ?_
    refine go_istore_n (lv' := [(3, .int (1 : Int32)), (0, .ref a0), (1, .ref a1), (2, .int i2)]) d_Mo_onlyPlaces_9 rfl (by decide) ?_
    refine go_sub (lv' := [(0, .ref a0), (1, .ref a1), (2, .int i2), (3, .int (1 : Int32))]) [1, 2, 3, 0] rfl ?_
    exact t_Mo_onlyPlaces_10 hd hk2 _ a0 a1 i2 (1 : Int32) h hf
theorem t_Mo_onlyPlaces_2 {l : Launch} {E : ET} {d : Nat} (hd : 3 ≤ d) {F : Nat} {r : Int32} {h9 : PH} {x : Nat}  : ∀ (n : Nat) (a0 : Nat) (a1 : Nat) (i2 : Int32) (hh : PH), f_Mo_onlyPlaces_2 F n a0 a1 i2 hh = some (r, h9) → Go l E m_Mo_onlyPlaces (rm d 0 0) (KM E 0 0 (PoE (some (.int r)) h9 x)) 0 0 hh x 2 [(0, .ref a0), (1, .ref a1), (2, .int i2)] [] := by
  intro n
  induction n with
  | zero => intro v0 v1 v2 v3 hf; cases hf
  | succ n ih => intro v0 v1 v2 v3 hf; exact g_Mo_onlyPlaces_2 hd ih v0 v1 v2 v3 hf
def f_Mo_onlyPlaces (F : Nat) (a0 : Nat) (a1 : Nat) (h : PH) : Option (Int32 × PH) :=
  f_Mo_onlyPlaces_2 F F a0 a1 (0 : Int32) h
theorem g_Mo_onlyPlaces_0 {l : Launch} {E : ET} {d : Nat} (hd : 3 ≤ d) {F : Nat} {r : Int32} {h9 : PH} {x : Nat}  (a0 : Nat) (a1 : Nat) (h : PH) (hf : f_Mo_onlyPlaces F a0 a1 h = some (r, h9)) : Go l E m_Mo_onlyPlaces (rm d 0 0) (KM E 0 0 (PoE (some (.int r)) h9 x)) 0 0 h x 0 [(0, .ref a0), (1, .ref a1)] [] := by
  unfold f_Mo_onlyPlaces at hf
  refine go_iconst (0 : Int32) d_Mo_onlyPlaces_0 (by decide) ?_
  refine go_istore_n (lv' := [(2, .int (0 : Int32)), (0, .ref a0), (1, .ref a1)]) d_Mo_onlyPlaces_1 rfl (by decide) ?_
  refine go_sub (lv' := [(0, .ref a0), (1, .ref a1), (2, .int (0 : Int32))]) [1, 2, 0] rfl ?_
  exact t_Mo_onlyPlaces_2 hd  _ a0 a1 (0 : Int32) h hf
theorem c_Mo_onlyPlaces {l : Launch} {E : ET} {d : Nat} (hd : 3 ≤ d) {F : Nat} {r : Int32} {h9 : PH} {x : Nat} {a0 : Nat} {a1 : Nat} {h : PH} (hf : f_Mo_onlyPlaces F a0 a1 h = some (r, h9)) : Fn l E m_Mo_onlyPlaces d 0 0 [.ref a0, .ref a1] h x (PoE (some (.int r)) h9 x) :=
  Fn.of (by decide +kernel) (Nat.le_of_ble_eq_true rfl) (g_Mo_onlyPlaces_0 hd a0 a1 h hf)
theorem d_Mo_above_0 : decode prog_13_method_26_code 0 = .ok (.bipush 126, 2) := by decide +kernel
theorem d_Mo_above_2 : decode prog_13_method_26_code 2 = .ok (.iconst 2, 1) := by decide +kernel
theorem d_Mo_above_3 : decode prog_13_method_26_code 3 = .ok (.iload_n 0, 1) := by decide +kernel
theorem d_Mo_above_4 : decode prog_13_method_26_code 4 = .ok (.ishl, 1) := by decide +kernel
theorem d_Mo_above_5 : decode prog_13_method_26_code 5 = .ok (.iconst 1, 1) := by decide +kernel
theorem d_Mo_above_6 : decode prog_13_method_26_code 6 = .ok (.isub, 1) := by decide +kernel
theorem d_Mo_above_7 : decode prog_13_method_26_code 7 = .ok (.iconst (-1), 1) := by decide +kernel
theorem d_Mo_above_8 : decode prog_13_method_26_code 8 = .ok (.ixor, 1) := by decide +kernel
theorem d_Mo_above_9 : decode prog_13_method_26_code 9 = .ok (.iand, 1) := by decide +kernel
theorem d_Mo_above_10 : decode prog_13_method_26_code 10 = .ok (.ireturn, 1) := by decide +kernel
def f_Mo_above (i0 : Int32) : Option Int32 :=
  some ((126 : Int32) &&& ((((2 : Int32) <<< (i0 &&& 31)) - (1 : Int32)) ^^^ (-1 : Int32)))
theorem g_Mo_above_0 {l : Launch} {E : ET} {d : Nat} (hd : 1 ≤ d) {r : Int32} {h : PH} {x : Nat}  (i0 : Int32) (hf : f_Mo_above i0 = some r) : Go l E m_Mo_above (rm d 0 0) (KM E 0 0 (PoE (some (.int r)) h x)) 0 0 h x 0 [(0, .int i0)] [] := by
  unfold f_Mo_above at hf
  refine go_bipush (126 : Int32) d_Mo_above_0 (by decide) ?_
  refine go_iconst (2 : Int32) d_Mo_above_2 (by decide) ?_
  refine go_iload_n 0 d_Mo_above_3 rfl ?_
  refine go_ishl d_Mo_above_4 ?_
  refine go_iconst (1 : Int32) d_Mo_above_5 (by decide) ?_
  refine go_isub d_Mo_above_6 ?_
  refine go_iconst (-1 : Int32) d_Mo_above_7 (by decide) ?_
  refine go_ixor d_Mo_above_8 ?_
  refine go_iand d_Mo_above_9 ?_
  have e9 := Option.some.inj hf
  subst e9
  exact go_iret d_Mo_above_10 rfl ⟨rfl, rfl, rfl⟩
theorem c_Mo_above {l : Launch} {E : ET} {d : Nat} (hd : 1 ≤ d) {r : Int32} {h : PH} {x : Nat} {i0 : Int32} (hf : f_Mo_above i0 = some r) : Fn l E m_Mo_above d 0 0 [.int i0] h x (PoE (some (.int r)) h x) :=
  Fn.of (by decide +kernel) (Nat.le_of_ble_eq_true rfl) (g_Mo_above_0 hd i0 hf)
theorem d_Mo_below_0 : decode prog_13_method_27_code 0 = .ok (.bipush 126, 2) := by decide +kernel
theorem d_Mo_below_2 : decode prog_13_method_27_code 2 = .ok (.iconst 1, 1) := by decide +kernel
theorem d_Mo_below_3 : decode prog_13_method_27_code 3 = .ok (.iload_n 0, 1) := by decide +kernel
theorem d_Mo_below_4 : decode prog_13_method_27_code 4 = .ok (.ishl, 1) := by decide +kernel
theorem d_Mo_below_5 : decode prog_13_method_27_code 5 = .ok (.iconst 1, 1) := by decide +kernel
theorem d_Mo_below_6 : decode prog_13_method_27_code 6 = .ok (.isub, 1) := by decide +kernel
theorem d_Mo_below_7 : decode prog_13_method_27_code 7 = .ok (.iand, 1) := by decide +kernel
theorem d_Mo_below_8 : decode prog_13_method_27_code 8 = .ok (.ireturn, 1) := by decide +kernel
def f_Mo_below (i0 : Int32) : Option Int32 :=
  some ((126 : Int32) &&& (((1 : Int32) <<< (i0 &&& 31)) - (1 : Int32)))
theorem g_Mo_below_0 {l : Launch} {E : ET} {d : Nat} (hd : 1 ≤ d) {r : Int32} {h : PH} {x : Nat}  (i0 : Int32) (hf : f_Mo_below i0 = some r) : Go l E m_Mo_below (rm d 0 0) (KM E 0 0 (PoE (some (.int r)) h x)) 0 0 h x 0 [(0, .int i0)] [] := by
  unfold f_Mo_below at hf
  refine go_bipush (126 : Int32) d_Mo_below_0 (by decide) ?_
  refine go_iconst (1 : Int32) d_Mo_below_2 (by decide) ?_
  refine go_iload_n 0 d_Mo_below_3 rfl ?_
  refine go_ishl d_Mo_below_4 ?_
  refine go_iconst (1 : Int32) d_Mo_below_5 (by decide) ?_
  refine go_isub d_Mo_below_6 ?_
  refine go_iand d_Mo_below_7 ?_
  have e9 := Option.some.inj hf
  subst e9
  exact go_iret d_Mo_below_8 rfl ⟨rfl, rfl, rfl⟩
theorem c_Mo_below {l : Launch} {E : ET} {d : Nat} (hd : 1 ≤ d) {r : Int32} {h : PH} {x : Nat} {i0 : Int32} (hf : f_Mo_below i0 = some r) : Fn l E m_Mo_below d 0 0 [.int i0] h x (PoE (some (.int r)) h x) :=
  Fn.of (by decide +kernel) (Nat.le_of_ble_eq_true rfl) (g_Mo_below_0 hd i0 hf)
theorem d_Mo_thermometer_0 : decode prog_13_method_28_code 0 = .ok (.aload_n 0, 1) := by decide +kernel
theorem d_Mo_thermometer_1 : decode prog_13_method_28_code 1 = .ok (.iload_n 2, 1) := by decide +kernel
theorem d_Mo_thermometer_2 : decode prog_13_method_28_code 2 = .ok (.invokevirtual 74, 3) := by decide +kernel
theorem d_Mo_thermometer_5 : decode prog_13_method_28_code 5 = .ok (.istore_n 3, 1) := by decide +kernel
theorem d_Mo_thermometer_6 : decode prog_13_method_28_code 6 = .ok (.iload_n 3, 1) := by decide +kernel
theorem d_Mo_thermometer_7 : decode prog_13_method_28_code 7 = .ok (.iconst 1, 1) := by decide +kernel
theorem d_Mo_thermometer_8 : decode prog_13_method_28_code 8 = .ok (.if_icmp .le 7, 3) := by decide +kernel
theorem d_Mo_thermometer_11 : decode prog_13_method_28_code 11 = .ok (.iconst 1, 1) := by decide +kernel
theorem d_Mo_thermometer_12 : decode prog_13_method_28_code 12 = .ok (.goto 4, 3) := by decide +kernel
theorem d_Mo_thermometer_15 : decode prog_13_method_28_code 15 = .ok (.iconst 0, 1) := by decide +kernel
theorem d_Mo_thermometer_16 : decode prog_13_method_28_code 16 = .ok (.istore 4, 2) := by decide +kernel
theorem d_Mo_thermometer_18 : decode prog_13_method_28_code 18 = .ok (.iload 4, 2) := by decide +kernel
theorem d_Mo_thermometer_20 : decode prog_13_method_28_code 20 = .ok (.ifCond .eq 169, 3) := by decide +kernel
theorem d_Mo_thermometer_23 : decode prog_13_method_28_code 23 = .ok (.aload_n 0, 1) := by decide +kernel
theorem d_Mo_thermometer_24 : decode prog_13_method_28_code 24 = .ok (.getfield 95, 3) := by decide +kernel
theorem d_Mo_thermometer_27 : decode prog_13_method_28_code 27 = .ok (.istore 5, 2) := by decide +kernel
theorem d_Mo_thermometer_29 : decode prog_13_method_28_code 29 = .ok (.iconst 0, 1) := by decide +kernel
theorem d_Mo_thermometer_30 : decode prog_13_method_28_code 30 = .ok (.istore 6, 2) := by decide +kernel
theorem d_Mo_thermometer_32 : decode prog_13_method_28_code 32 = .ok (.iload 6, 2) := by decide +kernel
theorem d_Mo_thermometer_34 : decode prog_13_method_28_code 34 = .ok (.iload_n 3, 1) := by decide +kernel
theorem d_Mo_thermometer_35 : decode prog_13_method_28_code 35 = .ok (.if_icmp .ge 135, 3) := by decide +kernel
theorem d_Mo_thermometer_38 : decode prog_13_method_28_code 38 = .ok (.bipush 126, 2) := by decide +kernel
theorem d_Mo_thermometer_40 : decode prog_13_method_28_code 40 = .ok (.istore 7, 2) := by decide +kernel
theorem d_Mo_thermometer_42 : decode prog_13_method_28_code 42 = .ok (.iload 7, 2) := by decide +kernel
theorem d_Mo_thermometer_44 : decode prog_13_method_28_code 44 = .ok (.iload 6, 2) := by decide +kernel
theorem d_Mo_thermometer_46 : decode prog_13_method_28_code 46 = .ok (.ifCond .ne 8, 3) := by decide +kernel
theorem d_Mo_thermometer_49 : decode prog_13_method_28_code 49 = .ok (.bipush 126, 2) := by decide +kernel
theorem d_Mo_thermometer_51 : decode prog_13_method_28_code 51 = .ok (.goto 38, 3) := by decide +kernel
theorem d_Mo_thermometer_54 : decode prog_13_method_28_code 54 = .ok (.aload_n 1, 1) := by decide +kernel
theorem d_Mo_thermometer_55 : decode prog_13_method_28_code 55 = .ok (.aload_n 0, 1) := by decide +kernel
theorem d_Mo_thermometer_56 : decode prog_13_method_28_code 56 = .ok (.iload_n 2, 1) := by decide +kernel
theorem d_Mo_thermometer_57 : decode prog_13_method_28_code 57 = .ok (.iload 6, 2) := by decide +kernel
theorem d_Mo_thermometer_59 : decode prog_13_method_28_code 59 = .ok (.iconst 1, 1) := by decide +kernel
theorem d_Mo_thermometer_60 : decode prog_13_method_28_code 60 = .ok (.isub, 1) := by decide +kernel
theorem d_Mo_thermometer_61 : decode prog_13_method_28_code 61 = .ok (.invokevirtual 77, 3) := by decide +kernel
theorem d_Mo_thermometer_64 : decode prog_13_method_28_code 64 = .ok (.iaload, 1) := by decide +kernel
theorem d_Mo_thermometer_65 : decode prog_13_method_28_code 65 = .ok (.ifCond .ne 7, 3) := by decide +kernel
theorem d_Mo_thermometer_68 : decode prog_13_method_28_code 68 = .ok (.iconst 0, 1) := by decide +kernel
theorem d_Mo_thermometer_69 : decode prog_13_method_28_code 69 = .ok (.goto 20, 3) := by decide +kernel
theorem d_Mo_thermometer_72 : decode prog_13_method_28_code 72 = .ok (.aload_n 1, 1) := by decide +kernel
theorem d_Mo_thermometer_73 : decode prog_13_method_28_code 73 = .ok (.aload_n 0, 1) := by decide +kernel
theorem d_Mo_thermometer_74 : decode prog_13_method_28_code 74 = .ok (.iload_n 2, 1) := by decide +kernel
theorem d_Mo_thermometer_75 : decode prog_13_method_28_code 75 = .ok (.iload 6, 2) := by decide +kernel
theorem d_Mo_thermometer_77 : decode prog_13_method_28_code 77 = .ok (.iconst 1, 1) := by decide +kernel
theorem d_Mo_thermometer_78 : decode prog_13_method_28_code 78 = .ok (.isub, 1) := by decide +kernel
theorem d_Mo_thermometer_79 : decode prog_13_method_28_code 79 = .ok (.invokevirtual 77, 3) := by decide +kernel
theorem d_Mo_thermometer_82 : decode prog_13_method_28_code 82 = .ok (.iaload, 1) := by decide +kernel
theorem d_Mo_thermometer_83 : decode prog_13_method_28_code 83 = .ok (.invokestatic 114, 3) := by decide +kernel
theorem d_Mo_thermometer_86 : decode prog_13_method_28_code 86 = .ok (.invokestatic 117, 3) := by decide +kernel
theorem d_Mo_thermometer_89 : decode prog_13_method_28_code 89 = .ok (.iand, 1) := by decide +kernel
theorem d_Mo_thermometer_90 : decode prog_13_method_28_code 90 = .ok (.istore 7, 2) := by decide +kernel
theorem d_Mo_thermometer_92 : decode prog_13_method_28_code 92 = .ok (.iload 7, 2) := by decide +kernel
theorem d_Mo_thermometer_94 : decode prog_13_method_28_code 94 = .ok (.iload 6, 2) := by decide +kernel
theorem d_Mo_thermometer_96 : decode prog_13_method_28_code 96 = .ok (.iload_n 3, 1) := by decide +kernel
theorem d_Mo_thermometer_97 : decode prog_13_method_28_code 97 = .ok (.iconst 1, 1) := by decide +kernel
theorem d_Mo_thermometer_98 : decode prog_13_method_28_code 98 = .ok (.isub, 1) := by decide +kernel
theorem d_Mo_thermometer_99 : decode prog_13_method_28_code 99 = .ok (.if_icmp .ne 8, 3) := by decide +kernel
theorem d_Mo_thermometer_102 : decode prog_13_method_28_code 102 = .ok (.bipush 126, 2) := by decide +kernel
theorem d_Mo_thermometer_104 : decode prog_13_method_28_code 104 = .ok (.goto 38, 3) := by decide +kernel
theorem d_Mo_thermometer_107 : decode prog_13_method_28_code 107 = .ok (.aload_n 1, 1) := by decide +kernel
theorem d_Mo_thermometer_108 : decode prog_13_method_28_code 108 = .ok (.aload_n 0, 1) := by decide +kernel
theorem d_Mo_thermometer_109 : decode prog_13_method_28_code 109 = .ok (.iload_n 2, 1) := by decide +kernel
theorem d_Mo_thermometer_110 : decode prog_13_method_28_code 110 = .ok (.iload 6, 2) := by decide +kernel
theorem d_Mo_thermometer_112 : decode prog_13_method_28_code 112 = .ok (.iconst 1, 1) := by decide +kernel
theorem d_Mo_thermometer_113 : decode prog_13_method_28_code 113 = .ok (.iadd, 1) := by decide +kernel
theorem d_Mo_thermometer_114 : decode prog_13_method_28_code 114 = .ok (.invokevirtual 77, 3) := by decide +kernel
theorem d_Mo_thermometer_117 : decode prog_13_method_28_code 117 = .ok (.iaload, 1) := by decide +kernel
theorem d_Mo_thermometer_118 : decode prog_13_method_28_code 118 = .ok (.ifCond .ne 7, 3) := by decide +kernel
theorem d_Mo_thermometer_121 : decode prog_13_method_28_code 121 = .ok (.iconst 0, 1) := by decide +kernel
theorem d_Mo_thermometer_122 : decode prog_13_method_28_code 122 = .ok (.goto 20, 3) := by decide +kernel
theorem d_Mo_thermometer_125 : decode prog_13_method_28_code 125 = .ok (.aload_n 1, 1) := by decide +kernel
theorem d_Mo_thermometer_126 : decode prog_13_method_28_code 126 = .ok (.aload_n 0, 1) := by decide +kernel
theorem d_Mo_thermometer_127 : decode prog_13_method_28_code 127 = .ok (.iload_n 2, 1) := by decide +kernel
theorem d_Mo_thermometer_128 : decode prog_13_method_28_code 128 = .ok (.iload 6, 2) := by decide +kernel
theorem d_Mo_thermometer_130 : decode prog_13_method_28_code 130 = .ok (.iconst 1, 1) := by decide +kernel
theorem d_Mo_thermometer_131 : decode prog_13_method_28_code 131 = .ok (.iadd, 1) := by decide +kernel
theorem d_Mo_thermometer_132 : decode prog_13_method_28_code 132 = .ok (.invokevirtual 77, 3) := by decide +kernel
theorem d_Mo_thermometer_135 : decode prog_13_method_28_code 135 = .ok (.iaload, 1) := by decide +kernel
theorem d_Mo_thermometer_136 : decode prog_13_method_28_code 136 = .ok (.invokestatic 120, 3) := by decide +kernel
theorem d_Mo_thermometer_139 : decode prog_13_method_28_code 139 = .ok (.invokestatic 123, 3) := by decide +kernel
theorem d_Mo_thermometer_142 : decode prog_13_method_28_code 142 = .ok (.iand, 1) := by decide +kernel
theorem d_Mo_thermometer_143 : decode prog_13_method_28_code 143 = .ok (.istore 7, 2) := by decide +kernel
theorem d_Mo_thermometer_145 : decode prog_13_method_28_code 145 = .ok (.aload_n 0, 1) := by decide +kernel
theorem d_Mo_thermometer_146 : decode prog_13_method_28_code 146 = .ok (.aload_n 1, 1) := by decide +kernel
theorem d_Mo_thermometer_147 : decode prog_13_method_28_code 147 = .ok (.aload_n 0, 1) := by decide +kernel
theorem d_Mo_thermometer_148 : decode prog_13_method_28_code 148 = .ok (.iload_n 2, 1) := by decide +kernel
theorem d_Mo_thermometer_149 : decode prog_13_method_28_code 149 = .ok (.iload 6, 2) := by decide +kernel
theorem d_Mo_thermometer_151 : decode prog_13_method_28_code 151 = .ok (.invokevirtual 77, 3) := by decide +kernel
theorem d_Mo_thermometer_154 : decode prog_13_method_28_code 154 = .ok (.bipush 126, 2) := by decide +kernel
theorem d_Mo_thermometer_156 : decode prog_13_method_28_code 156 = .ok (.iload 7, 2) := by decide +kernel
theorem d_Mo_thermometer_158 : decode prog_13_method_28_code 158 = .ok (.iconst (-1), 1) := by decide +kernel
theorem d_Mo_thermometer_159 : decode prog_13_method_28_code 159 = .ok (.ixor, 1) := by decide +kernel
theorem d_Mo_thermometer_160 : decode prog_13_method_28_code 160 = .ok (.iand, 1) := by decide +kernel
theorem d_Mo_thermometer_161 : decode prog_13_method_28_code 161 = .ok (.invokevirtual 107, 3) := by decide +kernel
theorem d_Mo_thermometer_164 : decode prog_13_method_28_code 164 = .ok (.iinc 6 1, 3) := by decide +kernel
theorem d_Mo_thermometer_167 : decode prog_13_method_28_code 167 = .ok (.goto (-135), 3) := by decide +kernel
theorem d_Mo_thermometer_170 : decode prog_13_method_28_code 170 = .ok (.aload_n 0, 1) := by decide +kernel
theorem d_Mo_thermometer_171 : decode prog_13_method_28_code 171 = .ok (.getfield 95, 3) := by decide +kernel
theorem d_Mo_thermometer_174 : decode prog_13_method_28_code 174 = .ok (.iload 5, 2) := by decide +kernel
theorem d_Mo_thermometer_176 : decode prog_13_method_28_code 176 = .ok (.if_icmp .le 7, 3) := by decide +kernel
theorem d_Mo_thermometer_179 : decode prog_13_method_28_code 179 = .ok (.iconst 1, 1) := by decide +kernel
theorem d_Mo_thermometer_180 : decode prog_13_method_28_code 180 = .ok (.goto 4, 3) := by decide +kernel
theorem d_Mo_thermometer_183 : decode prog_13_method_28_code 183 = .ok (.iconst 0, 1) := by decide +kernel
theorem d_Mo_thermometer_184 : decode prog_13_method_28_code 184 = .ok (.istore 4, 2) := by decide +kernel
theorem d_Mo_thermometer_186 : decode prog_13_method_28_code 186 = .ok (.goto (-168), 3) := by decide +kernel
theorem d_Mo_thermometer_189 : decode prog_13_method_28_code 189 = .ok (.aload_n 0, 1) := by decide +kernel
theorem d_Mo_thermometer_190 : decode prog_13_method_28_code 190 = .ok (.getfield 95, 3) := by decide +kernel
theorem d_Mo_thermometer_193 : decode prog_13_method_28_code 193 = .ok (.ifCond .le 7, 3) := by decide +kernel
theorem d_Mo_thermometer_196 : decode prog_13_method_28_code 196 = .ok (.iconst 1, 1) := by decide +kernel
theorem d_Mo_thermometer_197 : decode prog_13_method_28_code 197 = .ok (.goto 4, 3) := by decide +kernel
theorem d_Mo_thermometer_200 : decode prog_13_method_28_code 200 = .ok (.iconst 0, 1) := by decide +kernel
theorem d_Mo_thermometer_201 : decode prog_13_method_28_code 201 = .ok (.ireturn, 1) := by decide +kernel
def b_Mo_thermometer_142 (F : Nat) (k32 : Nat → Nat → Int32 → Int32 → Int32 → Int32 → PH → Option (Int32 × PH)) (a0 : Nat) (a1 : Nat) (i2 : Int32) (i3 : Int32) (i5 : Int32) (i6 : Int32) (s0 : Int32) (s1 : Int32) (h : PH) : Option (Int32 × PH) :=
  bnd (cK h a0 10) fun _ => bnd (f_Mo_cellAt a0 i2 i6 h) fun x2 => bnd (cK h a0 10) fun _ => bnd (f_Mo_takes F a0 a1 x2 ((126 : Int32) &&& ((s1 &&& s0) ^^^ (-1 : Int32))) h) fun h4 => k32 a0 a1 i2 i3 i5 (i6 + (1 : Int32)) h4
theorem g_Mo_thermometer_142 {l : Launch} {E : ET} {d : Nat} (hd : 3 ≤ d) {F : Nat} {r : Int32} {h9 : PH} {x : Nat} {k32 : Nat → Nat → Int32 → Int32 → Int32 → Int32 → PH → Option (Int32 × PH)} (hk32 : ∀ (a0 : Nat) (a1 : Nat) (i2 : Int32) (i3 : Int32) (i5 : Int32) (i6 : Int32) (hh : PH), k32 a0 a1 i2 i3 i5 i6 hh = some (r, h9) → Go l E m_Mo_thermometer (rm d 0 0) (KM E 0 0 (PoE (some (.int r)) h9 x)) 0 0 hh x 32 [(0, .ref a0), (1, .ref a1), (2, .int i2), (3, .int i3), (5, .int i5), (6, .int i6)] []) (a0 : Nat) (a1 : Nat) (i2 : Int32) (i3 : Int32) (i5 : Int32) (i6 : Int32) (s0 : Int32) (s1 : Int32) (h : PH) (hf : b_Mo_thermometer_142 F k32 a0 a1 i2 i3 i5 i6 s0 s1 h = some (r, h9)) : Go l E m_Mo_thermometer (rm d 0 0) (KM E 0 0 (PoE (some (.int r)) h9 x)) 0 0 h x 142 [(0, .ref a0), (1, .ref a1), (2, .int i2), (3, .int i3), (5, .int i5), (6, .int i6)] [.int s0, .int s1] := by
  unfold b_Mo_thermometer_142 at hf
  refine go_iand d_Mo_thermometer_142 ?_
  refine go_istore (lv' := [(7, .int (s1 &&& s0)), (0, .ref a0), (1, .ref a1), (2, .int i2), (3, .int i3), (5, .int i5), (6, .int i6)]) d_Mo_thermometer_143 rfl (by decide) ?_
  refine go_aload_n 1 d_Mo_thermometer_145 rfl ?_
  refine go_aload_n 2 d_Mo_thermometer_146 rfl ?_
  refine go_aload_n 1 d_Mo_thermometer_147 rfl ?_
  refine go_iload_n 3 d_Mo_thermometer_148 rfl ?_
  refine go_iload 6 d_Mo_thermometer_149 rfl ?_
  obtain ⟨_, e1, hf⟩ := bnd_x hf
  obtain ⟨x2, e_x2, hf⟩ := bnd_x hf
  refine go_callV_I (As := [.int i2, .int i6]) (st := [.ref a1, .ref a0]) (c_Mo_cellAt (d := d - 1) (by omega) e_x2) lk_Mo_77 rfl rfl e1 (by decide) rfl (rm_ok (by omega)) (Nat.le_of_ble_eq_true rfl) rm_c d_Mo_thermometer_151 ?_
  refine go_bipush (126 : Int32) d_Mo_thermometer_154 (by decide) ?_
  refine go_iload 0 d_Mo_thermometer_156 rfl ?_
  refine go_iconst (-1 : Int32) d_Mo_thermometer_158 (by decide) ?_
  refine go_ixor d_Mo_thermometer_159 ?_
  refine go_iand d_Mo_thermometer_160 ?_
  obtain ⟨_, e3, hf⟩ := bnd_x hf
  obtain ⟨h4, e_x4, hf⟩ := bnd_x hf
  refine go_callV_N (As := [.ref a1, .int x2, .int ((126 : Int32) &&& ((s1 &&& s0) ^^^ (-1 : Int32)))]) (st := []) (c_Mo_takes (d := d - 1) (by omega) e_x4) lk_Mo_107 rfl rfl e3 (by decide) rfl (rm_ok (by omega)) (Nat.le_of_ble_eq_true rfl) rm_c d_Mo_thermometer_161 ?_
  refine go_iinc (lv' := [(6, .int (i6 + (1 : Int32))), (7, .int (s1 &&& s0)), (0, .ref a0), (1, .ref a1), (2, .int i2), (3, .int i3), (5, .int i5)]) 6 (i6 + (1 : Int32)) d_Mo_thermometer_164 rfl rfl rfl (by decide) ?_
  refine go_goto 32 d_Mo_thermometer_167 (by decide) ?_
  refine go_sub (lv' := [(0, .ref a0), (1, .ref a1), (2, .int i2), (3, .int i3), (5, .int i5), (6, .int (i6 + (1 : Int32)))]) [2, 3, 4, 5, 6, 0] rfl ?_
  exact hk32 a0 a1 i2 i3 i5 (i6 + (1 : Int32)) h4 hf
def b_Mo_thermometer_89 (F : Nat) (k32 : Nat → Nat → Int32 → Int32 → Int32 → Int32 → PH → Option (Int32 × PH)) (a0 : Nat) (a1 : Nat) (i2 : Int32) (i3 : Int32) (i5 : Int32) (i6 : Int32) (s0 : Int32) (s1 : Int32) (h : PH) : Option (Int32 × PH) :=
  (if i6 = (i3 - (1 : Int32)) then b_Mo_thermometer_142 F k32 a0 a1 i2 i3 i5 i6 (126 : Int32) (s1 &&& s0) h else bnd (cK h a0 10) fun _ => bnd (f_Mo_cellAt a0 i2 (i6 + (1 : Int32)) h) fun x2 => bnd (aI h a1 x2) fun x3 => (if x3 = (0 : Int32) then b_Mo_thermometer_142 F k32 a0 a1 i2 i3 i5 i6 (0 : Int32) (s1 &&& s0) h else bnd (cK h a0 10) fun _ => bnd (f_Mo_cellAt a0 i2 (i6 + (1 : Int32)) h) fun x5 => bnd (aI h a1 x5) fun x6 => bnd (f_Mo_greatest F x6) fun x7 => bnd (f_Mo_below x7) fun x8 => b_Mo_thermometer_142 F k32 a0 a1 i2 i3 i5 i6 x8 (s1 &&& s0) h))
theorem g_Mo_thermometer_89 {l : Launch} {E : ET} {d : Nat} (hd : 3 ≤ d) {F : Nat} {r : Int32} {h9 : PH} {x : Nat} {k32 : Nat → Nat → Int32 → Int32 → Int32 → Int32 → PH → Option (Int32 × PH)} (hk32 : ∀ (a0 : Nat) (a1 : Nat) (i2 : Int32) (i3 : Int32) (i5 : Int32) (i6 : Int32) (hh : PH), k32 a0 a1 i2 i3 i5 i6 hh = some (r, h9) → Go l E m_Mo_thermometer (rm d 0 0) (KM E 0 0 (PoE (some (.int r)) h9 x)) 0 0 hh x 32 [(0, .ref a0), (1, .ref a1), (2, .int i2), (3, .int i3), (5, .int i5), (6, .int i6)] []) (a0 : Nat) (a1 : Nat) (i2 : Int32) (i3 : Int32) (i5 : Int32) (i6 : Int32) (s0 : Int32) (s1 : Int32) (h : PH) (hf : b_Mo_thermometer_89 F k32 a0 a1 i2 i3 i5 i6 s0 s1 h = some (r, h9)) : Go l E m_Mo_thermometer (rm d 0 0) (KM E 0 0 (PoE (some (.int r)) h9 x)) 0 0 h x 89 [(0, .ref a0), (1, .ref a1), (2, .int i2), (3, .int i3), (5, .int i5), (6, .int i6)] [.int s0, .int s1] := by
  unfold b_Mo_thermometer_89 at hf
  refine go_iand d_Mo_thermometer_89 ?_
  refine go_istore (lv' := [(7, .int (s1 &&& s0)), (0, .ref a0), (1, .ref a1), (2, .int i2), (3, .int i3), (5, .int i5), (6, .int i6)]) d_Mo_thermometer_90 rfl (by decide) ?_
  refine go_iload 0 d_Mo_thermometer_92 rfl ?_
  refine go_iload 6 d_Mo_thermometer_94 rfl ?_
  refine go_iload_n 4 d_Mo_thermometer_96 rfl ?_
  refine go_iconst (1 : Int32) d_Mo_thermometer_97 (by decide) ?_
  refine go_isub d_Mo_thermometer_98 ?_
  refine go_icmp_ne 107 d_Mo_thermometer_99 (by decide) (fun q10 => ?_) (fun q10 => ?_)
  · rw [if_neg q10] at hf
    refine go_aload_n 2 d_Mo_thermometer_107 rfl ?_
    refine go_aload_n 1 d_Mo_thermometer_108 rfl ?_
    refine go_iload_n 3 d_Mo_thermometer_109 rfl ?_
    refine go_iload 6 d_Mo_thermometer_110 rfl ?_
    refine go_iconst (1 : Int32) d_Mo_thermometer_112 (by decide) ?_
    refine go_iadd d_Mo_thermometer_113 ?_
    obtain ⟨_, e1, hf⟩ := bnd_x hf
    obtain ⟨x2, e_x2, hf⟩ := bnd_x hf
    refine go_callV_I (As := [.int i2, .int (i6 + (1 : Int32))]) (st := [.ref a1, .int (s1 &&& s0)]) (c_Mo_cellAt (d := d - 1) (by omega) e_x2) lk_Mo_77 rfl rfl e1 (by decide) rfl (rm_ok (by omega)) (Nat.le_of_ble_eq_true rfl) rm_c d_Mo_thermometer_114 ?_
    obtain ⟨x3, e_x3, hf⟩ := bnd_x hf
    refine go_iaload d_Mo_thermometer_117 e_x3 ?_
    refine go_if_ne 125 d_Mo_thermometer_118 (by decide) (fun q9 => ?_) (fun q9 => ?_)
    · rw [if_neg q9] at hf
      refine go_aload_n 2 d_Mo_thermometer_125 rfl ?_
      refine go_aload_n 1 d_Mo_thermometer_126 rfl ?_
      refine go_iload_n 3 d_Mo_thermometer_127 rfl ?_
      refine go_iload 6 d_Mo_thermometer_128 rfl ?_
      refine go_iconst (1 : Int32) d_Mo_thermometer_130 (by decide) ?_
      refine go_iadd d_Mo_thermometer_131 ?_
      obtain ⟨_, e4, hf⟩ := bnd_x hf
      obtain ⟨x5, e_x5, hf⟩ := bnd_x hf
      refine go_callV_I (As := [.int i2, .int (i6 + (1 : Int32))]) (st := [.ref a1, .int (s1 &&& s0)]) (c_Mo_cellAt (d := d - 1) (by omega) e_x5) lk_Mo_77 rfl rfl e4 (by decide) rfl (rm_ok (by omega)) (Nat.le_of_ble_eq_true rfl) rm_c d_Mo_thermometer_132 ?_
      obtain ⟨x6, e_x6, hf⟩ := bnd_x hf
      refine go_iaload d_Mo_thermometer_135 e_x6 ?_
      obtain ⟨x7, e_x7, hf⟩ := bnd_x hf
      refine go_callS_I (As := [.int x6]) (st := [.int (s1 &&& s0)]) (c_Mo_greatest (d := d - 1) (by omega) e_x7) lk_Mo_120 rfl rfl (rm_ok (by omega)) (Nat.le_of_ble_eq_true rfl) rm_c d_Mo_thermometer_136 ?_
      obtain ⟨x8, e_x8, hf⟩ := bnd_x hf
      refine go_callS_I (As := [.int x7]) (st := [.int (s1 &&& s0)]) (c_Mo_below (d := d - 1) (by omega) e_x8) lk_Mo_123 rfl rfl (rm_ok (by omega)) (Nat.le_of_ble_eq_true rfl) rm_c d_Mo_thermometer_139 ?_
      refine go_sub (lv' := [(0, .ref a0), (1, .ref a1), (2, .int i2), (3, .int i3), (5, .int i5), (6, .int i6)]) [1, 2, 3, 4, 5, 6] rfl ?_
      exact g_Mo_thermometer_142 hd hk32 a0 a1 i2 i3 i5 i6 x8 (s1 &&& s0) h hf
    · rw [if_pos q9] at hf
      refine go_iconst (0 : Int32) d_Mo_thermometer_121 (by decide) ?_
      refine go_goto 142 d_Mo_thermometer_122 (by decide) ?_
      refine go_sub (lv' := [(0, .ref a0), (1, .ref a1), (2, .int i2), (3, .int i3), (5, .int i5), (6, .int i6)]) [1, 2, 3, 4, 5, 6] rfl ?_
      exact g_Mo_thermometer_142 hd hk32 a0 a1 i2 i3 i5 i6 (0 : Int32) (s1 &&& s0) h hf
  · rw [if_pos q10] at hf
    refine go_bipush (126 : Int32) d_Mo_thermometer_102 (by decide) ?_
    refine go_goto 142 d_Mo_thermometer_104 (by decide) ?_
    refine go_sub (lv' := [(0, .ref a0), (1, .ref a1), (2, .int i2), (3, .int i3), (5, .int i5), (6, .int i6)]) [1, 2, 3, 4, 5, 6] rfl ?_
    exact g_Mo_thermometer_142 hd hk32 a0 a1 i2 i3 i5 i6 (126 : Int32) (s1 &&& s0) h hf
def b_Mo_thermometer_184 (F : Nat) (k18 : Nat → Nat → Int32 → Int32 → Int32 → PH → Option (Int32 × PH)) (a0 : Nat) (a1 : Nat) (i2 : Int32) (i3 : Int32) (s0 : Int32) (h : PH) : Option (Int32 × PH) :=
  k18 a0 a1 i2 i3 s0 h
theorem g_Mo_thermometer_184 {l : Launch} {E : ET} {d : Nat} (hd : 3 ≤ d) {F : Nat} {r : Int32} {h9 : PH} {x : Nat} {k18 : Nat → Nat → Int32 → Int32 → Int32 → PH → Option (Int32 × PH)} (hk18 : ∀ (a0 : Nat) (a1 : Nat) (i2 : Int32) (i3 : Int32) (i4 : Int32) (hh : PH), k18 a0 a1 i2 i3 i4 hh = some (r, h9) → Go l E m_Mo_thermometer (rm d 0 0) (KM E 0 0 (PoE (some (.int r)) h9 x)) 0 0 hh x 18 [(0, .ref a0), (1, .ref a1), (2, .int i2), (3, .int i3), (4, .int i4)] []) (a0 : Nat) (a1 : Nat) (i2 : Int32) (i3 : Int32) (s0 : Int32) (h : PH) (hf : b_Mo_thermometer_184 F k18 a0 a1 i2 i3 s0 h = some (r, h9)) : Go l E m_Mo_thermometer (rm d 0 0) (KM E 0 0 (PoE (some (.int r)) h9 x)) 0 0 h x 184 [(0, .ref a0), (1, .ref a1), (2, .int i2), (3, .int i3)] [.int s0] := by
  unfold b_Mo_thermometer_184 at hf
  refine go_istore (lv' := [(4, .int s0), (0, .ref a0), (1, .ref a1), (2, .int i2), (3, .int i3)]) d_Mo_thermometer_184 rfl (by decide) ?_
  refine go_goto 18 d_Mo_thermometer_186 (by decide) ?_
  refine go_sub (lv' := [(0, .ref a0), (1, .ref a1), (2, .int i2), (3, .int i3), (4, .int s0)]) [1, 2, 3, 4, 0] rfl ?_
  exact hk18 a0 a1 i2 i3 s0 h hf
def b_Mo_thermometer_32 (F : Nat) (k18 : Nat → Nat → Int32 → Int32 → Int32 → PH → Option (Int32 × PH)) (k32 : Nat → Nat → Int32 → Int32 → Int32 → Int32 → PH → Option (Int32 × PH)) (a0 : Nat) (a1 : Nat) (i2 : Int32) (i3 : Int32) (i5 : Int32) (i6 : Int32) (h : PH) : Option (Int32 × PH) :=
  (if i3 ≤ i6 then bnd (gI h a0 10 8) fun x1 => (if x1 ≤ i5 then b_Mo_thermometer_184 F k18 a0 a1 i2 i3 (0 : Int32) h else b_Mo_thermometer_184 F k18 a0 a1 i2 i3 (1 : Int32) h) else (if i6 = (0 : Int32) then b_Mo_thermometer_89 F k32 a0 a1 i2 i3 i5 i6 (126 : Int32) (126 : Int32) h else bnd (cK h a0 10) fun _ => bnd (f_Mo_cellAt a0 i2 (i6 - (1 : Int32)) h) fun x4 => bnd (aI h a1 x4) fun x5 => (if x5 = (0 : Int32) then b_Mo_thermometer_89 F k32 a0 a1 i2 i3 i5 i6 (0 : Int32) (126 : Int32) h else bnd (cK h a0 10) fun _ => bnd (f_Mo_cellAt a0 i2 (i6 - (1 : Int32)) h) fun x7 => bnd (aI h a1 x7) fun x8 => bnd (f_Mo_least F x8) fun x9 => bnd (f_Mo_above x9) fun x10 => b_Mo_thermometer_89 F k32 a0 a1 i2 i3 i5 i6 x10 (126 : Int32) h)))
def f_Mo_thermometer_32 (F : Nat) (k18 : Nat → Nat → Int32 → Int32 → Int32 → PH → Option (Int32 × PH)) : Nat → Nat → Nat → Int32 → Int32 → Int32 → Int32 → PH → Option (Int32 × PH)
  | 0 => fun _ _ _ _ _ _ _ => none
  | n + 1 => b_Mo_thermometer_32 F k18 (f_Mo_thermometer_32 F k18 n)
theorem g_Mo_thermometer_32 {l : Launch} {E : ET} {d : Nat} (hd : 3 ≤ d) {F : Nat} {r : Int32} {h9 : PH} {x : Nat} {k18 : Nat → Nat → Int32 → Int32 → Int32 → PH → Option (Int32 × PH)} (hk18 : ∀ (a0 : Nat) (a1 : Nat) (i2 : Int32) (i3 : Int32) (i4 : Int32) (hh : PH), k18 a0 a1 i2 i3 i4 hh = some (r, h9) → Go l E m_Mo_thermometer (rm d 0 0) (KM E 0 0 (PoE (some (.int r)) h9 x)) 0 0 hh x 18 [(0, .ref a0), (1, .ref a1), (2, .int i2), (3, .int i3), (4, .int i4)] []) {k32 : Nat → Nat → Int32 → Int32 → Int32 → Int32 → PH → Option (Int32 × PH)} (hk32 : ∀ (a0 : Nat) (a1 : Nat) (i2 : Int32) (i3 : Int32) (i5 : Int32) (i6 : Int32) (hh : PH), k32 a0 a1 i2 i3 i5 i6 hh = some (r, h9) → Go l E m_Mo_thermometer (rm d 0 0) (KM E 0 0 (PoE (some (.int r)) h9 x)) 0 0 hh x 32 [(0, .ref a0), (1, .ref a1), (2, .int i2), (3, .int i3), (5, .int i5), (6, .int i6)] []) (a0 : Nat) (a1 : Nat) (i2 : Int32) (i3 : Int32) (i5 : Int32) (i6 : Int32) (h : PH) (hf : b_Mo_thermometer_32 F k18 k32 a0 a1 i2 i3 i5 i6 h = some (r, h9)) : Go l E m_Mo_thermometer (rm d 0 0) (KM E 0 0 (PoE (some (.int r)) h9 x)) 0 0 h x 32 [(0, .ref a0), (1, .ref a1), (2, .int i2), (3, .int i3), (5, .int i5), (6, .int i6)] [] := by
  unfold b_Mo_thermometer_32 at hf
  refine go_iload 5 d_Mo_thermometer_32 rfl ?_
  refine go_iload_n 3 d_Mo_thermometer_34 rfl ?_
  refine go_icmp_ge 170 d_Mo_thermometer_35 (by decide) (fun q13 => ?_) (fun q13 => ?_)
  · rw [if_pos q13] at hf
    refine go_aload_n 0 d_Mo_thermometer_170 rfl ?_
    obtain ⟨x1, e_x1, hf⟩ := bnd_x hf
    refine go_get d_Mo_thermometer_171 (gI_x e_x1) fl_Mo_95 ?_
    refine go_iload 4 d_Mo_thermometer_174 rfl ?_
    refine go_icmp_le 183 d_Mo_thermometer_176 (by decide) (fun q2 => ?_) (fun q2 => ?_)
    · rw [if_pos q2] at hf
      refine go_iconst (0 : Int32) d_Mo_thermometer_183 (by decide) ?_
      refine go_sub (lv' := [(0, .ref a0), (1, .ref a1), (2, .int i2), (3, .int i3)]) [0, 1, 2, 3] rfl ?_
      exact g_Mo_thermometer_184 hd hk18 a0 a1 i2 i3 (0 : Int32) h hf
    · rw [if_neg q2] at hf
      refine go_iconst (1 : Int32) d_Mo_thermometer_179 (by decide) ?_
      refine go_goto 184 d_Mo_thermometer_180 (by decide) ?_
      refine go_sub (lv' := [(0, .ref a0), (1, .ref a1), (2, .int i2), (3, .int i3)]) [0, 1, 2, 3] rfl ?_
      exact g_Mo_thermometer_184 hd hk18 a0 a1 i2 i3 (1 : Int32) h hf
  · rw [if_neg q13] at hf
    refine go_bipush (126 : Int32) d_Mo_thermometer_38 (by decide) ?_
    refine go_istore (lv' := [(7, .int (126 : Int32)), (0, .ref a0), (1, .ref a1), (2, .int i2), (3, .int i3), (5, .int i5), (6, .int i6)]) d_Mo_thermometer_40 rfl (by decide) ?_
    refine go_iload 0 d_Mo_thermometer_42 rfl ?_
    refine go_iload 6 d_Mo_thermometer_44 rfl ?_
    refine go_if_ne 54 d_Mo_thermometer_46 (by decide) (fun q12 => ?_) (fun q12 => ?_)
    · rw [if_neg q12] at hf
      refine go_aload_n 2 d_Mo_thermometer_54 rfl ?_
      refine go_aload_n 1 d_Mo_thermometer_55 rfl ?_
      refine go_iload_n 3 d_Mo_thermometer_56 rfl ?_
      refine go_iload 6 d_Mo_thermometer_57 rfl ?_
      refine go_iconst (1 : Int32) d_Mo_thermometer_59 (by decide) ?_
      refine go_isub d_Mo_thermometer_60 ?_
      obtain ⟨_, e3, hf⟩ := bnd_x hf
      obtain ⟨x4, e_x4, hf⟩ := bnd_x hf
      refine go_callV_I (As := [.int i2, .int (i6 - (1 : Int32))]) (st := [.ref a1, .int (126 : Int32)]) (c_Mo_cellAt (d := d - 1) (by omega) e_x4) lk_Mo_77 rfl rfl e3 (by decide) rfl (rm_ok (by omega)) (Nat.le_of_ble_eq_true rfl) rm_c d_Mo_thermometer_61 ?_
      obtain ⟨x5, e_x5, hf⟩ := bnd_x hf
      refine go_iaload d_Mo_thermometer_64 e_x5 ?_
      refine go_if_ne 72 d_Mo_thermometer_65 (by decide) (fun q11 => ?_) (fun q11 => ?_)
      · rw [if_neg q11] at hf
        refine go_aload_n 2 d_Mo_thermometer_72 rfl ?_
        refine go_aload_n 1 d_Mo_thermometer_73 rfl ?_
        refine go_iload_n 3 d_Mo_thermometer_74 rfl ?_
        refine go_iload 6 d_Mo_thermometer_75 rfl ?_
        refine go_iconst (1 : Int32) d_Mo_thermometer_77 (by decide) ?_
        refine go_isub d_Mo_thermometer_78 ?_
        obtain ⟨_, e6, hf⟩ := bnd_x hf
        obtain ⟨x7, e_x7, hf⟩ := bnd_x hf
        refine go_callV_I (As := [.int i2, .int (i6 - (1 : Int32))]) (st := [.ref a1, .int (126 : Int32)]) (c_Mo_cellAt (d := d - 1) (by omega) e_x7) lk_Mo_77 rfl rfl e6 (by decide) rfl (rm_ok (by omega)) (Nat.le_of_ble_eq_true rfl) rm_c d_Mo_thermometer_79 ?_
        obtain ⟨x8, e_x8, hf⟩ := bnd_x hf
        refine go_iaload d_Mo_thermometer_82 e_x8 ?_
        obtain ⟨x9, e_x9, hf⟩ := bnd_x hf
        refine go_callS_I (As := [.int x8]) (st := [.int (126 : Int32)]) (c_Mo_least (d := d - 1) (by omega) e_x9) lk_Mo_114 rfl rfl (rm_ok (by omega)) (Nat.le_of_ble_eq_true rfl) rm_c d_Mo_thermometer_83 ?_
        obtain ⟨x10, e_x10, hf⟩ := bnd_x hf
        refine go_callS_I (As := [.int x9]) (st := [.int (126 : Int32)]) (c_Mo_above (d := d - 1) (by omega) e_x10) lk_Mo_117 rfl rfl (rm_ok (by omega)) (Nat.le_of_ble_eq_true rfl) rm_c d_Mo_thermometer_86 ?_
        refine go_sub (lv' := [(0, .ref a0), (1, .ref a1), (2, .int i2), (3, .int i3), (5, .int i5), (6, .int i6)]) [1, 2, 3, 4, 5, 6] rfl ?_
        exact g_Mo_thermometer_89 hd hk32 a0 a1 i2 i3 i5 i6 x10 (126 : Int32) h hf
      · rw [if_pos q11] at hf
        refine go_iconst (0 : Int32) d_Mo_thermometer_68 (by decide) ?_
        refine go_goto 89 d_Mo_thermometer_69 (by decide) ?_
        refine go_sub (lv' := [(0, .ref a0), (1, .ref a1), (2, .int i2), (3, .int i3), (5, .int i5), (6, .int i6)]) [1, 2, 3, 4, 5, 6] rfl ?_
        exact g_Mo_thermometer_89 hd hk32 a0 a1 i2 i3 i5 i6 (0 : Int32) (126 : Int32) h hf
    · rw [if_pos q12] at hf
      refine go_bipush (126 : Int32) d_Mo_thermometer_49 (by decide) ?_
      refine go_goto 89 d_Mo_thermometer_51 (by decide) ?_
      refine go_sub (lv' := [(0, .ref a0), (1, .ref a1), (2, .int i2), (3, .int i3), (5, .int i5), (6, .int i6)]) [1, 2, 3, 4, 5, 6] rfl ?_
      exact g_Mo_thermometer_89 hd hk32 a0 a1 i2 i3 i5 i6 (126 : Int32) (126 : Int32) h hf
theorem t_Mo_thermometer_32 {l : Launch} {E : ET} {d : Nat} (hd : 3 ≤ d) {F : Nat} {r : Int32} {h9 : PH} {x : Nat} {k18 : Nat → Nat → Int32 → Int32 → Int32 → PH → Option (Int32 × PH)} (hk18 : ∀ (a0 : Nat) (a1 : Nat) (i2 : Int32) (i3 : Int32) (i4 : Int32) (hh : PH), k18 a0 a1 i2 i3 i4 hh = some (r, h9) → Go l E m_Mo_thermometer (rm d 0 0) (KM E 0 0 (PoE (some (.int r)) h9 x)) 0 0 hh x 18 [(0, .ref a0), (1, .ref a1), (2, .int i2), (3, .int i3), (4, .int i4)] []) : ∀ (n : Nat) (a0 : Nat) (a1 : Nat) (i2 : Int32) (i3 : Int32) (i5 : Int32) (i6 : Int32) (hh : PH), f_Mo_thermometer_32 F k18 n a0 a1 i2 i3 i5 i6 hh = some (r, h9) → Go l E m_Mo_thermometer (rm d 0 0) (KM E 0 0 (PoE (some (.int r)) h9 x)) 0 0 hh x 32 [(0, .ref a0), (1, .ref a1), (2, .int i2), (3, .int i3), (5, .int i5), (6, .int i6)] [] := by
  intro n
  induction n with
  | zero => intro v0 v1 v2 v3 v4 v5 v6 hf; cases hf
  | succ n ih => intro v0 v1 v2 v3 v4 v5 v6 hf; exact g_Mo_thermometer_32 hd hk18 ih v0 v1 v2 v3 v4 v5 v6 hf
def b_Mo_thermometer_18 (F : Nat) (k18 : Nat → Nat → Int32 → Int32 → Int32 → PH → Option (Int32 × PH)) (a0 : Nat) (a1 : Nat) (i2 : Int32) (i3 : Int32) (i4 : Int32) (h : PH) : Option (Int32 × PH) :=
  (if i4 = (0 : Int32) then bnd (gI h a0 10 8) fun x1 => (if x1 ≤ (0 : Int32) then some ((0 : Int32), h) else some ((1 : Int32), h)) else bnd (gI h a0 10 8) fun x3 => f_Mo_thermometer_32 F k18 F a0 a1 i2 i3 x3 (0 : Int32) h)
def f_Mo_thermometer_18 (F : Nat) : Nat → Nat → Nat → Int32 → Int32 → Int32 → PH → Option (Int32 × PH)
  | 0 => fun _ _ _ _ _ _ => none
  | n + 1 => b_Mo_thermometer_18 F (f_Mo_thermometer_18 F n)
theorem g_Mo_thermometer_18 {l : Launch} {E : ET} {d : Nat} (hd : 3 ≤ d) {F : Nat} {r : Int32} {h9 : PH} {x : Nat} {k18 : Nat → Nat → Int32 → Int32 → Int32 → PH → Option (Int32 × PH)} (hk18 : ∀ (a0 : Nat) (a1 : Nat) (i2 : Int32) (i3 : Int32) (i4 : Int32) (hh : PH), k18 a0 a1 i2 i3 i4 hh = some (r, h9) → Go l E m_Mo_thermometer (rm d 0 0) (KM E 0 0 (PoE (some (.int r)) h9 x)) 0 0 hh x 18 [(0, .ref a0), (1, .ref a1), (2, .int i2), (3, .int i3), (4, .int i4)] []) (a0 : Nat) (a1 : Nat) (i2 : Int32) (i3 : Int32) (i4 : Int32) (h : PH) (hf : b_Mo_thermometer_18 F k18 a0 a1 i2 i3 i4 h = some (r, h9)) : Go l E m_Mo_thermometer (rm d 0 0) (KM E 0 0 (PoE (some (.int r)) h9 x)) 0 0 h x 18 [(0, .ref a0), (1, .ref a1), (2, .int i2), (3, .int i3), (4, .int i4)] [] := by
  unfold b_Mo_thermometer_18 at hf
  refine go_iload 4 d_Mo_thermometer_18 rfl ?_
  refine go_if_eq 189 d_Mo_thermometer_20 (by decide) (fun q4 => ?_) (fun q4 => ?_)
  · rw [if_pos q4] at hf
    refine go_aload_n 0 d_Mo_thermometer_189 rfl ?_
    obtain ⟨x1, e_x1, hf⟩ := bnd_x hf
    refine go_get d_Mo_thermometer_190 (gI_x e_x1) fl_Mo_95 ?_
    refine go_if_le 200 d_Mo_thermometer_193 (by decide) (fun q2 => ?_) (fun q2 => ?_)
    · rw [if_pos q2] at hf
      refine go_iconst (0 : Int32) d_Mo_thermometer_200 (by decide) ?_
      obtain ⟨e8, e9⟩ := Prod.mk.inj (Option.some.inj hf)
      subst e8; subst e9
      exact go_zret d_Mo_thermometer_201 rfl rfl ⟨rfl, rfl, rfl⟩
    · rw [if_neg q2] at hf
      refine go_iconst (1 : Int32) d_Mo_thermometer_196 (by decide) ?_
      refine go_goto 201 d_Mo_thermometer_197 (by decide) ?_
      obtain ⟨e8, e9⟩ := Prod.mk.inj (Option.some.inj hf)
      subst e8; subst e9
      exact go_zret d_Mo_thermometer_201 rfl rfl ⟨rfl, rfl, rfl⟩
  · rw [if_neg q4] at hf
    refine go_aload_n 0 d_Mo_thermometer_23 rfl ?_
    obtain ⟨x3, e_x3, hf⟩ := bnd_x hf
    refine go_get d_Mo_thermometer_24 (gI_x e_x3) fl_Mo_95 ?_
    refine go_istore (lv' := [(5, .int x3), (0, .ref a0), (1, .ref a1), (2, .int i2), (3, .int i3), (4, .int i4)]) d_Mo_thermometer_27 rfl (by decide) ?_
    refine go_iconst (0 : Int32) d_Mo_thermometer_29 (by decide) ?_
    refine go_istore (lv' := [(6, .int (0 : Int32)), (5, .int x3), (0, .ref a0), (1, .ref a1), (2, .int i2), (3, .int i3), (4, .int i4)]) d_Mo_thermometer_30 rfl (by decide) ?_
    refine go_sub (lv' := [(0, .ref a0), (1, .ref a1), (2, .int i2), (3, .int i3), (5, .int x3), (6, .int (0 : Int32))]) [2, 3, 4, 5, 1, 0] rfl ?_
    exact t_Mo_thermometer_32 hd hk18 _ a0 a1 i2 i3 x3 (0 : Int32) h hf
theorem t_Mo_thermometer_18 {l : Launch} {E : ET} {d : Nat} (hd : 3 ≤ d) {F : Nat} {r : Int32} {h9 : PH} {x : Nat}  : ∀ (n : Nat) (a0 : Nat) (a1 : Nat) (i2 : Int32) (i3 : Int32) (i4 : Int32) (hh : PH), f_Mo_thermometer_18 F n a0 a1 i2 i3 i4 hh = some (r, h9) → Go l E m_Mo_thermometer (rm d 0 0) (KM E 0 0 (PoE (some (.int r)) h9 x)) 0 0 hh x 18 [(0, .ref a0), (1, .ref a1), (2, .int i2), (3, .int i3), (4, .int i4)] [] := by
  intro n
  induction n with
  | zero => intro v0 v1 v2 v3 v4 v5 hf; cases hf
  | succ n ih => intro v0 v1 v2 v3 v4 v5 hf; exact g_Mo_thermometer_18 hd ih v0 v1 v2 v3 v4 v5 hf
def b_Mo_thermometer_16 (F : Nat) (a0 : Nat) (a1 : Nat) (i2 : Int32) (i3 : Int32) (s0 : Int32) (h : PH) : Option (Int32 × PH) :=
  f_Mo_thermometer_18 F F a0 a1 i2 i3 s0 h
theorem g_Mo_thermometer_16 {l : Launch} {E : ET} {d : Nat} (hd : 3 ≤ d) {F : Nat} {r : Int32} {h9 : PH} {x : Nat}  (a0 : Nat) (a1 : Nat) (i2 : Int32) (i3 : Int32) (s0 : Int32) (h : PH) (hf : b_Mo_thermometer_16 F a0 a1 i2 i3 s0 h = some (r, h9)) : Go l E m_Mo_thermometer (rm d 0 0) (KM E 0 0 (PoE (some (.int r)) h9 x)) 0 0 h x 16 [(0, .ref a0), (1, .ref a1), (2, .int i2), (3, .int i3)] [.int s0] := by
  unfold b_Mo_thermometer_16 at hf
  refine go_istore (lv' := [(4, .int s0), (0, .ref a0), (1, .ref a1), (2, .int i2), (3, .int i3)]) d_Mo_thermometer_16 rfl (by decide) ?_
  refine go_sub (lv' := [(0, .ref a0), (1, .ref a1), (2, .int i2), (3, .int i3), (4, .int s0)]) [1, 2, 3, 4, 0] rfl ?_
  exact t_Mo_thermometer_18 hd  _ a0 a1 i2 i3 s0 h hf
def f_Mo_thermometer (F : Nat) (a0 : Nat) (a1 : Nat) (i2 : Int32) (h : PH) : Option (Int32 × PH) :=
  bnd (cK h a0 10) fun _ => bnd (f_Mo_lengthOf a0 i2 h) fun x2 => (if x2 ≤ (1 : Int32) then b_Mo_thermometer_16 F a0 a1 i2 x2 (0 : Int32) h else b_Mo_thermometer_16 F a0 a1 i2 x2 (1 : Int32) h)
theorem g_Mo_thermometer_0 {l : Launch} {E : ET} {d : Nat} (hd : 3 ≤ d) {F : Nat} {r : Int32} {h9 : PH} {x : Nat}  (a0 : Nat) (a1 : Nat) (i2 : Int32) (h : PH) (hf : f_Mo_thermometer F a0 a1 i2 h = some (r, h9)) : Go l E m_Mo_thermometer (rm d 0 0) (KM E 0 0 (PoE (some (.int r)) h9 x)) 0 0 h x 0 [(0, .ref a0), (1, .ref a1), (2, .int i2)] [] := by
  unfold f_Mo_thermometer at hf
  refine go_aload_n 0 d_Mo_thermometer_0 rfl ?_
  refine go_iload_n 2 d_Mo_thermometer_1 rfl ?_
  obtain ⟨_, e1, hf⟩ := bnd_x hf
  obtain ⟨x2, e_x2, hf⟩ := bnd_x hf
  refine go_callV_I (As := [.int i2]) (st := []) (c_Mo_lengthOf (d := d - 1) (by omega) e_x2) lk_Mo_74 rfl rfl e1 (by decide) rfl (rm_ok (by omega)) (Nat.le_of_ble_eq_true rfl) rm_c d_Mo_thermometer_2 ?_
  refine go_istore_n (lv' := [(3, .int x2), (0, .ref a0), (1, .ref a1), (2, .int i2)]) d_Mo_thermometer_5 rfl (by decide) ?_
  refine go_iload_n 0 d_Mo_thermometer_6 rfl ?_
  refine go_iconst (1 : Int32) d_Mo_thermometer_7 (by decide) ?_
  refine go_icmp_le 15 d_Mo_thermometer_8 (by decide) (fun q3 => ?_) (fun q3 => ?_)
  · rw [if_pos q3] at hf
    refine go_iconst (0 : Int32) d_Mo_thermometer_15 (by decide) ?_
    refine go_sub (lv' := [(0, .ref a0), (1, .ref a1), (2, .int i2), (3, .int x2)]) [1, 2, 3, 0] rfl ?_
    exact g_Mo_thermometer_16 hd  a0 a1 i2 x2 (0 : Int32) h hf
  · rw [if_neg q3] at hf
    refine go_iconst (1 : Int32) d_Mo_thermometer_11 (by decide) ?_
    refine go_goto 16 d_Mo_thermometer_12 (by decide) ?_
    refine go_sub (lv' := [(0, .ref a0), (1, .ref a1), (2, .int i2), (3, .int x2)]) [1, 2, 3, 0] rfl ?_
    exact g_Mo_thermometer_16 hd  a0 a1 i2 x2 (1 : Int32) h hf
theorem c_Mo_thermometer {l : Launch} {E : ET} {d : Nat} (hd : 3 ≤ d) {F : Nat} {r : Int32} {h9 : PH} {x : Nat} {a0 : Nat} {a1 : Nat} {i2 : Int32} {h : PH} (hf : f_Mo_thermometer F a0 a1 i2 h = some (r, h9)) : Fn l E m_Mo_thermometer d 0 0 [.ref a0, .ref a1, .int i2] h x (PoE (some (.int r)) h9 x) :=
  Fn.of (by decide +kernel) (Nat.le_of_ble_eq_true rfl) (g_Mo_thermometer_0 hd a0 a1 i2 h hf)
theorem d_Mo_laysWay_0 : decode prog_13_method_29_code 0 = .ok (.iload_n 3, 1) := by decide +kernel
theorem d_Mo_laysWay_1 : decode prog_13_method_29_code 1 = .ok (.istore 4, 2) := by decide +kernel
theorem d_Mo_laysWay_3 : decode prog_13_method_29_code 3 = .ok (.iconst 1, 1) := by decide +kernel
theorem d_Mo_laysWay_4 : decode prog_13_method_29_code 4 = .ok (.istore 5, 2) := by decide +kernel
theorem d_Mo_laysWay_6 : decode prog_13_method_29_code 6 = .ok (.iconst 0, 1) := by decide +kernel
theorem d_Mo_laysWay_7 : decode prog_13_method_29_code 7 = .ok (.istore 6, 2) := by decide +kernel
theorem d_Mo_laysWay_9 : decode prog_13_method_29_code 9 = .ok (.iload 6, 2) := by decide +kernel
theorem d_Mo_laysWay_11 : decode prog_13_method_29_code 11 = .ok (.aload_n 0, 1) := by decide +kernel
theorem d_Mo_laysWay_12 : decode prog_13_method_29_code 12 = .ok (.iload_n 2, 1) := by decide +kernel
theorem d_Mo_laysWay_13 : decode prog_13_method_29_code 13 = .ok (.invokevirtual 74, 3) := by decide +kernel
theorem d_Mo_laysWay_16 : decode prog_13_method_29_code 16 = .ok (.if_icmp .ge 64, 3) := by decide +kernel
theorem d_Mo_laysWay_19 : decode prog_13_method_29_code 19 = .ok (.aload_n 0, 1) := by decide +kernel
theorem d_Mo_laysWay_20 : decode prog_13_method_29_code 20 = .ok (.getfield 22, 3) := by decide +kernel
theorem d_Mo_laysWay_23 : decode prog_13_method_29_code 23 = .ok (.iload 6, 2) := by decide +kernel
theorem d_Mo_laysWay_25 : decode prog_13_method_29_code 25 = .ok (.iconst 1, 1) := by decide +kernel
theorem d_Mo_laysWay_26 : decode prog_13_method_29_code 26 = .ok (.iload 4, 2) := by decide +kernel
theorem d_Mo_laysWay_28 : decode prog_13_method_29_code 28 = .ok (.bipush 6, 2) := by decide +kernel
theorem d_Mo_laysWay_30 : decode prog_13_method_29_code 30 = .ok (.irem, 1) := by decide +kernel
theorem d_Mo_laysWay_31 : decode prog_13_method_29_code 31 = .ok (.iadd, 1) := by decide +kernel
theorem d_Mo_laysWay_32 : decode prog_13_method_29_code 32 = .ok (.iastore, 1) := by decide +kernel
theorem d_Mo_laysWay_33 : decode prog_13_method_29_code 33 = .ok (.iload 4, 2) := by decide +kernel
theorem d_Mo_laysWay_35 : decode prog_13_method_29_code 35 = .ok (.bipush 6, 2) := by decide +kernel
theorem d_Mo_laysWay_37 : decode prog_13_method_29_code 37 = .ok (.idiv, 1) := by decide +kernel
theorem d_Mo_laysWay_38 : decode prog_13_method_29_code 38 = .ok (.istore 4, 2) := by decide +kernel
theorem d_Mo_laysWay_40 : decode prog_13_method_29_code 40 = .ok (.iload 5, 2) := by decide +kernel
theorem d_Mo_laysWay_42 : decode prog_13_method_29_code 42 = .ok (.ifCond .eq 29, 3) := by decide +kernel
theorem d_Mo_laysWay_45 : decode prog_13_method_29_code 45 = .ok (.aload_n 1, 1) := by decide +kernel
theorem d_Mo_laysWay_46 : decode prog_13_method_29_code 46 = .ok (.aload_n 0, 1) := by decide +kernel
theorem d_Mo_laysWay_47 : decode prog_13_method_29_code 47 = .ok (.iload_n 2, 1) := by decide +kernel
theorem d_Mo_laysWay_48 : decode prog_13_method_29_code 48 = .ok (.iload 6, 2) := by decide +kernel
theorem d_Mo_laysWay_50 : decode prog_13_method_29_code 50 = .ok (.invokevirtual 77, 3) := by decide +kernel
theorem d_Mo_laysWay_53 : decode prog_13_method_29_code 53 = .ok (.iaload, 1) := by decide +kernel
theorem d_Mo_laysWay_54 : decode prog_13_method_29_code 54 = .ok (.aload_n 0, 1) := by decide +kernel
theorem d_Mo_laysWay_55 : decode prog_13_method_29_code 55 = .ok (.getfield 22, 3) := by decide +kernel
theorem d_Mo_laysWay_58 : decode prog_13_method_29_code 58 = .ok (.iload 6, 2) := by decide +kernel
theorem d_Mo_laysWay_60 : decode prog_13_method_29_code 60 = .ok (.iaload, 1) := by decide +kernel
theorem d_Mo_laysWay_61 : decode prog_13_method_29_code 61 = .ok (.invokestatic 66, 3) := by decide +kernel
theorem d_Mo_laysWay_64 : decode prog_13_method_29_code 64 = .ok (.ifCond .eq 7, 3) := by decide +kernel
theorem d_Mo_laysWay_67 : decode prog_13_method_29_code 67 = .ok (.iconst 1, 1) := by decide +kernel
theorem d_Mo_laysWay_68 : decode prog_13_method_29_code 68 = .ok (.goto 4, 3) := by decide +kernel
theorem d_Mo_laysWay_71 : decode prog_13_method_29_code 71 = .ok (.iconst 0, 1) := by decide +kernel
theorem d_Mo_laysWay_72 : decode prog_13_method_29_code 72 = .ok (.istore 5, 2) := by decide +kernel
theorem d_Mo_laysWay_74 : decode prog_13_method_29_code 74 = .ok (.iinc 6 1, 3) := by decide +kernel
theorem d_Mo_laysWay_77 : decode prog_13_method_29_code 77 = .ok (.goto (-68), 3) := by decide +kernel
theorem d_Mo_laysWay_80 : decode prog_13_method_29_code 80 = .ok (.iload 5, 2) := by decide +kernel
theorem d_Mo_laysWay_82 : decode prog_13_method_29_code 82 = .ok (.ireturn, 1) := by decide +kernel
def b_Mo_laysWay_72 (F : Nat) (k9 : Nat → Nat → Int32 → Int32 → Int32 → Int32 → PH → Option (Int32 × PH)) (a0 : Nat) (a1 : Nat) (i2 : Int32) (i4 : Int32) (i6 : Int32) (s0 : Int32) (h : PH) : Option (Int32 × PH) :=
  k9 a0 a1 i2 i4 s0 (i6 + (1 : Int32)) h
theorem g_Mo_laysWay_72 {l : Launch} {E : ET} {d : Nat} (hd : 2 ≤ d) {F : Nat} {r : Int32} {h9 : PH} {x : Nat} {k9 : Nat → Nat → Int32 → Int32 → Int32 → Int32 → PH → Option (Int32 × PH)} (hk9 : ∀ (a0 : Nat) (a1 : Nat) (i2 : Int32) (i4 : Int32) (i5 : Int32) (i6 : Int32) (hh : PH), k9 a0 a1 i2 i4 i5 i6 hh = some (r, h9) → Go l E m_Mo_laysWay (rm d 0 0) (KM E 0 0 (PoE (some (.int r)) h9 x)) 0 0 hh x 9 [(0, .ref a0), (1, .ref a1), (2, .int i2), (4, .int i4), (5, .int i5), (6, .int i6)] []) (a0 : Nat) (a1 : Nat) (i2 : Int32) (i4 : Int32) (i6 : Int32) (s0 : Int32) (h : PH) (hf : b_Mo_laysWay_72 F k9 a0 a1 i2 i4 i6 s0 h = some (r, h9)) : Go l E m_Mo_laysWay (rm d 0 0) (KM E 0 0 (PoE (some (.int r)) h9 x)) 0 0 h x 72 [(0, .ref a0), (1, .ref a1), (2, .int i2), (4, .int i4), (6, .int i6)] [.int s0] := by
  unfold b_Mo_laysWay_72 at hf
  refine go_istore (lv' := [(5, .int s0), (0, .ref a0), (1, .ref a1), (2, .int i2), (4, .int i4), (6, .int i6)]) d_Mo_laysWay_72 rfl (by decide) ?_
  refine go_iinc (lv' := [(6, .int (i6 + (1 : Int32))), (5, .int s0), (0, .ref a0), (1, .ref a1), (2, .int i2), (4, .int i4)]) 5 (i6 + (1 : Int32)) d_Mo_laysWay_74 rfl rfl rfl (by decide) ?_
  refine go_goto 9 d_Mo_laysWay_77 (by decide) ?_
  refine go_sub (lv' := [(0, .ref a0), (1, .ref a1), (2, .int i2), (4, .int i4), (5, .int s0), (6, .int (i6 + (1 : Int32)))]) [2, 3, 4, 5, 1, 0] rfl ?_
  exact hk9 a0 a1 i2 i4 s0 (i6 + (1 : Int32)) h hf
def b_Mo_laysWay_71 (F : Nat) (k9 : Nat → Nat → Int32 → Int32 → Int32 → Int32 → PH → Option (Int32 × PH)) (a0 : Nat) (a1 : Nat) (i2 : Int32) (i4 : Int32) (i6 : Int32) (h : PH) : Option (Int32 × PH) :=
  b_Mo_laysWay_72 F k9 a0 a1 i2 i4 i6 (0 : Int32) h
theorem g_Mo_laysWay_71 {l : Launch} {E : ET} {d : Nat} (hd : 2 ≤ d) {F : Nat} {r : Int32} {h9 : PH} {x : Nat} {k9 : Nat → Nat → Int32 → Int32 → Int32 → Int32 → PH → Option (Int32 × PH)} (hk9 : ∀ (a0 : Nat) (a1 : Nat) (i2 : Int32) (i4 : Int32) (i5 : Int32) (i6 : Int32) (hh : PH), k9 a0 a1 i2 i4 i5 i6 hh = some (r, h9) → Go l E m_Mo_laysWay (rm d 0 0) (KM E 0 0 (PoE (some (.int r)) h9 x)) 0 0 hh x 9 [(0, .ref a0), (1, .ref a1), (2, .int i2), (4, .int i4), (5, .int i5), (6, .int i6)] []) (a0 : Nat) (a1 : Nat) (i2 : Int32) (i4 : Int32) (i6 : Int32) (h : PH) (hf : b_Mo_laysWay_71 F k9 a0 a1 i2 i4 i6 h = some (r, h9)) : Go l E m_Mo_laysWay (rm d 0 0) (KM E 0 0 (PoE (some (.int r)) h9 x)) 0 0 h x 71 [(0, .ref a0), (1, .ref a1), (2, .int i2), (4, .int i4), (6, .int i6)] [] := by
  unfold b_Mo_laysWay_71 at hf
  refine go_iconst (0 : Int32) d_Mo_laysWay_71 (by decide) ?_
  refine go_sub (lv' := [(0, .ref a0), (1, .ref a1), (2, .int i2), (4, .int i4), (6, .int i6)]) [0, 1, 2, 3, 4] rfl ?_
  exact g_Mo_laysWay_72 hd hk9 a0 a1 i2 i4 i6 (0 : Int32) h hf
def b_Mo_laysWay_9 (F : Nat) (k9 : Nat → Nat → Int32 → Int32 → Int32 → Int32 → PH → Option (Int32 × PH)) (a0 : Nat) (a1 : Nat) (i2 : Int32) (i4 : Int32) (i5 : Int32) (i6 : Int32) (h : PH) : Option (Int32 × PH) :=
  bnd (cK h a0 10) fun _ => bnd (f_Mo_lengthOf a0 i2 h) fun x2 => (if x2 ≤ i6 then bnd (cZ i5) fun _ => some (i5, h) else bnd (gR h a0 10 10) fun x4 => bnd (sI h x4 i6 ((1 : Int32) + (i4 - i4 / (6 : Int32) * (6 : Int32)))) fun h5 => bnd (some (i4 / (6 : Int32))) fun y6 => (if i5 = (0 : Int32) then b_Mo_laysWay_71 F k9 a0 a1 i2 y6 i6 h5 else bnd (cK h5 a0 10) fun _ => bnd (f_Mo_cellAt a0 i2 i6 h5) fun x8 => bnd (aI h5 a1 x8) fun x9 => bnd (gR h5 a0 10 10) fun x10 => bnd (aI h5 x10 i6) fun x11 => bnd (f_Mo_has x9 x11) fun x12 => (if x12 = (0 : Int32) then b_Mo_laysWay_71 F k9 a0 a1 i2 y6 i6 h5 else b_Mo_laysWay_72 F k9 a0 a1 i2 y6 i6 (1 : Int32) h5)))
def f_Mo_laysWay_9 (F : Nat) : Nat → Nat → Nat → Int32 → Int32 → Int32 → Int32 → PH → Option (Int32 × PH)
  | 0 => fun _ _ _ _ _ _ _ => none
  | n + 1 => b_Mo_laysWay_9 F (f_Mo_laysWay_9 F n)
theorem g_Mo_laysWay_9 {l : Launch} {E : ET} {d : Nat} (hd : 2 ≤ d) {F : Nat} {r : Int32} {h9 : PH} {x : Nat} {k9 : Nat → Nat → Int32 → Int32 → Int32 → Int32 → PH → Option (Int32 × PH)} (hk9 : ∀ (a0 : Nat) (a1 : Nat) (i2 : Int32) (i4 : Int32) (i5 : Int32) (i6 : Int32) (hh : PH), k9 a0 a1 i2 i4 i5 i6 hh = some (r, h9) → Go l E m_Mo_laysWay (rm d 0 0) (KM E 0 0 (PoE (some (.int r)) h9 x)) 0 0 hh x 9 [(0, .ref a0), (1, .ref a1), (2, .int i2), (4, .int i4), (5, .int i5), (6, .int i6)] []) (a0 : Nat) (a1 : Nat) (i2 : Int32) (i4 : Int32) (i5 : Int32) (i6 : Int32) (h : PH) (hf : b_Mo_laysWay_9 F k9 a0 a1 i2 i4 i5 i6 h = some (r, h9)) : Go l E m_Mo_laysWay (rm d 0 0) (KM E 0 0 (PoE (some (.int r)) h9 x)) 0 0 h x 9 [(0, .ref a0), (1, .ref a1), (2, .int i2), (4, .int i4), (5, .int i5), (6, .int i6)] [] := by
  unfold b_Mo_laysWay_9 at hf
  refine go_iload 5 d_Mo_laysWay_9 rfl ?_
  refine go_aload_n 0 d_Mo_laysWay_11 rfl ?_
  refine go_iload_n 2 d_Mo_laysWay_12 rfl ?_
  obtain ⟨_, e1, hf⟩ := bnd_x hf
  obtain ⟨x2, e_x2, hf⟩ := bnd_x hf
  refine go_callV_I (As := [.int i2]) (st := [.int i6]) (c_Mo_lengthOf (d := d - 1) (by omega) e_x2) lk_Mo_74 rfl rfl e1 (by decide) rfl (rm_ok (by omega)) (Nat.le_of_ble_eq_true rfl) rm_c d_Mo_laysWay_13 ?_
  refine go_icmp_ge 80 d_Mo_laysWay_16 (by decide) (fun q15 => ?_) (fun q15 => ?_)
  · rw [if_pos q15] at hf
    refine go_iload 4 d_Mo_laysWay_80 rfl ?_
    obtain ⟨_, e3, hf⟩ := bnd_x hf
    obtain ⟨e8, e9⟩ := Prod.mk.inj (Option.some.inj hf)
    subst e8; subst e9
    exact go_zret d_Mo_laysWay_82 e3 rfl ⟨rfl, rfl, rfl⟩
  · rw [if_neg q15] at hf
    refine go_aload_n 0 d_Mo_laysWay_19 rfl ?_
    obtain ⟨x4, e_x4, hf⟩ := bnd_x hf
    refine go_get d_Mo_laysWay_20 (gR_x e_x4) fl_Mo_22 ?_
    refine go_iload 5 d_Mo_laysWay_23 rfl ?_
    refine go_iconst (1 : Int32) d_Mo_laysWay_25 (by decide) ?_
    refine go_iload 3 d_Mo_laysWay_26 rfl ?_
    refine go_bipush (6 : Int32) d_Mo_laysWay_28 (by decide) ?_
    refine go_irem d_Mo_laysWay_30 (by decide) ?_
    refine go_iadd d_Mo_laysWay_31 ?_
    obtain ⟨h5, e_h5, hf⟩ := bnd_x hf
    refine go_iastore d_Mo_laysWay_32 e_h5 ?_
    refine go_iload 3 d_Mo_laysWay_33 rfl ?_
    refine go_bipush (6 : Int32) d_Mo_laysWay_35 (by decide) ?_
    refine go_idiv d_Mo_laysWay_37 (by decide) ?_
    obtain ⟨y6, e_y6, hf⟩ := bnd_x hf
    refine go_nmI e_y6 ?_
    refine go_istore (lv' := [(4, .int y6), (0, .ref a0), (1, .ref a1), (2, .int i2), (5, .int i5), (6, .int i6)]) d_Mo_laysWay_38 rfl (by decide) ?_
    refine go_iload 4 d_Mo_laysWay_40 rfl ?_
    refine go_if_eq 71 d_Mo_laysWay_42 (by decide) (fun q14 => ?_) (fun q14 => ?_)
    · rw [if_pos q14] at hf
      refine go_sub (lv' := [(0, .ref a0), (1, .ref a1), (2, .int i2), (4, .int y6), (6, .int i6)]) [1, 2, 3, 0, 5] rfl ?_
      exact g_Mo_laysWay_71 hd hk9 a0 a1 i2 y6 i6 h5 hf
    · rw [if_neg q14] at hf
      refine go_aload_n 2 d_Mo_laysWay_45 rfl ?_
      refine go_aload_n 1 d_Mo_laysWay_46 rfl ?_
      refine go_iload_n 3 d_Mo_laysWay_47 rfl ?_
      refine go_iload 5 d_Mo_laysWay_48 rfl ?_
      obtain ⟨_, e7, hf⟩ := bnd_x hf
      obtain ⟨x8, e_x8, hf⟩ := bnd_x hf
      refine go_callV_I (As := [.int i2, .int i6]) (st := [.ref a1]) (c_Mo_cellAt (d := d - 1) (by omega) e_x8) lk_Mo_77 rfl rfl e7 (by decide) rfl (rm_ok (by omega)) (Nat.le_of_ble_eq_true rfl) rm_c d_Mo_laysWay_50 ?_
      obtain ⟨x9, e_x9, hf⟩ := bnd_x hf
      refine go_iaload d_Mo_laysWay_53 e_x9 ?_
      refine go_aload_n 1 d_Mo_laysWay_54 rfl ?_
      obtain ⟨x10, e_x10, hf⟩ := bnd_x hf
      refine go_get d_Mo_laysWay_55 (gR_x e_x10) fl_Mo_22 ?_
      refine go_iload 5 d_Mo_laysWay_58 rfl ?_
      obtain ⟨x11, e_x11, hf⟩ := bnd_x hf
      refine go_iaload d_Mo_laysWay_60 e_x11 ?_
      obtain ⟨x12, e_x12, hf⟩ := bnd_x hf
      refine go_callS_I (As := [.int x9, .int x11]) (st := []) (c_Mo_has (d := d - 1) (by omega) e_x12) lk_Mo_66 rfl rfl (rm_ok (by omega)) (Nat.le_of_ble_eq_true rfl) rm_c d_Mo_laysWay_61 ?_
      refine go_if_eq 71 d_Mo_laysWay_64 (by decide) (fun q13 => ?_) (fun q13 => ?_)
      · rw [if_pos q13] at hf
        refine go_sub (lv' := [(0, .ref a0), (1, .ref a1), (2, .int i2), (4, .int y6), (6, .int i6)]) [1, 2, 3, 0, 5] rfl ?_
        exact g_Mo_laysWay_71 hd hk9 a0 a1 i2 y6 i6 h5 hf
      · rw [if_neg q13] at hf
        refine go_iconst (1 : Int32) d_Mo_laysWay_67 (by decide) ?_
        refine go_goto 72 d_Mo_laysWay_68 (by decide) ?_
        refine go_sub (lv' := [(0, .ref a0), (1, .ref a1), (2, .int i2), (4, .int y6), (6, .int i6)]) [1, 2, 3, 0, 5] rfl ?_
        exact g_Mo_laysWay_72 hd hk9 a0 a1 i2 y6 i6 (1 : Int32) h5 hf
theorem t_Mo_laysWay_9 {l : Launch} {E : ET} {d : Nat} (hd : 2 ≤ d) {F : Nat} {r : Int32} {h9 : PH} {x : Nat}  : ∀ (n : Nat) (a0 : Nat) (a1 : Nat) (i2 : Int32) (i4 : Int32) (i5 : Int32) (i6 : Int32) (hh : PH), f_Mo_laysWay_9 F n a0 a1 i2 i4 i5 i6 hh = some (r, h9) → Go l E m_Mo_laysWay (rm d 0 0) (KM E 0 0 (PoE (some (.int r)) h9 x)) 0 0 hh x 9 [(0, .ref a0), (1, .ref a1), (2, .int i2), (4, .int i4), (5, .int i5), (6, .int i6)] [] := by
  intro n
  induction n with
  | zero => intro v0 v1 v2 v3 v4 v5 v6 hf; cases hf
  | succ n ih => intro v0 v1 v2 v3 v4 v5 v6 hf; exact g_Mo_laysWay_9 hd ih v0 v1 v2 v3 v4 v5 v6 hf
def f_Mo_laysWay (F : Nat) (a0 : Nat) (a1 : Nat) (i2 : Int32) (i3 : Int32) (h : PH) : Option (Int32 × PH) :=
  f_Mo_laysWay_9 F F a0 a1 i2 i3 (1 : Int32) (0 : Int32) h
theorem g_Mo_laysWay_0 {l : Launch} {E : ET} {d : Nat} (hd : 2 ≤ d) {F : Nat} {r : Int32} {h9 : PH} {x : Nat}  (a0 : Nat) (a1 : Nat) (i2 : Int32) (i3 : Int32) (h : PH) (hf : f_Mo_laysWay F a0 a1 i2 i3 h = some (r, h9)) : Go l E m_Mo_laysWay (rm d 0 0) (KM E 0 0 (PoE (some (.int r)) h9 x)) 0 0 h x 0 [(0, .ref a0), (1, .ref a1), (2, .int i2), (3, .int i3)] [] := by
  unfold f_Mo_laysWay at hf
  refine go_iload_n 3 d_Mo_laysWay_0 rfl ?_
  refine go_istore (lv' := [(4, .int i3), (0, .ref a0), (1, .ref a1), (2, .int i2), (3, .int i3)]) d_Mo_laysWay_1 rfl (by decide) ?_
  refine go_iconst (1 : Int32) d_Mo_laysWay_3 (by decide) ?_
  refine go_istore (lv' := [(5, .int (1 : Int32)), (4, .int i3), (0, .ref a0), (1, .ref a1), (2, .int i2), (3, .int i3)]) d_Mo_laysWay_4 rfl (by decide) ?_
  refine go_iconst (0 : Int32) d_Mo_laysWay_6 (by decide) ?_
  refine go_istore (lv' := [(6, .int (0 : Int32)), (5, .int (1 : Int32)), (4, .int i3), (0, .ref a0), (1, .ref a1), (2, .int i2), (3, .int i3)]) d_Mo_laysWay_7 rfl (by decide) ?_
  refine go_sub (lv' := [(0, .ref a0), (1, .ref a1), (2, .int i2), (4, .int i3), (5, .int (1 : Int32)), (6, .int (0 : Int32))]) [3, 4, 5, 2, 1, 0] rfl ?_
  exact t_Mo_laysWay_9 hd  _ a0 a1 i2 i3 (1 : Int32) (0 : Int32) h hf
theorem c_Mo_laysWay {l : Launch} {E : ET} {d : Nat} (hd : 2 ≤ d) {F : Nat} {r : Int32} {h9 : PH} {x : Nat} {a0 : Nat} {a1 : Nat} {i2 : Int32} {i3 : Int32} {h : PH} (hf : f_Mo_laysWay F a0 a1 i2 i3 h = some (r, h9)) : Fn l E m_Mo_laysWay d 0 0 [.ref a0, .ref a1, .int i2, .int i3] h x (PoE (some (.int r)) h9 x) :=
  Fn.of (by decide +kernel) (Nat.le_of_ble_eq_true rfl) (g_Mo_laysWay_0 hd a0 a1 i2 i3 h hf)
