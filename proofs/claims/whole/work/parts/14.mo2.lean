/-! 14.mo2: methods as functions, by program. -/
theorem d_Mo_isWay_0 : decode prog_13_method_30_code 0 = .ok (.aload_n 0, 1) := by decide +kernel
theorem d_Mo_isWay_1 : decode prog_13_method_30_code 1 = .ok (.iload_n 1, 1) := by decide +kernel
theorem d_Mo_isWay_2 : decode prog_13_method_30_code 2 = .ok (.invokevirtual 74, 3) := by decide +kernel
theorem d_Mo_isWay_5 : decode prog_13_method_30_code 5 = .ok (.istore_n 2, 1) := by decide +kernel
theorem d_Mo_isWay_6 : decode prog_13_method_30_code 6 = .ok (.iconst 0, 1) := by decide +kernel
theorem d_Mo_isWay_7 : decode prog_13_method_30_code 7 = .ok (.istore_n 3, 1) := by decide +kernel
theorem d_Mo_isWay_8 : decode prog_13_method_30_code 8 = .ok (.iconst 1, 1) := by decide +kernel
theorem d_Mo_isWay_9 : decode prog_13_method_30_code 9 = .ok (.istore 4, 2) := by decide +kernel
theorem d_Mo_isWay_11 : decode prog_13_method_30_code 11 = .ok (.iconst 0, 1) := by decide +kernel
theorem d_Mo_isWay_12 : decode prog_13_method_30_code 12 = .ok (.istore 5, 2) := by decide +kernel
theorem d_Mo_isWay_14 : decode prog_13_method_30_code 14 = .ok (.iload 5, 2) := by decide +kernel
theorem d_Mo_isWay_16 : decode prog_13_method_30_code 16 = .ok (.iload_n 2, 1) := by decide +kernel
theorem d_Mo_isWay_17 : decode prog_13_method_30_code 17 = .ok (.if_icmp .ge 64, 3) := by decide +kernel
theorem d_Mo_isWay_20 : decode prog_13_method_30_code 20 = .ok (.iload_n 3, 1) := by decide +kernel
theorem d_Mo_isWay_21 : decode prog_13_method_30_code 21 = .ok (.aload_n 0, 1) := by decide +kernel
theorem d_Mo_isWay_22 : decode prog_13_method_30_code 22 = .ok (.getfield 22, 3) := by decide +kernel
theorem d_Mo_isWay_25 : decode prog_13_method_30_code 25 = .ok (.iload 5, 2) := by decide +kernel
theorem d_Mo_isWay_27 : decode prog_13_method_30_code 27 = .ok (.iaload, 1) := by decide +kernel
theorem d_Mo_isWay_28 : decode prog_13_method_30_code 28 = .ok (.iadd, 1) := by decide +kernel
theorem d_Mo_isWay_29 : decode prog_13_method_30_code 29 = .ok (.istore_n 3, 1) := by decide +kernel
theorem d_Mo_isWay_30 : decode prog_13_method_30_code 30 = .ok (.iconst 0, 1) := by decide +kernel
theorem d_Mo_isWay_31 : decode prog_13_method_30_code 31 = .ok (.istore 6, 2) := by decide +kernel
theorem d_Mo_isWay_33 : decode prog_13_method_30_code 33 = .ok (.iload 6, 2) := by decide +kernel
theorem d_Mo_isWay_35 : decode prog_13_method_30_code 35 = .ok (.iload 5, 2) := by decide +kernel
theorem d_Mo_isWay_37 : decode prog_13_method_30_code 37 = .ok (.if_icmp .ge 38, 3) := by decide +kernel
theorem d_Mo_isWay_40 : decode prog_13_method_30_code 40 = .ok (.iload 4, 2) := by decide +kernel
theorem d_Mo_isWay_42 : decode prog_13_method_30_code 42 = .ok (.ifCond .eq 24, 3) := by decide +kernel
theorem d_Mo_isWay_45 : decode prog_13_method_30_code 45 = .ok (.aload_n 0, 1) := by decide +kernel
theorem d_Mo_isWay_46 : decode prog_13_method_30_code 46 = .ok (.getfield 22, 3) := by decide +kernel
theorem d_Mo_isWay_49 : decode prog_13_method_30_code 49 = .ok (.iload 5, 2) := by decide +kernel
theorem d_Mo_isWay_51 : decode prog_13_method_30_code 51 = .ok (.iaload, 1) := by decide +kernel
theorem d_Mo_isWay_52 : decode prog_13_method_30_code 52 = .ok (.aload_n 0, 1) := by decide +kernel
theorem d_Mo_isWay_53 : decode prog_13_method_30_code 53 = .ok (.getfield 22, 3) := by decide +kernel
theorem d_Mo_isWay_56 : decode prog_13_method_30_code 56 = .ok (.iload 6, 2) := by decide +kernel
theorem d_Mo_isWay_58 : decode prog_13_method_30_code 58 = .ok (.iaload, 1) := by decide +kernel
theorem d_Mo_isWay_59 : decode prog_13_method_30_code 59 = .ok (.if_icmp .eq 7, 3) := by decide +kernel
theorem d_Mo_isWay_62 : decode prog_13_method_30_code 62 = .ok (.iconst 1, 1) := by decide +kernel
theorem d_Mo_isWay_63 : decode prog_13_method_30_code 63 = .ok (.goto 4, 3) := by decide +kernel
theorem d_Mo_isWay_66 : decode prog_13_method_30_code 66 = .ok (.iconst 0, 1) := by decide +kernel
theorem d_Mo_isWay_67 : decode prog_13_method_30_code 67 = .ok (.istore 4, 2) := by decide +kernel
theorem d_Mo_isWay_69 : decode prog_13_method_30_code 69 = .ok (.iinc 6 1, 3) := by decide +kernel
theorem d_Mo_isWay_72 : decode prog_13_method_30_code 72 = .ok (.goto (-39), 3) := by decide +kernel
theorem d_Mo_isWay_75 : decode prog_13_method_30_code 75 = .ok (.iinc 5 1, 3) := by decide +kernel
theorem d_Mo_isWay_78 : decode prog_13_method_30_code 78 = .ok (.goto (-64), 3) := by decide +kernel
theorem d_Mo_isWay_81 : decode prog_13_method_30_code 81 = .ok (.aload_n 0, 1) := by decide +kernel
theorem d_Mo_isWay_82 : decode prog_13_method_30_code 82 = .ok (.iload_n 1, 1) := by decide +kernel
theorem d_Mo_isWay_83 : decode prog_13_method_30_code 83 = .ok (.invokevirtual 81, 3) := by decide +kernel
theorem d_Mo_isWay_86 : decode prog_13_method_30_code 86 = .ok (.ifCond .ne 34, 3) := by decide +kernel
theorem d_Mo_isWay_89 : decode prog_13_method_30_code 89 = .ok (.iload 4, 2) := by decide +kernel
theorem d_Mo_isWay_91 : decode prog_13_method_30_code 91 = .ok (.ifCond .eq 25, 3) := by decide +kernel
theorem d_Mo_isWay_94 : decode prog_13_method_30_code 94 = .ok (.iload_n 3, 1) := by decide +kernel
theorem d_Mo_isWay_95 : decode prog_13_method_30_code 95 = .ok (.aload_n 0, 1) := by decide +kernel
theorem d_Mo_isWay_96 : decode prog_13_method_30_code 96 = .ok (.getfield 7, 3) := by decide +kernel
theorem d_Mo_isWay_99 : decode prog_13_method_30_code 99 = .ok (.bipush 109, 2) := by decide +kernel
theorem d_Mo_isWay_101 : decode prog_13_method_30_code 101 = .ok (.bipush 9, 2) := by decide +kernel
theorem d_Mo_isWay_103 : decode prog_13_method_30_code 103 = .ok (.iload_n 1, 1) := by decide +kernel
theorem d_Mo_isWay_104 : decode prog_13_method_30_code 104 = .ok (.imul, 1) := by decide +kernel
theorem d_Mo_isWay_105 : decode prog_13_method_30_code 105 = .ok (.iadd, 1) := by decide +kernel
theorem d_Mo_isWay_106 : decode prog_13_method_30_code 106 = .ok (.iconst 1, 1) := by decide +kernel
theorem d_Mo_isWay_107 : decode prog_13_method_30_code 107 = .ok (.iadd, 1) := by decide +kernel
theorem d_Mo_isWay_108 : decode prog_13_method_30_code 108 = .ok (.iaload, 1) := by decide +kernel
theorem d_Mo_isWay_109 : decode prog_13_method_30_code 109 = .ok (.if_icmp .ne 7, 3) := by decide +kernel
theorem d_Mo_isWay_112 : decode prog_13_method_30_code 112 = .ok (.iconst 1, 1) := by decide +kernel
theorem d_Mo_isWay_113 : decode prog_13_method_30_code 113 = .ok (.goto 24, 3) := by decide +kernel
theorem d_Mo_isWay_116 : decode prog_13_method_30_code 116 = .ok (.iconst 0, 1) := by decide +kernel
theorem d_Mo_isWay_117 : decode prog_13_method_30_code 117 = .ok (.goto 20, 3) := by decide +kernel
theorem d_Mo_isWay_120 : decode prog_13_method_30_code 120 = .ok (.iload_n 3, 1) := by decide +kernel
theorem d_Mo_isWay_121 : decode prog_13_method_30_code 121 = .ok (.iconst 2, 1) := by decide +kernel
theorem d_Mo_isWay_122 : decode prog_13_method_30_code 122 = .ok (.aload_n 0, 1) := by decide +kernel
theorem d_Mo_isWay_123 : decode prog_13_method_30_code 123 = .ok (.getfield 22, 3) := by decide +kernel
theorem d_Mo_isWay_126 : decode prog_13_method_30_code 126 = .ok (.iconst 0, 1) := by decide +kernel
theorem d_Mo_isWay_127 : decode prog_13_method_30_code 127 = .ok (.iaload, 1) := by decide +kernel
theorem d_Mo_isWay_128 : decode prog_13_method_30_code 128 = .ok (.imul, 1) := by decide +kernel
theorem d_Mo_isWay_129 : decode prog_13_method_30_code 129 = .ok (.if_icmp .ne 7, 3) := by decide +kernel
theorem d_Mo_isWay_132 : decode prog_13_method_30_code 132 = .ok (.iconst 1, 1) := by decide +kernel
theorem d_Mo_isWay_133 : decode prog_13_method_30_code 133 = .ok (.goto 4, 3) := by decide +kernel
theorem d_Mo_isWay_136 : decode prog_13_method_30_code 136 = .ok (.iconst 0, 1) := by decide +kernel
theorem d_Mo_isWay_137 : decode prog_13_method_30_code 137 = .ok (.ireturn, 1) := by decide +kernel
def b_Mo_isWay_67 (F : Nat) (k33 : Nat → Int32 → Int32 → Int32 → Int32 → Int32 → Int32 → PH → Option Int32) (a0 : Nat) (i1 : Int32) (i2 : Int32) (i3 : Int32) (i5 : Int32) (i6 : Int32) (s0 : Int32) (h : PH) : Option Int32 :=
  k33 a0 i1 i2 i3 s0 i5 (i6 + (1 : Int32)) h
theorem g_Mo_isWay_67 {l : Launch} {E : ET} {d : Nat} (hd : 2 ≤ d) {F : Nat} {r : Int32} {h : PH} {x : Nat} {k33 : Nat → Int32 → Int32 → Int32 → Int32 → Int32 → Int32 → PH → Option Int32} (hk33 : ∀ (a0 : Nat) (i1 : Int32) (i2 : Int32) (i3 : Int32) (i4 : Int32) (i5 : Int32) (i6 : Int32), k33 a0 i1 i2 i3 i4 i5 i6 h = some r → Go l E m_Mo_isWay (rm d 0 0) (KM E 0 0 (PoE (some (.int r)) h x)) 0 0 h x 33 [(0, .ref a0), (1, .int i1), (2, .int i2), (3, .int i3), (4, .int i4), (5, .int i5), (6, .int i6)] []) (a0 : Nat) (i1 : Int32) (i2 : Int32) (i3 : Int32) (i5 : Int32) (i6 : Int32) (s0 : Int32) (hf : b_Mo_isWay_67 F k33 a0 i1 i2 i3 i5 i6 s0 h = some r) : Go l E m_Mo_isWay (rm d 0 0) (KM E 0 0 (PoE (some (.int r)) h x)) 0 0 h x 67 [(0, .ref a0), (1, .int i1), (2, .int i2), (3, .int i3), (5, .int i5), (6, .int i6)] [.int s0] := by
  unfold b_Mo_isWay_67 at hf
  refine go_istore (lv' := [(4, .int s0), (0, .ref a0), (1, .int i1), (2, .int i2), (3, .int i3), (5, .int i5), (6, .int i6)]) d_Mo_isWay_67 rfl (by decide) ?_
  refine go_iinc (lv' := [(6, .int (i6 + (1 : Int32))), (4, .int s0), (0, .ref a0), (1, .int i1), (2, .int i2), (3, .int i3), (5, .int i5)]) 6 (i6 + (1 : Int32)) d_Mo_isWay_69 rfl rfl rfl (by decide) ?_
  refine go_goto 33 d_Mo_isWay_72 (by decide) ?_
  refine go_sub (lv' := [(0, .ref a0), (1, .int i1), (2, .int i2), (3, .int i3), (4, .int s0), (5, .int i5), (6, .int (i6 + (1 : Int32)))]) [2, 3, 4, 5, 1, 6, 0] rfl ?_
  exact hk33 a0 i1 i2 i3 s0 i5 (i6 + (1 : Int32)) hf
def b_Mo_isWay_66 (F : Nat) (k33 : Nat → Int32 → Int32 → Int32 → Int32 → Int32 → Int32 → PH → Option Int32) (a0 : Nat) (i1 : Int32) (i2 : Int32) (i3 : Int32) (i5 : Int32) (i6 : Int32) (h : PH) : Option Int32 :=
  b_Mo_isWay_67 F k33 a0 i1 i2 i3 i5 i6 (0 : Int32) h
theorem g_Mo_isWay_66 {l : Launch} {E : ET} {d : Nat} (hd : 2 ≤ d) {F : Nat} {r : Int32} {h : PH} {x : Nat} {k33 : Nat → Int32 → Int32 → Int32 → Int32 → Int32 → Int32 → PH → Option Int32} (hk33 : ∀ (a0 : Nat) (i1 : Int32) (i2 : Int32) (i3 : Int32) (i4 : Int32) (i5 : Int32) (i6 : Int32), k33 a0 i1 i2 i3 i4 i5 i6 h = some r → Go l E m_Mo_isWay (rm d 0 0) (KM E 0 0 (PoE (some (.int r)) h x)) 0 0 h x 33 [(0, .ref a0), (1, .int i1), (2, .int i2), (3, .int i3), (4, .int i4), (5, .int i5), (6, .int i6)] []) (a0 : Nat) (i1 : Int32) (i2 : Int32) (i3 : Int32) (i5 : Int32) (i6 : Int32) (hf : b_Mo_isWay_66 F k33 a0 i1 i2 i3 i5 i6 h = some r) : Go l E m_Mo_isWay (rm d 0 0) (KM E 0 0 (PoE (some (.int r)) h x)) 0 0 h x 66 [(0, .ref a0), (1, .int i1), (2, .int i2), (3, .int i3), (5, .int i5), (6, .int i6)] [] := by
  unfold b_Mo_isWay_66 at hf
  refine go_iconst (0 : Int32) d_Mo_isWay_66 (by decide) ?_
  refine go_sub (lv' := [(0, .ref a0), (1, .int i1), (2, .int i2), (3, .int i3), (5, .int i5), (6, .int i6)]) [0, 1, 2, 3, 4, 5] rfl ?_
  exact g_Mo_isWay_67 hd hk33 a0 i1 i2 i3 i5 i6 (0 : Int32)  hf
def b_Mo_isWay_33 (F : Nat) (k14 : Nat → Int32 → Int32 → Int32 → Int32 → Int32 → PH → Option Int32) (k33 : Nat → Int32 → Int32 → Int32 → Int32 → Int32 → Int32 → PH → Option Int32) (a0 : Nat) (i1 : Int32) (i2 : Int32) (i3 : Int32) (i4 : Int32) (i5 : Int32) (i6 : Int32) (h : PH) : Option Int32 :=
  (if i5 ≤ i6 then k14 a0 i1 i2 i3 i4 (i5 + (1 : Int32)) h else (if i4 = (0 : Int32) then b_Mo_isWay_66 F k33 a0 i1 i2 i3 i5 i6 h else bnd (gR h a0 10 10) fun x1 => bnd (aI h x1 i5) fun x2 => bnd (gR h a0 10 10) fun x3 => bnd (aI h x3 i6) fun x4 => (if x2 = x4 then b_Mo_isWay_66 F k33 a0 i1 i2 i3 i5 i6 h else b_Mo_isWay_67 F k33 a0 i1 i2 i3 i5 i6 (1 : Int32) h)))
def f_Mo_isWay_33 (F : Nat) (k14 : Nat → Int32 → Int32 → Int32 → Int32 → Int32 → PH → Option Int32) : Nat → Nat → Int32 → Int32 → Int32 → Int32 → Int32 → Int32 → PH → Option Int32
  | 0 => fun _ _ _ _ _ _ _ _ => none
  | n + 1 => b_Mo_isWay_33 F k14 (f_Mo_isWay_33 F k14 n)
theorem g_Mo_isWay_33 {l : Launch} {E : ET} {d : Nat} (hd : 2 ≤ d) {F : Nat} {r : Int32} {h : PH} {x : Nat} {k14 : Nat → Int32 → Int32 → Int32 → Int32 → Int32 → PH → Option Int32} (hk14 : ∀ (a0 : Nat) (i1 : Int32) (i2 : Int32) (i3 : Int32) (i4 : Int32) (i5 : Int32), k14 a0 i1 i2 i3 i4 i5 h = some r → Go l E m_Mo_isWay (rm d 0 0) (KM E 0 0 (PoE (some (.int r)) h x)) 0 0 h x 14 [(0, .ref a0), (1, .int i1), (2, .int i2), (3, .int i3), (4, .int i4), (5, .int i5)] []) {k33 : Nat → Int32 → Int32 → Int32 → Int32 → Int32 → Int32 → PH → Option Int32} (hk33 : ∀ (a0 : Nat) (i1 : Int32) (i2 : Int32) (i3 : Int32) (i4 : Int32) (i5 : Int32) (i6 : Int32), k33 a0 i1 i2 i3 i4 i5 i6 h = some r → Go l E m_Mo_isWay (rm d 0 0) (KM E 0 0 (PoE (some (.int r)) h x)) 0 0 h x 33 [(0, .ref a0), (1, .int i1), (2, .int i2), (3, .int i3), (4, .int i4), (5, .int i5), (6, .int i6)] []) (a0 : Nat) (i1 : Int32) (i2 : Int32) (i3 : Int32) (i4 : Int32) (i5 : Int32) (i6 : Int32) (hf : b_Mo_isWay_33 F k14 k33 a0 i1 i2 i3 i4 i5 i6 h = some r) : Go l E m_Mo_isWay (rm d 0 0) (KM E 0 0 (PoE (some (.int r)) h x)) 0 0 h x 33 [(0, .ref a0), (1, .int i1), (2, .int i2), (3, .int i3), (4, .int i4), (5, .int i5), (6, .int i6)] [] := by
  unfold b_Mo_isWay_33 at hf
  refine go_iload 6 d_Mo_isWay_33 rfl ?_
  refine go_iload 5 d_Mo_isWay_35 rfl ?_
  refine go_icmp_ge 75 d_Mo_isWay_37 (by decide) (fun q7 => ?_) (fun q7 => ?_)
  · rw [if_pos q7] at hf
    refine go_iinc (lv' := [(5, .int (i5 + (1 : Int32))), (0, .ref a0), (1, .int i1), (2, .int i2), (3, .int i3), (4, .int i4), (6, .int i6)]) 5 (i5 + (1 : Int32)) d_Mo_isWay_75 rfl rfl rfl (by decide) ?_
    refine go_goto 14 d_Mo_isWay_78 (by decide) ?_
    refine go_sub (lv' := [(0, .ref a0), (1, .int i1), (2, .int i2), (3, .int i3), (4, .int i4), (5, .int (i5 + (1 : Int32)))]) [1, 2, 3, 4, 5, 0] rfl ?_
    exact hk14 a0 i1 i2 i3 i4 (i5 + (1 : Int32)) hf
  · rw [if_neg q7] at hf
    refine go_iload 4 d_Mo_isWay_40 rfl ?_
    refine go_if_eq 66 d_Mo_isWay_42 (by decide) (fun q6 => ?_) (fun q6 => ?_)
    · rw [if_pos q6] at hf
      refine go_sub (lv' := [(0, .ref a0), (1, .int i1), (2, .int i2), (3, .int i3), (5, .int i5), (6, .int i6)]) [0, 1, 2, 3, 5, 6] rfl ?_
      exact g_Mo_isWay_66 hd hk33 a0 i1 i2 i3 i5 i6  hf
    · rw [if_neg q6] at hf
      refine go_aload_n 0 d_Mo_isWay_45 rfl ?_
      obtain ⟨x1, e_x1, hf⟩ := bnd_x hf
      refine go_get d_Mo_isWay_46 (gR_x e_x1) fl_Mo_22 ?_
      refine go_iload 5 d_Mo_isWay_49 rfl ?_
      obtain ⟨x2, e_x2, hf⟩ := bnd_x hf
      refine go_iaload d_Mo_isWay_51 e_x2 ?_
      refine go_aload_n 0 d_Mo_isWay_52 rfl ?_
      obtain ⟨x3, e_x3, hf⟩ := bnd_x hf
      refine go_get d_Mo_isWay_53 (gR_x e_x3) fl_Mo_22 ?_
      refine go_iload 6 d_Mo_isWay_56 rfl ?_
      obtain ⟨x4, e_x4, hf⟩ := bnd_x hf
      refine go_iaload d_Mo_isWay_58 e_x4 ?_
      refine go_icmp_eq 66 d_Mo_isWay_59 (by decide) (fun q5 => ?_) (fun q5 => ?_)
      · rw [if_pos q5] at hf
        refine go_sub (lv' := [(0, .ref a0), (1, .int i1), (2, .int i2), (3, .int i3), (5, .int i5), (6, .int i6)]) [0, 1, 2, 3, 5, 6] rfl ?_
        exact g_Mo_isWay_66 hd hk33 a0 i1 i2 i3 i5 i6  hf
      · rw [if_neg q5] at hf
        refine go_iconst (1 : Int32) d_Mo_isWay_62 (by decide) ?_
        refine go_goto 67 d_Mo_isWay_63 (by decide) ?_
        refine go_sub (lv' := [(0, .ref a0), (1, .int i1), (2, .int i2), (3, .int i3), (5, .int i5), (6, .int i6)]) [0, 1, 2, 3, 5, 6] rfl ?_
        exact g_Mo_isWay_67 hd hk33 a0 i1 i2 i3 i5 i6 (1 : Int32)  hf
theorem t_Mo_isWay_33 {l : Launch} {E : ET} {d : Nat} (hd : 2 ≤ d) {F : Nat} {r : Int32} {h : PH} {x : Nat} {k14 : Nat → Int32 → Int32 → Int32 → Int32 → Int32 → PH → Option Int32} (hk14 : ∀ (a0 : Nat) (i1 : Int32) (i2 : Int32) (i3 : Int32) (i4 : Int32) (i5 : Int32), k14 a0 i1 i2 i3 i4 i5 h = some r → Go l E m_Mo_isWay (rm d 0 0) (KM E 0 0 (PoE (some (.int r)) h x)) 0 0 h x 14 [(0, .ref a0), (1, .int i1), (2, .int i2), (3, .int i3), (4, .int i4), (5, .int i5)] []) : ∀ (n : Nat) (a0 : Nat) (i1 : Int32) (i2 : Int32) (i3 : Int32) (i4 : Int32) (i5 : Int32) (i6 : Int32), f_Mo_isWay_33 F k14 n a0 i1 i2 i3 i4 i5 i6 h = some r → Go l E m_Mo_isWay (rm d 0 0) (KM E 0 0 (PoE (some (.int r)) h x)) 0 0 h x 33 [(0, .ref a0), (1, .int i1), (2, .int i2), (3, .int i3), (4, .int i4), (5, .int i5), (6, .int i6)] [] := by
  intro n
  induction n with
  | zero => intro v0 v1 v2 v3 v4 v5 v6 hf; cases hf
  | succ n ih => intro v0 v1 v2 v3 v4 v5 v6 hf; exact g_Mo_isWay_33 hd hk14 ih v0 v1 v2 v3 v4 v5 v6 hf
def b_Mo_isWay_116 (F : Nat) (h : PH) : Option Int32 :=
  some (0 : Int32)
theorem g_Mo_isWay_116 {l : Launch} {E : ET} {d : Nat} (hd : 2 ≤ d) {F : Nat} {r : Int32} {h : PH} {x : Nat}   (hf : b_Mo_isWay_116 F h = some r) : Go l E m_Mo_isWay (rm d 0 0) (KM E 0 0 (PoE (some (.int r)) h x)) 0 0 h x 116 [] [] := by
  unfold b_Mo_isWay_116 at hf
  refine go_iconst (0 : Int32) d_Mo_isWay_116 (by decide) ?_
  refine go_goto 137 d_Mo_isWay_117 (by decide) ?_
  have e9 := Option.some.inj hf
  subst e9
  exact go_zret d_Mo_isWay_137 rfl rfl ⟨rfl, rfl, rfl⟩
def b_Mo_isWay_14 (F : Nat) (k14 : Nat → Int32 → Int32 → Int32 → Int32 → Int32 → PH → Option Int32) (a0 : Nat) (i1 : Int32) (i2 : Int32) (i3 : Int32) (i4 : Int32) (i5 : Int32) (h : PH) : Option Int32 :=
  (if i2 ≤ i5 then bnd (cK h a0 10) fun _ => bnd (f_Mo_kindOf a0 i1 h) fun x2 => (if x2 = (0 : Int32) then (if i4 = (0 : Int32) then b_Mo_isWay_116 F h else bnd (gR h a0 10 0) fun x6 => bnd (aI h x6 (((109 : Int32) + ((9 : Int32) * i1)) + (1 : Int32))) fun x7 => (if i3 = x7 then some (1 : Int32) else b_Mo_isWay_116 F h)) else bnd (gR h a0 10 10) fun x3 => bnd (aI h x3 (0 : Int32)) fun x4 => (if i3 = ((2 : Int32) * x4) then some (1 : Int32) else some (0 : Int32))) else bnd (gR h a0 10 10) fun x11 => bnd (aI h x11 i5) fun x12 => f_Mo_isWay_33 F k14 F a0 i1 i2 (i3 + x12) i4 i5 (0 : Int32) h)
def f_Mo_isWay_14 (F : Nat) : Nat → Nat → Int32 → Int32 → Int32 → Int32 → Int32 → PH → Option Int32
  | 0 => fun _ _ _ _ _ _ _ => none
  | n + 1 => b_Mo_isWay_14 F (f_Mo_isWay_14 F n)
theorem g_Mo_isWay_14 {l : Launch} {E : ET} {d : Nat} (hd : 2 ≤ d) {F : Nat} {r : Int32} {h : PH} {x : Nat} {k14 : Nat → Int32 → Int32 → Int32 → Int32 → Int32 → PH → Option Int32} (hk14 : ∀ (a0 : Nat) (i1 : Int32) (i2 : Int32) (i3 : Int32) (i4 : Int32) (i5 : Int32), k14 a0 i1 i2 i3 i4 i5 h = some r → Go l E m_Mo_isWay (rm d 0 0) (KM E 0 0 (PoE (some (.int r)) h x)) 0 0 h x 14 [(0, .ref a0), (1, .int i1), (2, .int i2), (3, .int i3), (4, .int i4), (5, .int i5)] []) (a0 : Nat) (i1 : Int32) (i2 : Int32) (i3 : Int32) (i4 : Int32) (i5 : Int32) (hf : b_Mo_isWay_14 F k14 a0 i1 i2 i3 i4 i5 h = some r) : Go l E m_Mo_isWay (rm d 0 0) (KM E 0 0 (PoE (some (.int r)) h x)) 0 0 h x 14 [(0, .ref a0), (1, .int i1), (2, .int i2), (3, .int i3), (4, .int i4), (5, .int i5)] [] := by
  unfold b_Mo_isWay_14 at hf
  refine go_iload 5 d_Mo_isWay_14 rfl ?_
  refine go_iload_n 2 d_Mo_isWay_16 rfl ?_
  refine go_icmp_ge 81 d_Mo_isWay_17 (by decide) (fun q13 => ?_) (fun q13 => ?_)
  · rw [if_pos q13] at hf
    refine go_aload_n 0 d_Mo_isWay_81 rfl ?_
    refine go_iload_n 1 d_Mo_isWay_82 rfl ?_
    obtain ⟨_, e1, hf⟩ := bnd_x hf
    obtain ⟨x2, e_x2, hf⟩ := bnd_x hf
    refine go_callV_I (As := [.int i1]) (st := []) (c_Mo_kindOf (d := d - 1) (by omega) e_x2) lk_Mo_81 rfl rfl e1 (by decide) rfl (rm_ok (by omega)) (Nat.le_of_ble_eq_true rfl) rm_c d_Mo_isWay_83 ?_
    refine go_if_ne 120 d_Mo_isWay_86 (by decide) (fun q10 => ?_) (fun q10 => ?_)
    · rw [if_neg q10] at hf
      refine go_iload_n 3 d_Mo_isWay_120 rfl ?_
      refine go_iconst (2 : Int32) d_Mo_isWay_121 (by decide) ?_
      refine go_aload_n 0 d_Mo_isWay_122 rfl ?_
      obtain ⟨x3, e_x3, hf⟩ := bnd_x hf
      refine go_get d_Mo_isWay_123 (gR_x e_x3) fl_Mo_22 ?_
      refine go_iconst (0 : Int32) d_Mo_isWay_126 (by decide) ?_
      obtain ⟨x4, e_x4, hf⟩ := bnd_x hf
      refine go_iaload d_Mo_isWay_127 e_x4 ?_
      refine go_imul d_Mo_isWay_128 ?_
      refine go_icmp_ne 136 d_Mo_isWay_129 (by decide) (fun q5 => ?_) (fun q5 => ?_)
      · rw [if_neg q5] at hf
        refine go_iconst (0 : Int32) d_Mo_isWay_136 (by decide) ?_
        have e9 := Option.some.inj hf
        subst e9
        exact go_zret d_Mo_isWay_137 rfl rfl ⟨rfl, rfl, rfl⟩
      · rw [if_pos q5] at hf
        refine go_iconst (1 : Int32) d_Mo_isWay_132 (by decide) ?_
        refine go_goto 137 d_Mo_isWay_133 (by decide) ?_
        have e9 := Option.some.inj hf
        subst e9
        exact go_zret d_Mo_isWay_137 rfl rfl ⟨rfl, rfl, rfl⟩
    · rw [if_pos q10] at hf
      refine go_iload 4 d_Mo_isWay_89 rfl ?_
      refine go_if_eq 116 d_Mo_isWay_91 (by decide) (fun q9 => ?_) (fun q9 => ?_)
      · rw [if_pos q9] at hf
        refine go_sub (lv' := []) [] rfl ?_
        exact g_Mo_isWay_116 hd    hf
      · rw [if_neg q9] at hf
        refine go_iload_n 3 d_Mo_isWay_94 rfl ?_
        refine go_aload_n 0 d_Mo_isWay_95 rfl ?_
        obtain ⟨x6, e_x6, hf⟩ := bnd_x hf
        refine go_get d_Mo_isWay_96 (gR_x e_x6) fl_Mo_7 ?_
        refine go_bipush (109 : Int32) d_Mo_isWay_99 (by decide) ?_
        refine go_bipush (9 : Int32) d_Mo_isWay_101 (by decide) ?_
        refine go_iload_n 1 d_Mo_isWay_103 rfl ?_
        refine go_imul d_Mo_isWay_104 ?_
        refine go_iadd d_Mo_isWay_105 ?_
        refine go_iconst (1 : Int32) d_Mo_isWay_106 (by decide) ?_
        refine go_iadd d_Mo_isWay_107 ?_
        obtain ⟨x7, e_x7, hf⟩ := bnd_x hf
        refine go_iaload d_Mo_isWay_108 e_x7 ?_
        refine go_icmp_ne 116 d_Mo_isWay_109 (by decide) (fun q8 => ?_) (fun q8 => ?_)
        · rw [if_neg q8] at hf
          refine go_sub (lv' := []) [] rfl ?_
          exact g_Mo_isWay_116 hd    hf
        · rw [if_pos q8] at hf
          refine go_iconst (1 : Int32) d_Mo_isWay_112 (by decide) ?_
          refine go_goto 137 d_Mo_isWay_113 (by decide) ?_
          have e9 := Option.some.inj hf
          subst e9
          exact go_zret d_Mo_isWay_137 rfl rfl ⟨rfl, rfl, rfl⟩
  · rw [if_neg q13] at hf
    refine go_iload_n 3 d_Mo_isWay_20 rfl ?_
    refine go_aload_n 0 d_Mo_isWay_21 rfl ?_
    obtain ⟨x11, e_x11, hf⟩ := bnd_x hf
    refine go_get d_Mo_isWay_22 (gR_x e_x11) fl_Mo_22 ?_
    refine go_iload 5 d_Mo_isWay_25 rfl ?_
    obtain ⟨x12, e_x12, hf⟩ := bnd_x hf
    refine go_iaload d_Mo_isWay_27 e_x12 ?_
    refine go_iadd d_Mo_isWay_28 ?_
    refine go_istore_n (lv' := [(3, .int (i3 + x12)), (0, .ref a0), (1, .int i1), (2, .int i2), (4, .int i4), (5, .int i5)]) d_Mo_isWay_29 rfl (by decide) ?_
    refine go_iconst (0 : Int32) d_Mo_isWay_30 (by decide) ?_
    refine go_istore (lv' := [(6, .int (0 : Int32)), (3, .int (i3 + x12)), (0, .ref a0), (1, .int i1), (2, .int i2), (4, .int i4), (5, .int i5)]) d_Mo_isWay_31 rfl (by decide) ?_
    refine go_sub (lv' := [(0, .ref a0), (1, .int i1), (2, .int i2), (3, .int (i3 + x12)), (4, .int i4), (5, .int i5), (6, .int (0 : Int32))]) [2, 3, 4, 1, 5, 6, 0] rfl ?_
    exact t_Mo_isWay_33 hd hk14 _ a0 i1 i2 (i3 + x12) i4 i5 (0 : Int32)  hf
theorem t_Mo_isWay_14 {l : Launch} {E : ET} {d : Nat} (hd : 2 ≤ d) {F : Nat} {r : Int32} {h : PH} {x : Nat}  : ∀ (n : Nat) (a0 : Nat) (i1 : Int32) (i2 : Int32) (i3 : Int32) (i4 : Int32) (i5 : Int32), f_Mo_isWay_14 F n a0 i1 i2 i3 i4 i5 h = some r → Go l E m_Mo_isWay (rm d 0 0) (KM E 0 0 (PoE (some (.int r)) h x)) 0 0 h x 14 [(0, .ref a0), (1, .int i1), (2, .int i2), (3, .int i3), (4, .int i4), (5, .int i5)] [] := by
  intro n
  induction n with
  | zero => intro v0 v1 v2 v3 v4 v5 hf; cases hf
  | succ n ih => intro v0 v1 v2 v3 v4 v5 hf; exact g_Mo_isWay_14 hd ih v0 v1 v2 v3 v4 v5 hf
def f_Mo_isWay (F : Nat) (a0 : Nat) (i1 : Int32) (h : PH) : Option Int32 :=
  bnd (cK h a0 10) fun _ => bnd (f_Mo_lengthOf a0 i1 h) fun x2 => f_Mo_isWay_14 F F a0 i1 x2 (0 : Int32) (1 : Int32) (0 : Int32) h
theorem g_Mo_isWay_0 {l : Launch} {E : ET} {d : Nat} (hd : 2 ≤ d) {F : Nat} {r : Int32} {h : PH} {x : Nat}  (a0 : Nat) (i1 : Int32) (hf : f_Mo_isWay F a0 i1 h = some r) : Go l E m_Mo_isWay (rm d 0 0) (KM E 0 0 (PoE (some (.int r)) h x)) 0 0 h x 0 [(0, .ref a0), (1, .int i1)] [] := by
  unfold f_Mo_isWay at hf
  refine go_aload_n 0 d_Mo_isWay_0 rfl ?_
  refine go_iload_n 1 d_Mo_isWay_1 rfl ?_
  obtain ⟨_, e1, hf⟩ := bnd_x hf
  obtain ⟨x2, e_x2, hf⟩ := bnd_x hf
  refine go_callV_I (As := [.int i1]) (st := []) (c_Mo_lengthOf (d := d - 1) (by omega) e_x2) lk_Mo_74 rfl rfl e1 (by decide) rfl (rm_ok (by omega)) (Nat.le_of_ble_eq_true rfl) rm_c d_Mo_isWay_2 ?_
  refine go_istore_n (lv' := [(2, .int x2), (0, .ref a0), (1, .int i1)]) d_Mo_isWay_5 rfl (by decide) ?_
  refine go_iconst (0 : Int32) d_Mo_isWay_6 (by decide) ?_
  refine go_istore_n (lv' := [(3, .int (0 : Int32)), (2, .int x2), (0, .ref a0), (1, .int i1)]) d_Mo_isWay_7 rfl (by decide) ?_
  refine go_iconst (1 : Int32) d_Mo_isWay_8 (by decide) ?_
  refine go_istore (lv' := [(4, .int (1 : Int32)), (3, .int (0 : Int32)), (2, .int x2), (0, .ref a0), (1, .int i1)]) d_Mo_isWay_9 rfl (by decide) ?_
  refine go_iconst (0 : Int32) d_Mo_isWay_11 (by decide) ?_
  refine go_istore (lv' := [(5, .int (0 : Int32)), (4, .int (1 : Int32)), (3, .int (0 : Int32)), (2, .int x2), (0, .ref a0), (1, .int i1)]) d_Mo_isWay_12 rfl (by decide) ?_
  refine go_sub (lv' := [(0, .ref a0), (1, .int i1), (2, .int x2), (3, .int (0 : Int32)), (4, .int (1 : Int32)), (5, .int (0 : Int32))]) [4, 5, 3, 2, 1, 0] rfl ?_
  exact t_Mo_isWay_14 hd  _ a0 i1 x2 (0 : Int32) (1 : Int32) (0 : Int32)  hf
theorem c_Mo_isWay {l : Launch} {E : ET} {d : Nat} (hd : 2 ≤ d) {F : Nat} {r : Int32} {h : PH} {x : Nat} {a0 : Nat} {i1 : Int32} (hf : f_Mo_isWay F a0 i1 h = some r) : Fn l E m_Mo_isWay d 0 0 [.ref a0, .int i1] h x (PoE (some (.int r)) h x) :=
  Fn.of (by decide +kernel) (Nat.le_of_ble_eq_true rfl) (g_Mo_isWay_0 hd a0 i1 hf)
theorem d_Mo_ways_0 : decode prog_13_method_31_code 0 = .ok (.aload_n 0, 1) := by decide +kernel
theorem d_Mo_ways_1 : decode prog_13_method_31_code 1 = .ok (.iload_n 2, 1) := by decide +kernel
theorem d_Mo_ways_2 : decode prog_13_method_31_code 2 = .ok (.invokevirtual 74, 3) := by decide +kernel
theorem d_Mo_ways_5 : decode prog_13_method_31_code 5 = .ok (.istore_n 3, 1) := by decide +kernel
theorem d_Mo_ways_6 : decode prog_13_method_31_code 6 = .ok (.iload_n 3, 1) := by decide +kernel
theorem d_Mo_ways_7 : decode prog_13_method_31_code 7 = .ok (.iconst 2, 1) := by decide +kernel
theorem d_Mo_ways_8 : decode prog_13_method_31_code 8 = .ok (.if_icmp .ge 5, 3) := by decide +kernel
theorem d_Mo_ways_11 : decode prog_13_method_31_code 11 = .ok (.iconst 0, 1) := by decide +kernel
theorem d_Mo_ways_12 : decode prog_13_method_31_code 12 = .ok (.ireturn, 1) := by decide +kernel
theorem d_Mo_ways_13 : decode prog_13_method_31_code 13 = .ok (.iconst 1, 1) := by decide +kernel
theorem d_Mo_ways_14 : decode prog_13_method_31_code 14 = .ok (.istore 4, 2) := by decide +kernel
theorem d_Mo_ways_16 : decode prog_13_method_31_code 16 = .ok (.iconst 0, 1) := by decide +kernel
theorem d_Mo_ways_17 : decode prog_13_method_31_code 17 = .ok (.istore 5, 2) := by decide +kernel
theorem d_Mo_ways_19 : decode prog_13_method_31_code 19 = .ok (.iload 5, 2) := by decide +kernel
theorem d_Mo_ways_21 : decode prog_13_method_31_code 21 = .ok (.iload_n 3, 1) := by decide +kernel
theorem d_Mo_ways_22 : decode prog_13_method_31_code 22 = .ok (.if_icmp .ge 24, 3) := by decide +kernel
theorem d_Mo_ways_25 : decode prog_13_method_31_code 25 = .ok (.iload 4, 2) := by decide +kernel
theorem d_Mo_ways_27 : decode prog_13_method_31_code 27 = .ok (.bipush 6, 2) := by decide +kernel
theorem d_Mo_ways_29 : decode prog_13_method_31_code 29 = .ok (.imul, 1) := by decide +kernel
theorem d_Mo_ways_30 : decode prog_13_method_31_code 30 = .ok (.istore 4, 2) := by decide +kernel
theorem d_Mo_ways_32 : decode prog_13_method_31_code 32 = .ok (.aload_n 0, 1) := by decide +kernel
theorem d_Mo_ways_33 : decode prog_13_method_31_code 33 = .ok (.getfield 19, 3) := by decide +kernel
theorem d_Mo_ways_36 : decode prog_13_method_31_code 36 = .ok (.iload 5, 2) := by decide +kernel
theorem d_Mo_ways_38 : decode prog_13_method_31_code 38 = .ok (.iconst 0, 1) := by decide +kernel
theorem d_Mo_ways_39 : decode prog_13_method_31_code 39 = .ok (.iastore, 1) := by decide +kernel
theorem d_Mo_ways_40 : decode prog_13_method_31_code 40 = .ok (.iinc 5 1, 3) := by decide +kernel
theorem d_Mo_ways_43 : decode prog_13_method_31_code 43 = .ok (.goto (-24), 3) := by decide +kernel
theorem d_Mo_ways_46 : decode prog_13_method_31_code 46 = .ok (.iconst 0, 1) := by decide +kernel
theorem d_Mo_ways_47 : decode prog_13_method_31_code 47 = .ok (.istore 5, 2) := by decide +kernel
theorem d_Mo_ways_49 : decode prog_13_method_31_code 49 = .ok (.iload 5, 2) := by decide +kernel
theorem d_Mo_ways_51 : decode prog_13_method_31_code 51 = .ok (.iload 4, 2) := by decide +kernel
theorem d_Mo_ways_53 : decode prog_13_method_31_code 53 = .ok (.if_icmp .ge 62, 3) := by decide +kernel
theorem d_Mo_ways_56 : decode prog_13_method_31_code 56 = .ok (.aload_n 0, 1) := by decide +kernel
theorem d_Mo_ways_57 : decode prog_13_method_31_code 57 = .ok (.aload_n 1, 1) := by decide +kernel
theorem d_Mo_ways_58 : decode prog_13_method_31_code 58 = .ok (.iload_n 2, 1) := by decide +kernel
theorem d_Mo_ways_59 : decode prog_13_method_31_code 59 = .ok (.iload 5, 2) := by decide +kernel
theorem d_Mo_ways_61 : decode prog_13_method_31_code 61 = .ok (.invokevirtual 126, 3) := by decide +kernel
theorem d_Mo_ways_64 : decode prog_13_method_31_code 64 = .ok (.ifCond .eq 45, 3) := by decide +kernel
theorem d_Mo_ways_67 : decode prog_13_method_31_code 67 = .ok (.aload_n 0, 1) := by decide +kernel
theorem d_Mo_ways_68 : decode prog_13_method_31_code 68 = .ok (.iload_n 2, 1) := by decide +kernel
theorem d_Mo_ways_69 : decode prog_13_method_31_code 69 = .ok (.invokevirtual 130, 3) := by decide +kernel
theorem d_Mo_ways_72 : decode prog_13_method_31_code 72 = .ok (.ifCond .eq 37, 3) := by decide +kernel
theorem d_Mo_ways_75 : decode prog_13_method_31_code 75 = .ok (.iconst 0, 1) := by decide +kernel
theorem d_Mo_ways_76 : decode prog_13_method_31_code 76 = .ok (.istore 6, 2) := by decide +kernel
theorem d_Mo_ways_78 : decode prog_13_method_31_code 78 = .ok (.iload 6, 2) := by decide +kernel
theorem d_Mo_ways_80 : decode prog_13_method_31_code 80 = .ok (.iload_n 3, 1) := by decide +kernel
theorem d_Mo_ways_81 : decode prog_13_method_31_code 81 = .ok (.if_icmp .ge 28, 3) := by decide +kernel
theorem d_Mo_ways_84 : decode prog_13_method_31_code 84 = .ok (.aload_n 0, 1) := by decide +kernel
theorem d_Mo_ways_85 : decode prog_13_method_31_code 85 = .ok (.getfield 19, 3) := by decide +kernel
theorem d_Mo_ways_88 : decode prog_13_method_31_code 88 = .ok (.iload 6, 2) := by decide +kernel
theorem d_Mo_ways_90 : decode prog_13_method_31_code 90 = .ok (.dup2, 1) := by decide +kernel
theorem d_Mo_ways_91 : decode prog_13_method_31_code 91 = .ok (.iaload, 1) := by decide +kernel
theorem d_Mo_ways_92 : decode prog_13_method_31_code 92 = .ok (.iconst 1, 1) := by decide +kernel
theorem d_Mo_ways_93 : decode prog_13_method_31_code 93 = .ok (.aload_n 0, 1) := by decide +kernel
theorem d_Mo_ways_94 : decode prog_13_method_31_code 94 = .ok (.getfield 22, 3) := by decide +kernel
theorem d_Mo_ways_97 : decode prog_13_method_31_code 97 = .ok (.iload 6, 2) := by decide +kernel
theorem d_Mo_ways_99 : decode prog_13_method_31_code 99 = .ok (.iaload, 1) := by decide +kernel
theorem d_Mo_ways_100 : decode prog_13_method_31_code 100 = .ok (.ishl, 1) := by decide +kernel
theorem d_Mo_ways_101 : decode prog_13_method_31_code 101 = .ok (.ior, 1) := by decide +kernel
theorem d_Mo_ways_102 : decode prog_13_method_31_code 102 = .ok (.iastore, 1) := by decide +kernel
theorem d_Mo_ways_103 : decode prog_13_method_31_code 103 = .ok (.iinc 6 1, 3) := by decide +kernel
theorem d_Mo_ways_106 : decode prog_13_method_31_code 106 = .ok (.goto (-28), 3) := by decide +kernel
theorem d_Mo_ways_109 : decode prog_13_method_31_code 109 = .ok (.iinc 5 1, 3) := by decide +kernel
theorem d_Mo_ways_112 : decode prog_13_method_31_code 112 = .ok (.goto (-63), 3) := by decide +kernel
theorem d_Mo_ways_115 : decode prog_13_method_31_code 115 = .ok (.iconst 0, 1) := by decide +kernel
theorem d_Mo_ways_116 : decode prog_13_method_31_code 116 = .ok (.istore 5, 2) := by decide +kernel
theorem d_Mo_ways_118 : decode prog_13_method_31_code 118 = .ok (.iload 5, 2) := by decide +kernel
theorem d_Mo_ways_120 : decode prog_13_method_31_code 120 = .ok (.iload_n 3, 1) := by decide +kernel
theorem d_Mo_ways_121 : decode prog_13_method_31_code 121 = .ok (.if_icmp .ge 33, 3) := by decide +kernel
theorem d_Mo_ways_124 : decode prog_13_method_31_code 124 = .ok (.aload_n 0, 1) := by decide +kernel
theorem d_Mo_ways_125 : decode prog_13_method_31_code 125 = .ok (.aload_n 1, 1) := by decide +kernel
theorem d_Mo_ways_126 : decode prog_13_method_31_code 126 = .ok (.aload_n 0, 1) := by decide +kernel
theorem d_Mo_ways_127 : decode prog_13_method_31_code 127 = .ok (.iload_n 2, 1) := by decide +kernel
theorem d_Mo_ways_128 : decode prog_13_method_31_code 128 = .ok (.iload 5, 2) := by decide +kernel
theorem d_Mo_ways_130 : decode prog_13_method_31_code 130 = .ok (.invokevirtual 77, 3) := by decide +kernel
theorem d_Mo_ways_133 : decode prog_13_method_31_code 133 = .ok (.bipush 126, 2) := by decide +kernel
theorem d_Mo_ways_135 : decode prog_13_method_31_code 135 = .ok (.aload_n 0, 1) := by decide +kernel
theorem d_Mo_ways_136 : decode prog_13_method_31_code 136 = .ok (.getfield 19, 3) := by decide +kernel
theorem d_Mo_ways_139 : decode prog_13_method_31_code 139 = .ok (.iload 5, 2) := by decide +kernel
theorem d_Mo_ways_141 : decode prog_13_method_31_code 141 = .ok (.iaload, 1) := by decide +kernel
theorem d_Mo_ways_142 : decode prog_13_method_31_code 142 = .ok (.iconst (-1), 1) := by decide +kernel
theorem d_Mo_ways_143 : decode prog_13_method_31_code 143 = .ok (.ixor, 1) := by decide +kernel
theorem d_Mo_ways_144 : decode prog_13_method_31_code 144 = .ok (.iand, 1) := by decide +kernel
theorem d_Mo_ways_145 : decode prog_13_method_31_code 145 = .ok (.invokevirtual 107, 3) := by decide +kernel
theorem d_Mo_ways_148 : decode prog_13_method_31_code 148 = .ok (.iinc 5 1, 3) := by decide +kernel
theorem d_Mo_ways_151 : decode prog_13_method_31_code 151 = .ok (.goto (-33), 3) := by decide +kernel
theorem d_Mo_ways_154 : decode prog_13_method_31_code 154 = .ok (.aload_n 0, 1) := by decide +kernel
theorem d_Mo_ways_155 : decode prog_13_method_31_code 155 = .ok (.getfield 95, 3) := by decide +kernel
theorem d_Mo_ways_158 : decode prog_13_method_31_code 158 = .ok (.ifCond .le 7, 3) := by decide +kernel
theorem d_Mo_ways_161 : decode prog_13_method_31_code 161 = .ok (.iconst 1, 1) := by decide +kernel
theorem d_Mo_ways_162 : decode prog_13_method_31_code 162 = .ok (.goto 4, 3) := by decide +kernel
theorem d_Mo_ways_165 : decode prog_13_method_31_code 165 = .ok (.iconst 0, 1) := by decide +kernel
theorem d_Mo_ways_166 : decode prog_13_method_31_code 166 = .ok (.ireturn, 1) := by decide +kernel
def b_Mo_ways_109 (F : Nat) (k49 : Nat → Nat → Int32 → Int32 → Int32 → Int32 → PH → Option (Int32 × PH)) (a0 : Nat) (a1 : Nat) (i2 : Int32) (i3 : Int32) (i4 : Int32) (i5 : Int32) (h : PH) : Option (Int32 × PH) :=
  k49 a0 a1 i2 i3 i4 (i5 + (1 : Int32)) h
theorem g_Mo_ways_109 {l : Launch} {E : ET} {d : Nat} (hd : 3 ≤ d) {F : Nat} {r : Int32} {h9 : PH} {x : Nat} {k49 : Nat → Nat → Int32 → Int32 → Int32 → Int32 → PH → Option (Int32 × PH)} (hk49 : ∀ (a0 : Nat) (a1 : Nat) (i2 : Int32) (i3 : Int32) (i4 : Int32) (i5 : Int32) (hh : PH), k49 a0 a1 i2 i3 i4 i5 hh = some (r, h9) → Go l E m_Mo_ways (rm d 0 0) (KM E 0 0 (PoE (some (.int r)) h9 x)) 0 0 hh x 49 [(0, .ref a0), (1, .ref a1), (2, .int i2), (3, .int i3), (4, .int i4), (5, .int i5)] []) (a0 : Nat) (a1 : Nat) (i2 : Int32) (i3 : Int32) (i4 : Int32) (i5 : Int32) (h : PH) (hf : b_Mo_ways_109 F k49 a0 a1 i2 i3 i4 i5 h = some (r, h9)) : Go l E m_Mo_ways (rm d 0 0) (KM E 0 0 (PoE (some (.int r)) h9 x)) 0 0 h x 109 [(0, .ref a0), (1, .ref a1), (2, .int i2), (3, .int i3), (4, .int i4), (5, .int i5)] [] := by
  unfold b_Mo_ways_109 at hf
  refine go_iinc (lv' := [(5, .int (i5 + (1 : Int32))), (0, .ref a0), (1, .ref a1), (2, .int i2), (3, .int i3), (4, .int i4)]) 5 (i5 + (1 : Int32)) d_Mo_ways_109 rfl rfl rfl (by decide) ?_
  refine go_goto 49 d_Mo_ways_112 (by decide) ?_
  refine go_sub (lv' := [(0, .ref a0), (1, .ref a1), (2, .int i2), (3, .int i3), (4, .int i4), (5, .int (i5 + (1 : Int32)))]) [1, 2, 3, 4, 5, 0] rfl ?_
  exact hk49 a0 a1 i2 i3 i4 (i5 + (1 : Int32)) h hf
def b_Mo_ways_78 (F : Nat) (k49 : Nat → Nat → Int32 → Int32 → Int32 → Int32 → PH → Option (Int32 × PH)) (k78 : Nat → Nat → Int32 → Int32 → Int32 → Int32 → Int32 → PH → Option (Int32 × PH)) (a0 : Nat) (a1 : Nat) (i2 : Int32) (i3 : Int32) (i4 : Int32) (i5 : Int32) (i6 : Int32) (h : PH) : Option (Int32 × PH) :=
  (if i3 ≤ i6 then b_Mo_ways_109 F k49 a0 a1 i2 i3 i4 i5 h else bnd (gR h a0 10 9) fun x1 => bnd (aI h x1 i6) fun x2 => bnd (gR h a0 10 10) fun x3 => bnd (aI h x3 i6) fun x4 => bnd (sI h x1 i6 (x2 ||| ((1 : Int32) <<< (x4 &&& 31)))) fun h5 => k78 a0 a1 i2 i3 i4 i5 (i6 + (1 : Int32)) h5)
def f_Mo_ways_78 (F : Nat) (k49 : Nat → Nat → Int32 → Int32 → Int32 → Int32 → PH → Option (Int32 × PH)) : Nat → Nat → Nat → Int32 → Int32 → Int32 → Int32 → Int32 → PH → Option (Int32 × PH)
  | 0 => fun _ _ _ _ _ _ _ _ => none
  | n + 1 => b_Mo_ways_78 F k49 (f_Mo_ways_78 F k49 n)
theorem g_Mo_ways_78 {l : Launch} {E : ET} {d : Nat} (hd : 3 ≤ d) {F : Nat} {r : Int32} {h9 : PH} {x : Nat} {k49 : Nat → Nat → Int32 → Int32 → Int32 → Int32 → PH → Option (Int32 × PH)} (hk49 : ∀ (a0 : Nat) (a1 : Nat) (i2 : Int32) (i3 : Int32) (i4 : Int32) (i5 : Int32) (hh : PH), k49 a0 a1 i2 i3 i4 i5 hh = some (r, h9) → Go l E m_Mo_ways (rm d 0 0) (KM E 0 0 (PoE (some (.int r)) h9 x)) 0 0 hh x 49 [(0, .ref a0), (1, .ref a1), (2, .int i2), (3, .int i3), (4, .int i4), (5, .int i5)] []) {k78 : Nat → Nat → Int32 → Int32 → Int32 → Int32 → Int32 → PH → Option (Int32 × PH)} (hk78 : ∀ (a0 : Nat) (a1 : Nat) (i2 : Int32) (i3 : Int32) (i4 : Int32) (i5 : Int32) (i6 : Int32) (hh : PH), k78 a0 a1 i2 i3 i4 i5 i6 hh = some (r, h9) → Go l E m_Mo_ways (rm d 0 0) (KM E 0 0 (PoE (some (.int r)) h9 x)) 0 0 hh x 78 [(0, .ref a0), (1, .ref a1), (2, .int i2), (3, .int i3), (4, .int i4), (5, .int i5), (6, .int i6)] []) (a0 : Nat) (a1 : Nat) (i2 : Int32) (i3 : Int32) (i4 : Int32) (i5 : Int32) (i6 : Int32) (h : PH) (hf : b_Mo_ways_78 F k49 k78 a0 a1 i2 i3 i4 i5 i6 h = some (r, h9)) : Go l E m_Mo_ways (rm d 0 0) (KM E 0 0 (PoE (some (.int r)) h9 x)) 0 0 h x 78 [(0, .ref a0), (1, .ref a1), (2, .int i2), (3, .int i3), (4, .int i4), (5, .int i5), (6, .int i6)] [] := by
  unfold b_Mo_ways_78 at hf
  refine go_iload 6 d_Mo_ways_78 rfl ?_
  refine go_iload_n 3 d_Mo_ways_80 rfl ?_
  refine go_icmp_ge 109 d_Mo_ways_81 (by decide) (fun q6 => ?_) (fun q6 => ?_)
  · rw [if_pos q6] at hf
    refine go_sub (lv' := [(0, .ref a0), (1, .ref a1), (2, .int i2), (3, .int i3), (4, .int i4), (5, .int i5)]) [0, 1, 2, 3, 4, 5] rfl ?_
    exact g_Mo_ways_109 hd hk49 a0 a1 i2 i3 i4 i5 h hf
  · rw [if_neg q6] at hf
    refine go_aload_n 0 d_Mo_ways_84 rfl ?_
    obtain ⟨x1, e_x1, hf⟩ := bnd_x hf
    refine go_get d_Mo_ways_85 (gR_x e_x1) fl_Mo_19 ?_
    refine go_iload 6 d_Mo_ways_88 rfl ?_
    refine go_dup2 d_Mo_ways_90 rfl rfl ?_
    obtain ⟨x2, e_x2, hf⟩ := bnd_x hf
    refine go_iaload d_Mo_ways_91 e_x2 ?_
    refine go_iconst (1 : Int32) d_Mo_ways_92 (by decide) ?_
    refine go_aload_n 0 d_Mo_ways_93 rfl ?_
    obtain ⟨x3, e_x3, hf⟩ := bnd_x hf
    refine go_get d_Mo_ways_94 (gR_x e_x3) fl_Mo_22 ?_
    refine go_iload 6 d_Mo_ways_97 rfl ?_
    obtain ⟨x4, e_x4, hf⟩ := bnd_x hf
    refine go_iaload d_Mo_ways_99 e_x4 ?_
    refine go_ishl d_Mo_ways_100 ?_
    refine go_ior d_Mo_ways_101 ?_
    obtain ⟨h5, e_h5, hf⟩ := bnd_x hf
    refine go_iastore d_Mo_ways_102 e_h5 ?_
    refine go_iinc (lv' := [(6, .int (i6 + (1 : Int32))), (0, .ref a0), (1, .ref a1), (2, .int i2), (3, .int i3), (4, .int i4), (5, .int i5)]) 6 (i6 + (1 : Int32)) d_Mo_ways_103 rfl rfl rfl (by decide) ?_
    refine go_goto 78 d_Mo_ways_106 (by decide) ?_
    refine go_sub (lv' := [(0, .ref a0), (1, .ref a1), (2, .int i2), (3, .int i3), (4, .int i4), (5, .int i5), (6, .int (i6 + (1 : Int32)))]) [1, 2, 3, 4, 5, 6, 0] rfl ?_
    exact hk78 a0 a1 i2 i3 i4 i5 (i6 + (1 : Int32)) h5 hf
theorem t_Mo_ways_78 {l : Launch} {E : ET} {d : Nat} (hd : 3 ≤ d) {F : Nat} {r : Int32} {h9 : PH} {x : Nat} {k49 : Nat → Nat → Int32 → Int32 → Int32 → Int32 → PH → Option (Int32 × PH)} (hk49 : ∀ (a0 : Nat) (a1 : Nat) (i2 : Int32) (i3 : Int32) (i4 : Int32) (i5 : Int32) (hh : PH), k49 a0 a1 i2 i3 i4 i5 hh = some (r, h9) → Go l E m_Mo_ways (rm d 0 0) (KM E 0 0 (PoE (some (.int r)) h9 x)) 0 0 hh x 49 [(0, .ref a0), (1, .ref a1), (2, .int i2), (3, .int i3), (4, .int i4), (5, .int i5)] []) : ∀ (n : Nat) (a0 : Nat) (a1 : Nat) (i2 : Int32) (i3 : Int32) (i4 : Int32) (i5 : Int32) (i6 : Int32) (hh : PH), f_Mo_ways_78 F k49 n a0 a1 i2 i3 i4 i5 i6 hh = some (r, h9) → Go l E m_Mo_ways (rm d 0 0) (KM E 0 0 (PoE (some (.int r)) h9 x)) 0 0 hh x 78 [(0, .ref a0), (1, .ref a1), (2, .int i2), (3, .int i3), (4, .int i4), (5, .int i5), (6, .int i6)] [] := by
  intro n
  induction n with
  | zero => intro v0 v1 v2 v3 v4 v5 v6 v7 hf; cases hf
  | succ n ih => intro v0 v1 v2 v3 v4 v5 v6 v7 hf; exact g_Mo_ways_78 hd hk49 ih v0 v1 v2 v3 v4 v5 v6 v7 hf
def b_Mo_ways_118 (F : Nat) (k118 : Nat → Nat → Int32 → Int32 → Int32 → PH → Option (Int32 × PH)) (a0 : Nat) (a1 : Nat) (i2 : Int32) (i3 : Int32) (i5 : Int32) (h : PH) : Option (Int32 × PH) :=
  (if i3 ≤ i5 then bnd (gI h a0 10 8) fun x1 => (if x1 ≤ (0 : Int32) then some ((0 : Int32), h) else some ((1 : Int32), h)) else bnd (cK h a0 10) fun _ => bnd (f_Mo_cellAt a0 i2 i5 h) fun x4 => bnd (gR h a0 10 9) fun x5 => bnd (aI h x5 i5) fun x6 => bnd (cK h a0 10) fun _ => bnd (f_Mo_takes F a0 a1 x4 ((126 : Int32) &&& (x6 ^^^ (-1 : Int32))) h) fun h8 => k118 a0 a1 i2 i3 (i5 + (1 : Int32)) h8)
def f_Mo_ways_118 (F : Nat) : Nat → Nat → Nat → Int32 → Int32 → Int32 → PH → Option (Int32 × PH)
  | 0 => fun _ _ _ _ _ _ => none
  | n + 1 => b_Mo_ways_118 F (f_Mo_ways_118 F n)
theorem g_Mo_ways_118 {l : Launch} {E : ET} {d : Nat} (hd : 3 ≤ d) {F : Nat} {r : Int32} {h9 : PH} {x : Nat} {k118 : Nat → Nat → Int32 → Int32 → Int32 → PH → Option (Int32 × PH)} (hk118 : ∀ (a0 : Nat) (a1 : Nat) (i2 : Int32) (i3 : Int32) (i5 : Int32) (hh : PH), k118 a0 a1 i2 i3 i5 hh = some (r, h9) → Go l E m_Mo_ways (rm d 0 0) (KM E 0 0 (PoE (some (.int r)) h9 x)) 0 0 hh x 118 [(0, .ref a0), (1, .ref a1), (2, .int i2), (3, .int i3), (5, .int i5)] []) (a0 : Nat) (a1 : Nat) (i2 : Int32) (i3 : Int32) (i5 : Int32) (h : PH) (hf : b_Mo_ways_118 F k118 a0 a1 i2 i3 i5 h = some (r, h9)) : Go l E m_Mo_ways (rm d 0 0) (KM E 0 0 (PoE (some (.int r)) h9 x)) 0 0 h x 118 [(0, .ref a0), (1, .ref a1), (2, .int i2), (3, .int i3), (5, .int i5)] [] := by
  unfold b_Mo_ways_118 at hf
  refine go_iload 4 d_Mo_ways_118 rfl ?_
  refine go_iload_n 3 d_Mo_ways_120 rfl ?_
  refine go_icmp_ge 154 d_Mo_ways_121 (by decide) (fun q9 => ?_) (fun q9 => ?_)
  · rw [if_pos q9] at hf
    refine go_aload_n 0 d_Mo_ways_154 rfl ?_
    obtain ⟨x1, e_x1, hf⟩ := bnd_x hf
    refine go_get d_Mo_ways_155 (gI_x e_x1) fl_Mo_95 ?_
    refine go_if_le 165 d_Mo_ways_158 (by decide) (fun q2 => ?_) (fun q2 => ?_)
    · rw [if_pos q2] at hf
      refine go_iconst (0 : Int32) d_Mo_ways_165 (by decide) ?_
      obtain ⟨e8, e9⟩ := Prod.mk.inj (Option.some.inj hf)
      subst e8; subst e9
      exact go_zret d_Mo_ways_166 rfl rfl ⟨rfl, rfl, rfl⟩
    · rw [if_neg q2] at hf
      refine go_iconst (1 : Int32) d_Mo_ways_161 (by decide) ?_
      refine go_goto 166 d_Mo_ways_162 (by decide) ?_
      obtain ⟨e8, e9⟩ := Prod.mk.inj (Option.some.inj hf)
      subst e8; subst e9
      exact go_zret d_Mo_ways_166 rfl rfl ⟨rfl, rfl, rfl⟩
  · rw [if_neg q9] at hf
    refine go_aload_n 0 d_Mo_ways_124 rfl ?_
    refine go_aload_n 1 d_Mo_ways_125 rfl ?_
    refine go_aload_n 0 d_Mo_ways_126 rfl ?_
    refine go_iload_n 2 d_Mo_ways_127 rfl ?_
    refine go_iload 4 d_Mo_ways_128 rfl ?_
    obtain ⟨_, e3, hf⟩ := bnd_x hf
    obtain ⟨x4, e_x4, hf⟩ := bnd_x hf
    refine go_callV_I (As := [.int i2, .int i5]) (st := [.ref a1, .ref a0]) (c_Mo_cellAt (d := d - 1) (by omega) e_x4) lk_Mo_77 rfl rfl e3 (by decide) rfl (rm_ok (by omega)) (Nat.le_of_ble_eq_true rfl) rm_c d_Mo_ways_130 ?_
    refine go_bipush (126 : Int32) d_Mo_ways_133 (by decide) ?_
    refine go_aload_n 0 d_Mo_ways_135 rfl ?_
    obtain ⟨x5, e_x5, hf⟩ := bnd_x hf
    refine go_get d_Mo_ways_136 (gR_x e_x5) fl_Mo_19 ?_
    refine go_iload 4 d_Mo_ways_139 rfl ?_
    obtain ⟨x6, e_x6, hf⟩ := bnd_x hf
    refine go_iaload d_Mo_ways_141 e_x6 ?_
    refine go_iconst (-1 : Int32) d_Mo_ways_142 (by decide) ?_
    refine go_ixor d_Mo_ways_143 ?_
    refine go_iand d_Mo_ways_144 ?_
    obtain ⟨_, e7, hf⟩ := bnd_x hf
    obtain ⟨h8, e_x8, hf⟩ := bnd_x hf
    refine go_callV_N (As := [.ref a1, .int x4, .int ((126 : Int32) &&& (x6 ^^^ (-1 : Int32)))]) (st := []) (c_Mo_takes (d := d - 1) (by omega) e_x8) lk_Mo_107 rfl rfl e7 (by decide) rfl (rm_ok (by omega)) (Nat.le_of_ble_eq_true rfl) rm_c d_Mo_ways_145 ?_
    refine go_iinc (lv' := [(5, .int (i5 + (1 : Int32))), (0, .ref a0), (1, .ref a1), (2, .int i2), (3, .int i3)]) 4 (i5 + (1 : Int32)) d_Mo_ways_148 rfl rfl rfl (by decide) ?_
    refine go_goto 118 d_Mo_ways_151 (by decide) ?_
    refine go_sub (lv' := [(0, .ref a0), (1, .ref a1), (2, .int i2), (3, .int i3), (5, .int (i5 + (1 : Int32)))]) [1, 2, 3, 4, 0] rfl ?_
    exact hk118 a0 a1 i2 i3 (i5 + (1 : Int32)) h8 hf
theorem t_Mo_ways_118 {l : Launch} {E : ET} {d : Nat} (hd : 3 ≤ d) {F : Nat} {r : Int32} {h9 : PH} {x : Nat}  : ∀ (n : Nat) (a0 : Nat) (a1 : Nat) (i2 : Int32) (i3 : Int32) (i5 : Int32) (hh : PH), f_Mo_ways_118 F n a0 a1 i2 i3 i5 hh = some (r, h9) → Go l E m_Mo_ways (rm d 0 0) (KM E 0 0 (PoE (some (.int r)) h9 x)) 0 0 hh x 118 [(0, .ref a0), (1, .ref a1), (2, .int i2), (3, .int i3), (5, .int i5)] [] := by
  intro n
  induction n with
  | zero => intro v0 v1 v2 v3 v4 v5 hf; cases hf
  | succ n ih => intro v0 v1 v2 v3 v4 v5 hf; exact g_Mo_ways_118 hd ih v0 v1 v2 v3 v4 v5 hf
def b_Mo_ways_49 (F : Nat) (k49 : Nat → Nat → Int32 → Int32 → Int32 → Int32 → PH → Option (Int32 × PH)) (a0 : Nat) (a1 : Nat) (i2 : Int32) (i3 : Int32) (i4 : Int32) (i5 : Int32) (h : PH) : Option (Int32 × PH) :=
  (if i4 ≤ i5 then f_Mo_ways_118 F F a0 a1 i2 i3 (0 : Int32) h else bnd (cK h a0 10) fun _ => bnd2 (f_Mo_laysWay F a0 a1 i2 i5 h) fun x2 h3 => (if x2 = (0 : Int32) then b_Mo_ways_109 F k49 a0 a1 i2 i3 i4 i5 h3 else bnd (cK h3 a0 10) fun _ => bnd (f_Mo_isWay F a0 i2 h3) fun x5 => (if x5 = (0 : Int32) then b_Mo_ways_109 F k49 a0 a1 i2 i3 i4 i5 h3 else f_Mo_ways_78 F k49 F a0 a1 i2 i3 i4 i5 (0 : Int32) h3)))
def f_Mo_ways_49 (F : Nat) : Nat → Nat → Nat → Int32 → Int32 → Int32 → Int32 → PH → Option (Int32 × PH)
  | 0 => fun _ _ _ _ _ _ _ => none
  | n + 1 => b_Mo_ways_49 F (f_Mo_ways_49 F n)
theorem g_Mo_ways_49 {l : Launch} {E : ET} {d : Nat} (hd : 3 ≤ d) {F : Nat} {r : Int32} {h9 : PH} {x : Nat} {k49 : Nat → Nat → Int32 → Int32 → Int32 → Int32 → PH → Option (Int32 × PH)} (hk49 : ∀ (a0 : Nat) (a1 : Nat) (i2 : Int32) (i3 : Int32) (i4 : Int32) (i5 : Int32) (hh : PH), k49 a0 a1 i2 i3 i4 i5 hh = some (r, h9) → Go l E m_Mo_ways (rm d 0 0) (KM E 0 0 (PoE (some (.int r)) h9 x)) 0 0 hh x 49 [(0, .ref a0), (1, .ref a1), (2, .int i2), (3, .int i3), (4, .int i4), (5, .int i5)] []) (a0 : Nat) (a1 : Nat) (i2 : Int32) (i3 : Int32) (i4 : Int32) (i5 : Int32) (h : PH) (hf : b_Mo_ways_49 F k49 a0 a1 i2 i3 i4 i5 h = some (r, h9)) : Go l E m_Mo_ways (rm d 0 0) (KM E 0 0 (PoE (some (.int r)) h9 x)) 0 0 h x 49 [(0, .ref a0), (1, .ref a1), (2, .int i2), (3, .int i3), (4, .int i4), (5, .int i5)] [] := by
  unfold b_Mo_ways_49 at hf
  refine go_iload 5 d_Mo_ways_49 rfl ?_
  refine go_iload 4 d_Mo_ways_51 rfl ?_
  refine go_icmp_ge 115 d_Mo_ways_53 (by decide) (fun q8 => ?_) (fun q8 => ?_)
  · rw [if_pos q8] at hf
    refine go_iconst (0 : Int32) d_Mo_ways_115 (by decide) ?_
    refine go_istore (lv' := [(5, .int (0 : Int32)), (0, .ref a0), (1, .ref a1), (2, .int i2), (3, .int i3), (4, .int i4)]) d_Mo_ways_116 rfl (by decide) ?_
    refine go_sub (lv' := [(0, .ref a0), (1, .ref a1), (2, .int i2), (3, .int i3), (5, .int (0 : Int32))]) [1, 2, 3, 4, 0] rfl ?_
    exact t_Mo_ways_118 hd  _ a0 a1 i2 i3 (0 : Int32) h hf
  · rw [if_neg q8] at hf
    refine go_aload_n 0 d_Mo_ways_56 rfl ?_
    refine go_aload_n 1 d_Mo_ways_57 rfl ?_
    refine go_iload_n 2 d_Mo_ways_58 rfl ?_
    refine go_iload 5 d_Mo_ways_59 rfl ?_
    obtain ⟨_, e1, hf⟩ := bnd_x hf
    obtain ⟨x2, h3, e_x2, hf⟩ := bnd2_x hf
    refine go_callV_I (As := [.ref a1, .int i2, .int i5]) (st := []) (c_Mo_laysWay (d := d - 1) (by omega) e_x2) lk_Mo_126 rfl rfl e1 (by decide) rfl (rm_ok (by omega)) (Nat.le_of_ble_eq_true rfl) rm_c d_Mo_ways_61 ?_
    refine go_if_eq 109 d_Mo_ways_64 (by decide) (fun q7 => ?_) (fun q7 => ?_)
    · rw [if_pos q7] at hf
      refine go_sub (lv' := [(0, .ref a0), (1, .ref a1), (2, .int i2), (3, .int i3), (4, .int i4), (5, .int i5)]) [0, 1, 2, 3, 4, 5] rfl ?_
      exact g_Mo_ways_109 hd hk49 a0 a1 i2 i3 i4 i5 h3 hf
    · rw [if_neg q7] at hf
      refine go_aload_n 0 d_Mo_ways_67 rfl ?_
      refine go_iload_n 2 d_Mo_ways_68 rfl ?_
      obtain ⟨_, e4, hf⟩ := bnd_x hf
      obtain ⟨x5, e_x5, hf⟩ := bnd_x hf
      refine go_callV_I (As := [.int i2]) (st := []) (c_Mo_isWay (d := d - 1) (by omega) e_x5) lk_Mo_130 rfl rfl e4 (by decide) rfl (rm_ok (by omega)) (Nat.le_of_ble_eq_true rfl) rm_c d_Mo_ways_69 ?_
      refine go_if_eq 109 d_Mo_ways_72 (by decide) (fun q6 => ?_) (fun q6 => ?_)
      · rw [if_pos q6] at hf
        refine go_sub (lv' := [(0, .ref a0), (1, .ref a1), (2, .int i2), (3, .int i3), (4, .int i4), (5, .int i5)]) [0, 1, 2, 3, 4, 5] rfl ?_
        exact g_Mo_ways_109 hd hk49 a0 a1 i2 i3 i4 i5 h3 hf
      · rw [if_neg q6] at hf
        refine go_iconst (0 : Int32) d_Mo_ways_75 (by decide) ?_
        refine go_istore (lv' := [(6, .int (0 : Int32)), (0, .ref a0), (1, .ref a1), (2, .int i2), (3, .int i3), (4, .int i4), (5, .int i5)]) d_Mo_ways_76 rfl (by decide) ?_
        refine go_sub (lv' := [(0, .ref a0), (1, .ref a1), (2, .int i2), (3, .int i3), (4, .int i4), (5, .int i5), (6, .int (0 : Int32))]) [1, 2, 3, 4, 5, 6, 0] rfl ?_
        exact t_Mo_ways_78 hd hk49 _ a0 a1 i2 i3 i4 i5 (0 : Int32) h3 hf
theorem t_Mo_ways_49 {l : Launch} {E : ET} {d : Nat} (hd : 3 ≤ d) {F : Nat} {r : Int32} {h9 : PH} {x : Nat}  : ∀ (n : Nat) (a0 : Nat) (a1 : Nat) (i2 : Int32) (i3 : Int32) (i4 : Int32) (i5 : Int32) (hh : PH), f_Mo_ways_49 F n a0 a1 i2 i3 i4 i5 hh = some (r, h9) → Go l E m_Mo_ways (rm d 0 0) (KM E 0 0 (PoE (some (.int r)) h9 x)) 0 0 hh x 49 [(0, .ref a0), (1, .ref a1), (2, .int i2), (3, .int i3), (4, .int i4), (5, .int i5)] [] := by
  intro n
  induction n with
  | zero => intro v0 v1 v2 v3 v4 v5 v6 hf; cases hf
  | succ n ih => intro v0 v1 v2 v3 v4 v5 v6 hf; exact g_Mo_ways_49 hd ih v0 v1 v2 v3 v4 v5 v6 hf
def b_Mo_ways_19 (F : Nat) (k19 : Nat → Nat → Int32 → Int32 → Int32 → Int32 → PH → Option (Int32 × PH)) (a0 : Nat) (a1 : Nat) (i2 : Int32) (i3 : Int32) (i4 : Int32) (i5 : Int32) (h : PH) : Option (Int32 × PH) :=
  (if i3 ≤ i5 then f_Mo_ways_49 F F a0 a1 i2 i3 i4 (0 : Int32) h else bnd (some (i4 * (6 : Int32))) fun y1 => bnd (gR h a0 10 9) fun x2 => bnd (sI h x2 i5 (0 : Int32)) fun h3 => k19 a0 a1 i2 i3 y1 (i5 + (1 : Int32)) h3)
def f_Mo_ways_19 (F : Nat) : Nat → Nat → Nat → Int32 → Int32 → Int32 → Int32 → PH → Option (Int32 × PH)
  | 0 => fun _ _ _ _ _ _ _ => none
  | n + 1 => b_Mo_ways_19 F (f_Mo_ways_19 F n)
theorem g_Mo_ways_19 {l : Launch} {E : ET} {d : Nat} (hd : 3 ≤ d) {F : Nat} {r : Int32} {h9 : PH} {x : Nat} {k19 : Nat → Nat → Int32 → Int32 → Int32 → Int32 → PH → Option (Int32 × PH)} (hk19 : ∀ (a0 : Nat) (a1 : Nat) (i2 : Int32) (i3 : Int32) (i4 : Int32) (i5 : Int32) (hh : PH), k19 a0 a1 i2 i3 i4 i5 hh = some (r, h9) → Go l E m_Mo_ways (rm d 0 0) (KM E 0 0 (PoE (some (.int r)) h9 x)) 0 0 hh x 19 [(0, .ref a0), (1, .ref a1), (2, .int i2), (3, .int i3), (4, .int i4), (5, .int i5)] []) (a0 : Nat) (a1 : Nat) (i2 : Int32) (i3 : Int32) (i4 : Int32) (i5 : Int32) (h : PH) (hf : b_Mo_ways_19 F k19 a0 a1 i2 i3 i4 i5 h = some (r, h9)) : Go l E m_Mo_ways (rm d 0 0) (KM E 0 0 (PoE (some (.int r)) h9 x)) 0 0 h x 19 [(0, .ref a0), (1, .ref a1), (2, .int i2), (3, .int i3), (4, .int i4), (5, .int i5)] [] := by
  unfold b_Mo_ways_19 at hf
  refine go_iload 5 d_Mo_ways_19 rfl ?_
  refine go_iload_n 3 d_Mo_ways_21 rfl ?_
  refine go_icmp_ge 46 d_Mo_ways_22 (by decide) (fun q4 => ?_) (fun q4 => ?_)
  · rw [if_pos q4] at hf
    refine go_iconst (0 : Int32) d_Mo_ways_46 (by decide) ?_
    refine go_istore (lv' := [(5, .int (0 : Int32)), (0, .ref a0), (1, .ref a1), (2, .int i2), (3, .int i3), (4, .int i4)]) d_Mo_ways_47 rfl (by decide) ?_
    refine go_sub (lv' := [(0, .ref a0), (1, .ref a1), (2, .int i2), (3, .int i3), (4, .int i4), (5, .int (0 : Int32))]) [1, 2, 3, 4, 5, 0] rfl ?_
    exact t_Mo_ways_49 hd  _ a0 a1 i2 i3 i4 (0 : Int32) h hf
  · rw [if_neg q4] at hf
    refine go_iload 4 d_Mo_ways_25 rfl ?_
    refine go_bipush (6 : Int32) d_Mo_ways_27 (by decide) ?_
    refine go_imul d_Mo_ways_29 ?_
    obtain ⟨y1, e_y1, hf⟩ := bnd_x hf
    refine go_nmI e_y1 ?_
    refine go_istore (lv' := [(4, .int y1), (0, .ref a0), (1, .ref a1), (2, .int i2), (3, .int i3), (5, .int i5)]) d_Mo_ways_30 rfl (by decide) ?_
    refine go_aload_n 1 d_Mo_ways_32 rfl ?_
    obtain ⟨x2, e_x2, hf⟩ := bnd_x hf
    refine go_get d_Mo_ways_33 (gR_x e_x2) fl_Mo_19 ?_
    refine go_iload 5 d_Mo_ways_36 rfl ?_
    refine go_iconst (0 : Int32) d_Mo_ways_38 (by decide) ?_
    obtain ⟨h3, e_h3, hf⟩ := bnd_x hf
    refine go_iastore d_Mo_ways_39 e_h3 ?_
    refine go_iinc (lv' := [(5, .int (i5 + (1 : Int32))), (4, .int y1), (0, .ref a0), (1, .ref a1), (2, .int i2), (3, .int i3)]) 5 (i5 + (1 : Int32)) d_Mo_ways_40 rfl rfl rfl (by decide) ?_
    refine go_goto 19 d_Mo_ways_43 (by decide) ?_
    refine go_sub (lv' := [(0, .ref a0), (1, .ref a1), (2, .int i2), (3, .int i3), (4, .int y1), (5, .int (i5 + (1 : Int32)))]) [2, 3, 4, 5, 1, 0] rfl ?_
    exact hk19 a0 a1 i2 i3 y1 (i5 + (1 : Int32)) h3 hf
theorem t_Mo_ways_19 {l : Launch} {E : ET} {d : Nat} (hd : 3 ≤ d) {F : Nat} {r : Int32} {h9 : PH} {x : Nat}  : ∀ (n : Nat) (a0 : Nat) (a1 : Nat) (i2 : Int32) (i3 : Int32) (i4 : Int32) (i5 : Int32) (hh : PH), f_Mo_ways_19 F n a0 a1 i2 i3 i4 i5 hh = some (r, h9) → Go l E m_Mo_ways (rm d 0 0) (KM E 0 0 (PoE (some (.int r)) h9 x)) 0 0 hh x 19 [(0, .ref a0), (1, .ref a1), (2, .int i2), (3, .int i3), (4, .int i4), (5, .int i5)] [] := by
  intro n
  induction n with
  | zero => intro v0 v1 v2 v3 v4 v5 v6 hf; cases hf
  | succ n ih => intro v0 v1 v2 v3 v4 v5 v6 hf; exact g_Mo_ways_19 hd ih v0 v1 v2 v3 v4 v5 v6 hf
def f_Mo_ways (F : Nat) (a0 : Nat) (a1 : Nat) (i2 : Int32) (h : PH) : Option (Int32 × PH) :=
  bnd (cK h a0 10) fun _ => bnd (f_Mo_lengthOf a0 i2 h) fun x2 => (if (2 : Int32) ≤ x2 then f_Mo_ways_19 F F a0 a1 i2 x2 (1 : Int32) (0 : Int32) h else some ((0 : Int32), h))
theorem g_Mo_ways_0 {l : Launch} {E : ET} {d : Nat} (hd : 3 ≤ d) {F : Nat} {r : Int32} {h9 : PH} {x : Nat}  (a0 : Nat) (a1 : Nat) (i2 : Int32) (h : PH) (hf : f_Mo_ways F a0 a1 i2 h = some (r, h9)) : Go l E m_Mo_ways (rm d 0 0) (KM E 0 0 (PoE (some (.int r)) h9 x)) 0 0 h x 0 [(0, .ref a0), (1, .ref a1), (2, .int i2)] [] := by
  unfold f_Mo_ways at hf
  refine go_aload_n 0 d_Mo_ways_0 rfl ?_
  refine go_iload_n 2 d_Mo_ways_1 rfl ?_
  obtain ⟨_, e1, hf⟩ := bnd_x hf
  obtain ⟨x2, e_x2, hf⟩ := bnd_x hf
  refine go_callV_I (As := [.int i2]) (st := []) (c_Mo_lengthOf (d := d - 1) (by omega) e_x2) lk_Mo_74 rfl rfl e1 (by decide) rfl (rm_ok (by omega)) (Nat.le_of_ble_eq_true rfl) rm_c d_Mo_ways_2 ?_
  refine go_istore_n (lv' := [(3, .int x2), (0, .ref a0), (1, .ref a1), (2, .int i2)]) d_Mo_ways_5 rfl (by decide) ?_
  refine go_iload_n 0 d_Mo_ways_6 rfl ?_
  refine go_iconst (2 : Int32) d_Mo_ways_7 (by decide) ?_
  refine go_icmp_ge 13 d_Mo_ways_8 (by decide) (fun q3 => ?_) (fun q3 => ?_)
  · rw [if_pos q3] at hf
    refine go_iconst (1 : Int32) d_Mo_ways_13 (by decide) ?_
    refine go_istore (lv' := [(4, .int (1 : Int32)), (3, .int x2), (0, .ref a0), (1, .ref a1), (2, .int i2)]) d_Mo_ways_14 rfl (by decide) ?_
    refine go_iconst (0 : Int32) d_Mo_ways_16 (by decide) ?_
    refine go_istore (lv' := [(5, .int (0 : Int32)), (4, .int (1 : Int32)), (3, .int x2), (0, .ref a0), (1, .ref a1), (2, .int i2)]) d_Mo_ways_17 rfl (by decide) ?_
    refine go_sub (lv' := [(0, .ref a0), (1, .ref a1), (2, .int i2), (3, .int x2), (4, .int (1 : Int32)), (5, .int (0 : Int32))]) [3, 4, 5, 2, 1, 0] rfl ?_
    exact t_Mo_ways_19 hd  _ a0 a1 i2 x2 (1 : Int32) (0 : Int32) h hf
  · rw [if_neg q3] at hf
    refine go_iconst (0 : Int32) d_Mo_ways_11 (by decide) ?_
    obtain ⟨e8, e9⟩ := Prod.mk.inj (Option.some.inj hf)
    subst e8; subst e9
    exact go_zret d_Mo_ways_12 rfl rfl ⟨rfl, rfl, rfl⟩
theorem c_Mo_ways {l : Launch} {E : ET} {d : Nat} (hd : 3 ≤ d) {F : Nat} {r : Int32} {h9 : PH} {x : Nat} {a0 : Nat} {a1 : Nat} {i2 : Int32} {h : PH} (hf : f_Mo_ways F a0 a1 i2 h = some (r, h9)) : Fn l E m_Mo_ways d 0 0 [.ref a0, .ref a1, .int i2] h x (PoE (some (.int r)) h9 x) :=
  Fn.of (by decide +kernel) (Nat.le_of_ble_eq_true rfl) (g_Mo_ways_0 hd a0 a1 i2 h hf)
theorem d_Mo_constraints_0 : decode prog_13_method_32_code 0 = .ok (.iconst 0, 1) := by decide +kernel
theorem d_Mo_constraints_1 : decode prog_13_method_32_code 1 = .ok (.istore_n 3, 1) := by decide +kernel
theorem d_Mo_constraints_2 : decode prog_13_method_32_code 2 = .ok (.iload_n 3, 1) := by decide +kernel
theorem d_Mo_constraints_3 : decode prog_13_method_32_code 3 = .ok (.aload_n 0, 1) := by decide +kernel
theorem d_Mo_constraints_4 : decode prog_13_method_32_code 4 = .ok (.getfield 7, 3) := by decide +kernel
theorem d_Mo_constraints_7 : decode prog_13_method_32_code 7 = .ok (.bipush 108, 2) := by decide +kernel
theorem d_Mo_constraints_9 : decode prog_13_method_32_code 9 = .ok (.iaload, 1) := by decide +kernel
theorem d_Mo_constraints_10 : decode prog_13_method_32_code 10 = .ok (.if_icmp .ge 51, 3) := by decide +kernel
theorem d_Mo_constraints_13 : decode prog_13_method_32_code 13 = .ok (.aload_n 0, 1) := by decide +kernel
theorem d_Mo_constraints_14 : decode prog_13_method_32_code 14 = .ok (.iload_n 3, 1) := by decide +kernel
theorem d_Mo_constraints_15 : decode prog_13_method_32_code 15 = .ok (.invokevirtual 81, 3) := by decide +kernel
theorem d_Mo_constraints_18 : decode prog_13_method_32_code 18 = .ok (.iload_n 2, 1) := by decide +kernel
theorem d_Mo_constraints_19 : decode prog_13_method_32_code 19 = .ok (.if_icmp .ne 36, 3) := by decide +kernel
theorem d_Mo_constraints_22 : decode prog_13_method_32_code 22 = .ok (.iload_n 2, 1) := by decide +kernel
theorem d_Mo_constraints_23 : decode prog_13_method_32_code 23 = .ok (.iconst 2, 1) := by decide +kernel
theorem d_Mo_constraints_24 : decode prog_13_method_32_code 24 = .ok (.if_icmp .ne 15, 3) := by decide +kernel
theorem d_Mo_constraints_27 : decode prog_13_method_32_code 27 = .ok (.aload_n 0, 1) := by decide +kernel
theorem d_Mo_constraints_28 : decode prog_13_method_32_code 28 = .ok (.aload_n 1, 1) := by decide +kernel
theorem d_Mo_constraints_29 : decode prog_13_method_32_code 29 = .ok (.iload_n 3, 1) := by decide +kernel
theorem d_Mo_constraints_30 : decode prog_13_method_32_code 30 = .ok (.invokevirtual 134, 3) := by decide +kernel
theorem d_Mo_constraints_33 : decode prog_13_method_32_code 33 = .ok (.ifCond .eq 22, 3) := by decide +kernel
theorem d_Mo_constraints_36 : decode prog_13_method_32_code 36 = .ok (.goto 12, 3) := by decide +kernel
theorem d_Mo_constraints_39 : decode prog_13_method_32_code 39 = .ok (.aload_n 0, 1) := by decide +kernel
theorem d_Mo_constraints_40 : decode prog_13_method_32_code 40 = .ok (.aload_n 1, 1) := by decide +kernel
theorem d_Mo_constraints_41 : decode prog_13_method_32_code 41 = .ok (.iload_n 3, 1) := by decide +kernel
theorem d_Mo_constraints_42 : decode prog_13_method_32_code 42 = .ok (.invokevirtual 138, 3) := by decide +kernel
theorem d_Mo_constraints_45 : decode prog_13_method_32_code 45 = .ok (.ifCond .eq 10, 3) := by decide +kernel
theorem d_Mo_constraints_48 : decode prog_13_method_32_code 48 = .ok (.aload_n 0, 1) := by decide +kernel
theorem d_Mo_constraints_49 : decode prog_13_method_32_code 49 = .ok (.iload_n 3, 1) := by decide +kernel
theorem d_Mo_constraints_50 : decode prog_13_method_32_code 50 = .ok (.putfield 101, 3) := by decide +kernel
theorem d_Mo_constraints_53 : decode prog_13_method_32_code 53 = .ok (.iconst 1, 1) := by decide +kernel
theorem d_Mo_constraints_54 : decode prog_13_method_32_code 54 = .ok (.ireturn, 1) := by decide +kernel
theorem d_Mo_constraints_55 : decode prog_13_method_32_code 55 = .ok (.iinc 3 1, 3) := by decide +kernel
theorem d_Mo_constraints_58 : decode prog_13_method_32_code 58 = .ok (.goto (-56), 3) := by decide +kernel
theorem d_Mo_constraints_61 : decode prog_13_method_32_code 61 = .ok (.iconst 0, 1) := by decide +kernel
theorem d_Mo_constraints_62 : decode prog_13_method_32_code 62 = .ok (.ireturn, 1) := by decide +kernel
def b_Mo_constraints_48 (F : Nat) (a0 : Nat) (i3 : Int32) (h : PH) : Option (Int32 × PH) :=
  bnd (pV h a0 10 7 (.int i3)) fun h1 => some ((1 : Int32), h1)
theorem g_Mo_constraints_48 {l : Launch} {E : ET} {d : Nat} (hd : 4 ≤ d) {F : Nat} {r : Int32} {h9 : PH} {x : Nat}  (a0 : Nat) (i3 : Int32) (h : PH) (hf : b_Mo_constraints_48 F a0 i3 h = some (r, h9)) : Go l E m_Mo_constraints (rm d 0 0) (KM E 0 0 (PoE (some (.int r)) h9 x)) 0 0 h x 48 [(0, .ref a0), (3, .int i3)] [] := by
  unfold b_Mo_constraints_48 at hf
  refine go_aload_n 0 d_Mo_constraints_48 rfl ?_
  refine go_iload_n 1 d_Mo_constraints_49 rfl ?_
  obtain ⟨h1, e_h1, hf⟩ := bnd_x hf
  refine go_putI d_Mo_constraints_50 e_h1 fl_Mo_101 rfl rfl ?_
  refine go_iconst (1 : Int32) d_Mo_constraints_53 (by decide) ?_
  obtain ⟨e8, e9⟩ := Prod.mk.inj (Option.some.inj hf)
  subst e8; subst e9
  exact go_zret d_Mo_constraints_54 rfl rfl ⟨rfl, rfl, rfl⟩
def b_Mo_constraints_55 (F : Nat) (k2 : Nat → Nat → Int32 → Int32 → PH → Option (Int32 × PH)) (a0 : Nat) (a1 : Nat) (i2 : Int32) (i3 : Int32) (h : PH) : Option (Int32 × PH) :=
  k2 a0 a1 i2 (i3 + (1 : Int32)) h
theorem g_Mo_constraints_55 {l : Launch} {E : ET} {d : Nat} (hd : 4 ≤ d) {F : Nat} {r : Int32} {h9 : PH} {x : Nat} {k2 : Nat → Nat → Int32 → Int32 → PH → Option (Int32 × PH)} (hk2 : ∀ (a0 : Nat) (a1 : Nat) (i2 : Int32) (i3 : Int32) (hh : PH), k2 a0 a1 i2 i3 hh = some (r, h9) → Go l E m_Mo_constraints (rm d 0 0) (KM E 0 0 (PoE (some (.int r)) h9 x)) 0 0 hh x 2 [(0, .ref a0), (1, .ref a1), (2, .int i2), (3, .int i3)] []) (a0 : Nat) (a1 : Nat) (i2 : Int32) (i3 : Int32) (h : PH) (hf : b_Mo_constraints_55 F k2 a0 a1 i2 i3 h = some (r, h9)) : Go l E m_Mo_constraints (rm d 0 0) (KM E 0 0 (PoE (some (.int r)) h9 x)) 0 0 h x 55 [(0, .ref a0), (1, .ref a1), (2, .int i2), (3, .int i3)] [] := by
  unfold b_Mo_constraints_55 at hf
  refine go_iinc (lv' := [(3, .int (i3 + (1 : Int32))), (0, .ref a0), (1, .ref a1), (2, .int i2)]) 3 (i3 + (1 : Int32)) d_Mo_constraints_55 rfl rfl rfl (by decide) ?_
  refine go_goto 2 d_Mo_constraints_58 (by decide) ?_
  refine go_sub (lv' := [(0, .ref a0), (1, .ref a1), (2, .int i2), (3, .int (i3 + (1 : Int32)))]) [1, 2, 3, 0] rfl ?_
  exact hk2 a0 a1 i2 (i3 + (1 : Int32)) h hf
def b_Mo_constraints_2 (F : Nat) (k2 : Nat → Nat → Int32 → Int32 → PH → Option (Int32 × PH)) (a0 : Nat) (a1 : Nat) (i2 : Int32) (i3 : Int32) (h : PH) : Option (Int32 × PH) :=
  bnd (gR h a0 10 0) fun x1 => bnd (aI h x1 (108 : Int32)) fun x2 => (if x2 ≤ i3 then some ((0 : Int32), h) else bnd (cK h a0 10) fun _ => bnd (f_Mo_kindOf a0 i3 h) fun x4 => (if x4 = i2 then (if i2 = (2 : Int32) then bnd (cK h a0 10) fun _ => bnd2 (f_Mo_thermometer F a0 a1 i3 h) fun x10 h11 => (if x10 = (0 : Int32) then b_Mo_constraints_55 F k2 a0 a1 i2 i3 h11 else b_Mo_constraints_48 F a0 i3 h11) else bnd (cK h a0 10) fun _ => bnd2 (f_Mo_ways F a0 a1 i3 h) fun x6 h7 => (if x6 = (0 : Int32) then b_Mo_constraints_55 F k2 a0 a1 i2 i3 h7 else b_Mo_constraints_48 F a0 i3 h7)) else b_Mo_constraints_55 F k2 a0 a1 i2 i3 h))
def f_Mo_constraints_2 (F : Nat) : Nat → Nat → Nat → Int32 → Int32 → PH → Option (Int32 × PH)
  | 0 => fun _ _ _ _ _ => none
  | n + 1 => b_Mo_constraints_2 F (f_Mo_constraints_2 F n)
theorem g_Mo_constraints_2 {l : Launch} {E : ET} {d : Nat} (hd : 4 ≤ d) {F : Nat} {r : Int32} {h9 : PH} {x : Nat} {k2 : Nat → Nat → Int32 → Int32 → PH → Option (Int32 × PH)} (hk2 : ∀ (a0 : Nat) (a1 : Nat) (i2 : Int32) (i3 : Int32) (hh : PH), k2 a0 a1 i2 i3 hh = some (r, h9) → Go l E m_Mo_constraints (rm d 0 0) (KM E 0 0 (PoE (some (.int r)) h9 x)) 0 0 hh x 2 [(0, .ref a0), (1, .ref a1), (2, .int i2), (3, .int i3)] []) (a0 : Nat) (a1 : Nat) (i2 : Int32) (i3 : Int32) (h : PH) (hf : b_Mo_constraints_2 F k2 a0 a1 i2 i3 h = some (r, h9)) : Go l E m_Mo_constraints (rm d 0 0) (KM E 0 0 (PoE (some (.int r)) h9 x)) 0 0 h x 2 [(0, .ref a0), (1, .ref a1), (2, .int i2), (3, .int i3)] [] := by
  unfold b_Mo_constraints_2 at hf
  refine go_iload_n 3 d_Mo_constraints_2 rfl ?_
  refine go_aload_n 0 d_Mo_constraints_3 rfl ?_
  obtain ⟨x1, e_x1, hf⟩ := bnd_x hf
  refine go_get d_Mo_constraints_4 (gR_x e_x1) fl_Mo_7 ?_
  refine go_bipush (108 : Int32) d_Mo_constraints_7 (by decide) ?_
  obtain ⟨x2, e_x2, hf⟩ := bnd_x hf
  refine go_iaload d_Mo_constraints_9 e_x2 ?_
  refine go_icmp_ge 61 d_Mo_constraints_10 (by decide) (fun q15 => ?_) (fun q15 => ?_)
  · rw [if_pos q15] at hf
    refine go_iconst (0 : Int32) d_Mo_constraints_61 (by decide) ?_
    obtain ⟨e8, e9⟩ := Prod.mk.inj (Option.some.inj hf)
    subst e8; subst e9
    exact go_zret d_Mo_constraints_62 rfl rfl ⟨rfl, rfl, rfl⟩
  · rw [if_neg q15] at hf
    refine go_aload_n 0 d_Mo_constraints_13 rfl ?_
    refine go_iload_n 3 d_Mo_constraints_14 rfl ?_
    obtain ⟨_, e3, hf⟩ := bnd_x hf
    obtain ⟨x4, e_x4, hf⟩ := bnd_x hf
    refine go_callV_I (As := [.int i3]) (st := []) (c_Mo_kindOf (d := d - 1) (by omega) e_x4) lk_Mo_81 rfl rfl e3 (by decide) rfl (rm_ok (by omega)) (Nat.le_of_ble_eq_true rfl) rm_c d_Mo_constraints_15 ?_
    refine go_iload_n 2 d_Mo_constraints_18 rfl ?_
    refine go_icmp_ne 55 d_Mo_constraints_19 (by decide) (fun q14 => ?_) (fun q14 => ?_)
    · rw [if_neg q14] at hf
      refine go_sub (lv' := [(0, .ref a0), (1, .ref a1), (2, .int i2), (3, .int i3)]) [0, 1, 2, 3] rfl ?_
      exact g_Mo_constraints_55 hd hk2 a0 a1 i2 i3 h hf
    · rw [if_pos q14] at hf
      refine go_iload_n 2 d_Mo_constraints_22 rfl ?_
      refine go_iconst (2 : Int32) d_Mo_constraints_23 (by decide) ?_
      refine go_icmp_ne 39 d_Mo_constraints_24 (by decide) (fun q13 => ?_) (fun q13 => ?_)
      · rw [if_neg q13] at hf
        refine go_aload_n 0 d_Mo_constraints_39 rfl ?_
        refine go_aload_n 1 d_Mo_constraints_40 rfl ?_
        refine go_iload_n 3 d_Mo_constraints_41 rfl ?_
        obtain ⟨_, e5, hf⟩ := bnd_x hf
        obtain ⟨x6, h7, e_x6, hf⟩ := bnd2_x hf
        refine go_callV_I (As := [.ref a1, .int i3]) (st := []) (c_Mo_ways (d := d - 1) (by omega) e_x6) lk_Mo_138 rfl rfl e5 (by decide) rfl (rm_ok (by omega)) (Nat.le_of_ble_eq_true rfl) rm_c d_Mo_constraints_42 ?_
        refine go_if_eq 55 d_Mo_constraints_45 (by decide) (fun q8 => ?_) (fun q8 => ?_)
        · rw [if_pos q8] at hf
          refine go_sub (lv' := [(0, .ref a0), (1, .ref a1), (2, .int i2), (3, .int i3)]) [0, 1, 2, 3] rfl ?_
          exact g_Mo_constraints_55 hd hk2 a0 a1 i2 i3 h7 hf
        · rw [if_neg q8] at hf
          refine go_sub (lv' := [(0, .ref a0), (3, .int i3)]) [0, 3] rfl ?_
          exact g_Mo_constraints_48 hd  a0 i3 h7 hf
      · rw [if_pos q13] at hf
        refine go_aload_n 0 d_Mo_constraints_27 rfl ?_
        refine go_aload_n 1 d_Mo_constraints_28 rfl ?_
        refine go_iload_n 3 d_Mo_constraints_29 rfl ?_
        obtain ⟨_, e9, hf⟩ := bnd_x hf
        obtain ⟨x10, h11, e_x10, hf⟩ := bnd2_x hf
        refine go_callV_I (As := [.ref a1, .int i3]) (st := []) (c_Mo_thermometer (d := d - 1) (by omega) e_x10) lk_Mo_134 rfl rfl e9 (by decide) rfl (rm_ok (by omega)) (Nat.le_of_ble_eq_true rfl) rm_c d_Mo_constraints_30 ?_
        refine go_if_eq 55 d_Mo_constraints_33 (by decide) (fun q12 => ?_) (fun q12 => ?_)
        · rw [if_pos q12] at hf
          refine go_sub (lv' := [(0, .ref a0), (1, .ref a1), (2, .int i2), (3, .int i3)]) [0, 1, 2, 3] rfl ?_
          exact g_Mo_constraints_55 hd hk2 a0 a1 i2 i3 h11 hf
        · rw [if_neg q12] at hf
          refine go_goto 48 d_Mo_constraints_36 (by decide) ?_
          refine go_sub (lv' := [(0, .ref a0), (3, .int i3)]) [0, 3] rfl ?_
          exact g_Mo_constraints_48 hd  a0 i3 h11 hf
theorem t_Mo_constraints_2 {l : Launch} {E : ET} {d : Nat} (hd : 4 ≤ d) {F : Nat} {r : Int32} {h9 : PH} {x : Nat}  : ∀ (n : Nat) (a0 : Nat) (a1 : Nat) (i2 : Int32) (i3 : Int32) (hh : PH), f_Mo_constraints_2 F n a0 a1 i2 i3 hh = some (r, h9) → Go l E m_Mo_constraints (rm d 0 0) (KM E 0 0 (PoE (some (.int r)) h9 x)) 0 0 hh x 2 [(0, .ref a0), (1, .ref a1), (2, .int i2), (3, .int i3)] [] := by
  intro n
  induction n with
  | zero => intro v0 v1 v2 v3 v4 hf; cases hf
  | succ n ih => intro v0 v1 v2 v3 v4 hf; exact g_Mo_constraints_2 hd ih v0 v1 v2 v3 v4 hf
def f_Mo_constraints (F : Nat) (a0 : Nat) (a1 : Nat) (i2 : Int32) (h : PH) : Option (Int32 × PH) :=
  f_Mo_constraints_2 F F a0 a1 i2 (0 : Int32) h
theorem g_Mo_constraints_0 {l : Launch} {E : ET} {d : Nat} (hd : 4 ≤ d) {F : Nat} {r : Int32} {h9 : PH} {x : Nat}  (a0 : Nat) (a1 : Nat) (i2 : Int32) (h : PH) (hf : f_Mo_constraints F a0 a1 i2 h = some (r, h9)) : Go l E m_Mo_constraints (rm d 0 0) (KM E 0 0 (PoE (some (.int r)) h9 x)) 0 0 h x 0 [(0, .ref a0), (1, .ref a1), (2, .int i2)] [] := by
  unfold f_Mo_constraints at hf
  refine go_iconst (0 : Int32) d_Mo_constraints_0 (by decide) ?_
  refine go_istore_n (lv' := [(3, .int (0 : Int32)), (0, .ref a0), (1, .ref a1), (2, .int i2)]) d_Mo_constraints_1 rfl (by decide) ?_
  refine go_sub (lv' := [(0, .ref a0), (1, .ref a1), (2, .int i2), (3, .int (0 : Int32))]) [1, 2, 3, 0] rfl ?_
  exact t_Mo_constraints_2 hd  _ a0 a1 i2 (0 : Int32) h hf
theorem c_Mo_constraints {l : Launch} {E : ET} {d : Nat} (hd : 4 ≤ d) {F : Nat} {r : Int32} {h9 : PH} {x : Nat} {a0 : Nat} {a1 : Nat} {i2 : Int32} {h : PH} (hf : f_Mo_constraints F a0 a1 i2 h = some (r, h9)) : Fn l E m_Mo_constraints d 0 0 [.ref a0, .ref a1, .int i2] h x (PoE (some (.int r)) h9 x) :=
  Fn.of (by decide +kernel) (Nat.le_of_ble_eq_true rfl) (g_Mo_constraints_0 hd a0 a1 i2 h hf)
theorem d_Mo_locks_0 : decode prog_13_method_33_code 0 = .ok (.iconst 0, 1) := by decide +kernel
theorem d_Mo_locks_1 : decode prog_13_method_33_code 1 = .ok (.istore 5, 2) := by decide +kernel
theorem d_Mo_locks_3 : decode prog_13_method_33_code 3 = .ok (.iconst 1, 1) := by decide +kernel
theorem d_Mo_locks_4 : decode prog_13_method_33_code 4 = .ok (.istore 6, 2) := by decide +kernel
theorem d_Mo_locks_6 : decode prog_13_method_33_code 6 = .ok (.iconst 0, 1) := by decide +kernel
theorem d_Mo_locks_7 : decode prog_13_method_33_code 7 = .ok (.istore 7, 2) := by decide +kernel
theorem d_Mo_locks_9 : decode prog_13_method_33_code 9 = .ok (.iload 7, 2) := by decide +kernel
theorem d_Mo_locks_11 : decode prog_13_method_33_code 11 = .ok (.bipush 6, 2) := by decide +kernel
theorem d_Mo_locks_13 : decode prog_13_method_33_code 13 = .ok (.if_icmp .ge 72, 3) := by decide +kernel
theorem d_Mo_locks_16 : decode prog_13_method_33_code 16 = .ok (.iload_n 2, 1) := by decide +kernel
theorem d_Mo_locks_17 : decode prog_13_method_33_code 17 = .ok (.iload 7, 2) := by decide +kernel
theorem d_Mo_locks_19 : decode prog_13_method_33_code 19 = .ok (.invokestatic 111, 3) := by decide +kernel
theorem d_Mo_locks_22 : decode prog_13_method_33_code 22 = .ok (.istore 8, 2) := by decide +kernel
theorem d_Mo_locks_24 : decode prog_13_method_33_code 24 = .ok (.iload 5, 2) := by decide +kernel
theorem d_Mo_locks_26 : decode prog_13_method_33_code 26 = .ok (.aload_n 1, 1) := by decide +kernel
theorem d_Mo_locks_27 : decode prog_13_method_33_code 27 = .ok (.iload 8, 2) := by decide +kernel
theorem d_Mo_locks_29 : decode prog_13_method_33_code 29 = .ok (.iaload, 1) := by decide +kernel
theorem d_Mo_locks_30 : decode prog_13_method_33_code 30 = .ok (.iload 4, 2) := by decide +kernel
theorem d_Mo_locks_32 : decode prog_13_method_33_code 32 = .ok (.invokestatic 66, 3) := by decide +kernel
theorem d_Mo_locks_35 : decode prog_13_method_33_code 35 = .ok (.ifCond .eq 7, 3) := by decide +kernel
theorem d_Mo_locks_38 : decode prog_13_method_33_code 38 = .ok (.iconst 1, 1) := by decide +kernel
theorem d_Mo_locks_39 : decode prog_13_method_33_code 39 = .ok (.goto 4, 3) := by decide +kernel
theorem d_Mo_locks_42 : decode prog_13_method_33_code 42 = .ok (.iconst 0, 1) := by decide +kernel
theorem d_Mo_locks_43 : decode prog_13_method_33_code 43 = .ok (.iadd, 1) := by decide +kernel
theorem d_Mo_locks_44 : decode prog_13_method_33_code 44 = .ok (.istore 5, 2) := by decide +kernel
theorem d_Mo_locks_46 : decode prog_13_method_33_code 46 = .ok (.iload 6, 2) := by decide +kernel
theorem d_Mo_locks_48 : decode prog_13_method_33_code 48 = .ok (.ifCond .eq 28, 3) := by decide +kernel
theorem d_Mo_locks_51 : decode prog_13_method_33_code 51 = .ok (.aload_n 1, 1) := by decide +kernel
theorem d_Mo_locks_52 : decode prog_13_method_33_code 52 = .ok (.iload 8, 2) := by decide +kernel
theorem d_Mo_locks_54 : decode prog_13_method_33_code 54 = .ok (.iaload, 1) := by decide +kernel
theorem d_Mo_locks_55 : decode prog_13_method_33_code 55 = .ok (.iload 4, 2) := by decide +kernel
theorem d_Mo_locks_57 : decode prog_13_method_33_code 57 = .ok (.invokestatic 66, 3) := by decide +kernel
theorem d_Mo_locks_60 : decode prog_13_method_33_code 60 = .ok (.ifCond .eq 12, 3) := by decide +kernel
theorem d_Mo_locks_63 : decode prog_13_method_33_code 63 = .ok (.iload_n 3, 1) := by decide +kernel
theorem d_Mo_locks_64 : decode prog_13_method_33_code 64 = .ok (.iload 8, 2) := by decide +kernel
theorem d_Mo_locks_66 : decode prog_13_method_33_code 66 = .ok (.invokestatic 141, 3) := by decide +kernel
theorem d_Mo_locks_69 : decode prog_13_method_33_code 69 = .ok (.ifCond .eq 7, 3) := by decide +kernel
theorem d_Mo_locks_72 : decode prog_13_method_33_code 72 = .ok (.iconst 1, 1) := by decide +kernel
theorem d_Mo_locks_73 : decode prog_13_method_33_code 73 = .ok (.goto 4, 3) := by decide +kernel
theorem d_Mo_locks_76 : decode prog_13_method_33_code 76 = .ok (.iconst 0, 1) := by decide +kernel
theorem d_Mo_locks_77 : decode prog_13_method_33_code 77 = .ok (.istore 6, 2) := by decide +kernel
theorem d_Mo_locks_79 : decode prog_13_method_33_code 79 = .ok (.iinc 7 1, 3) := by decide +kernel
theorem d_Mo_locks_82 : decode prog_13_method_33_code 82 = .ok (.goto (-73), 3) := by decide +kernel
theorem d_Mo_locks_85 : decode prog_13_method_33_code 85 = .ok (.iconst 0, 1) := by decide +kernel
theorem d_Mo_locks_86 : decode prog_13_method_33_code 86 = .ok (.istore 7, 2) := by decide +kernel
theorem d_Mo_locks_88 : decode prog_13_method_33_code 88 = .ok (.iload 7, 2) := by decide +kernel
theorem d_Mo_locks_90 : decode prog_13_method_33_code 90 = .ok (.bipush 6, 2) := by decide +kernel
theorem d_Mo_locks_92 : decode prog_13_method_33_code 92 = .ok (.if_icmp .ge 47, 3) := by decide +kernel
theorem d_Mo_locks_95 : decode prog_13_method_33_code 95 = .ok (.iload 5, 2) := by decide +kernel
theorem d_Mo_locks_97 : decode prog_13_method_33_code 97 = .ok (.ifCond .le 42, 3) := by decide +kernel
theorem d_Mo_locks_100 : decode prog_13_method_33_code 100 = .ok (.iload 6, 2) := by decide +kernel
theorem d_Mo_locks_102 : decode prog_13_method_33_code 102 = .ok (.ifCond .eq 37, 3) := by decide +kernel
theorem d_Mo_locks_105 : decode prog_13_method_33_code 105 = .ok (.iload_n 3, 1) := by decide +kernel
theorem d_Mo_locks_106 : decode prog_13_method_33_code 106 = .ok (.iload 7, 2) := by decide +kernel
theorem d_Mo_locks_108 : decode prog_13_method_33_code 108 = .ok (.invokestatic 111, 3) := by decide +kernel
theorem d_Mo_locks_111 : decode prog_13_method_33_code 111 = .ok (.istore 8, 2) := by decide +kernel
theorem d_Mo_locks_113 : decode prog_13_method_33_code 113 = .ok (.iload_n 2, 1) := by decide +kernel
theorem d_Mo_locks_114 : decode prog_13_method_33_code 114 = .ok (.iload 8, 2) := by decide +kernel
theorem d_Mo_locks_116 : decode prog_13_method_33_code 116 = .ok (.invokestatic 141, 3) := by decide +kernel
theorem d_Mo_locks_119 : decode prog_13_method_33_code 119 = .ok (.ifCond .ne 14, 3) := by decide +kernel
theorem d_Mo_locks_122 : decode prog_13_method_33_code 122 = .ok (.aload_n 0, 1) := by decide +kernel
theorem d_Mo_locks_123 : decode prog_13_method_33_code 123 = .ok (.aload_n 1, 1) := by decide +kernel
theorem d_Mo_locks_124 : decode prog_13_method_33_code 124 = .ok (.iload 8, 2) := by decide +kernel
theorem d_Mo_locks_126 : decode prog_13_method_33_code 126 = .ok (.iconst 1, 1) := by decide +kernel
theorem d_Mo_locks_127 : decode prog_13_method_33_code 127 = .ok (.iload 4, 2) := by decide +kernel
theorem d_Mo_locks_129 : decode prog_13_method_33_code 129 = .ok (.ishl, 1) := by decide +kernel
theorem d_Mo_locks_130 : decode prog_13_method_33_code 130 = .ok (.invokevirtual 107, 3) := by decide +kernel
theorem d_Mo_locks_133 : decode prog_13_method_33_code 133 = .ok (.iinc 7 1, 3) := by decide +kernel
theorem d_Mo_locks_136 : decode prog_13_method_33_code 136 = .ok (.goto (-48), 3) := by decide +kernel
theorem d_Mo_locks_139 : decode prog_13_method_33_code 139 = .ok (.aload_n 0, 1) := by decide +kernel
theorem d_Mo_locks_140 : decode prog_13_method_33_code 140 = .ok (.getfield 95, 3) := by decide +kernel
theorem d_Mo_locks_143 : decode prog_13_method_33_code 143 = .ok (.ifCond .le 7, 3) := by decide +kernel
theorem d_Mo_locks_146 : decode prog_13_method_33_code 146 = .ok (.iconst 1, 1) := by decide +kernel
theorem d_Mo_locks_147 : decode prog_13_method_33_code 147 = .ok (.goto 4, 3) := by decide +kernel
theorem d_Mo_locks_150 : decode prog_13_method_33_code 150 = .ok (.iconst 0, 1) := by decide +kernel
theorem d_Mo_locks_151 : decode prog_13_method_33_code 151 = .ok (.ireturn, 1) := by decide +kernel
def b_Mo_locks_77 (F : Nat) (k9 : Nat → Nat → Int32 → Int32 → Int32 → Int32 → Int32 → Int32 → PH → Option (Int32 × PH)) (a0 : Nat) (a1 : Nat) (i2 : Int32) (i3 : Int32) (i4 : Int32) (i5 : Int32) (i7 : Int32) (s0 : Int32) (h : PH) : Option (Int32 × PH) :=
  k9 a0 a1 i2 i3 i4 i5 s0 (i7 + (1 : Int32)) h
theorem g_Mo_locks_77 {l : Launch} {E : ET} {d : Nat} (hd : 3 ≤ d) {F : Nat} {r : Int32} {h9 : PH} {x : Nat} {k9 : Nat → Nat → Int32 → Int32 → Int32 → Int32 → Int32 → Int32 → PH → Option (Int32 × PH)} (hk9 : ∀ (a0 : Nat) (a1 : Nat) (i2 : Int32) (i3 : Int32) (i4 : Int32) (i5 : Int32) (i6 : Int32) (i7 : Int32) (hh : PH), k9 a0 a1 i2 i3 i4 i5 i6 i7 hh = some (r, h9) → Go l E m_Mo_locks (rm d 0 0) (KM E 0 0 (PoE (some (.int r)) h9 x)) 0 0 hh x 9 [(0, .ref a0), (1, .ref a1), (2, .int i2), (3, .int i3), (4, .int i4), (5, .int i5), (6, .int i6), (7, .int i7)] []) (a0 : Nat) (a1 : Nat) (i2 : Int32) (i3 : Int32) (i4 : Int32) (i5 : Int32) (i7 : Int32) (s0 : Int32) (h : PH) (hf : b_Mo_locks_77 F k9 a0 a1 i2 i3 i4 i5 i7 s0 h = some (r, h9)) : Go l E m_Mo_locks (rm d 0 0) (KM E 0 0 (PoE (some (.int r)) h9 x)) 0 0 h x 77 [(0, .ref a0), (1, .ref a1), (2, .int i2), (3, .int i3), (4, .int i4), (5, .int i5), (7, .int i7)] [.int s0] := by
  unfold b_Mo_locks_77 at hf
  refine go_istore (lv' := [(6, .int s0), (0, .ref a0), (1, .ref a1), (2, .int i2), (3, .int i3), (4, .int i4), (5, .int i5), (7, .int i7)]) d_Mo_locks_77 rfl (by decide) ?_
  refine go_iinc (lv' := [(7, .int (i7 + (1 : Int32))), (6, .int s0), (0, .ref a0), (1, .ref a1), (2, .int i2), (3, .int i3), (4, .int i4), (5, .int i5)]) 7 (i7 + (1 : Int32)) d_Mo_locks_79 rfl rfl rfl (by decide) ?_
  refine go_goto 9 d_Mo_locks_82 (by decide) ?_
  refine go_sub (lv' := [(0, .ref a0), (1, .ref a1), (2, .int i2), (3, .int i3), (4, .int i4), (5, .int i5), (6, .int s0), (7, .int (i7 + (1 : Int32)))]) [2, 3, 4, 5, 6, 7, 1, 0] rfl ?_
  exact hk9 a0 a1 i2 i3 i4 i5 s0 (i7 + (1 : Int32)) h hf
def b_Mo_locks_72 (F : Nat) (k9 : Nat → Nat → Int32 → Int32 → Int32 → Int32 → Int32 → Int32 → PH → Option (Int32 × PH)) (a0 : Nat) (a1 : Nat) (i2 : Int32) (i3 : Int32) (i4 : Int32) (i5 : Int32) (i7 : Int32) (h : PH) : Option (Int32 × PH) :=
  b_Mo_locks_77 F k9 a0 a1 i2 i3 i4 i5 i7 (1 : Int32) h
theorem g_Mo_locks_72 {l : Launch} {E : ET} {d : Nat} (hd : 3 ≤ d) {F : Nat} {r : Int32} {h9 : PH} {x : Nat} {k9 : Nat → Nat → Int32 → Int32 → Int32 → Int32 → Int32 → Int32 → PH → Option (Int32 × PH)} (hk9 : ∀ (a0 : Nat) (a1 : Nat) (i2 : Int32) (i3 : Int32) (i4 : Int32) (i5 : Int32) (i6 : Int32) (i7 : Int32) (hh : PH), k9 a0 a1 i2 i3 i4 i5 i6 i7 hh = some (r, h9) → Go l E m_Mo_locks (rm d 0 0) (KM E 0 0 (PoE (some (.int r)) h9 x)) 0 0 hh x 9 [(0, .ref a0), (1, .ref a1), (2, .int i2), (3, .int i3), (4, .int i4), (5, .int i5), (6, .int i6), (7, .int i7)] []) (a0 : Nat) (a1 : Nat) (i2 : Int32) (i3 : Int32) (i4 : Int32) (i5 : Int32) (i7 : Int32) (h : PH) (hf : b_Mo_locks_72 F k9 a0 a1 i2 i3 i4 i5 i7 h = some (r, h9)) : Go l E m_Mo_locks (rm d 0 0) (KM E 0 0 (PoE (some (.int r)) h9 x)) 0 0 h x 72 [(0, .ref a0), (1, .ref a1), (2, .int i2), (3, .int i3), (4, .int i4), (5, .int i5), (7, .int i7)] [] := by
  unfold b_Mo_locks_72 at hf
  refine go_iconst (1 : Int32) d_Mo_locks_72 (by decide) ?_
  refine go_goto 77 d_Mo_locks_73 (by decide) ?_
  refine go_sub (lv' := [(0, .ref a0), (1, .ref a1), (2, .int i2), (3, .int i3), (4, .int i4), (5, .int i5), (7, .int i7)]) [0, 1, 2, 3, 4, 5, 6] rfl ?_
  exact g_Mo_locks_77 hd hk9 a0 a1 i2 i3 i4 i5 i7 (1 : Int32) h hf
def b_Mo_locks_76 (F : Nat) (k9 : Nat → Nat → Int32 → Int32 → Int32 → Int32 → Int32 → Int32 → PH → Option (Int32 × PH)) (a0 : Nat) (a1 : Nat) (i2 : Int32) (i3 : Int32) (i4 : Int32) (i5 : Int32) (i7 : Int32) (h : PH) : Option (Int32 × PH) :=
  b_Mo_locks_77 F k9 a0 a1 i2 i3 i4 i5 i7 (0 : Int32) h
theorem g_Mo_locks_76 {l : Launch} {E : ET} {d : Nat} (hd : 3 ≤ d) {F : Nat} {r : Int32} {h9 : PH} {x : Nat} {k9 : Nat → Nat → Int32 → Int32 → Int32 → Int32 → Int32 → Int32 → PH → Option (Int32 × PH)} (hk9 : ∀ (a0 : Nat) (a1 : Nat) (i2 : Int32) (i3 : Int32) (i4 : Int32) (i5 : Int32) (i6 : Int32) (i7 : Int32) (hh : PH), k9 a0 a1 i2 i3 i4 i5 i6 i7 hh = some (r, h9) → Go l E m_Mo_locks (rm d 0 0) (KM E 0 0 (PoE (some (.int r)) h9 x)) 0 0 hh x 9 [(0, .ref a0), (1, .ref a1), (2, .int i2), (3, .int i3), (4, .int i4), (5, .int i5), (6, .int i6), (7, .int i7)] []) (a0 : Nat) (a1 : Nat) (i2 : Int32) (i3 : Int32) (i4 : Int32) (i5 : Int32) (i7 : Int32) (h : PH) (hf : b_Mo_locks_76 F k9 a0 a1 i2 i3 i4 i5 i7 h = some (r, h9)) : Go l E m_Mo_locks (rm d 0 0) (KM E 0 0 (PoE (some (.int r)) h9 x)) 0 0 h x 76 [(0, .ref a0), (1, .ref a1), (2, .int i2), (3, .int i3), (4, .int i4), (5, .int i5), (7, .int i7)] [] := by
  unfold b_Mo_locks_76 at hf
  refine go_iconst (0 : Int32) d_Mo_locks_76 (by decide) ?_
  refine go_sub (lv' := [(0, .ref a0), (1, .ref a1), (2, .int i2), (3, .int i3), (4, .int i4), (5, .int i5), (7, .int i7)]) [0, 1, 2, 3, 4, 5, 6] rfl ?_
  exact g_Mo_locks_77 hd hk9 a0 a1 i2 i3 i4 i5 i7 (0 : Int32) h hf
def b_Mo_locks_43 (F : Nat) (k9 : Nat → Nat → Int32 → Int32 → Int32 → Int32 → Int32 → Int32 → PH → Option (Int32 × PH)) (a0 : Nat) (a1 : Nat) (i2 : Int32) (i3 : Int32) (i4 : Int32) (i6 : Int32) (i7 : Int32) (i8 : Int32) (s0 : Int32) (s1 : Int32) (h : PH) : Option (Int32 × PH) :=
  (if i6 = (0 : Int32) then b_Mo_locks_76 F k9 a0 a1 i2 i3 i4 (s1 + s0) i7 h else bnd (aI h a1 i8) fun x1 => bnd (f_Mo_has x1 i4) fun x2 => (if x2 = (0 : Int32) then b_Mo_locks_72 F k9 a0 a1 i2 i3 i4 (s1 + s0) i7 h else bnd (f_Mo_isIn i3 i8) fun x3 => (if x3 = (0 : Int32) then b_Mo_locks_76 F k9 a0 a1 i2 i3 i4 (s1 + s0) i7 h else b_Mo_locks_72 F k9 a0 a1 i2 i3 i4 (s1 + s0) i7 h)))
theorem g_Mo_locks_43 {l : Launch} {E : ET} {d : Nat} (hd : 3 ≤ d) {F : Nat} {r : Int32} {h9 : PH} {x : Nat} {k9 : Nat → Nat → Int32 → Int32 → Int32 → Int32 → Int32 → Int32 → PH → Option (Int32 × PH)} (hk9 : ∀ (a0 : Nat) (a1 : Nat) (i2 : Int32) (i3 : Int32) (i4 : Int32) (i5 : Int32) (i6 : Int32) (i7 : Int32) (hh : PH), k9 a0 a1 i2 i3 i4 i5 i6 i7 hh = some (r, h9) → Go l E m_Mo_locks (rm d 0 0) (KM E 0 0 (PoE (some (.int r)) h9 x)) 0 0 hh x 9 [(0, .ref a0), (1, .ref a1), (2, .int i2), (3, .int i3), (4, .int i4), (5, .int i5), (6, .int i6), (7, .int i7)] []) (a0 : Nat) (a1 : Nat) (i2 : Int32) (i3 : Int32) (i4 : Int32) (i6 : Int32) (i7 : Int32) (i8 : Int32) (s0 : Int32) (s1 : Int32) (h : PH) (hf : b_Mo_locks_43 F k9 a0 a1 i2 i3 i4 i6 i7 i8 s0 s1 h = some (r, h9)) : Go l E m_Mo_locks (rm d 0 0) (KM E 0 0 (PoE (some (.int r)) h9 x)) 0 0 h x 43 [(0, .ref a0), (1, .ref a1), (2, .int i2), (3, .int i3), (4, .int i4), (6, .int i6), (7, .int i7), (8, .int i8)] [.int s0, .int s1] := by
  unfold b_Mo_locks_43 at hf
  refine go_iadd d_Mo_locks_43 ?_
  refine go_istore (lv' := [(5, .int (s1 + s0)), (0, .ref a0), (1, .ref a1), (2, .int i2), (3, .int i3), (4, .int i4), (6, .int i6), (7, .int i7), (8, .int i8)]) d_Mo_locks_44 rfl (by decide) ?_
  refine go_iload 6 d_Mo_locks_46 rfl ?_
  refine go_if_eq 76 d_Mo_locks_48 (by decide) (fun q6 => ?_) (fun q6 => ?_)
  · rw [if_pos q6] at hf
    refine go_sub (lv' := [(0, .ref a0), (1, .ref a1), (2, .int i2), (3, .int i3), (4, .int i4), (5, .int (s1 + s0)), (7, .int i7)]) [1, 2, 3, 4, 5, 0, 7] rfl ?_
    exact g_Mo_locks_76 hd hk9 a0 a1 i2 i3 i4 (s1 + s0) i7 h hf
  · rw [if_neg q6] at hf
    refine go_aload_n 2 d_Mo_locks_51 rfl ?_
    refine go_iload 8 d_Mo_locks_52 rfl ?_
    obtain ⟨x1, e_x1, hf⟩ := bnd_x hf
    refine go_iaload d_Mo_locks_54 e_x1 ?_
    refine go_iload 5 d_Mo_locks_55 rfl ?_
    obtain ⟨x2, e_x2, hf⟩ := bnd_x hf
    refine go_callS_I (As := [.int x1, .int i4]) (st := []) (c_Mo_has (d := d - 1) (by omega) e_x2) lk_Mo_66 rfl rfl (rm_ok (by omega)) (Nat.le_of_ble_eq_true rfl) rm_c d_Mo_locks_57 ?_
    refine go_if_eq 72 d_Mo_locks_60 (by decide) (fun q5 => ?_) (fun q5 => ?_)
    · rw [if_pos q5] at hf
      refine go_sub (lv' := [(0, .ref a0), (1, .ref a1), (2, .int i2), (3, .int i3), (4, .int i4), (5, .int (s1 + s0)), (7, .int i7)]) [1, 2, 3, 4, 5, 0, 7] rfl ?_
      exact g_Mo_locks_72 hd hk9 a0 a1 i2 i3 i4 (s1 + s0) i7 h hf
    · rw [if_neg q5] at hf
      refine go_iload_n 4 d_Mo_locks_63 rfl ?_
      refine go_iload 8 d_Mo_locks_64 rfl ?_
      obtain ⟨x3, e_x3, hf⟩ := bnd_x hf
      refine go_callS_I (As := [.int i3, .int i8]) (st := []) (c_Mo_isIn (d := d - 1) (by omega) e_x3) lk_Mo_141 rfl rfl (rm_ok (by omega)) (Nat.le_of_ble_eq_true rfl) rm_c d_Mo_locks_66 ?_
      refine go_if_eq 76 d_Mo_locks_69 (by decide) (fun q4 => ?_) (fun q4 => ?_)
      · rw [if_pos q4] at hf
        refine go_sub (lv' := [(0, .ref a0), (1, .ref a1), (2, .int i2), (3, .int i3), (4, .int i4), (5, .int (s1 + s0)), (7, .int i7)]) [1, 2, 3, 4, 5, 0, 7] rfl ?_
        exact g_Mo_locks_76 hd hk9 a0 a1 i2 i3 i4 (s1 + s0) i7 h hf
      · rw [if_neg q4] at hf
        refine go_sub (lv' := [(0, .ref a0), (1, .ref a1), (2, .int i2), (3, .int i3), (4, .int i4), (5, .int (s1 + s0)), (7, .int i7)]) [1, 2, 3, 4, 5, 0, 7] rfl ?_
        exact g_Mo_locks_72 hd hk9 a0 a1 i2 i3 i4 (s1 + s0) i7 h hf
def b_Mo_locks_133 (F : Nat) (k88 : Nat → Nat → Int32 → Int32 → Int32 → Int32 → Int32 → Int32 → PH → Option (Int32 × PH)) (a0 : Nat) (a1 : Nat) (i2 : Int32) (i3 : Int32) (i4 : Int32) (i5 : Int32) (i6 : Int32) (i7 : Int32) (h : PH) : Option (Int32 × PH) :=
  k88 a0 a1 i2 i3 i4 i5 i6 (i7 + (1 : Int32)) h
theorem g_Mo_locks_133 {l : Launch} {E : ET} {d : Nat} (hd : 3 ≤ d) {F : Nat} {r : Int32} {h9 : PH} {x : Nat} {k88 : Nat → Nat → Int32 → Int32 → Int32 → Int32 → Int32 → Int32 → PH → Option (Int32 × PH)} (hk88 : ∀ (a0 : Nat) (a1 : Nat) (i2 : Int32) (i3 : Int32) (i4 : Int32) (i5 : Int32) (i6 : Int32) (i7 : Int32) (hh : PH), k88 a0 a1 i2 i3 i4 i5 i6 i7 hh = some (r, h9) → Go l E m_Mo_locks (rm d 0 0) (KM E 0 0 (PoE (some (.int r)) h9 x)) 0 0 hh x 88 [(0, .ref a0), (1, .ref a1), (2, .int i2), (3, .int i3), (4, .int i4), (5, .int i5), (6, .int i6), (7, .int i7)] []) (a0 : Nat) (a1 : Nat) (i2 : Int32) (i3 : Int32) (i4 : Int32) (i5 : Int32) (i6 : Int32) (i7 : Int32) (h : PH) (hf : b_Mo_locks_133 F k88 a0 a1 i2 i3 i4 i5 i6 i7 h = some (r, h9)) : Go l E m_Mo_locks (rm d 0 0) (KM E 0 0 (PoE (some (.int r)) h9 x)) 0 0 h x 133 [(0, .ref a0), (1, .ref a1), (2, .int i2), (3, .int i3), (4, .int i4), (5, .int i5), (6, .int i6), (7, .int i7)] [] := by
  unfold b_Mo_locks_133 at hf
  refine go_iinc (lv' := [(7, .int (i7 + (1 : Int32))), (0, .ref a0), (1, .ref a1), (2, .int i2), (3, .int i3), (4, .int i4), (5, .int i5), (6, .int i6)]) 7 (i7 + (1 : Int32)) d_Mo_locks_133 rfl rfl rfl (by decide) ?_
  refine go_goto 88 d_Mo_locks_136 (by decide) ?_
  refine go_sub (lv' := [(0, .ref a0), (1, .ref a1), (2, .int i2), (3, .int i3), (4, .int i4), (5, .int i5), (6, .int i6), (7, .int (i7 + (1 : Int32)))]) [1, 2, 3, 4, 5, 6, 7, 0] rfl ?_
  exact hk88 a0 a1 i2 i3 i4 i5 i6 (i7 + (1 : Int32)) h hf
def b_Mo_locks_139 (F : Nat) (a0 : Nat) (h : PH) : Option (Int32 × PH) :=
  bnd (gI h a0 10 8) fun x1 => (if x1 ≤ (0 : Int32) then some ((0 : Int32), h) else some ((1 : Int32), h))
theorem g_Mo_locks_139 {l : Launch} {E : ET} {d : Nat} (hd : 3 ≤ d) {F : Nat} {r : Int32} {h9 : PH} {x : Nat}  (a0 : Nat) (h : PH) (hf : b_Mo_locks_139 F a0 h = some (r, h9)) : Go l E m_Mo_locks (rm d 0 0) (KM E 0 0 (PoE (some (.int r)) h9 x)) 0 0 h x 139 [(0, .ref a0)] [] := by
  unfold b_Mo_locks_139 at hf
  refine go_aload_n 0 d_Mo_locks_139 rfl ?_
  obtain ⟨x1, e_x1, hf⟩ := bnd_x hf
  refine go_get d_Mo_locks_140 (gI_x e_x1) fl_Mo_95 ?_
  refine go_if_le 150 d_Mo_locks_143 (by decide) (fun q2 => ?_) (fun q2 => ?_)
  · rw [if_pos q2] at hf
    refine go_iconst (0 : Int32) d_Mo_locks_150 (by decide) ?_
    obtain ⟨e8, e9⟩ := Prod.mk.inj (Option.some.inj hf)
    subst e8; subst e9
    exact go_zret d_Mo_locks_151 rfl rfl ⟨rfl, rfl, rfl⟩
  · rw [if_neg q2] at hf
    refine go_iconst (1 : Int32) d_Mo_locks_146 (by decide) ?_
    refine go_goto 151 d_Mo_locks_147 (by decide) ?_
    obtain ⟨e8, e9⟩ := Prod.mk.inj (Option.some.inj hf)
    subst e8; subst e9
    exact go_zret d_Mo_locks_151 rfl rfl ⟨rfl, rfl, rfl⟩
def b_Mo_locks_88 (F : Nat) (k88 : Nat → Nat → Int32 → Int32 → Int32 → Int32 → Int32 → Int32 → PH → Option (Int32 × PH)) (a0 : Nat) (a1 : Nat) (i2 : Int32) (i3 : Int32) (i4 : Int32) (i5 : Int32) (i6 : Int32) (i7 : Int32) (h : PH) : Option (Int32 × PH) :=
  (if (6 : Int32) ≤ i7 then b_Mo_locks_139 F a0 h else (if i5 ≤ (0 : Int32) then b_Mo_locks_139 F a0 h else (if i6 = (0 : Int32) then b_Mo_locks_139 F a0 h else bnd (f_Mo_cellIn i3 i7) fun x1 => bnd (f_Mo_isIn i2 x1) fun x2 => (if x2 = (0 : Int32) then bnd (cK h a0 10) fun _ => bnd (f_Mo_takes F a0 a1 x1 ((1 : Int32) <<< (i4 &&& 31)) h) fun h4 => b_Mo_locks_133 F k88 a0 a1 i2 i3 i4 i5 i6 i7 h4 else b_Mo_locks_133 F k88 a0 a1 i2 i3 i4 i5 i6 i7 h))))
def f_Mo_locks_88 (F : Nat) : Nat → Nat → Nat → Int32 → Int32 → Int32 → Int32 → Int32 → Int32 → PH → Option (Int32 × PH)
  | 0 => fun _ _ _ _ _ _ _ _ _ => none
  | n + 1 => b_Mo_locks_88 F (f_Mo_locks_88 F n)
theorem g_Mo_locks_88 {l : Launch} {E : ET} {d : Nat} (hd : 3 ≤ d) {F : Nat} {r : Int32} {h9 : PH} {x : Nat} {k88 : Nat → Nat → Int32 → Int32 → Int32 → Int32 → Int32 → Int32 → PH → Option (Int32 × PH)} (hk88 : ∀ (a0 : Nat) (a1 : Nat) (i2 : Int32) (i3 : Int32) (i4 : Int32) (i5 : Int32) (i6 : Int32) (i7 : Int32) (hh : PH), k88 a0 a1 i2 i3 i4 i5 i6 i7 hh = some (r, h9) → Go l E m_Mo_locks (rm d 0 0) (KM E 0 0 (PoE (some (.int r)) h9 x)) 0 0 hh x 88 [(0, .ref a0), (1, .ref a1), (2, .int i2), (3, .int i3), (4, .int i4), (5, .int i5), (6, .int i6), (7, .int i7)] []) (a0 : Nat) (a1 : Nat) (i2 : Int32) (i3 : Int32) (i4 : Int32) (i5 : Int32) (i6 : Int32) (i7 : Int32) (h : PH) (hf : b_Mo_locks_88 F k88 a0 a1 i2 i3 i4 i5 i6 i7 h = some (r, h9)) : Go l E m_Mo_locks (rm d 0 0) (KM E 0 0 (PoE (some (.int r)) h9 x)) 0 0 h x 88 [(0, .ref a0), (1, .ref a1), (2, .int i2), (3, .int i3), (4, .int i4), (5, .int i5), (6, .int i6), (7, .int i7)] [] := by
  unfold b_Mo_locks_88 at hf
  refine go_iload 7 d_Mo_locks_88 rfl ?_
  refine go_bipush (6 : Int32) d_Mo_locks_90 (by decide) ?_
  refine go_icmp_ge 139 d_Mo_locks_92 (by decide) (fun q8 => ?_) (fun q8 => ?_)
  · rw [if_pos q8] at hf
    refine go_sub (lv' := [(0, .ref a0)]) [0] rfl ?_
    exact g_Mo_locks_139 hd  a0 h hf
  · rw [if_neg q8] at hf
    refine go_iload 5 d_Mo_locks_95 rfl ?_
    refine go_if_le 139 d_Mo_locks_97 (by decide) (fun q7 => ?_) (fun q7 => ?_)
    · rw [if_pos q7] at hf
      refine go_sub (lv' := [(0, .ref a0)]) [0] rfl ?_
      exact g_Mo_locks_139 hd  a0 h hf
    · rw [if_neg q7] at hf
      refine go_iload 6 d_Mo_locks_100 rfl ?_
      refine go_if_eq 139 d_Mo_locks_102 (by decide) (fun q6 => ?_) (fun q6 => ?_)
      · rw [if_pos q6] at hf
        refine go_sub (lv' := [(0, .ref a0)]) [0] rfl ?_
        exact g_Mo_locks_139 hd  a0 h hf
      · rw [if_neg q6] at hf
        refine go_iload_n 3 d_Mo_locks_105 rfl ?_
        refine go_iload 7 d_Mo_locks_106 rfl ?_
        obtain ⟨x1, e_x1, hf⟩ := bnd_x hf
        refine go_callS_I (As := [.int i3, .int i7]) (st := []) (c_Mo_cellIn (d := d - 1) (by omega) e_x1) lk_Mo_111 rfl rfl (rm_ok (by omega)) (Nat.le_of_ble_eq_true rfl) rm_c d_Mo_locks_108 ?_
        refine go_istore (lv' := [(8, .int x1), (0, .ref a0), (1, .ref a1), (2, .int i2), (3, .int i3), (4, .int i4), (5, .int i5), (6, .int i6), (7, .int i7)]) d_Mo_locks_111 rfl (by decide) ?_
        refine go_iload_n 3 d_Mo_locks_113 rfl ?_
        refine go_iload 0 d_Mo_locks_114 rfl ?_
        obtain ⟨x2, e_x2, hf⟩ := bnd_x hf
        refine go_callS_I (As := [.int i2, .int x1]) (st := []) (c_Mo_isIn (d := d - 1) (by omega) e_x2) lk_Mo_141 rfl rfl (rm_ok (by omega)) (Nat.le_of_ble_eq_true rfl) rm_c d_Mo_locks_116 ?_
        refine go_if_ne 133 d_Mo_locks_119 (by decide) (fun q5 => ?_) (fun q5 => ?_)
        · rw [if_neg q5] at hf
          refine go_sub (lv' := [(0, .ref a0), (1, .ref a1), (2, .int i2), (3, .int i3), (4, .int i4), (5, .int i5), (6, .int i6), (7, .int i7)]) [1, 2, 3, 4, 5, 6, 7, 8] rfl ?_
          exact g_Mo_locks_133 hd hk88 a0 a1 i2 i3 i4 i5 i6 i7 h hf
        · rw [if_pos q5] at hf
          refine go_aload_n 1 d_Mo_locks_122 rfl ?_
          refine go_aload_n 2 d_Mo_locks_123 rfl ?_
          refine go_iload 0 d_Mo_locks_124 rfl ?_
          refine go_iconst (1 : Int32) d_Mo_locks_126 (by decide) ?_
          refine go_iload 5 d_Mo_locks_127 rfl ?_
          refine go_ishl d_Mo_locks_129 ?_
          obtain ⟨_, e3, hf⟩ := bnd_x hf
          obtain ⟨h4, e_x4, hf⟩ := bnd_x hf
          refine go_callV_N (As := [.ref a1, .int x1, .int ((1 : Int32) <<< (i4 &&& 31))]) (st := []) (c_Mo_takes (d := d - 1) (by omega) e_x4) lk_Mo_107 rfl rfl e3 (by decide) rfl (rm_ok (by omega)) (Nat.le_of_ble_eq_true rfl) rm_c d_Mo_locks_130 ?_
          refine go_sub (lv' := [(0, .ref a0), (1, .ref a1), (2, .int i2), (3, .int i3), (4, .int i4), (5, .int i5), (6, .int i6), (7, .int i7)]) [1, 2, 3, 4, 5, 6, 7, 8] rfl ?_
          exact g_Mo_locks_133 hd hk88 a0 a1 i2 i3 i4 i5 i6 i7 h4 hf
theorem t_Mo_locks_88 {l : Launch} {E : ET} {d : Nat} (hd : 3 ≤ d) {F : Nat} {r : Int32} {h9 : PH} {x : Nat}  : ∀ (n : Nat) (a0 : Nat) (a1 : Nat) (i2 : Int32) (i3 : Int32) (i4 : Int32) (i5 : Int32) (i6 : Int32) (i7 : Int32) (hh : PH), f_Mo_locks_88 F n a0 a1 i2 i3 i4 i5 i6 i7 hh = some (r, h9) → Go l E m_Mo_locks (rm d 0 0) (KM E 0 0 (PoE (some (.int r)) h9 x)) 0 0 hh x 88 [(0, .ref a0), (1, .ref a1), (2, .int i2), (3, .int i3), (4, .int i4), (5, .int i5), (6, .int i6), (7, .int i7)] [] := by
  intro n
  induction n with
  | zero => intro v0 v1 v2 v3 v4 v5 v6 v7 v8 hf; cases hf
  | succ n ih => intro v0 v1 v2 v3 v4 v5 v6 v7 v8 hf; exact g_Mo_locks_88 hd ih v0 v1 v2 v3 v4 v5 v6 v7 v8 hf
def b_Mo_locks_9 (F : Nat) (k9 : Nat → Nat → Int32 → Int32 → Int32 → Int32 → Int32 → Int32 → PH → Option (Int32 × PH)) (a0 : Nat) (a1 : Nat) (i2 : Int32) (i3 : Int32) (i4 : Int32) (i5 : Int32) (i6 : Int32) (i7 : Int32) (h : PH) : Option (Int32 × PH) :=
  (if (6 : Int32) ≤ i7 then f_Mo_locks_88 F F a0 a1 i2 i3 i4 i5 i6 (0 : Int32) h else bnd (f_Mo_cellIn i2 i7) fun x1 => bnd (aI h a1 x1) fun x2 => bnd (f_Mo_has x2 i4) fun x3 => (if x3 = (0 : Int32) then b_Mo_locks_43 F k9 a0 a1 i2 i3 i4 i6 i7 x1 (0 : Int32) i5 h else b_Mo_locks_43 F k9 a0 a1 i2 i3 i4 i6 i7 x1 (1 : Int32) i5 h))
def f_Mo_locks_9 (F : Nat) : Nat → Nat → Nat → Int32 → Int32 → Int32 → Int32 → Int32 → Int32 → PH → Option (Int32 × PH)
  | 0 => fun _ _ _ _ _ _ _ _ _ => none
  | n + 1 => b_Mo_locks_9 F (f_Mo_locks_9 F n)
theorem g_Mo_locks_9 {l : Launch} {E : ET} {d : Nat} (hd : 3 ≤ d) {F : Nat} {r : Int32} {h9 : PH} {x : Nat} {k9 : Nat → Nat → Int32 → Int32 → Int32 → Int32 → Int32 → Int32 → PH → Option (Int32 × PH)} (hk9 : ∀ (a0 : Nat) (a1 : Nat) (i2 : Int32) (i3 : Int32) (i4 : Int32) (i5 : Int32) (i6 : Int32) (i7 : Int32) (hh : PH), k9 a0 a1 i2 i3 i4 i5 i6 i7 hh = some (r, h9) → Go l E m_Mo_locks (rm d 0 0) (KM E 0 0 (PoE (some (.int r)) h9 x)) 0 0 hh x 9 [(0, .ref a0), (1, .ref a1), (2, .int i2), (3, .int i3), (4, .int i4), (5, .int i5), (6, .int i6), (7, .int i7)] []) (a0 : Nat) (a1 : Nat) (i2 : Int32) (i3 : Int32) (i4 : Int32) (i5 : Int32) (i6 : Int32) (i7 : Int32) (h : PH) (hf : b_Mo_locks_9 F k9 a0 a1 i2 i3 i4 i5 i6 i7 h = some (r, h9)) : Go l E m_Mo_locks (rm d 0 0) (KM E 0 0 (PoE (some (.int r)) h9 x)) 0 0 h x 9 [(0, .ref a0), (1, .ref a1), (2, .int i2), (3, .int i3), (4, .int i4), (5, .int i5), (6, .int i6), (7, .int i7)] [] := by
  unfold b_Mo_locks_9 at hf
  refine go_iload 7 d_Mo_locks_9 rfl ?_
  refine go_bipush (6 : Int32) d_Mo_locks_11 (by decide) ?_
  refine go_icmp_ge 85 d_Mo_locks_13 (by decide) (fun q5 => ?_) (fun q5 => ?_)
  · rw [if_pos q5] at hf
    refine go_iconst (0 : Int32) d_Mo_locks_85 (by decide) ?_
    refine go_istore (lv' := [(7, .int (0 : Int32)), (0, .ref a0), (1, .ref a1), (2, .int i2), (3, .int i3), (4, .int i4), (5, .int i5), (6, .int i6)]) d_Mo_locks_86 rfl (by decide) ?_
    refine go_sub (lv' := [(0, .ref a0), (1, .ref a1), (2, .int i2), (3, .int i3), (4, .int i4), (5, .int i5), (6, .int i6), (7, .int (0 : Int32))]) [1, 2, 3, 4, 5, 6, 7, 0] rfl ?_
    exact t_Mo_locks_88 hd  _ a0 a1 i2 i3 i4 i5 i6 (0 : Int32) h hf
  · rw [if_neg q5] at hf
    refine go_iload_n 2 d_Mo_locks_16 rfl ?_
    refine go_iload 7 d_Mo_locks_17 rfl ?_
    obtain ⟨x1, e_x1, hf⟩ := bnd_x hf
    refine go_callS_I (As := [.int i2, .int i7]) (st := []) (c_Mo_cellIn (d := d - 1) (by omega) e_x1) lk_Mo_111 rfl rfl (rm_ok (by omega)) (Nat.le_of_ble_eq_true rfl) rm_c d_Mo_locks_19 ?_
    refine go_istore (lv' := [(8, .int x1), (0, .ref a0), (1, .ref a1), (2, .int i2), (3, .int i3), (4, .int i4), (5, .int i5), (6, .int i6), (7, .int i7)]) d_Mo_locks_22 rfl (by decide) ?_
    refine go_iload 6 d_Mo_locks_24 rfl ?_
    refine go_aload_n 2 d_Mo_locks_26 rfl ?_
    refine go_iload 0 d_Mo_locks_27 rfl ?_
    obtain ⟨x2, e_x2, hf⟩ := bnd_x hf
    refine go_iaload d_Mo_locks_29 e_x2 ?_
    refine go_iload 5 d_Mo_locks_30 rfl ?_
    obtain ⟨x3, e_x3, hf⟩ := bnd_x hf
    refine go_callS_I (As := [.int x2, .int i4]) (st := [.int i5]) (c_Mo_has (d := d - 1) (by omega) e_x3) lk_Mo_66 rfl rfl (rm_ok (by omega)) (Nat.le_of_ble_eq_true rfl) rm_c d_Mo_locks_32 ?_
    refine go_if_eq 42 d_Mo_locks_35 (by decide) (fun q4 => ?_) (fun q4 => ?_)
    · rw [if_pos q4] at hf
      refine go_iconst (0 : Int32) d_Mo_locks_42 (by decide) ?_
      refine go_sub (lv' := [(0, .ref a0), (1, .ref a1), (2, .int i2), (3, .int i3), (4, .int i4), (6, .int i6), (7, .int i7), (8, .int x1)]) [1, 2, 3, 4, 5, 7, 8, 0] rfl ?_
      exact g_Mo_locks_43 hd hk9 a0 a1 i2 i3 i4 i6 i7 x1 (0 : Int32) i5 h hf
    · rw [if_neg q4] at hf
      refine go_iconst (1 : Int32) d_Mo_locks_38 (by decide) ?_
      refine go_goto 43 d_Mo_locks_39 (by decide) ?_
      refine go_sub (lv' := [(0, .ref a0), (1, .ref a1), (2, .int i2), (3, .int i3), (4, .int i4), (6, .int i6), (7, .int i7), (8, .int x1)]) [1, 2, 3, 4, 5, 7, 8, 0] rfl ?_
      exact g_Mo_locks_43 hd hk9 a0 a1 i2 i3 i4 i6 i7 x1 (1 : Int32) i5 h hf
theorem t_Mo_locks_9 {l : Launch} {E : ET} {d : Nat} (hd : 3 ≤ d) {F : Nat} {r : Int32} {h9 : PH} {x : Nat}  : ∀ (n : Nat) (a0 : Nat) (a1 : Nat) (i2 : Int32) (i3 : Int32) (i4 : Int32) (i5 : Int32) (i6 : Int32) (i7 : Int32) (hh : PH), f_Mo_locks_9 F n a0 a1 i2 i3 i4 i5 i6 i7 hh = some (r, h9) → Go l E m_Mo_locks (rm d 0 0) (KM E 0 0 (PoE (some (.int r)) h9 x)) 0 0 hh x 9 [(0, .ref a0), (1, .ref a1), (2, .int i2), (3, .int i3), (4, .int i4), (5, .int i5), (6, .int i6), (7, .int i7)] [] := by
  intro n
  induction n with
  | zero => intro v0 v1 v2 v3 v4 v5 v6 v7 v8 hf; cases hf
  | succ n ih => intro v0 v1 v2 v3 v4 v5 v6 v7 v8 hf; exact g_Mo_locks_9 hd ih v0 v1 v2 v3 v4 v5 v6 v7 v8 hf
def f_Mo_locks (F : Nat) (a0 : Nat) (a1 : Nat) (i2 : Int32) (i3 : Int32) (i4 : Int32) (h : PH) : Option (Int32 × PH) :=
  f_Mo_locks_9 F F a0 a1 i2 i3 i4 (0 : Int32) (1 : Int32) (0 : Int32) h
theorem g_Mo_locks_0 {l : Launch} {E : ET} {d : Nat} (hd : 3 ≤ d) {F : Nat} {r : Int32} {h9 : PH} {x : Nat}  (a0 : Nat) (a1 : Nat) (i2 : Int32) (i3 : Int32) (i4 : Int32) (h : PH) (hf : f_Mo_locks F a0 a1 i2 i3 i4 h = some (r, h9)) : Go l E m_Mo_locks (rm d 0 0) (KM E 0 0 (PoE (some (.int r)) h9 x)) 0 0 h x 0 [(0, .ref a0), (1, .ref a1), (2, .int i2), (3, .int i3), (4, .int i4)] [] := by
  unfold f_Mo_locks at hf
  refine go_iconst (0 : Int32) d_Mo_locks_0 (by decide) ?_
  refine go_istore (lv' := [(5, .int (0 : Int32)), (0, .ref a0), (1, .ref a1), (2, .int i2), (3, .int i3), (4, .int i4)]) d_Mo_locks_1 rfl (by decide) ?_
  refine go_iconst (1 : Int32) d_Mo_locks_3 (by decide) ?_
  refine go_istore (lv' := [(6, .int (1 : Int32)), (5, .int (0 : Int32)), (0, .ref a0), (1, .ref a1), (2, .int i2), (3, .int i3), (4, .int i4)]) d_Mo_locks_4 rfl (by decide) ?_
  refine go_iconst (0 : Int32) d_Mo_locks_6 (by decide) ?_
  refine go_istore (lv' := [(7, .int (0 : Int32)), (6, .int (1 : Int32)), (5, .int (0 : Int32)), (0, .ref a0), (1, .ref a1), (2, .int i2), (3, .int i3), (4, .int i4)]) d_Mo_locks_7 rfl (by decide) ?_
  refine go_sub (lv' := [(0, .ref a0), (1, .ref a1), (2, .int i2), (3, .int i3), (4, .int i4), (5, .int (0 : Int32)), (6, .int (1 : Int32)), (7, .int (0 : Int32))]) [3, 4, 5, 6, 7, 2, 1, 0] rfl ?_
  exact t_Mo_locks_9 hd  _ a0 a1 i2 i3 i4 (0 : Int32) (1 : Int32) (0 : Int32) h hf
theorem c_Mo_locks {l : Launch} {E : ET} {d : Nat} (hd : 3 ≤ d) {F : Nat} {r : Int32} {h9 : PH} {x : Nat} {a0 : Nat} {a1 : Nat} {i2 : Int32} {i3 : Int32} {i4 : Int32} {h : PH} (hf : f_Mo_locks F a0 a1 i2 i3 i4 h = some (r, h9)) : Fn l E m_Mo_locks d 0 0 [.ref a0, .ref a1, .int i2, .int i3, .int i4] h x (PoE (some (.int r)) h9 x) :=
  Fn.of (by decide +kernel) (Nat.le_of_ble_eq_true rfl) (g_Mo_locks_0 hd a0 a1 i2 i3 i4 h hf)
theorem d_Mo_doMeet_0 : decode prog_13_method_34_code 0 = .ok (.iconst 0, 1) := by decide +kernel
theorem d_Mo_doMeet_1 : decode prog_13_method_34_code 1 = .ok (.istore_n 2, 1) := by decide +kernel
theorem d_Mo_doMeet_2 : decode prog_13_method_34_code 2 = .ok (.iconst 0, 1) := by decide +kernel
theorem d_Mo_doMeet_3 : decode prog_13_method_34_code 3 = .ok (.istore_n 3, 1) := by decide +kernel
theorem d_Mo_doMeet_4 : decode prog_13_method_34_code 4 = .ok (.iload_n 3, 1) := by decide +kernel
theorem d_Mo_doMeet_5 : decode prog_13_method_34_code 5 = .ok (.bipush 6, 2) := by decide +kernel
theorem d_Mo_doMeet_7 : decode prog_13_method_34_code 7 = .ok (.if_icmp .ge 34, 3) := by decide +kernel
theorem d_Mo_doMeet_10 : decode prog_13_method_34_code 10 = .ok (.iload_n 2, 1) := by decide +kernel
theorem d_Mo_doMeet_11 : decode prog_13_method_34_code 11 = .ok (.ifCond .ne 18, 3) := by decide +kernel
theorem d_Mo_doMeet_14 : decode prog_13_method_34_code 14 = .ok (.iload_n 1, 1) := by decide +kernel
theorem d_Mo_doMeet_15 : decode prog_13_method_34_code 15 = .ok (.bipush 12, 2) := by decide +kernel
theorem d_Mo_doMeet_17 : decode prog_13_method_34_code 17 = .ok (.iload_n 0, 1) := by decide +kernel
theorem d_Mo_doMeet_18 : decode prog_13_method_34_code 18 = .ok (.iadd, 1) := by decide +kernel
theorem d_Mo_doMeet_19 : decode prog_13_method_34_code 19 = .ok (.iload_n 3, 1) := by decide +kernel
theorem d_Mo_doMeet_20 : decode prog_13_method_34_code 20 = .ok (.invokestatic 111, 3) := by decide +kernel
theorem d_Mo_doMeet_23 : decode prog_13_method_34_code 23 = .ok (.invokestatic 141, 3) := by decide +kernel
theorem d_Mo_doMeet_26 : decode prog_13_method_34_code 26 = .ok (.ifCond .eq 7, 3) := by decide +kernel
theorem d_Mo_doMeet_29 : decode prog_13_method_34_code 29 = .ok (.iconst 1, 1) := by decide +kernel
theorem d_Mo_doMeet_30 : decode prog_13_method_34_code 30 = .ok (.goto 4, 3) := by decide +kernel
theorem d_Mo_doMeet_33 : decode prog_13_method_34_code 33 = .ok (.iconst 0, 1) := by decide +kernel
theorem d_Mo_doMeet_34 : decode prog_13_method_34_code 34 = .ok (.istore_n 2, 1) := by decide +kernel
theorem d_Mo_doMeet_35 : decode prog_13_method_34_code 35 = .ok (.iinc 3 1, 3) := by decide +kernel
theorem d_Mo_doMeet_38 : decode prog_13_method_34_code 38 = .ok (.goto (-34), 3) := by decide +kernel
theorem d_Mo_doMeet_41 : decode prog_13_method_34_code 41 = .ok (.iload_n 2, 1) := by decide +kernel
theorem d_Mo_doMeet_42 : decode prog_13_method_34_code 42 = .ok (.ireturn, 1) := by decide +kernel
def b_Mo_doMeet_34 (F : Nat) (k4 : Int32 → Int32 → Int32 → Int32 → Option Int32) (i0 : Int32) (i1 : Int32) (i3 : Int32) (s0 : Int32) : Option Int32 :=
  k4 i0 i1 s0 (i3 + (1 : Int32))
theorem g_Mo_doMeet_34 {l : Launch} {E : ET} {d : Nat} (hd : 3 ≤ d) {F : Nat} {r : Int32} {h : PH} {x : Nat} {k4 : Int32 → Int32 → Int32 → Int32 → Option Int32} (hk4 : ∀ (i0 : Int32) (i1 : Int32) (i2 : Int32) (i3 : Int32), k4 i0 i1 i2 i3 = some r → Go l E m_Mo_doMeet (rm d 0 0) (KM E 0 0 (PoE (some (.int r)) h x)) 0 0 h x 4 [(0, .int i0), (1, .int i1), (2, .int i2), (3, .int i3)] []) (i0 : Int32) (i1 : Int32) (i3 : Int32) (s0 : Int32) (hf : b_Mo_doMeet_34 F k4 i0 i1 i3 s0 = some r) : Go l E m_Mo_doMeet (rm d 0 0) (KM E 0 0 (PoE (some (.int r)) h x)) 0 0 h x 34 [(0, .int i0), (1, .int i1), (3, .int i3)] [.int s0] := by
  unfold b_Mo_doMeet_34 at hf
  refine go_istore_n (lv' := [(2, .int s0), (0, .int i0), (1, .int i1), (3, .int i3)]) d_Mo_doMeet_34 rfl (by decide) ?_
  refine go_iinc (lv' := [(3, .int (i3 + (1 : Int32))), (2, .int s0), (0, .int i0), (1, .int i1)]) 3 (i3 + (1 : Int32)) d_Mo_doMeet_35 rfl rfl rfl (by decide) ?_
  refine go_goto 4 d_Mo_doMeet_38 (by decide) ?_
  refine go_sub (lv' := [(0, .int i0), (1, .int i1), (2, .int s0), (3, .int (i3 + (1 : Int32)))]) [2, 3, 1, 0] rfl ?_
  exact hk4 i0 i1 s0 (i3 + (1 : Int32)) hf
def b_Mo_doMeet_29 (F : Nat) (k4 : Int32 → Int32 → Int32 → Int32 → Option Int32) (i0 : Int32) (i1 : Int32) (i3 : Int32) : Option Int32 :=
  b_Mo_doMeet_34 F k4 i0 i1 i3 (1 : Int32)
theorem g_Mo_doMeet_29 {l : Launch} {E : ET} {d : Nat} (hd : 3 ≤ d) {F : Nat} {r : Int32} {h : PH} {x : Nat} {k4 : Int32 → Int32 → Int32 → Int32 → Option Int32} (hk4 : ∀ (i0 : Int32) (i1 : Int32) (i2 : Int32) (i3 : Int32), k4 i0 i1 i2 i3 = some r → Go l E m_Mo_doMeet (rm d 0 0) (KM E 0 0 (PoE (some (.int r)) h x)) 0 0 h x 4 [(0, .int i0), (1, .int i1), (2, .int i2), (3, .int i3)] []) (i0 : Int32) (i1 : Int32) (i3 : Int32) (hf : b_Mo_doMeet_29 F k4 i0 i1 i3 = some r) : Go l E m_Mo_doMeet (rm d 0 0) (KM E 0 0 (PoE (some (.int r)) h x)) 0 0 h x 29 [(0, .int i0), (1, .int i1), (3, .int i3)] [] := by
  unfold b_Mo_doMeet_29 at hf
  refine go_iconst (1 : Int32) d_Mo_doMeet_29 (by decide) ?_
  refine go_goto 34 d_Mo_doMeet_30 (by decide) ?_
  refine go_sub (lv' := [(0, .int i0), (1, .int i1), (3, .int i3)]) [0, 1, 2] rfl ?_
  exact g_Mo_doMeet_34 hd hk4 i0 i1 i3 (1 : Int32)  hf
def b_Mo_doMeet_4 (F : Nat) (k4 : Int32 → Int32 → Int32 → Int32 → Option Int32) (i0 : Int32) (i1 : Int32) (i2 : Int32) (i3 : Int32) : Option Int32 :=
  (if (6 : Int32) ≤ i3 then bnd (cZ i2) fun _ => some i2 else (if i2 = (0 : Int32) then bnd (f_Mo_cellIn ((12 : Int32) + i0) i3) fun x2 => bnd (f_Mo_isIn i1 x2) fun x3 => (if x3 = (0 : Int32) then b_Mo_doMeet_34 F k4 i0 i1 i3 (0 : Int32) else b_Mo_doMeet_29 F k4 i0 i1 i3) else b_Mo_doMeet_29 F k4 i0 i1 i3))
def f_Mo_doMeet_4 (F : Nat) : Nat → Int32 → Int32 → Int32 → Int32 → Option Int32
  | 0 => fun _ _ _ _ => none
  | n + 1 => b_Mo_doMeet_4 F (f_Mo_doMeet_4 F n)
theorem g_Mo_doMeet_4 {l : Launch} {E : ET} {d : Nat} (hd : 3 ≤ d) {F : Nat} {r : Int32} {h : PH} {x : Nat} {k4 : Int32 → Int32 → Int32 → Int32 → Option Int32} (hk4 : ∀ (i0 : Int32) (i1 : Int32) (i2 : Int32) (i3 : Int32), k4 i0 i1 i2 i3 = some r → Go l E m_Mo_doMeet (rm d 0 0) (KM E 0 0 (PoE (some (.int r)) h x)) 0 0 h x 4 [(0, .int i0), (1, .int i1), (2, .int i2), (3, .int i3)] []) (i0 : Int32) (i1 : Int32) (i2 : Int32) (i3 : Int32) (hf : b_Mo_doMeet_4 F k4 i0 i1 i2 i3 = some r) : Go l E m_Mo_doMeet (rm d 0 0) (KM E 0 0 (PoE (some (.int r)) h x)) 0 0 h x 4 [(0, .int i0), (1, .int i1), (2, .int i2), (3, .int i3)] [] := by
  unfold b_Mo_doMeet_4 at hf
  refine go_iload_n 3 d_Mo_doMeet_4 rfl ?_
  refine go_bipush (6 : Int32) d_Mo_doMeet_5 (by decide) ?_
  refine go_icmp_ge 41 d_Mo_doMeet_7 (by decide) (fun q6 => ?_) (fun q6 => ?_)
  · rw [if_pos q6] at hf
    refine go_iload_n 2 d_Mo_doMeet_41 rfl ?_
    obtain ⟨_, e1, hf⟩ := bnd_x hf
    have e9 := Option.some.inj hf
    subst e9
    exact go_zret d_Mo_doMeet_42 e1 rfl ⟨rfl, rfl, rfl⟩
  · rw [if_neg q6] at hf
    refine go_iload_n 2 d_Mo_doMeet_10 rfl ?_
    refine go_if_ne 29 d_Mo_doMeet_11 (by decide) (fun q5 => ?_) (fun q5 => ?_)
    · rw [if_neg q5] at hf
      refine go_sub (lv' := [(0, .int i0), (1, .int i1), (3, .int i3)]) [0, 1, 3] rfl ?_
      exact g_Mo_doMeet_29 hd hk4 i0 i1 i3  hf
    · rw [if_pos q5] at hf
      refine go_iload_n 1 d_Mo_doMeet_14 rfl ?_
      refine go_bipush (12 : Int32) d_Mo_doMeet_15 (by decide) ?_
      refine go_iload_n 0 d_Mo_doMeet_17 rfl ?_
      refine go_iadd d_Mo_doMeet_18 ?_
      refine go_iload_n 3 d_Mo_doMeet_19 rfl ?_
      obtain ⟨x2, e_x2, hf⟩ := bnd_x hf
      refine go_callS_I (As := [.int ((12 : Int32) + i0), .int i3]) (st := [.int i1]) (c_Mo_cellIn (d := d - 1) (by omega) e_x2) lk_Mo_111 rfl rfl (rm_ok (by omega)) (Nat.le_of_ble_eq_true rfl) rm_c d_Mo_doMeet_20 ?_
      obtain ⟨x3, e_x3, hf⟩ := bnd_x hf
      refine go_callS_I (As := [.int i1, .int x2]) (st := []) (c_Mo_isIn (d := d - 1) (by omega) e_x3) lk_Mo_141 rfl rfl (rm_ok (by omega)) (Nat.le_of_ble_eq_true rfl) rm_c d_Mo_doMeet_23 ?_
      refine go_if_eq 33 d_Mo_doMeet_26 (by decide) (fun q4 => ?_) (fun q4 => ?_)
      · rw [if_pos q4] at hf
        refine go_iconst (0 : Int32) d_Mo_doMeet_33 (by decide) ?_
        refine go_sub (lv' := [(0, .int i0), (1, .int i1), (3, .int i3)]) [0, 1, 3] rfl ?_
        exact g_Mo_doMeet_34 hd hk4 i0 i1 i3 (0 : Int32)  hf
      · rw [if_neg q4] at hf
        refine go_sub (lv' := [(0, .int i0), (1, .int i1), (3, .int i3)]) [0, 1, 3] rfl ?_
        exact g_Mo_doMeet_29 hd hk4 i0 i1 i3  hf
theorem t_Mo_doMeet_4 {l : Launch} {E : ET} {d : Nat} (hd : 3 ≤ d) {F : Nat} {r : Int32} {h : PH} {x : Nat}  : ∀ (n : Nat) (i0 : Int32) (i1 : Int32) (i2 : Int32) (i3 : Int32), f_Mo_doMeet_4 F n i0 i1 i2 i3 = some r → Go l E m_Mo_doMeet (rm d 0 0) (KM E 0 0 (PoE (some (.int r)) h x)) 0 0 h x 4 [(0, .int i0), (1, .int i1), (2, .int i2), (3, .int i3)] [] := by
  intro n
  induction n with
  | zero => intro v0 v1 v2 v3 hf; cases hf
  | succ n ih => intro v0 v1 v2 v3 hf; exact g_Mo_doMeet_4 hd ih v0 v1 v2 v3 hf
def f_Mo_doMeet (F : Nat) (i0 : Int32) (i1 : Int32) : Option Int32 :=
  f_Mo_doMeet_4 F F i0 i1 (0 : Int32) (0 : Int32)
theorem g_Mo_doMeet_0 {l : Launch} {E : ET} {d : Nat} (hd : 3 ≤ d) {F : Nat} {r : Int32} {h : PH} {x : Nat}  (i0 : Int32) (i1 : Int32) (hf : f_Mo_doMeet F i0 i1 = some r) : Go l E m_Mo_doMeet (rm d 0 0) (KM E 0 0 (PoE (some (.int r)) h x)) 0 0 h x 0 [(0, .int i0), (1, .int i1)] [] := by
  unfold f_Mo_doMeet at hf
  refine go_iconst (0 : Int32) d_Mo_doMeet_0 (by decide) ?_
  refine go_istore_n (lv' := [(2, .int (0 : Int32)), (0, .int i0), (1, .int i1)]) d_Mo_doMeet_1 rfl (by decide) ?_
  refine go_iconst (0 : Int32) d_Mo_doMeet_2 (by decide) ?_
  refine go_istore_n (lv' := [(3, .int (0 : Int32)), (2, .int (0 : Int32)), (0, .int i0), (1, .int i1)]) d_Mo_doMeet_3 rfl (by decide) ?_
  refine go_sub (lv' := [(0, .int i0), (1, .int i1), (2, .int (0 : Int32)), (3, .int (0 : Int32))]) [2, 3, 1, 0] rfl ?_
  exact t_Mo_doMeet_4 hd  _ i0 i1 (0 : Int32) (0 : Int32)  hf
theorem c_Mo_doMeet {l : Launch} {E : ET} {d : Nat} (hd : 3 ≤ d) {F : Nat} {r : Int32} {h : PH} {x : Nat} {i0 : Int32} {i1 : Int32} (hf : f_Mo_doMeet F i0 i1 = some r) : Fn l E m_Mo_doMeet d 0 0 [.int i0, .int i1] h x (PoE (some (.int r)) h x) :=
  Fn.of (by decide +kernel) (Nat.le_of_ble_eq_true rfl) (g_Mo_doMeet_0 hd i0 i1 hf)
theorem d_Mo_locked_0 : decode prog_13_method_35_code 0 = .ok (.iconst 0, 1) := by decide +kernel
theorem d_Mo_locked_1 : decode prog_13_method_35_code 1 = .ok (.istore_n 2, 1) := by decide +kernel
theorem d_Mo_locked_2 : decode prog_13_method_35_code 2 = .ok (.iload_n 2, 1) := by decide +kernel
theorem d_Mo_locked_3 : decode prog_13_method_35_code 3 = .ok (.bipush 6, 2) := by decide +kernel
theorem d_Mo_locked_5 : decode prog_13_method_35_code 5 = .ok (.if_icmp .ge 84, 3) := by decide +kernel
theorem d_Mo_locked_8 : decode prog_13_method_35_code 8 = .ok (.iconst 0, 1) := by decide +kernel
theorem d_Mo_locked_9 : decode prog_13_method_35_code 9 = .ok (.istore_n 3, 1) := by decide +kernel
theorem d_Mo_locked_10 : decode prog_13_method_35_code 10 = .ok (.iload_n 3, 1) := by decide +kernel
theorem d_Mo_locked_11 : decode prog_13_method_35_code 11 = .ok (.bipush 12, 2) := by decide +kernel
theorem d_Mo_locked_13 : decode prog_13_method_35_code 13 = .ok (.if_icmp .ge 70, 3) := by decide +kernel
theorem d_Mo_locked_16 : decode prog_13_method_35_code 16 = .ok (.iconst 1, 1) := by decide +kernel
theorem d_Mo_locked_17 : decode prog_13_method_35_code 17 = .ok (.istore 4, 2) := by decide +kernel
theorem d_Mo_locked_19 : decode prog_13_method_35_code 19 = .ok (.iload 4, 2) := by decide +kernel
theorem d_Mo_locked_21 : decode prog_13_method_35_code 21 = .ok (.bipush 7, 2) := by decide +kernel
theorem d_Mo_locked_23 : decode prog_13_method_35_code 23 = .ok (.if_icmp .ge 54, 3) := by decide +kernel
theorem d_Mo_locked_26 : decode prog_13_method_35_code 26 = .ok (.iload_n 2, 1) := by decide +kernel
theorem d_Mo_locked_27 : decode prog_13_method_35_code 27 = .ok (.iload_n 3, 1) := by decide +kernel
theorem d_Mo_locked_28 : decode prog_13_method_35_code 28 = .ok (.invokestatic 144, 3) := by decide +kernel
theorem d_Mo_locked_31 : decode prog_13_method_35_code 31 = .ok (.ifCond .eq 46, 3) := by decide +kernel
theorem d_Mo_locked_34 : decode prog_13_method_35_code 34 = .ok (.aload_n 0, 1) := by decide +kernel
theorem d_Mo_locked_35 : decode prog_13_method_35_code 35 = .ok (.aload_n 1, 1) := by decide +kernel
theorem d_Mo_locked_36 : decode prog_13_method_35_code 36 = .ok (.bipush 12, 2) := by decide +kernel
theorem d_Mo_locked_38 : decode prog_13_method_35_code 38 = .ok (.iload_n 2, 1) := by decide +kernel
theorem d_Mo_locked_39 : decode prog_13_method_35_code 39 = .ok (.iadd, 1) := by decide +kernel
theorem d_Mo_locked_40 : decode prog_13_method_35_code 40 = .ok (.iload_n 3, 1) := by decide +kernel
theorem d_Mo_locked_41 : decode prog_13_method_35_code 41 = .ok (.iload 4, 2) := by decide +kernel
theorem d_Mo_locked_43 : decode prog_13_method_35_code 43 = .ok (.invokevirtual 147, 3) := by decide +kernel
theorem d_Mo_locked_46 : decode prog_13_method_35_code 46 = .ok (.ifCond .ne 18, 3) := by decide +kernel
theorem d_Mo_locked_49 : decode prog_13_method_35_code 49 = .ok (.aload_n 0, 1) := by decide +kernel
theorem d_Mo_locked_50 : decode prog_13_method_35_code 50 = .ok (.aload_n 1, 1) := by decide +kernel
theorem d_Mo_locked_51 : decode prog_13_method_35_code 51 = .ok (.iload_n 3, 1) := by decide +kernel
theorem d_Mo_locked_52 : decode prog_13_method_35_code 52 = .ok (.bipush 12, 2) := by decide +kernel
theorem d_Mo_locked_54 : decode prog_13_method_35_code 54 = .ok (.iload_n 2, 1) := by decide +kernel
theorem d_Mo_locked_55 : decode prog_13_method_35_code 55 = .ok (.iadd, 1) := by decide +kernel
theorem d_Mo_locked_56 : decode prog_13_method_35_code 56 = .ok (.iload 4, 2) := by decide +kernel
theorem d_Mo_locked_58 : decode prog_13_method_35_code 58 = .ok (.invokevirtual 147, 3) := by decide +kernel
theorem d_Mo_locked_61 : decode prog_13_method_35_code 61 = .ok (.ifCond .eq 10, 3) := by decide +kernel
theorem d_Mo_locked_64 : decode prog_13_method_35_code 64 = .ok (.aload_n 0, 1) := by decide +kernel
theorem d_Mo_locked_65 : decode prog_13_method_35_code 65 = .ok (.iload_n 2, 1) := by decide +kernel
theorem d_Mo_locked_66 : decode prog_13_method_35_code 66 = .ok (.putfield 101, 3) := by decide +kernel
theorem d_Mo_locked_69 : decode prog_13_method_35_code 69 = .ok (.iconst 1, 1) := by decide +kernel
theorem d_Mo_locked_70 : decode prog_13_method_35_code 70 = .ok (.ireturn, 1) := by decide +kernel
theorem d_Mo_locked_71 : decode prog_13_method_35_code 71 = .ok (.iinc 4 1, 3) := by decide +kernel
theorem d_Mo_locked_74 : decode prog_13_method_35_code 74 = .ok (.goto (-55), 3) := by decide +kernel
theorem d_Mo_locked_77 : decode prog_13_method_35_code 77 = .ok (.iinc 3 1, 3) := by decide +kernel
theorem d_Mo_locked_80 : decode prog_13_method_35_code 80 = .ok (.goto (-70), 3) := by decide +kernel
theorem d_Mo_locked_83 : decode prog_13_method_35_code 83 = .ok (.iinc 2 1, 3) := by decide +kernel
theorem d_Mo_locked_86 : decode prog_13_method_35_code 86 = .ok (.goto (-84), 3) := by decide +kernel
theorem d_Mo_locked_89 : decode prog_13_method_35_code 89 = .ok (.iconst 0, 1) := by decide +kernel
theorem d_Mo_locked_90 : decode prog_13_method_35_code 90 = .ok (.ireturn, 1) := by decide +kernel
def b_Mo_locked_64 (F : Nat) (a0 : Nat) (i2 : Int32) (h : PH) : Option (Int32 × PH) :=
  bnd (pV h a0 10 7 (.int i2)) fun h1 => some ((1 : Int32), h1)
theorem g_Mo_locked_64 {l : Launch} {E : ET} {d : Nat} (hd : 4 ≤ d) {F : Nat} {r : Int32} {h9 : PH} {x : Nat}  (a0 : Nat) (i2 : Int32) (h : PH) (hf : b_Mo_locked_64 F a0 i2 h = some (r, h9)) : Go l E m_Mo_locked (rm d 0 0) (KM E 0 0 (PoE (some (.int r)) h9 x)) 0 0 h x 64 [(0, .ref a0), (2, .int i2)] [] := by
  unfold b_Mo_locked_64 at hf
  refine go_aload_n 0 d_Mo_locked_64 rfl ?_
  refine go_iload_n 1 d_Mo_locked_65 rfl ?_
  obtain ⟨h1, e_h1, hf⟩ := bnd_x hf
  refine go_putI d_Mo_locked_66 e_h1 fl_Mo_101 rfl rfl ?_
  refine go_iconst (1 : Int32) d_Mo_locked_69 (by decide) ?_
  obtain ⟨e8, e9⟩ := Prod.mk.inj (Option.some.inj hf)
  subst e8; subst e9
  exact go_zret d_Mo_locked_70 rfl rfl ⟨rfl, rfl, rfl⟩
def b_Mo_locked_77 (F : Nat) (k10 : Nat → Nat → Int32 → Int32 → PH → Option (Int32 × PH)) (a0 : Nat) (a1 : Nat) (i2 : Int32) (i3 : Int32) (h : PH) : Option (Int32 × PH) :=
  k10 a0 a1 i2 (i3 + (1 : Int32)) h
theorem g_Mo_locked_77 {l : Launch} {E : ET} {d : Nat} (hd : 4 ≤ d) {F : Nat} {r : Int32} {h9 : PH} {x : Nat} {k10 : Nat → Nat → Int32 → Int32 → PH → Option (Int32 × PH)} (hk10 : ∀ (a0 : Nat) (a1 : Nat) (i2 : Int32) (i3 : Int32) (hh : PH), k10 a0 a1 i2 i3 hh = some (r, h9) → Go l E m_Mo_locked (rm d 0 0) (KM E 0 0 (PoE (some (.int r)) h9 x)) 0 0 hh x 10 [(0, .ref a0), (1, .ref a1), (2, .int i2), (3, .int i3)] []) (a0 : Nat) (a1 : Nat) (i2 : Int32) (i3 : Int32) (h : PH) (hf : b_Mo_locked_77 F k10 a0 a1 i2 i3 h = some (r, h9)) : Go l E m_Mo_locked (rm d 0 0) (KM E 0 0 (PoE (some (.int r)) h9 x)) 0 0 h x 77 [(0, .ref a0), (1, .ref a1), (2, .int i2), (3, .int i3)] [] := by
  unfold b_Mo_locked_77 at hf
  refine go_iinc (lv' := [(3, .int (i3 + (1 : Int32))), (0, .ref a0), (1, .ref a1), (2, .int i2)]) 3 (i3 + (1 : Int32)) d_Mo_locked_77 rfl rfl rfl (by decide) ?_
  refine go_goto 10 d_Mo_locked_80 (by decide) ?_
  refine go_sub (lv' := [(0, .ref a0), (1, .ref a1), (2, .int i2), (3, .int (i3 + (1 : Int32)))]) [1, 2, 3, 0] rfl ?_
  exact hk10 a0 a1 i2 (i3 + (1 : Int32)) h hf
def b_Mo_locked_19 (F : Nat) (k10 : Nat → Nat → Int32 → Int32 → PH → Option (Int32 × PH)) (k19 : Nat → Nat → Int32 → Int32 → Int32 → PH → Option (Int32 × PH)) (a0 : Nat) (a1 : Nat) (i2 : Int32) (i3 : Int32) (i4 : Int32) (h : PH) : Option (Int32 × PH) :=
  (if (7 : Int32) ≤ i4 then b_Mo_locked_77 F k10 a0 a1 i2 i3 h else bnd (f_Mo_doMeet F i2 i3) fun x1 => (if x1 = (0 : Int32) then b_Mo_locked_77 F k10 a0 a1 i2 i3 h else bnd (cK h a0 10) fun _ => bnd2 (f_Mo_locks F a0 a1 ((12 : Int32) + i2) i3 i4 h) fun x3 h4 => (if x3 = (0 : Int32) then bnd (cK h4 a0 10) fun _ => bnd2 (f_Mo_locks F a0 a1 i3 ((12 : Int32) + i2) i4 h4) fun x6 h7 => (if x6 = (0 : Int32) then k19 a0 a1 i2 i3 (i4 + (1 : Int32)) h7 else b_Mo_locked_64 F a0 i2 h7) else b_Mo_locked_64 F a0 i2 h4)))
def f_Mo_locked_19 (F : Nat) (k10 : Nat → Nat → Int32 → Int32 → PH → Option (Int32 × PH)) : Nat → Nat → Nat → Int32 → Int32 → Int32 → PH → Option (Int32 × PH)
  | 0 => fun _ _ _ _ _ _ => none
  | n + 1 => b_Mo_locked_19 F k10 (f_Mo_locked_19 F k10 n)
theorem g_Mo_locked_19 {l : Launch} {E : ET} {d : Nat} (hd : 4 ≤ d) {F : Nat} {r : Int32} {h9 : PH} {x : Nat} {k10 : Nat → Nat → Int32 → Int32 → PH → Option (Int32 × PH)} (hk10 : ∀ (a0 : Nat) (a1 : Nat) (i2 : Int32) (i3 : Int32) (hh : PH), k10 a0 a1 i2 i3 hh = some (r, h9) → Go l E m_Mo_locked (rm d 0 0) (KM E 0 0 (PoE (some (.int r)) h9 x)) 0 0 hh x 10 [(0, .ref a0), (1, .ref a1), (2, .int i2), (3, .int i3)] []) {k19 : Nat → Nat → Int32 → Int32 → Int32 → PH → Option (Int32 × PH)} (hk19 : ∀ (a0 : Nat) (a1 : Nat) (i2 : Int32) (i3 : Int32) (i4 : Int32) (hh : PH), k19 a0 a1 i2 i3 i4 hh = some (r, h9) → Go l E m_Mo_locked (rm d 0 0) (KM E 0 0 (PoE (some (.int r)) h9 x)) 0 0 hh x 19 [(0, .ref a0), (1, .ref a1), (2, .int i2), (3, .int i3), (4, .int i4)] []) (a0 : Nat) (a1 : Nat) (i2 : Int32) (i3 : Int32) (i4 : Int32) (h : PH) (hf : b_Mo_locked_19 F k10 k19 a0 a1 i2 i3 i4 h = some (r, h9)) : Go l E m_Mo_locked (rm d 0 0) (KM E 0 0 (PoE (some (.int r)) h9 x)) 0 0 h x 19 [(0, .ref a0), (1, .ref a1), (2, .int i2), (3, .int i3), (4, .int i4)] [] := by
  unfold b_Mo_locked_19 at hf
  refine go_iload 4 d_Mo_locked_19 rfl ?_
  refine go_bipush (7 : Int32) d_Mo_locked_21 (by decide) ?_
  refine go_icmp_ge 77 d_Mo_locked_23 (by decide) (fun q11 => ?_) (fun q11 => ?_)
  · rw [if_pos q11] at hf
    refine go_sub (lv' := [(0, .ref a0), (1, .ref a1), (2, .int i2), (3, .int i3)]) [0, 1, 2, 3] rfl ?_
    exact g_Mo_locked_77 hd hk10 a0 a1 i2 i3 h hf
  · rw [if_neg q11] at hf
    refine go_iload_n 2 d_Mo_locked_26 rfl ?_
    refine go_iload_n 3 d_Mo_locked_27 rfl ?_
    obtain ⟨x1, e_x1, hf⟩ := bnd_x hf
    refine go_callS_I (As := [.int i2, .int i3]) (st := []) (c_Mo_doMeet (d := d - 1) (by omega) e_x1) lk_Mo_144 rfl rfl (rm_ok (by omega)) (Nat.le_of_ble_eq_true rfl) rm_c d_Mo_locked_28 ?_
    refine go_if_eq 77 d_Mo_locked_31 (by decide) (fun q10 => ?_) (fun q10 => ?_)
    · rw [if_pos q10] at hf
      refine go_sub (lv' := [(0, .ref a0), (1, .ref a1), (2, .int i2), (3, .int i3)]) [0, 1, 2, 3] rfl ?_
      exact g_Mo_locked_77 hd hk10 a0 a1 i2 i3 h hf
    · rw [if_neg q10] at hf
      refine go_aload_n 0 d_Mo_locked_34 rfl ?_
      refine go_aload_n 1 d_Mo_locked_35 rfl ?_
      refine go_bipush (12 : Int32) d_Mo_locked_36 (by decide) ?_
      refine go_iload_n 2 d_Mo_locked_38 rfl ?_
      refine go_iadd d_Mo_locked_39 ?_
      refine go_iload_n 3 d_Mo_locked_40 rfl ?_
      refine go_iload 4 d_Mo_locked_41 rfl ?_
      obtain ⟨_, e2, hf⟩ := bnd_x hf
      obtain ⟨x3, h4, e_x3, hf⟩ := bnd2_x hf
      refine go_callV_I (As := [.ref a1, .int ((12 : Int32) + i2), .int i3, .int i4]) (st := []) (c_Mo_locks (d := d - 1) (by omega) e_x3) lk_Mo_147 rfl rfl e2 (by decide) rfl (rm_ok (by omega)) (Nat.le_of_ble_eq_true rfl) rm_c d_Mo_locked_43 ?_
      refine go_if_ne 64 d_Mo_locked_46 (by decide) (fun q9 => ?_) (fun q9 => ?_)
      · rw [if_neg q9] at hf
        refine go_sub (lv' := [(0, .ref a0), (2, .int i2)]) [0, 2] rfl ?_
        exact g_Mo_locked_64 hd  a0 i2 h4 hf
      · rw [if_pos q9] at hf
        refine go_aload_n 0 d_Mo_locked_49 rfl ?_
        refine go_aload_n 1 d_Mo_locked_50 rfl ?_
        refine go_iload_n 3 d_Mo_locked_51 rfl ?_
        refine go_bipush (12 : Int32) d_Mo_locked_52 (by decide) ?_
        refine go_iload_n 2 d_Mo_locked_54 rfl ?_
        refine go_iadd d_Mo_locked_55 ?_
        refine go_iload 4 d_Mo_locked_56 rfl ?_
        obtain ⟨_, e5, hf⟩ := bnd_x hf
        obtain ⟨x6, h7, e_x6, hf⟩ := bnd2_x hf
        refine go_callV_I (As := [.ref a1, .int i3, .int ((12 : Int32) + i2), .int i4]) (st := []) (c_Mo_locks (d := d - 1) (by omega) e_x6) lk_Mo_147 rfl rfl e5 (by decide) rfl (rm_ok (by omega)) (Nat.le_of_ble_eq_true rfl) rm_c d_Mo_locked_58 ?_
        refine go_if_eq 71 d_Mo_locked_61 (by decide) (fun q8 => ?_) (fun q8 => ?_)
        · rw [if_pos q8] at hf
          refine go_iinc (lv' := [(4, .int (i4 + (1 : Int32))), (0, .ref a0), (1, .ref a1), (2, .int i2), (3, .int i3)]) 4 (i4 + (1 : Int32)) d_Mo_locked_71 rfl rfl rfl (by decide) ?_
          refine go_goto 19 d_Mo_locked_74 (by decide) ?_
          refine go_sub (lv' := [(0, .ref a0), (1, .ref a1), (2, .int i2), (3, .int i3), (4, .int (i4 + (1 : Int32)))]) [1, 2, 3, 4, 0] rfl ?_
          exact hk19 a0 a1 i2 i3 (i4 + (1 : Int32)) h7 hf
        · rw [if_neg q8] at hf
          refine go_sub (lv' := [(0, .ref a0), (2, .int i2)]) [0, 2] rfl ?_
          exact g_Mo_locked_64 hd  a0 i2 h7 hf
theorem t_Mo_locked_19 {l : Launch} {E : ET} {d : Nat} (hd : 4 ≤ d) {F : Nat} {r : Int32} {h9 : PH} {x : Nat} {k10 : Nat → Nat → Int32 → Int32 → PH → Option (Int32 × PH)} (hk10 : ∀ (a0 : Nat) (a1 : Nat) (i2 : Int32) (i3 : Int32) (hh : PH), k10 a0 a1 i2 i3 hh = some (r, h9) → Go l E m_Mo_locked (rm d 0 0) (KM E 0 0 (PoE (some (.int r)) h9 x)) 0 0 hh x 10 [(0, .ref a0), (1, .ref a1), (2, .int i2), (3, .int i3)] []) : ∀ (n : Nat) (a0 : Nat) (a1 : Nat) (i2 : Int32) (i3 : Int32) (i4 : Int32) (hh : PH), f_Mo_locked_19 F k10 n a0 a1 i2 i3 i4 hh = some (r, h9) → Go l E m_Mo_locked (rm d 0 0) (KM E 0 0 (PoE (some (.int r)) h9 x)) 0 0 hh x 19 [(0, .ref a0), (1, .ref a1), (2, .int i2), (3, .int i3), (4, .int i4)] [] := by
  intro n
  induction n with
  | zero => intro v0 v1 v2 v3 v4 v5 hf; cases hf
  | succ n ih => intro v0 v1 v2 v3 v4 v5 hf; exact g_Mo_locked_19 hd hk10 ih v0 v1 v2 v3 v4 v5 hf
def b_Mo_locked_10 (F : Nat) (k2 : Nat → Nat → Int32 → PH → Option (Int32 × PH)) (k10 : Nat → Nat → Int32 → Int32 → PH → Option (Int32 × PH)) (a0 : Nat) (a1 : Nat) (i2 : Int32) (i3 : Int32) (h : PH) : Option (Int32 × PH) :=
  (if (12 : Int32) ≤ i3 then k2 a0 a1 (i2 + (1 : Int32)) h else f_Mo_locked_19 F k10 F a0 a1 i2 i3 (1 : Int32) h)
def f_Mo_locked_10 (F : Nat) (k2 : Nat → Nat → Int32 → PH → Option (Int32 × PH)) : Nat → Nat → Nat → Int32 → Int32 → PH → Option (Int32 × PH)
  | 0 => fun _ _ _ _ _ => none
  | n + 1 => b_Mo_locked_10 F k2 (f_Mo_locked_10 F k2 n)
theorem g_Mo_locked_10 {l : Launch} {E : ET} {d : Nat} (hd : 4 ≤ d) {F : Nat} {r : Int32} {h9 : PH} {x : Nat} {k2 : Nat → Nat → Int32 → PH → Option (Int32 × PH)} (hk2 : ∀ (a0 : Nat) (a1 : Nat) (i2 : Int32) (hh : PH), k2 a0 a1 i2 hh = some (r, h9) → Go l E m_Mo_locked (rm d 0 0) (KM E 0 0 (PoE (some (.int r)) h9 x)) 0 0 hh x 2 [(0, .ref a0), (1, .ref a1), (2, .int i2)] []) {k10 : Nat → Nat → Int32 → Int32 → PH → Option (Int32 × PH)} (hk10 : ∀ (a0 : Nat) (a1 : Nat) (i2 : Int32) (i3 : Int32) (hh : PH), k10 a0 a1 i2 i3 hh = some (r, h9) → Go l E m_Mo_locked (rm d 0 0) (KM E 0 0 (PoE (some (.int r)) h9 x)) 0 0 hh x 10 [(0, .ref a0), (1, .ref a1), (2, .int i2), (3, .int i3)] []) (a0 : Nat) (a1 : Nat) (i2 : Int32) (i3 : Int32) (h : PH) (hf : b_Mo_locked_10 F k2 k10 a0 a1 i2 i3 h = some (r, h9)) : Go l E m_Mo_locked (rm d 0 0) (KM E 0 0 (PoE (some (.int r)) h9 x)) 0 0 h x 10 [(0, .ref a0), (1, .ref a1), (2, .int i2), (3, .int i3)] [] := by
  unfold b_Mo_locked_10 at hf
  refine go_iload_n 3 d_Mo_locked_10 rfl ?_
  refine go_bipush (12 : Int32) d_Mo_locked_11 (by decide) ?_
  refine go_icmp_ge 83 d_Mo_locked_13 (by decide) (fun q1 => ?_) (fun q1 => ?_)
  · rw [if_pos q1] at hf
    refine go_iinc (lv' := [(2, .int (i2 + (1 : Int32))), (0, .ref a0), (1, .ref a1), (3, .int i3)]) 2 (i2 + (1 : Int32)) d_Mo_locked_83 rfl rfl rfl (by decide) ?_
    refine go_goto 2 d_Mo_locked_86 (by decide) ?_
    refine go_sub (lv' := [(0, .ref a0), (1, .ref a1), (2, .int (i2 + (1 : Int32)))]) [1, 2, 0] rfl ?_
    exact hk2 a0 a1 (i2 + (1 : Int32)) h hf
  · rw [if_neg q1] at hf
    refine go_iconst (1 : Int32) d_Mo_locked_16 (by decide) ?_
    refine go_istore (lv' := [(4, .int (1 : Int32)), (0, .ref a0), (1, .ref a1), (2, .int i2), (3, .int i3)]) d_Mo_locked_17 rfl (by decide) ?_
    refine go_sub (lv' := [(0, .ref a0), (1, .ref a1), (2, .int i2), (3, .int i3), (4, .int (1 : Int32))]) [1, 2, 3, 4, 0] rfl ?_
    exact t_Mo_locked_19 hd hk10 _ a0 a1 i2 i3 (1 : Int32) h hf
theorem t_Mo_locked_10 {l : Launch} {E : ET} {d : Nat} (hd : 4 ≤ d) {F : Nat} {r : Int32} {h9 : PH} {x : Nat} {k2 : Nat → Nat → Int32 → PH → Option (Int32 × PH)} (hk2 : ∀ (a0 : Nat) (a1 : Nat) (i2 : Int32) (hh : PH), k2 a0 a1 i2 hh = some (r, h9) → Go l E m_Mo_locked (rm d 0 0) (KM E 0 0 (PoE (some (.int r)) h9 x)) 0 0 hh x 2 [(0, .ref a0), (1, .ref a1), (2, .int i2)] []) : ∀ (n : Nat) (a0 : Nat) (a1 : Nat) (i2 : Int32) (i3 : Int32) (hh : PH), f_Mo_locked_10 F k2 n a0 a1 i2 i3 hh = some (r, h9) → Go l E m_Mo_locked (rm d 0 0) (KM E 0 0 (PoE (some (.int r)) h9 x)) 0 0 hh x 10 [(0, .ref a0), (1, .ref a1), (2, .int i2), (3, .int i3)] [] := by
  intro n
  induction n with
  | zero => intro v0 v1 v2 v3 v4 hf; cases hf
  | succ n ih => intro v0 v1 v2 v3 v4 hf; exact g_Mo_locked_10 hd hk2 ih v0 v1 v2 v3 v4 hf
def b_Mo_locked_2 (F : Nat) (k2 : Nat → Nat → Int32 → PH → Option (Int32 × PH)) (a0 : Nat) (a1 : Nat) (i2 : Int32) (h : PH) : Option (Int32 × PH) :=
  (if (6 : Int32) ≤ i2 then some ((0 : Int32), h) else f_Mo_locked_10 F k2 F a0 a1 i2 (0 : Int32) h)
def f_Mo_locked_2 (F : Nat) : Nat → Nat → Nat → Int32 → PH → Option (Int32 × PH)
  | 0 => fun _ _ _ _ => none
  | n + 1 => b_Mo_locked_2 F (f_Mo_locked_2 F n)
theorem g_Mo_locked_2 {l : Launch} {E : ET} {d : Nat} (hd : 4 ≤ d) {F : Nat} {r : Int32} {h9 : PH} {x : Nat} {k2 : Nat → Nat → Int32 → PH → Option (Int32 × PH)} (hk2 : ∀ (a0 : Nat) (a1 : Nat) (i2 : Int32) (hh : PH), k2 a0 a1 i2 hh = some (r, h9) → Go l E m_Mo_locked (rm d 0 0) (KM E 0 0 (PoE (some (.int r)) h9 x)) 0 0 hh x 2 [(0, .ref a0), (1, .ref a1), (2, .int i2)] []) (a0 : Nat) (a1 : Nat) (i2 : Int32) (h : PH) (hf : b_Mo_locked_2 F k2 a0 a1 i2 h = some (r, h9)) : Go l E m_Mo_locked (rm d 0 0) (KM E 0 0 (PoE (some (.int r)) h9 x)) 0 0 h x 2 [(0, .ref a0), (1, .ref a1), (2, .int i2)] [] := by
  unfold b_Mo_locked_2 at hf
  refine go_iload_n 2 d_Mo_locked_2 rfl ?_
  refine go_bipush (6 : Int32) d_Mo_locked_3 (by decide) ?_
  refine go_icmp_ge 89 d_Mo_locked_5 (by decide) (fun q1 => ?_) (fun q1 => ?_)
  · rw [if_pos q1] at hf
    refine go_iconst (0 : Int32) d_Mo_locked_89 (by decide) ?_
    obtain ⟨e8, e9⟩ := Prod.mk.inj (Option.some.inj hf)
    subst e8; subst e9
    exact go_zret d_Mo_locked_90 rfl rfl ⟨rfl, rfl, rfl⟩
  · rw [if_neg q1] at hf
    refine go_iconst (0 : Int32) d_Mo_locked_8 (by decide) ?_
    refine go_istore_n (lv' := [(3, .int (0 : Int32)), (0, .ref a0), (1, .ref a1), (2, .int i2)]) d_Mo_locked_9 rfl (by decide) ?_
    refine go_sub (lv' := [(0, .ref a0), (1, .ref a1), (2, .int i2), (3, .int (0 : Int32))]) [1, 2, 3, 0] rfl ?_
    exact t_Mo_locked_10 hd hk2 _ a0 a1 i2 (0 : Int32) h hf
theorem t_Mo_locked_2 {l : Launch} {E : ET} {d : Nat} (hd : 4 ≤ d) {F : Nat} {r : Int32} {h9 : PH} {x : Nat}  : ∀ (n : Nat) (a0 : Nat) (a1 : Nat) (i2 : Int32) (hh : PH), f_Mo_locked_2 F n a0 a1 i2 hh = some (r, h9) → Go l E m_Mo_locked (rm d 0 0) (KM E 0 0 (PoE (some (.int r)) h9 x)) 0 0 hh x 2 [(0, .ref a0), (1, .ref a1), (2, .int i2)] [] := by
  intro n
  induction n with
  | zero => intro v0 v1 v2 v3 hf; cases hf
  | succ n ih => intro v0 v1 v2 v3 hf; exact g_Mo_locked_2 hd ih v0 v1 v2 v3 hf
def f_Mo_locked (F : Nat) (a0 : Nat) (a1 : Nat) (h : PH) : Option (Int32 × PH) :=
  f_Mo_locked_2 F F a0 a1 (0 : Int32) h
theorem g_Mo_locked_0 {l : Launch} {E : ET} {d : Nat} (hd : 4 ≤ d) {F : Nat} {r : Int32} {h9 : PH} {x : Nat}  (a0 : Nat) (a1 : Nat) (h : PH) (hf : f_Mo_locked F a0 a1 h = some (r, h9)) : Go l E m_Mo_locked (rm d 0 0) (KM E 0 0 (PoE (some (.int r)) h9 x)) 0 0 h x 0 [(0, .ref a0), (1, .ref a1)] [] := by
  unfold f_Mo_locked at hf
  refine go_iconst (0 : Int32) d_Mo_locked_0 (by decide) ?_
  refine go_istore_n (lv' := [(2, .int (0 : Int32)), (0, .ref a0), (1, .ref a1)]) d_Mo_locked_1 rfl (by decide) ?_
  refine go_sub (lv' := [(0, .ref a0), (1, .ref a1), (2, .int (0 : Int32))]) [1, 2, 0] rfl ?_
  exact t_Mo_locked_2 hd  _ a0 a1 (0 : Int32) h hf
theorem c_Mo_locked {l : Launch} {E : ET} {d : Nat} (hd : 4 ≤ d) {F : Nat} {r : Int32} {h9 : PH} {x : Nat} {a0 : Nat} {a1 : Nat} {h : PH} (hf : f_Mo_locked F a0 a1 h = some (r, h9)) : Fn l E m_Mo_locked d 0 0 [.ref a0, .ref a1] h x (PoE (some (.int r)) h9 x) :=
  Fn.of (by decide +kernel) (Nat.le_of_ble_eq_true rfl) (g_Mo_locked_0 hd a0 a1 h hf)
theorem d_Mo_pair_0 : decode prog_13_method_37_code 0 = .ok (.aload_n 1, 1) := by decide +kernel
theorem d_Mo_pair_1 : decode prog_13_method_37_code 1 = .ok (.iload_n 2, 1) := by decide +kernel
theorem d_Mo_pair_2 : decode prog_13_method_37_code 2 = .ok (.iload_n 3, 1) := by decide +kernel
theorem d_Mo_pair_3 : decode prog_13_method_37_code 3 = .ok (.invokestatic 111, 3) := by decide +kernel
theorem d_Mo_pair_6 : decode prog_13_method_37_code 6 = .ok (.iaload, 1) := by decide +kernel
theorem d_Mo_pair_7 : decode prog_13_method_37_code 7 = .ok (.istore 5, 2) := by decide +kernel
theorem d_Mo_pair_9 : decode prog_13_method_37_code 9 = .ok (.iconst 0, 1) := by decide +kernel
theorem d_Mo_pair_10 : decode prog_13_method_37_code 10 = .ok (.istore 6, 2) := by decide +kernel
theorem d_Mo_pair_12 : decode prog_13_method_37_code 12 = .ok (.iload 6, 2) := by decide +kernel
theorem d_Mo_pair_14 : decode prog_13_method_37_code 14 = .ok (.bipush 6, 2) := by decide +kernel
theorem d_Mo_pair_16 : decode prog_13_method_37_code 16 = .ok (.if_icmp .ge 35, 3) := by decide +kernel
theorem d_Mo_pair_19 : decode prog_13_method_37_code 19 = .ok (.iload 6, 2) := by decide +kernel
theorem d_Mo_pair_21 : decode prog_13_method_37_code 21 = .ok (.iload_n 3, 1) := by decide +kernel
theorem d_Mo_pair_22 : decode prog_13_method_37_code 22 = .ok (.if_icmp .eq 23, 3) := by decide +kernel
theorem d_Mo_pair_25 : decode prog_13_method_37_code 25 = .ok (.iload 6, 2) := by decide +kernel
theorem d_Mo_pair_27 : decode prog_13_method_37_code 27 = .ok (.iload 4, 2) := by decide +kernel
theorem d_Mo_pair_29 : decode prog_13_method_37_code 29 = .ok (.if_icmp .eq 16, 3) := by decide +kernel
theorem d_Mo_pair_32 : decode prog_13_method_37_code 32 = .ok (.aload_n 0, 1) := by decide +kernel
theorem d_Mo_pair_33 : decode prog_13_method_37_code 33 = .ok (.aload_n 1, 1) := by decide +kernel
theorem d_Mo_pair_34 : decode prog_13_method_37_code 34 = .ok (.iload_n 2, 1) := by decide +kernel
theorem d_Mo_pair_35 : decode prog_13_method_37_code 35 = .ok (.iload 6, 2) := by decide +kernel
theorem d_Mo_pair_37 : decode prog_13_method_37_code 37 = .ok (.invokestatic 111, 3) := by decide +kernel
theorem d_Mo_pair_40 : decode prog_13_method_37_code 40 = .ok (.iload 5, 2) := by decide +kernel
theorem d_Mo_pair_42 : decode prog_13_method_37_code 42 = .ok (.invokevirtual 107, 3) := by decide +kernel
theorem d_Mo_pair_45 : decode prog_13_method_37_code 45 = .ok (.iinc 6 1, 3) := by decide +kernel
theorem d_Mo_pair_48 : decode prog_13_method_37_code 48 = .ok (.goto (-36), 3) := by decide +kernel
theorem d_Mo_pair_51 : decode prog_13_method_37_code 51 = .ok (.aload_n 0, 1) := by decide +kernel
theorem d_Mo_pair_52 : decode prog_13_method_37_code 52 = .ok (.getfield 95, 3) := by decide +kernel
theorem d_Mo_pair_55 : decode prog_13_method_37_code 55 = .ok (.ifCond .le 7, 3) := by decide +kernel
theorem d_Mo_pair_58 : decode prog_13_method_37_code 58 = .ok (.iconst 1, 1) := by decide +kernel
theorem d_Mo_pair_59 : decode prog_13_method_37_code 59 = .ok (.goto 4, 3) := by decide +kernel
theorem d_Mo_pair_62 : decode prog_13_method_37_code 62 = .ok (.iconst 0, 1) := by decide +kernel
theorem d_Mo_pair_63 : decode prog_13_method_37_code 63 = .ok (.ireturn, 1) := by decide +kernel
def b_Mo_pair_45 (F : Nat) (k12 : Nat → Nat → Int32 → Int32 → Int32 → Int32 → Int32 → PH → Option (Int32 × PH)) (a0 : Nat) (a1 : Nat) (i2 : Int32) (i3 : Int32) (i4 : Int32) (i5 : Int32) (i6 : Int32) (h : PH) : Option (Int32 × PH) :=
  k12 a0 a1 i2 i3 i4 i5 (i6 + (1 : Int32)) h
theorem g_Mo_pair_45 {l : Launch} {E : ET} {d : Nat} (hd : 3 ≤ d) {F : Nat} {r : Int32} {h9 : PH} {x : Nat} {k12 : Nat → Nat → Int32 → Int32 → Int32 → Int32 → Int32 → PH → Option (Int32 × PH)} (hk12 : ∀ (a0 : Nat) (a1 : Nat) (i2 : Int32) (i3 : Int32) (i4 : Int32) (i5 : Int32) (i6 : Int32) (hh : PH), k12 a0 a1 i2 i3 i4 i5 i6 hh = some (r, h9) → Go l E m_Mo_pair (rm d 0 0) (KM E 0 0 (PoE (some (.int r)) h9 x)) 0 0 hh x 12 [(0, .ref a0), (1, .ref a1), (2, .int i2), (3, .int i3), (4, .int i4), (5, .int i5), (6, .int i6)] []) (a0 : Nat) (a1 : Nat) (i2 : Int32) (i3 : Int32) (i4 : Int32) (i5 : Int32) (i6 : Int32) (h : PH) (hf : b_Mo_pair_45 F k12 a0 a1 i2 i3 i4 i5 i6 h = some (r, h9)) : Go l E m_Mo_pair (rm d 0 0) (KM E 0 0 (PoE (some (.int r)) h9 x)) 0 0 h x 45 [(0, .ref a0), (1, .ref a1), (2, .int i2), (3, .int i3), (4, .int i4), (5, .int i5), (6, .int i6)] [] := by
  unfold b_Mo_pair_45 at hf
  refine go_iinc (lv' := [(6, .int (i6 + (1 : Int32))), (0, .ref a0), (1, .ref a1), (2, .int i2), (3, .int i3), (4, .int i4), (5, .int i5)]) 6 (i6 + (1 : Int32)) d_Mo_pair_45 rfl rfl rfl (by decide) ?_
  refine go_goto 12 d_Mo_pair_48 (by decide) ?_
  refine go_sub (lv' := [(0, .ref a0), (1, .ref a1), (2, .int i2), (3, .int i3), (4, .int i4), (5, .int i5), (6, .int (i6 + (1 : Int32)))]) [1, 2, 3, 4, 5, 6, 0] rfl ?_
  exact hk12 a0 a1 i2 i3 i4 i5 (i6 + (1 : Int32)) h hf
def b_Mo_pair_12 (F : Nat) (k12 : Nat → Nat → Int32 → Int32 → Int32 → Int32 → Int32 → PH → Option (Int32 × PH)) (a0 : Nat) (a1 : Nat) (i2 : Int32) (i3 : Int32) (i4 : Int32) (i5 : Int32) (i6 : Int32) (h : PH) : Option (Int32 × PH) :=
  (if (6 : Int32) ≤ i6 then bnd (gI h a0 10 8) fun x1 => (if x1 ≤ (0 : Int32) then some ((0 : Int32), h) else some ((1 : Int32), h)) else (if i6 = i3 then b_Mo_pair_45 F k12 a0 a1 i2 i3 i4 i5 i6 h else (if i6 = i4 then b_Mo_pair_45 F k12 a0 a1 i2 i3 i4 i5 i6 h else bnd (f_Mo_cellIn i2 i6) fun x3 => bnd (cK h a0 10) fun _ => bnd (f_Mo_takes F a0 a1 x3 i5 h) fun h5 => b_Mo_pair_45 F k12 a0 a1 i2 i3 i4 i5 i6 h5)))
def f_Mo_pair_12 (F : Nat) : Nat → Nat → Nat → Int32 → Int32 → Int32 → Int32 → Int32 → PH → Option (Int32 × PH)
  | 0 => fun _ _ _ _ _ _ _ _ => none
  | n + 1 => b_Mo_pair_12 F (f_Mo_pair_12 F n)
theorem g_Mo_pair_12 {l : Launch} {E : ET} {d : Nat} (hd : 3 ≤ d) {F : Nat} {r : Int32} {h9 : PH} {x : Nat} {k12 : Nat → Nat → Int32 → Int32 → Int32 → Int32 → Int32 → PH → Option (Int32 × PH)} (hk12 : ∀ (a0 : Nat) (a1 : Nat) (i2 : Int32) (i3 : Int32) (i4 : Int32) (i5 : Int32) (i6 : Int32) (hh : PH), k12 a0 a1 i2 i3 i4 i5 i6 hh = some (r, h9) → Go l E m_Mo_pair (rm d 0 0) (KM E 0 0 (PoE (some (.int r)) h9 x)) 0 0 hh x 12 [(0, .ref a0), (1, .ref a1), (2, .int i2), (3, .int i3), (4, .int i4), (5, .int i5), (6, .int i6)] []) (a0 : Nat) (a1 : Nat) (i2 : Int32) (i3 : Int32) (i4 : Int32) (i5 : Int32) (i6 : Int32) (h : PH) (hf : b_Mo_pair_12 F k12 a0 a1 i2 i3 i4 i5 i6 h = some (r, h9)) : Go l E m_Mo_pair (rm d 0 0) (KM E 0 0 (PoE (some (.int r)) h9 x)) 0 0 h x 12 [(0, .ref a0), (1, .ref a1), (2, .int i2), (3, .int i3), (4, .int i4), (5, .int i5), (6, .int i6)] [] := by
  unfold b_Mo_pair_12 at hf
  refine go_iload 6 d_Mo_pair_12 rfl ?_
  refine go_bipush (6 : Int32) d_Mo_pair_14 (by decide) ?_
  refine go_icmp_ge 51 d_Mo_pair_16 (by decide) (fun q8 => ?_) (fun q8 => ?_)
  · rw [if_pos q8] at hf
    refine go_aload_n 0 d_Mo_pair_51 rfl ?_
    obtain ⟨x1, e_x1, hf⟩ := bnd_x hf
    refine go_get d_Mo_pair_52 (gI_x e_x1) fl_Mo_95 ?_
    refine go_if_le 62 d_Mo_pair_55 (by decide) (fun q2 => ?_) (fun q2 => ?_)
    · rw [if_pos q2] at hf
      refine go_iconst (0 : Int32) d_Mo_pair_62 (by decide) ?_
      obtain ⟨e8, e9⟩ := Prod.mk.inj (Option.some.inj hf)
      subst e8; subst e9
      exact go_zret d_Mo_pair_63 rfl rfl ⟨rfl, rfl, rfl⟩
    · rw [if_neg q2] at hf
      refine go_iconst (1 : Int32) d_Mo_pair_58 (by decide) ?_
      refine go_goto 63 d_Mo_pair_59 (by decide) ?_
      obtain ⟨e8, e9⟩ := Prod.mk.inj (Option.some.inj hf)
      subst e8; subst e9
      exact go_zret d_Mo_pair_63 rfl rfl ⟨rfl, rfl, rfl⟩
  · rw [if_neg q8] at hf
    refine go_iload 6 d_Mo_pair_19 rfl ?_
    refine go_iload_n 3 d_Mo_pair_21 rfl ?_
    refine go_icmp_eq 45 d_Mo_pair_22 (by decide) (fun q7 => ?_) (fun q7 => ?_)
    · rw [if_pos q7] at hf
      refine go_sub (lv' := [(0, .ref a0), (1, .ref a1), (2, .int i2), (3, .int i3), (4, .int i4), (5, .int i5), (6, .int i6)]) [0, 1, 2, 3, 4, 5, 6] rfl ?_
      exact g_Mo_pair_45 hd hk12 a0 a1 i2 i3 i4 i5 i6 h hf
    · rw [if_neg q7] at hf
      refine go_iload 6 d_Mo_pair_25 rfl ?_
      refine go_iload 4 d_Mo_pair_27 rfl ?_
      refine go_icmp_eq 45 d_Mo_pair_29 (by decide) (fun q6 => ?_) (fun q6 => ?_)
      · rw [if_pos q6] at hf
        refine go_sub (lv' := [(0, .ref a0), (1, .ref a1), (2, .int i2), (3, .int i3), (4, .int i4), (5, .int i5), (6, .int i6)]) [0, 1, 2, 3, 4, 5, 6] rfl ?_
        exact g_Mo_pair_45 hd hk12 a0 a1 i2 i3 i4 i5 i6 h hf
      · rw [if_neg q6] at hf
        refine go_aload_n 0 d_Mo_pair_32 rfl ?_
        refine go_aload_n 1 d_Mo_pair_33 rfl ?_
        refine go_iload_n 2 d_Mo_pair_34 rfl ?_
        refine go_iload 6 d_Mo_pair_35 rfl ?_
        obtain ⟨x3, e_x3, hf⟩ := bnd_x hf
        refine go_callS_I (As := [.int i2, .int i6]) (st := [.ref a1, .ref a0]) (c_Mo_cellIn (d := d - 1) (by omega) e_x3) lk_Mo_111 rfl rfl (rm_ok (by omega)) (Nat.le_of_ble_eq_true rfl) rm_c d_Mo_pair_37 ?_
        refine go_iload 5 d_Mo_pair_40 rfl ?_
        obtain ⟨_, e4, hf⟩ := bnd_x hf
        obtain ⟨h5, e_x5, hf⟩ := bnd_x hf
        refine go_callV_N (As := [.ref a1, .int x3, .int i5]) (st := []) (c_Mo_takes (d := d - 1) (by omega) e_x5) lk_Mo_107 rfl rfl e4 (by decide) rfl (rm_ok (by omega)) (Nat.le_of_ble_eq_true rfl) rm_c d_Mo_pair_42 ?_
        refine go_sub (lv' := [(0, .ref a0), (1, .ref a1), (2, .int i2), (3, .int i3), (4, .int i4), (5, .int i5), (6, .int i6)]) [0, 1, 2, 3, 4, 5, 6] rfl ?_
        exact g_Mo_pair_45 hd hk12 a0 a1 i2 i3 i4 i5 i6 h5 hf
theorem t_Mo_pair_12 {l : Launch} {E : ET} {d : Nat} (hd : 3 ≤ d) {F : Nat} {r : Int32} {h9 : PH} {x : Nat}  : ∀ (n : Nat) (a0 : Nat) (a1 : Nat) (i2 : Int32) (i3 : Int32) (i4 : Int32) (i5 : Int32) (i6 : Int32) (hh : PH), f_Mo_pair_12 F n a0 a1 i2 i3 i4 i5 i6 hh = some (r, h9) → Go l E m_Mo_pair (rm d 0 0) (KM E 0 0 (PoE (some (.int r)) h9 x)) 0 0 hh x 12 [(0, .ref a0), (1, .ref a1), (2, .int i2), (3, .int i3), (4, .int i4), (5, .int i5), (6, .int i6)] [] := by
  intro n
  induction n with
  | zero => intro v0 v1 v2 v3 v4 v5 v6 v7 hf; cases hf
  | succ n ih => intro v0 v1 v2 v3 v4 v5 v6 v7 hf; exact g_Mo_pair_12 hd ih v0 v1 v2 v3 v4 v5 v6 v7 hf
def f_Mo_pair (F : Nat) (a0 : Nat) (a1 : Nat) (i2 : Int32) (i3 : Int32) (i4 : Int32) (h : PH) : Option (Int32 × PH) :=
  bnd (f_Mo_cellIn i2 i3) fun x1 => bnd (aI h a1 x1) fun x2 => f_Mo_pair_12 F F a0 a1 i2 i3 i4 x2 (0 : Int32) h
theorem g_Mo_pair_0 {l : Launch} {E : ET} {d : Nat} (hd : 3 ≤ d) {F : Nat} {r : Int32} {h9 : PH} {x : Nat}  (a0 : Nat) (a1 : Nat) (i2 : Int32) (i3 : Int32) (i4 : Int32) (h : PH) (hf : f_Mo_pair F a0 a1 i2 i3 i4 h = some (r, h9)) : Go l E m_Mo_pair (rm d 0 0) (KM E 0 0 (PoE (some (.int r)) h9 x)) 0 0 h x 0 [(0, .ref a0), (1, .ref a1), (2, .int i2), (3, .int i3), (4, .int i4)] [] := by
  unfold f_Mo_pair at hf
  refine go_aload_n 1 d_Mo_pair_0 rfl ?_
  refine go_iload_n 2 d_Mo_pair_1 rfl ?_
  refine go_iload_n 3 d_Mo_pair_2 rfl ?_
  obtain ⟨x1, e_x1, hf⟩ := bnd_x hf
  refine go_callS_I (As := [.int i2, .int i3]) (st := [.ref a1]) (c_Mo_cellIn (d := d - 1) (by omega) e_x1) lk_Mo_111 rfl rfl (rm_ok (by omega)) (Nat.le_of_ble_eq_true rfl) rm_c d_Mo_pair_3 ?_
  obtain ⟨x2, e_x2, hf⟩ := bnd_x hf
  refine go_iaload d_Mo_pair_6 e_x2 ?_
  refine go_istore (lv' := [(5, .int x2), (0, .ref a0), (1, .ref a1), (2, .int i2), (3, .int i3), (4, .int i4)]) d_Mo_pair_7 rfl (by decide) ?_
  refine go_iconst (0 : Int32) d_Mo_pair_9 (by decide) ?_
  refine go_istore (lv' := [(6, .int (0 : Int32)), (5, .int x2), (0, .ref a0), (1, .ref a1), (2, .int i2), (3, .int i3), (4, .int i4)]) d_Mo_pair_10 rfl (by decide) ?_
  refine go_sub (lv' := [(0, .ref a0), (1, .ref a1), (2, .int i2), (3, .int i3), (4, .int i4), (5, .int x2), (6, .int (0 : Int32))]) [2, 3, 4, 5, 6, 1, 0] rfl ?_
  exact t_Mo_pair_12 hd  _ a0 a1 i2 i3 i4 x2 (0 : Int32) h hf
theorem c_Mo_pair {l : Launch} {E : ET} {d : Nat} (hd : 3 ≤ d) {F : Nat} {r : Int32} {h9 : PH} {x : Nat} {a0 : Nat} {a1 : Nat} {i2 : Int32} {i3 : Int32} {i4 : Int32} {h : PH} (hf : f_Mo_pair F a0 a1 i2 i3 i4 h = some (r, h9)) : Fn l E m_Mo_pair d 0 0 [.ref a0, .ref a1, .int i2, .int i3, .int i4] h x (PoE (some (.int r)) h9 x) :=
  Fn.of (by decide +kernel) (Nat.le_of_ble_eq_true rfl) (g_Mo_pair_0 hd a0 a1 i2 i3 i4 h hf)
theorem d_Mo_pairs_0 : decode prog_13_method_36_code 0 = .ok (.iconst 0, 1) := by decide +kernel
theorem d_Mo_pairs_1 : decode prog_13_method_36_code 1 = .ok (.istore_n 2, 1) := by decide +kernel
theorem d_Mo_pairs_2 : decode prog_13_method_36_code 2 = .ok (.iload_n 2, 1) := by decide +kernel
theorem d_Mo_pairs_3 : decode prog_13_method_36_code 3 = .ok (.bipush 18, 2) := by decide +kernel
theorem d_Mo_pairs_5 : decode prog_13_method_36_code 5 = .ok (.if_icmp .ge 90, 3) := by decide +kernel
theorem d_Mo_pairs_8 : decode prog_13_method_36_code 8 = .ok (.iconst 0, 1) := by decide +kernel
theorem d_Mo_pairs_9 : decode prog_13_method_36_code 9 = .ok (.istore_n 3, 1) := by decide +kernel
theorem d_Mo_pairs_10 : decode prog_13_method_36_code 10 = .ok (.iload_n 3, 1) := by decide +kernel
theorem d_Mo_pairs_11 : decode prog_13_method_36_code 11 = .ok (.iconst 5, 1) := by decide +kernel
theorem d_Mo_pairs_12 : decode prog_13_method_36_code 12 = .ok (.if_icmp .ge 77, 3) := by decide +kernel
theorem d_Mo_pairs_15 : decode prog_13_method_36_code 15 = .ok (.iload_n 3, 1) := by decide +kernel
theorem d_Mo_pairs_16 : decode prog_13_method_36_code 16 = .ok (.iconst 1, 1) := by decide +kernel
theorem d_Mo_pairs_17 : decode prog_13_method_36_code 17 = .ok (.iadd, 1) := by decide +kernel
theorem d_Mo_pairs_18 : decode prog_13_method_36_code 18 = .ok (.istore 4, 2) := by decide +kernel
theorem d_Mo_pairs_20 : decode prog_13_method_36_code 20 = .ok (.iload 4, 2) := by decide +kernel
theorem d_Mo_pairs_22 : decode prog_13_method_36_code 22 = .ok (.bipush 6, 2) := by decide +kernel
theorem d_Mo_pairs_24 : decode prog_13_method_36_code 24 = .ok (.if_icmp .ge 59, 3) := by decide +kernel
theorem d_Mo_pairs_27 : decode prog_13_method_36_code 27 = .ok (.aload_n 1, 1) := by decide +kernel
theorem d_Mo_pairs_28 : decode prog_13_method_36_code 28 = .ok (.iload_n 2, 1) := by decide +kernel
theorem d_Mo_pairs_29 : decode prog_13_method_36_code 29 = .ok (.iload_n 3, 1) := by decide +kernel
theorem d_Mo_pairs_30 : decode prog_13_method_36_code 30 = .ok (.invokestatic 111, 3) := by decide +kernel
theorem d_Mo_pairs_33 : decode prog_13_method_36_code 33 = .ok (.iaload, 1) := by decide +kernel
theorem d_Mo_pairs_34 : decode prog_13_method_36_code 34 = .ok (.istore 5, 2) := by decide +kernel
theorem d_Mo_pairs_36 : decode prog_13_method_36_code 36 = .ok (.iload 5, 2) := by decide +kernel
theorem d_Mo_pairs_38 : decode prog_13_method_36_code 38 = .ok (.invokestatic 98, 3) := by decide +kernel
theorem d_Mo_pairs_41 : decode prog_13_method_36_code 41 = .ok (.iconst 2, 1) := by decide +kernel
theorem d_Mo_pairs_42 : decode prog_13_method_36_code 42 = .ok (.if_icmp .ne 35, 3) := by decide +kernel
theorem d_Mo_pairs_45 : decode prog_13_method_36_code 45 = .ok (.aload_n 1, 1) := by decide +kernel
theorem d_Mo_pairs_46 : decode prog_13_method_36_code 46 = .ok (.iload_n 2, 1) := by decide +kernel
theorem d_Mo_pairs_47 : decode prog_13_method_36_code 47 = .ok (.iload 4, 2) := by decide +kernel
theorem d_Mo_pairs_49 : decode prog_13_method_36_code 49 = .ok (.invokestatic 111, 3) := by decide +kernel
theorem d_Mo_pairs_52 : decode prog_13_method_36_code 52 = .ok (.iaload, 1) := by decide +kernel
theorem d_Mo_pairs_53 : decode prog_13_method_36_code 53 = .ok (.iload 5, 2) := by decide +kernel
theorem d_Mo_pairs_55 : decode prog_13_method_36_code 55 = .ok (.if_icmp .ne 22, 3) := by decide +kernel
theorem d_Mo_pairs_58 : decode prog_13_method_36_code 58 = .ok (.aload_n 0, 1) := by decide +kernel
theorem d_Mo_pairs_59 : decode prog_13_method_36_code 59 = .ok (.aload_n 1, 1) := by decide +kernel
theorem d_Mo_pairs_60 : decode prog_13_method_36_code 60 = .ok (.iload_n 2, 1) := by decide +kernel
theorem d_Mo_pairs_61 : decode prog_13_method_36_code 61 = .ok (.iload_n 3, 1) := by decide +kernel
theorem d_Mo_pairs_62 : decode prog_13_method_36_code 62 = .ok (.iload 4, 2) := by decide +kernel
theorem d_Mo_pairs_64 : decode prog_13_method_36_code 64 = .ok (.invokevirtual 151, 3) := by decide +kernel
theorem d_Mo_pairs_67 : decode prog_13_method_36_code 67 = .ok (.ifCond .eq 10, 3) := by decide +kernel
theorem d_Mo_pairs_70 : decode prog_13_method_36_code 70 = .ok (.aload_n 0, 1) := by decide +kernel
theorem d_Mo_pairs_71 : decode prog_13_method_36_code 71 = .ok (.iload_n 2, 1) := by decide +kernel
theorem d_Mo_pairs_72 : decode prog_13_method_36_code 72 = .ok (.putfield 101, 3) := by decide +kernel
theorem d_Mo_pairs_75 : decode prog_13_method_36_code 75 = .ok (.iconst 1, 1) := by decide +kernel
theorem d_Mo_pairs_76 : decode prog_13_method_36_code 76 = .ok (.ireturn, 1) := by decide +kernel
theorem d_Mo_pairs_77 : decode prog_13_method_36_code 77 = .ok (.iinc 4 1, 3) := by decide +kernel
theorem d_Mo_pairs_80 : decode prog_13_method_36_code 80 = .ok (.goto (-60), 3) := by decide +kernel
theorem d_Mo_pairs_83 : decode prog_13_method_36_code 83 = .ok (.iinc 3 1, 3) := by decide +kernel
theorem d_Mo_pairs_86 : decode prog_13_method_36_code 86 = .ok (.goto (-76), 3) := by decide +kernel
theorem d_Mo_pairs_89 : decode prog_13_method_36_code 89 = .ok (.iinc 2 1, 3) := by decide +kernel
theorem d_Mo_pairs_92 : decode prog_13_method_36_code 92 = .ok (.goto (-90), 3) := by decide +kernel
theorem d_Mo_pairs_95 : decode prog_13_method_36_code 95 = .ok (.iconst 0, 1) := by decide +kernel
theorem d_Mo_pairs_96 : decode prog_13_method_36_code 96 = .ok (.ireturn, 1) := by decide +kernel
def b_Mo_pairs_77 (F : Nat) (k20 : Nat → Nat → Int32 → Int32 → Int32 → PH → Option (Int32 × PH)) (a0 : Nat) (a1 : Nat) (i2 : Int32) (i3 : Int32) (i4 : Int32) (h : PH) : Option (Int32 × PH) :=
  k20 a0 a1 i2 i3 (i4 + (1 : Int32)) h
theorem g_Mo_pairs_77 {l : Launch} {E : ET} {d : Nat} (hd : 4 ≤ d) {F : Nat} {r : Int32} {h9 : PH} {x : Nat} {k20 : Nat → Nat → Int32 → Int32 → Int32 → PH → Option (Int32 × PH)} (hk20 : ∀ (a0 : Nat) (a1 : Nat) (i2 : Int32) (i3 : Int32) (i4 : Int32) (hh : PH), k20 a0 a1 i2 i3 i4 hh = some (r, h9) → Go l E m_Mo_pairs (rm d 0 0) (KM E 0 0 (PoE (some (.int r)) h9 x)) 0 0 hh x 20 [(0, .ref a0), (1, .ref a1), (2, .int i2), (3, .int i3), (4, .int i4)] []) (a0 : Nat) (a1 : Nat) (i2 : Int32) (i3 : Int32) (i4 : Int32) (h : PH) (hf : b_Mo_pairs_77 F k20 a0 a1 i2 i3 i4 h = some (r, h9)) : Go l E m_Mo_pairs (rm d 0 0) (KM E 0 0 (PoE (some (.int r)) h9 x)) 0 0 h x 77 [(0, .ref a0), (1, .ref a1), (2, .int i2), (3, .int i3), (4, .int i4)] [] := by
  unfold b_Mo_pairs_77 at hf
  refine go_iinc (lv' := [(4, .int (i4 + (1 : Int32))), (0, .ref a0), (1, .ref a1), (2, .int i2), (3, .int i3)]) 4 (i4 + (1 : Int32)) d_Mo_pairs_77 rfl rfl rfl (by decide) ?_
  refine go_goto 20 d_Mo_pairs_80 (by decide) ?_
  refine go_sub (lv' := [(0, .ref a0), (1, .ref a1), (2, .int i2), (3, .int i3), (4, .int (i4 + (1 : Int32)))]) [1, 2, 3, 4, 0] rfl ?_
  exact hk20 a0 a1 i2 i3 (i4 + (1 : Int32)) h hf
def b_Mo_pairs_20 (F : Nat) (k10 : Nat → Nat → Int32 → Int32 → PH → Option (Int32 × PH)) (k20 : Nat → Nat → Int32 → Int32 → Int32 → PH → Option (Int32 × PH)) (a0 : Nat) (a1 : Nat) (i2 : Int32) (i3 : Int32) (i4 : Int32) (h : PH) : Option (Int32 × PH) :=
  (if (6 : Int32) ≤ i4 then k10 a0 a1 i2 (i3 + (1 : Int32)) h else bnd (f_Mo_cellIn i2 i3) fun x1 => bnd (aI h a1 x1) fun x2 => bnd (f_Mo_size F x2) fun x3 => (if x3 = (2 : Int32) then bnd (f_Mo_cellIn i2 i4) fun x4 => bnd (aI h a1 x4) fun x5 => (if x5 = x2 then bnd (cK h a0 10) fun _ => bnd2 (f_Mo_pair F a0 a1 i2 i3 i4 h) fun x7 h8 => (if x7 = (0 : Int32) then b_Mo_pairs_77 F k20 a0 a1 i2 i3 i4 h8 else bnd (pV h8 a0 10 7 (.int i2)) fun h9 => some ((1 : Int32), h9)) else b_Mo_pairs_77 F k20 a0 a1 i2 i3 i4 h) else b_Mo_pairs_77 F k20 a0 a1 i2 i3 i4 h))
def f_Mo_pairs_20 (F : Nat) (k10 : Nat → Nat → Int32 → Int32 → PH → Option (Int32 × PH)) : Nat → Nat → Nat → Int32 → Int32 → Int32 → PH → Option (Int32 × PH)
  | 0 => fun _ _ _ _ _ _ => none
  | n + 1 => b_Mo_pairs_20 F k10 (f_Mo_pairs_20 F k10 n)
theorem g_Mo_pairs_20 {l : Launch} {E : ET} {d : Nat} (hd : 4 ≤ d) {F : Nat} {r : Int32} {h9 : PH} {x : Nat} {k10 : Nat → Nat → Int32 → Int32 → PH → Option (Int32 × PH)} (hk10 : ∀ (a0 : Nat) (a1 : Nat) (i2 : Int32) (i3 : Int32) (hh : PH), k10 a0 a1 i2 i3 hh = some (r, h9) → Go l E m_Mo_pairs (rm d 0 0) (KM E 0 0 (PoE (some (.int r)) h9 x)) 0 0 hh x 10 [(0, .ref a0), (1, .ref a1), (2, .int i2), (3, .int i3)] []) {k20 : Nat → Nat → Int32 → Int32 → Int32 → PH → Option (Int32 × PH)} (hk20 : ∀ (a0 : Nat) (a1 : Nat) (i2 : Int32) (i3 : Int32) (i4 : Int32) (hh : PH), k20 a0 a1 i2 i3 i4 hh = some (r, h9) → Go l E m_Mo_pairs (rm d 0 0) (KM E 0 0 (PoE (some (.int r)) h9 x)) 0 0 hh x 20 [(0, .ref a0), (1, .ref a1), (2, .int i2), (3, .int i3), (4, .int i4)] []) (a0 : Nat) (a1 : Nat) (i2 : Int32) (i3 : Int32) (i4 : Int32) (h : PH) (hf : b_Mo_pairs_20 F k10 k20 a0 a1 i2 i3 i4 h = some (r, h9)) : Go l E m_Mo_pairs (rm d 0 0) (KM E 0 0 (PoE (some (.int r)) h9 x)) 0 0 h x 20 [(0, .ref a0), (1, .ref a1), (2, .int i2), (3, .int i3), (4, .int i4)] [] := by
  unfold b_Mo_pairs_20 at hf
  refine go_iload 4 d_Mo_pairs_20 rfl ?_
  refine go_bipush (6 : Int32) d_Mo_pairs_22 (by decide) ?_
  refine go_icmp_ge 83 d_Mo_pairs_24 (by decide) (fun q13 => ?_) (fun q13 => ?_)
  · rw [if_pos q13] at hf
    refine go_iinc (lv' := [(3, .int (i3 + (1 : Int32))), (0, .ref a0), (1, .ref a1), (2, .int i2), (4, .int i4)]) 3 (i3 + (1 : Int32)) d_Mo_pairs_83 rfl rfl rfl (by decide) ?_
    refine go_goto 10 d_Mo_pairs_86 (by decide) ?_
    refine go_sub (lv' := [(0, .ref a0), (1, .ref a1), (2, .int i2), (3, .int (i3 + (1 : Int32)))]) [1, 2, 3, 0] rfl ?_
    exact hk10 a0 a1 i2 (i3 + (1 : Int32)) h hf
  · rw [if_neg q13] at hf
    refine go_aload_n 1 d_Mo_pairs_27 rfl ?_
    refine go_iload_n 2 d_Mo_pairs_28 rfl ?_
    refine go_iload_n 3 d_Mo_pairs_29 rfl ?_
    obtain ⟨x1, e_x1, hf⟩ := bnd_x hf
    refine go_callS_I (As := [.int i2, .int i3]) (st := [.ref a1]) (c_Mo_cellIn (d := d - 1) (by omega) e_x1) lk_Mo_111 rfl rfl (rm_ok (by omega)) (Nat.le_of_ble_eq_true rfl) rm_c d_Mo_pairs_30 ?_
    obtain ⟨x2, e_x2, hf⟩ := bnd_x hf
    refine go_iaload d_Mo_pairs_33 e_x2 ?_
    refine go_istore (lv' := [(5, .int x2), (0, .ref a0), (1, .ref a1), (2, .int i2), (3, .int i3), (4, .int i4)]) d_Mo_pairs_34 rfl (by decide) ?_
    refine go_iload 0 d_Mo_pairs_36 rfl ?_
    obtain ⟨x3, e_x3, hf⟩ := bnd_x hf
    refine go_callS_I (As := [.int x2]) (st := []) (c_Mo_size (d := d - 1) (by omega) e_x3) lk_Mo_98 rfl rfl (rm_ok (by omega)) (Nat.le_of_ble_eq_true rfl) rm_c d_Mo_pairs_38 ?_
    refine go_iconst (2 : Int32) d_Mo_pairs_41 (by decide) ?_
    refine go_icmp_ne 77 d_Mo_pairs_42 (by decide) (fun q12 => ?_) (fun q12 => ?_)
    · rw [if_neg q12] at hf
      refine go_sub (lv' := [(0, .ref a0), (1, .ref a1), (2, .int i2), (3, .int i3), (4, .int i4)]) [1, 2, 3, 4, 5] rfl ?_
      exact g_Mo_pairs_77 hd hk20 a0 a1 i2 i3 i4 h hf
    · rw [if_pos q12] at hf
      refine go_aload_n 2 d_Mo_pairs_45 rfl ?_
      refine go_iload_n 3 d_Mo_pairs_46 rfl ?_
      refine go_iload 5 d_Mo_pairs_47 rfl ?_
      obtain ⟨x4, e_x4, hf⟩ := bnd_x hf
      refine go_callS_I (As := [.int i2, .int i4]) (st := [.ref a1]) (c_Mo_cellIn (d := d - 1) (by omega) e_x4) lk_Mo_111 rfl rfl (rm_ok (by omega)) (Nat.le_of_ble_eq_true rfl) rm_c d_Mo_pairs_49 ?_
      obtain ⟨x5, e_x5, hf⟩ := bnd_x hf
      refine go_iaload d_Mo_pairs_52 e_x5 ?_
      refine go_iload 0 d_Mo_pairs_53 rfl ?_
      refine go_icmp_ne 77 d_Mo_pairs_55 (by decide) (fun q11 => ?_) (fun q11 => ?_)
      · rw [if_neg q11] at hf
        refine go_sub (lv' := [(0, .ref a0), (1, .ref a1), (2, .int i2), (3, .int i3), (4, .int i4)]) [1, 2, 3, 4, 5] rfl ?_
        exact g_Mo_pairs_77 hd hk20 a0 a1 i2 i3 i4 h hf
      · rw [if_pos q11] at hf
        refine go_aload_n 1 d_Mo_pairs_58 rfl ?_
        refine go_aload_n 2 d_Mo_pairs_59 rfl ?_
        refine go_iload_n 3 d_Mo_pairs_60 rfl ?_
        refine go_iload_n 4 d_Mo_pairs_61 rfl ?_
        refine go_iload 5 d_Mo_pairs_62 rfl ?_
        obtain ⟨_, e6, hf⟩ := bnd_x hf
        obtain ⟨x7, h8, e_x7, hf⟩ := bnd2_x hf
        refine go_callV_I (As := [.ref a1, .int i2, .int i3, .int i4]) (st := []) (c_Mo_pair (d := d - 1) (by omega) e_x7) lk_Mo_151 rfl rfl e6 (by decide) rfl (rm_ok (by omega)) (Nat.le_of_ble_eq_true rfl) rm_c d_Mo_pairs_64 ?_
        refine go_if_eq 77 d_Mo_pairs_67 (by decide) (fun q10 => ?_) (fun q10 => ?_)
        · rw [if_pos q10] at hf
          refine go_sub (lv' := [(0, .ref a0), (1, .ref a1), (2, .int i2), (3, .int i3), (4, .int i4)]) [1, 2, 3, 4, 5] rfl ?_
          exact g_Mo_pairs_77 hd hk20 a0 a1 i2 i3 i4 h8 hf
        · rw [if_neg q10] at hf
          refine go_aload_n 1 d_Mo_pairs_70 rfl ?_
          refine go_iload_n 3 d_Mo_pairs_71 rfl ?_
          obtain ⟨h9, e_h9, hf⟩ := bnd_x hf
          refine go_putI d_Mo_pairs_72 e_h9 fl_Mo_101 rfl rfl ?_
          refine go_iconst (1 : Int32) d_Mo_pairs_75 (by decide) ?_
          obtain ⟨e8, e9⟩ := Prod.mk.inj (Option.some.inj hf)
          subst e8; subst e9
          exact go_zret d_Mo_pairs_76 rfl rfl ⟨rfl, rfl, rfl⟩
theorem t_Mo_pairs_20 {l : Launch} {E : ET} {d : Nat} (hd : 4 ≤ d) {F : Nat} {r : Int32} {h9 : PH} {x : Nat} {k10 : Nat → Nat → Int32 → Int32 → PH → Option (Int32 × PH)} (hk10 : ∀ (a0 : Nat) (a1 : Nat) (i2 : Int32) (i3 : Int32) (hh : PH), k10 a0 a1 i2 i3 hh = some (r, h9) → Go l E m_Mo_pairs (rm d 0 0) (KM E 0 0 (PoE (some (.int r)) h9 x)) 0 0 hh x 10 [(0, .ref a0), (1, .ref a1), (2, .int i2), (3, .int i3)] []) : ∀ (n : Nat) (a0 : Nat) (a1 : Nat) (i2 : Int32) (i3 : Int32) (i4 : Int32) (hh : PH), f_Mo_pairs_20 F k10 n a0 a1 i2 i3 i4 hh = some (r, h9) → Go l E m_Mo_pairs (rm d 0 0) (KM E 0 0 (PoE (some (.int r)) h9 x)) 0 0 hh x 20 [(0, .ref a0), (1, .ref a1), (2, .int i2), (3, .int i3), (4, .int i4)] [] := by
  intro n
  induction n with
  | zero => intro v0 v1 v2 v3 v4 v5 hf; cases hf
  | succ n ih => intro v0 v1 v2 v3 v4 v5 hf; exact g_Mo_pairs_20 hd hk10 ih v0 v1 v2 v3 v4 v5 hf
def b_Mo_pairs_10 (F : Nat) (k2 : Nat → Nat → Int32 → PH → Option (Int32 × PH)) (k10 : Nat → Nat → Int32 → Int32 → PH → Option (Int32 × PH)) (a0 : Nat) (a1 : Nat) (i2 : Int32) (i3 : Int32) (h : PH) : Option (Int32 × PH) :=
  (if (5 : Int32) ≤ i3 then k2 a0 a1 (i2 + (1 : Int32)) h else bnd (some (i3 + (1 : Int32))) fun y1 => f_Mo_pairs_20 F k10 F a0 a1 i2 i3 y1 h)
def f_Mo_pairs_10 (F : Nat) (k2 : Nat → Nat → Int32 → PH → Option (Int32 × PH)) : Nat → Nat → Nat → Int32 → Int32 → PH → Option (Int32 × PH)
  | 0 => fun _ _ _ _ _ => none
  | n + 1 => b_Mo_pairs_10 F k2 (f_Mo_pairs_10 F k2 n)
theorem g_Mo_pairs_10 {l : Launch} {E : ET} {d : Nat} (hd : 4 ≤ d) {F : Nat} {r : Int32} {h9 : PH} {x : Nat} {k2 : Nat → Nat → Int32 → PH → Option (Int32 × PH)} (hk2 : ∀ (a0 : Nat) (a1 : Nat) (i2 : Int32) (hh : PH), k2 a0 a1 i2 hh = some (r, h9) → Go l E m_Mo_pairs (rm d 0 0) (KM E 0 0 (PoE (some (.int r)) h9 x)) 0 0 hh x 2 [(0, .ref a0), (1, .ref a1), (2, .int i2)] []) {k10 : Nat → Nat → Int32 → Int32 → PH → Option (Int32 × PH)} (hk10 : ∀ (a0 : Nat) (a1 : Nat) (i2 : Int32) (i3 : Int32) (hh : PH), k10 a0 a1 i2 i3 hh = some (r, h9) → Go l E m_Mo_pairs (rm d 0 0) (KM E 0 0 (PoE (some (.int r)) h9 x)) 0 0 hh x 10 [(0, .ref a0), (1, .ref a1), (2, .int i2), (3, .int i3)] []) (a0 : Nat) (a1 : Nat) (i2 : Int32) (i3 : Int32) (h : PH) (hf : b_Mo_pairs_10 F k2 k10 a0 a1 i2 i3 h = some (r, h9)) : Go l E m_Mo_pairs (rm d 0 0) (KM E 0 0 (PoE (some (.int r)) h9 x)) 0 0 h x 10 [(0, .ref a0), (1, .ref a1), (2, .int i2), (3, .int i3)] [] := by
  unfold b_Mo_pairs_10 at hf
  refine go_iload_n 3 d_Mo_pairs_10 rfl ?_
  refine go_iconst (5 : Int32) d_Mo_pairs_11 (by decide) ?_
  refine go_icmp_ge 89 d_Mo_pairs_12 (by decide) (fun q2 => ?_) (fun q2 => ?_)
  · rw [if_pos q2] at hf
    refine go_iinc (lv' := [(2, .int (i2 + (1 : Int32))), (0, .ref a0), (1, .ref a1), (3, .int i3)]) 2 (i2 + (1 : Int32)) d_Mo_pairs_89 rfl rfl rfl (by decide) ?_
    refine go_goto 2 d_Mo_pairs_92 (by decide) ?_
    refine go_sub (lv' := [(0, .ref a0), (1, .ref a1), (2, .int (i2 + (1 : Int32)))]) [1, 2, 0] rfl ?_
    exact hk2 a0 a1 (i2 + (1 : Int32)) h hf
  · rw [if_neg q2] at hf
    refine go_iload_n 3 d_Mo_pairs_15 rfl ?_
    refine go_iconst (1 : Int32) d_Mo_pairs_16 (by decide) ?_
    refine go_iadd d_Mo_pairs_17 ?_
    obtain ⟨y1, e_y1, hf⟩ := bnd_x hf
    refine go_nmI e_y1 ?_
    refine go_istore (lv' := [(4, .int y1), (0, .ref a0), (1, .ref a1), (2, .int i2), (3, .int i3)]) d_Mo_pairs_18 rfl (by decide) ?_
    refine go_sub (lv' := [(0, .ref a0), (1, .ref a1), (2, .int i2), (3, .int i3), (4, .int y1)]) [1, 2, 3, 4, 0] rfl ?_
    exact t_Mo_pairs_20 hd hk10 _ a0 a1 i2 i3 y1 h hf
theorem t_Mo_pairs_10 {l : Launch} {E : ET} {d : Nat} (hd : 4 ≤ d) {F : Nat} {r : Int32} {h9 : PH} {x : Nat} {k2 : Nat → Nat → Int32 → PH → Option (Int32 × PH)} (hk2 : ∀ (a0 : Nat) (a1 : Nat) (i2 : Int32) (hh : PH), k2 a0 a1 i2 hh = some (r, h9) → Go l E m_Mo_pairs (rm d 0 0) (KM E 0 0 (PoE (some (.int r)) h9 x)) 0 0 hh x 2 [(0, .ref a0), (1, .ref a1), (2, .int i2)] []) : ∀ (n : Nat) (a0 : Nat) (a1 : Nat) (i2 : Int32) (i3 : Int32) (hh : PH), f_Mo_pairs_10 F k2 n a0 a1 i2 i3 hh = some (r, h9) → Go l E m_Mo_pairs (rm d 0 0) (KM E 0 0 (PoE (some (.int r)) h9 x)) 0 0 hh x 10 [(0, .ref a0), (1, .ref a1), (2, .int i2), (3, .int i3)] [] := by
  intro n
  induction n with
  | zero => intro v0 v1 v2 v3 v4 hf; cases hf
  | succ n ih => intro v0 v1 v2 v3 v4 hf; exact g_Mo_pairs_10 hd hk2 ih v0 v1 v2 v3 v4 hf
def b_Mo_pairs_2 (F : Nat) (k2 : Nat → Nat → Int32 → PH → Option (Int32 × PH)) (a0 : Nat) (a1 : Nat) (i2 : Int32) (h : PH) : Option (Int32 × PH) :=
  (if (18 : Int32) ≤ i2 then some ((0 : Int32), h) else f_Mo_pairs_10 F k2 F a0 a1 i2 (0 : Int32) h)
def f_Mo_pairs_2 (F : Nat) : Nat → Nat → Nat → Int32 → PH → Option (Int32 × PH)
  | 0 => fun _ _ _ _ => none
  | n + 1 => b_Mo_pairs_2 F (f_Mo_pairs_2 F n)
theorem g_Mo_pairs_2 {l : Launch} {E : ET} {d : Nat} (hd : 4 ≤ d) {F : Nat} {r : Int32} {h9 : PH} {x : Nat} {k2 : Nat → Nat → Int32 → PH → Option (Int32 × PH)} (hk2 : ∀ (a0 : Nat) (a1 : Nat) (i2 : Int32) (hh : PH), k2 a0 a1 i2 hh = some (r, h9) → Go l E m_Mo_pairs (rm d 0 0) (KM E 0 0 (PoE (some (.int r)) h9 x)) 0 0 hh x 2 [(0, .ref a0), (1, .ref a1), (2, .int i2)] []) (a0 : Nat) (a1 : Nat) (i2 : Int32) (h : PH) (hf : b_Mo_pairs_2 F k2 a0 a1 i2 h = some (r, h9)) : Go l E m_Mo_pairs (rm d 0 0) (KM E 0 0 (PoE (some (.int r)) h9 x)) 0 0 h x 2 [(0, .ref a0), (1, .ref a1), (2, .int i2)] [] := by
  unfold b_Mo_pairs_2 at hf
  refine go_iload_n 2 d_Mo_pairs_2 rfl ?_
  refine go_bipush (18 : Int32) d_Mo_pairs_3 (by decide) ?_
  refine go_icmp_ge 95 d_Mo_pairs_5 (by decide) (fun q1 => ?_) (fun q1 => ?_)
  · rw [if_pos q1] at hf
    refine go_iconst (0 : Int32) d_Mo_pairs_95 (by decide) ?_
    obtain ⟨e8, e9⟩ := Prod.mk.inj (Option.some.inj hf)
    subst e8; subst e9
    exact go_zret d_Mo_pairs_96 rfl rfl ⟨rfl, rfl, rfl⟩
  · rw [if_neg q1] at hf
    refine go_iconst (0 : Int32) d_Mo_pairs_8 (by decide) ?_
    refine go_istore_n (lv' := [(3, .int (0 : Int32)), (0, .ref a0), (1, .ref a1), (2, .int i2)]) d_Mo_pairs_9 rfl (by decide) ?_
    refine go_sub (lv' := [(0, .ref a0), (1, .ref a1), (2, .int i2), (3, .int (0 : Int32))]) [1, 2, 3, 0] rfl ?_
    exact t_Mo_pairs_10 hd hk2 _ a0 a1 i2 (0 : Int32) h hf
theorem t_Mo_pairs_2 {l : Launch} {E : ET} {d : Nat} (hd : 4 ≤ d) {F : Nat} {r : Int32} {h9 : PH} {x : Nat}  : ∀ (n : Nat) (a0 : Nat) (a1 : Nat) (i2 : Int32) (hh : PH), f_Mo_pairs_2 F n a0 a1 i2 hh = some (r, h9) → Go l E m_Mo_pairs (rm d 0 0) (KM E 0 0 (PoE (some (.int r)) h9 x)) 0 0 hh x 2 [(0, .ref a0), (1, .ref a1), (2, .int i2)] [] := by
  intro n
  induction n with
  | zero => intro v0 v1 v2 v3 hf; cases hf
  | succ n ih => intro v0 v1 v2 v3 hf; exact g_Mo_pairs_2 hd ih v0 v1 v2 v3 hf
def f_Mo_pairs (F : Nat) (a0 : Nat) (a1 : Nat) (h : PH) : Option (Int32 × PH) :=
  f_Mo_pairs_2 F F a0 a1 (0 : Int32) h
theorem g_Mo_pairs_0 {l : Launch} {E : ET} {d : Nat} (hd : 4 ≤ d) {F : Nat} {r : Int32} {h9 : PH} {x : Nat}  (a0 : Nat) (a1 : Nat) (h : PH) (hf : f_Mo_pairs F a0 a1 h = some (r, h9)) : Go l E m_Mo_pairs (rm d 0 0) (KM E 0 0 (PoE (some (.int r)) h9 x)) 0 0 h x 0 [(0, .ref a0), (1, .ref a1)] [] := by
  unfold f_Mo_pairs at hf
  refine go_iconst (0 : Int32) d_Mo_pairs_0 (by decide) ?_
  refine go_istore_n (lv' := [(2, .int (0 : Int32)), (0, .ref a0), (1, .ref a1)]) d_Mo_pairs_1 rfl (by decide) ?_
  refine go_sub (lv' := [(0, .ref a0), (1, .ref a1), (2, .int (0 : Int32))]) [1, 2, 0] rfl ?_
  exact t_Mo_pairs_2 hd  _ a0 a1 (0 : Int32) h hf
theorem c_Mo_pairs {l : Launch} {E : ET} {d : Nat} (hd : 4 ≤ d) {F : Nat} {r : Int32} {h9 : PH} {x : Nat} {a0 : Nat} {a1 : Nat} {h : PH} (hf : f_Mo_pairs F a0 a1 h = some (r, h9)) : Fn l E m_Mo_pairs d 0 0 [.ref a0, .ref a1] h x (PoE (some (.int r)) h9 x) :=
  Fn.of (by decide +kernel) (Nat.le_of_ble_eq_true rfl) (g_Mo_pairs_0 hd a0 a1 h hf)
theorem d_Mo_does_0 : decode prog_13_method_39_code 0 = .ok (.aload_n 0, 1) := by decide +kernel
theorem d_Mo_does_1 : decode prog_13_method_39_code 1 = .ok (.getfield 154, 3) := by decide +kernel
theorem d_Mo_does_4 : decode prog_13_method_39_code 4 = .ok (.tableswitch 79 1 6 #[40, 46, 52, 59, 66, 73], 40) := by decide +kernel
theorem d_Mo_does_44 : decode prog_13_method_39_code 44 = .ok (.aload_n 0, 1) := by decide +kernel
theorem d_Mo_does_45 : decode prog_13_method_39_code 45 = .ok (.aload_n 1, 1) := by decide +kernel
theorem d_Mo_does_46 : decode prog_13_method_39_code 46 = .ok (.invokevirtual 160, 3) := by decide +kernel
theorem d_Mo_does_49 : decode prog_13_method_39_code 49 = .ok (.ireturn, 1) := by decide +kernel
theorem d_Mo_does_50 : decode prog_13_method_39_code 50 = .ok (.aload_n 0, 1) := by decide +kernel
theorem d_Mo_does_51 : decode prog_13_method_39_code 51 = .ok (.aload_n 1, 1) := by decide +kernel
theorem d_Mo_does_52 : decode prog_13_method_39_code 52 = .ok (.invokevirtual 163, 3) := by decide +kernel
theorem d_Mo_does_55 : decode prog_13_method_39_code 55 = .ok (.ireturn, 1) := by decide +kernel
theorem d_Mo_does_56 : decode prog_13_method_39_code 56 = .ok (.aload_n 0, 1) := by decide +kernel
theorem d_Mo_does_57 : decode prog_13_method_39_code 57 = .ok (.aload_n 1, 1) := by decide +kernel
theorem d_Mo_does_58 : decode prog_13_method_39_code 58 = .ok (.iconst 2, 1) := by decide +kernel
theorem d_Mo_does_59 : decode prog_13_method_39_code 59 = .ok (.invokevirtual 166, 3) := by decide +kernel
theorem d_Mo_does_62 : decode prog_13_method_39_code 62 = .ok (.ireturn, 1) := by decide +kernel
theorem d_Mo_does_63 : decode prog_13_method_39_code 63 = .ok (.aload_n 0, 1) := by decide +kernel
theorem d_Mo_does_64 : decode prog_13_method_39_code 64 = .ok (.aload_n 1, 1) := by decide +kernel
theorem d_Mo_does_65 : decode prog_13_method_39_code 65 = .ok (.iconst 0, 1) := by decide +kernel
theorem d_Mo_does_66 : decode prog_13_method_39_code 66 = .ok (.invokevirtual 166, 3) := by decide +kernel
theorem d_Mo_does_69 : decode prog_13_method_39_code 69 = .ok (.ireturn, 1) := by decide +kernel
theorem d_Mo_does_70 : decode prog_13_method_39_code 70 = .ok (.aload_n 0, 1) := by decide +kernel
theorem d_Mo_does_71 : decode prog_13_method_39_code 71 = .ok (.aload_n 1, 1) := by decide +kernel
theorem d_Mo_does_72 : decode prog_13_method_39_code 72 = .ok (.iconst 1, 1) := by decide +kernel
theorem d_Mo_does_73 : decode prog_13_method_39_code 73 = .ok (.invokevirtual 166, 3) := by decide +kernel
theorem d_Mo_does_76 : decode prog_13_method_39_code 76 = .ok (.ireturn, 1) := by decide +kernel
theorem d_Mo_does_77 : decode prog_13_method_39_code 77 = .ok (.aload_n 0, 1) := by decide +kernel
theorem d_Mo_does_78 : decode prog_13_method_39_code 78 = .ok (.aload_n 1, 1) := by decide +kernel
theorem d_Mo_does_79 : decode prog_13_method_39_code 79 = .ok (.invokevirtual 169, 3) := by decide +kernel
theorem d_Mo_does_82 : decode prog_13_method_39_code 82 = .ok (.ireturn, 1) := by decide +kernel
theorem d_Mo_does_83 : decode prog_13_method_39_code 83 = .ok (.aload_n 0, 1) := by decide +kernel
theorem d_Mo_does_84 : decode prog_13_method_39_code 84 = .ok (.aload_n 1, 1) := by decide +kernel
theorem d_Mo_does_85 : decode prog_13_method_39_code 85 = .ok (.invokevirtual 172, 3) := by decide +kernel
theorem d_Mo_does_88 : decode prog_13_method_39_code 88 = .ok (.ireturn, 1) := by decide +kernel
def f_Mo_does (F : Nat) (a0 : Nat) (a1 : Nat) (h : PH) : Option (Int32 × PH) :=
  bnd (gI h a0 10 6) fun x1 => (if x1 = (1 : Int32) then bnd (cK h a0 10) fun _ => bnd2 (f_Mo_singles F a0 a1 h) fun x4 h5 => bnd (cZ x4) fun _ => some (x4, h5) else (if x1 = (2 : Int32) then bnd (cK h a0 10) fun _ => bnd2 (f_Mo_onlyPlaces F a0 a1 h) fun x9 h10 => bnd (cZ x9) fun _ => some (x9, h10) else (if x1 = (3 : Int32) then bnd (cK h a0 10) fun _ => bnd2 (f_Mo_constraints F a0 a1 (2 : Int32) h) fun x14 h15 => bnd (cZ x14) fun _ => some (x14, h15) else (if x1 = (4 : Int32) then bnd (cK h a0 10) fun _ => bnd2 (f_Mo_constraints F a0 a1 (0 : Int32) h) fun x19 h20 => bnd (cZ x19) fun _ => some (x19, h20) else (if x1 = (5 : Int32) then bnd (cK h a0 10) fun _ => bnd2 (f_Mo_constraints F a0 a1 (1 : Int32) h) fun x24 h25 => bnd (cZ x24) fun _ => some (x24, h25) else (if x1 = (6 : Int32) then bnd (cK h a0 10) fun _ => bnd2 (f_Mo_locked F a0 a1 h) fun x29 h30 => bnd (cZ x29) fun _ => some (x29, h30) else bnd (cK h a0 10) fun _ => bnd2 (f_Mo_pairs F a0 a1 h) fun x33 h34 => bnd (cZ x33) fun _ => some (x33, h34)))))))
theorem g_Mo_does_0 {l : Launch} {E : ET} {d : Nat} (hd : 5 ≤ d) {F : Nat} {r : Int32} {h9 : PH} {x : Nat}  (a0 : Nat) (a1 : Nat) (h : PH) (hf : f_Mo_does F a0 a1 h = some (r, h9)) : Go l E m_Mo_does (rm d 0 0) (KM E 0 0 (PoE (some (.int r)) h9 x)) 0 0 h x 0 [(0, .ref a0), (1, .ref a1)] [] := by
  unfold f_Mo_does at hf
  refine go_aload_n 0 d_Mo_does_0 rfl ?_
  obtain ⟨x1, e_x1, hf⟩ := bnd_x hf
  refine go_get d_Mo_does_1 (gI_x e_x1) fl_Mo_154 ?_
  by_cases q2 : x1 = (1 : Int32)
  · rw [if_pos q2] at hf
    refine go_tableIn 44 d_Mo_does_4 (by rw [q2]; decide) (by rw [q2]; decide) (by rw [q2]; rfl) (by decide) ?_
    refine go_aload_n 0 d_Mo_does_44 rfl ?_
    refine go_aload_n 1 d_Mo_does_45 rfl ?_
    obtain ⟨_, e3, hf⟩ := bnd_x hf
    obtain ⟨x4, h5, e_x4, hf⟩ := bnd2_x hf
    refine go_callV_I (As := [.ref a1]) (st := []) (c_Mo_singles (d := d - 1) (by omega) e_x4) lk_Mo_160 rfl rfl e3 (by decide) rfl (rm_ok (by omega)) (Nat.le_of_ble_eq_true rfl) rm_c d_Mo_does_46 ?_
    obtain ⟨_, e6, hf⟩ := bnd_x hf
    obtain ⟨e8, e9⟩ := Prod.mk.inj (Option.some.inj hf)
    subst e8; subst e9
    exact go_zret d_Mo_does_49 e6 rfl ⟨rfl, rfl, rfl⟩
  · rw [if_neg q2] at hf
    by_cases q7 : x1 = (2 : Int32)
    · rw [if_pos q7] at hf
      refine go_tableIn 50 d_Mo_does_4 (by rw [q7]; decide) (by rw [q7]; decide) (by rw [q7]; rfl) (by decide) ?_
      refine go_aload_n 0 d_Mo_does_50 rfl ?_
      refine go_aload_n 1 d_Mo_does_51 rfl ?_
      obtain ⟨_, e8, hf⟩ := bnd_x hf
      obtain ⟨x9, h10, e_x9, hf⟩ := bnd2_x hf
      refine go_callV_I (As := [.ref a1]) (st := []) (c_Mo_onlyPlaces (d := d - 1) (by omega) e_x9) lk_Mo_163 rfl rfl e8 (by decide) rfl (rm_ok (by omega)) (Nat.le_of_ble_eq_true rfl) rm_c d_Mo_does_52 ?_
      obtain ⟨_, e11, hf⟩ := bnd_x hf
      obtain ⟨e8, e9⟩ := Prod.mk.inj (Option.some.inj hf)
      subst e8; subst e9
      exact go_zret d_Mo_does_55 e11 rfl ⟨rfl, rfl, rfl⟩
    · rw [if_neg q7] at hf
      by_cases q12 : x1 = (3 : Int32)
      · rw [if_pos q12] at hf
        refine go_tableIn 56 d_Mo_does_4 (by rw [q12]; decide) (by rw [q12]; decide) (by rw [q12]; rfl) (by decide) ?_
        refine go_aload_n 0 d_Mo_does_56 rfl ?_
        refine go_aload_n 1 d_Mo_does_57 rfl ?_
        refine go_iconst (2 : Int32) d_Mo_does_58 (by decide) ?_
        obtain ⟨_, e13, hf⟩ := bnd_x hf
        obtain ⟨x14, h15, e_x14, hf⟩ := bnd2_x hf
        refine go_callV_I (As := [.ref a1, .int (2 : Int32)]) (st := []) (c_Mo_constraints (d := d - 1) (by omega) e_x14) lk_Mo_166 rfl rfl e13 (by decide) rfl (rm_ok (by omega)) (Nat.le_of_ble_eq_true rfl) rm_c d_Mo_does_59 ?_
        obtain ⟨_, e16, hf⟩ := bnd_x hf
        obtain ⟨e8, e9⟩ := Prod.mk.inj (Option.some.inj hf)
        subst e8; subst e9
        exact go_zret d_Mo_does_62 e16 rfl ⟨rfl, rfl, rfl⟩
      · rw [if_neg q12] at hf
        by_cases q17 : x1 = (4 : Int32)
        · rw [if_pos q17] at hf
          refine go_tableIn 63 d_Mo_does_4 (by rw [q17]; decide) (by rw [q17]; decide) (by rw [q17]; rfl) (by decide) ?_
          refine go_aload_n 0 d_Mo_does_63 rfl ?_
          refine go_aload_n 1 d_Mo_does_64 rfl ?_
          refine go_iconst (0 : Int32) d_Mo_does_65 (by decide) ?_
          obtain ⟨_, e18, hf⟩ := bnd_x hf
          obtain ⟨x19, h20, e_x19, hf⟩ := bnd2_x hf
          refine go_callV_I (As := [.ref a1, .int (0 : Int32)]) (st := []) (c_Mo_constraints (d := d - 1) (by omega) e_x19) lk_Mo_166 rfl rfl e18 (by decide) rfl (rm_ok (by omega)) (Nat.le_of_ble_eq_true rfl) rm_c d_Mo_does_66 ?_
          obtain ⟨_, e21, hf⟩ := bnd_x hf
          obtain ⟨e8, e9⟩ := Prod.mk.inj (Option.some.inj hf)
          subst e8; subst e9
          exact go_zret d_Mo_does_69 e21 rfl ⟨rfl, rfl, rfl⟩
        · rw [if_neg q17] at hf
          by_cases q22 : x1 = (5 : Int32)
          · rw [if_pos q22] at hf
            refine go_tableIn 70 d_Mo_does_4 (by rw [q22]; decide) (by rw [q22]; decide) (by rw [q22]; rfl) (by decide) ?_
            refine go_aload_n 0 d_Mo_does_70 rfl ?_
            refine go_aload_n 1 d_Mo_does_71 rfl ?_
            refine go_iconst (1 : Int32) d_Mo_does_72 (by decide) ?_
            obtain ⟨_, e23, hf⟩ := bnd_x hf
            obtain ⟨x24, h25, e_x24, hf⟩ := bnd2_x hf
            refine go_callV_I (As := [.ref a1, .int (1 : Int32)]) (st := []) (c_Mo_constraints (d := d - 1) (by omega) e_x24) lk_Mo_166 rfl rfl e23 (by decide) rfl (rm_ok (by omega)) (Nat.le_of_ble_eq_true rfl) rm_c d_Mo_does_73 ?_
            obtain ⟨_, e26, hf⟩ := bnd_x hf
            obtain ⟨e8, e9⟩ := Prod.mk.inj (Option.some.inj hf)
            subst e8; subst e9
            exact go_zret d_Mo_does_76 e26 rfl ⟨rfl, rfl, rfl⟩
          · rw [if_neg q22] at hf
            by_cases q27 : x1 = (6 : Int32)
            · rw [if_pos q27] at hf
              refine go_tableIn 77 d_Mo_does_4 (by rw [q27]; decide) (by rw [q27]; decide) (by rw [q27]; rfl) (by decide) ?_
              refine go_aload_n 0 d_Mo_does_77 rfl ?_
              refine go_aload_n 1 d_Mo_does_78 rfl ?_
              obtain ⟨_, e28, hf⟩ := bnd_x hf
              obtain ⟨x29, h30, e_x29, hf⟩ := bnd2_x hf
              refine go_callV_I (As := [.ref a1]) (st := []) (c_Mo_locked (d := d - 1) (by omega) e_x29) lk_Mo_169 rfl rfl e28 (by decide) rfl (rm_ok (by omega)) (Nat.le_of_ble_eq_true rfl) rm_c d_Mo_does_79 ?_
              obtain ⟨_, e31, hf⟩ := bnd_x hf
              obtain ⟨e8, e9⟩ := Prod.mk.inj (Option.some.inj hf)
              subst e8; subst e9
              exact go_zret d_Mo_does_82 e31 rfl ⟨rfl, rfl, rfl⟩
            · rw [if_neg q27] at hf
              refine go_tableOut 83 d_Mo_does_4 (by have g0 := ne_ti (1) (1 : Int32) (by decide) q2; have g1 := ne_ti (2) (2 : Int32) (by decide) q7; have g2 := ne_ti (3) (3 : Int32) (by decide) q12; have g3 := ne_ti (4) (4 : Int32) (by decide) q17; have g4 := ne_ti (5) (5 : Int32) (by decide) q22; have g5 := ne_ti (6) (6 : Int32) (by decide) q27; omega) (by decide) ?_
              refine go_aload_n 0 d_Mo_does_83 rfl ?_
              refine go_aload_n 1 d_Mo_does_84 rfl ?_
              obtain ⟨_, e32, hf⟩ := bnd_x hf
              obtain ⟨x33, h34, e_x33, hf⟩ := bnd2_x hf
              refine go_callV_I (As := [.ref a1]) (st := []) (c_Mo_pairs (d := d - 1) (by omega) e_x33) lk_Mo_172 rfl rfl e32 (by decide) rfl (rm_ok (by omega)) (Nat.le_of_ble_eq_true rfl) rm_c d_Mo_does_85 ?_
              obtain ⟨_, e35, hf⟩ := bnd_x hf
              obtain ⟨e8, e9⟩ := Prod.mk.inj (Option.some.inj hf)
              subst e8; subst e9
              exact go_zret d_Mo_does_88 e35 rfl ⟨rfl, rfl, rfl⟩
theorem c_Mo_does {l : Launch} {E : ET} {d : Nat} (hd : 5 ≤ d) {F : Nat} {r : Int32} {h9 : PH} {x : Nat} {a0 : Nat} {a1 : Nat} {h : PH} (hf : f_Mo_does F a0 a1 h = some (r, h9)) : Fn l E m_Mo_does d 0 0 [.ref a0, .ref a1] h x (PoE (some (.int r)) h9 x) :=
  Fn.of (by decide +kernel) (Nat.le_of_ble_eq_true rfl) (g_Mo_does_0 hd a0 a1 h hf)
theorem d_Mo_next_0 : decode prog_13_method_38_code 0 = .ok (.aload_n 0, 1) := by decide +kernel
theorem d_Mo_next_1 : decode prog_13_method_38_code 1 = .ok (.iconst 0, 1) := by decide +kernel
theorem d_Mo_next_2 : decode prog_13_method_38_code 2 = .ok (.putfield 95, 3) := by decide +kernel
theorem d_Mo_next_5 : decode prog_13_method_38_code 5 = .ok (.aload_n 0, 1) := by decide +kernel
theorem d_Mo_next_6 : decode prog_13_method_38_code 6 = .ok (.iconst 0, 1) := by decide +kernel
theorem d_Mo_next_7 : decode prog_13_method_38_code 7 = .ok (.putfield 154, 3) := by decide +kernel
theorem d_Mo_next_10 : decode prog_13_method_38_code 10 = .ok (.aload_n 0, 1) := by decide +kernel
theorem d_Mo_next_11 : decode prog_13_method_38_code 11 = .ok (.iconst (-1), 1) := by decide +kernel
theorem d_Mo_next_12 : decode prog_13_method_38_code 12 = .ok (.putfield 101, 3) := by decide +kernel
theorem d_Mo_next_15 : decode prog_13_method_38_code 15 = .ok (.aload_n 1, 1) := by decide +kernel
theorem d_Mo_next_16 : decode prog_13_method_38_code 16 = .ok (.invokestatic 91, 3) := by decide +kernel
theorem d_Mo_next_19 : decode prog_13_method_38_code 19 = .ok (.ifCond .eq 5, 3) := by decide +kernel
theorem d_Mo_next_22 : decode prog_13_method_38_code 22 = .ok (.iconst 0, 1) := by decide +kernel
theorem d_Mo_next_23 : decode prog_13_method_38_code 23 = .ok (.ireturn, 1) := by decide +kernel
theorem d_Mo_next_24 : decode prog_13_method_38_code 24 = .ok (.iconst 0, 1) := by decide +kernel
theorem d_Mo_next_25 : decode prog_13_method_38_code 25 = .ok (.istore_n 2, 1) := by decide +kernel
theorem d_Mo_next_26 : decode prog_13_method_38_code 26 = .ok (.iload_n 2, 1) := by decide +kernel
theorem d_Mo_next_27 : decode prog_13_method_38_code 27 = .ok (.ifCond .ne 31, 3) := by decide +kernel
theorem d_Mo_next_30 : decode prog_13_method_38_code 30 = .ok (.aload_n 0, 1) := by decide +kernel
theorem d_Mo_next_31 : decode prog_13_method_38_code 31 = .ok (.getfield 154, 3) := by decide +kernel
theorem d_Mo_next_34 : decode prog_13_method_38_code 34 = .ok (.bipush 7, 2) := by decide +kernel
theorem d_Mo_next_36 : decode prog_13_method_38_code 36 = .ok (.if_icmp .ge 22, 3) := by decide +kernel
theorem d_Mo_next_39 : decode prog_13_method_38_code 39 = .ok (.aload_n 0, 1) := by decide +kernel
theorem d_Mo_next_40 : decode prog_13_method_38_code 40 = .ok (.dup, 1) := by decide +kernel
theorem d_Mo_next_41 : decode prog_13_method_38_code 41 = .ok (.getfield 154, 3) := by decide +kernel
theorem d_Mo_next_44 : decode prog_13_method_38_code 44 = .ok (.iconst 1, 1) := by decide +kernel
theorem d_Mo_next_45 : decode prog_13_method_38_code 45 = .ok (.iadd, 1) := by decide +kernel
theorem d_Mo_next_46 : decode prog_13_method_38_code 46 = .ok (.putfield 154, 3) := by decide +kernel
theorem d_Mo_next_49 : decode prog_13_method_38_code 49 = .ok (.aload_n 0, 1) := by decide +kernel
theorem d_Mo_next_50 : decode prog_13_method_38_code 50 = .ok (.aload_n 1, 1) := by decide +kernel
theorem d_Mo_next_51 : decode prog_13_method_38_code 51 = .ok (.invokevirtual 157, 3) := by decide +kernel
theorem d_Mo_next_54 : decode prog_13_method_38_code 54 = .ok (.istore_n 2, 1) := by decide +kernel
theorem d_Mo_next_55 : decode prog_13_method_38_code 55 = .ok (.goto (-29), 3) := by decide +kernel
theorem d_Mo_next_58 : decode prog_13_method_38_code 58 = .ok (.aload_n 0, 1) := by decide +kernel
theorem d_Mo_next_59 : decode prog_13_method_38_code 59 = .ok (.iload_n 2, 1) := by decide +kernel
theorem d_Mo_next_60 : decode prog_13_method_38_code 60 = .ok (.ifCond .eq 10, 3) := by decide +kernel
theorem d_Mo_next_63 : decode prog_13_method_38_code 63 = .ok (.aload_n 0, 1) := by decide +kernel
theorem d_Mo_next_64 : decode prog_13_method_38_code 64 = .ok (.getfield 154, 3) := by decide +kernel
theorem d_Mo_next_67 : decode prog_13_method_38_code 67 = .ok (.goto 4, 3) := by decide +kernel
theorem d_Mo_next_70 : decode prog_13_method_38_code 70 = .ok (.iconst 0, 1) := by decide +kernel
theorem d_Mo_next_71 : decode prog_13_method_38_code 71 = .ok (.putfield 154, 3) := by decide +kernel
theorem d_Mo_next_74 : decode prog_13_method_38_code 74 = .ok (.iload_n 2, 1) := by decide +kernel
theorem d_Mo_next_75 : decode prog_13_method_38_code 75 = .ok (.ireturn, 1) := by decide +kernel
def b_Mo_next_71 (F : Nat) (i2 : Int32) (s0 : Int32) (s1 : Nat) (h : PH) : Option (Int32 × PH) :=
  bnd (pV h s1 10 6 (.int s0)) fun h1 => bnd (cZ i2) fun _ => some (i2, h1)
theorem g_Mo_next_71 {l : Launch} {E : ET} {d : Nat} (hd : 6 ≤ d) {F : Nat} {r : Int32} {h9 : PH} {x : Nat}  (i2 : Int32) (s0 : Int32) (s1 : Nat) (h : PH) (hf : b_Mo_next_71 F i2 s0 s1 h = some (r, h9)) : Go l E m_Mo_next (rm d 0 0) (KM E 0 0 (PoE (some (.int r)) h9 x)) 0 0 h x 71 [(2, .int i2)] [.int s0, .ref s1] := by
  unfold b_Mo_next_71 at hf
  obtain ⟨h1, e_h1, hf⟩ := bnd_x hf
  refine go_putI d_Mo_next_71 e_h1 fl_Mo_154 rfl rfl ?_
  refine go_iload_n 0 d_Mo_next_74 rfl ?_
  obtain ⟨_, e2, hf⟩ := bnd_x hf
  obtain ⟨e8, e9⟩ := Prod.mk.inj (Option.some.inj hf)
  subst e8; subst e9
  exact go_zret d_Mo_next_75 e2 rfl ⟨rfl, rfl, rfl⟩
def b_Mo_next_58 (F : Nat) (a0 : Nat) (i2 : Int32) (h : PH) : Option (Int32 × PH) :=
  (if i2 = (0 : Int32) then b_Mo_next_71 F i2 (0 : Int32) a0 h else bnd (gI h a0 10 6) fun x1 => b_Mo_next_71 F i2 x1 a0 h)
theorem g_Mo_next_58 {l : Launch} {E : ET} {d : Nat} (hd : 6 ≤ d) {F : Nat} {r : Int32} {h9 : PH} {x : Nat}  (a0 : Nat) (i2 : Int32) (h : PH) (hf : b_Mo_next_58 F a0 i2 h = some (r, h9)) : Go l E m_Mo_next (rm d 0 0) (KM E 0 0 (PoE (some (.int r)) h9 x)) 0 0 h x 58 [(0, .ref a0), (2, .int i2)] [] := by
  unfold b_Mo_next_58 at hf
  refine go_aload_n 0 d_Mo_next_58 rfl ?_
  refine go_iload_n 1 d_Mo_next_59 rfl ?_
  refine go_if_eq 70 d_Mo_next_60 (by decide) (fun q2 => ?_) (fun q2 => ?_)
  · rw [if_pos q2] at hf
    refine go_iconst (0 : Int32) d_Mo_next_70 (by decide) ?_
    refine go_sub (lv' := [(2, .int i2)]) [1] rfl ?_
    exact g_Mo_next_71 hd  i2 (0 : Int32) a0 h hf
  · rw [if_neg q2] at hf
    refine go_aload_n 0 d_Mo_next_63 rfl ?_
    obtain ⟨x1, e_x1, hf⟩ := bnd_x hf
    refine go_get d_Mo_next_64 (gI_x e_x1) fl_Mo_154 ?_
    refine go_goto 71 d_Mo_next_67 (by decide) ?_
    refine go_sub (lv' := [(2, .int i2)]) [1] rfl ?_
    exact g_Mo_next_71 hd  i2 x1 a0 h hf
def b_Mo_next_26 (F : Nat) (k26 : Nat → Nat → Int32 → PH → Option (Int32 × PH)) (a0 : Nat) (a1 : Nat) (i2 : Int32) (h : PH) : Option (Int32 × PH) :=
  (if i2 = (0 : Int32) then bnd (gI h a0 10 6) fun x1 => (if (7 : Int32) ≤ x1 then b_Mo_next_58 F a0 i2 h else bnd (gI h a0 10 6) fun x2 => bnd (pV h a0 10 6 (.int (x2 + (1 : Int32)))) fun h3 => bnd (cK h3 a0 10) fun _ => bnd2 (f_Mo_does F a0 a1 h3) fun x5 h6 => k26 a0 a1 x5 h6) else b_Mo_next_58 F a0 i2 h)
def f_Mo_next_26 (F : Nat) : Nat → Nat → Nat → Int32 → PH → Option (Int32 × PH)
  | 0 => fun _ _ _ _ => none
  | n + 1 => b_Mo_next_26 F (f_Mo_next_26 F n)
theorem g_Mo_next_26 {l : Launch} {E : ET} {d : Nat} (hd : 6 ≤ d) {F : Nat} {r : Int32} {h9 : PH} {x : Nat} {k26 : Nat → Nat → Int32 → PH → Option (Int32 × PH)} (hk26 : ∀ (a0 : Nat) (a1 : Nat) (i2 : Int32) (hh : PH), k26 a0 a1 i2 hh = some (r, h9) → Go l E m_Mo_next (rm d 0 0) (KM E 0 0 (PoE (some (.int r)) h9 x)) 0 0 hh x 26 [(0, .ref a0), (1, .ref a1), (2, .int i2)] []) (a0 : Nat) (a1 : Nat) (i2 : Int32) (h : PH) (hf : b_Mo_next_26 F k26 a0 a1 i2 h = some (r, h9)) : Go l E m_Mo_next (rm d 0 0) (KM E 0 0 (PoE (some (.int r)) h9 x)) 0 0 h x 26 [(0, .ref a0), (1, .ref a1), (2, .int i2)] [] := by
  unfold b_Mo_next_26 at hf
  refine go_iload_n 2 d_Mo_next_26 rfl ?_
  refine go_if_ne 58 d_Mo_next_27 (by decide) (fun q8 => ?_) (fun q8 => ?_)
  · rw [if_neg q8] at hf
    refine go_sub (lv' := [(0, .ref a0), (2, .int i2)]) [0, 2] rfl ?_
    exact g_Mo_next_58 hd  a0 i2 h hf
  · rw [if_pos q8] at hf
    refine go_aload_n 0 d_Mo_next_30 rfl ?_
    obtain ⟨x1, e_x1, hf⟩ := bnd_x hf
    refine go_get d_Mo_next_31 (gI_x e_x1) fl_Mo_154 ?_
    refine go_bipush (7 : Int32) d_Mo_next_34 (by decide) ?_
    refine go_icmp_ge 58 d_Mo_next_36 (by decide) (fun q7 => ?_) (fun q7 => ?_)
    · rw [if_pos q7] at hf
      refine go_sub (lv' := [(0, .ref a0), (2, .int i2)]) [0, 2] rfl ?_
      exact g_Mo_next_58 hd  a0 i2 h hf
    · rw [if_neg q7] at hf
      refine go_aload_n 0 d_Mo_next_39 rfl ?_
      refine go_dup d_Mo_next_40 rfl ?_
      obtain ⟨x2, e_x2, hf⟩ := bnd_x hf
      refine go_get d_Mo_next_41 (gI_x e_x2) fl_Mo_154 ?_
      refine go_iconst (1 : Int32) d_Mo_next_44 (by decide) ?_
      refine go_iadd d_Mo_next_45 ?_
      obtain ⟨h3, e_h3, hf⟩ := bnd_x hf
      refine go_putI d_Mo_next_46 e_h3 fl_Mo_154 rfl rfl ?_
      refine go_aload_n 0 d_Mo_next_49 rfl ?_
      refine go_aload_n 1 d_Mo_next_50 rfl ?_
      obtain ⟨_, e4, hf⟩ := bnd_x hf
      obtain ⟨x5, h6, e_x5, hf⟩ := bnd2_x hf
      refine go_callV_I (As := [.ref a1]) (st := []) (c_Mo_does (d := d - 1) (by omega) e_x5) lk_Mo_157 rfl rfl e4 (by decide) rfl (rm_ok (by omega)) (Nat.le_of_ble_eq_true rfl) rm_c d_Mo_next_51 ?_
      refine go_istore_n (lv' := [(2, .int x5), (0, .ref a0), (1, .ref a1)]) d_Mo_next_54 rfl (by decide) ?_
      refine go_goto 26 d_Mo_next_55 (by decide) ?_
      refine go_sub (lv' := [(0, .ref a0), (1, .ref a1), (2, .int x5)]) [1, 2, 0] rfl ?_
      exact hk26 a0 a1 x5 h6 hf
theorem t_Mo_next_26 {l : Launch} {E : ET} {d : Nat} (hd : 6 ≤ d) {F : Nat} {r : Int32} {h9 : PH} {x : Nat}  : ∀ (n : Nat) (a0 : Nat) (a1 : Nat) (i2 : Int32) (hh : PH), f_Mo_next_26 F n a0 a1 i2 hh = some (r, h9) → Go l E m_Mo_next (rm d 0 0) (KM E 0 0 (PoE (some (.int r)) h9 x)) 0 0 hh x 26 [(0, .ref a0), (1, .ref a1), (2, .int i2)] [] := by
  intro n
  induction n with
  | zero => intro v0 v1 v2 v3 hf; cases hf
  | succ n ih => intro v0 v1 v2 v3 hf; exact g_Mo_next_26 hd ih v0 v1 v2 v3 hf
def f_Mo_next (F : Nat) (a0 : Nat) (a1 : Nat) (h : PH) : Option (Int32 × PH) :=
  bnd (pV h a0 10 8 (.int (0 : Int32))) fun h1 => bnd (pV h1 a0 10 6 (.int (0 : Int32))) fun h2 => bnd (pV h2 a0 10 7 (.int (-1 : Int32))) fun h3 => bnd (f_Mo_isDead F a1 h3) fun x4 => (if x4 = (0 : Int32) then f_Mo_next_26 F F a0 a1 (0 : Int32) h3 else some ((0 : Int32), h3))
theorem g_Mo_next_0 {l : Launch} {E : ET} {d : Nat} (hd : 6 ≤ d) {F : Nat} {r : Int32} {h9 : PH} {x : Nat}  (a0 : Nat) (a1 : Nat) (h : PH) (hf : f_Mo_next F a0 a1 h = some (r, h9)) : Go l E m_Mo_next (rm d 0 0) (KM E 0 0 (PoE (some (.int r)) h9 x)) 0 0 h x 0 [(0, .ref a0), (1, .ref a1)] [] := by
  unfold f_Mo_next at hf
  refine go_aload_n 0 d_Mo_next_0 rfl ?_
  refine go_iconst (0 : Int32) d_Mo_next_1 (by decide) ?_
  obtain ⟨h1, e_h1, hf⟩ := bnd_x hf
  refine go_putI d_Mo_next_2 e_h1 fl_Mo_95 rfl rfl ?_
  refine go_aload_n 0 d_Mo_next_5 rfl ?_
  refine go_iconst (0 : Int32) d_Mo_next_6 (by decide) ?_
  obtain ⟨h2, e_h2, hf⟩ := bnd_x hf
  refine go_putI d_Mo_next_7 e_h2 fl_Mo_154 rfl rfl ?_
  refine go_aload_n 0 d_Mo_next_10 rfl ?_
  refine go_iconst (-1 : Int32) d_Mo_next_11 (by decide) ?_
  obtain ⟨h3, e_h3, hf⟩ := bnd_x hf
  refine go_putI d_Mo_next_12 e_h3 fl_Mo_101 rfl rfl ?_
  refine go_aload_n 1 d_Mo_next_15 rfl ?_
  obtain ⟨x4, e_x4, hf⟩ := bnd_x hf
  refine go_callS_I (As := [.ref a1]) (st := []) (c_Mo_isDead (d := d - 1) (by omega) e_x4) lk_Mo_91 rfl rfl (rm_ok (by omega)) (Nat.le_of_ble_eq_true rfl) rm_c d_Mo_next_16 ?_
  refine go_if_eq 24 d_Mo_next_19 (by decide) (fun q5 => ?_) (fun q5 => ?_)
  · rw [if_pos q5] at hf
    refine go_iconst (0 : Int32) d_Mo_next_24 (by decide) ?_
    refine go_istore_n (lv' := [(2, .int (0 : Int32)), (0, .ref a0), (1, .ref a1)]) d_Mo_next_25 rfl (by decide) ?_
    refine go_sub (lv' := [(0, .ref a0), (1, .ref a1), (2, .int (0 : Int32))]) [1, 2, 0] rfl ?_
    exact t_Mo_next_26 hd  _ a0 a1 (0 : Int32) h3 hf
  · rw [if_neg q5] at hf
    refine go_iconst (0 : Int32) d_Mo_next_22 (by decide) ?_
    obtain ⟨e8, e9⟩ := Prod.mk.inj (Option.some.inj hf)
    subst e8; subst e9
    exact go_zret d_Mo_next_23 rfl rfl ⟨rfl, rfl, rfl⟩
theorem c_Mo_next {l : Launch} {E : ET} {d : Nat} (hd : 6 ≤ d) {F : Nat} {r : Int32} {h9 : PH} {x : Nat} {a0 : Nat} {a1 : Nat} {h : PH} (hf : f_Mo_next F a0 a1 h = some (r, h9)) : Fn l E m_Mo_next d 0 0 [.ref a0, .ref a1] h x (PoE (some (.int r)) h9 x) :=
  Fn.of (by decide +kernel) (Nat.le_of_ble_eq_true rfl) (g_Mo_next_0 hd a0 a1 h hf)
theorem d_Mo_copyRow_0 : decode prog_13_method_40_code 0 = .ok (.iconst 0, 1) := by decide +kernel
theorem d_Mo_copyRow_1 : decode prog_13_method_40_code 1 = .ok (.istore 4, 2) := by decide +kernel
theorem d_Mo_copyRow_3 : decode prog_13_method_40_code 3 = .ok (.iload 4, 2) := by decide +kernel
theorem d_Mo_copyRow_5 : decode prog_13_method_40_code 5 = .ok (.bipush 72, 2) := by decide +kernel
theorem d_Mo_copyRow_7 : decode prog_13_method_40_code 7 = .ok (.if_icmp .ge 21, 3) := by decide +kernel
theorem d_Mo_copyRow_10 : decode prog_13_method_40_code 10 = .ok (.aload_n 2, 1) := by decide +kernel
theorem d_Mo_copyRow_11 : decode prog_13_method_40_code 11 = .ok (.iload_n 3, 1) := by decide +kernel
theorem d_Mo_copyRow_12 : decode prog_13_method_40_code 12 = .ok (.iload 4, 2) := by decide +kernel
theorem d_Mo_copyRow_14 : decode prog_13_method_40_code 14 = .ok (.iadd, 1) := by decide +kernel
theorem d_Mo_copyRow_15 : decode prog_13_method_40_code 15 = .ok (.aload_n 0, 1) := by decide +kernel
theorem d_Mo_copyRow_16 : decode prog_13_method_40_code 16 = .ok (.iload_n 1, 1) := by decide +kernel
theorem d_Mo_copyRow_17 : decode prog_13_method_40_code 17 = .ok (.iload 4, 2) := by decide +kernel
theorem d_Mo_copyRow_19 : decode prog_13_method_40_code 19 = .ok (.iadd, 1) := by decide +kernel
theorem d_Mo_copyRow_20 : decode prog_13_method_40_code 20 = .ok (.iaload, 1) := by decide +kernel
theorem d_Mo_copyRow_21 : decode prog_13_method_40_code 21 = .ok (.iastore, 1) := by decide +kernel
theorem d_Mo_copyRow_22 : decode prog_13_method_40_code 22 = .ok (.iinc 4 1, 3) := by decide +kernel
theorem d_Mo_copyRow_25 : decode prog_13_method_40_code 25 = .ok (.goto (-22), 3) := by decide +kernel
theorem d_Mo_copyRow_28 : decode prog_13_method_40_code 28 = .ok (.return_, 1) := by decide +kernel
def b_Mo_copyRow_3 (F : Nat) (k3 : Nat → Int32 → Nat → Int32 → Int32 → PH → Option PH) (a0 : Nat) (i1 : Int32) (a2 : Nat) (i3 : Int32) (i4 : Int32) (h : PH) : Option PH :=
  (if (72 : Int32) ≤ i4 then some h else bnd (aI h a0 (i1 + i4)) fun x1 => bnd (sI h a2 (i3 + i4) x1) fun h2 => k3 a0 i1 a2 i3 (i4 + (1 : Int32)) h2)
def f_Mo_copyRow_3 (F : Nat) : Nat → Nat → Int32 → Nat → Int32 → Int32 → PH → Option PH
  | 0 => fun _ _ _ _ _ _ => none
  | n + 1 => b_Mo_copyRow_3 F (f_Mo_copyRow_3 F n)
theorem g_Mo_copyRow_3 {l : Launch} {E : ET} {d : Nat} (hd : 1 ≤ d) {F : Nat} {h9 : PH} {x : Nat} {k3 : Nat → Int32 → Nat → Int32 → Int32 → PH → Option PH} (hk3 : ∀ (a0 : Nat) (i1 : Int32) (a2 : Nat) (i3 : Int32) (i4 : Int32) (hh : PH), k3 a0 i1 a2 i3 i4 hh = some h9 → Go l E m_Mo_copyRow (rm d 0 0) (KM E 0 0 (PoE none h9 x)) 0 0 hh x 3 [(0, .ref a0), (1, .int i1), (2, .ref a2), (3, .int i3), (4, .int i4)] []) (a0 : Nat) (i1 : Int32) (a2 : Nat) (i3 : Int32) (i4 : Int32) (h : PH) (hf : b_Mo_copyRow_3 F k3 a0 i1 a2 i3 i4 h = some h9) : Go l E m_Mo_copyRow (rm d 0 0) (KM E 0 0 (PoE none h9 x)) 0 0 h x 3 [(0, .ref a0), (1, .int i1), (2, .ref a2), (3, .int i3), (4, .int i4)] [] := by
  unfold b_Mo_copyRow_3 at hf
  refine go_iload 4 d_Mo_copyRow_3 rfl ?_
  refine go_bipush (72 : Int32) d_Mo_copyRow_5 (by decide) ?_
  refine go_icmp_ge 28 d_Mo_copyRow_7 (by decide) (fun q3 => ?_) (fun q3 => ?_)
  · rw [if_pos q3] at hf
    have e9 := Option.some.inj hf
    subst e9
    exact go_vret d_Mo_copyRow_28 rfl ⟨rfl, rfl, rfl⟩
  · rw [if_neg q3] at hf
    refine go_aload_n 2 d_Mo_copyRow_10 rfl ?_
    refine go_iload_n 3 d_Mo_copyRow_11 rfl ?_
    refine go_iload 4 d_Mo_copyRow_12 rfl ?_
    refine go_iadd d_Mo_copyRow_14 ?_
    refine go_aload_n 0 d_Mo_copyRow_15 rfl ?_
    refine go_iload_n 1 d_Mo_copyRow_16 rfl ?_
    refine go_iload 4 d_Mo_copyRow_17 rfl ?_
    refine go_iadd d_Mo_copyRow_19 ?_
    obtain ⟨x1, e_x1, hf⟩ := bnd_x hf
    refine go_iaload d_Mo_copyRow_20 e_x1 ?_
    obtain ⟨h2, e_h2, hf⟩ := bnd_x hf
    refine go_iastore d_Mo_copyRow_21 e_h2 ?_
    refine go_iinc (lv' := [(4, .int (i4 + (1 : Int32))), (0, .ref a0), (1, .int i1), (2, .ref a2), (3, .int i3)]) 4 (i4 + (1 : Int32)) d_Mo_copyRow_22 rfl rfl rfl (by decide) ?_
    refine go_goto 3 d_Mo_copyRow_25 (by decide) ?_
    refine go_sub (lv' := [(0, .ref a0), (1, .int i1), (2, .ref a2), (3, .int i3), (4, .int (i4 + (1 : Int32)))]) [1, 2, 3, 4, 0] rfl ?_
    exact hk3 a0 i1 a2 i3 (i4 + (1 : Int32)) h2 hf
theorem t_Mo_copyRow_3 {l : Launch} {E : ET} {d : Nat} (hd : 1 ≤ d) {F : Nat} {h9 : PH} {x : Nat}  : ∀ (n : Nat) (a0 : Nat) (i1 : Int32) (a2 : Nat) (i3 : Int32) (i4 : Int32) (hh : PH), f_Mo_copyRow_3 F n a0 i1 a2 i3 i4 hh = some h9 → Go l E m_Mo_copyRow (rm d 0 0) (KM E 0 0 (PoE none h9 x)) 0 0 hh x 3 [(0, .ref a0), (1, .int i1), (2, .ref a2), (3, .int i3), (4, .int i4)] [] := by
  intro n
  induction n with
  | zero => intro v0 v1 v2 v3 v4 v5 hf; cases hf
  | succ n ih => intro v0 v1 v2 v3 v4 v5 hf; exact g_Mo_copyRow_3 hd ih v0 v1 v2 v3 v4 v5 hf
def f_Mo_copyRow (F : Nat) (a0 : Nat) (i1 : Int32) (a2 : Nat) (i3 : Int32) (h : PH) : Option PH :=
  f_Mo_copyRow_3 F F a0 i1 a2 i3 (0 : Int32) h
theorem g_Mo_copyRow_0 {l : Launch} {E : ET} {d : Nat} (hd : 1 ≤ d) {F : Nat} {h9 : PH} {x : Nat}  (a0 : Nat) (i1 : Int32) (a2 : Nat) (i3 : Int32) (h : PH) (hf : f_Mo_copyRow F a0 i1 a2 i3 h = some h9) : Go l E m_Mo_copyRow (rm d 0 0) (KM E 0 0 (PoE none h9 x)) 0 0 h x 0 [(0, .ref a0), (1, .int i1), (2, .ref a2), (3, .int i3)] [] := by
  unfold f_Mo_copyRow at hf
  refine go_iconst (0 : Int32) d_Mo_copyRow_0 (by decide) ?_
  refine go_istore (lv' := [(4, .int (0 : Int32)), (0, .ref a0), (1, .int i1), (2, .ref a2), (3, .int i3)]) d_Mo_copyRow_1 rfl (by decide) ?_
  refine go_sub (lv' := [(0, .ref a0), (1, .int i1), (2, .ref a2), (3, .int i3), (4, .int (0 : Int32))]) [1, 2, 3, 4, 0] rfl ?_
  exact t_Mo_copyRow_3 hd  _ a0 i1 a2 i3 (0 : Int32) h hf
theorem c_Mo_copyRow {l : Launch} {E : ET} {d : Nat} (hd : 1 ≤ d) {F : Nat} {h9 : PH} {x : Nat} {a0 : Nat} {i1 : Int32} {a2 : Nat} {i3 : Int32} {h : PH} (hf : f_Mo_copyRow F a0 i1 a2 i3 h = some h9) : Fn l E m_Mo_copyRow d 0 0 [.ref a0, .int i1, .ref a2, .int i3] h x (PoE none h9 x) :=
  Fn.of (by decide +kernel) (Nat.le_of_ble_eq_true rfl) (g_Mo_copyRow_0 hd a0 i1 a2 i3 h hf)
theorem d_Mo_notesSolution_0 : decode prog_13_method_41_code 0 = .ok (.aload_n 0, 1) := by decide +kernel
theorem d_Mo_notesSolution_1 : decode prog_13_method_41_code 1 = .ok (.dup, 1) := by decide +kernel
theorem d_Mo_notesSolution_2 : decode prog_13_method_41_code 2 = .ok (.getfield 175, 3) := by decide +kernel
theorem d_Mo_notesSolution_5 : decode prog_13_method_41_code 5 = .ok (.iconst 1, 1) := by decide +kernel
theorem d_Mo_notesSolution_6 : decode prog_13_method_41_code 6 = .ok (.iadd, 1) := by decide +kernel
theorem d_Mo_notesSolution_7 : decode prog_13_method_41_code 7 = .ok (.putfield 175, 3) := by decide +kernel
theorem d_Mo_notesSolution_10 : decode prog_13_method_41_code 10 = .ok (.aload_n 0, 1) := by decide +kernel
theorem d_Mo_notesSolution_11 : decode prog_13_method_41_code 11 = .ok (.aload_n 0, 1) := by decide +kernel
theorem d_Mo_notesSolution_12 : decode prog_13_method_41_code 12 = .ok (.getfield 175, 3) := by decide +kernel
theorem d_Mo_notesSolution_15 : decode prog_13_method_41_code 15 = .ok (.iconst 1, 1) := by decide +kernel
theorem d_Mo_notesSolution_16 : decode prog_13_method_41_code 16 = .ok (.if_icmp .ne 10, 3) := by decide +kernel
theorem d_Mo_notesSolution_19 : decode prog_13_method_41_code 19 = .ok (.aload_n 0, 1) := by decide +kernel
theorem d_Mo_notesSolution_20 : decode prog_13_method_41_code 20 = .ok (.getfield 178, 3) := by decide +kernel
theorem d_Mo_notesSolution_23 : decode prog_13_method_41_code 23 = .ok (.goto 7, 3) := by decide +kernel
theorem d_Mo_notesSolution_26 : decode prog_13_method_41_code 26 = .ok (.aload_n 0, 1) := by decide +kernel
theorem d_Mo_notesSolution_27 : decode prog_13_method_41_code 27 = .ok (.getfield 181, 3) := by decide +kernel
theorem d_Mo_notesSolution_30 : decode prog_13_method_41_code 30 = .ok (.putfield 181, 3) := by decide +kernel
theorem d_Mo_notesSolution_33 : decode prog_13_method_41_code 33 = .ok (.iconst 0, 1) := by decide +kernel
theorem d_Mo_notesSolution_34 : decode prog_13_method_41_code 34 = .ok (.istore_n 1, 1) := by decide +kernel
theorem d_Mo_notesSolution_35 : decode prog_13_method_41_code 35 = .ok (.iload_n 1, 1) := by decide +kernel
theorem d_Mo_notesSolution_36 : decode prog_13_method_41_code 36 = .ok (.bipush 36, 2) := by decide +kernel
theorem d_Mo_notesSolution_38 : decode prog_13_method_41_code 38 = .ok (.if_icmp .ge 56, 3) := by decide +kernel
theorem d_Mo_notesSolution_41 : decode prog_13_method_41_code 41 = .ok (.aload_n 0, 1) := by decide +kernel
theorem d_Mo_notesSolution_42 : decode prog_13_method_41_code 42 = .ok (.getfield 37, 3) := by decide +kernel
theorem d_Mo_notesSolution_45 : decode prog_13_method_41_code 45 = .ok (.iload_n 1, 1) := by decide +kernel
theorem d_Mo_notesSolution_46 : decode prog_13_method_41_code 46 = .ok (.aload_n 0, 1) := by decide +kernel
theorem d_Mo_notesSolution_47 : decode prog_13_method_41_code 47 = .ok (.getfield 175, 3) := by decide +kernel
theorem d_Mo_notesSolution_50 : decode prog_13_method_41_code 50 = .ok (.iconst 1, 1) := by decide +kernel
theorem d_Mo_notesSolution_51 : decode prog_13_method_41_code 51 = .ok (.if_icmp .ne 15, 3) := by decide +kernel
theorem d_Mo_notesSolution_54 : decode prog_13_method_41_code 54 = .ok (.aload_n 0, 1) := by decide +kernel
theorem d_Mo_notesSolution_55 : decode prog_13_method_41_code 55 = .ok (.getfield 25, 3) := by decide +kernel
theorem d_Mo_notesSolution_58 : decode prog_13_method_41_code 58 = .ok (.iload_n 1, 1) := by decide +kernel
theorem d_Mo_notesSolution_59 : decode prog_13_method_41_code 59 = .ok (.iaload, 1) := by decide +kernel
theorem d_Mo_notesSolution_60 : decode prog_13_method_41_code 60 = .ok (.invokestatic 114, 3) := by decide +kernel
theorem d_Mo_notesSolution_63 : decode prog_13_method_41_code 63 = .ok (.goto 9, 3) := by decide +kernel
theorem d_Mo_notesSolution_66 : decode prog_13_method_41_code 66 = .ok (.aload_n 0, 1) := by decide +kernel
theorem d_Mo_notesSolution_67 : decode prog_13_method_41_code 67 = .ok (.getfield 37, 3) := by decide +kernel
theorem d_Mo_notesSolution_70 : decode prog_13_method_41_code 70 = .ok (.iload_n 1, 1) := by decide +kernel
theorem d_Mo_notesSolution_71 : decode prog_13_method_41_code 71 = .ok (.iaload, 1) := by decide +kernel
theorem d_Mo_notesSolution_72 : decode prog_13_method_41_code 72 = .ok (.iastore, 1) := by decide +kernel
theorem d_Mo_notesSolution_73 : decode prog_13_method_41_code 73 = .ok (.aload_n 0, 1) := by decide +kernel
theorem d_Mo_notesSolution_74 : decode prog_13_method_41_code 74 = .ok (.getfield 40, 3) := by decide +kernel
theorem d_Mo_notesSolution_77 : decode prog_13_method_41_code 77 = .ok (.iload_n 1, 1) := by decide +kernel
theorem d_Mo_notesSolution_78 : decode prog_13_method_41_code 78 = .ok (.dup2, 1) := by decide +kernel
theorem d_Mo_notesSolution_79 : decode prog_13_method_41_code 79 = .ok (.iaload, 1) := by decide +kernel
theorem d_Mo_notesSolution_80 : decode prog_13_method_41_code 80 = .ok (.aload_n 0, 1) := by decide +kernel
theorem d_Mo_notesSolution_81 : decode prog_13_method_41_code 81 = .ok (.getfield 25, 3) := by decide +kernel
theorem d_Mo_notesSolution_84 : decode prog_13_method_41_code 84 = .ok (.iload_n 1, 1) := by decide +kernel
theorem d_Mo_notesSolution_85 : decode prog_13_method_41_code 85 = .ok (.iaload, 1) := by decide +kernel
theorem d_Mo_notesSolution_86 : decode prog_13_method_41_code 86 = .ok (.ior, 1) := by decide +kernel
theorem d_Mo_notesSolution_87 : decode prog_13_method_41_code 87 = .ok (.iastore, 1) := by decide +kernel
theorem d_Mo_notesSolution_88 : decode prog_13_method_41_code 88 = .ok (.iinc 1 1, 3) := by decide +kernel
theorem d_Mo_notesSolution_91 : decode prog_13_method_41_code 91 = .ok (.goto (-56), 3) := by decide +kernel
theorem d_Mo_notesSolution_94 : decode prog_13_method_41_code 94 = .ok (.return_, 1) := by decide +kernel
def b_Mo_notesSolution_72 (F : Nat) (k35 : Nat → Int32 → PH → Option PH) (a0 : Nat) (i1 : Int32) (s0 : Int32) (s1 : Int32) (s2 : Nat) (h : PH) : Option PH :=
  bnd (sI h s2 s1 s0) fun h1 => bnd (gR h1 a0 10 16) fun x2 => bnd (aI h1 x2 i1) fun x3 => bnd (gR h1 a0 10 11) fun x4 => bnd (aI h1 x4 i1) fun x5 => bnd (sI h1 x2 i1 (x3 ||| x5)) fun h6 => k35 a0 (i1 + (1 : Int32)) h6
theorem g_Mo_notesSolution_72 {l : Launch} {E : ET} {d : Nat} (hd : 3 ≤ d) {F : Nat} {h9 : PH} {x : Nat} {k35 : Nat → Int32 → PH → Option PH} (hk35 : ∀ (a0 : Nat) (i1 : Int32) (hh : PH), k35 a0 i1 hh = some h9 → Go l E m_Mo_notesSolution (rm d 0 0) (KM E 0 0 (PoE none h9 x)) 0 0 hh x 35 [(0, .ref a0), (1, .int i1)] []) (a0 : Nat) (i1 : Int32) (s0 : Int32) (s1 : Int32) (s2 : Nat) (h : PH) (hf : b_Mo_notesSolution_72 F k35 a0 i1 s0 s1 s2 h = some h9) : Go l E m_Mo_notesSolution (rm d 0 0) (KM E 0 0 (PoE none h9 x)) 0 0 h x 72 [(0, .ref a0), (1, .int i1)] [.int s0, .int s1, .ref s2] := by
  unfold b_Mo_notesSolution_72 at hf
  obtain ⟨h1, e_h1, hf⟩ := bnd_x hf
  refine go_iastore d_Mo_notesSolution_72 e_h1 ?_
  refine go_aload_n 0 d_Mo_notesSolution_73 rfl ?_
  obtain ⟨x2, e_x2, hf⟩ := bnd_x hf
  refine go_get d_Mo_notesSolution_74 (gR_x e_x2) fl_Mo_40 ?_
  refine go_iload_n 1 d_Mo_notesSolution_77 rfl ?_
  refine go_dup2 d_Mo_notesSolution_78 rfl rfl ?_
  obtain ⟨x3, e_x3, hf⟩ := bnd_x hf
  refine go_iaload d_Mo_notesSolution_79 e_x3 ?_
  refine go_aload_n 0 d_Mo_notesSolution_80 rfl ?_
  obtain ⟨x4, e_x4, hf⟩ := bnd_x hf
  refine go_get d_Mo_notesSolution_81 (gR_x e_x4) fl_Mo_25 ?_
  refine go_iload_n 1 d_Mo_notesSolution_84 rfl ?_
  obtain ⟨x5, e_x5, hf⟩ := bnd_x hf
  refine go_iaload d_Mo_notesSolution_85 e_x5 ?_
  refine go_ior d_Mo_notesSolution_86 ?_
  obtain ⟨h6, e_h6, hf⟩ := bnd_x hf
  refine go_iastore d_Mo_notesSolution_87 e_h6 ?_
  refine go_iinc (lv' := [(1, .int (i1 + (1 : Int32))), (0, .ref a0)]) 1 (i1 + (1 : Int32)) d_Mo_notesSolution_88 rfl rfl rfl (by decide) ?_
  refine go_goto 35 d_Mo_notesSolution_91 (by decide) ?_
  refine go_sub (lv' := [(0, .ref a0), (1, .int (i1 + (1 : Int32)))]) [1, 0] rfl ?_
  exact hk35 a0 (i1 + (1 : Int32)) h6 hf
def b_Mo_notesSolution_35 (F : Nat) (k35 : Nat → Int32 → PH → Option PH) (a0 : Nat) (i1 : Int32) (h : PH) : Option PH :=
  (if (36 : Int32) ≤ i1 then some h else bnd (gR h a0 10 15) fun x1 => bnd (gI h a0 10 17) fun x2 => (if x2 = (1 : Int32) then bnd (gR h a0 10 11) fun x5 => bnd (aI h x5 i1) fun x6 => bnd (f_Mo_least F x6) fun x7 => b_Mo_notesSolution_72 F k35 a0 i1 x7 i1 x1 h else bnd (gR h a0 10 15) fun x3 => bnd (aI h x3 i1) fun x4 => b_Mo_notesSolution_72 F k35 a0 i1 x4 i1 x1 h))
def f_Mo_notesSolution_35 (F : Nat) : Nat → Nat → Int32 → PH → Option PH
  | 0 => fun _ _ _ => none
  | n + 1 => b_Mo_notesSolution_35 F (f_Mo_notesSolution_35 F n)
theorem g_Mo_notesSolution_35 {l : Launch} {E : ET} {d : Nat} (hd : 3 ≤ d) {F : Nat} {h9 : PH} {x : Nat} {k35 : Nat → Int32 → PH → Option PH} (hk35 : ∀ (a0 : Nat) (i1 : Int32) (hh : PH), k35 a0 i1 hh = some h9 → Go l E m_Mo_notesSolution (rm d 0 0) (KM E 0 0 (PoE none h9 x)) 0 0 hh x 35 [(0, .ref a0), (1, .int i1)] []) (a0 : Nat) (i1 : Int32) (h : PH) (hf : b_Mo_notesSolution_35 F k35 a0 i1 h = some h9) : Go l E m_Mo_notesSolution (rm d 0 0) (KM E 0 0 (PoE none h9 x)) 0 0 h x 35 [(0, .ref a0), (1, .int i1)] [] := by
  unfold b_Mo_notesSolution_35 at hf
  refine go_iload_n 1 d_Mo_notesSolution_35 rfl ?_
  refine go_bipush (36 : Int32) d_Mo_notesSolution_36 (by decide) ?_
  refine go_icmp_ge 94 d_Mo_notesSolution_38 (by decide) (fun q9 => ?_) (fun q9 => ?_)
  · rw [if_pos q9] at hf
    have e9 := Option.some.inj hf
    subst e9
    exact go_vret d_Mo_notesSolution_94 rfl ⟨rfl, rfl, rfl⟩
  · rw [if_neg q9] at hf
    refine go_aload_n 0 d_Mo_notesSolution_41 rfl ?_
    obtain ⟨x1, e_x1, hf⟩ := bnd_x hf
    refine go_get d_Mo_notesSolution_42 (gR_x e_x1) fl_Mo_37 ?_
    refine go_iload_n 1 d_Mo_notesSolution_45 rfl ?_
    refine go_aload_n 0 d_Mo_notesSolution_46 rfl ?_
    obtain ⟨x2, e_x2, hf⟩ := bnd_x hf
    refine go_get d_Mo_notesSolution_47 (gI_x e_x2) fl_Mo_175 ?_
    refine go_iconst (1 : Int32) d_Mo_notesSolution_50 (by decide) ?_
    refine go_icmp_ne 66 d_Mo_notesSolution_51 (by decide) (fun q8 => ?_) (fun q8 => ?_)
    · rw [if_neg q8] at hf
      refine go_aload_n 0 d_Mo_notesSolution_66 rfl ?_
      obtain ⟨x3, e_x3, hf⟩ := bnd_x hf
      refine go_get d_Mo_notesSolution_67 (gR_x e_x3) fl_Mo_37 ?_
      refine go_iload_n 1 d_Mo_notesSolution_70 rfl ?_
      obtain ⟨x4, e_x4, hf⟩ := bnd_x hf
      refine go_iaload d_Mo_notesSolution_71 e_x4 ?_
      refine go_sub (lv' := [(0, .ref a0), (1, .int i1)]) [0, 1] rfl ?_
      exact g_Mo_notesSolution_72 hd hk35 a0 i1 x4 i1 x1 h hf
    · rw [if_pos q8] at hf
      refine go_aload_n 0 d_Mo_notesSolution_54 rfl ?_
      obtain ⟨x5, e_x5, hf⟩ := bnd_x hf
      refine go_get d_Mo_notesSolution_55 (gR_x e_x5) fl_Mo_25 ?_
      refine go_iload_n 1 d_Mo_notesSolution_58 rfl ?_
      obtain ⟨x6, e_x6, hf⟩ := bnd_x hf
      refine go_iaload d_Mo_notesSolution_59 e_x6 ?_
      obtain ⟨x7, e_x7, hf⟩ := bnd_x hf
      refine go_callS_I (As := [.int x6]) (st := [.int i1, .ref x1]) (c_Mo_least (d := d - 1) (by omega) e_x7) lk_Mo_114 rfl rfl (rm_ok (by omega)) (Nat.le_of_ble_eq_true rfl) rm_c d_Mo_notesSolution_60 ?_
      refine go_goto 72 d_Mo_notesSolution_63 (by decide) ?_
      refine go_sub (lv' := [(0, .ref a0), (1, .int i1)]) [0, 1] rfl ?_
      exact g_Mo_notesSolution_72 hd hk35 a0 i1 x7 i1 x1 h hf
theorem t_Mo_notesSolution_35 {l : Launch} {E : ET} {d : Nat} (hd : 3 ≤ d) {F : Nat} {h9 : PH} {x : Nat}  : ∀ (n : Nat) (a0 : Nat) (i1 : Int32) (hh : PH), f_Mo_notesSolution_35 F n a0 i1 hh = some h9 → Go l E m_Mo_notesSolution (rm d 0 0) (KM E 0 0 (PoE none h9 x)) 0 0 hh x 35 [(0, .ref a0), (1, .int i1)] [] := by
  intro n
  induction n with
  | zero => intro v0 v1 v2 hf; cases hf
  | succ n ih => intro v0 v1 v2 hf; exact g_Mo_notesSolution_35 hd ih v0 v1 v2 hf
def b_Mo_notesSolution_30 (F : Nat) (a0 : Nat) (s0 : Int32) (s1 : Nat) (h : PH) : Option PH :=
  bnd (pV h s1 10 19 (.int s0)) fun h1 => f_Mo_notesSolution_35 F F a0 (0 : Int32) h1
theorem g_Mo_notesSolution_30 {l : Launch} {E : ET} {d : Nat} (hd : 3 ≤ d) {F : Nat} {h9 : PH} {x : Nat}  (a0 : Nat) (s0 : Int32) (s1 : Nat) (h : PH) (hf : b_Mo_notesSolution_30 F a0 s0 s1 h = some h9) : Go l E m_Mo_notesSolution (rm d 0 0) (KM E 0 0 (PoE none h9 x)) 0 0 h x 30 [(0, .ref a0)] [.int s0, .ref s1] := by
  unfold b_Mo_notesSolution_30 at hf
  obtain ⟨h1, e_h1, hf⟩ := bnd_x hf
  refine go_putI d_Mo_notesSolution_30 e_h1 fl_Mo_181 rfl rfl ?_
  refine go_iconst (0 : Int32) d_Mo_notesSolution_33 (by decide) ?_
  refine go_istore_n (lv' := [(1, .int (0 : Int32)), (0, .ref a0)]) d_Mo_notesSolution_34 rfl (by decide) ?_
  refine go_sub (lv' := [(0, .ref a0), (1, .int (0 : Int32))]) [1, 0] rfl ?_
  exact t_Mo_notesSolution_35 hd  _ a0 (0 : Int32) h1 hf
def f_Mo_notesSolution (F : Nat) (a0 : Nat) (h : PH) : Option PH :=
  bnd (gI h a0 10 17) fun x1 => bnd (pV h a0 10 17 (.int (x1 + (1 : Int32)))) fun h2 => bnd (gI h2 a0 10 17) fun x3 => (if x3 = (1 : Int32) then bnd (gI h2 a0 10 18) fun x5 => b_Mo_notesSolution_30 F a0 x5 a0 h2 else bnd (gI h2 a0 10 19) fun x4 => b_Mo_notesSolution_30 F a0 x4 a0 h2)
theorem g_Mo_notesSolution_0 {l : Launch} {E : ET} {d : Nat} (hd : 3 ≤ d) {F : Nat} {h9 : PH} {x : Nat}  (a0 : Nat) (h : PH) (hf : f_Mo_notesSolution F a0 h = some h9) : Go l E m_Mo_notesSolution (rm d 0 0) (KM E 0 0 (PoE none h9 x)) 0 0 h x 0 [(0, .ref a0)] [] := by
  unfold f_Mo_notesSolution at hf
  refine go_aload_n 0 d_Mo_notesSolution_0 rfl ?_
  refine go_dup d_Mo_notesSolution_1 rfl ?_
  obtain ⟨x1, e_x1, hf⟩ := bnd_x hf
  refine go_get d_Mo_notesSolution_2 (gI_x e_x1) fl_Mo_175 ?_
  refine go_iconst (1 : Int32) d_Mo_notesSolution_5 (by decide) ?_
  refine go_iadd d_Mo_notesSolution_6 ?_
  obtain ⟨h2, e_h2, hf⟩ := bnd_x hf
  refine go_putI d_Mo_notesSolution_7 e_h2 fl_Mo_175 rfl rfl ?_
  refine go_aload_n 0 d_Mo_notesSolution_10 rfl ?_
  refine go_aload_n 0 d_Mo_notesSolution_11 rfl ?_
  obtain ⟨x3, e_x3, hf⟩ := bnd_x hf
  refine go_get d_Mo_notesSolution_12 (gI_x e_x3) fl_Mo_175 ?_
  refine go_iconst (1 : Int32) d_Mo_notesSolution_15 (by decide) ?_
  refine go_icmp_ne 26 d_Mo_notesSolution_16 (by decide) (fun q6 => ?_) (fun q6 => ?_)
  · rw [if_neg q6] at hf
    refine go_aload_n 0 d_Mo_notesSolution_26 rfl ?_
    obtain ⟨x4, e_x4, hf⟩ := bnd_x hf
    refine go_get d_Mo_notesSolution_27 (gI_x e_x4) fl_Mo_181 ?_
    refine go_sub (lv' := [(0, .ref a0)]) [0] rfl ?_
    exact g_Mo_notesSolution_30 hd  a0 x4 a0 h2 hf
  · rw [if_pos q6] at hf
    refine go_aload_n 0 d_Mo_notesSolution_19 rfl ?_
    obtain ⟨x5, e_x5, hf⟩ := bnd_x hf
    refine go_get d_Mo_notesSolution_20 (gI_x e_x5) fl_Mo_178 ?_
    refine go_goto 30 d_Mo_notesSolution_23 (by decide) ?_
    refine go_sub (lv' := [(0, .ref a0)]) [0] rfl ?_
    exact g_Mo_notesSolution_30 hd  a0 x5 a0 h2 hf
theorem c_Mo_notesSolution {l : Launch} {E : ET} {d : Nat} (hd : 3 ≤ d) {F : Nat} {h9 : PH} {x : Nat} {a0 : Nat} {h : PH} (hf : f_Mo_notesSolution F a0 h = some h9) : Fn l E m_Mo_notesSolution d 0 0 [.ref a0] h x (PoE none h9 x) :=
  Fn.of (by decide +kernel) (Nat.le_of_ble_eq_true rfl) (g_Mo_notesSolution_0 hd a0 h hf)
theorem d_Mo_fewest_0 : decode prog_13_method_42_code 0 = .ok (.iconst (-1), 1) := by decide +kernel
theorem d_Mo_fewest_1 : decode prog_13_method_42_code 1 = .ok (.istore_n 1, 1) := by decide +kernel
theorem d_Mo_fewest_2 : decode prog_13_method_42_code 2 = .ok (.iconst 0, 1) := by decide +kernel
theorem d_Mo_fewest_3 : decode prog_13_method_42_code 3 = .ok (.istore_n 2, 1) := by decide +kernel
theorem d_Mo_fewest_4 : decode prog_13_method_42_code 4 = .ok (.iload_n 2, 1) := by decide +kernel
theorem d_Mo_fewest_5 : decode prog_13_method_42_code 5 = .ok (.bipush 36, 2) := by decide +kernel
theorem d_Mo_fewest_7 : decode prog_13_method_42_code 7 = .ok (.if_icmp .ge 48, 3) := by decide +kernel
theorem d_Mo_fewest_10 : decode prog_13_method_42_code 10 = .ok (.aload_n 0, 1) := by decide +kernel
theorem d_Mo_fewest_11 : decode prog_13_method_42_code 11 = .ok (.getfield 25, 3) := by decide +kernel
theorem d_Mo_fewest_14 : decode prog_13_method_42_code 14 = .ok (.iload_n 2, 1) := by decide +kernel
theorem d_Mo_fewest_15 : decode prog_13_method_42_code 15 = .ok (.iaload, 1) := by decide +kernel
theorem d_Mo_fewest_16 : decode prog_13_method_42_code 16 = .ok (.invokestatic 98, 3) := by decide +kernel
theorem d_Mo_fewest_19 : decode prog_13_method_42_code 19 = .ok (.istore_n 3, 1) := by decide +kernel
theorem d_Mo_fewest_20 : decode prog_13_method_42_code 20 = .ok (.iload_n 3, 1) := by decide +kernel
theorem d_Mo_fewest_21 : decode prog_13_method_42_code 21 = .ok (.iconst 1, 1) := by decide +kernel
theorem d_Mo_fewest_22 : decode prog_13_method_42_code 22 = .ok (.if_icmp .le 25, 3) := by decide +kernel
theorem d_Mo_fewest_25 : decode prog_13_method_42_code 25 = .ok (.iload_n 1, 1) := by decide +kernel
theorem d_Mo_fewest_26 : decode prog_13_method_42_code 26 = .ok (.iconst (-1), 1) := by decide +kernel
theorem d_Mo_fewest_27 : decode prog_13_method_42_code 27 = .ok (.if_icmp .eq 16, 3) := by decide +kernel
theorem d_Mo_fewest_30 : decode prog_13_method_42_code 30 = .ok (.iload_n 3, 1) := by decide +kernel
theorem d_Mo_fewest_31 : decode prog_13_method_42_code 31 = .ok (.aload_n 0, 1) := by decide +kernel
theorem d_Mo_fewest_32 : decode prog_13_method_42_code 32 = .ok (.getfield 25, 3) := by decide +kernel
theorem d_Mo_fewest_35 : decode prog_13_method_42_code 35 = .ok (.iload_n 1, 1) := by decide +kernel
theorem d_Mo_fewest_36 : decode prog_13_method_42_code 36 = .ok (.iaload, 1) := by decide +kernel
theorem d_Mo_fewest_37 : decode prog_13_method_42_code 37 = .ok (.invokestatic 98, 3) := by decide +kernel
theorem d_Mo_fewest_40 : decode prog_13_method_42_code 40 = .ok (.if_icmp .ge 7, 3) := by decide +kernel
theorem d_Mo_fewest_43 : decode prog_13_method_42_code 43 = .ok (.iload_n 2, 1) := by decide +kernel
theorem d_Mo_fewest_44 : decode prog_13_method_42_code 44 = .ok (.goto 4, 3) := by decide +kernel
theorem d_Mo_fewest_47 : decode prog_13_method_42_code 47 = .ok (.iload_n 1, 1) := by decide +kernel
theorem d_Mo_fewest_48 : decode prog_13_method_42_code 48 = .ok (.istore_n 1, 1) := by decide +kernel
theorem d_Mo_fewest_49 : decode prog_13_method_42_code 49 = .ok (.iinc 2 1, 3) := by decide +kernel
theorem d_Mo_fewest_52 : decode prog_13_method_42_code 52 = .ok (.goto (-48), 3) := by decide +kernel
theorem d_Mo_fewest_55 : decode prog_13_method_42_code 55 = .ok (.iload_n 1, 1) := by decide +kernel
theorem d_Mo_fewest_56 : decode prog_13_method_42_code 56 = .ok (.ireturn, 1) := by decide +kernel
def b_Mo_fewest_48 (F : Nat) (k4 : Nat → Int32 → Int32 → PH → Option Int32) (a0 : Nat) (i2 : Int32) (s0 : Int32) (h : PH) : Option Int32 :=
  k4 a0 s0 (i2 + (1 : Int32)) h
theorem g_Mo_fewest_48 {l : Launch} {E : ET} {d : Nat} (hd : 2 ≤ d) {F : Nat} {r : Int32} {h : PH} {x : Nat} {k4 : Nat → Int32 → Int32 → PH → Option Int32} (hk4 : ∀ (a0 : Nat) (i1 : Int32) (i2 : Int32), k4 a0 i1 i2 h = some r → Go l E m_Mo_fewest (rm d 0 0) (KM E 0 0 (PoE (some (.int r)) h x)) 0 0 h x 4 [(0, .ref a0), (1, .int i1), (2, .int i2)] []) (a0 : Nat) (i2 : Int32) (s0 : Int32) (hf : b_Mo_fewest_48 F k4 a0 i2 s0 h = some r) : Go l E m_Mo_fewest (rm d 0 0) (KM E 0 0 (PoE (some (.int r)) h x)) 0 0 h x 48 [(0, .ref a0), (2, .int i2)] [.int s0] := by
  unfold b_Mo_fewest_48 at hf
  refine go_istore_n (lv' := [(1, .int s0), (0, .ref a0), (2, .int i2)]) d_Mo_fewest_48 rfl (by decide) ?_
  refine go_iinc (lv' := [(2, .int (i2 + (1 : Int32))), (1, .int s0), (0, .ref a0)]) 2 (i2 + (1 : Int32)) d_Mo_fewest_49 rfl rfl rfl (by decide) ?_
  refine go_goto 4 d_Mo_fewest_52 (by decide) ?_
  refine go_sub (lv' := [(0, .ref a0), (1, .int s0), (2, .int (i2 + (1 : Int32)))]) [2, 1, 0] rfl ?_
  exact hk4 a0 s0 (i2 + (1 : Int32)) hf
def b_Mo_fewest_43 (F : Nat) (k4 : Nat → Int32 → Int32 → PH → Option Int32) (a0 : Nat) (i2 : Int32) (h : PH) : Option Int32 :=
  b_Mo_fewest_48 F k4 a0 i2 i2 h
theorem g_Mo_fewest_43 {l : Launch} {E : ET} {d : Nat} (hd : 2 ≤ d) {F : Nat} {r : Int32} {h : PH} {x : Nat} {k4 : Nat → Int32 → Int32 → PH → Option Int32} (hk4 : ∀ (a0 : Nat) (i1 : Int32) (i2 : Int32), k4 a0 i1 i2 h = some r → Go l E m_Mo_fewest (rm d 0 0) (KM E 0 0 (PoE (some (.int r)) h x)) 0 0 h x 4 [(0, .ref a0), (1, .int i1), (2, .int i2)] []) (a0 : Nat) (i2 : Int32) (hf : b_Mo_fewest_43 F k4 a0 i2 h = some r) : Go l E m_Mo_fewest (rm d 0 0) (KM E 0 0 (PoE (some (.int r)) h x)) 0 0 h x 43 [(0, .ref a0), (2, .int i2)] [] := by
  unfold b_Mo_fewest_43 at hf
  refine go_iload_n 1 d_Mo_fewest_43 rfl ?_
  refine go_goto 48 d_Mo_fewest_44 (by decide) ?_
  refine go_sub (lv' := [(0, .ref a0), (2, .int i2)]) [0, 1] rfl ?_
  exact g_Mo_fewest_48 hd hk4 a0 i2 i2  hf
def b_Mo_fewest_47 (F : Nat) (k4 : Nat → Int32 → Int32 → PH → Option Int32) (a0 : Nat) (i1 : Int32) (i2 : Int32) (h : PH) : Option Int32 :=
  b_Mo_fewest_48 F k4 a0 i2 i1 h
theorem g_Mo_fewest_47 {l : Launch} {E : ET} {d : Nat} (hd : 2 ≤ d) {F : Nat} {r : Int32} {h : PH} {x : Nat} {k4 : Nat → Int32 → Int32 → PH → Option Int32} (hk4 : ∀ (a0 : Nat) (i1 : Int32) (i2 : Int32), k4 a0 i1 i2 h = some r → Go l E m_Mo_fewest (rm d 0 0) (KM E 0 0 (PoE (some (.int r)) h x)) 0 0 h x 4 [(0, .ref a0), (1, .int i1), (2, .int i2)] []) (a0 : Nat) (i1 : Int32) (i2 : Int32) (hf : b_Mo_fewest_47 F k4 a0 i1 i2 h = some r) : Go l E m_Mo_fewest (rm d 0 0) (KM E 0 0 (PoE (some (.int r)) h x)) 0 0 h x 47 [(0, .ref a0), (1, .int i1), (2, .int i2)] [] := by
  unfold b_Mo_fewest_47 at hf
  refine go_iload_n 1 d_Mo_fewest_47 rfl ?_
  refine go_sub (lv' := [(0, .ref a0), (2, .int i2)]) [0, 2] rfl ?_
  exact g_Mo_fewest_48 hd hk4 a0 i2 i1  hf
def b_Mo_fewest_4 (F : Nat) (k4 : Nat → Int32 → Int32 → PH → Option Int32) (a0 : Nat) (i1 : Int32) (i2 : Int32) (h : PH) : Option Int32 :=
  (if (36 : Int32) ≤ i2 then some i1 else bnd (gR h a0 10 11) fun x1 => bnd (aI h x1 i2) fun x2 => bnd (f_Mo_size F x2) fun x3 => (if x3 ≤ (1 : Int32) then b_Mo_fewest_47 F k4 a0 i1 i2 h else (if i1 = (-1 : Int32) then b_Mo_fewest_43 F k4 a0 i2 h else bnd (gR h a0 10 11) fun x4 => bnd (aI h x4 i1) fun x5 => bnd (f_Mo_size F x5) fun x6 => (if x6 ≤ x3 then b_Mo_fewest_47 F k4 a0 i1 i2 h else b_Mo_fewest_43 F k4 a0 i2 h))))
def f_Mo_fewest_4 (F : Nat) : Nat → Nat → Int32 → Int32 → PH → Option Int32
  | 0 => fun _ _ _ _ => none
  | n + 1 => b_Mo_fewest_4 F (f_Mo_fewest_4 F n)
theorem g_Mo_fewest_4 {l : Launch} {E : ET} {d : Nat} (hd : 2 ≤ d) {F : Nat} {r : Int32} {h : PH} {x : Nat} {k4 : Nat → Int32 → Int32 → PH → Option Int32} (hk4 : ∀ (a0 : Nat) (i1 : Int32) (i2 : Int32), k4 a0 i1 i2 h = some r → Go l E m_Mo_fewest (rm d 0 0) (KM E 0 0 (PoE (some (.int r)) h x)) 0 0 h x 4 [(0, .ref a0), (1, .int i1), (2, .int i2)] []) (a0 : Nat) (i1 : Int32) (i2 : Int32) (hf : b_Mo_fewest_4 F k4 a0 i1 i2 h = some r) : Go l E m_Mo_fewest (rm d 0 0) (KM E 0 0 (PoE (some (.int r)) h x)) 0 0 h x 4 [(0, .ref a0), (1, .int i1), (2, .int i2)] [] := by
  unfold b_Mo_fewest_4 at hf
  refine go_iload_n 2 d_Mo_fewest_4 rfl ?_
  refine go_bipush (36 : Int32) d_Mo_fewest_5 (by decide) ?_
  refine go_icmp_ge 55 d_Mo_fewest_7 (by decide) (fun q10 => ?_) (fun q10 => ?_)
  · rw [if_pos q10] at hf
    refine go_iload_n 1 d_Mo_fewest_55 rfl ?_
    have e9 := Option.some.inj hf
    subst e9
    exact go_iret d_Mo_fewest_56 rfl ⟨rfl, rfl, rfl⟩
  · rw [if_neg q10] at hf
    refine go_aload_n 0 d_Mo_fewest_10 rfl ?_
    obtain ⟨x1, e_x1, hf⟩ := bnd_x hf
    refine go_get d_Mo_fewest_11 (gR_x e_x1) fl_Mo_25 ?_
    refine go_iload_n 2 d_Mo_fewest_14 rfl ?_
    obtain ⟨x2, e_x2, hf⟩ := bnd_x hf
    refine go_iaload d_Mo_fewest_15 e_x2 ?_
    obtain ⟨x3, e_x3, hf⟩ := bnd_x hf
    refine go_callS_I (As := [.int x2]) (st := []) (c_Mo_size (d := d - 1) (by omega) e_x3) lk_Mo_98 rfl rfl (rm_ok (by omega)) (Nat.le_of_ble_eq_true rfl) rm_c d_Mo_fewest_16 ?_
    refine go_istore_n (lv' := [(3, .int x3), (0, .ref a0), (1, .int i1), (2, .int i2)]) d_Mo_fewest_19 rfl (by decide) ?_
    refine go_iload_n 0 d_Mo_fewest_20 rfl ?_
    refine go_iconst (1 : Int32) d_Mo_fewest_21 (by decide) ?_
    refine go_icmp_le 47 d_Mo_fewest_22 (by decide) (fun q9 => ?_) (fun q9 => ?_)
    · rw [if_pos q9] at hf
      refine go_sub (lv' := [(0, .ref a0), (1, .int i1), (2, .int i2)]) [1, 2, 3] rfl ?_
      exact g_Mo_fewest_47 hd hk4 a0 i1 i2  hf
    · rw [if_neg q9] at hf
      refine go_iload_n 2 d_Mo_fewest_25 rfl ?_
      refine go_iconst (-1 : Int32) d_Mo_fewest_26 (by decide) ?_
      refine go_icmp_eq 43 d_Mo_fewest_27 (by decide) (fun q8 => ?_) (fun q8 => ?_)
      · rw [if_pos q8] at hf
        refine go_sub (lv' := [(0, .ref a0), (2, .int i2)]) [1, 3] rfl ?_
        exact g_Mo_fewest_43 hd hk4 a0 i2  hf
      · rw [if_neg q8] at hf
        refine go_iload_n 0 d_Mo_fewest_30 rfl ?_
        refine go_aload_n 1 d_Mo_fewest_31 rfl ?_
        obtain ⟨x4, e_x4, hf⟩ := bnd_x hf
        refine go_get d_Mo_fewest_32 (gR_x e_x4) fl_Mo_25 ?_
        refine go_iload_n 2 d_Mo_fewest_35 rfl ?_
        obtain ⟨x5, e_x5, hf⟩ := bnd_x hf
        refine go_iaload d_Mo_fewest_36 e_x5 ?_
        obtain ⟨x6, e_x6, hf⟩ := bnd_x hf
        refine go_callS_I (As := [.int x5]) (st := [.int x3]) (c_Mo_size (d := d - 1) (by omega) e_x6) lk_Mo_98 rfl rfl (rm_ok (by omega)) (Nat.le_of_ble_eq_true rfl) rm_c d_Mo_fewest_37 ?_
        refine go_icmp_ge 47 d_Mo_fewest_40 (by decide) (fun q7 => ?_) (fun q7 => ?_)
        · rw [if_pos q7] at hf
          refine go_sub (lv' := [(0, .ref a0), (1, .int i1), (2, .int i2)]) [1, 2, 3] rfl ?_
          exact g_Mo_fewest_47 hd hk4 a0 i1 i2  hf
        · rw [if_neg q7] at hf
          refine go_sub (lv' := [(0, .ref a0), (2, .int i2)]) [1, 3] rfl ?_
          exact g_Mo_fewest_43 hd hk4 a0 i2  hf
theorem t_Mo_fewest_4 {l : Launch} {E : ET} {d : Nat} (hd : 2 ≤ d) {F : Nat} {r : Int32} {h : PH} {x : Nat}  : ∀ (n : Nat) (a0 : Nat) (i1 : Int32) (i2 : Int32), f_Mo_fewest_4 F n a0 i1 i2 h = some r → Go l E m_Mo_fewest (rm d 0 0) (KM E 0 0 (PoE (some (.int r)) h x)) 0 0 h x 4 [(0, .ref a0), (1, .int i1), (2, .int i2)] [] := by
  intro n
  induction n with
  | zero => intro v0 v1 v2 hf; cases hf
  | succ n ih => intro v0 v1 v2 hf; exact g_Mo_fewest_4 hd ih v0 v1 v2 hf
def f_Mo_fewest (F : Nat) (a0 : Nat) (h : PH) : Option Int32 :=
  f_Mo_fewest_4 F F a0 (-1 : Int32) (0 : Int32) h
theorem g_Mo_fewest_0 {l : Launch} {E : ET} {d : Nat} (hd : 2 ≤ d) {F : Nat} {r : Int32} {h : PH} {x : Nat}  (a0 : Nat) (hf : f_Mo_fewest F a0 h = some r) : Go l E m_Mo_fewest (rm d 0 0) (KM E 0 0 (PoE (some (.int r)) h x)) 0 0 h x 0 [(0, .ref a0)] [] := by
  unfold f_Mo_fewest at hf
  refine go_iconst (-1 : Int32) d_Mo_fewest_0 (by decide) ?_
  refine go_istore_n (lv' := [(1, .int (-1 : Int32)), (0, .ref a0)]) d_Mo_fewest_1 rfl (by decide) ?_
  refine go_iconst (0 : Int32) d_Mo_fewest_2 (by decide) ?_
  refine go_istore_n (lv' := [(2, .int (0 : Int32)), (1, .int (-1 : Int32)), (0, .ref a0)]) d_Mo_fewest_3 rfl (by decide) ?_
  refine go_sub (lv' := [(0, .ref a0), (1, .int (-1 : Int32)), (2, .int (0 : Int32))]) [2, 1, 0] rfl ?_
  exact t_Mo_fewest_4 hd  _ a0 (-1 : Int32) (0 : Int32)  hf
theorem c_Mo_fewest {l : Launch} {E : ET} {d : Nat} (hd : 2 ≤ d) {F : Nat} {r : Int32} {h : PH} {x : Nat} {a0 : Nat} (hf : f_Mo_fewest F a0 h = some r) : Fn l E m_Mo_fewest d 0 0 [.ref a0] h x (PoE (some (.int r)) h x) :=
  Fn.of (by decide +kernel) (Nat.le_of_ble_eq_true rfl) (g_Mo_fewest_0 hd a0 hf)
