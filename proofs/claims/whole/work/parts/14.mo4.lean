/-! 14.mo4: methods as functions, by program. -/
theorem d_Mo_make_0 : decode prog_13_method_59_code 0 = .ok (.aload_n 0, 1) := by decide +kernel
theorem d_Mo_make_1 : decode prog_13_method_59_code 1 = .ok (.iload_n 1, 1) := by decide +kernel
theorem d_Mo_make_2 : decode prog_13_method_59_code 2 = .ok (.iconst 0, 1) := by decide +kernel
theorem d_Mo_make_3 : decode prog_13_method_59_code 3 = .ok (.ldc 244, 2) := by decide +kernel
theorem d_Mo_make_5 : decode prog_13_method_59_code 5 = .ok (.invokestatic 62, 3) := by decide +kernel
theorem d_Mo_make_8 : decode prog_13_method_59_code 8 = .ok (.ifCond .eq 17, 3) := by decide +kernel
theorem d_Mo_make_11 : decode prog_13_method_59_code 11 = .ok (.iload_n 2, 1) := by decide +kernel
theorem d_Mo_make_12 : decode prog_13_method_59_code 12 = .ok (.iconst 0, 1) := by decide +kernel
theorem d_Mo_make_13 : decode prog_13_method_59_code 13 = .ok (.bipush 36, 2) := by decide +kernel
theorem d_Mo_make_15 : decode prog_13_method_59_code 15 = .ok (.invokestatic 62, 3) := by decide +kernel
theorem d_Mo_make_18 : decode prog_13_method_59_code 18 = .ok (.ifCond .eq 7, 3) := by decide +kernel
theorem d_Mo_make_21 : decode prog_13_method_59_code 21 = .ok (.iconst 0, 1) := by decide +kernel
theorem d_Mo_make_22 : decode prog_13_method_59_code 22 = .ok (.goto 4, 3) := by decide +kernel
theorem d_Mo_make_25 : decode prog_13_method_59_code 25 = .ok (.iconst 1, 1) := by decide +kernel
theorem d_Mo_make_26 : decode prog_13_method_59_code 26 = .ok (.putfield 52, 3) := by decide +kernel
theorem d_Mo_make_29 : decode prog_13_method_59_code 29 = .ok (.aload_n 0, 1) := by decide +kernel
theorem d_Mo_make_30 : decode prog_13_method_59_code 30 = .ok (.getfield 52, 3) := by decide +kernel
theorem d_Mo_make_33 : decode prog_13_method_59_code 33 = .ok (.ifCond .eq 5, 3) := by decide +kernel
theorem d_Mo_make_36 : decode prog_13_method_59_code 36 = .ok (.iconst 0, 1) := by decide +kernel
theorem d_Mo_make_37 : decode prog_13_method_59_code 37 = .ok (.ireturn, 1) := by decide +kernel
theorem d_Mo_make_38 : decode prog_13_method_59_code 38 = .ok (.aload_n 0, 1) := by decide +kernel
theorem d_Mo_make_39 : decode prog_13_method_59_code 39 = .ok (.invokevirtual 208, 3) := by decide +kernel
theorem d_Mo_make_42 : decode prog_13_method_59_code 42 = .ok (.aload_n 0, 1) := by decide +kernel
theorem d_Mo_make_43 : decode prog_13_method_59_code 43 = .ok (.invokevirtual 211, 3) := by decide +kernel
theorem d_Mo_make_46 : decode prog_13_method_59_code 46 = .ok (.aload_n 0, 1) := by decide +kernel
theorem d_Mo_make_47 : decode prog_13_method_59_code 47 = .ok (.iload_n 1, 1) := by decide +kernel
theorem d_Mo_make_48 : decode prog_13_method_59_code 48 = .ok (.i2l, 1) := by decide +kernel
theorem d_Mo_make_49 : decode prog_13_method_59_code 49 = .ok (.putfield 231, 3) := by decide +kernel
theorem d_Mo_make_52 : decode prog_13_method_59_code 52 = .ok (.aload_n 0, 1) := by decide +kernel
theorem d_Mo_make_53 : decode prog_13_method_59_code 53 = .ok (.bipush 6, 2) := by decide +kernel
theorem d_Mo_make_55 : decode prog_13_method_59_code 55 = .ok (.iconst 1, 1) := by decide +kernel
theorem d_Mo_make_56 : decode prog_13_method_59_code 56 = .ok (.invokevirtual 245, 3) := by decide +kernel
theorem d_Mo_make_59 : decode prog_13_method_59_code 59 = .ok (.iconst 0, 1) := by decide +kernel
theorem d_Mo_make_60 : decode prog_13_method_59_code 60 = .ok (.istore_n 3, 1) := by decide +kernel
theorem d_Mo_make_61 : decode prog_13_method_59_code 61 = .ok (.iload_n 3, 1) := by decide +kernel
theorem d_Mo_make_62 : decode prog_13_method_59_code 62 = .ok (.bipush 36, 2) := by decide +kernel
theorem d_Mo_make_64 : decode prog_13_method_59_code 64 = .ok (.if_icmp .ge 48, 3) := by decide +kernel
theorem d_Mo_make_67 : decode prog_13_method_59_code 67 = .ok (.iload_n 3, 1) := by decide +kernel
theorem d_Mo_make_68 : decode prog_13_method_59_code 68 = .ok (.bipush 6, 2) := by decide +kernel
theorem d_Mo_make_70 : decode prog_13_method_59_code 70 = .ok (.idiv, 1) := by decide +kernel
theorem d_Mo_make_71 : decode prog_13_method_59_code 71 = .ok (.istore 4, 2) := by decide +kernel
theorem d_Mo_make_73 : decode prog_13_method_59_code 73 = .ok (.aload_n 0, 1) := by decide +kernel
theorem d_Mo_make_74 : decode prog_13_method_59_code 74 = .ok (.getfield 7, 3) := by decide +kernel
theorem d_Mo_make_77 : decode prog_13_method_59_code 77 = .ok (.bipush 72, 2) := by decide +kernel
theorem d_Mo_make_79 : decode prog_13_method_59_code 79 = .ok (.iload_n 3, 1) := by decide +kernel
theorem d_Mo_make_80 : decode prog_13_method_59_code 80 = .ok (.iadd, 1) := by decide +kernel
theorem d_Mo_make_81 : decode prog_13_method_59_code 81 = .ok (.aload_n 0, 1) := by decide +kernel
theorem d_Mo_make_82 : decode prog_13_method_59_code 82 = .ok (.getfield 43, 3) := by decide +kernel
theorem d_Mo_make_85 : decode prog_13_method_59_code 85 = .ok (.iconst 3, 1) := by decide +kernel
theorem d_Mo_make_86 : decode prog_13_method_59_code 86 = .ok (.iload 4, 2) := by decide +kernel
theorem d_Mo_make_88 : decode prog_13_method_59_code 88 = .ok (.iconst 2, 1) := by decide +kernel
theorem d_Mo_make_89 : decode prog_13_method_59_code 89 = .ok (.irem, 1) := by decide +kernel
theorem d_Mo_make_90 : decode prog_13_method_59_code 90 = .ok (.imul, 1) := by decide +kernel
theorem d_Mo_make_91 : decode prog_13_method_59_code 91 = .ok (.iload 4, 2) := by decide +kernel
theorem d_Mo_make_93 : decode prog_13_method_59_code 93 = .ok (.iconst 2, 1) := by decide +kernel
theorem d_Mo_make_94 : decode prog_13_method_59_code 94 = .ok (.idiv, 1) := by decide +kernel
theorem d_Mo_make_95 : decode prog_13_method_59_code 95 = .ok (.iadd, 1) := by decide +kernel
theorem d_Mo_make_96 : decode prog_13_method_59_code 96 = .ok (.iload_n 3, 1) := by decide +kernel
theorem d_Mo_make_97 : decode prog_13_method_59_code 97 = .ok (.bipush 6, 2) := by decide +kernel
theorem d_Mo_make_99 : decode prog_13_method_59_code 99 = .ok (.irem, 1) := by decide +kernel
theorem d_Mo_make_100 : decode prog_13_method_59_code 100 = .ok (.iadd, 1) := by decide +kernel
theorem d_Mo_make_101 : decode prog_13_method_59_code 101 = .ok (.bipush 6, 2) := by decide +kernel
theorem d_Mo_make_103 : decode prog_13_method_59_code 103 = .ok (.irem, 1) := by decide +kernel
theorem d_Mo_make_104 : decode prog_13_method_59_code 104 = .ok (.iaload, 1) := by decide +kernel
theorem d_Mo_make_105 : decode prog_13_method_59_code 105 = .ok (.iastore, 1) := by decide +kernel
theorem d_Mo_make_106 : decode prog_13_method_59_code 106 = .ok (.iinc 3 1, 3) := by decide +kernel
theorem d_Mo_make_109 : decode prog_13_method_59_code 109 = .ok (.goto (-48), 3) := by decide +kernel
theorem d_Mo_make_112 : decode prog_13_method_59_code 112 = .ok (.aload_n 0, 1) := by decide +kernel
theorem d_Mo_make_113 : decode prog_13_method_59_code 113 = .ok (.bipush 36, 2) := by decide +kernel
theorem d_Mo_make_115 : decode prog_13_method_59_code 115 = .ok (.iconst 0, 1) := by decide +kernel
theorem d_Mo_make_116 : decode prog_13_method_59_code 116 = .ok (.invokevirtual 245, 3) := by decide +kernel
theorem d_Mo_make_119 : decode prog_13_method_59_code 119 = .ok (.bipush 36, 2) := by decide +kernel
theorem d_Mo_make_121 : decode prog_13_method_59_code 121 = .ok (.istore_n 3, 1) := by decide +kernel
theorem d_Mo_make_122 : decode prog_13_method_59_code 122 = .ok (.iconst 0, 1) := by decide +kernel
theorem d_Mo_make_123 : decode prog_13_method_59_code 123 = .ok (.istore 4, 2) := by decide +kernel
theorem d_Mo_make_125 : decode prog_13_method_59_code 125 = .ok (.iload 4, 2) := by decide +kernel
theorem d_Mo_make_127 : decode prog_13_method_59_code 127 = .ok (.bipush 36, 2) := by decide +kernel
theorem d_Mo_make_129 : decode prog_13_method_59_code 129 = .ok (.if_icmp .ge 49, 3) := by decide +kernel
theorem d_Mo_make_132 : decode prog_13_method_59_code 132 = .ok (.iload_n 3, 1) := by decide +kernel
theorem d_Mo_make_133 : decode prog_13_method_59_code 133 = .ok (.iload_n 2, 1) := by decide +kernel
theorem d_Mo_make_134 : decode prog_13_method_59_code 134 = .ok (.if_icmp .le 44, 3) := by decide +kernel
theorem d_Mo_make_137 : decode prog_13_method_59_code 137 = .ok (.aload_n 0, 1) := by decide +kernel
theorem d_Mo_make_138 : decode prog_13_method_59_code 138 = .ok (.aload_n 0, 1) := by decide +kernel
theorem d_Mo_make_139 : decode prog_13_method_59_code 139 = .ok (.getfield 43, 3) := by decide +kernel
theorem d_Mo_make_142 : decode prog_13_method_59_code 142 = .ok (.iload 4, 2) := by decide +kernel
theorem d_Mo_make_144 : decode prog_13_method_59_code 144 = .ok (.iaload, 1) := by decide +kernel
theorem d_Mo_make_145 : decode prog_13_method_59_code 145 = .ok (.iconst 2, 1) := by decide +kernel
theorem d_Mo_make_146 : decode prog_13_method_59_code 146 = .ok (.invokevirtual 249, 3) := by decide +kernel
theorem d_Mo_make_149 : decode prog_13_method_59_code 149 = .ok (.iconst 1, 1) := by decide +kernel
theorem d_Mo_make_150 : decode prog_13_method_59_code 150 = .ok (.if_icmp .ne 22, 3) := by decide +kernel
theorem d_Mo_make_153 : decode prog_13_method_59_code 153 = .ok (.aload_n 0, 1) := by decide +kernel
theorem d_Mo_make_154 : decode prog_13_method_59_code 154 = .ok (.getfield 7, 3) := by decide +kernel
theorem d_Mo_make_157 : decode prog_13_method_59_code 157 = .ok (.bipush 72, 2) := by decide +kernel
theorem d_Mo_make_159 : decode prog_13_method_59_code 159 = .ok (.aload_n 0, 1) := by decide +kernel
theorem d_Mo_make_160 : decode prog_13_method_59_code 160 = .ok (.getfield 43, 3) := by decide +kernel
theorem d_Mo_make_163 : decode prog_13_method_59_code 163 = .ok (.iload 4, 2) := by decide +kernel
theorem d_Mo_make_165 : decode prog_13_method_59_code 165 = .ok (.iaload, 1) := by decide +kernel
theorem d_Mo_make_166 : decode prog_13_method_59_code 166 = .ok (.iadd, 1) := by decide +kernel
theorem d_Mo_make_167 : decode prog_13_method_59_code 167 = .ok (.iconst 0, 1) := by decide +kernel
theorem d_Mo_make_168 : decode prog_13_method_59_code 168 = .ok (.iastore, 1) := by decide +kernel
theorem d_Mo_make_169 : decode prog_13_method_59_code 169 = .ok (.iinc 3 (-1), 3) := by decide +kernel
theorem d_Mo_make_172 : decode prog_13_method_59_code 172 = .ok (.iinc 4 1, 3) := by decide +kernel
theorem d_Mo_make_175 : decode prog_13_method_59_code 175 = .ok (.goto (-50), 3) := by decide +kernel
theorem d_Mo_make_178 : decode prog_13_method_59_code 178 = .ok (.aload_n 0, 1) := by decide +kernel
theorem d_Mo_make_179 : decode prog_13_method_59_code 179 = .ok (.invokevirtual 205, 3) := by decide +kernel
theorem d_Mo_make_182 : decode prog_13_method_59_code 182 = .ok (.iload_n 3, 1) := by decide +kernel
theorem d_Mo_make_183 : decode prog_13_method_59_code 183 = .ok (.ireturn, 1) := by decide +kernel
def b_Mo_make_172 (F : Nat) (k125 : Nat → Int32 → Int32 → Int32 → PH → Option (Int32 × PH)) (a0 : Nat) (i2 : Int32) (i3 : Int32) (i4 : Int32) (h : PH) : Option (Int32 × PH) :=
  k125 a0 i2 i3 (i4 + (1 : Int32)) h
theorem g_Mo_make_172 {l : Launch} {E : ET} {d : Nat} (hd : 9 ≤ d) {F : Nat} {r : Int32} {h9 : PH} {x : Nat} {k125 : Nat → Int32 → Int32 → Int32 → PH → Option (Int32 × PH)} (hk125 : ∀ (a0 : Nat) (i2 : Int32) (i3 : Int32) (i4 : Int32) (hh : PH), k125 a0 i2 i3 i4 hh = some (r, h9) → Go l E m_Mo_make (rm d 0 0) (KM E 0 0 (PoE (some (.int r)) h9 x)) 0 0 hh x 125 [(0, .ref a0), (2, .int i2), (3, .int i3), (4, .int i4)] []) (a0 : Nat) (i2 : Int32) (i3 : Int32) (i4 : Int32) (h : PH) (hf : b_Mo_make_172 F k125 a0 i2 i3 i4 h = some (r, h9)) : Go l E m_Mo_make (rm d 0 0) (KM E 0 0 (PoE (some (.int r)) h9 x)) 0 0 h x 172 [(0, .ref a0), (2, .int i2), (3, .int i3), (4, .int i4)] [] := by
  unfold b_Mo_make_172 at hf
  refine go_iinc (lv' := [(4, .int (i4 + (1 : Int32))), (0, .ref a0), (2, .int i2), (3, .int i3)]) 3 (i4 + (1 : Int32)) d_Mo_make_172 rfl rfl rfl (by decide) ?_
  refine go_goto 125 d_Mo_make_175 (by decide) ?_
  refine go_sub (lv' := [(0, .ref a0), (2, .int i2), (3, .int i3), (4, .int (i4 + (1 : Int32)))]) [1, 2, 3, 0] rfl ?_
  exact hk125 a0 i2 i3 (i4 + (1 : Int32)) h hf
def b_Mo_make_178 (F : Nat) (a0 : Nat) (i3 : Int32) (h : PH) : Option (Int32 × PH) :=
  bnd (cK h a0 10) fun _ => bnd (f_Mo_beginAnew F a0 h) fun h2 => some (i3, h2)
theorem g_Mo_make_178 {l : Launch} {E : ET} {d : Nat} (hd : 9 ≤ d) {F : Nat} {r : Int32} {h9 : PH} {x : Nat}  (a0 : Nat) (i3 : Int32) (h : PH) (hf : b_Mo_make_178 F a0 i3 h = some (r, h9)) : Go l E m_Mo_make (rm d 0 0) (KM E 0 0 (PoE (some (.int r)) h9 x)) 0 0 h x 178 [(0, .ref a0), (3, .int i3)] [] := by
  unfold b_Mo_make_178 at hf
  refine go_aload_n 0 d_Mo_make_178 rfl ?_
  obtain ⟨_, e1, hf⟩ := bnd_x hf
  obtain ⟨h2, e_x2, hf⟩ := bnd_x hf
  refine go_callV_N (As := []) (st := []) (c_Mo_beginAnew (d := d - 1) (by omega) e_x2) lk_Mo_205 rfl rfl e1 (by decide) rfl (rm_ok (by omega)) (Nat.le_of_ble_eq_true rfl) rm_c d_Mo_make_179 ?_
  refine go_iload_n 1 d_Mo_make_182 rfl ?_
  obtain ⟨e8, e9⟩ := Prod.mk.inj (Option.some.inj hf)
  subst e8; subst e9
  exact go_iret d_Mo_make_183 rfl ⟨rfl, rfl, rfl⟩
def b_Mo_make_125 (F : Nat) (k125 : Nat → Int32 → Int32 → Int32 → PH → Option (Int32 × PH)) (a0 : Nat) (i2 : Int32) (i3 : Int32) (i4 : Int32) (h : PH) : Option (Int32 × PH) :=
  (if (36 : Int32) ≤ i4 then b_Mo_make_178 F a0 i3 h else (if i3 ≤ i2 then b_Mo_make_178 F a0 i3 h else bnd (gR h a0 10 21) fun x1 => bnd (aI h x1 i4) fun x2 => bnd (cK h a0 10) fun _ => bnd2 (f_Mo_solutionsWithout F a0 x2 (2 : Int32) h) fun x4 h5 => (if x4 = (1 : Int32) then bnd (gR h5 a0 10 0) fun x6 => bnd (gR h5 a0 10 21) fun x7 => bnd (aI h5 x7 i4) fun x8 => bnd (sI h5 x6 ((72 : Int32) + x8) (0 : Int32)) fun h9 => b_Mo_make_172 F k125 a0 i2 (i3 + (-1 : Int32)) i4 h9 else b_Mo_make_172 F k125 a0 i2 i3 i4 h5)))
def f_Mo_make_125 (F : Nat) : Nat → Nat → Int32 → Int32 → Int32 → PH → Option (Int32 × PH)
  | 0 => fun _ _ _ _ _ => none
  | n + 1 => b_Mo_make_125 F (f_Mo_make_125 F n)
theorem g_Mo_make_125 {l : Launch} {E : ET} {d : Nat} (hd : 9 ≤ d) {F : Nat} {r : Int32} {h9 : PH} {x : Nat} {k125 : Nat → Int32 → Int32 → Int32 → PH → Option (Int32 × PH)} (hk125 : ∀ (a0 : Nat) (i2 : Int32) (i3 : Int32) (i4 : Int32) (hh : PH), k125 a0 i2 i3 i4 hh = some (r, h9) → Go l E m_Mo_make (rm d 0 0) (KM E 0 0 (PoE (some (.int r)) h9 x)) 0 0 hh x 125 [(0, .ref a0), (2, .int i2), (3, .int i3), (4, .int i4)] []) (a0 : Nat) (i2 : Int32) (i3 : Int32) (i4 : Int32) (h : PH) (hf : b_Mo_make_125 F k125 a0 i2 i3 i4 h = some (r, h9)) : Go l E m_Mo_make (rm d 0 0) (KM E 0 0 (PoE (some (.int r)) h9 x)) 0 0 h x 125 [(0, .ref a0), (2, .int i2), (3, .int i3), (4, .int i4)] [] := by
  unfold b_Mo_make_125 at hf
  refine go_iload 3 d_Mo_make_125 rfl ?_
  refine go_bipush (36 : Int32) d_Mo_make_127 (by decide) ?_
  refine go_icmp_ge 178 d_Mo_make_129 (by decide) (fun q12 => ?_) (fun q12 => ?_)
  · rw [if_pos q12] at hf
    refine go_sub (lv' := [(0, .ref a0), (3, .int i3)]) [0, 2] rfl ?_
    exact g_Mo_make_178 hd  a0 i3 h hf
  · rw [if_neg q12] at hf
    refine go_iload_n 2 d_Mo_make_132 rfl ?_
    refine go_iload_n 1 d_Mo_make_133 rfl ?_
    refine go_icmp_le 178 d_Mo_make_134 (by decide) (fun q11 => ?_) (fun q11 => ?_)
    · rw [if_pos q11] at hf
      refine go_sub (lv' := [(0, .ref a0), (3, .int i3)]) [0, 2] rfl ?_
      exact g_Mo_make_178 hd  a0 i3 h hf
    · rw [if_neg q11] at hf
      refine go_aload_n 0 d_Mo_make_137 rfl ?_
      refine go_aload_n 0 d_Mo_make_138 rfl ?_
      obtain ⟨x1, e_x1, hf⟩ := bnd_x hf
      refine go_get d_Mo_make_139 (gR_x e_x1) fl_Mo_43 ?_
      refine go_iload 3 d_Mo_make_142 rfl ?_
      obtain ⟨x2, e_x2, hf⟩ := bnd_x hf
      refine go_iaload d_Mo_make_144 e_x2 ?_
      refine go_iconst (2 : Int32) d_Mo_make_145 (by decide) ?_
      obtain ⟨_, e3, hf⟩ := bnd_x hf
      obtain ⟨x4, h5, e_x4, hf⟩ := bnd2_x hf
      refine go_callV_I (As := [.int x2, .int (2 : Int32)]) (st := []) (c_Mo_solutionsWithout (d := d - 1) (by omega) e_x4) lk_Mo_249 rfl rfl e3 (by decide) rfl (rm_ok (by omega)) (Nat.le_of_ble_eq_true rfl) rm_c d_Mo_make_146 ?_
      refine go_iconst (1 : Int32) d_Mo_make_149 (by decide) ?_
      refine go_icmp_ne 172 d_Mo_make_150 (by decide) (fun q10 => ?_) (fun q10 => ?_)
      · rw [if_neg q10] at hf
        refine go_sub (lv' := [(0, .ref a0), (2, .int i2), (3, .int i3), (4, .int i4)]) [0, 1, 2, 3] rfl ?_
        exact g_Mo_make_172 hd hk125 a0 i2 i3 i4 h5 hf
      · rw [if_pos q10] at hf
        refine go_aload_n 0 d_Mo_make_153 rfl ?_
        obtain ⟨x6, e_x6, hf⟩ := bnd_x hf
        refine go_get d_Mo_make_154 (gR_x e_x6) fl_Mo_7 ?_
        refine go_bipush (72 : Int32) d_Mo_make_157 (by decide) ?_
        refine go_aload_n 0 d_Mo_make_159 rfl ?_
        obtain ⟨x7, e_x7, hf⟩ := bnd_x hf
        refine go_get d_Mo_make_160 (gR_x e_x7) fl_Mo_43 ?_
        refine go_iload 3 d_Mo_make_163 rfl ?_
        obtain ⟨x8, e_x8, hf⟩ := bnd_x hf
        refine go_iaload d_Mo_make_165 e_x8 ?_
        refine go_iadd d_Mo_make_166 ?_
        refine go_iconst (0 : Int32) d_Mo_make_167 (by decide) ?_
        obtain ⟨h9, e_h9, hf⟩ := bnd_x hf
        refine go_iastore d_Mo_make_168 e_h9 ?_
        refine go_iinc (lv' := [(3, .int (i3 + (-1 : Int32))), (0, .ref a0), (2, .int i2), (4, .int i4)]) 2 (i3 + (-1 : Int32)) d_Mo_make_169 rfl rfl rfl (by decide) ?_
        refine go_sub (lv' := [(0, .ref a0), (2, .int i2), (3, .int (i3 + (-1 : Int32))), (4, .int i4)]) [1, 2, 0, 3] rfl ?_
        exact g_Mo_make_172 hd hk125 a0 i2 (i3 + (-1 : Int32)) i4 h9 hf
theorem t_Mo_make_125 {l : Launch} {E : ET} {d : Nat} (hd : 9 ≤ d) {F : Nat} {r : Int32} {h9 : PH} {x : Nat}  : ∀ (n : Nat) (a0 : Nat) (i2 : Int32) (i3 : Int32) (i4 : Int32) (hh : PH), f_Mo_make_125 F n a0 i2 i3 i4 hh = some (r, h9) → Go l E m_Mo_make (rm d 0 0) (KM E 0 0 (PoE (some (.int r)) h9 x)) 0 0 hh x 125 [(0, .ref a0), (2, .int i2), (3, .int i3), (4, .int i4)] [] := by
  intro n
  induction n with
  | zero => intro v0 v1 v2 v3 v4 hf; cases hf
  | succ n ih => intro v0 v1 v2 v3 v4 hf; exact g_Mo_make_125 hd ih v0 v1 v2 v3 v4 hf
def b_Mo_make_61 (F : Nat) (k61 : Nat → Int32 → Int32 → PH → Option (Int32 × PH)) (a0 : Nat) (i2 : Int32) (i3 : Int32) (h : PH) : Option (Int32 × PH) :=
  (if (36 : Int32) ≤ i3 then bnd (cK h a0 10) fun _ => bnd (f_Mo_shuffle F a0 (36 : Int32) (0 : Int32) h) fun h2 => f_Mo_make_125 F F a0 i2 (36 : Int32) (0 : Int32) h2 else bnd (some (i3 / (6 : Int32))) fun y3 => bnd (gR h a0 10 0) fun x4 => bnd (gR h a0 10 21) fun x5 => bnd (aI h x5 (((((3 : Int32) * (y3 - y3 / (2 : Int32) * (2 : Int32))) + (y3 / (2 : Int32))) + (i3 - i3 / (6 : Int32) * (6 : Int32))) - ((((3 : Int32) * (y3 - y3 / (2 : Int32) * (2 : Int32))) + (y3 / (2 : Int32))) + (i3 - i3 / (6 : Int32) * (6 : Int32))) / (6 : Int32) * (6 : Int32))) fun x6 => bnd (sI h x4 ((72 : Int32) + i3) x6) fun h7 => k61 a0 i2 (i3 + (1 : Int32)) h7)
def f_Mo_make_61 (F : Nat) : Nat → Nat → Int32 → Int32 → PH → Option (Int32 × PH)
  | 0 => fun _ _ _ _ => none
  | n + 1 => b_Mo_make_61 F (f_Mo_make_61 F n)
theorem g_Mo_make_61 {l : Launch} {E : ET} {d : Nat} (hd : 9 ≤ d) {F : Nat} {r : Int32} {h9 : PH} {x : Nat} {k61 : Nat → Int32 → Int32 → PH → Option (Int32 × PH)} (hk61 : ∀ (a0 : Nat) (i2 : Int32) (i3 : Int32) (hh : PH), k61 a0 i2 i3 hh = some (r, h9) → Go l E m_Mo_make (rm d 0 0) (KM E 0 0 (PoE (some (.int r)) h9 x)) 0 0 hh x 61 [(0, .ref a0), (2, .int i2), (3, .int i3)] []) (a0 : Nat) (i2 : Int32) (i3 : Int32) (h : PH) (hf : b_Mo_make_61 F k61 a0 i2 i3 h = some (r, h9)) : Go l E m_Mo_make (rm d 0 0) (KM E 0 0 (PoE (some (.int r)) h9 x)) 0 0 h x 61 [(0, .ref a0), (2, .int i2), (3, .int i3)] [] := by
  unfold b_Mo_make_61 at hf
  refine go_iload_n 2 d_Mo_make_61 rfl ?_
  refine go_bipush (36 : Int32) d_Mo_make_62 (by decide) ?_
  refine go_icmp_ge 112 d_Mo_make_64 (by decide) (fun q8 => ?_) (fun q8 => ?_)
  · rw [if_pos q8] at hf
    refine go_aload_n 0 d_Mo_make_112 rfl ?_
    refine go_bipush (36 : Int32) d_Mo_make_113 (by decide) ?_
    refine go_iconst (0 : Int32) d_Mo_make_115 (by decide) ?_
    obtain ⟨_, e1, hf⟩ := bnd_x hf
    obtain ⟨h2, e_x2, hf⟩ := bnd_x hf
    refine go_callV_N (As := [.int (36 : Int32), .int (0 : Int32)]) (st := []) (c_Mo_shuffle (d := d - 1) (by omega) e_x2) lk_Mo_245 rfl rfl e1 (by decide) rfl (rm_ok (by omega)) (Nat.le_of_ble_eq_true rfl) rm_c d_Mo_make_116 ?_
    refine go_bipush (36 : Int32) d_Mo_make_119 (by decide) ?_
    refine go_istore_n (lv' := [(3, .int (36 : Int32)), (0, .ref a0), (2, .int i2)]) d_Mo_make_121 rfl (by decide) ?_
    refine go_iconst (0 : Int32) d_Mo_make_122 (by decide) ?_
    refine go_istore (lv' := [(4, .int (0 : Int32)), (3, .int (36 : Int32)), (0, .ref a0), (2, .int i2)]) d_Mo_make_123 rfl (by decide) ?_
    refine go_sub (lv' := [(0, .ref a0), (2, .int i2), (3, .int (36 : Int32)), (4, .int (0 : Int32))]) [2, 3, 1, 0] rfl ?_
    exact t_Mo_make_125 hd  _ a0 i2 (36 : Int32) (0 : Int32) h2 hf
  · rw [if_neg q8] at hf
    refine go_iload_n 2 d_Mo_make_67 rfl ?_
    refine go_bipush (6 : Int32) d_Mo_make_68 (by decide) ?_
    refine go_idiv d_Mo_make_70 (by decide) ?_
    obtain ⟨y3, e_y3, hf⟩ := bnd_x hf
    refine go_nmI e_y3 ?_
    refine go_istore (lv' := [(4, .int y3), (0, .ref a0), (2, .int i2), (3, .int i3)]) d_Mo_make_71 rfl (by decide) ?_
    refine go_aload_n 1 d_Mo_make_73 rfl ?_
    obtain ⟨x4, e_x4, hf⟩ := bnd_x hf
    refine go_get d_Mo_make_74 (gR_x e_x4) fl_Mo_7 ?_
    refine go_bipush (72 : Int32) d_Mo_make_77 (by decide) ?_
    refine go_iload_n 3 d_Mo_make_79 rfl ?_
    refine go_iadd d_Mo_make_80 ?_
    refine go_aload_n 1 d_Mo_make_81 rfl ?_
    obtain ⟨x5, e_x5, hf⟩ := bnd_x hf
    refine go_get d_Mo_make_82 (gR_x e_x5) fl_Mo_43 ?_
    refine go_iconst (3 : Int32) d_Mo_make_85 (by decide) ?_
    refine go_iload 0 d_Mo_make_86 rfl ?_
    refine go_iconst (2 : Int32) d_Mo_make_88 (by decide) ?_
    refine go_irem d_Mo_make_89 (by decide) ?_
    refine go_imul d_Mo_make_90 ?_
    refine go_iload 0 d_Mo_make_91 rfl ?_
    refine go_iconst (2 : Int32) d_Mo_make_93 (by decide) ?_
    refine go_idiv d_Mo_make_94 (by decide) ?_
    refine go_iadd d_Mo_make_95 ?_
    refine go_iload_n 3 d_Mo_make_96 rfl ?_
    refine go_bipush (6 : Int32) d_Mo_make_97 (by decide) ?_
    refine go_irem d_Mo_make_99 (by decide) ?_
    refine go_iadd d_Mo_make_100 ?_
    refine go_bipush (6 : Int32) d_Mo_make_101 (by decide) ?_
    refine go_irem d_Mo_make_103 (by decide) ?_
    obtain ⟨x6, e_x6, hf⟩ := bnd_x hf
    refine go_iaload d_Mo_make_104 e_x6 ?_
    obtain ⟨h7, e_h7, hf⟩ := bnd_x hf
    refine go_iastore d_Mo_make_105 e_h7 ?_
    refine go_iinc (lv' := [(3, .int (i3 + (1 : Int32))), (4, .int y3), (0, .ref a0), (2, .int i2)]) 3 (i3 + (1 : Int32)) d_Mo_make_106 rfl rfl rfl (by decide) ?_
    refine go_goto 61 d_Mo_make_109 (by decide) ?_
    refine go_sub (lv' := [(0, .ref a0), (2, .int i2), (3, .int (i3 + (1 : Int32)))]) [2, 3, 0] rfl ?_
    exact hk61 a0 i2 (i3 + (1 : Int32)) h7 hf
theorem t_Mo_make_61 {l : Launch} {E : ET} {d : Nat} (hd : 9 ≤ d) {F : Nat} {r : Int32} {h9 : PH} {x : Nat}  : ∀ (n : Nat) (a0 : Nat) (i2 : Int32) (i3 : Int32) (hh : PH), f_Mo_make_61 F n a0 i2 i3 hh = some (r, h9) → Go l E m_Mo_make (rm d 0 0) (KM E 0 0 (PoE (some (.int r)) h9 x)) 0 0 hh x 61 [(0, .ref a0), (2, .int i2), (3, .int i3)] [] := by
  intro n
  induction n with
  | zero => intro v0 v1 v2 v3 hf; cases hf
  | succ n ih => intro v0 v1 v2 v3 hf; exact g_Mo_make_61 hd ih v0 v1 v2 v3 hf
def b_Mo_make_26 (F : Nat) (a0 : Nat) (i1 : Int32) (i2 : Int32) (s0 : Int32) (s1 : Nat) (h : PH) : Option (Int32 × PH) :=
  bnd (pV h s1 10 5 (.int s0)) fun h1 => bnd (gI h1 a0 10 5) fun x2 => (if x2 = (0 : Int32) then bnd (cK h1 a0 10) fun _ => bnd (f_Mo_change F a0 h1) fun h4 => bnd (cK h4 a0 10) fun _ => bnd (f_Mo_clear F a0 h4) fun h6 => bnd (pV h6 a0 10 20 (.long (i1.toInt64))) fun h7 => bnd (cK h7 a0 10) fun _ => bnd (f_Mo_shuffle F a0 (6 : Int32) (1 : Int32) h7) fun h9 => f_Mo_make_61 F F a0 i2 (0 : Int32) h9 else some ((0 : Int32), h1))
theorem g_Mo_make_26 {l : Launch} {E : ET} {d : Nat} (hd : 9 ≤ d) {F : Nat} {r : Int32} {h9 : PH} {x : Nat}  (a0 : Nat) (i1 : Int32) (i2 : Int32) (s0 : Int32) (s1 : Nat) (h : PH) (hf : b_Mo_make_26 F a0 i1 i2 s0 s1 h = some (r, h9)) : Go l E m_Mo_make (rm d 0 0) (KM E 0 0 (PoE (some (.int r)) h9 x)) 0 0 h x 26 [(0, .ref a0), (1, .int i1), (2, .int i2)] [.int s0, .ref s1] := by
  unfold b_Mo_make_26 at hf
  obtain ⟨h1, e_h1, hf⟩ := bnd_x hf
  refine go_putI d_Mo_make_26 e_h1 fl_Mo_52 rfl rfl ?_
  refine go_aload_n 0 d_Mo_make_29 rfl ?_
  obtain ⟨x2, e_x2, hf⟩ := bnd_x hf
  refine go_get d_Mo_make_30 (gI_x e_x2) fl_Mo_52 ?_
  refine go_if_eq 38 d_Mo_make_33 (by decide) (fun q10 => ?_) (fun q10 => ?_)
  · rw [if_pos q10] at hf
    refine go_aload_n 0 d_Mo_make_38 rfl ?_
    obtain ⟨_, e3, hf⟩ := bnd_x hf
    obtain ⟨h4, e_x4, hf⟩ := bnd_x hf
    refine go_callV_N (As := []) (st := []) (c_Mo_change (d := d - 1) (by omega) e_x4) lk_Mo_208 rfl rfl e3 (by decide) rfl (rm_ok (by omega)) (Nat.le_of_ble_eq_true rfl) rm_c d_Mo_make_39 ?_
    refine go_aload_n 0 d_Mo_make_42 rfl ?_
    obtain ⟨_, e5, hf⟩ := bnd_x hf
    obtain ⟨h6, e_x6, hf⟩ := bnd_x hf
    refine go_callV_N (As := []) (st := []) (c_Mo_clear (d := d - 1) (by omega) e_x6) lk_Mo_211 rfl rfl e5 (by decide) rfl (rm_ok (by omega)) (Nat.le_of_ble_eq_true rfl) rm_c d_Mo_make_43 ?_
    refine go_aload_n 0 d_Mo_make_46 rfl ?_
    refine go_iload_n 1 d_Mo_make_47 rfl ?_
    refine go_i2l d_Mo_make_48 ?_
    obtain ⟨h7, e_h7, hf⟩ := bnd_x hf
    refine go_putL d_Mo_make_49 e_h7 fl_Mo_231 rfl rfl ?_
    refine go_aload_n 0 d_Mo_make_52 rfl ?_
    refine go_bipush (6 : Int32) d_Mo_make_53 (by decide) ?_
    refine go_iconst (1 : Int32) d_Mo_make_55 (by decide) ?_
    obtain ⟨_, e8, hf⟩ := bnd_x hf
    obtain ⟨h9, e_x9, hf⟩ := bnd_x hf
    refine go_callV_N (As := [.int (6 : Int32), .int (1 : Int32)]) (st := []) (c_Mo_shuffle (d := d - 1) (by omega) e_x9) lk_Mo_245 rfl rfl e8 (by decide) rfl (rm_ok (by omega)) (Nat.le_of_ble_eq_true rfl) rm_c d_Mo_make_56 ?_
    refine go_iconst (0 : Int32) d_Mo_make_59 (by decide) ?_
    refine go_istore_n (lv' := [(3, .int (0 : Int32)), (0, .ref a0), (1, .int i1), (2, .int i2)]) d_Mo_make_60 rfl (by decide) ?_
    refine go_sub (lv' := [(0, .ref a0), (2, .int i2), (3, .int (0 : Int32))]) [1, 3, 0] rfl ?_
    exact t_Mo_make_61 hd  _ a0 i2 (0 : Int32) h9 hf
  · rw [if_neg q10] at hf
    refine go_iconst (0 : Int32) d_Mo_make_36 (by decide) ?_
    obtain ⟨e8, e9⟩ := Prod.mk.inj (Option.some.inj hf)
    subst e8; subst e9
    exact go_iret d_Mo_make_37 rfl ⟨rfl, rfl, rfl⟩
def b_Mo_make_25 (F : Nat) (a0 : Nat) (i1 : Int32) (i2 : Int32) (s0 : Nat) (h : PH) : Option (Int32 × PH) :=
  b_Mo_make_26 F a0 i1 i2 (1 : Int32) s0 h
theorem g_Mo_make_25 {l : Launch} {E : ET} {d : Nat} (hd : 9 ≤ d) {F : Nat} {r : Int32} {h9 : PH} {x : Nat}  (a0 : Nat) (i1 : Int32) (i2 : Int32) (s0 : Nat) (h : PH) (hf : b_Mo_make_25 F a0 i1 i2 s0 h = some (r, h9)) : Go l E m_Mo_make (rm d 0 0) (KM E 0 0 (PoE (some (.int r)) h9 x)) 0 0 h x 25 [(0, .ref a0), (1, .int i1), (2, .int i2)] [.ref s0] := by
  unfold b_Mo_make_25 at hf
  refine go_iconst (1 : Int32) d_Mo_make_25 (by decide) ?_
  refine go_sub (lv' := [(0, .ref a0), (1, .int i1), (2, .int i2)]) [0, 1, 2] rfl ?_
  exact g_Mo_make_26 hd  a0 i1 i2 (1 : Int32) s0 h hf
def f_Mo_make (F : Nat) (a0 : Nat) (i1 : Int32) (i2 : Int32) (h : PH) : Option (Int32 × PH) :=
  bnd (f_Mo_in i1 (0 : Int32) (999999 : Int32)) fun x1 => (if x1 = (0 : Int32) then b_Mo_make_25 F a0 i1 i2 a0 h else bnd (f_Mo_in i2 (0 : Int32) (36 : Int32)) fun x2 => (if x2 = (0 : Int32) then b_Mo_make_25 F a0 i1 i2 a0 h else b_Mo_make_26 F a0 i1 i2 (0 : Int32) a0 h))
theorem g_Mo_make_0 {l : Launch} {E : ET} {d : Nat} (hd : 9 ≤ d) {F : Nat} {r : Int32} {h9 : PH} {x : Nat}  (a0 : Nat) (i1 : Int32) (i2 : Int32) (h : PH) (hf : f_Mo_make F a0 i1 i2 h = some (r, h9)) : Go l E m_Mo_make (rm d 0 0) (KM E 0 0 (PoE (some (.int r)) h9 x)) 0 0 h x 0 [(0, .ref a0), (1, .int i1), (2, .int i2)] [] := by
  unfold f_Mo_make at hf
  refine go_aload_n 0 d_Mo_make_0 rfl ?_
  refine go_iload_n 1 d_Mo_make_1 rfl ?_
  refine go_iconst (0 : Int32) d_Mo_make_2 (by decide) ?_
  refine go_ldcI (999999 : Int32) d_Mo_make_3 ki_Mo_244 ?_
  obtain ⟨x1, e_x1, hf⟩ := bnd_x hf
  refine go_callS_I (As := [.int i1, .int (0 : Int32), .int (999999 : Int32)]) (st := [.ref a0]) (c_Mo_in (d := d - 1) (by omega) e_x1) lk_Mo_62 rfl rfl (rm_ok (by omega)) (Nat.le_of_ble_eq_true rfl) rm_c d_Mo_make_5 ?_
  refine go_if_eq 25 d_Mo_make_8 (by decide) (fun q4 => ?_) (fun q4 => ?_)
  · rw [if_pos q4] at hf
    refine go_sub (lv' := [(0, .ref a0), (1, .int i1), (2, .int i2)]) [0, 1, 2] rfl ?_
    exact g_Mo_make_25 hd  a0 i1 i2 a0 h hf
  · rw [if_neg q4] at hf
    refine go_iload_n 2 d_Mo_make_11 rfl ?_
    refine go_iconst (0 : Int32) d_Mo_make_12 (by decide) ?_
    refine go_bipush (36 : Int32) d_Mo_make_13 (by decide) ?_
    obtain ⟨x2, e_x2, hf⟩ := bnd_x hf
    refine go_callS_I (As := [.int i2, .int (0 : Int32), .int (36 : Int32)]) (st := [.ref a0]) (c_Mo_in (d := d - 1) (by omega) e_x2) lk_Mo_62 rfl rfl (rm_ok (by omega)) (Nat.le_of_ble_eq_true rfl) rm_c d_Mo_make_15 ?_
    refine go_if_eq 25 d_Mo_make_18 (by decide) (fun q3 => ?_) (fun q3 => ?_)
    · rw [if_pos q3] at hf
      refine go_sub (lv' := [(0, .ref a0), (1, .int i1), (2, .int i2)]) [0, 1, 2] rfl ?_
      exact g_Mo_make_25 hd  a0 i1 i2 a0 h hf
    · rw [if_neg q3] at hf
      refine go_iconst (0 : Int32) d_Mo_make_21 (by decide) ?_
      refine go_goto 26 d_Mo_make_22 (by decide) ?_
      refine go_sub (lv' := [(0, .ref a0), (1, .int i1), (2, .int i2)]) [0, 1, 2] rfl ?_
      exact g_Mo_make_26 hd  a0 i1 i2 (0 : Int32) a0 h hf
theorem c_Mo_make {l : Launch} {E : ET} {d : Nat} (hd : 9 ≤ d) {F : Nat} {r : Int32} {h9 : PH} {x : Nat} {a0 : Nat} {i1 : Int32} {i2 : Int32} {h : PH} (hf : f_Mo_make F a0 i1 i2 h = some (r, h9)) : Fn l E m_Mo_make d 0 0 [.ref a0, .int i1, .int i2] h x (PoE (some (.int r)) h9 x) :=
  Fn.of (by decide +kernel) (Nat.le_of_ble_eq_true rfl) (g_Mo_make_0 hd a0 i1 i2 h hf)
theorem d_Mo_constraint_0 : decode prog_13_method_60_code 0 = .ok (.aload_n 0, 1) := by decide +kernel
theorem d_Mo_constraint_1 : decode prog_13_method_60_code 1 = .ok (.aload_n 0, 1) := by decide +kernel
theorem d_Mo_constraint_2 : decode prog_13_method_60_code 2 = .ok (.iload_n 1, 1) := by decide +kernel
theorem d_Mo_constraint_3 : decode prog_13_method_60_code 3 = .ok (.invokevirtual 220, 3) := by decide +kernel
theorem d_Mo_constraint_6 : decode prog_13_method_60_code 6 = .ok (.ifCond .ne 7, 3) := by decide +kernel
theorem d_Mo_constraint_9 : decode prog_13_method_60_code 9 = .ok (.iconst 1, 1) := by decide +kernel
theorem d_Mo_constraint_10 : decode prog_13_method_60_code 10 = .ok (.goto 17, 3) := by decide +kernel
theorem d_Mo_constraint_13 : decode prog_13_method_60_code 13 = .ok (.iload_n 2, 1) := by decide +kernel
theorem d_Mo_constraint_14 : decode prog_13_method_60_code 14 = .ok (.iconst 0, 1) := by decide +kernel
theorem d_Mo_constraint_15 : decode prog_13_method_60_code 15 = .ok (.iconst 2, 1) := by decide +kernel
theorem d_Mo_constraint_16 : decode prog_13_method_60_code 16 = .ok (.invokestatic 62, 3) := by decide +kernel
theorem d_Mo_constraint_19 : decode prog_13_method_60_code 19 = .ok (.ifCond .ne 7, 3) := by decide +kernel
theorem d_Mo_constraint_22 : decode prog_13_method_60_code 22 = .ok (.iconst 2, 1) := by decide +kernel
theorem d_Mo_constraint_23 : decode prog_13_method_60_code 23 = .ok (.goto 4, 3) := by decide +kernel
theorem d_Mo_constraint_26 : decode prog_13_method_60_code 26 = .ok (.iconst 0, 1) := by decide +kernel
theorem d_Mo_constraint_27 : decode prog_13_method_60_code 27 = .ok (.putfield 52, 3) := by decide +kernel
theorem d_Mo_constraint_30 : decode prog_13_method_60_code 30 = .ok (.aload_n 0, 1) := by decide +kernel
theorem d_Mo_constraint_31 : decode prog_13_method_60_code 31 = .ok (.getfield 52, 3) := by decide +kernel
theorem d_Mo_constraint_34 : decode prog_13_method_60_code 34 = .ok (.ifCond .eq 7, 3) := by decide +kernel
theorem d_Mo_constraint_37 : decode prog_13_method_60_code 37 = .ok (.iconst 0, 1) := by decide +kernel
theorem d_Mo_constraint_38 : decode prog_13_method_60_code 38 = .ok (.goto 17, 3) := by decide +kernel
theorem d_Mo_constraint_41 : decode prog_13_method_60_code 41 = .ok (.aload_n 0, 1) := by decide +kernel
theorem d_Mo_constraint_42 : decode prog_13_method_60_code 42 = .ok (.getfield 7, 3) := by decide +kernel
theorem d_Mo_constraint_45 : decode prog_13_method_60_code 45 = .ok (.bipush 109, 2) := by decide +kernel
theorem d_Mo_constraint_47 : decode prog_13_method_60_code 47 = .ok (.bipush 9, 2) := by decide +kernel
theorem d_Mo_constraint_49 : decode prog_13_method_60_code 49 = .ok (.iload_n 1, 1) := by decide +kernel
theorem d_Mo_constraint_50 : decode prog_13_method_60_code 50 = .ok (.imul, 1) := by decide +kernel
theorem d_Mo_constraint_51 : decode prog_13_method_60_code 51 = .ok (.iadd, 1) := by decide +kernel
theorem d_Mo_constraint_52 : decode prog_13_method_60_code 52 = .ok (.iload_n 2, 1) := by decide +kernel
theorem d_Mo_constraint_53 : decode prog_13_method_60_code 53 = .ok (.iadd, 1) := by decide +kernel
theorem d_Mo_constraint_54 : decode prog_13_method_60_code 54 = .ok (.iaload, 1) := by decide +kernel
theorem d_Mo_constraint_55 : decode prog_13_method_60_code 55 = .ok (.ireturn, 1) := by decide +kernel
def b_Mo_constraint_27 (a0 : Nat) (i1 : Int32) (i2 : Int32) (s0 : Int32) (s1 : Nat) (h : PH) : Option (Int32 × PH) :=
  bnd (pV h s1 10 5 (.int s0)) fun h1 => bnd (gI h1 a0 10 5) fun x2 => (if x2 = (0 : Int32) then bnd (gR h1 a0 10 0) fun x3 => bnd (aI h1 x3 (((109 : Int32) + ((9 : Int32) * i1)) + i2)) fun x4 => some (x4, h1) else some ((0 : Int32), h1))
theorem g_Mo_constraint_27 {l : Launch} {E : ET} {d : Nat} (hd : 3 ≤ d) {r : Int32} {h9 : PH} {x : Nat}  (a0 : Nat) (i1 : Int32) (i2 : Int32) (s0 : Int32) (s1 : Nat) (h : PH) (hf : b_Mo_constraint_27 a0 i1 i2 s0 s1 h = some (r, h9)) : Go l E m_Mo_constraint (rm d 0 0) (KM E 0 0 (PoE (some (.int r)) h9 x)) 0 0 h x 27 [(0, .ref a0), (1, .int i1), (2, .int i2)] [.int s0, .ref s1] := by
  unfold b_Mo_constraint_27 at hf
  obtain ⟨h1, e_h1, hf⟩ := bnd_x hf
  refine go_putI d_Mo_constraint_27 e_h1 fl_Mo_52 rfl rfl ?_
  refine go_aload_n 0 d_Mo_constraint_30 rfl ?_
  obtain ⟨x2, e_x2, hf⟩ := bnd_x hf
  refine go_get d_Mo_constraint_31 (gI_x e_x2) fl_Mo_52 ?_
  refine go_if_eq 41 d_Mo_constraint_34 (by decide) (fun q5 => ?_) (fun q5 => ?_)
  · rw [if_pos q5] at hf
    refine go_aload_n 0 d_Mo_constraint_41 rfl ?_
    obtain ⟨x3, e_x3, hf⟩ := bnd_x hf
    refine go_get d_Mo_constraint_42 (gR_x e_x3) fl_Mo_7 ?_
    refine go_bipush (109 : Int32) d_Mo_constraint_45 (by decide) ?_
    refine go_bipush (9 : Int32) d_Mo_constraint_47 (by decide) ?_
    refine go_iload_n 1 d_Mo_constraint_49 rfl ?_
    refine go_imul d_Mo_constraint_50 ?_
    refine go_iadd d_Mo_constraint_51 ?_
    refine go_iload_n 2 d_Mo_constraint_52 rfl ?_
    refine go_iadd d_Mo_constraint_53 ?_
    obtain ⟨x4, e_x4, hf⟩ := bnd_x hf
    refine go_iaload d_Mo_constraint_54 e_x4 ?_
    obtain ⟨e8, e9⟩ := Prod.mk.inj (Option.some.inj hf)
    subst e8; subst e9
    exact go_iret d_Mo_constraint_55 rfl ⟨rfl, rfl, rfl⟩
  · rw [if_neg q5] at hf
    refine go_iconst (0 : Int32) d_Mo_constraint_37 (by decide) ?_
    refine go_goto 55 d_Mo_constraint_38 (by decide) ?_
    obtain ⟨e8, e9⟩ := Prod.mk.inj (Option.some.inj hf)
    subst e8; subst e9
    exact go_iret d_Mo_constraint_55 rfl ⟨rfl, rfl, rfl⟩
def f_Mo_constraint (a0 : Nat) (i1 : Int32) (i2 : Int32) (h : PH) : Option (Int32 × PH) :=
  bnd (cK h a0 10) fun _ => bnd (f_Mo_isConstraint a0 i1 h) fun x2 => (if x2 = (0 : Int32) then b_Mo_constraint_27 a0 i1 i2 (1 : Int32) a0 h else bnd (f_Mo_in i2 (0 : Int32) (2 : Int32)) fun x3 => (if x3 = (0 : Int32) then b_Mo_constraint_27 a0 i1 i2 (2 : Int32) a0 h else b_Mo_constraint_27 a0 i1 i2 (0 : Int32) a0 h))
theorem g_Mo_constraint_0 {l : Launch} {E : ET} {d : Nat} (hd : 3 ≤ d) {r : Int32} {h9 : PH} {x : Nat}  (a0 : Nat) (i1 : Int32) (i2 : Int32) (h : PH) (hf : f_Mo_constraint a0 i1 i2 h = some (r, h9)) : Go l E m_Mo_constraint (rm d 0 0) (KM E 0 0 (PoE (some (.int r)) h9 x)) 0 0 h x 0 [(0, .ref a0), (1, .int i1), (2, .int i2)] [] := by
  unfold f_Mo_constraint at hf
  refine go_aload_n 0 d_Mo_constraint_0 rfl ?_
  refine go_aload_n 0 d_Mo_constraint_1 rfl ?_
  refine go_iload_n 1 d_Mo_constraint_2 rfl ?_
  obtain ⟨_, e1, hf⟩ := bnd_x hf
  obtain ⟨x2, e_x2, hf⟩ := bnd_x hf
  refine go_callV_I (As := [.int i1]) (st := [.ref a0]) (c_Mo_isConstraint (d := d - 1) (by omega) e_x2) lk_Mo_220 rfl rfl e1 (by decide) rfl (rm_ok (by omega)) (Nat.le_of_ble_eq_true rfl) rm_c d_Mo_constraint_3 ?_
  refine go_if_ne 13 d_Mo_constraint_6 (by decide) (fun q5 => ?_) (fun q5 => ?_)
  · rw [if_neg q5] at hf
    refine go_iload_n 2 d_Mo_constraint_13 rfl ?_
    refine go_iconst (0 : Int32) d_Mo_constraint_14 (by decide) ?_
    refine go_iconst (2 : Int32) d_Mo_constraint_15 (by decide) ?_
    obtain ⟨x3, e_x3, hf⟩ := bnd_x hf
    refine go_callS_I (As := [.int i2, .int (0 : Int32), .int (2 : Int32)]) (st := [.ref a0]) (c_Mo_in (d := d - 1) (by omega) e_x3) lk_Mo_62 rfl rfl (rm_ok (by omega)) (Nat.le_of_ble_eq_true rfl) rm_c d_Mo_constraint_16 ?_
    refine go_if_ne 26 d_Mo_constraint_19 (by decide) (fun q4 => ?_) (fun q4 => ?_)
    · rw [if_neg q4] at hf
      refine go_iconst (0 : Int32) d_Mo_constraint_26 (by decide) ?_
      refine go_sub (lv' := [(0, .ref a0), (1, .int i1), (2, .int i2)]) [0, 1, 2] rfl ?_
      exact g_Mo_constraint_27 hd  a0 i1 i2 (0 : Int32) a0 h hf
    · rw [if_pos q4] at hf
      refine go_iconst (2 : Int32) d_Mo_constraint_22 (by decide) ?_
      refine go_goto 27 d_Mo_constraint_23 (by decide) ?_
      refine go_sub (lv' := [(0, .ref a0), (1, .int i1), (2, .int i2)]) [0, 1, 2] rfl ?_
      exact g_Mo_constraint_27 hd  a0 i1 i2 (2 : Int32) a0 h hf
  · rw [if_pos q5] at hf
    refine go_iconst (1 : Int32) d_Mo_constraint_9 (by decide) ?_
    refine go_goto 27 d_Mo_constraint_10 (by decide) ?_
    refine go_sub (lv' := [(0, .ref a0), (1, .int i1), (2, .int i2)]) [0, 1, 2] rfl ?_
    exact g_Mo_constraint_27 hd  a0 i1 i2 (1 : Int32) a0 h hf
theorem c_Mo_constraint {l : Launch} {E : ET} {d : Nat} (hd : 3 ≤ d) {r : Int32} {h9 : PH} {x : Nat} {a0 : Nat} {i1 : Int32} {i2 : Int32} {h : PH} (hf : f_Mo_constraint a0 i1 i2 h = some (r, h9)) : Fn l E m_Mo_constraint d 0 0 [.ref a0, .int i1, .int i2] h x (PoE (some (.int r)) h9 x) :=
  Fn.of (by decide +kernel) (Nat.le_of_ble_eq_true rfl) (g_Mo_constraint_0 hd a0 i1 i2 h hf)
theorem d_Mo_cellOf_0 : decode prog_13_method_61_code 0 = .ok (.aload_n 0, 1) := by decide +kernel
theorem d_Mo_cellOf_1 : decode prog_13_method_61_code 1 = .ok (.iload_n 1, 1) := by decide +kernel
theorem d_Mo_cellOf_2 : decode prog_13_method_61_code 2 = .ok (.invokevirtual 220, 3) := by decide +kernel
theorem d_Mo_cellOf_5 : decode prog_13_method_61_code 5 = .ok (.ifCond .eq 20, 3) := by decide +kernel
theorem d_Mo_cellOf_8 : decode prog_13_method_61_code 8 = .ok (.iload_n 2, 1) := by decide +kernel
theorem d_Mo_cellOf_9 : decode prog_13_method_61_code 9 = .ok (.ifCond .lt 16, 3) := by decide +kernel
theorem d_Mo_cellOf_12 : decode prog_13_method_61_code 12 = .ok (.iload_n 2, 1) := by decide +kernel
theorem d_Mo_cellOf_13 : decode prog_13_method_61_code 13 = .ok (.aload_n 0, 1) := by decide +kernel
theorem d_Mo_cellOf_14 : decode prog_13_method_61_code 14 = .ok (.iload_n 1, 1) := by decide +kernel
theorem d_Mo_cellOf_15 : decode prog_13_method_61_code 15 = .ok (.invokevirtual 74, 3) := by decide +kernel
theorem d_Mo_cellOf_18 : decode prog_13_method_61_code 18 = .ok (.if_icmp .ge 7, 3) := by decide +kernel
theorem d_Mo_cellOf_21 : decode prog_13_method_61_code 21 = .ok (.iconst 1, 1) := by decide +kernel
theorem d_Mo_cellOf_22 : decode prog_13_method_61_code 22 = .ok (.goto 4, 3) := by decide +kernel
theorem d_Mo_cellOf_25 : decode prog_13_method_61_code 25 = .ok (.iconst 0, 1) := by decide +kernel
theorem d_Mo_cellOf_26 : decode prog_13_method_61_code 26 = .ok (.istore_n 3, 1) := by decide +kernel
theorem d_Mo_cellOf_27 : decode prog_13_method_61_code 27 = .ok (.aload_n 0, 1) := by decide +kernel
theorem d_Mo_cellOf_28 : decode prog_13_method_61_code 28 = .ok (.iload_n 3, 1) := by decide +kernel
theorem d_Mo_cellOf_29 : decode prog_13_method_61_code 29 = .ok (.ifCond .eq 7, 3) := by decide +kernel
theorem d_Mo_cellOf_32 : decode prog_13_method_61_code 32 = .ok (.iconst 0, 1) := by decide +kernel
theorem d_Mo_cellOf_33 : decode prog_13_method_61_code 33 = .ok (.goto 4, 3) := by decide +kernel
theorem d_Mo_cellOf_36 : decode prog_13_method_61_code 36 = .ok (.iconst 1, 1) := by decide +kernel
theorem d_Mo_cellOf_37 : decode prog_13_method_61_code 37 = .ok (.putfield 52, 3) := by decide +kernel
theorem d_Mo_cellOf_40 : decode prog_13_method_61_code 40 = .ok (.iload_n 3, 1) := by decide +kernel
theorem d_Mo_cellOf_41 : decode prog_13_method_61_code 41 = .ok (.ifCond .eq 12, 3) := by decide +kernel
theorem d_Mo_cellOf_44 : decode prog_13_method_61_code 44 = .ok (.aload_n 0, 1) := by decide +kernel
theorem d_Mo_cellOf_45 : decode prog_13_method_61_code 45 = .ok (.iload_n 1, 1) := by decide +kernel
theorem d_Mo_cellOf_46 : decode prog_13_method_61_code 46 = .ok (.iload_n 2, 1) := by decide +kernel
theorem d_Mo_cellOf_47 : decode prog_13_method_61_code 47 = .ok (.invokevirtual 77, 3) := by decide +kernel
theorem d_Mo_cellOf_50 : decode prog_13_method_61_code 50 = .ok (.goto 4, 3) := by decide +kernel
theorem d_Mo_cellOf_53 : decode prog_13_method_61_code 53 = .ok (.iconst 0, 1) := by decide +kernel
theorem d_Mo_cellOf_54 : decode prog_13_method_61_code 54 = .ok (.ireturn, 1) := by decide +kernel
def b_Mo_cellOf_37 (a0 : Nat) (i1 : Int32) (i2 : Int32) (i3 : Int32) (s0 : Int32) (s1 : Nat) (h : PH) : Option (Int32 × PH) :=
  bnd (pV h s1 10 5 (.int s0)) fun h1 => (if i3 = (0 : Int32) then some ((0 : Int32), h1) else bnd (cK h1 a0 10) fun _ => bnd (f_Mo_cellAt a0 i1 i2 h1) fun x3 => some (x3, h1))
theorem g_Mo_cellOf_37 {l : Launch} {E : ET} {d : Nat} (hd : 3 ≤ d) {r : Int32} {h9 : PH} {x : Nat}  (a0 : Nat) (i1 : Int32) (i2 : Int32) (i3 : Int32) (s0 : Int32) (s1 : Nat) (h : PH) (hf : b_Mo_cellOf_37 a0 i1 i2 i3 s0 s1 h = some (r, h9)) : Go l E m_Mo_cellOf (rm d 0 0) (KM E 0 0 (PoE (some (.int r)) h9 x)) 0 0 h x 37 [(0, .ref a0), (1, .int i1), (2, .int i2), (3, .int i3)] [.int s0, .ref s1] := by
  unfold b_Mo_cellOf_37 at hf
  obtain ⟨h1, e_h1, hf⟩ := bnd_x hf
  refine go_putI d_Mo_cellOf_37 e_h1 fl_Mo_52 rfl rfl ?_
  refine go_iload_n 3 d_Mo_cellOf_40 rfl ?_
  refine go_if_eq 53 d_Mo_cellOf_41 (by decide) (fun q4 => ?_) (fun q4 => ?_)
  · rw [if_pos q4] at hf
    refine go_iconst (0 : Int32) d_Mo_cellOf_53 (by decide) ?_
    obtain ⟨e8, e9⟩ := Prod.mk.inj (Option.some.inj hf)
    subst e8; subst e9
    exact go_iret d_Mo_cellOf_54 rfl ⟨rfl, rfl, rfl⟩
  · rw [if_neg q4] at hf
    refine go_aload_n 0 d_Mo_cellOf_44 rfl ?_
    refine go_iload_n 1 d_Mo_cellOf_45 rfl ?_
    refine go_iload_n 2 d_Mo_cellOf_46 rfl ?_
    obtain ⟨_, e2, hf⟩ := bnd_x hf
    obtain ⟨x3, e_x3, hf⟩ := bnd_x hf
    refine go_callV_I (As := [.int i1, .int i2]) (st := []) (c_Mo_cellAt (d := d - 1) (by omega) e_x3) lk_Mo_77 rfl rfl e2 (by decide) rfl (rm_ok (by omega)) (Nat.le_of_ble_eq_true rfl) rm_c d_Mo_cellOf_47 ?_
    refine go_goto 54 d_Mo_cellOf_50 (by decide) ?_
    obtain ⟨e8, e9⟩ := Prod.mk.inj (Option.some.inj hf)
    subst e8; subst e9
    exact go_iret d_Mo_cellOf_54 rfl ⟨rfl, rfl, rfl⟩
def b_Mo_cellOf_26 (a0 : Nat) (i1 : Int32) (i2 : Int32) (s0 : Int32) (h : PH) : Option (Int32 × PH) :=
  (if s0 = (0 : Int32) then b_Mo_cellOf_37 a0 i1 i2 s0 (1 : Int32) a0 h else b_Mo_cellOf_37 a0 i1 i2 s0 (0 : Int32) a0 h)
theorem g_Mo_cellOf_26 {l : Launch} {E : ET} {d : Nat} (hd : 3 ≤ d) {r : Int32} {h9 : PH} {x : Nat}  (a0 : Nat) (i1 : Int32) (i2 : Int32) (s0 : Int32) (h : PH) (hf : b_Mo_cellOf_26 a0 i1 i2 s0 h = some (r, h9)) : Go l E m_Mo_cellOf (rm d 0 0) (KM E 0 0 (PoE (some (.int r)) h9 x)) 0 0 h x 26 [(0, .ref a0), (1, .int i1), (2, .int i2)] [.int s0] := by
  unfold b_Mo_cellOf_26 at hf
  refine go_istore_n (lv' := [(3, .int s0), (0, .ref a0), (1, .int i1), (2, .int i2)]) d_Mo_cellOf_26 rfl (by decide) ?_
  refine go_aload_n 1 d_Mo_cellOf_27 rfl ?_
  refine go_iload_n 0 d_Mo_cellOf_28 rfl ?_
  refine go_if_eq 36 d_Mo_cellOf_29 (by decide) (fun q1 => ?_) (fun q1 => ?_)
  · rw [if_pos q1] at hf
    refine go_iconst (1 : Int32) d_Mo_cellOf_36 (by decide) ?_
    refine go_sub (lv' := [(0, .ref a0), (1, .int i1), (2, .int i2), (3, .int s0)]) [1, 2, 3, 0] rfl ?_
    exact g_Mo_cellOf_37 hd  a0 i1 i2 s0 (1 : Int32) a0 h hf
  · rw [if_neg q1] at hf
    refine go_iconst (0 : Int32) d_Mo_cellOf_32 (by decide) ?_
    refine go_goto 37 d_Mo_cellOf_33 (by decide) ?_
    refine go_sub (lv' := [(0, .ref a0), (1, .int i1), (2, .int i2), (3, .int s0)]) [1, 2, 3, 0] rfl ?_
    exact g_Mo_cellOf_37 hd  a0 i1 i2 s0 (0 : Int32) a0 h hf
def b_Mo_cellOf_25 (a0 : Nat) (i1 : Int32) (i2 : Int32) (h : PH) : Option (Int32 × PH) :=
  b_Mo_cellOf_26 a0 i1 i2 (0 : Int32) h
theorem g_Mo_cellOf_25 {l : Launch} {E : ET} {d : Nat} (hd : 3 ≤ d) {r : Int32} {h9 : PH} {x : Nat}  (a0 : Nat) (i1 : Int32) (i2 : Int32) (h : PH) (hf : b_Mo_cellOf_25 a0 i1 i2 h = some (r, h9)) : Go l E m_Mo_cellOf (rm d 0 0) (KM E 0 0 (PoE (some (.int r)) h9 x)) 0 0 h x 25 [(0, .ref a0), (1, .int i1), (2, .int i2)] [] := by
  unfold b_Mo_cellOf_25 at hf
  refine go_iconst (0 : Int32) d_Mo_cellOf_25 (by decide) ?_
  refine go_sub (lv' := [(0, .ref a0), (1, .int i1), (2, .int i2)]) [0, 1, 2] rfl ?_
  exact g_Mo_cellOf_26 hd  a0 i1 i2 (0 : Int32) h hf
def f_Mo_cellOf (a0 : Nat) (i1 : Int32) (i2 : Int32) (h : PH) : Option (Int32 × PH) :=
  bnd (cK h a0 10) fun _ => bnd (f_Mo_isConstraint a0 i1 h) fun x2 => (if x2 = (0 : Int32) then b_Mo_cellOf_25 a0 i1 i2 h else (if i2 < (0 : Int32) then b_Mo_cellOf_25 a0 i1 i2 h else bnd (cK h a0 10) fun _ => bnd (f_Mo_lengthOf a0 i1 h) fun x4 => (if x4 ≤ i2 then b_Mo_cellOf_25 a0 i1 i2 h else b_Mo_cellOf_26 a0 i1 i2 (1 : Int32) h)))
theorem g_Mo_cellOf_0 {l : Launch} {E : ET} {d : Nat} (hd : 3 ≤ d) {r : Int32} {h9 : PH} {x : Nat}  (a0 : Nat) (i1 : Int32) (i2 : Int32) (h : PH) (hf : f_Mo_cellOf a0 i1 i2 h = some (r, h9)) : Go l E m_Mo_cellOf (rm d 0 0) (KM E 0 0 (PoE (some (.int r)) h9 x)) 0 0 h x 0 [(0, .ref a0), (1, .int i1), (2, .int i2)] [] := by
  unfold f_Mo_cellOf at hf
  refine go_aload_n 0 d_Mo_cellOf_0 rfl ?_
  refine go_iload_n 1 d_Mo_cellOf_1 rfl ?_
  obtain ⟨_, e1, hf⟩ := bnd_x hf
  obtain ⟨x2, e_x2, hf⟩ := bnd_x hf
  refine go_callV_I (As := [.int i1]) (st := []) (c_Mo_isConstraint (d := d - 1) (by omega) e_x2) lk_Mo_220 rfl rfl e1 (by decide) rfl (rm_ok (by omega)) (Nat.le_of_ble_eq_true rfl) rm_c d_Mo_cellOf_2 ?_
  refine go_if_eq 25 d_Mo_cellOf_5 (by decide) (fun q7 => ?_) (fun q7 => ?_)
  · rw [if_pos q7] at hf
    refine go_sub (lv' := [(0, .ref a0), (1, .int i1), (2, .int i2)]) [0, 1, 2] rfl ?_
    exact g_Mo_cellOf_25 hd  a0 i1 i2 h hf
  · rw [if_neg q7] at hf
    refine go_iload_n 2 d_Mo_cellOf_8 rfl ?_
    refine go_if_lt 25 d_Mo_cellOf_9 (by decide) (fun q6 => ?_) (fun q6 => ?_)
    · rw [if_pos q6] at hf
      refine go_sub (lv' := [(0, .ref a0), (1, .int i1), (2, .int i2)]) [0, 1, 2] rfl ?_
      exact g_Mo_cellOf_25 hd  a0 i1 i2 h hf
    · rw [if_neg q6] at hf
      refine go_iload_n 2 d_Mo_cellOf_12 rfl ?_
      refine go_aload_n 0 d_Mo_cellOf_13 rfl ?_
      refine go_iload_n 1 d_Mo_cellOf_14 rfl ?_
      obtain ⟨_, e3, hf⟩ := bnd_x hf
      obtain ⟨x4, e_x4, hf⟩ := bnd_x hf
      refine go_callV_I (As := [.int i1]) (st := [.int i2]) (c_Mo_lengthOf (d := d - 1) (by omega) e_x4) lk_Mo_74 rfl rfl e3 (by decide) rfl (rm_ok (by omega)) (Nat.le_of_ble_eq_true rfl) rm_c d_Mo_cellOf_15 ?_
      refine go_icmp_ge 25 d_Mo_cellOf_18 (by decide) (fun q5 => ?_) (fun q5 => ?_)
      · rw [if_pos q5] at hf
        refine go_sub (lv' := [(0, .ref a0), (1, .int i1), (2, .int i2)]) [0, 1, 2] rfl ?_
        exact g_Mo_cellOf_25 hd  a0 i1 i2 h hf
      · rw [if_neg q5] at hf
        refine go_iconst (1 : Int32) d_Mo_cellOf_21 (by decide) ?_
        refine go_goto 26 d_Mo_cellOf_22 (by decide) ?_
        refine go_sub (lv' := [(0, .ref a0), (1, .int i1), (2, .int i2)]) [0, 1, 2] rfl ?_
        exact g_Mo_cellOf_26 hd  a0 i1 i2 (1 : Int32) h hf
theorem c_Mo_cellOf {l : Launch} {E : ET} {d : Nat} (hd : 3 ≤ d) {r : Int32} {h9 : PH} {x : Nat} {a0 : Nat} {i1 : Int32} {i2 : Int32} {h : PH} (hf : f_Mo_cellOf a0 i1 i2 h = some (r, h9)) : Fn l E m_Mo_cellOf d 0 0 [.ref a0, .int i1, .int i2] h x (PoE (some (.int r)) h9 x) :=
  Fn.of (by decide +kernel) (Nat.le_of_ble_eq_true rfl) (g_Mo_cellOf_0 hd a0 i1 i2 h hf)
theorem d_Mo_countOf_0 : decode prog_13_method_62_code 0 = .ok (.iload_n 1, 1) := by decide +kernel
theorem d_Mo_countOf_1 : decode prog_13_method_62_code 1 = .ok (.tableswitch 102 0 4 #[35, 43, 48, 56, 86], 35) := by decide +kernel
theorem d_Mo_countOf_36 : decode prog_13_method_62_code 36 = .ok (.aload_n 0, 1) := by decide +kernel
theorem d_Mo_countOf_37 : decode prog_13_method_62_code 37 = .ok (.getfield 7, 3) := by decide +kernel
theorem d_Mo_countOf_40 : decode prog_13_method_62_code 40 = .ok (.bipush 108, 2) := by decide +kernel
theorem d_Mo_countOf_42 : decode prog_13_method_62_code 42 = .ok (.iaload, 1) := by decide +kernel
theorem d_Mo_countOf_43 : decode prog_13_method_62_code 43 = .ok (.ireturn, 1) := by decide +kernel
theorem d_Mo_countOf_44 : decode prog_13_method_62_code 44 = .ok (.aload_n 0, 1) := by decide +kernel
theorem d_Mo_countOf_45 : decode prog_13_method_62_code 45 = .ok (.invokevirtual 226, 3) := by decide +kernel
theorem d_Mo_countOf_48 : decode prog_13_method_62_code 48 = .ok (.ireturn, 1) := by decide +kernel
theorem d_Mo_countOf_49 : decode prog_13_method_62_code 49 = .ok (.aload_n 0, 1) := by decide +kernel
theorem d_Mo_countOf_50 : decode prog_13_method_62_code 50 = .ok (.getfield 7, 3) := by decide +kernel
theorem d_Mo_countOf_53 : decode prog_13_method_62_code 53 = .ok (.invokestatic 87, 3) := by decide +kernel
theorem d_Mo_countOf_56 : decode prog_13_method_62_code 56 = .ok (.ireturn, 1) := by decide +kernel
theorem d_Mo_countOf_57 : decode prog_13_method_62_code 57 = .ok (.iconst 0, 1) := by decide +kernel
theorem d_Mo_countOf_58 : decode prog_13_method_62_code 58 = .ok (.istore_n 2, 1) := by decide +kernel
theorem d_Mo_countOf_59 : decode prog_13_method_62_code 59 = .ok (.iconst 0, 1) := by decide +kernel
theorem d_Mo_countOf_60 : decode prog_13_method_62_code 60 = .ok (.istore_n 3, 1) := by decide +kernel
theorem d_Mo_countOf_61 : decode prog_13_method_62_code 61 = .ok (.iload_n 3, 1) := by decide +kernel
theorem d_Mo_countOf_62 : decode prog_13_method_62_code 62 = .ok (.bipush 36, 2) := by decide +kernel
theorem d_Mo_countOf_64 : decode prog_13_method_62_code 64 = .ok (.if_icmp .ge 21, 3) := by decide +kernel
theorem d_Mo_countOf_67 : decode prog_13_method_62_code 67 = .ok (.iload_n 2, 1) := by decide +kernel
theorem d_Mo_countOf_68 : decode prog_13_method_62_code 68 = .ok (.aload_n 0, 1) := by decide +kernel
theorem d_Mo_countOf_69 : decode prog_13_method_62_code 69 = .ok (.getfield 7, 3) := by decide +kernel
theorem d_Mo_countOf_72 : decode prog_13_method_62_code 72 = .ok (.iload_n 3, 1) := by decide +kernel
theorem d_Mo_countOf_73 : decode prog_13_method_62_code 73 = .ok (.iaload, 1) := by decide +kernel
theorem d_Mo_countOf_74 : decode prog_13_method_62_code 74 = .ok (.invokestatic 98, 3) := by decide +kernel
theorem d_Mo_countOf_77 : decode prog_13_method_62_code 77 = .ok (.iadd, 1) := by decide +kernel
theorem d_Mo_countOf_78 : decode prog_13_method_62_code 78 = .ok (.istore_n 2, 1) := by decide +kernel
theorem d_Mo_countOf_79 : decode prog_13_method_62_code 79 = .ok (.iinc 3 1, 3) := by decide +kernel
theorem d_Mo_countOf_82 : decode prog_13_method_62_code 82 = .ok (.goto (-21), 3) := by decide +kernel
theorem d_Mo_countOf_85 : decode prog_13_method_62_code 85 = .ok (.iload_n 2, 1) := by decide +kernel
theorem d_Mo_countOf_86 : decode prog_13_method_62_code 86 = .ok (.ireturn, 1) := by decide +kernel
theorem d_Mo_countOf_87 : decode prog_13_method_62_code 87 = .ok (.aload_n 0, 1) := by decide +kernel
theorem d_Mo_countOf_88 : decode prog_13_method_62_code 88 = .ok (.getfield 7, 3) := by decide +kernel
theorem d_Mo_countOf_91 : decode prog_13_method_62_code 91 = .ok (.invokestatic 91, 3) := by decide +kernel
theorem d_Mo_countOf_94 : decode prog_13_method_62_code 94 = .ok (.ifCond .eq 7, 3) := by decide +kernel
theorem d_Mo_countOf_97 : decode prog_13_method_62_code 97 = .ok (.iconst 1, 1) := by decide +kernel
theorem d_Mo_countOf_98 : decode prog_13_method_62_code 98 = .ok (.goto 4, 3) := by decide +kernel
theorem d_Mo_countOf_101 : decode prog_13_method_62_code 101 = .ok (.iconst 0, 1) := by decide +kernel
theorem d_Mo_countOf_102 : decode prog_13_method_62_code 102 = .ok (.ireturn, 1) := by decide +kernel
theorem d_Mo_countOf_103 : decode prog_13_method_62_code 103 = .ok (.aload_n 0, 1) := by decide +kernel
theorem d_Mo_countOf_104 : decode prog_13_method_62_code 104 = .ok (.getfield 7, 3) := by decide +kernel
theorem d_Mo_countOf_107 : decode prog_13_method_62_code 107 = .ok (.invokestatic 187, 3) := by decide +kernel
theorem d_Mo_countOf_110 : decode prog_13_method_62_code 110 = .ok (.ifCond .eq 7, 3) := by decide +kernel
theorem d_Mo_countOf_113 : decode prog_13_method_62_code 113 = .ok (.iconst 1, 1) := by decide +kernel
theorem d_Mo_countOf_114 : decode prog_13_method_62_code 114 = .ok (.goto 4, 3) := by decide +kernel
theorem d_Mo_countOf_117 : decode prog_13_method_62_code 117 = .ok (.iconst 0, 1) := by decide +kernel
theorem d_Mo_countOf_118 : decode prog_13_method_62_code 118 = .ok (.ireturn, 1) := by decide +kernel
def b_Mo_countOf_61 (F : Nat) (k61 : Nat → Int32 → Int32 → PH → Option Int32) (a0 : Nat) (i2 : Int32) (i3 : Int32) (h : PH) : Option Int32 :=
  (if (36 : Int32) ≤ i3 then some i2 else bnd (gR h a0 10 0) fun x1 => bnd (aI h x1 i3) fun x2 => bnd (f_Mo_size F x2) fun x3 => k61 a0 (i2 + x3) (i3 + (1 : Int32)) h)
def f_Mo_countOf_61 (F : Nat) : Nat → Nat → Int32 → Int32 → PH → Option Int32
  | 0 => fun _ _ _ _ => none
  | n + 1 => b_Mo_countOf_61 F (f_Mo_countOf_61 F n)
theorem g_Mo_countOf_61 {l : Launch} {E : ET} {d : Nat} (hd : 3 ≤ d) {F : Nat} {r : Int32} {h : PH} {x : Nat} {k61 : Nat → Int32 → Int32 → PH → Option Int32} (hk61 : ∀ (a0 : Nat) (i2 : Int32) (i3 : Int32), k61 a0 i2 i3 h = some r → Go l E m_Mo_countOf (rm d 0 0) (KM E 0 0 (PoE (some (.int r)) h x)) 0 0 h x 61 [(0, .ref a0), (2, .int i2), (3, .int i3)] []) (a0 : Nat) (i2 : Int32) (i3 : Int32) (hf : b_Mo_countOf_61 F k61 a0 i2 i3 h = some r) : Go l E m_Mo_countOf (rm d 0 0) (KM E 0 0 (PoE (some (.int r)) h x)) 0 0 h x 61 [(0, .ref a0), (2, .int i2), (3, .int i3)] [] := by
  unfold b_Mo_countOf_61 at hf
  refine go_iload_n 2 d_Mo_countOf_61 rfl ?_
  refine go_bipush (36 : Int32) d_Mo_countOf_62 (by decide) ?_
  refine go_icmp_ge 85 d_Mo_countOf_64 (by decide) (fun q4 => ?_) (fun q4 => ?_)
  · rw [if_pos q4] at hf
    refine go_iload_n 1 d_Mo_countOf_85 rfl ?_
    have e9 := Option.some.inj hf
    subst e9
    exact go_iret d_Mo_countOf_86 rfl ⟨rfl, rfl, rfl⟩
  · rw [if_neg q4] at hf
    refine go_iload_n 1 d_Mo_countOf_67 rfl ?_
    refine go_aload_n 0 d_Mo_countOf_68 rfl ?_
    obtain ⟨x1, e_x1, hf⟩ := bnd_x hf
    refine go_get d_Mo_countOf_69 (gR_x e_x1) fl_Mo_7 ?_
    refine go_iload_n 2 d_Mo_countOf_72 rfl ?_
    obtain ⟨x2, e_x2, hf⟩ := bnd_x hf
    refine go_iaload d_Mo_countOf_73 e_x2 ?_
    obtain ⟨x3, e_x3, hf⟩ := bnd_x hf
    refine go_callS_I (As := [.int x2]) (st := [.int i2]) (c_Mo_size (d := d - 1) (by omega) e_x3) lk_Mo_98 rfl rfl (rm_ok (by omega)) (Nat.le_of_ble_eq_true rfl) rm_c d_Mo_countOf_74 ?_
    refine go_iadd d_Mo_countOf_77 ?_
    refine go_istore_n (lv' := [(2, .int (i2 + x3)), (0, .ref a0), (3, .int i3)]) d_Mo_countOf_78 rfl (by decide) ?_
    refine go_iinc (lv' := [(3, .int (i3 + (1 : Int32))), (2, .int (i2 + x3)), (0, .ref a0)]) 2 (i3 + (1 : Int32)) d_Mo_countOf_79 rfl rfl rfl (by decide) ?_
    refine go_goto 61 d_Mo_countOf_82 (by decide) ?_
    refine go_sub (lv' := [(0, .ref a0), (2, .int (i2 + x3)), (3, .int (i3 + (1 : Int32)))]) [2, 1, 0] rfl ?_
    exact hk61 a0 (i2 + x3) (i3 + (1 : Int32)) hf
theorem t_Mo_countOf_61 {l : Launch} {E : ET} {d : Nat} (hd : 3 ≤ d) {F : Nat} {r : Int32} {h : PH} {x : Nat}  : ∀ (n : Nat) (a0 : Nat) (i2 : Int32) (i3 : Int32), f_Mo_countOf_61 F n a0 i2 i3 h = some r → Go l E m_Mo_countOf (rm d 0 0) (KM E 0 0 (PoE (some (.int r)) h x)) 0 0 h x 61 [(0, .ref a0), (2, .int i2), (3, .int i3)] [] := by
  intro n
  induction n with
  | zero => intro v0 v1 v2 hf; cases hf
  | succ n ih => intro v0 v1 v2 hf; exact g_Mo_countOf_61 hd ih v0 v1 v2 hf
def f_Mo_countOf (F : Nat) (a0 : Nat) (i1 : Int32) (h : PH) : Option Int32 :=
  (if i1 = (0 : Int32) then bnd (gR h a0 10 0) fun x2 => bnd (aI h x2 (108 : Int32)) fun x3 => some x3 else (if i1 = (1 : Int32) then bnd (cK h a0 10) fun _ => bnd (f_Mo_givens F a0 h) fun x6 => some x6 else (if i1 = (2 : Int32) then bnd (gR h a0 10 0) fun x8 => bnd (f_Mo_placedMany F x8 h) fun x9 => some x9 else (if i1 = (3 : Int32) then f_Mo_countOf_61 F F a0 (0 : Int32) (0 : Int32) h else (if i1 = (4 : Int32) then bnd (gR h a0 10 0) fun x12 => bnd (f_Mo_isDead F x12 h) fun x13 => (if x13 = (0 : Int32) then some (0 : Int32) else some (1 : Int32)) else bnd (gR h a0 10 0) fun x15 => bnd (f_Mo_isSolved F x15 h) fun x16 => (if x16 = (0 : Int32) then some (0 : Int32) else some (1 : Int32)))))))
theorem g_Mo_countOf_0 {l : Launch} {E : ET} {d : Nat} (hd : 3 ≤ d) {F : Nat} {r : Int32} {h : PH} {x : Nat}  (a0 : Nat) (i1 : Int32) (hf : f_Mo_countOf F a0 i1 h = some r) : Go l E m_Mo_countOf (rm d 0 0) (KM E 0 0 (PoE (some (.int r)) h x)) 0 0 h x 0 [(0, .ref a0), (1, .int i1)] [] := by
  unfold f_Mo_countOf at hf
  refine go_iload_n 1 d_Mo_countOf_0 rfl ?_
  by_cases q1 : i1 = (0 : Int32)
  · rw [if_pos q1] at hf
    refine go_tableIn 36 d_Mo_countOf_1 (by rw [q1]; decide) (by rw [q1]; decide) (by rw [q1]; rfl) (by decide) ?_
    refine go_aload_n 0 d_Mo_countOf_36 rfl ?_
    obtain ⟨x2, e_x2, hf⟩ := bnd_x hf
    refine go_get d_Mo_countOf_37 (gR_x e_x2) fl_Mo_7 ?_
    refine go_bipush (108 : Int32) d_Mo_countOf_40 (by decide) ?_
    obtain ⟨x3, e_x3, hf⟩ := bnd_x hf
    refine go_iaload d_Mo_countOf_42 e_x3 ?_
    have e9 := Option.some.inj hf
    subst e9
    exact go_iret d_Mo_countOf_43 rfl ⟨rfl, rfl, rfl⟩
  · rw [if_neg q1] at hf
    by_cases q4 : i1 = (1 : Int32)
    · rw [if_pos q4] at hf
      refine go_tableIn 44 d_Mo_countOf_1 (by rw [q4]; decide) (by rw [q4]; decide) (by rw [q4]; rfl) (by decide) ?_
      refine go_aload_n 0 d_Mo_countOf_44 rfl ?_
      obtain ⟨_, e5, hf⟩ := bnd_x hf
      obtain ⟨x6, e_x6, hf⟩ := bnd_x hf
      refine go_callV_I (As := []) (st := []) (c_Mo_givens (d := d - 1) (by omega) e_x6) lk_Mo_226 rfl rfl e5 (by decide) rfl (rm_ok (by omega)) (Nat.le_of_ble_eq_true rfl) rm_c d_Mo_countOf_45 ?_
      have e9 := Option.some.inj hf
      subst e9
      exact go_iret d_Mo_countOf_48 rfl ⟨rfl, rfl, rfl⟩
    · rw [if_neg q4] at hf
      by_cases q7 : i1 = (2 : Int32)
      · rw [if_pos q7] at hf
        refine go_tableIn 49 d_Mo_countOf_1 (by rw [q7]; decide) (by rw [q7]; decide) (by rw [q7]; rfl) (by decide) ?_
        refine go_aload_n 0 d_Mo_countOf_49 rfl ?_
        obtain ⟨x8, e_x8, hf⟩ := bnd_x hf
        refine go_get d_Mo_countOf_50 (gR_x e_x8) fl_Mo_7 ?_
        obtain ⟨x9, e_x9, hf⟩ := bnd_x hf
        refine go_callS_I (As := [.ref x8]) (st := []) (c_Mo_placedMany (d := d - 1) (by omega) e_x9) lk_Mo_87 rfl rfl (rm_ok (by omega)) (Nat.le_of_ble_eq_true rfl) rm_c d_Mo_countOf_53 ?_
        have e9 := Option.some.inj hf
        subst e9
        exact go_iret d_Mo_countOf_56 rfl ⟨rfl, rfl, rfl⟩
      · rw [if_neg q7] at hf
        by_cases q10 : i1 = (3 : Int32)
        · rw [if_pos q10] at hf
          refine go_tableIn 57 d_Mo_countOf_1 (by rw [q10]; decide) (by rw [q10]; decide) (by rw [q10]; rfl) (by decide) ?_
          refine go_iconst (0 : Int32) d_Mo_countOf_57 (by decide) ?_
          refine go_istore_n (lv' := [(2, .int (0 : Int32)), (0, .ref a0), (1, .int i1)]) d_Mo_countOf_58 rfl (by decide) ?_
          refine go_iconst (0 : Int32) d_Mo_countOf_59 (by decide) ?_
          refine go_istore_n (lv' := [(3, .int (0 : Int32)), (2, .int (0 : Int32)), (0, .ref a0), (1, .int i1)]) d_Mo_countOf_60 rfl (by decide) ?_
          refine go_sub (lv' := [(0, .ref a0), (2, .int (0 : Int32)), (3, .int (0 : Int32))]) [2, 1, 0] rfl ?_
          exact t_Mo_countOf_61 hd  _ a0 (0 : Int32) (0 : Int32)  hf
        · rw [if_neg q10] at hf
          by_cases q11 : i1 = (4 : Int32)
          · rw [if_pos q11] at hf
            refine go_tableIn 87 d_Mo_countOf_1 (by rw [q11]; decide) (by rw [q11]; decide) (by rw [q11]; rfl) (by decide) ?_
            refine go_aload_n 0 d_Mo_countOf_87 rfl ?_
            obtain ⟨x12, e_x12, hf⟩ := bnd_x hf
            refine go_get d_Mo_countOf_88 (gR_x e_x12) fl_Mo_7 ?_
            obtain ⟨x13, e_x13, hf⟩ := bnd_x hf
            refine go_callS_I (As := [.ref x12]) (st := []) (c_Mo_isDead (d := d - 1) (by omega) e_x13) lk_Mo_91 rfl rfl (rm_ok (by omega)) (Nat.le_of_ble_eq_true rfl) rm_c d_Mo_countOf_91 ?_
            refine go_if_eq 101 d_Mo_countOf_94 (by decide) (fun q14 => ?_) (fun q14 => ?_)
            · rw [if_pos q14] at hf
              refine go_iconst (0 : Int32) d_Mo_countOf_101 (by decide) ?_
              have e9 := Option.some.inj hf
              subst e9
              exact go_iret d_Mo_countOf_102 rfl ⟨rfl, rfl, rfl⟩
            · rw [if_neg q14] at hf
              refine go_iconst (1 : Int32) d_Mo_countOf_97 (by decide) ?_
              refine go_goto 102 d_Mo_countOf_98 (by decide) ?_
              have e9 := Option.some.inj hf
              subst e9
              exact go_iret d_Mo_countOf_102 rfl ⟨rfl, rfl, rfl⟩
          · rw [if_neg q11] at hf
            refine go_tableOut 103 d_Mo_countOf_1 (by have g0 := ne_ti (0) (0 : Int32) (by decide) q1; have g1 := ne_ti (1) (1 : Int32) (by decide) q4; have g2 := ne_ti (2) (2 : Int32) (by decide) q7; have g3 := ne_ti (3) (3 : Int32) (by decide) q10; have g4 := ne_ti (4) (4 : Int32) (by decide) q11; omega) (by decide) ?_
            refine go_aload_n 0 d_Mo_countOf_103 rfl ?_
            obtain ⟨x15, e_x15, hf⟩ := bnd_x hf
            refine go_get d_Mo_countOf_104 (gR_x e_x15) fl_Mo_7 ?_
            obtain ⟨x16, e_x16, hf⟩ := bnd_x hf
            refine go_callS_I (As := [.ref x15]) (st := []) (c_Mo_isSolved (d := d - 1) (by omega) e_x16) lk_Mo_187 rfl rfl (rm_ok (by omega)) (Nat.le_of_ble_eq_true rfl) rm_c d_Mo_countOf_107 ?_
            refine go_if_eq 117 d_Mo_countOf_110 (by decide) (fun q17 => ?_) (fun q17 => ?_)
            · rw [if_pos q17] at hf
              refine go_iconst (0 : Int32) d_Mo_countOf_117 (by decide) ?_
              have e9 := Option.some.inj hf
              subst e9
              exact go_iret d_Mo_countOf_118 rfl ⟨rfl, rfl, rfl⟩
            · rw [if_neg q17] at hf
              refine go_iconst (1 : Int32) d_Mo_countOf_113 (by decide) ?_
              refine go_goto 118 d_Mo_countOf_114 (by decide) ?_
              have e9 := Option.some.inj hf
              subst e9
              exact go_iret d_Mo_countOf_118 rfl ⟨rfl, rfl, rfl⟩
theorem c_Mo_countOf {l : Launch} {E : ET} {d : Nat} (hd : 3 ≤ d) {F : Nat} {r : Int32} {h : PH} {x : Nat} {a0 : Nat} {i1 : Int32} (hf : f_Mo_countOf F a0 i1 h = some r) : Fn l E m_Mo_countOf d 0 0 [.ref a0, .int i1] h x (PoE (some (.int r)) h x) :=
  Fn.of (by decide +kernel) (Nat.le_of_ble_eq_true rfl) (g_Mo_countOf_0 hd a0 i1 hf)
theorem d_Mo_count_0 : decode prog_13_method_63_code 0 = .ok (.aload_n 0, 1) := by decide +kernel
theorem d_Mo_count_1 : decode prog_13_method_63_code 1 = .ok (.iload_n 1, 1) := by decide +kernel
theorem d_Mo_count_2 : decode prog_13_method_63_code 2 = .ok (.iconst 0, 1) := by decide +kernel
theorem d_Mo_count_3 : decode prog_13_method_63_code 3 = .ok (.iconst 5, 1) := by decide +kernel
theorem d_Mo_count_4 : decode prog_13_method_63_code 4 = .ok (.invokestatic 62, 3) := by decide +kernel
theorem d_Mo_count_7 : decode prog_13_method_63_code 7 = .ok (.ifCond .eq 7, 3) := by decide +kernel
theorem d_Mo_count_10 : decode prog_13_method_63_code 10 = .ok (.iconst 0, 1) := by decide +kernel
theorem d_Mo_count_11 : decode prog_13_method_63_code 11 = .ok (.goto 4, 3) := by decide +kernel
theorem d_Mo_count_14 : decode prog_13_method_63_code 14 = .ok (.iconst 1, 1) := by decide +kernel
theorem d_Mo_count_15 : decode prog_13_method_63_code 15 = .ok (.putfield 52, 3) := by decide +kernel
theorem d_Mo_count_18 : decode prog_13_method_63_code 18 = .ok (.aload_n 0, 1) := by decide +kernel
theorem d_Mo_count_19 : decode prog_13_method_63_code 19 = .ok (.getfield 52, 3) := by decide +kernel
theorem d_Mo_count_22 : decode prog_13_method_63_code 22 = .ok (.ifCond .eq 7, 3) := by decide +kernel
theorem d_Mo_count_25 : decode prog_13_method_63_code 25 = .ok (.iconst 0, 1) := by decide +kernel
theorem d_Mo_count_26 : decode prog_13_method_63_code 26 = .ok (.goto 8, 3) := by decide +kernel
theorem d_Mo_count_29 : decode prog_13_method_63_code 29 = .ok (.aload_n 0, 1) := by decide +kernel
theorem d_Mo_count_30 : decode prog_13_method_63_code 30 = .ok (.iload_n 1, 1) := by decide +kernel
theorem d_Mo_count_31 : decode prog_13_method_63_code 31 = .ok (.invokevirtual 252, 3) := by decide +kernel
theorem d_Mo_count_34 : decode prog_13_method_63_code 34 = .ok (.ireturn, 1) := by decide +kernel
def b_Mo_count_15 (F : Nat) (a0 : Nat) (i1 : Int32) (s0 : Int32) (s1 : Nat) (h : PH) : Option (Int32 × PH) :=
  bnd (pV h s1 10 5 (.int s0)) fun h1 => bnd (gI h1 a0 10 5) fun x2 => (if x2 = (0 : Int32) then bnd (cK h1 a0 10) fun _ => bnd (f_Mo_countOf F a0 i1 h1) fun x4 => some (x4, h1) else some ((0 : Int32), h1))
theorem g_Mo_count_15 {l : Launch} {E : ET} {d : Nat} (hd : 4 ≤ d) {F : Nat} {r : Int32} {h9 : PH} {x : Nat}  (a0 : Nat) (i1 : Int32) (s0 : Int32) (s1 : Nat) (h : PH) (hf : b_Mo_count_15 F a0 i1 s0 s1 h = some (r, h9)) : Go l E m_Mo_count (rm d 0 0) (KM E 0 0 (PoE (some (.int r)) h9 x)) 0 0 h x 15 [(0, .ref a0), (1, .int i1)] [.int s0, .ref s1] := by
  unfold b_Mo_count_15 at hf
  obtain ⟨h1, e_h1, hf⟩ := bnd_x hf
  refine go_putI d_Mo_count_15 e_h1 fl_Mo_52 rfl rfl ?_
  refine go_aload_n 0 d_Mo_count_18 rfl ?_
  obtain ⟨x2, e_x2, hf⟩ := bnd_x hf
  refine go_get d_Mo_count_19 (gI_x e_x2) fl_Mo_52 ?_
  refine go_if_eq 29 d_Mo_count_22 (by decide) (fun q5 => ?_) (fun q5 => ?_)
  · rw [if_pos q5] at hf
    refine go_aload_n 0 d_Mo_count_29 rfl ?_
    refine go_iload_n 1 d_Mo_count_30 rfl ?_
    obtain ⟨_, e3, hf⟩ := bnd_x hf
    obtain ⟨x4, e_x4, hf⟩ := bnd_x hf
    refine go_callV_I (As := [.int i1]) (st := []) (c_Mo_countOf (d := d - 1) (by omega) e_x4) lk_Mo_252 rfl rfl e3 (by decide) rfl (rm_ok (by omega)) (Nat.le_of_ble_eq_true rfl) rm_c d_Mo_count_31 ?_
    obtain ⟨e8, e9⟩ := Prod.mk.inj (Option.some.inj hf)
    subst e8; subst e9
    exact go_iret d_Mo_count_34 rfl ⟨rfl, rfl, rfl⟩
  · rw [if_neg q5] at hf
    refine go_iconst (0 : Int32) d_Mo_count_25 (by decide) ?_
    refine go_goto 34 d_Mo_count_26 (by decide) ?_
    obtain ⟨e8, e9⟩ := Prod.mk.inj (Option.some.inj hf)
    subst e8; subst e9
    exact go_iret d_Mo_count_34 rfl ⟨rfl, rfl, rfl⟩
def f_Mo_count (F : Nat) (a0 : Nat) (i1 : Int32) (h : PH) : Option (Int32 × PH) :=
  bnd (f_Mo_in i1 (0 : Int32) (5 : Int32)) fun x1 => (if x1 = (0 : Int32) then b_Mo_count_15 F a0 i1 (1 : Int32) a0 h else b_Mo_count_15 F a0 i1 (0 : Int32) a0 h)
theorem g_Mo_count_0 {l : Launch} {E : ET} {d : Nat} (hd : 4 ≤ d) {F : Nat} {r : Int32} {h9 : PH} {x : Nat}  (a0 : Nat) (i1 : Int32) (h : PH) (hf : f_Mo_count F a0 i1 h = some (r, h9)) : Go l E m_Mo_count (rm d 0 0) (KM E 0 0 (PoE (some (.int r)) h9 x)) 0 0 h x 0 [(0, .ref a0), (1, .int i1)] [] := by
  unfold f_Mo_count at hf
  refine go_aload_n 0 d_Mo_count_0 rfl ?_
  refine go_iload_n 1 d_Mo_count_1 rfl ?_
  refine go_iconst (0 : Int32) d_Mo_count_2 (by decide) ?_
  refine go_iconst (5 : Int32) d_Mo_count_3 (by decide) ?_
  obtain ⟨x1, e_x1, hf⟩ := bnd_x hf
  refine go_callS_I (As := [.int i1, .int (0 : Int32), .int (5 : Int32)]) (st := [.ref a0]) (c_Mo_in (d := d - 1) (by omega) e_x1) lk_Mo_62 rfl rfl (rm_ok (by omega)) (Nat.le_of_ble_eq_true rfl) rm_c d_Mo_count_4 ?_
  refine go_if_eq 14 d_Mo_count_7 (by decide) (fun q2 => ?_) (fun q2 => ?_)
  · rw [if_pos q2] at hf
    refine go_iconst (1 : Int32) d_Mo_count_14 (by decide) ?_
    refine go_sub (lv' := [(0, .ref a0), (1, .int i1)]) [0, 1] rfl ?_
    exact g_Mo_count_15 hd  a0 i1 (1 : Int32) a0 h hf
  · rw [if_neg q2] at hf
    refine go_iconst (0 : Int32) d_Mo_count_10 (by decide) ?_
    refine go_goto 15 d_Mo_count_11 (by decide) ?_
    refine go_sub (lv' := [(0, .ref a0), (1, .int i1)]) [0, 1] rfl ?_
    exact g_Mo_count_15 hd  a0 i1 (0 : Int32) a0 h hf
theorem c_Mo_count {l : Launch} {E : ET} {d : Nat} (hd : 4 ≤ d) {F : Nat} {r : Int32} {h9 : PH} {x : Nat} {a0 : Nat} {i1 : Int32} {h : PH} (hf : f_Mo_count F a0 i1 h = some (r, h9)) : Fn l E m_Mo_count d 0 0 [.ref a0, .int i1] h x (PoE (some (.int r)) h9 x) :=
  Fn.of (by decide +kernel) (Nat.le_of_ble_eq_true rfl) (g_Mo_count_0 hd a0 i1 h hf)
theorem d_Mo_candidates_0 : decode prog_13_method_64_code 0 = .ok (.aload_n 0, 1) := by decide +kernel
theorem d_Mo_candidates_1 : decode prog_13_method_64_code 1 = .ok (.iload_n 1, 1) := by decide +kernel
theorem d_Mo_candidates_2 : decode prog_13_method_64_code 2 = .ok (.invokestatic 214, 3) := by decide +kernel
theorem d_Mo_candidates_5 : decode prog_13_method_64_code 5 = .ok (.ifCond .eq 7, 3) := by decide +kernel
theorem d_Mo_candidates_8 : decode prog_13_method_64_code 8 = .ok (.iconst 0, 1) := by decide +kernel
theorem d_Mo_candidates_9 : decode prog_13_method_64_code 9 = .ok (.goto 4, 3) := by decide +kernel
theorem d_Mo_candidates_12 : decode prog_13_method_64_code 12 = .ok (.iconst 1, 1) := by decide +kernel
theorem d_Mo_candidates_13 : decode prog_13_method_64_code 13 = .ok (.putfield 52, 3) := by decide +kernel
theorem d_Mo_candidates_16 : decode prog_13_method_64_code 16 = .ok (.aload_n 0, 1) := by decide +kernel
theorem d_Mo_candidates_17 : decode prog_13_method_64_code 17 = .ok (.getfield 52, 3) := by decide +kernel
theorem d_Mo_candidates_20 : decode prog_13_method_64_code 20 = .ok (.ifCond .eq 7, 3) := by decide +kernel
theorem d_Mo_candidates_23 : decode prog_13_method_64_code 23 = .ok (.iconst 0, 1) := by decide +kernel
theorem d_Mo_candidates_24 : decode prog_13_method_64_code 24 = .ok (.goto 9, 3) := by decide +kernel
theorem d_Mo_candidates_27 : decode prog_13_method_64_code 27 = .ok (.aload_n 0, 1) := by decide +kernel
theorem d_Mo_candidates_28 : decode prog_13_method_64_code 28 = .ok (.getfield 7, 3) := by decide +kernel
theorem d_Mo_candidates_31 : decode prog_13_method_64_code 31 = .ok (.iload_n 1, 1) := by decide +kernel
theorem d_Mo_candidates_32 : decode prog_13_method_64_code 32 = .ok (.iaload, 1) := by decide +kernel
theorem d_Mo_candidates_33 : decode prog_13_method_64_code 33 = .ok (.ireturn, 1) := by decide +kernel
def b_Mo_candidates_13 (a0 : Nat) (i1 : Int32) (s0 : Int32) (s1 : Nat) (h : PH) : Option (Int32 × PH) :=
  bnd (pV h s1 10 5 (.int s0)) fun h1 => bnd (gI h1 a0 10 5) fun x2 => (if x2 = (0 : Int32) then bnd (gR h1 a0 10 0) fun x3 => bnd (aI h1 x3 i1) fun x4 => some (x4, h1) else some ((0 : Int32), h1))
theorem g_Mo_candidates_13 {l : Launch} {E : ET} {d : Nat} (hd : 3 ≤ d) {r : Int32} {h9 : PH} {x : Nat}  (a0 : Nat) (i1 : Int32) (s0 : Int32) (s1 : Nat) (h : PH) (hf : b_Mo_candidates_13 a0 i1 s0 s1 h = some (r, h9)) : Go l E m_Mo_candidates (rm d 0 0) (KM E 0 0 (PoE (some (.int r)) h9 x)) 0 0 h x 13 [(0, .ref a0), (1, .int i1)] [.int s0, .ref s1] := by
  unfold b_Mo_candidates_13 at hf
  obtain ⟨h1, e_h1, hf⟩ := bnd_x hf
  refine go_putI d_Mo_candidates_13 e_h1 fl_Mo_52 rfl rfl ?_
  refine go_aload_n 0 d_Mo_candidates_16 rfl ?_
  obtain ⟨x2, e_x2, hf⟩ := bnd_x hf
  refine go_get d_Mo_candidates_17 (gI_x e_x2) fl_Mo_52 ?_
  refine go_if_eq 27 d_Mo_candidates_20 (by decide) (fun q5 => ?_) (fun q5 => ?_)
  · rw [if_pos q5] at hf
    refine go_aload_n 0 d_Mo_candidates_27 rfl ?_
    obtain ⟨x3, e_x3, hf⟩ := bnd_x hf
    refine go_get d_Mo_candidates_28 (gR_x e_x3) fl_Mo_7 ?_
    refine go_iload_n 1 d_Mo_candidates_31 rfl ?_
    obtain ⟨x4, e_x4, hf⟩ := bnd_x hf
    refine go_iaload d_Mo_candidates_32 e_x4 ?_
    obtain ⟨e8, e9⟩ := Prod.mk.inj (Option.some.inj hf)
    subst e8; subst e9
    exact go_iret d_Mo_candidates_33 rfl ⟨rfl, rfl, rfl⟩
  · rw [if_neg q5] at hf
    refine go_iconst (0 : Int32) d_Mo_candidates_23 (by decide) ?_
    refine go_goto 33 d_Mo_candidates_24 (by decide) ?_
    obtain ⟨e8, e9⟩ := Prod.mk.inj (Option.some.inj hf)
    subst e8; subst e9
    exact go_iret d_Mo_candidates_33 rfl ⟨rfl, rfl, rfl⟩
def f_Mo_candidates (a0 : Nat) (i1 : Int32) (h : PH) : Option (Int32 × PH) :=
  bnd (f_Mo_isCell i1) fun x1 => (if x1 = (0 : Int32) then b_Mo_candidates_13 a0 i1 (1 : Int32) a0 h else b_Mo_candidates_13 a0 i1 (0 : Int32) a0 h)
theorem g_Mo_candidates_0 {l : Launch} {E : ET} {d : Nat} (hd : 3 ≤ d) {r : Int32} {h9 : PH} {x : Nat}  (a0 : Nat) (i1 : Int32) (h : PH) (hf : f_Mo_candidates a0 i1 h = some (r, h9)) : Go l E m_Mo_candidates (rm d 0 0) (KM E 0 0 (PoE (some (.int r)) h9 x)) 0 0 h x 0 [(0, .ref a0), (1, .int i1)] [] := by
  unfold f_Mo_candidates at hf
  refine go_aload_n 0 d_Mo_candidates_0 rfl ?_
  refine go_iload_n 1 d_Mo_candidates_1 rfl ?_
  obtain ⟨x1, e_x1, hf⟩ := bnd_x hf
  refine go_callS_I (As := [.int i1]) (st := [.ref a0]) (c_Mo_isCell (d := d - 1) (by omega) e_x1) lk_Mo_214 rfl rfl (rm_ok (by omega)) (Nat.le_of_ble_eq_true rfl) rm_c d_Mo_candidates_2 ?_
  refine go_if_eq 12 d_Mo_candidates_5 (by decide) (fun q2 => ?_) (fun q2 => ?_)
  · rw [if_pos q2] at hf
    refine go_iconst (1 : Int32) d_Mo_candidates_12 (by decide) ?_
    refine go_sub (lv' := [(0, .ref a0), (1, .int i1)]) [0, 1] rfl ?_
    exact g_Mo_candidates_13 hd  a0 i1 (1 : Int32) a0 h hf
  · rw [if_neg q2] at hf
    refine go_iconst (0 : Int32) d_Mo_candidates_8 (by decide) ?_
    refine go_goto 13 d_Mo_candidates_9 (by decide) ?_
    refine go_sub (lv' := [(0, .ref a0), (1, .int i1)]) [0, 1] rfl ?_
    exact g_Mo_candidates_13 hd  a0 i1 (0 : Int32) a0 h hf
theorem c_Mo_candidates {l : Launch} {E : ET} {d : Nat} (hd : 3 ≤ d) {r : Int32} {h9 : PH} {x : Nat} {a0 : Nat} {i1 : Int32} {h : PH} (hf : f_Mo_candidates a0 i1 h = some (r, h9)) : Fn l E m_Mo_candidates d 0 0 [.ref a0, .int i1] h x (PoE (some (.int r)) h9 x) :=
  Fn.of (by decide +kernel) (Nat.le_of_ble_eq_true rfl) (g_Mo_candidates_0 hd a0 i1 h hf)
theorem d_Mo_valueOf_0 : decode prog_13_method_65_code 0 = .ok (.iload_n 2, 1) := by decide +kernel
theorem d_Mo_valueOf_1 : decode prog_13_method_65_code 1 = .ok (.iconst 1, 1) := by decide +kernel
theorem d_Mo_valueOf_2 : decode prog_13_method_65_code 2 = .ok (.if_icmp .ne 13, 3) := by decide +kernel
theorem d_Mo_valueOf_5 : decode prog_13_method_65_code 5 = .ok (.aload_n 0, 1) := by decide +kernel
theorem d_Mo_valueOf_6 : decode prog_13_method_65_code 6 = .ok (.getfield 7, 3) := by decide +kernel
theorem d_Mo_valueOf_9 : decode prog_13_method_65_code 9 = .ok (.bipush 72, 2) := by decide +kernel
theorem d_Mo_valueOf_11 : decode prog_13_method_65_code 11 = .ok (.iload_n 1, 1) := by decide +kernel
theorem d_Mo_valueOf_12 : decode prog_13_method_65_code 12 = .ok (.iadd, 1) := by decide +kernel
theorem d_Mo_valueOf_13 : decode prog_13_method_65_code 13 = .ok (.iaload, 1) := by decide +kernel
theorem d_Mo_valueOf_14 : decode prog_13_method_65_code 14 = .ok (.ireturn, 1) := by decide +kernel
theorem d_Mo_valueOf_15 : decode prog_13_method_65_code 15 = .ok (.iload_n 2, 1) := by decide +kernel
theorem d_Mo_valueOf_16 : decode prog_13_method_65_code 16 = .ok (.ifCond .ne 39, 3) := by decide +kernel
theorem d_Mo_valueOf_19 : decode prog_13_method_65_code 19 = .ok (.aload_n 0, 1) := by decide +kernel
theorem d_Mo_valueOf_20 : decode prog_13_method_65_code 20 = .ok (.getfield 7, 3) := by decide +kernel
theorem d_Mo_valueOf_23 : decode prog_13_method_65_code 23 = .ok (.bipush 36, 2) := by decide +kernel
theorem d_Mo_valueOf_25 : decode prog_13_method_65_code 25 = .ok (.iload_n 1, 1) := by decide +kernel
theorem d_Mo_valueOf_26 : decode prog_13_method_65_code 26 = .ok (.iadd, 1) := by decide +kernel
theorem d_Mo_valueOf_27 : decode prog_13_method_65_code 27 = .ok (.iaload, 1) := by decide +kernel
theorem d_Mo_valueOf_28 : decode prog_13_method_65_code 28 = .ok (.iconst 1, 1) := by decide +kernel
theorem d_Mo_valueOf_29 : decode prog_13_method_65_code 29 = .ok (.if_icmp .ne 24, 3) := by decide +kernel
theorem d_Mo_valueOf_32 : decode prog_13_method_65_code 32 = .ok (.aload_n 0, 1) := by decide +kernel
theorem d_Mo_valueOf_33 : decode prog_13_method_65_code 33 = .ok (.getfield 7, 3) := by decide +kernel
theorem d_Mo_valueOf_36 : decode prog_13_method_65_code 36 = .ok (.iload_n 1, 1) := by decide +kernel
theorem d_Mo_valueOf_37 : decode prog_13_method_65_code 37 = .ok (.iaload, 1) := by decide +kernel
theorem d_Mo_valueOf_38 : decode prog_13_method_65_code 38 = .ok (.ifCond .le 15, 3) := by decide +kernel
theorem d_Mo_valueOf_41 : decode prog_13_method_65_code 41 = .ok (.aload_n 0, 1) := by decide +kernel
theorem d_Mo_valueOf_42 : decode prog_13_method_65_code 42 = .ok (.getfield 7, 3) := by decide +kernel
theorem d_Mo_valueOf_45 : decode prog_13_method_65_code 45 = .ok (.iload_n 1, 1) := by decide +kernel
theorem d_Mo_valueOf_46 : decode prog_13_method_65_code 46 = .ok (.iaload, 1) := by decide +kernel
theorem d_Mo_valueOf_47 : decode prog_13_method_65_code 47 = .ok (.invokestatic 114, 3) := by decide +kernel
theorem d_Mo_valueOf_50 : decode prog_13_method_65_code 50 = .ok (.goto 4, 3) := by decide +kernel
theorem d_Mo_valueOf_53 : decode prog_13_method_65_code 53 = .ok (.iconst 0, 1) := by decide +kernel
theorem d_Mo_valueOf_54 : decode prog_13_method_65_code 54 = .ok (.ireturn, 1) := by decide +kernel
theorem d_Mo_valueOf_55 : decode prog_13_method_65_code 55 = .ok (.iconst 0, 1) := by decide +kernel
theorem d_Mo_valueOf_56 : decode prog_13_method_65_code 56 = .ok (.istore_n 3, 1) := by decide +kernel
theorem d_Mo_valueOf_57 : decode prog_13_method_65_code 57 = .ok (.iconst 0, 1) := by decide +kernel
theorem d_Mo_valueOf_58 : decode prog_13_method_65_code 58 = .ok (.istore 4, 2) := by decide +kernel
theorem d_Mo_valueOf_60 : decode prog_13_method_65_code 60 = .ok (.iload 4, 2) := by decide +kernel
theorem d_Mo_valueOf_62 : decode prog_13_method_65_code 62 = .ok (.bipush 36, 2) := by decide +kernel
theorem d_Mo_valueOf_64 : decode prog_13_method_65_code 64 = .ok (.if_icmp .ge 27, 3) := by decide +kernel
theorem d_Mo_valueOf_67 : decode prog_13_method_65_code 67 = .ok (.iload_n 3, 1) := by decide +kernel
theorem d_Mo_valueOf_68 : decode prog_13_method_65_code 68 = .ok (.aload_n 0, 1) := by decide +kernel
theorem d_Mo_valueOf_69 : decode prog_13_method_65_code 69 = .ok (.iload_n 1, 1) := by decide +kernel
theorem d_Mo_valueOf_70 : decode prog_13_method_65_code 70 = .ok (.iload 4, 2) := by decide +kernel
theorem d_Mo_valueOf_72 : decode prog_13_method_65_code 72 = .ok (.invokevirtual 104, 3) := by decide +kernel
theorem d_Mo_valueOf_75 : decode prog_13_method_65_code 75 = .ok (.ifCond .eq 7, 3) := by decide +kernel
theorem d_Mo_valueOf_78 : decode prog_13_method_65_code 78 = .ok (.iconst 1, 1) := by decide +kernel
theorem d_Mo_valueOf_79 : decode prog_13_method_65_code 79 = .ok (.goto 4, 3) := by decide +kernel
theorem d_Mo_valueOf_82 : decode prog_13_method_65_code 82 = .ok (.iconst 0, 1) := by decide +kernel
theorem d_Mo_valueOf_83 : decode prog_13_method_65_code 83 = .ok (.iadd, 1) := by decide +kernel
theorem d_Mo_valueOf_84 : decode prog_13_method_65_code 84 = .ok (.istore_n 3, 1) := by decide +kernel
theorem d_Mo_valueOf_85 : decode prog_13_method_65_code 85 = .ok (.iinc 4 1, 3) := by decide +kernel
theorem d_Mo_valueOf_88 : decode prog_13_method_65_code 88 = .ok (.goto (-28), 3) := by decide +kernel
theorem d_Mo_valueOf_91 : decode prog_13_method_65_code 91 = .ok (.iload_n 3, 1) := by decide +kernel
theorem d_Mo_valueOf_92 : decode prog_13_method_65_code 92 = .ok (.ireturn, 1) := by decide +kernel
def b_Mo_valueOf_83 (F : Nat) (k60 : Nat → Int32 → Int32 → Int32 → PH → Option Int32) (a0 : Nat) (i1 : Int32) (i4 : Int32) (s0 : Int32) (s1 : Int32) (h : PH) : Option Int32 :=
  k60 a0 i1 (s1 + s0) (i4 + (1 : Int32)) h
theorem g_Mo_valueOf_83 {l : Launch} {E : ET} {d : Nat} (hd : 4 ≤ d) {F : Nat} {r : Int32} {h : PH} {x : Nat} {k60 : Nat → Int32 → Int32 → Int32 → PH → Option Int32} (hk60 : ∀ (a0 : Nat) (i1 : Int32) (i3 : Int32) (i4 : Int32), k60 a0 i1 i3 i4 h = some r → Go l E m_Mo_valueOf (rm d 0 0) (KM E 0 0 (PoE (some (.int r)) h x)) 0 0 h x 60 [(0, .ref a0), (1, .int i1), (3, .int i3), (4, .int i4)] []) (a0 : Nat) (i1 : Int32) (i4 : Int32) (s0 : Int32) (s1 : Int32) (hf : b_Mo_valueOf_83 F k60 a0 i1 i4 s0 s1 h = some r) : Go l E m_Mo_valueOf (rm d 0 0) (KM E 0 0 (PoE (some (.int r)) h x)) 0 0 h x 83 [(0, .ref a0), (1, .int i1), (4, .int i4)] [.int s0, .int s1] := by
  unfold b_Mo_valueOf_83 at hf
  refine go_iadd d_Mo_valueOf_83 ?_
  refine go_istore_n (lv' := [(3, .int (s1 + s0)), (0, .ref a0), (1, .int i1), (4, .int i4)]) d_Mo_valueOf_84 rfl (by decide) ?_
  refine go_iinc (lv' := [(4, .int (i4 + (1 : Int32))), (3, .int (s1 + s0)), (0, .ref a0), (1, .int i1)]) 3 (i4 + (1 : Int32)) d_Mo_valueOf_85 rfl rfl rfl (by decide) ?_
  refine go_goto 60 d_Mo_valueOf_88 (by decide) ?_
  refine go_sub (lv' := [(0, .ref a0), (1, .int i1), (3, .int (s1 + s0)), (4, .int (i4 + (1 : Int32)))]) [2, 3, 1, 0] rfl ?_
  exact hk60 a0 i1 (s1 + s0) (i4 + (1 : Int32)) hf
def b_Mo_valueOf_60 (F : Nat) (k60 : Nat → Int32 → Int32 → Int32 → PH → Option Int32) (a0 : Nat) (i1 : Int32) (i3 : Int32) (i4 : Int32) (h : PH) : Option Int32 :=
  (if (36 : Int32) ≤ i4 then some i3 else bnd (cK h a0 10) fun _ => bnd (f_Mo_arePeers F a0 i1 i4 h) fun x2 => (if x2 = (0 : Int32) then b_Mo_valueOf_83 F k60 a0 i1 i4 (0 : Int32) i3 h else b_Mo_valueOf_83 F k60 a0 i1 i4 (1 : Int32) i3 h))
def f_Mo_valueOf_60 (F : Nat) : Nat → Nat → Int32 → Int32 → Int32 → PH → Option Int32
  | 0 => fun _ _ _ _ _ => none
  | n + 1 => b_Mo_valueOf_60 F (f_Mo_valueOf_60 F n)
theorem g_Mo_valueOf_60 {l : Launch} {E : ET} {d : Nat} (hd : 4 ≤ d) {F : Nat} {r : Int32} {h : PH} {x : Nat} {k60 : Nat → Int32 → Int32 → Int32 → PH → Option Int32} (hk60 : ∀ (a0 : Nat) (i1 : Int32) (i3 : Int32) (i4 : Int32), k60 a0 i1 i3 i4 h = some r → Go l E m_Mo_valueOf (rm d 0 0) (KM E 0 0 (PoE (some (.int r)) h x)) 0 0 h x 60 [(0, .ref a0), (1, .int i1), (3, .int i3), (4, .int i4)] []) (a0 : Nat) (i1 : Int32) (i3 : Int32) (i4 : Int32) (hf : b_Mo_valueOf_60 F k60 a0 i1 i3 i4 h = some r) : Go l E m_Mo_valueOf (rm d 0 0) (KM E 0 0 (PoE (some (.int r)) h x)) 0 0 h x 60 [(0, .ref a0), (1, .int i1), (3, .int i3), (4, .int i4)] [] := by
  unfold b_Mo_valueOf_60 at hf
  refine go_iload 3 d_Mo_valueOf_60 rfl ?_
  refine go_bipush (36 : Int32) d_Mo_valueOf_62 (by decide) ?_
  refine go_icmp_ge 91 d_Mo_valueOf_64 (by decide) (fun q4 => ?_) (fun q4 => ?_)
  · rw [if_pos q4] at hf
    refine go_iload_n 2 d_Mo_valueOf_91 rfl ?_
    have e9 := Option.some.inj hf
    subst e9
    exact go_iret d_Mo_valueOf_92 rfl ⟨rfl, rfl, rfl⟩
  · rw [if_neg q4] at hf
    refine go_iload_n 2 d_Mo_valueOf_67 rfl ?_
    refine go_aload_n 0 d_Mo_valueOf_68 rfl ?_
    refine go_iload_n 1 d_Mo_valueOf_69 rfl ?_
    refine go_iload 3 d_Mo_valueOf_70 rfl ?_
    obtain ⟨_, e1, hf⟩ := bnd_x hf
    obtain ⟨x2, e_x2, hf⟩ := bnd_x hf
    refine go_callV_I (As := [.int i1, .int i4]) (st := [.int i3]) (c_Mo_arePeers (d := d - 1) (by omega) e_x2) lk_Mo_104 rfl rfl e1 (by decide) rfl (rm_ok (by omega)) (Nat.le_of_ble_eq_true rfl) rm_c d_Mo_valueOf_72 ?_
    refine go_if_eq 82 d_Mo_valueOf_75 (by decide) (fun q3 => ?_) (fun q3 => ?_)
    · rw [if_pos q3] at hf
      refine go_iconst (0 : Int32) d_Mo_valueOf_82 (by decide) ?_
      refine go_sub (lv' := [(0, .ref a0), (1, .int i1), (4, .int i4)]) [0, 1, 3] rfl ?_
      exact g_Mo_valueOf_83 hd hk60 a0 i1 i4 (0 : Int32) i3  hf
    · rw [if_neg q3] at hf
      refine go_iconst (1 : Int32) d_Mo_valueOf_78 (by decide) ?_
      refine go_goto 83 d_Mo_valueOf_79 (by decide) ?_
      refine go_sub (lv' := [(0, .ref a0), (1, .int i1), (4, .int i4)]) [0, 1, 3] rfl ?_
      exact g_Mo_valueOf_83 hd hk60 a0 i1 i4 (1 : Int32) i3  hf
theorem t_Mo_valueOf_60 {l : Launch} {E : ET} {d : Nat} (hd : 4 ≤ d) {F : Nat} {r : Int32} {h : PH} {x : Nat}  : ∀ (n : Nat) (a0 : Nat) (i1 : Int32) (i3 : Int32) (i4 : Int32), f_Mo_valueOf_60 F n a0 i1 i3 i4 h = some r → Go l E m_Mo_valueOf (rm d 0 0) (KM E 0 0 (PoE (some (.int r)) h x)) 0 0 h x 60 [(0, .ref a0), (1, .int i1), (3, .int i3), (4, .int i4)] [] := by
  intro n
  induction n with
  | zero => intro v0 v1 v2 v3 hf; cases hf
  | succ n ih => intro v0 v1 v2 v3 hf; exact g_Mo_valueOf_60 hd ih v0 v1 v2 v3 hf
def f_Mo_valueOf (F : Nat) (a0 : Nat) (i1 : Int32) (i2 : Int32) (h : PH) : Option Int32 :=
  (if i2 = (1 : Int32) then bnd (gR h a0 10 0) fun x11 => bnd (aI h x11 ((72 : Int32) + i1)) fun x12 => some x12 else (if i2 = (0 : Int32) then bnd (gR h a0 10 0) fun x1 => bnd (aI h x1 ((36 : Int32) + i1)) fun x2 => (if x2 = (1 : Int32) then bnd (gR h a0 10 0) fun x3 => bnd (aI h x3 i1) fun x4 => (if x4 ≤ (0 : Int32) then some (0 : Int32) else bnd (gR h a0 10 0) fun x5 => bnd (aI h x5 i1) fun x6 => bnd (f_Mo_least F x6) fun x7 => some x7) else some (0 : Int32)) else f_Mo_valueOf_60 F F a0 i1 (0 : Int32) (0 : Int32) h))
theorem g_Mo_valueOf_0 {l : Launch} {E : ET} {d : Nat} (hd : 4 ≤ d) {F : Nat} {r : Int32} {h : PH} {x : Nat}  (a0 : Nat) (i1 : Int32) (i2 : Int32) (hf : f_Mo_valueOf F a0 i1 i2 h = some r) : Go l E m_Mo_valueOf (rm d 0 0) (KM E 0 0 (PoE (some (.int r)) h x)) 0 0 h x 0 [(0, .ref a0), (1, .int i1), (2, .int i2)] [] := by
  unfold f_Mo_valueOf at hf
  refine go_iload_n 2 d_Mo_valueOf_0 rfl ?_
  refine go_iconst (1 : Int32) d_Mo_valueOf_1 (by decide) ?_
  refine go_icmp_ne 15 d_Mo_valueOf_2 (by decide) (fun q13 => ?_) (fun q13 => ?_)
  · rw [if_neg q13] at hf
    refine go_iload_n 2 d_Mo_valueOf_15 rfl ?_
    refine go_if_ne 55 d_Mo_valueOf_16 (by decide) (fun q10 => ?_) (fun q10 => ?_)
    · rw [if_neg q10] at hf
      refine go_iconst (0 : Int32) d_Mo_valueOf_55 (by decide) ?_
      refine go_istore_n (lv' := [(3, .int (0 : Int32)), (0, .ref a0), (1, .int i1), (2, .int i2)]) d_Mo_valueOf_56 rfl (by decide) ?_
      refine go_iconst (0 : Int32) d_Mo_valueOf_57 (by decide) ?_
      refine go_istore (lv' := [(4, .int (0 : Int32)), (3, .int (0 : Int32)), (0, .ref a0), (1, .int i1), (2, .int i2)]) d_Mo_valueOf_58 rfl (by decide) ?_
      refine go_sub (lv' := [(0, .ref a0), (1, .int i1), (3, .int (0 : Int32)), (4, .int (0 : Int32))]) [2, 3, 1, 0] rfl ?_
      exact t_Mo_valueOf_60 hd  _ a0 i1 (0 : Int32) (0 : Int32)  hf
    · rw [if_pos q10] at hf
      refine go_aload_n 0 d_Mo_valueOf_19 rfl ?_
      obtain ⟨x1, e_x1, hf⟩ := bnd_x hf
      refine go_get d_Mo_valueOf_20 (gR_x e_x1) fl_Mo_7 ?_
      refine go_bipush (36 : Int32) d_Mo_valueOf_23 (by decide) ?_
      refine go_iload_n 1 d_Mo_valueOf_25 rfl ?_
      refine go_iadd d_Mo_valueOf_26 ?_
      obtain ⟨x2, e_x2, hf⟩ := bnd_x hf
      refine go_iaload d_Mo_valueOf_27 e_x2 ?_
      refine go_iconst (1 : Int32) d_Mo_valueOf_28 (by decide) ?_
      refine go_icmp_ne 53 d_Mo_valueOf_29 (by decide) (fun q9 => ?_) (fun q9 => ?_)
      · rw [if_neg q9] at hf
        refine go_iconst (0 : Int32) d_Mo_valueOf_53 (by decide) ?_
        have e9 := Option.some.inj hf
        subst e9
        exact go_iret d_Mo_valueOf_54 rfl ⟨rfl, rfl, rfl⟩
      · rw [if_pos q9] at hf
        refine go_aload_n 0 d_Mo_valueOf_32 rfl ?_
        obtain ⟨x3, e_x3, hf⟩ := bnd_x hf
        refine go_get d_Mo_valueOf_33 (gR_x e_x3) fl_Mo_7 ?_
        refine go_iload_n 1 d_Mo_valueOf_36 rfl ?_
        obtain ⟨x4, e_x4, hf⟩ := bnd_x hf
        refine go_iaload d_Mo_valueOf_37 e_x4 ?_
        refine go_if_le 53 d_Mo_valueOf_38 (by decide) (fun q8 => ?_) (fun q8 => ?_)
        · rw [if_pos q8] at hf
          refine go_iconst (0 : Int32) d_Mo_valueOf_53 (by decide) ?_
          have e9 := Option.some.inj hf
          subst e9
          exact go_iret d_Mo_valueOf_54 rfl ⟨rfl, rfl, rfl⟩
        · rw [if_neg q8] at hf
          refine go_aload_n 0 d_Mo_valueOf_41 rfl ?_
          obtain ⟨x5, e_x5, hf⟩ := bnd_x hf
          refine go_get d_Mo_valueOf_42 (gR_x e_x5) fl_Mo_7 ?_
          refine go_iload_n 1 d_Mo_valueOf_45 rfl ?_
          obtain ⟨x6, e_x6, hf⟩ := bnd_x hf
          refine go_iaload d_Mo_valueOf_46 e_x6 ?_
          obtain ⟨x7, e_x7, hf⟩ := bnd_x hf
          refine go_callS_I (As := [.int x6]) (st := []) (c_Mo_least (d := d - 1) (by omega) e_x7) lk_Mo_114 rfl rfl (rm_ok (by omega)) (Nat.le_of_ble_eq_true rfl) rm_c d_Mo_valueOf_47 ?_
          refine go_goto 54 d_Mo_valueOf_50 (by decide) ?_
          have e9 := Option.some.inj hf
          subst e9
          exact go_iret d_Mo_valueOf_54 rfl ⟨rfl, rfl, rfl⟩
  · rw [if_pos q13] at hf
    refine go_aload_n 0 d_Mo_valueOf_5 rfl ?_
    obtain ⟨x11, e_x11, hf⟩ := bnd_x hf
    refine go_get d_Mo_valueOf_6 (gR_x e_x11) fl_Mo_7 ?_
    refine go_bipush (72 : Int32) d_Mo_valueOf_9 (by decide) ?_
    refine go_iload_n 1 d_Mo_valueOf_11 rfl ?_
    refine go_iadd d_Mo_valueOf_12 ?_
    obtain ⟨x12, e_x12, hf⟩ := bnd_x hf
    refine go_iaload d_Mo_valueOf_13 e_x12 ?_
    have e9 := Option.some.inj hf
    subst e9
    exact go_iret d_Mo_valueOf_14 rfl ⟨rfl, rfl, rfl⟩
theorem c_Mo_valueOf {l : Launch} {E : ET} {d : Nat} (hd : 4 ≤ d) {F : Nat} {r : Int32} {h : PH} {x : Nat} {a0 : Nat} {i1 : Int32} {i2 : Int32} (hf : f_Mo_valueOf F a0 i1 i2 h = some r) : Fn l E m_Mo_valueOf d 0 0 [.ref a0, .int i1, .int i2] h x (PoE (some (.int r)) h x) :=
  Fn.of (by decide +kernel) (Nat.le_of_ble_eq_true rfl) (g_Mo_valueOf_0 hd a0 i1 i2 hf)
theorem d_Mo_cell_0 : decode prog_13_method_66_code 0 = .ok (.aload_n 0, 1) := by decide +kernel
theorem d_Mo_cell_1 : decode prog_13_method_66_code 1 = .ok (.iload_n 1, 1) := by decide +kernel
theorem d_Mo_cell_2 : decode prog_13_method_66_code 2 = .ok (.invokestatic 214, 3) := by decide +kernel
theorem d_Mo_cell_5 : decode prog_13_method_66_code 5 = .ok (.ifCond .ne 7, 3) := by decide +kernel
theorem d_Mo_cell_8 : decode prog_13_method_66_code 8 = .ok (.iconst 1, 1) := by decide +kernel
theorem d_Mo_cell_9 : decode prog_13_method_66_code 9 = .ok (.goto 17, 3) := by decide +kernel
theorem d_Mo_cell_12 : decode prog_13_method_66_code 12 = .ok (.iload_n 2, 1) := by decide +kernel
theorem d_Mo_cell_13 : decode prog_13_method_66_code 13 = .ok (.iconst 0, 1) := by decide +kernel
theorem d_Mo_cell_14 : decode prog_13_method_66_code 14 = .ok (.iconst 2, 1) := by decide +kernel
theorem d_Mo_cell_15 : decode prog_13_method_66_code 15 = .ok (.invokestatic 62, 3) := by decide +kernel
theorem d_Mo_cell_18 : decode prog_13_method_66_code 18 = .ok (.ifCond .ne 7, 3) := by decide +kernel
theorem d_Mo_cell_21 : decode prog_13_method_66_code 21 = .ok (.iconst 2, 1) := by decide +kernel
theorem d_Mo_cell_22 : decode prog_13_method_66_code 22 = .ok (.goto 4, 3) := by decide +kernel
theorem d_Mo_cell_25 : decode prog_13_method_66_code 25 = .ok (.iconst 0, 1) := by decide +kernel
theorem d_Mo_cell_26 : decode prog_13_method_66_code 26 = .ok (.putfield 52, 3) := by decide +kernel
theorem d_Mo_cell_29 : decode prog_13_method_66_code 29 = .ok (.aload_n 0, 1) := by decide +kernel
theorem d_Mo_cell_30 : decode prog_13_method_66_code 30 = .ok (.getfield 52, 3) := by decide +kernel
theorem d_Mo_cell_33 : decode prog_13_method_66_code 33 = .ok (.ifCond .eq 7, 3) := by decide +kernel
theorem d_Mo_cell_36 : decode prog_13_method_66_code 36 = .ok (.iconst 0, 1) := by decide +kernel
theorem d_Mo_cell_37 : decode prog_13_method_66_code 37 = .ok (.goto 9, 3) := by decide +kernel
theorem d_Mo_cell_40 : decode prog_13_method_66_code 40 = .ok (.aload_n 0, 1) := by decide +kernel
theorem d_Mo_cell_41 : decode prog_13_method_66_code 41 = .ok (.iload_n 1, 1) := by decide +kernel
theorem d_Mo_cell_42 : decode prog_13_method_66_code 42 = .ok (.iload_n 2, 1) := by decide +kernel
theorem d_Mo_cell_43 : decode prog_13_method_66_code 43 = .ok (.invokevirtual 255, 3) := by decide +kernel
theorem d_Mo_cell_46 : decode prog_13_method_66_code 46 = .ok (.ireturn, 1) := by decide +kernel
def b_Mo_cell_26 (F : Nat) (a0 : Nat) (i1 : Int32) (i2 : Int32) (s0 : Int32) (s1 : Nat) (h : PH) : Option (Int32 × PH) :=
  bnd (pV h s1 10 5 (.int s0)) fun h1 => bnd (gI h1 a0 10 5) fun x2 => (if x2 = (0 : Int32) then bnd (cK h1 a0 10) fun _ => bnd (f_Mo_valueOf F a0 i1 i2 h1) fun x4 => some (x4, h1) else some ((0 : Int32), h1))
theorem g_Mo_cell_26 {l : Launch} {E : ET} {d : Nat} (hd : 5 ≤ d) {F : Nat} {r : Int32} {h9 : PH} {x : Nat}  (a0 : Nat) (i1 : Int32) (i2 : Int32) (s0 : Int32) (s1 : Nat) (h : PH) (hf : b_Mo_cell_26 F a0 i1 i2 s0 s1 h = some (r, h9)) : Go l E m_Mo_cell (rm d 0 0) (KM E 0 0 (PoE (some (.int r)) h9 x)) 0 0 h x 26 [(0, .ref a0), (1, .int i1), (2, .int i2)] [.int s0, .ref s1] := by
  unfold b_Mo_cell_26 at hf
  obtain ⟨h1, e_h1, hf⟩ := bnd_x hf
  refine go_putI d_Mo_cell_26 e_h1 fl_Mo_52 rfl rfl ?_
  refine go_aload_n 0 d_Mo_cell_29 rfl ?_
  obtain ⟨x2, e_x2, hf⟩ := bnd_x hf
  refine go_get d_Mo_cell_30 (gI_x e_x2) fl_Mo_52 ?_
  refine go_if_eq 40 d_Mo_cell_33 (by decide) (fun q5 => ?_) (fun q5 => ?_)
  · rw [if_pos q5] at hf
    refine go_aload_n 0 d_Mo_cell_40 rfl ?_
    refine go_iload_n 1 d_Mo_cell_41 rfl ?_
    refine go_iload_n 2 d_Mo_cell_42 rfl ?_
    obtain ⟨_, e3, hf⟩ := bnd_x hf
    obtain ⟨x4, e_x4, hf⟩ := bnd_x hf
    refine go_callV_I (As := [.int i1, .int i2]) (st := []) (c_Mo_valueOf (d := d - 1) (by omega) e_x4) lk_Mo_255 rfl rfl e3 (by decide) rfl (rm_ok (by omega)) (Nat.le_of_ble_eq_true rfl) rm_c d_Mo_cell_43 ?_
    obtain ⟨e8, e9⟩ := Prod.mk.inj (Option.some.inj hf)
    subst e8; subst e9
    exact go_iret d_Mo_cell_46 rfl ⟨rfl, rfl, rfl⟩
  · rw [if_neg q5] at hf
    refine go_iconst (0 : Int32) d_Mo_cell_36 (by decide) ?_
    refine go_goto 46 d_Mo_cell_37 (by decide) ?_
    obtain ⟨e8, e9⟩ := Prod.mk.inj (Option.some.inj hf)
    subst e8; subst e9
    exact go_iret d_Mo_cell_46 rfl ⟨rfl, rfl, rfl⟩
def f_Mo_cell (F : Nat) (a0 : Nat) (i1 : Int32) (i2 : Int32) (h : PH) : Option (Int32 × PH) :=
  bnd (f_Mo_isCell i1) fun x1 => (if x1 = (0 : Int32) then b_Mo_cell_26 F a0 i1 i2 (1 : Int32) a0 h else bnd (f_Mo_in i2 (0 : Int32) (2 : Int32)) fun x2 => (if x2 = (0 : Int32) then b_Mo_cell_26 F a0 i1 i2 (2 : Int32) a0 h else b_Mo_cell_26 F a0 i1 i2 (0 : Int32) a0 h))
theorem g_Mo_cell_0 {l : Launch} {E : ET} {d : Nat} (hd : 5 ≤ d) {F : Nat} {r : Int32} {h9 : PH} {x : Nat}  (a0 : Nat) (i1 : Int32) (i2 : Int32) (h : PH) (hf : f_Mo_cell F a0 i1 i2 h = some (r, h9)) : Go l E m_Mo_cell (rm d 0 0) (KM E 0 0 (PoE (some (.int r)) h9 x)) 0 0 h x 0 [(0, .ref a0), (1, .int i1), (2, .int i2)] [] := by
  unfold f_Mo_cell at hf
  refine go_aload_n 0 d_Mo_cell_0 rfl ?_
  refine go_iload_n 1 d_Mo_cell_1 rfl ?_
  obtain ⟨x1, e_x1, hf⟩ := bnd_x hf
  refine go_callS_I (As := [.int i1]) (st := [.ref a0]) (c_Mo_isCell (d := d - 1) (by omega) e_x1) lk_Mo_214 rfl rfl (rm_ok (by omega)) (Nat.le_of_ble_eq_true rfl) rm_c d_Mo_cell_2 ?_
  refine go_if_ne 12 d_Mo_cell_5 (by decide) (fun q4 => ?_) (fun q4 => ?_)
  · rw [if_neg q4] at hf
    refine go_iload_n 2 d_Mo_cell_12 rfl ?_
    refine go_iconst (0 : Int32) d_Mo_cell_13 (by decide) ?_
    refine go_iconst (2 : Int32) d_Mo_cell_14 (by decide) ?_
    obtain ⟨x2, e_x2, hf⟩ := bnd_x hf
    refine go_callS_I (As := [.int i2, .int (0 : Int32), .int (2 : Int32)]) (st := [.ref a0]) (c_Mo_in (d := d - 1) (by omega) e_x2) lk_Mo_62 rfl rfl (rm_ok (by omega)) (Nat.le_of_ble_eq_true rfl) rm_c d_Mo_cell_15 ?_
    refine go_if_ne 25 d_Mo_cell_18 (by decide) (fun q3 => ?_) (fun q3 => ?_)
    · rw [if_neg q3] at hf
      refine go_iconst (0 : Int32) d_Mo_cell_25 (by decide) ?_
      refine go_sub (lv' := [(0, .ref a0), (1, .int i1), (2, .int i2)]) [0, 1, 2] rfl ?_
      exact g_Mo_cell_26 hd  a0 i1 i2 (0 : Int32) a0 h hf
    · rw [if_pos q3] at hf
      refine go_iconst (2 : Int32) d_Mo_cell_21 (by decide) ?_
      refine go_goto 26 d_Mo_cell_22 (by decide) ?_
      refine go_sub (lv' := [(0, .ref a0), (1, .int i1), (2, .int i2)]) [0, 1, 2] rfl ?_
      exact g_Mo_cell_26 hd  a0 i1 i2 (2 : Int32) a0 h hf
  · rw [if_pos q4] at hf
    refine go_iconst (1 : Int32) d_Mo_cell_8 (by decide) ?_
    refine go_goto 26 d_Mo_cell_9 (by decide) ?_
    refine go_sub (lv' := [(0, .ref a0), (1, .int i1), (2, .int i2)]) [0, 1, 2] rfl ?_
    exact g_Mo_cell_26 hd  a0 i1 i2 (1 : Int32) a0 h hf
theorem c_Mo_cell {l : Launch} {E : ET} {d : Nat} (hd : 5 ≤ d) {F : Nat} {r : Int32} {h9 : PH} {x : Nat} {a0 : Nat} {i1 : Int32} {i2 : Int32} {h : PH} (hf : f_Mo_cell F a0 i1 i2 h = some (r, h9)) : Fn l E m_Mo_cell d 0 0 [.ref a0, .int i1, .int i2] h x (PoE (some (.int r)) h9 x) :=
  Fn.of (by decide +kernel) (Nat.le_of_ble_eq_true rfl) (g_Mo_cell_0 hd a0 i1 i2 h hf)
theorem d_Mo_notes_0 : decode prog_13_method_67_code 0 = .ok (.aload_n 0, 1) := by decide +kernel
theorem d_Mo_notes_1 : decode prog_13_method_67_code 1 = .ok (.getfield 7, 3) := by decide +kernel
theorem d_Mo_notes_4 : decode prog_13_method_67_code 4 = .ok (.sipush 181, 3) := by decide +kernel
theorem d_Mo_notes_7 : decode prog_13_method_67_code 7 = .ok (.iaload, 1) := by decide +kernel
theorem d_Mo_notes_8 : decode prog_13_method_67_code 8 = .ok (.bipush 100, 2) := by decide +kernel
theorem d_Mo_notes_10 : decode prog_13_method_67_code 10 = .ok (.if_icmp .ne 46, 3) := by decide +kernel
theorem d_Mo_notes_13 : decode prog_13_method_67_code 13 = .ok (.sipush 182, 3) := by decide +kernel
theorem d_Mo_notes_16 : decode prog_13_method_67_code 16 = .ok (.istore_n 1, 1) := by decide +kernel
theorem d_Mo_notes_17 : decode prog_13_method_67_code 17 = .ok (.iload_n 1, 1) := by decide +kernel
theorem d_Mo_notes_18 : decode prog_13_method_67_code 18 = .ok (.sipush 479, 3) := by decide +kernel
theorem d_Mo_notes_21 : decode prog_13_method_67_code 21 = .ok (.if_icmp .ge 23, 3) := by decide +kernel
theorem d_Mo_notes_24 : decode prog_13_method_67_code 24 = .ok (.aload_n 0, 1) := by decide +kernel
theorem d_Mo_notes_25 : decode prog_13_method_67_code 25 = .ok (.getfield 7, 3) := by decide +kernel
theorem d_Mo_notes_28 : decode prog_13_method_67_code 28 = .ok (.iload_n 1, 1) := by decide +kernel
theorem d_Mo_notes_29 : decode prog_13_method_67_code 29 = .ok (.aload_n 0, 1) := by decide +kernel
theorem d_Mo_notes_30 : decode prog_13_method_67_code 30 = .ok (.getfield 7, 3) := by decide +kernel
theorem d_Mo_notes_33 : decode prog_13_method_67_code 33 = .ok (.iload_n 1, 1) := by decide +kernel
theorem d_Mo_notes_34 : decode prog_13_method_67_code 34 = .ok (.iconst 3, 1) := by decide +kernel
theorem d_Mo_notes_35 : decode prog_13_method_67_code 35 = .ok (.iadd, 1) := by decide +kernel
theorem d_Mo_notes_36 : decode prog_13_method_67_code 36 = .ok (.iaload, 1) := by decide +kernel
theorem d_Mo_notes_37 : decode prog_13_method_67_code 37 = .ok (.iastore, 1) := by decide +kernel
theorem d_Mo_notes_38 : decode prog_13_method_67_code 38 = .ok (.iinc 1 1, 3) := by decide +kernel
theorem d_Mo_notes_41 : decode prog_13_method_67_code 41 = .ok (.goto (-24), 3) := by decide +kernel
theorem d_Mo_notes_44 : decode prog_13_method_67_code 44 = .ok (.aload_n 0, 1) := by decide +kernel
theorem d_Mo_notes_45 : decode prog_13_method_67_code 45 = .ok (.getfield 7, 3) := by decide +kernel
theorem d_Mo_notes_48 : decode prog_13_method_67_code 48 = .ok (.sipush 181, 3) := by decide +kernel
theorem d_Mo_notes_51 : decode prog_13_method_67_code 51 = .ok (.dup2, 1) := by decide +kernel
theorem d_Mo_notes_52 : decode prog_13_method_67_code 52 = .ok (.iaload, 1) := by decide +kernel
theorem d_Mo_notes_53 : decode prog_13_method_67_code 53 = .ok (.iconst 1, 1) := by decide +kernel
theorem d_Mo_notes_54 : decode prog_13_method_67_code 54 = .ok (.isub, 1) := by decide +kernel
theorem d_Mo_notes_55 : decode prog_13_method_67_code 55 = .ok (.iastore, 1) := by decide +kernel
theorem d_Mo_notes_56 : decode prog_13_method_67_code 56 = .ok (.sipush 182, 3) := by decide +kernel
theorem d_Mo_notes_59 : decode prog_13_method_67_code 59 = .ok (.iconst 3, 1) := by decide +kernel
theorem d_Mo_notes_60 : decode prog_13_method_67_code 60 = .ok (.aload_n 0, 1) := by decide +kernel
theorem d_Mo_notes_61 : decode prog_13_method_67_code 61 = .ok (.getfield 7, 3) := by decide +kernel
theorem d_Mo_notes_64 : decode prog_13_method_67_code 64 = .ok (.sipush 181, 3) := by decide +kernel
theorem d_Mo_notes_67 : decode prog_13_method_67_code 67 = .ok (.iaload, 1) := by decide +kernel
theorem d_Mo_notes_68 : decode prog_13_method_67_code 68 = .ok (.imul, 1) := by decide +kernel
theorem d_Mo_notes_69 : decode prog_13_method_67_code 69 = .ok (.iadd, 1) := by decide +kernel
theorem d_Mo_notes_70 : decode prog_13_method_67_code 70 = .ok (.istore_n 1, 1) := by decide +kernel
theorem d_Mo_notes_71 : decode prog_13_method_67_code 71 = .ok (.aload_n 0, 1) := by decide +kernel
theorem d_Mo_notes_72 : decode prog_13_method_67_code 72 = .ok (.getfield 7, 3) := by decide +kernel
theorem d_Mo_notes_75 : decode prog_13_method_67_code 75 = .ok (.iload_n 1, 1) := by decide +kernel
theorem d_Mo_notes_76 : decode prog_13_method_67_code 76 = .ok (.aload_n 0, 1) := by decide +kernel
theorem d_Mo_notes_77 : decode prog_13_method_67_code 77 = .ok (.getfield 154, 3) := by decide +kernel
theorem d_Mo_notes_80 : decode prog_13_method_67_code 80 = .ok (.iastore, 1) := by decide +kernel
theorem d_Mo_notes_81 : decode prog_13_method_67_code 81 = .ok (.aload_n 0, 1) := by decide +kernel
theorem d_Mo_notes_82 : decode prog_13_method_67_code 82 = .ok (.getfield 7, 3) := by decide +kernel
theorem d_Mo_notes_85 : decode prog_13_method_67_code 85 = .ok (.iload_n 1, 1) := by decide +kernel
theorem d_Mo_notes_86 : decode prog_13_method_67_code 86 = .ok (.iconst 1, 1) := by decide +kernel
theorem d_Mo_notes_87 : decode prog_13_method_67_code 87 = .ok (.iadd, 1) := by decide +kernel
theorem d_Mo_notes_88 : decode prog_13_method_67_code 88 = .ok (.aload_n 0, 1) := by decide +kernel
theorem d_Mo_notes_89 : decode prog_13_method_67_code 89 = .ok (.getfield 101, 3) := by decide +kernel
theorem d_Mo_notes_92 : decode prog_13_method_67_code 92 = .ok (.iastore, 1) := by decide +kernel
theorem d_Mo_notes_93 : decode prog_13_method_67_code 93 = .ok (.aload_n 0, 1) := by decide +kernel
theorem d_Mo_notes_94 : decode prog_13_method_67_code 94 = .ok (.getfield 7, 3) := by decide +kernel
theorem d_Mo_notes_97 : decode prog_13_method_67_code 97 = .ok (.iload_n 1, 1) := by decide +kernel
theorem d_Mo_notes_98 : decode prog_13_method_67_code 98 = .ok (.iconst 2, 1) := by decide +kernel
theorem d_Mo_notes_99 : decode prog_13_method_67_code 99 = .ok (.iadd, 1) := by decide +kernel
theorem d_Mo_notes_100 : decode prog_13_method_67_code 100 = .ok (.aload_n 0, 1) := by decide +kernel
theorem d_Mo_notes_101 : decode prog_13_method_67_code 101 = .ok (.getfield 95, 3) := by decide +kernel
theorem d_Mo_notes_104 : decode prog_13_method_67_code 104 = .ok (.iastore, 1) := by decide +kernel
theorem d_Mo_notes_105 : decode prog_13_method_67_code 105 = .ok (.aload_n 0, 1) := by decide +kernel
theorem d_Mo_notes_106 : decode prog_13_method_67_code 106 = .ok (.getfield 7, 3) := by decide +kernel
theorem d_Mo_notes_109 : decode prog_13_method_67_code 109 = .ok (.sipush 181, 3) := by decide +kernel
theorem d_Mo_notes_112 : decode prog_13_method_67_code 112 = .ok (.dup2, 1) := by decide +kernel
theorem d_Mo_notes_113 : decode prog_13_method_67_code 113 = .ok (.iaload, 1) := by decide +kernel
theorem d_Mo_notes_114 : decode prog_13_method_67_code 114 = .ok (.iconst 1, 1) := by decide +kernel
theorem d_Mo_notes_115 : decode prog_13_method_67_code 115 = .ok (.iadd, 1) := by decide +kernel
theorem d_Mo_notes_116 : decode prog_13_method_67_code 116 = .ok (.iastore, 1) := by decide +kernel
theorem d_Mo_notes_117 : decode prog_13_method_67_code 117 = .ok (.return_, 1) := by decide +kernel
def b_Mo_notes_56 (F : Nat) (a0 : Nat) (h : PH) : Option PH :=
  bnd (gR h a0 10 0) fun x1 => bnd (aI h x1 (181 : Int32)) fun x2 => bnd (some ((182 : Int32) + ((3 : Int32) * x2))) fun y3 => bnd (gR h a0 10 0) fun x4 => bnd (gI h a0 10 6) fun x5 => bnd (sI h x4 y3 x5) fun h6 => bnd (gR h6 a0 10 0) fun x7 => bnd (gI h6 a0 10 7) fun x8 => bnd (sI h6 x7 (y3 + (1 : Int32)) x8) fun h9 => bnd (gR h9 a0 10 0) fun x10 => bnd (gI h9 a0 10 8) fun x11 => bnd (sI h9 x10 (y3 + (2 : Int32)) x11) fun h12 => bnd (gR h12 a0 10 0) fun x13 => bnd (aI h12 x13 (181 : Int32)) fun x14 => bnd (sI h12 x13 (181 : Int32) (x14 + (1 : Int32))) fun h15 => some h15
theorem g_Mo_notes_56 {l : Launch} {E : ET} {d : Nat} (hd : 1 ≤ d) {F : Nat} {h9 : PH} {x : Nat}  (a0 : Nat) (h : PH) (hf : b_Mo_notes_56 F a0 h = some h9) : Go l E m_Mo_notes (rm d 0 0) (KM E 0 0 (PoE none h9 x)) 0 0 h x 56 [(0, .ref a0)] [] := by
  unfold b_Mo_notes_56 at hf
  refine go_sipush (182 : Int32) d_Mo_notes_56 (by decide) ?_
  refine go_iconst (3 : Int32) d_Mo_notes_59 (by decide) ?_
  refine go_aload_n 0 d_Mo_notes_60 rfl ?_
  obtain ⟨x1, e_x1, hf⟩ := bnd_x hf
  refine go_get d_Mo_notes_61 (gR_x e_x1) fl_Mo_7 ?_
  refine go_sipush (181 : Int32) d_Mo_notes_64 (by decide) ?_
  obtain ⟨x2, e_x2, hf⟩ := bnd_x hf
  refine go_iaload d_Mo_notes_67 e_x2 ?_
  refine go_imul d_Mo_notes_68 ?_
  refine go_iadd d_Mo_notes_69 ?_
  obtain ⟨y3, e_y3, hf⟩ := bnd_x hf
  refine go_nmI e_y3 ?_
  refine go_istore_n (lv' := [(1, .int y3), (0, .ref a0)]) d_Mo_notes_70 rfl (by decide) ?_
  refine go_aload_n 1 d_Mo_notes_71 rfl ?_
  obtain ⟨x4, e_x4, hf⟩ := bnd_x hf
  refine go_get d_Mo_notes_72 (gR_x e_x4) fl_Mo_7 ?_
  refine go_iload_n 0 d_Mo_notes_75 rfl ?_
  refine go_aload_n 1 d_Mo_notes_76 rfl ?_
  obtain ⟨x5, e_x5, hf⟩ := bnd_x hf
  refine go_get d_Mo_notes_77 (gI_x e_x5) fl_Mo_154 ?_
  obtain ⟨h6, e_h6, hf⟩ := bnd_x hf
  refine go_iastore d_Mo_notes_80 e_h6 ?_
  refine go_aload_n 1 d_Mo_notes_81 rfl ?_
  obtain ⟨x7, e_x7, hf⟩ := bnd_x hf
  refine go_get d_Mo_notes_82 (gR_x e_x7) fl_Mo_7 ?_
  refine go_iload_n 0 d_Mo_notes_85 rfl ?_
  refine go_iconst (1 : Int32) d_Mo_notes_86 (by decide) ?_
  refine go_iadd d_Mo_notes_87 ?_
  refine go_aload_n 1 d_Mo_notes_88 rfl ?_
  obtain ⟨x8, e_x8, hf⟩ := bnd_x hf
  refine go_get d_Mo_notes_89 (gI_x e_x8) fl_Mo_101 ?_
  obtain ⟨h9, e_h9, hf⟩ := bnd_x hf
  refine go_iastore d_Mo_notes_92 e_h9 ?_
  refine go_aload_n 1 d_Mo_notes_93 rfl ?_
  obtain ⟨x10, e_x10, hf⟩ := bnd_x hf
  refine go_get d_Mo_notes_94 (gR_x e_x10) fl_Mo_7 ?_
  refine go_iload_n 0 d_Mo_notes_97 rfl ?_
  refine go_iconst (2 : Int32) d_Mo_notes_98 (by decide) ?_
  refine go_iadd d_Mo_notes_99 ?_
  refine go_aload_n 1 d_Mo_notes_100 rfl ?_
  obtain ⟨x11, e_x11, hf⟩ := bnd_x hf
  refine go_get d_Mo_notes_101 (gI_x e_x11) fl_Mo_95 ?_
  obtain ⟨h12, e_h12, hf⟩ := bnd_x hf
  refine go_iastore d_Mo_notes_104 e_h12 ?_
  refine go_aload_n 1 d_Mo_notes_105 rfl ?_
  obtain ⟨x13, e_x13, hf⟩ := bnd_x hf
  refine go_get d_Mo_notes_106 (gR_x e_x13) fl_Mo_7 ?_
  refine go_sipush (181 : Int32) d_Mo_notes_109 (by decide) ?_
  refine go_dup2 d_Mo_notes_112 rfl rfl ?_
  obtain ⟨x14, e_x14, hf⟩ := bnd_x hf
  refine go_iaload d_Mo_notes_113 e_x14 ?_
  refine go_iconst (1 : Int32) d_Mo_notes_114 (by decide) ?_
  refine go_iadd d_Mo_notes_115 ?_
  obtain ⟨h15, e_h15, hf⟩ := bnd_x hf
  refine go_iastore d_Mo_notes_116 e_h15 ?_
  have e9 := Option.some.inj hf
  subst e9
  exact go_vret d_Mo_notes_117 rfl ⟨rfl, rfl, rfl⟩
def b_Mo_notes_17 (F : Nat) (k17 : Nat → Int32 → PH → Option PH) (a0 : Nat) (i1 : Int32) (h : PH) : Option PH :=
  (if (479 : Int32) ≤ i1 then bnd (gR h a0 10 0) fun x1 => bnd (aI h x1 (181 : Int32)) fun x2 => bnd (sI h x1 (181 : Int32) (x2 - (1 : Int32))) fun h3 => b_Mo_notes_56 F a0 h3 else bnd (gR h a0 10 0) fun x4 => bnd (gR h a0 10 0) fun x5 => bnd (aI h x5 (i1 + (3 : Int32))) fun x6 => bnd (sI h x4 i1 x6) fun h7 => k17 a0 (i1 + (1 : Int32)) h7)
def f_Mo_notes_17 (F : Nat) : Nat → Nat → Int32 → PH → Option PH
  | 0 => fun _ _ _ => none
  | n + 1 => b_Mo_notes_17 F (f_Mo_notes_17 F n)
theorem g_Mo_notes_17 {l : Launch} {E : ET} {d : Nat} (hd : 1 ≤ d) {F : Nat} {h9 : PH} {x : Nat} {k17 : Nat → Int32 → PH → Option PH} (hk17 : ∀ (a0 : Nat) (i1 : Int32) (hh : PH), k17 a0 i1 hh = some h9 → Go l E m_Mo_notes (rm d 0 0) (KM E 0 0 (PoE none h9 x)) 0 0 hh x 17 [(0, .ref a0), (1, .int i1)] []) (a0 : Nat) (i1 : Int32) (h : PH) (hf : b_Mo_notes_17 F k17 a0 i1 h = some h9) : Go l E m_Mo_notes (rm d 0 0) (KM E 0 0 (PoE none h9 x)) 0 0 h x 17 [(0, .ref a0), (1, .int i1)] [] := by
  unfold b_Mo_notes_17 at hf
  refine go_iload_n 1 d_Mo_notes_17 rfl ?_
  refine go_sipush (479 : Int32) d_Mo_notes_18 (by decide) ?_
  refine go_icmp_ge 44 d_Mo_notes_21 (by decide) (fun q8 => ?_) (fun q8 => ?_)
  · rw [if_pos q8] at hf
    refine go_aload_n 0 d_Mo_notes_44 rfl ?_
    obtain ⟨x1, e_x1, hf⟩ := bnd_x hf
    refine go_get d_Mo_notes_45 (gR_x e_x1) fl_Mo_7 ?_
    refine go_sipush (181 : Int32) d_Mo_notes_48 (by decide) ?_
    refine go_dup2 d_Mo_notes_51 rfl rfl ?_
    obtain ⟨x2, e_x2, hf⟩ := bnd_x hf
    refine go_iaload d_Mo_notes_52 e_x2 ?_
    refine go_iconst (1 : Int32) d_Mo_notes_53 (by decide) ?_
    refine go_isub d_Mo_notes_54 ?_
    obtain ⟨h3, e_h3, hf⟩ := bnd_x hf
    refine go_iastore d_Mo_notes_55 e_h3 ?_
    refine go_sub (lv' := [(0, .ref a0)]) [0] rfl ?_
    exact g_Mo_notes_56 hd  a0 h3 hf
  · rw [if_neg q8] at hf
    refine go_aload_n 0 d_Mo_notes_24 rfl ?_
    obtain ⟨x4, e_x4, hf⟩ := bnd_x hf
    refine go_get d_Mo_notes_25 (gR_x e_x4) fl_Mo_7 ?_
    refine go_iload_n 1 d_Mo_notes_28 rfl ?_
    refine go_aload_n 0 d_Mo_notes_29 rfl ?_
    obtain ⟨x5, e_x5, hf⟩ := bnd_x hf
    refine go_get d_Mo_notes_30 (gR_x e_x5) fl_Mo_7 ?_
    refine go_iload_n 1 d_Mo_notes_33 rfl ?_
    refine go_iconst (3 : Int32) d_Mo_notes_34 (by decide) ?_
    refine go_iadd d_Mo_notes_35 ?_
    obtain ⟨x6, e_x6, hf⟩ := bnd_x hf
    refine go_iaload d_Mo_notes_36 e_x6 ?_
    obtain ⟨h7, e_h7, hf⟩ := bnd_x hf
    refine go_iastore d_Mo_notes_37 e_h7 ?_
    refine go_iinc (lv' := [(1, .int (i1 + (1 : Int32))), (0, .ref a0)]) 1 (i1 + (1 : Int32)) d_Mo_notes_38 rfl rfl rfl (by decide) ?_
    refine go_goto 17 d_Mo_notes_41 (by decide) ?_
    refine go_sub (lv' := [(0, .ref a0), (1, .int (i1 + (1 : Int32)))]) [1, 0] rfl ?_
    exact hk17 a0 (i1 + (1 : Int32)) h7 hf
theorem t_Mo_notes_17 {l : Launch} {E : ET} {d : Nat} (hd : 1 ≤ d) {F : Nat} {h9 : PH} {x : Nat}  : ∀ (n : Nat) (a0 : Nat) (i1 : Int32) (hh : PH), f_Mo_notes_17 F n a0 i1 hh = some h9 → Go l E m_Mo_notes (rm d 0 0) (KM E 0 0 (PoE none h9 x)) 0 0 hh x 17 [(0, .ref a0), (1, .int i1)] [] := by
  intro n
  induction n with
  | zero => intro v0 v1 v2 hf; cases hf
  | succ n ih => intro v0 v1 v2 hf; exact g_Mo_notes_17 hd ih v0 v1 v2 hf
def f_Mo_notes (F : Nat) (a0 : Nat) (h : PH) : Option PH :=
  bnd (gR h a0 10 0) fun x1 => bnd (aI h x1 (181 : Int32)) fun x2 => (if x2 = (100 : Int32) then f_Mo_notes_17 F F a0 (182 : Int32) h else b_Mo_notes_56 F a0 h)
theorem g_Mo_notes_0 {l : Launch} {E : ET} {d : Nat} (hd : 1 ≤ d) {F : Nat} {h9 : PH} {x : Nat}  (a0 : Nat) (h : PH) (hf : f_Mo_notes F a0 h = some h9) : Go l E m_Mo_notes (rm d 0 0) (KM E 0 0 (PoE none h9 x)) 0 0 h x 0 [(0, .ref a0)] [] := by
  unfold f_Mo_notes at hf
  refine go_aload_n 0 d_Mo_notes_0 rfl ?_
  obtain ⟨x1, e_x1, hf⟩ := bnd_x hf
  refine go_get d_Mo_notes_1 (gR_x e_x1) fl_Mo_7 ?_
  refine go_sipush (181 : Int32) d_Mo_notes_4 (by decide) ?_
  obtain ⟨x2, e_x2, hf⟩ := bnd_x hf
  refine go_iaload d_Mo_notes_7 e_x2 ?_
  refine go_bipush (100 : Int32) d_Mo_notes_8 (by decide) ?_
  refine go_icmp_ne 56 d_Mo_notes_10 (by decide) (fun q3 => ?_) (fun q3 => ?_)
  · rw [if_neg q3] at hf
    refine go_sub (lv' := [(0, .ref a0)]) [0] rfl ?_
    exact g_Mo_notes_56 hd  a0 h hf
  · rw [if_pos q3] at hf
    refine go_sipush (182 : Int32) d_Mo_notes_13 (by decide) ?_
    refine go_istore_n (lv' := [(1, .int (182 : Int32)), (0, .ref a0)]) d_Mo_notes_16 rfl (by decide) ?_
    refine go_sub (lv' := [(0, .ref a0), (1, .int (182 : Int32))]) [1, 0] rfl ?_
    exact t_Mo_notes_17 hd  _ a0 (182 : Int32) h hf
theorem c_Mo_notes {l : Launch} {E : ET} {d : Nat} (hd : 1 ≤ d) {F : Nat} {h9 : PH} {x : Nat} {a0 : Nat} {h : PH} (hf : f_Mo_notes F a0 h = some h9) : Fn l E m_Mo_notes d 0 0 [.ref a0] h x (PoE none h9 x) :=
  Fn.of (by decide +kernel) (Nat.le_of_ble_eq_true rfl) (g_Mo_notes_0 hd a0 h hf)
theorem d_Mo_deduce_0 : decode prog_13_method_68_code 0 = .ok (.aload_n 0, 1) := by decide +kernel
theorem d_Mo_deduce_1 : decode prog_13_method_68_code 1 = .ok (.iload_n 1, 1) := by decide +kernel
theorem d_Mo_deduce_2 : decode prog_13_method_68_code 2 = .ok (.iconst 0, 1) := by decide +kernel
theorem d_Mo_deduce_3 : decode prog_13_method_68_code 3 = .ok (.sipush 500, 3) := by decide +kernel
theorem d_Mo_deduce_6 : decode prog_13_method_68_code 6 = .ok (.invokestatic 62, 3) := by decide +kernel
theorem d_Mo_deduce_9 : decode prog_13_method_68_code 9 = .ok (.ifCond .eq 7, 3) := by decide +kernel
theorem d_Mo_deduce_12 : decode prog_13_method_68_code 12 = .ok (.iconst 0, 1) := by decide +kernel
theorem d_Mo_deduce_13 : decode prog_13_method_68_code 13 = .ok (.goto 4, 3) := by decide +kernel
theorem d_Mo_deduce_16 : decode prog_13_method_68_code 16 = .ok (.iconst 1, 1) := by decide +kernel
theorem d_Mo_deduce_17 : decode prog_13_method_68_code 17 = .ok (.putfield 52, 3) := by decide +kernel
theorem d_Mo_deduce_20 : decode prog_13_method_68_code 20 = .ok (.aload_n 0, 1) := by decide +kernel
theorem d_Mo_deduce_21 : decode prog_13_method_68_code 21 = .ok (.getfield 52, 3) := by decide +kernel
theorem d_Mo_deduce_24 : decode prog_13_method_68_code 24 = .ok (.ifCond .eq 5, 3) := by decide +kernel
theorem d_Mo_deduce_27 : decode prog_13_method_68_code 27 = .ok (.iconst 0, 1) := by decide +kernel
theorem d_Mo_deduce_28 : decode prog_13_method_68_code 28 = .ok (.ireturn, 1) := by decide +kernel
theorem d_Mo_deduce_29 : decode prog_13_method_68_code 29 = .ok (.aload_n 0, 1) := by decide +kernel
theorem d_Mo_deduce_30 : decode prog_13_method_68_code 30 = .ok (.invokevirtual 59, 3) := by decide +kernel
theorem d_Mo_deduce_33 : decode prog_13_method_68_code 33 = .ok (.iconst 0, 1) := by decide +kernel
theorem d_Mo_deduce_34 : decode prog_13_method_68_code 34 = .ok (.istore_n 2, 1) := by decide +kernel
theorem d_Mo_deduce_35 : decode prog_13_method_68_code 35 = .ok (.iload_n 2, 1) := by decide +kernel
theorem d_Mo_deduce_36 : decode prog_13_method_68_code 36 = .ok (.iload_n 1, 1) := by decide +kernel
theorem d_Mo_deduce_37 : decode prog_13_method_68_code 37 = .ok (.if_icmp .ge 24, 3) := by decide +kernel
theorem d_Mo_deduce_40 : decode prog_13_method_68_code 40 = .ok (.aload_n 0, 1) := by decide +kernel
theorem d_Mo_deduce_41 : decode prog_13_method_68_code 41 = .ok (.aload_n 0, 1) := by decide +kernel
theorem d_Mo_deduce_42 : decode prog_13_method_68_code 42 = .ok (.getfield 7, 3) := by decide +kernel
theorem d_Mo_deduce_45 : decode prog_13_method_68_code 45 = .ok (.invokevirtual 184, 3) := by decide +kernel
theorem d_Mo_deduce_48 : decode prog_13_method_68_code 48 = .ok (.ifCond .eq 13, 3) := by decide +kernel
theorem d_Mo_deduce_51 : decode prog_13_method_68_code 51 = .ok (.aload_n 0, 1) := by decide +kernel
theorem d_Mo_deduce_52 : decode prog_13_method_68_code 52 = .ok (.invokevirtual 258, 3) := by decide +kernel
theorem d_Mo_deduce_55 : decode prog_13_method_68_code 55 = .ok (.iinc 2 1, 3) := by decide +kernel
theorem d_Mo_deduce_58 : decode prog_13_method_68_code 58 = .ok (.goto (-23), 3) := by decide +kernel
theorem d_Mo_deduce_61 : decode prog_13_method_68_code 61 = .ok (.iload_n 2, 1) := by decide +kernel
theorem d_Mo_deduce_62 : decode prog_13_method_68_code 62 = .ok (.ireturn, 1) := by decide +kernel
def b_Mo_deduce_35 (F : Nat) (k35 : Nat → Int32 → Int32 → PH → Option (Int32 × PH)) (a0 : Nat) (i1 : Int32) (i2 : Int32) (h : PH) : Option (Int32 × PH) :=
  (if i1 ≤ i2 then some (i2, h) else bnd (gR h a0 10 0) fun x1 => bnd (cK h a0 10) fun _ => bnd2 (f_Mo_next F a0 x1 h) fun x3 h4 => (if x3 = (0 : Int32) then some (i2, h4) else bnd (cK h4 a0 10) fun _ => bnd (f_Mo_notes F a0 h4) fun h6 => k35 a0 i1 (i2 + (1 : Int32)) h6))
def f_Mo_deduce_35 (F : Nat) : Nat → Nat → Int32 → Int32 → PH → Option (Int32 × PH)
  | 0 => fun _ _ _ _ => none
  | n + 1 => b_Mo_deduce_35 F (f_Mo_deduce_35 F n)
theorem g_Mo_deduce_35 {l : Launch} {E : ET} {d : Nat} (hd : 7 ≤ d) {F : Nat} {r : Int32} {h9 : PH} {x : Nat} {k35 : Nat → Int32 → Int32 → PH → Option (Int32 × PH)} (hk35 : ∀ (a0 : Nat) (i1 : Int32) (i2 : Int32) (hh : PH), k35 a0 i1 i2 hh = some (r, h9) → Go l E m_Mo_deduce (rm d 0 0) (KM E 0 0 (PoE (some (.int r)) h9 x)) 0 0 hh x 35 [(0, .ref a0), (1, .int i1), (2, .int i2)] []) (a0 : Nat) (i1 : Int32) (i2 : Int32) (h : PH) (hf : b_Mo_deduce_35 F k35 a0 i1 i2 h = some (r, h9)) : Go l E m_Mo_deduce (rm d 0 0) (KM E 0 0 (PoE (some (.int r)) h9 x)) 0 0 h x 35 [(0, .ref a0), (1, .int i1), (2, .int i2)] [] := by
  unfold b_Mo_deduce_35 at hf
  refine go_iload_n 2 d_Mo_deduce_35 rfl ?_
  refine go_iload_n 1 d_Mo_deduce_36 rfl ?_
  refine go_icmp_ge 61 d_Mo_deduce_37 (by decide) (fun q8 => ?_) (fun q8 => ?_)
  · rw [if_pos q8] at hf
    refine go_iload_n 2 d_Mo_deduce_61 rfl ?_
    obtain ⟨e8, e9⟩ := Prod.mk.inj (Option.some.inj hf)
    subst e8; subst e9
    exact go_iret d_Mo_deduce_62 rfl ⟨rfl, rfl, rfl⟩
  · rw [if_neg q8] at hf
    refine go_aload_n 0 d_Mo_deduce_40 rfl ?_
    refine go_aload_n 0 d_Mo_deduce_41 rfl ?_
    obtain ⟨x1, e_x1, hf⟩ := bnd_x hf
    refine go_get d_Mo_deduce_42 (gR_x e_x1) fl_Mo_7 ?_
    obtain ⟨_, e2, hf⟩ := bnd_x hf
    obtain ⟨x3, h4, e_x3, hf⟩ := bnd2_x hf
    refine go_callV_I (As := [.ref x1]) (st := []) (c_Mo_next (d := d - 1) (by omega) e_x3) lk_Mo_184 rfl rfl e2 (by decide) rfl (rm_ok (by omega)) (Nat.le_of_ble_eq_true rfl) rm_c d_Mo_deduce_45 ?_
    refine go_if_eq 61 d_Mo_deduce_48 (by decide) (fun q7 => ?_) (fun q7 => ?_)
    · rw [if_pos q7] at hf
      refine go_iload_n 2 d_Mo_deduce_61 rfl ?_
      obtain ⟨e8, e9⟩ := Prod.mk.inj (Option.some.inj hf)
      subst e8; subst e9
      exact go_iret d_Mo_deduce_62 rfl ⟨rfl, rfl, rfl⟩
    · rw [if_neg q7] at hf
      refine go_aload_n 0 d_Mo_deduce_51 rfl ?_
      obtain ⟨_, e5, hf⟩ := bnd_x hf
      obtain ⟨h6, e_x6, hf⟩ := bnd_x hf
      refine go_callV_N (As := []) (st := []) (c_Mo_notes (d := d - 1) (by omega) e_x6) lk_Mo_258 rfl rfl e5 (by decide) rfl (rm_ok (by omega)) (Nat.le_of_ble_eq_true rfl) rm_c d_Mo_deduce_52 ?_
      refine go_iinc (lv' := [(2, .int (i2 + (1 : Int32))), (0, .ref a0), (1, .int i1)]) 2 (i2 + (1 : Int32)) d_Mo_deduce_55 rfl rfl rfl (by decide) ?_
      refine go_goto 35 d_Mo_deduce_58 (by decide) ?_
      refine go_sub (lv' := [(0, .ref a0), (1, .int i1), (2, .int (i2 + (1 : Int32)))]) [1, 2, 0] rfl ?_
      exact hk35 a0 i1 (i2 + (1 : Int32)) h6 hf
theorem t_Mo_deduce_35 {l : Launch} {E : ET} {d : Nat} (hd : 7 ≤ d) {F : Nat} {r : Int32} {h9 : PH} {x : Nat}  : ∀ (n : Nat) (a0 : Nat) (i1 : Int32) (i2 : Int32) (hh : PH), f_Mo_deduce_35 F n a0 i1 i2 hh = some (r, h9) → Go l E m_Mo_deduce (rm d 0 0) (KM E 0 0 (PoE (some (.int r)) h9 x)) 0 0 hh x 35 [(0, .ref a0), (1, .int i1), (2, .int i2)] [] := by
  intro n
  induction n with
  | zero => intro v0 v1 v2 v3 hf; cases hf
  | succ n ih => intro v0 v1 v2 v3 hf; exact g_Mo_deduce_35 hd ih v0 v1 v2 v3 hf
def b_Mo_deduce_17 (F : Nat) (a0 : Nat) (i1 : Int32) (s0 : Int32) (s1 : Nat) (h : PH) : Option (Int32 × PH) :=
  bnd (pV h s1 10 5 (.int s0)) fun h1 => bnd (gI h1 a0 10 5) fun x2 => (if x2 = (0 : Int32) then bnd (cK h1 a0 10) fun _ => bnd (f_Mo_keep F a0 h1) fun h4 => f_Mo_deduce_35 F F a0 i1 (0 : Int32) h4 else some ((0 : Int32), h1))
theorem g_Mo_deduce_17 {l : Launch} {E : ET} {d : Nat} (hd : 7 ≤ d) {F : Nat} {r : Int32} {h9 : PH} {x : Nat}  (a0 : Nat) (i1 : Int32) (s0 : Int32) (s1 : Nat) (h : PH) (hf : b_Mo_deduce_17 F a0 i1 s0 s1 h = some (r, h9)) : Go l E m_Mo_deduce (rm d 0 0) (KM E 0 0 (PoE (some (.int r)) h9 x)) 0 0 h x 17 [(0, .ref a0), (1, .int i1)] [.int s0, .ref s1] := by
  unfold b_Mo_deduce_17 at hf
  obtain ⟨h1, e_h1, hf⟩ := bnd_x hf
  refine go_putI d_Mo_deduce_17 e_h1 fl_Mo_52 rfl rfl ?_
  refine go_aload_n 0 d_Mo_deduce_20 rfl ?_
  obtain ⟨x2, e_x2, hf⟩ := bnd_x hf
  refine go_get d_Mo_deduce_21 (gI_x e_x2) fl_Mo_52 ?_
  refine go_if_eq 29 d_Mo_deduce_24 (by decide) (fun q5 => ?_) (fun q5 => ?_)
  · rw [if_pos q5] at hf
    refine go_aload_n 0 d_Mo_deduce_29 rfl ?_
    obtain ⟨_, e3, hf⟩ := bnd_x hf
    obtain ⟨h4, e_x4, hf⟩ := bnd_x hf
    refine go_callV_N (As := []) (st := []) (c_Mo_keep (d := d - 1) (by omega) e_x4) lk_Mo_59 rfl rfl e3 (by decide) rfl (rm_ok (by omega)) (Nat.le_of_ble_eq_true rfl) rm_c d_Mo_deduce_30 ?_
    refine go_iconst (0 : Int32) d_Mo_deduce_33 (by decide) ?_
    refine go_istore_n (lv' := [(2, .int (0 : Int32)), (0, .ref a0), (1, .int i1)]) d_Mo_deduce_34 rfl (by decide) ?_
    refine go_sub (lv' := [(0, .ref a0), (1, .int i1), (2, .int (0 : Int32))]) [1, 2, 0] rfl ?_
    exact t_Mo_deduce_35 hd  _ a0 i1 (0 : Int32) h4 hf
  · rw [if_neg q5] at hf
    refine go_iconst (0 : Int32) d_Mo_deduce_27 (by decide) ?_
    obtain ⟨e8, e9⟩ := Prod.mk.inj (Option.some.inj hf)
    subst e8; subst e9
    exact go_iret d_Mo_deduce_28 rfl ⟨rfl, rfl, rfl⟩
def f_Mo_deduce (F : Nat) (a0 : Nat) (i1 : Int32) (h : PH) : Option (Int32 × PH) :=
  bnd (f_Mo_in i1 (0 : Int32) (500 : Int32)) fun x1 => (if x1 = (0 : Int32) then b_Mo_deduce_17 F a0 i1 (1 : Int32) a0 h else b_Mo_deduce_17 F a0 i1 (0 : Int32) a0 h)
theorem g_Mo_deduce_0 {l : Launch} {E : ET} {d : Nat} (hd : 7 ≤ d) {F : Nat} {r : Int32} {h9 : PH} {x : Nat}  (a0 : Nat) (i1 : Int32) (h : PH) (hf : f_Mo_deduce F a0 i1 h = some (r, h9)) : Go l E m_Mo_deduce (rm d 0 0) (KM E 0 0 (PoE (some (.int r)) h9 x)) 0 0 h x 0 [(0, .ref a0), (1, .int i1)] [] := by
  unfold f_Mo_deduce at hf
  refine go_aload_n 0 d_Mo_deduce_0 rfl ?_
  refine go_iload_n 1 d_Mo_deduce_1 rfl ?_
  refine go_iconst (0 : Int32) d_Mo_deduce_2 (by decide) ?_
  refine go_sipush (500 : Int32) d_Mo_deduce_3 (by decide) ?_
  obtain ⟨x1, e_x1, hf⟩ := bnd_x hf
  refine go_callS_I (As := [.int i1, .int (0 : Int32), .int (500 : Int32)]) (st := [.ref a0]) (c_Mo_in (d := d - 1) (by omega) e_x1) lk_Mo_62 rfl rfl (rm_ok (by omega)) (Nat.le_of_ble_eq_true rfl) rm_c d_Mo_deduce_6 ?_
  refine go_if_eq 16 d_Mo_deduce_9 (by decide) (fun q2 => ?_) (fun q2 => ?_)
  · rw [if_pos q2] at hf
    refine go_iconst (1 : Int32) d_Mo_deduce_16 (by decide) ?_
    refine go_sub (lv' := [(0, .ref a0), (1, .int i1)]) [0, 1] rfl ?_
    exact g_Mo_deduce_17 hd  a0 i1 (1 : Int32) a0 h hf
  · rw [if_neg q2] at hf
    refine go_iconst (0 : Int32) d_Mo_deduce_12 (by decide) ?_
    refine go_goto 17 d_Mo_deduce_13 (by decide) ?_
    refine go_sub (lv' := [(0, .ref a0), (1, .int i1)]) [0, 1] rfl ?_
    exact g_Mo_deduce_17 hd  a0 i1 (0 : Int32) a0 h hf
theorem c_Mo_deduce {l : Launch} {E : ET} {d : Nat} (hd : 7 ≤ d) {F : Nat} {r : Int32} {h9 : PH} {x : Nat} {a0 : Nat} {i1 : Int32} {h : PH} (hf : f_Mo_deduce F a0 i1 h = some (r, h9)) : Fn l E m_Mo_deduce d 0 0 [.ref a0, .int i1] h x (PoE (some (.int r)) h9 x) :=
  Fn.of (by decide +kernel) (Nat.le_of_ble_eq_true rfl) (g_Mo_deduce_0 hd a0 i1 h hf)
theorem d_Mo_looks_0 : decode prog_13_method_69_code 0 = .ok (.aload_n 0, 1) := by decide +kernel
theorem d_Mo_looks_1 : decode prog_13_method_69_code 1 = .ok (.getfield 7, 3) := by decide +kernel
theorem d_Mo_looks_4 : decode prog_13_method_69_code 4 = .ok (.iconst 0, 1) := by decide +kernel
theorem d_Mo_looks_5 : decode prog_13_method_69_code 5 = .ok (.aload_n 0, 1) := by decide +kernel
theorem d_Mo_looks_6 : decode prog_13_method_69_code 6 = .ok (.getfield 25, 3) := by decide +kernel
theorem d_Mo_looks_9 : decode prog_13_method_69_code 9 = .ok (.iconst 0, 1) := by decide +kernel
theorem d_Mo_looks_10 : decode prog_13_method_69_code 10 = .ok (.invokestatic 197, 3) := by decide +kernel
theorem d_Mo_looks_13 : decode prog_13_method_69_code 13 = .ok (.aload_n 0, 1) := by decide +kernel
theorem d_Mo_looks_14 : decode prog_13_method_69_code 14 = .ok (.aload_n 0, 1) := by decide +kernel
theorem d_Mo_looks_15 : decode prog_13_method_69_code 15 = .ok (.getfield 25, 3) := by decide +kernel
theorem d_Mo_looks_18 : decode prog_13_method_69_code 18 = .ok (.invokevirtual 184, 3) := by decide +kernel
theorem d_Mo_looks_21 : decode prog_13_method_69_code 21 = .ok (.ireturn, 1) := by decide +kernel
def f_Mo_looks (F : Nat) (a0 : Nat) (h : PH) : Option (Int32 × PH) :=
  bnd (gR h a0 10 0) fun x1 => bnd (gR h a0 10 11) fun x2 => bnd (f_Mo_copyRow F x1 (0 : Int32) x2 (0 : Int32) h) fun h3 => bnd (gR h3 a0 10 11) fun x4 => bnd (cK h3 a0 10) fun _ => bnd2 (f_Mo_next F a0 x4 h3) fun x6 h7 => bnd (cZ x6) fun _ => some (x6, h7)
theorem g_Mo_looks_0 {l : Launch} {E : ET} {d : Nat} (hd : 7 ≤ d) {F : Nat} {r : Int32} {h9 : PH} {x : Nat}  (a0 : Nat) (h : PH) (hf : f_Mo_looks F a0 h = some (r, h9)) : Go l E m_Mo_looks (rm d 0 0) (KM E 0 0 (PoE (some (.int r)) h9 x)) 0 0 h x 0 [(0, .ref a0)] [] := by
  unfold f_Mo_looks at hf
  refine go_aload_n 0 d_Mo_looks_0 rfl ?_
  obtain ⟨x1, e_x1, hf⟩ := bnd_x hf
  refine go_get d_Mo_looks_1 (gR_x e_x1) fl_Mo_7 ?_
  refine go_iconst (0 : Int32) d_Mo_looks_4 (by decide) ?_
  refine go_aload_n 0 d_Mo_looks_5 rfl ?_
  obtain ⟨x2, e_x2, hf⟩ := bnd_x hf
  refine go_get d_Mo_looks_6 (gR_x e_x2) fl_Mo_25 ?_
  refine go_iconst (0 : Int32) d_Mo_looks_9 (by decide) ?_
  obtain ⟨h3, e_x3, hf⟩ := bnd_x hf
  refine go_callS_N (As := [.ref x1, .int (0 : Int32), .ref x2, .int (0 : Int32)]) (st := []) (c_Mo_copyRow (d := d - 1) (by omega) e_x3) lk_Mo_197 rfl rfl (rm_ok (by omega)) (Nat.le_of_ble_eq_true rfl) rm_c d_Mo_looks_10 ?_
  refine go_aload_n 0 d_Mo_looks_13 rfl ?_
  refine go_aload_n 0 d_Mo_looks_14 rfl ?_
  obtain ⟨x4, e_x4, hf⟩ := bnd_x hf
  refine go_get d_Mo_looks_15 (gR_x e_x4) fl_Mo_25 ?_
  obtain ⟨_, e5, hf⟩ := bnd_x hf
  obtain ⟨x6, h7, e_x6, hf⟩ := bnd2_x hf
  refine go_callV_I (As := [.ref x4]) (st := []) (c_Mo_next (d := d - 1) (by omega) e_x6) lk_Mo_184 rfl rfl e5 (by decide) rfl (rm_ok (by omega)) (Nat.le_of_ble_eq_true rfl) rm_c d_Mo_looks_18 ?_
  obtain ⟨_, e8, hf⟩ := bnd_x hf
  obtain ⟨e8, e9⟩ := Prod.mk.inj (Option.some.inj hf)
  subst e8; subst e9
  exact go_zret d_Mo_looks_21 e8 rfl ⟨rfl, rfl, rfl⟩
theorem c_Mo_looks {l : Launch} {E : ET} {d : Nat} (hd : 7 ≤ d) {F : Nat} {r : Int32} {h9 : PH} {x : Nat} {a0 : Nat} {h : PH} (hf : f_Mo_looks F a0 h = some (r, h9)) : Fn l E m_Mo_looks d 0 0 [.ref a0] h x (PoE (some (.int r)) h9 x) :=
  Fn.of (by decide +kernel) (Nat.le_of_ble_eq_true rfl) (g_Mo_looks_0 hd a0 h hf)
theorem d_Mo_hint_0 : decode prog_13_method_70_code 0 = .ok (.aload_n 0, 1) := by decide +kernel
theorem d_Mo_hint_1 : decode prog_13_method_70_code 1 = .ok (.iconst 0, 1) := by decide +kernel
theorem d_Mo_hint_2 : decode prog_13_method_70_code 2 = .ok (.putfield 52, 3) := by decide +kernel
theorem d_Mo_hint_5 : decode prog_13_method_70_code 5 = .ok (.aload_n 0, 1) := by decide +kernel
theorem d_Mo_hint_6 : decode prog_13_method_70_code 6 = .ok (.invokevirtual 261, 3) := by decide +kernel
theorem d_Mo_hint_9 : decode prog_13_method_70_code 9 = .ok (.ifCond .eq 10, 3) := by decide +kernel
theorem d_Mo_hint_12 : decode prog_13_method_70_code 12 = .ok (.aload_n 0, 1) := by decide +kernel
theorem d_Mo_hint_13 : decode prog_13_method_70_code 13 = .ok (.getfield 154, 3) := by decide +kernel
theorem d_Mo_hint_16 : decode prog_13_method_70_code 16 = .ok (.goto 4, 3) := by decide +kernel
theorem d_Mo_hint_19 : decode prog_13_method_70_code 19 = .ok (.iconst 0, 1) := by decide +kernel
theorem d_Mo_hint_20 : decode prog_13_method_70_code 20 = .ok (.ireturn, 1) := by decide +kernel
def f_Mo_hint (F : Nat) (a0 : Nat) (h : PH) : Option (Int32 × PH) :=
  bnd (pV h a0 10 5 (.int (0 : Int32))) fun h1 => bnd (cK h1 a0 10) fun _ => bnd2 (f_Mo_looks F a0 h1) fun x3 h4 => (if x3 = (0 : Int32) then some ((0 : Int32), h4) else bnd (gI h4 a0 10 6) fun x5 => some (x5, h4))
theorem g_Mo_hint_0 {l : Launch} {E : ET} {d : Nat} (hd : 8 ≤ d) {F : Nat} {r : Int32} {h9 : PH} {x : Nat}  (a0 : Nat) (h : PH) (hf : f_Mo_hint F a0 h = some (r, h9)) : Go l E m_Mo_hint (rm d 0 0) (KM E 0 0 (PoE (some (.int r)) h9 x)) 0 0 h x 0 [(0, .ref a0)] [] := by
  unfold f_Mo_hint at hf
  refine go_aload_n 0 d_Mo_hint_0 rfl ?_
  refine go_iconst (0 : Int32) d_Mo_hint_1 (by decide) ?_
  obtain ⟨h1, e_h1, hf⟩ := bnd_x hf
  refine go_putI d_Mo_hint_2 e_h1 fl_Mo_52 rfl rfl ?_
  refine go_aload_n 0 d_Mo_hint_5 rfl ?_
  obtain ⟨_, e2, hf⟩ := bnd_x hf
  obtain ⟨x3, h4, e_x3, hf⟩ := bnd2_x hf
  refine go_callV_I (As := []) (st := []) (c_Mo_looks (d := d - 1) (by omega) e_x3) lk_Mo_261 rfl rfl e2 (by decide) rfl (rm_ok (by omega)) (Nat.le_of_ble_eq_true rfl) rm_c d_Mo_hint_6 ?_
  refine go_if_eq 19 d_Mo_hint_9 (by decide) (fun q6 => ?_) (fun q6 => ?_)
  · rw [if_pos q6] at hf
    refine go_iconst (0 : Int32) d_Mo_hint_19 (by decide) ?_
    obtain ⟨e8, e9⟩ := Prod.mk.inj (Option.some.inj hf)
    subst e8; subst e9
    exact go_iret d_Mo_hint_20 rfl ⟨rfl, rfl, rfl⟩
  · rw [if_neg q6] at hf
    refine go_aload_n 0 d_Mo_hint_12 rfl ?_
    obtain ⟨x5, e_x5, hf⟩ := bnd_x hf
    refine go_get d_Mo_hint_13 (gI_x e_x5) fl_Mo_154 ?_
    refine go_goto 20 d_Mo_hint_16 (by decide) ?_
    obtain ⟨e8, e9⟩ := Prod.mk.inj (Option.some.inj hf)
    subst e8; subst e9
    exact go_iret d_Mo_hint_20 rfl ⟨rfl, rfl, rfl⟩
theorem c_Mo_hint {l : Launch} {E : ET} {d : Nat} (hd : 8 ≤ d) {F : Nat} {r : Int32} {h9 : PH} {x : Nat} {a0 : Nat} {h : PH} (hf : f_Mo_hint F a0 h = some (r, h9)) : Fn l E m_Mo_hint d 0 0 [.ref a0] h x (PoE (some (.int r)) h9 x) :=
  Fn.of (by decide +kernel) (Nat.le_of_ble_eq_true rfl) (g_Mo_hint_0 hd a0 h hf)
theorem d_Mo_hintPlace_0 : decode prog_13_method_71_code 0 = .ok (.aload_n 0, 1) := by decide +kernel
theorem d_Mo_hintPlace_1 : decode prog_13_method_71_code 1 = .ok (.iconst 0, 1) := by decide +kernel
theorem d_Mo_hintPlace_2 : decode prog_13_method_71_code 2 = .ok (.putfield 52, 3) := by decide +kernel
theorem d_Mo_hintPlace_5 : decode prog_13_method_71_code 5 = .ok (.aload_n 0, 1) := by decide +kernel
theorem d_Mo_hintPlace_6 : decode prog_13_method_71_code 6 = .ok (.invokevirtual 261, 3) := by decide +kernel
theorem d_Mo_hintPlace_9 : decode prog_13_method_71_code 9 = .ok (.ifCond .eq 10, 3) := by decide +kernel
theorem d_Mo_hintPlace_12 : decode prog_13_method_71_code 12 = .ok (.aload_n 0, 1) := by decide +kernel
theorem d_Mo_hintPlace_13 : decode prog_13_method_71_code 13 = .ok (.getfield 101, 3) := by decide +kernel
theorem d_Mo_hintPlace_16 : decode prog_13_method_71_code 16 = .ok (.goto 4, 3) := by decide +kernel
theorem d_Mo_hintPlace_19 : decode prog_13_method_71_code 19 = .ok (.iconst (-1), 1) := by decide +kernel
theorem d_Mo_hintPlace_20 : decode prog_13_method_71_code 20 = .ok (.ireturn, 1) := by decide +kernel
def f_Mo_hintPlace (F : Nat) (a0 : Nat) (h : PH) : Option (Int32 × PH) :=
  bnd (pV h a0 10 5 (.int (0 : Int32))) fun h1 => bnd (cK h1 a0 10) fun _ => bnd2 (f_Mo_looks F a0 h1) fun x3 h4 => (if x3 = (0 : Int32) then some ((-1 : Int32), h4) else bnd (gI h4 a0 10 7) fun x5 => some (x5, h4))
theorem g_Mo_hintPlace_0 {l : Launch} {E : ET} {d : Nat} (hd : 8 ≤ d) {F : Nat} {r : Int32} {h9 : PH} {x : Nat}  (a0 : Nat) (h : PH) (hf : f_Mo_hintPlace F a0 h = some (r, h9)) : Go l E m_Mo_hintPlace (rm d 0 0) (KM E 0 0 (PoE (some (.int r)) h9 x)) 0 0 h x 0 [(0, .ref a0)] [] := by
  unfold f_Mo_hintPlace at hf
  refine go_aload_n 0 d_Mo_hintPlace_0 rfl ?_
  refine go_iconst (0 : Int32) d_Mo_hintPlace_1 (by decide) ?_
  obtain ⟨h1, e_h1, hf⟩ := bnd_x hf
  refine go_putI d_Mo_hintPlace_2 e_h1 fl_Mo_52 rfl rfl ?_
  refine go_aload_n 0 d_Mo_hintPlace_5 rfl ?_
  obtain ⟨_, e2, hf⟩ := bnd_x hf
  obtain ⟨x3, h4, e_x3, hf⟩ := bnd2_x hf
  refine go_callV_I (As := []) (st := []) (c_Mo_looks (d := d - 1) (by omega) e_x3) lk_Mo_261 rfl rfl e2 (by decide) rfl (rm_ok (by omega)) (Nat.le_of_ble_eq_true rfl) rm_c d_Mo_hintPlace_6 ?_
  refine go_if_eq 19 d_Mo_hintPlace_9 (by decide) (fun q6 => ?_) (fun q6 => ?_)
  · rw [if_pos q6] at hf
    refine go_iconst (-1 : Int32) d_Mo_hintPlace_19 (by decide) ?_
    obtain ⟨e8, e9⟩ := Prod.mk.inj (Option.some.inj hf)
    subst e8; subst e9
    exact go_iret d_Mo_hintPlace_20 rfl ⟨rfl, rfl, rfl⟩
  · rw [if_neg q6] at hf
    refine go_aload_n 0 d_Mo_hintPlace_12 rfl ?_
    obtain ⟨x5, e_x5, hf⟩ := bnd_x hf
    refine go_get d_Mo_hintPlace_13 (gI_x e_x5) fl_Mo_101 ?_
    refine go_goto 20 d_Mo_hintPlace_16 (by decide) ?_
    obtain ⟨e8, e9⟩ := Prod.mk.inj (Option.some.inj hf)
    subst e8; subst e9
    exact go_iret d_Mo_hintPlace_20 rfl ⟨rfl, rfl, rfl⟩
theorem c_Mo_hintPlace {l : Launch} {E : ET} {d : Nat} (hd : 8 ≤ d) {F : Nat} {r : Int32} {h9 : PH} {x : Nat} {a0 : Nat} {h : PH} (hf : f_Mo_hintPlace F a0 h = some (r, h9)) : Fn l E m_Mo_hintPlace d 0 0 [.ref a0] h x (PoE (some (.int r)) h9 x) :=
  Fn.of (by decide +kernel) (Nat.le_of_ble_eq_true rfl) (g_Mo_hintPlace_0 hd a0 h hf)
theorem d_Mo_logged_0 : decode prog_13_method_72_code 0 = .ok (.aload_n 0, 1) := by decide +kernel
theorem d_Mo_logged_1 : decode prog_13_method_72_code 1 = .ok (.iconst 0, 1) := by decide +kernel
theorem d_Mo_logged_2 : decode prog_13_method_72_code 2 = .ok (.putfield 52, 3) := by decide +kernel
theorem d_Mo_logged_5 : decode prog_13_method_72_code 5 = .ok (.aload_n 0, 1) := by decide +kernel
theorem d_Mo_logged_6 : decode prog_13_method_72_code 6 = .ok (.getfield 7, 3) := by decide +kernel
theorem d_Mo_logged_9 : decode prog_13_method_72_code 9 = .ok (.sipush 181, 3) := by decide +kernel
theorem d_Mo_logged_12 : decode prog_13_method_72_code 12 = .ok (.iaload, 1) := by decide +kernel
theorem d_Mo_logged_13 : decode prog_13_method_72_code 13 = .ok (.ireturn, 1) := by decide +kernel
def f_Mo_logged (a0 : Nat) (h : PH) : Option (Int32 × PH) :=
  bnd (pV h a0 10 5 (.int (0 : Int32))) fun h1 => bnd (gR h1 a0 10 0) fun x2 => bnd (aI h1 x2 (181 : Int32)) fun x3 => some (x3, h1)
theorem g_Mo_logged_0 {l : Launch} {E : ET} {d : Nat} (hd : 1 ≤ d) {r : Int32} {h9 : PH} {x : Nat}  (a0 : Nat) (h : PH) (hf : f_Mo_logged a0 h = some (r, h9)) : Go l E m_Mo_logged (rm d 0 0) (KM E 0 0 (PoE (some (.int r)) h9 x)) 0 0 h x 0 [(0, .ref a0)] [] := by
  unfold f_Mo_logged at hf
  refine go_aload_n 0 d_Mo_logged_0 rfl ?_
  refine go_iconst (0 : Int32) d_Mo_logged_1 (by decide) ?_
  obtain ⟨h1, e_h1, hf⟩ := bnd_x hf
  refine go_putI d_Mo_logged_2 e_h1 fl_Mo_52 rfl rfl ?_
  refine go_aload_n 0 d_Mo_logged_5 rfl ?_
  obtain ⟨x2, e_x2, hf⟩ := bnd_x hf
  refine go_get d_Mo_logged_6 (gR_x e_x2) fl_Mo_7 ?_
  refine go_sipush (181 : Int32) d_Mo_logged_9 (by decide) ?_
  obtain ⟨x3, e_x3, hf⟩ := bnd_x hf
  refine go_iaload d_Mo_logged_12 e_x3 ?_
  obtain ⟨e8, e9⟩ := Prod.mk.inj (Option.some.inj hf)
  subst e8; subst e9
  exact go_iret d_Mo_logged_13 rfl ⟨rfl, rfl, rfl⟩
theorem c_Mo_logged {l : Launch} {E : ET} {d : Nat} (hd : 1 ≤ d) {r : Int32} {h9 : PH} {x : Nat} {a0 : Nat} {h : PH} (hf : f_Mo_logged a0 h = some (r, h9)) : Fn l E m_Mo_logged d 0 0 [.ref a0] h x (PoE (some (.int r)) h9 x) :=
  Fn.of (by decide +kernel) (Nat.le_of_ble_eq_true rfl) (g_Mo_logged_0 hd a0 h hf)
theorem d_Mo_step_0 : decode prog_13_method_73_code 0 = .ok (.aload_n 0, 1) := by decide +kernel
theorem d_Mo_step_1 : decode prog_13_method_73_code 1 = .ok (.iload_n 1, 1) := by decide +kernel
theorem d_Mo_step_2 : decode prog_13_method_73_code 2 = .ok (.iconst 0, 1) := by decide +kernel
theorem d_Mo_step_3 : decode prog_13_method_73_code 3 = .ok (.aload_n 0, 1) := by decide +kernel
theorem d_Mo_step_4 : decode prog_13_method_73_code 4 = .ok (.getfield 7, 3) := by decide +kernel
theorem d_Mo_step_7 : decode prog_13_method_73_code 7 = .ok (.sipush 181, 3) := by decide +kernel
theorem d_Mo_step_10 : decode prog_13_method_73_code 10 = .ok (.iaload, 1) := by decide +kernel
theorem d_Mo_step_11 : decode prog_13_method_73_code 11 = .ok (.iconst 1, 1) := by decide +kernel
theorem d_Mo_step_12 : decode prog_13_method_73_code 12 = .ok (.isub, 1) := by decide +kernel
theorem d_Mo_step_13 : decode prog_13_method_73_code 13 = .ok (.invokestatic 62, 3) := by decide +kernel
theorem d_Mo_step_16 : decode prog_13_method_73_code 16 = .ok (.ifCond .ne 7, 3) := by decide +kernel
theorem d_Mo_step_19 : decode prog_13_method_73_code 19 = .ok (.iconst 1, 1) := by decide +kernel
theorem d_Mo_step_20 : decode prog_13_method_73_code 20 = .ok (.goto 17, 3) := by decide +kernel
theorem d_Mo_step_23 : decode prog_13_method_73_code 23 = .ok (.iload_n 2, 1) := by decide +kernel
theorem d_Mo_step_24 : decode prog_13_method_73_code 24 = .ok (.iconst 0, 1) := by decide +kernel
theorem d_Mo_step_25 : decode prog_13_method_73_code 25 = .ok (.iconst 2, 1) := by decide +kernel
theorem d_Mo_step_26 : decode prog_13_method_73_code 26 = .ok (.invokestatic 62, 3) := by decide +kernel
theorem d_Mo_step_29 : decode prog_13_method_73_code 29 = .ok (.ifCond .ne 7, 3) := by decide +kernel
theorem d_Mo_step_32 : decode prog_13_method_73_code 32 = .ok (.iconst 2, 1) := by decide +kernel
theorem d_Mo_step_33 : decode prog_13_method_73_code 33 = .ok (.goto 4, 3) := by decide +kernel
theorem d_Mo_step_36 : decode prog_13_method_73_code 36 = .ok (.iconst 0, 1) := by decide +kernel
theorem d_Mo_step_37 : decode prog_13_method_73_code 37 = .ok (.putfield 52, 3) := by decide +kernel
theorem d_Mo_step_40 : decode prog_13_method_73_code 40 = .ok (.aload_n 0, 1) := by decide +kernel
theorem d_Mo_step_41 : decode prog_13_method_73_code 41 = .ok (.getfield 52, 3) := by decide +kernel
theorem d_Mo_step_44 : decode prog_13_method_73_code 44 = .ok (.ifCond .eq 7, 3) := by decide +kernel
theorem d_Mo_step_47 : decode prog_13_method_73_code 47 = .ok (.iconst 0, 1) := by decide +kernel
theorem d_Mo_step_48 : decode prog_13_method_73_code 48 = .ok (.goto 17, 3) := by decide +kernel
theorem d_Mo_step_51 : decode prog_13_method_73_code 51 = .ok (.aload_n 0, 1) := by decide +kernel
theorem d_Mo_step_52 : decode prog_13_method_73_code 52 = .ok (.getfield 7, 3) := by decide +kernel
theorem d_Mo_step_55 : decode prog_13_method_73_code 55 = .ok (.sipush 182, 3) := by decide +kernel
theorem d_Mo_step_58 : decode prog_13_method_73_code 58 = .ok (.iconst 3, 1) := by decide +kernel
theorem d_Mo_step_59 : decode prog_13_method_73_code 59 = .ok (.iload_n 1, 1) := by decide +kernel
theorem d_Mo_step_60 : decode prog_13_method_73_code 60 = .ok (.imul, 1) := by decide +kernel
theorem d_Mo_step_61 : decode prog_13_method_73_code 61 = .ok (.iadd, 1) := by decide +kernel
theorem d_Mo_step_62 : decode prog_13_method_73_code 62 = .ok (.iload_n 2, 1) := by decide +kernel
theorem d_Mo_step_63 : decode prog_13_method_73_code 63 = .ok (.iadd, 1) := by decide +kernel
theorem d_Mo_step_64 : decode prog_13_method_73_code 64 = .ok (.iaload, 1) := by decide +kernel
theorem d_Mo_step_65 : decode prog_13_method_73_code 65 = .ok (.ireturn, 1) := by decide +kernel
def b_Mo_step_37 (a0 : Nat) (i1 : Int32) (i2 : Int32) (s0 : Int32) (s1 : Nat) (h : PH) : Option (Int32 × PH) :=
  bnd (pV h s1 10 5 (.int s0)) fun h1 => bnd (gI h1 a0 10 5) fun x2 => (if x2 = (0 : Int32) then bnd (gR h1 a0 10 0) fun x3 => bnd (aI h1 x3 (((182 : Int32) + ((3 : Int32) * i1)) + i2)) fun x4 => some (x4, h1) else some ((0 : Int32), h1))
theorem g_Mo_step_37 {l : Launch} {E : ET} {d : Nat} (hd : 2 ≤ d) {r : Int32} {h9 : PH} {x : Nat}  (a0 : Nat) (i1 : Int32) (i2 : Int32) (s0 : Int32) (s1 : Nat) (h : PH) (hf : b_Mo_step_37 a0 i1 i2 s0 s1 h = some (r, h9)) : Go l E m_Mo_step (rm d 0 0) (KM E 0 0 (PoE (some (.int r)) h9 x)) 0 0 h x 37 [(0, .ref a0), (1, .int i1), (2, .int i2)] [.int s0, .ref s1] := by
  unfold b_Mo_step_37 at hf
  obtain ⟨h1, e_h1, hf⟩ := bnd_x hf
  refine go_putI d_Mo_step_37 e_h1 fl_Mo_52 rfl rfl ?_
  refine go_aload_n 0 d_Mo_step_40 rfl ?_
  obtain ⟨x2, e_x2, hf⟩ := bnd_x hf
  refine go_get d_Mo_step_41 (gI_x e_x2) fl_Mo_52 ?_
  refine go_if_eq 51 d_Mo_step_44 (by decide) (fun q5 => ?_) (fun q5 => ?_)
  · rw [if_pos q5] at hf
    refine go_aload_n 0 d_Mo_step_51 rfl ?_
    obtain ⟨x3, e_x3, hf⟩ := bnd_x hf
    refine go_get d_Mo_step_52 (gR_x e_x3) fl_Mo_7 ?_
    refine go_sipush (182 : Int32) d_Mo_step_55 (by decide) ?_
    refine go_iconst (3 : Int32) d_Mo_step_58 (by decide) ?_
    refine go_iload_n 1 d_Mo_step_59 rfl ?_
    refine go_imul d_Mo_step_60 ?_
    refine go_iadd d_Mo_step_61 ?_
    refine go_iload_n 2 d_Mo_step_62 rfl ?_
    refine go_iadd d_Mo_step_63 ?_
    obtain ⟨x4, e_x4, hf⟩ := bnd_x hf
    refine go_iaload d_Mo_step_64 e_x4 ?_
    obtain ⟨e8, e9⟩ := Prod.mk.inj (Option.some.inj hf)
    subst e8; subst e9
    exact go_iret d_Mo_step_65 rfl ⟨rfl, rfl, rfl⟩
  · rw [if_neg q5] at hf
    refine go_iconst (0 : Int32) d_Mo_step_47 (by decide) ?_
    refine go_goto 65 d_Mo_step_48 (by decide) ?_
    obtain ⟨e8, e9⟩ := Prod.mk.inj (Option.some.inj hf)
    subst e8; subst e9
    exact go_iret d_Mo_step_65 rfl ⟨rfl, rfl, rfl⟩
def f_Mo_step (a0 : Nat) (i1 : Int32) (i2 : Int32) (h : PH) : Option (Int32 × PH) :=
  bnd (gR h a0 10 0) fun x1 => bnd (aI h x1 (181 : Int32)) fun x2 => bnd (f_Mo_in i1 (0 : Int32) (x2 - (1 : Int32))) fun x3 => (if x3 = (0 : Int32) then b_Mo_step_37 a0 i1 i2 (1 : Int32) a0 h else bnd (f_Mo_in i2 (0 : Int32) (2 : Int32)) fun x4 => (if x4 = (0 : Int32) then b_Mo_step_37 a0 i1 i2 (2 : Int32) a0 h else b_Mo_step_37 a0 i1 i2 (0 : Int32) a0 h))
theorem g_Mo_step_0 {l : Launch} {E : ET} {d : Nat} (hd : 2 ≤ d) {r : Int32} {h9 : PH} {x : Nat}  (a0 : Nat) (i1 : Int32) (i2 : Int32) (h : PH) (hf : f_Mo_step a0 i1 i2 h = some (r, h9)) : Go l E m_Mo_step (rm d 0 0) (KM E 0 0 (PoE (some (.int r)) h9 x)) 0 0 h x 0 [(0, .ref a0), (1, .int i1), (2, .int i2)] [] := by
  unfold f_Mo_step at hf
  refine go_aload_n 0 d_Mo_step_0 rfl ?_
  refine go_iload_n 1 d_Mo_step_1 rfl ?_
  refine go_iconst (0 : Int32) d_Mo_step_2 (by decide) ?_
  refine go_aload_n 0 d_Mo_step_3 rfl ?_
  obtain ⟨x1, e_x1, hf⟩ := bnd_x hf
  refine go_get d_Mo_step_4 (gR_x e_x1) fl_Mo_7 ?_
  refine go_sipush (181 : Int32) d_Mo_step_7 (by decide) ?_
  obtain ⟨x2, e_x2, hf⟩ := bnd_x hf
  refine go_iaload d_Mo_step_10 e_x2 ?_
  refine go_iconst (1 : Int32) d_Mo_step_11 (by decide) ?_
  refine go_isub d_Mo_step_12 ?_
  obtain ⟨x3, e_x3, hf⟩ := bnd_x hf
  refine go_callS_I (As := [.int i1, .int (0 : Int32), .int (x2 - (1 : Int32))]) (st := [.ref a0]) (c_Mo_in (d := d - 1) (by omega) e_x3) lk_Mo_62 rfl rfl (rm_ok (by omega)) (Nat.le_of_ble_eq_true rfl) rm_c d_Mo_step_13 ?_
  refine go_if_ne 23 d_Mo_step_16 (by decide) (fun q6 => ?_) (fun q6 => ?_)
  · rw [if_neg q6] at hf
    refine go_iload_n 2 d_Mo_step_23 rfl ?_
    refine go_iconst (0 : Int32) d_Mo_step_24 (by decide) ?_
    refine go_iconst (2 : Int32) d_Mo_step_25 (by decide) ?_
    obtain ⟨x4, e_x4, hf⟩ := bnd_x hf
    refine go_callS_I (As := [.int i2, .int (0 : Int32), .int (2 : Int32)]) (st := [.ref a0]) (c_Mo_in (d := d - 1) (by omega) e_x4) lk_Mo_62 rfl rfl (rm_ok (by omega)) (Nat.le_of_ble_eq_true rfl) rm_c d_Mo_step_26 ?_
    refine go_if_ne 36 d_Mo_step_29 (by decide) (fun q5 => ?_) (fun q5 => ?_)
    · rw [if_neg q5] at hf
      refine go_iconst (0 : Int32) d_Mo_step_36 (by decide) ?_
      refine go_sub (lv' := [(0, .ref a0), (1, .int i1), (2, .int i2)]) [0, 1, 2] rfl ?_
      exact g_Mo_step_37 hd  a0 i1 i2 (0 : Int32) a0 h hf
    · rw [if_pos q5] at hf
      refine go_iconst (2 : Int32) d_Mo_step_32 (by decide) ?_
      refine go_goto 37 d_Mo_step_33 (by decide) ?_
      refine go_sub (lv' := [(0, .ref a0), (1, .int i1), (2, .int i2)]) [0, 1, 2] rfl ?_
      exact g_Mo_step_37 hd  a0 i1 i2 (2 : Int32) a0 h hf
  · rw [if_pos q6] at hf
    refine go_iconst (1 : Int32) d_Mo_step_19 (by decide) ?_
    refine go_goto 37 d_Mo_step_20 (by decide) ?_
    refine go_sub (lv' := [(0, .ref a0), (1, .int i1), (2, .int i2)]) [0, 1, 2] rfl ?_
    exact g_Mo_step_37 hd  a0 i1 i2 (1 : Int32) a0 h hf
theorem c_Mo_step {l : Launch} {E : ET} {d : Nat} (hd : 2 ≤ d) {r : Int32} {h9 : PH} {x : Nat} {a0 : Nat} {i1 : Int32} {i2 : Int32} {h : PH} (hf : f_Mo_step a0 i1 i2 h = some (r, h9)) : Fn l E m_Mo_step d 0 0 [.ref a0, .int i1, .int i2] h x (PoE (some (.int r)) h9 x) :=
  Fn.of (by decide +kernel) (Nat.le_of_ble_eq_true rfl) (g_Mo_step_0 hd a0 i1 i2 h hf)
theorem d_Mo_needs_0 : decode prog_13_method_74_code 0 = .ok (.aload_n 0, 1) := by decide +kernel
theorem d_Mo_needs_1 : decode prog_13_method_74_code 1 = .ok (.iload_n 1, 1) := by decide +kernel
theorem d_Mo_needs_2 : decode prog_13_method_74_code 2 = .ok (.iconst 1, 1) := by decide +kernel
theorem d_Mo_needs_3 : decode prog_13_method_74_code 3 = .ok (.bipush 7, 2) := by decide +kernel
theorem d_Mo_needs_5 : decode prog_13_method_74_code 5 = .ok (.invokestatic 62, 3) := by decide +kernel
theorem d_Mo_needs_8 : decode prog_13_method_74_code 8 = .ok (.ifCond .eq 7, 3) := by decide +kernel
theorem d_Mo_needs_11 : decode prog_13_method_74_code 11 = .ok (.iconst 0, 1) := by decide +kernel
theorem d_Mo_needs_12 : decode prog_13_method_74_code 12 = .ok (.goto 4, 3) := by decide +kernel
theorem d_Mo_needs_15 : decode prog_13_method_74_code 15 = .ok (.iconst 1, 1) := by decide +kernel
theorem d_Mo_needs_16 : decode prog_13_method_74_code 16 = .ok (.putfield 52, 3) := by decide +kernel
theorem d_Mo_needs_19 : decode prog_13_method_74_code 19 = .ok (.aload_n 0, 1) := by decide +kernel
theorem d_Mo_needs_20 : decode prog_13_method_74_code 20 = .ok (.getfield 52, 3) := by decide +kernel
theorem d_Mo_needs_23 : decode prog_13_method_74_code 23 = .ok (.ifCond .eq 5, 3) := by decide +kernel
theorem d_Mo_needs_26 : decode prog_13_method_74_code 26 = .ok (.iconst 0, 1) := by decide +kernel
theorem d_Mo_needs_27 : decode prog_13_method_74_code 27 = .ok (.ireturn, 1) := by decide +kernel
theorem d_Mo_needs_28 : decode prog_13_method_74_code 28 = .ok (.aload_n 0, 1) := by decide +kernel
theorem d_Mo_needs_29 : decode prog_13_method_74_code 29 = .ok (.getfield 7, 3) := by decide +kernel
theorem d_Mo_needs_32 : decode prog_13_method_74_code 32 = .ok (.iconst 0, 1) := by decide +kernel
theorem d_Mo_needs_33 : decode prog_13_method_74_code 33 = .ok (.aload_n 0, 1) := by decide +kernel
theorem d_Mo_needs_34 : decode prog_13_method_74_code 34 = .ok (.getfield 25, 3) := by decide +kernel
theorem d_Mo_needs_37 : decode prog_13_method_74_code 37 = .ok (.iconst 0, 1) := by decide +kernel
theorem d_Mo_needs_38 : decode prog_13_method_74_code 38 = .ok (.invokestatic 197, 3) := by decide +kernel
theorem d_Mo_needs_41 : decode prog_13_method_74_code 41 = .ok (.iconst 0, 1) := by decide +kernel
theorem d_Mo_needs_42 : decode prog_13_method_74_code 42 = .ok (.istore_n 2, 1) := by decide +kernel
theorem d_Mo_needs_43 : decode prog_13_method_74_code 43 = .ok (.aload_n 0, 1) := by decide +kernel
theorem d_Mo_needs_44 : decode prog_13_method_74_code 44 = .ok (.aload_n 0, 1) := by decide +kernel
theorem d_Mo_needs_45 : decode prog_13_method_74_code 45 = .ok (.getfield 25, 3) := by decide +kernel
theorem d_Mo_needs_48 : decode prog_13_method_74_code 48 = .ok (.invokevirtual 184, 3) := by decide +kernel
theorem d_Mo_needs_51 : decode prog_13_method_74_code 51 = .ok (.ifCond .eq 22, 3) := by decide +kernel
theorem d_Mo_needs_54 : decode prog_13_method_74_code 54 = .ok (.iload_n 2, 1) := by decide +kernel
theorem d_Mo_needs_55 : decode prog_13_method_74_code 55 = .ok (.aload_n 0, 1) := by decide +kernel
theorem d_Mo_needs_56 : decode prog_13_method_74_code 56 = .ok (.getfield 154, 3) := by decide +kernel
theorem d_Mo_needs_59 : decode prog_13_method_74_code 59 = .ok (.iload_n 1, 1) := by decide +kernel
theorem d_Mo_needs_60 : decode prog_13_method_74_code 60 = .ok (.if_icmp .ne 7, 3) := by decide +kernel
theorem d_Mo_needs_63 : decode prog_13_method_74_code 63 = .ok (.iconst 1, 1) := by decide +kernel
theorem d_Mo_needs_64 : decode prog_13_method_74_code 64 = .ok (.goto 4, 3) := by decide +kernel
theorem d_Mo_needs_67 : decode prog_13_method_74_code 67 = .ok (.iconst 0, 1) := by decide +kernel
theorem d_Mo_needs_68 : decode prog_13_method_74_code 68 = .ok (.iadd, 1) := by decide +kernel
theorem d_Mo_needs_69 : decode prog_13_method_74_code 69 = .ok (.istore_n 2, 1) := by decide +kernel
theorem d_Mo_needs_70 : decode prog_13_method_74_code 70 = .ok (.goto (-27), 3) := by decide +kernel
theorem d_Mo_needs_73 : decode prog_13_method_74_code 73 = .ok (.iload_n 2, 1) := by decide +kernel
theorem d_Mo_needs_74 : decode prog_13_method_74_code 74 = .ok (.ireturn, 1) := by decide +kernel
def b_Mo_needs_68 (F : Nat) (k43 : Nat → Int32 → Int32 → PH → Option (Int32 × PH)) (a0 : Nat) (i1 : Int32) (s0 : Int32) (s1 : Int32) (h : PH) : Option (Int32 × PH) :=
  k43 a0 i1 (s1 + s0) h
theorem g_Mo_needs_68 {l : Launch} {E : ET} {d : Nat} (hd : 7 ≤ d) {F : Nat} {r : Int32} {h9 : PH} {x : Nat} {k43 : Nat → Int32 → Int32 → PH → Option (Int32 × PH)} (hk43 : ∀ (a0 : Nat) (i1 : Int32) (i2 : Int32) (hh : PH), k43 a0 i1 i2 hh = some (r, h9) → Go l E m_Mo_needs (rm d 0 0) (KM E 0 0 (PoE (some (.int r)) h9 x)) 0 0 hh x 43 [(0, .ref a0), (1, .int i1), (2, .int i2)] []) (a0 : Nat) (i1 : Int32) (s0 : Int32) (s1 : Int32) (h : PH) (hf : b_Mo_needs_68 F k43 a0 i1 s0 s1 h = some (r, h9)) : Go l E m_Mo_needs (rm d 0 0) (KM E 0 0 (PoE (some (.int r)) h9 x)) 0 0 h x 68 [(0, .ref a0), (1, .int i1)] [.int s0, .int s1] := by
  unfold b_Mo_needs_68 at hf
  refine go_iadd d_Mo_needs_68 ?_
  refine go_istore_n (lv' := [(2, .int (s1 + s0)), (0, .ref a0), (1, .int i1)]) d_Mo_needs_69 rfl (by decide) ?_
  refine go_goto 43 d_Mo_needs_70 (by decide) ?_
  refine go_sub (lv' := [(0, .ref a0), (1, .int i1), (2, .int (s1 + s0))]) [1, 2, 0] rfl ?_
  exact hk43 a0 i1 (s1 + s0) h hf
def b_Mo_needs_43 (F : Nat) (k43 : Nat → Int32 → Int32 → PH → Option (Int32 × PH)) (a0 : Nat) (i1 : Int32) (i2 : Int32) (h : PH) : Option (Int32 × PH) :=
  bnd (gR h a0 10 11) fun x1 => bnd (cK h a0 10) fun _ => bnd2 (f_Mo_next F a0 x1 h) fun x3 h4 => (if x3 = (0 : Int32) then some (i2, h4) else bnd (gI h4 a0 10 6) fun x5 => (if x5 = i1 then b_Mo_needs_68 F k43 a0 i1 (1 : Int32) i2 h4 else b_Mo_needs_68 F k43 a0 i1 (0 : Int32) i2 h4))
def f_Mo_needs_43 (F : Nat) : Nat → Nat → Int32 → Int32 → PH → Option (Int32 × PH)
  | 0 => fun _ _ _ _ => none
  | n + 1 => b_Mo_needs_43 F (f_Mo_needs_43 F n)
theorem g_Mo_needs_43 {l : Launch} {E : ET} {d : Nat} (hd : 7 ≤ d) {F : Nat} {r : Int32} {h9 : PH} {x : Nat} {k43 : Nat → Int32 → Int32 → PH → Option (Int32 × PH)} (hk43 : ∀ (a0 : Nat) (i1 : Int32) (i2 : Int32) (hh : PH), k43 a0 i1 i2 hh = some (r, h9) → Go l E m_Mo_needs (rm d 0 0) (KM E 0 0 (PoE (some (.int r)) h9 x)) 0 0 hh x 43 [(0, .ref a0), (1, .int i1), (2, .int i2)] []) (a0 : Nat) (i1 : Int32) (i2 : Int32) (h : PH) (hf : b_Mo_needs_43 F k43 a0 i1 i2 h = some (r, h9)) : Go l E m_Mo_needs (rm d 0 0) (KM E 0 0 (PoE (some (.int r)) h9 x)) 0 0 h x 43 [(0, .ref a0), (1, .int i1), (2, .int i2)] [] := by
  unfold b_Mo_needs_43 at hf
  refine go_aload_n 0 d_Mo_needs_43 rfl ?_
  refine go_aload_n 0 d_Mo_needs_44 rfl ?_
  obtain ⟨x1, e_x1, hf⟩ := bnd_x hf
  refine go_get d_Mo_needs_45 (gR_x e_x1) fl_Mo_25 ?_
  obtain ⟨_, e2, hf⟩ := bnd_x hf
  obtain ⟨x3, h4, e_x3, hf⟩ := bnd2_x hf
  refine go_callV_I (As := [.ref x1]) (st := []) (c_Mo_next (d := d - 1) (by omega) e_x3) lk_Mo_184 rfl rfl e2 (by decide) rfl (rm_ok (by omega)) (Nat.le_of_ble_eq_true rfl) rm_c d_Mo_needs_48 ?_
  refine go_if_eq 73 d_Mo_needs_51 (by decide) (fun q7 => ?_) (fun q7 => ?_)
  · rw [if_pos q7] at hf
    refine go_iload_n 2 d_Mo_needs_73 rfl ?_
    obtain ⟨e8, e9⟩ := Prod.mk.inj (Option.some.inj hf)
    subst e8; subst e9
    exact go_iret d_Mo_needs_74 rfl ⟨rfl, rfl, rfl⟩
  · rw [if_neg q7] at hf
    refine go_iload_n 2 d_Mo_needs_54 rfl ?_
    refine go_aload_n 0 d_Mo_needs_55 rfl ?_
    obtain ⟨x5, e_x5, hf⟩ := bnd_x hf
    refine go_get d_Mo_needs_56 (gI_x e_x5) fl_Mo_154 ?_
    refine go_iload_n 1 d_Mo_needs_59 rfl ?_
    refine go_icmp_ne 67 d_Mo_needs_60 (by decide) (fun q6 => ?_) (fun q6 => ?_)
    · rw [if_neg q6] at hf
      refine go_iconst (0 : Int32) d_Mo_needs_67 (by decide) ?_
      refine go_sub (lv' := [(0, .ref a0), (1, .int i1)]) [0, 1] rfl ?_
      exact g_Mo_needs_68 hd hk43 a0 i1 (0 : Int32) i2 h4 hf
    · rw [if_pos q6] at hf
      refine go_iconst (1 : Int32) d_Mo_needs_63 (by decide) ?_
      refine go_goto 68 d_Mo_needs_64 (by decide) ?_
      refine go_sub (lv' := [(0, .ref a0), (1, .int i1)]) [0, 1] rfl ?_
      exact g_Mo_needs_68 hd hk43 a0 i1 (1 : Int32) i2 h4 hf
theorem t_Mo_needs_43 {l : Launch} {E : ET} {d : Nat} (hd : 7 ≤ d) {F : Nat} {r : Int32} {h9 : PH} {x : Nat}  : ∀ (n : Nat) (a0 : Nat) (i1 : Int32) (i2 : Int32) (hh : PH), f_Mo_needs_43 F n a0 i1 i2 hh = some (r, h9) → Go l E m_Mo_needs (rm d 0 0) (KM E 0 0 (PoE (some (.int r)) h9 x)) 0 0 hh x 43 [(0, .ref a0), (1, .int i1), (2, .int i2)] [] := by
  intro n
  induction n with
  | zero => intro v0 v1 v2 v3 hf; cases hf
  | succ n ih => intro v0 v1 v2 v3 hf; exact g_Mo_needs_43 hd ih v0 v1 v2 v3 hf
def b_Mo_needs_16 (F : Nat) (a0 : Nat) (i1 : Int32) (s0 : Int32) (s1 : Nat) (h : PH) : Option (Int32 × PH) :=
  bnd (pV h s1 10 5 (.int s0)) fun h1 => bnd (gI h1 a0 10 5) fun x2 => (if x2 = (0 : Int32) then bnd (gR h1 a0 10 0) fun x3 => bnd (gR h1 a0 10 11) fun x4 => bnd (f_Mo_copyRow F x3 (0 : Int32) x4 (0 : Int32) h1) fun h5 => f_Mo_needs_43 F F a0 i1 (0 : Int32) h5 else some ((0 : Int32), h1))
theorem g_Mo_needs_16 {l : Launch} {E : ET} {d : Nat} (hd : 7 ≤ d) {F : Nat} {r : Int32} {h9 : PH} {x : Nat}  (a0 : Nat) (i1 : Int32) (s0 : Int32) (s1 : Nat) (h : PH) (hf : b_Mo_needs_16 F a0 i1 s0 s1 h = some (r, h9)) : Go l E m_Mo_needs (rm d 0 0) (KM E 0 0 (PoE (some (.int r)) h9 x)) 0 0 h x 16 [(0, .ref a0), (1, .int i1)] [.int s0, .ref s1] := by
  unfold b_Mo_needs_16 at hf
  obtain ⟨h1, e_h1, hf⟩ := bnd_x hf
  refine go_putI d_Mo_needs_16 e_h1 fl_Mo_52 rfl rfl ?_
  refine go_aload_n 0 d_Mo_needs_19 rfl ?_
  obtain ⟨x2, e_x2, hf⟩ := bnd_x hf
  refine go_get d_Mo_needs_20 (gI_x e_x2) fl_Mo_52 ?_
  refine go_if_eq 28 d_Mo_needs_23 (by decide) (fun q6 => ?_) (fun q6 => ?_)
  · rw [if_pos q6] at hf
    refine go_aload_n 0 d_Mo_needs_28 rfl ?_
    obtain ⟨x3, e_x3, hf⟩ := bnd_x hf
    refine go_get d_Mo_needs_29 (gR_x e_x3) fl_Mo_7 ?_
    refine go_iconst (0 : Int32) d_Mo_needs_32 (by decide) ?_
    refine go_aload_n 0 d_Mo_needs_33 rfl ?_
    obtain ⟨x4, e_x4, hf⟩ := bnd_x hf
    refine go_get d_Mo_needs_34 (gR_x e_x4) fl_Mo_25 ?_
    refine go_iconst (0 : Int32) d_Mo_needs_37 (by decide) ?_
    obtain ⟨h5, e_x5, hf⟩ := bnd_x hf
    refine go_callS_N (As := [.ref x3, .int (0 : Int32), .ref x4, .int (0 : Int32)]) (st := []) (c_Mo_copyRow (d := d - 1) (by omega) e_x5) lk_Mo_197 rfl rfl (rm_ok (by omega)) (Nat.le_of_ble_eq_true rfl) rm_c d_Mo_needs_38 ?_
    refine go_iconst (0 : Int32) d_Mo_needs_41 (by decide) ?_
    refine go_istore_n (lv' := [(2, .int (0 : Int32)), (0, .ref a0), (1, .int i1)]) d_Mo_needs_42 rfl (by decide) ?_
    refine go_sub (lv' := [(0, .ref a0), (1, .int i1), (2, .int (0 : Int32))]) [1, 2, 0] rfl ?_
    exact t_Mo_needs_43 hd  _ a0 i1 (0 : Int32) h5 hf
  · rw [if_neg q6] at hf
    refine go_iconst (0 : Int32) d_Mo_needs_26 (by decide) ?_
    obtain ⟨e8, e9⟩ := Prod.mk.inj (Option.some.inj hf)
    subst e8; subst e9
    exact go_iret d_Mo_needs_27 rfl ⟨rfl, rfl, rfl⟩
def f_Mo_needs (F : Nat) (a0 : Nat) (i1 : Int32) (h : PH) : Option (Int32 × PH) :=
  bnd (f_Mo_in i1 (1 : Int32) (7 : Int32)) fun x1 => (if x1 = (0 : Int32) then b_Mo_needs_16 F a0 i1 (1 : Int32) a0 h else b_Mo_needs_16 F a0 i1 (0 : Int32) a0 h)
theorem g_Mo_needs_0 {l : Launch} {E : ET} {d : Nat} (hd : 7 ≤ d) {F : Nat} {r : Int32} {h9 : PH} {x : Nat}  (a0 : Nat) (i1 : Int32) (h : PH) (hf : f_Mo_needs F a0 i1 h = some (r, h9)) : Go l E m_Mo_needs (rm d 0 0) (KM E 0 0 (PoE (some (.int r)) h9 x)) 0 0 h x 0 [(0, .ref a0), (1, .int i1)] [] := by
  unfold f_Mo_needs at hf
  refine go_aload_n 0 d_Mo_needs_0 rfl ?_
  refine go_iload_n 1 d_Mo_needs_1 rfl ?_
  refine go_iconst (1 : Int32) d_Mo_needs_2 (by decide) ?_
  refine go_bipush (7 : Int32) d_Mo_needs_3 (by decide) ?_
  obtain ⟨x1, e_x1, hf⟩ := bnd_x hf
  refine go_callS_I (As := [.int i1, .int (1 : Int32), .int (7 : Int32)]) (st := [.ref a0]) (c_Mo_in (d := d - 1) (by omega) e_x1) lk_Mo_62 rfl rfl (rm_ok (by omega)) (Nat.le_of_ble_eq_true rfl) rm_c d_Mo_needs_5 ?_
  refine go_if_eq 15 d_Mo_needs_8 (by decide) (fun q2 => ?_) (fun q2 => ?_)
  · rw [if_pos q2] at hf
    refine go_iconst (1 : Int32) d_Mo_needs_15 (by decide) ?_
    refine go_sub (lv' := [(0, .ref a0), (1, .int i1)]) [0, 1] rfl ?_
    exact g_Mo_needs_16 hd  a0 i1 (1 : Int32) a0 h hf
  · rw [if_neg q2] at hf
    refine go_iconst (0 : Int32) d_Mo_needs_11 (by decide) ?_
    refine go_goto 16 d_Mo_needs_12 (by decide) ?_
    refine go_sub (lv' := [(0, .ref a0), (1, .int i1)]) [0, 1] rfl ?_
    exact g_Mo_needs_16 hd  a0 i1 (0 : Int32) a0 h hf
theorem c_Mo_needs {l : Launch} {E : ET} {d : Nat} (hd : 7 ≤ d) {F : Nat} {r : Int32} {h9 : PH} {x : Nat} {a0 : Nat} {i1 : Int32} {h : PH} (hf : f_Mo_needs F a0 i1 h = some (r, h9)) : Fn l E m_Mo_needs d 0 0 [.ref a0, .int i1] h x (PoE (some (.int r)) h9 x) :=
  Fn.of (by decide +kernel) (Nat.le_of_ble_eq_true rfl) (g_Mo_needs_0 hd a0 i1 h hf)
theorem d_Mo_solutions_0 : decode prog_13_method_75_code 0 = .ok (.aload_n 0, 1) := by decide +kernel
theorem d_Mo_solutions_1 : decode prog_13_method_75_code 1 = .ok (.iload_n 1, 1) := by decide +kernel
theorem d_Mo_solutions_2 : decode prog_13_method_75_code 2 = .ok (.iconst 1, 1) := by decide +kernel
theorem d_Mo_solutions_3 : decode prog_13_method_75_code 3 = .ok (.bipush 20, 2) := by decide +kernel
theorem d_Mo_solutions_5 : decode prog_13_method_75_code 5 = .ok (.invokestatic 62, 3) := by decide +kernel
theorem d_Mo_solutions_8 : decode prog_13_method_75_code 8 = .ok (.ifCond .eq 7, 3) := by decide +kernel
theorem d_Mo_solutions_11 : decode prog_13_method_75_code 11 = .ok (.iconst 0, 1) := by decide +kernel
theorem d_Mo_solutions_12 : decode prog_13_method_75_code 12 = .ok (.goto 4, 3) := by decide +kernel
theorem d_Mo_solutions_15 : decode prog_13_method_75_code 15 = .ok (.iconst 1, 1) := by decide +kernel
theorem d_Mo_solutions_16 : decode prog_13_method_75_code 16 = .ok (.putfield 52, 3) := by decide +kernel
theorem d_Mo_solutions_19 : decode prog_13_method_75_code 19 = .ok (.aload_n 0, 1) := by decide +kernel
theorem d_Mo_solutions_20 : decode prog_13_method_75_code 20 = .ok (.getfield 52, 3) := by decide +kernel
theorem d_Mo_solutions_23 : decode prog_13_method_75_code 23 = .ok (.ifCond .eq 5, 3) := by decide +kernel
theorem d_Mo_solutions_26 : decode prog_13_method_75_code 26 = .ok (.iconst 0, 1) := by decide +kernel
theorem d_Mo_solutions_27 : decode prog_13_method_75_code 27 = .ok (.ireturn, 1) := by decide +kernel
theorem d_Mo_solutions_28 : decode prog_13_method_75_code 28 = .ok (.aload_n 0, 1) := by decide +kernel
theorem d_Mo_solutions_29 : decode prog_13_method_75_code 29 = .ok (.iload_n 1, 1) := by decide +kernel
theorem d_Mo_solutions_30 : decode prog_13_method_75_code 30 = .ok (.invokevirtual 265, 3) := by decide +kernel
theorem d_Mo_solutions_33 : decode prog_13_method_75_code 33 = .ok (.aload_n 0, 1) := by decide +kernel
theorem d_Mo_solutions_34 : decode prog_13_method_75_code 34 = .ok (.getfield 175, 3) := by decide +kernel
theorem d_Mo_solutions_37 : decode prog_13_method_75_code 37 = .ok (.ireturn, 1) := by decide +kernel
def b_Mo_solutions_16 (F : Nat) (a0 : Nat) (i1 : Int32) (s0 : Int32) (s1 : Nat) (h : PH) : Option (Int32 × PH) :=
  bnd (pV h s1 10 5 (.int s0)) fun h1 => bnd (gI h1 a0 10 5) fun x2 => (if x2 = (0 : Int32) then bnd (cK h1 a0 10) fun _ => bnd (f_Mo_solveNow F a0 i1 h1) fun h4 => bnd (gI h4 a0 10 17) fun x5 => some (x5, h4) else some ((0 : Int32), h1))
theorem g_Mo_solutions_16 {l : Launch} {E : ET} {d : Nat} (hd : 9 ≤ d) {F : Nat} {r : Int32} {h9 : PH} {x : Nat}  (a0 : Nat) (i1 : Int32) (s0 : Int32) (s1 : Nat) (h : PH) (hf : b_Mo_solutions_16 F a0 i1 s0 s1 h = some (r, h9)) : Go l E m_Mo_solutions (rm d 0 0) (KM E 0 0 (PoE (some (.int r)) h9 x)) 0 0 h x 16 [(0, .ref a0), (1, .int i1)] [.int s0, .ref s1] := by
  unfold b_Mo_solutions_16 at hf
  obtain ⟨h1, e_h1, hf⟩ := bnd_x hf
  refine go_putI d_Mo_solutions_16 e_h1 fl_Mo_52 rfl rfl ?_
  refine go_aload_n 0 d_Mo_solutions_19 rfl ?_
  obtain ⟨x2, e_x2, hf⟩ := bnd_x hf
  refine go_get d_Mo_solutions_20 (gI_x e_x2) fl_Mo_52 ?_
  refine go_if_eq 28 d_Mo_solutions_23 (by decide) (fun q6 => ?_) (fun q6 => ?_)
  · rw [if_pos q6] at hf
    refine go_aload_n 0 d_Mo_solutions_28 rfl ?_
    refine go_iload_n 1 d_Mo_solutions_29 rfl ?_
    obtain ⟨_, e3, hf⟩ := bnd_x hf
    obtain ⟨h4, e_x4, hf⟩ := bnd_x hf
    refine go_callV_N (As := [.int i1]) (st := []) (c_Mo_solveNow (d := d - 1) (by omega) e_x4) lk_Mo_265 rfl rfl e3 (by decide) rfl (rm_ok (by omega)) (Nat.le_of_ble_eq_true rfl) rm_c d_Mo_solutions_30 ?_
    refine go_aload_n 0 d_Mo_solutions_33 rfl ?_
    obtain ⟨x5, e_x5, hf⟩ := bnd_x hf
    refine go_get d_Mo_solutions_34 (gI_x e_x5) fl_Mo_175 ?_
    obtain ⟨e8, e9⟩ := Prod.mk.inj (Option.some.inj hf)
    subst e8; subst e9
    exact go_iret d_Mo_solutions_37 rfl ⟨rfl, rfl, rfl⟩
  · rw [if_neg q6] at hf
    refine go_iconst (0 : Int32) d_Mo_solutions_26 (by decide) ?_
    obtain ⟨e8, e9⟩ := Prod.mk.inj (Option.some.inj hf)
    subst e8; subst e9
    exact go_iret d_Mo_solutions_27 rfl ⟨rfl, rfl, rfl⟩
def f_Mo_solutions (F : Nat) (a0 : Nat) (i1 : Int32) (h : PH) : Option (Int32 × PH) :=
  bnd (f_Mo_in i1 (1 : Int32) (20 : Int32)) fun x1 => (if x1 = (0 : Int32) then b_Mo_solutions_16 F a0 i1 (1 : Int32) a0 h else b_Mo_solutions_16 F a0 i1 (0 : Int32) a0 h)
theorem g_Mo_solutions_0 {l : Launch} {E : ET} {d : Nat} (hd : 9 ≤ d) {F : Nat} {r : Int32} {h9 : PH} {x : Nat}  (a0 : Nat) (i1 : Int32) (h : PH) (hf : f_Mo_solutions F a0 i1 h = some (r, h9)) : Go l E m_Mo_solutions (rm d 0 0) (KM E 0 0 (PoE (some (.int r)) h9 x)) 0 0 h x 0 [(0, .ref a0), (1, .int i1)] [] := by
  unfold f_Mo_solutions at hf
  refine go_aload_n 0 d_Mo_solutions_0 rfl ?_
  refine go_iload_n 1 d_Mo_solutions_1 rfl ?_
  refine go_iconst (1 : Int32) d_Mo_solutions_2 (by decide) ?_
  refine go_bipush (20 : Int32) d_Mo_solutions_3 (by decide) ?_
  obtain ⟨x1, e_x1, hf⟩ := bnd_x hf
  refine go_callS_I (As := [.int i1, .int (1 : Int32), .int (20 : Int32)]) (st := [.ref a0]) (c_Mo_in (d := d - 1) (by omega) e_x1) lk_Mo_62 rfl rfl (rm_ok (by omega)) (Nat.le_of_ble_eq_true rfl) rm_c d_Mo_solutions_5 ?_
  refine go_if_eq 15 d_Mo_solutions_8 (by decide) (fun q2 => ?_) (fun q2 => ?_)
  · rw [if_pos q2] at hf
    refine go_iconst (1 : Int32) d_Mo_solutions_15 (by decide) ?_
    refine go_sub (lv' := [(0, .ref a0), (1, .int i1)]) [0, 1] rfl ?_
    exact g_Mo_solutions_16 hd  a0 i1 (1 : Int32) a0 h hf
  · rw [if_neg q2] at hf
    refine go_iconst (0 : Int32) d_Mo_solutions_11 (by decide) ?_
    refine go_goto 16 d_Mo_solutions_12 (by decide) ?_
    refine go_sub (lv' := [(0, .ref a0), (1, .int i1)]) [0, 1] rfl ?_
    exact g_Mo_solutions_16 hd  a0 i1 (0 : Int32) a0 h hf
theorem c_Mo_solutions {l : Launch} {E : ET} {d : Nat} (hd : 9 ≤ d) {F : Nat} {r : Int32} {h9 : PH} {x : Nat} {a0 : Nat} {i1 : Int32} {h : PH} (hf : f_Mo_solutions F a0 i1 h = some (r, h9)) : Fn l E m_Mo_solutions d 0 0 [.ref a0, .int i1] h x (PoE (some (.int r)) h9 x) :=
  Fn.of (by decide +kernel) (Nat.le_of_ble_eq_true rfl) (g_Mo_solutions_0 hd a0 i1 h hf)
theorem d_Mo_guesses_0 : decode prog_13_method_76_code 0 = .ok (.aload_n 0, 1) := by decide +kernel
theorem d_Mo_guesses_1 : decode prog_13_method_76_code 1 = .ok (.iconst 0, 1) := by decide +kernel
theorem d_Mo_guesses_2 : decode prog_13_method_76_code 2 = .ok (.putfield 52, 3) := by decide +kernel
theorem d_Mo_guesses_5 : decode prog_13_method_76_code 5 = .ok (.aload_n 0, 1) := by decide +kernel
theorem d_Mo_guesses_6 : decode prog_13_method_76_code 6 = .ok (.iconst 1, 1) := by decide +kernel
theorem d_Mo_guesses_7 : decode prog_13_method_76_code 7 = .ok (.invokevirtual 265, 3) := by decide +kernel
theorem d_Mo_guesses_10 : decode prog_13_method_76_code 10 = .ok (.aload_n 0, 1) := by decide +kernel
theorem d_Mo_guesses_11 : decode prog_13_method_76_code 11 = .ok (.getfield 175, 3) := by decide +kernel
theorem d_Mo_guesses_14 : decode prog_13_method_76_code 14 = .ok (.ifCond .ne 7, 3) := by decide +kernel
theorem d_Mo_guesses_17 : decode prog_13_method_76_code 17 = .ok (.iconst (-1), 1) := by decide +kernel
theorem d_Mo_guesses_18 : decode prog_13_method_76_code 18 = .ok (.goto 7, 3) := by decide +kernel
theorem d_Mo_guesses_21 : decode prog_13_method_76_code 21 = .ok (.aload_n 0, 1) := by decide +kernel
theorem d_Mo_guesses_22 : decode prog_13_method_76_code 22 = .ok (.getfield 181, 3) := by decide +kernel
theorem d_Mo_guesses_25 : decode prog_13_method_76_code 25 = .ok (.ireturn, 1) := by decide +kernel
def f_Mo_guesses (F : Nat) (a0 : Nat) (h : PH) : Option (Int32 × PH) :=
  bnd (pV h a0 10 5 (.int (0 : Int32))) fun h1 => bnd (cK h1 a0 10) fun _ => bnd (f_Mo_solveNow F a0 (1 : Int32) h1) fun h3 => bnd (gI h3 a0 10 17) fun x4 => (if x4 = (0 : Int32) then some ((-1 : Int32), h3) else bnd (gI h3 a0 10 19) fun x5 => some (x5, h3))
theorem g_Mo_guesses_0 {l : Launch} {E : ET} {d : Nat} (hd : 9 ≤ d) {F : Nat} {r : Int32} {h9 : PH} {x : Nat}  (a0 : Nat) (h : PH) (hf : f_Mo_guesses F a0 h = some (r, h9)) : Go l E m_Mo_guesses (rm d 0 0) (KM E 0 0 (PoE (some (.int r)) h9 x)) 0 0 h x 0 [(0, .ref a0)] [] := by
  unfold f_Mo_guesses at hf
  refine go_aload_n 0 d_Mo_guesses_0 rfl ?_
  refine go_iconst (0 : Int32) d_Mo_guesses_1 (by decide) ?_
  obtain ⟨h1, e_h1, hf⟩ := bnd_x hf
  refine go_putI d_Mo_guesses_2 e_h1 fl_Mo_52 rfl rfl ?_
  refine go_aload_n 0 d_Mo_guesses_5 rfl ?_
  refine go_iconst (1 : Int32) d_Mo_guesses_6 (by decide) ?_
  obtain ⟨_, e2, hf⟩ := bnd_x hf
  obtain ⟨h3, e_x3, hf⟩ := bnd_x hf
  refine go_callV_N (As := [.int (1 : Int32)]) (st := []) (c_Mo_solveNow (d := d - 1) (by omega) e_x3) lk_Mo_265 rfl rfl e2 (by decide) rfl (rm_ok (by omega)) (Nat.le_of_ble_eq_true rfl) rm_c d_Mo_guesses_7 ?_
  refine go_aload_n 0 d_Mo_guesses_10 rfl ?_
  obtain ⟨x4, e_x4, hf⟩ := bnd_x hf
  refine go_get d_Mo_guesses_11 (gI_x e_x4) fl_Mo_175 ?_
  refine go_if_ne 21 d_Mo_guesses_14 (by decide) (fun q6 => ?_) (fun q6 => ?_)
  · rw [if_neg q6] at hf
    refine go_aload_n 0 d_Mo_guesses_21 rfl ?_
    obtain ⟨x5, e_x5, hf⟩ := bnd_x hf
    refine go_get d_Mo_guesses_22 (gI_x e_x5) fl_Mo_181 ?_
    obtain ⟨e8, e9⟩ := Prod.mk.inj (Option.some.inj hf)
    subst e8; subst e9
    exact go_iret d_Mo_guesses_25 rfl ⟨rfl, rfl, rfl⟩
  · rw [if_pos q6] at hf
    refine go_iconst (-1 : Int32) d_Mo_guesses_17 (by decide) ?_
    refine go_goto 25 d_Mo_guesses_18 (by decide) ?_
    obtain ⟨e8, e9⟩ := Prod.mk.inj (Option.some.inj hf)
    subst e8; subst e9
    exact go_iret d_Mo_guesses_25 rfl ⟨rfl, rfl, rfl⟩
theorem c_Mo_guesses {l : Launch} {E : ET} {d : Nat} (hd : 9 ≤ d) {F : Nat} {r : Int32} {h9 : PH} {x : Nat} {a0 : Nat} {h : PH} (hf : f_Mo_guesses F a0 h = some (r, h9)) : Fn l E m_Mo_guesses d 0 0 [.ref a0] h x (PoE (some (.int r)) h9 x) :=
  Fn.of (by decide +kernel) (Nat.le_of_ble_eq_true rfl) (g_Mo_guesses_0 hd a0 h hf)
theorem d_Mo_solved_0 : decode prog_13_method_77_code 0 = .ok (.aload_n 0, 1) := by decide +kernel
theorem d_Mo_solved_1 : decode prog_13_method_77_code 1 = .ok (.iload_n 1, 1) := by decide +kernel
theorem d_Mo_solved_2 : decode prog_13_method_77_code 2 = .ok (.invokestatic 214, 3) := by decide +kernel
theorem d_Mo_solved_5 : decode prog_13_method_77_code 5 = .ok (.ifCond .eq 7, 3) := by decide +kernel
theorem d_Mo_solved_8 : decode prog_13_method_77_code 8 = .ok (.iconst 0, 1) := by decide +kernel
theorem d_Mo_solved_9 : decode prog_13_method_77_code 9 = .ok (.goto 4, 3) := by decide +kernel
theorem d_Mo_solved_12 : decode prog_13_method_77_code 12 = .ok (.iconst 1, 1) := by decide +kernel
theorem d_Mo_solved_13 : decode prog_13_method_77_code 13 = .ok (.putfield 52, 3) := by decide +kernel
theorem d_Mo_solved_16 : decode prog_13_method_77_code 16 = .ok (.aload_n 0, 1) := by decide +kernel
theorem d_Mo_solved_17 : decode prog_13_method_77_code 17 = .ok (.getfield 52, 3) := by decide +kernel
theorem d_Mo_solved_20 : decode prog_13_method_77_code 20 = .ok (.ifCond .eq 5, 3) := by decide +kernel
theorem d_Mo_solved_23 : decode prog_13_method_77_code 23 = .ok (.iconst 0, 1) := by decide +kernel
theorem d_Mo_solved_24 : decode prog_13_method_77_code 24 = .ok (.ireturn, 1) := by decide +kernel
theorem d_Mo_solved_25 : decode prog_13_method_77_code 25 = .ok (.aload_n 0, 1) := by decide +kernel
theorem d_Mo_solved_26 : decode prog_13_method_77_code 26 = .ok (.iconst 1, 1) := by decide +kernel
theorem d_Mo_solved_27 : decode prog_13_method_77_code 27 = .ok (.invokevirtual 265, 3) := by decide +kernel
theorem d_Mo_solved_30 : decode prog_13_method_77_code 30 = .ok (.aload_n 0, 1) := by decide +kernel
theorem d_Mo_solved_31 : decode prog_13_method_77_code 31 = .ok (.getfield 175, 3) := by decide +kernel
theorem d_Mo_solved_34 : decode prog_13_method_77_code 34 = .ok (.ifCond .ne 7, 3) := by decide +kernel
theorem d_Mo_solved_37 : decode prog_13_method_77_code 37 = .ok (.iconst 0, 1) := by decide +kernel
theorem d_Mo_solved_38 : decode prog_13_method_77_code 38 = .ok (.goto 9, 3) := by decide +kernel
theorem d_Mo_solved_41 : decode prog_13_method_77_code 41 = .ok (.aload_n 0, 1) := by decide +kernel
theorem d_Mo_solved_42 : decode prog_13_method_77_code 42 = .ok (.getfield 37, 3) := by decide +kernel
theorem d_Mo_solved_45 : decode prog_13_method_77_code 45 = .ok (.iload_n 1, 1) := by decide +kernel
theorem d_Mo_solved_46 : decode prog_13_method_77_code 46 = .ok (.iaload, 1) := by decide +kernel
theorem d_Mo_solved_47 : decode prog_13_method_77_code 47 = .ok (.ireturn, 1) := by decide +kernel
def b_Mo_solved_13 (F : Nat) (a0 : Nat) (i1 : Int32) (s0 : Int32) (s1 : Nat) (h : PH) : Option (Int32 × PH) :=
  bnd (pV h s1 10 5 (.int s0)) fun h1 => bnd (gI h1 a0 10 5) fun x2 => (if x2 = (0 : Int32) then bnd (cK h1 a0 10) fun _ => bnd (f_Mo_solveNow F a0 (1 : Int32) h1) fun h4 => bnd (gI h4 a0 10 17) fun x5 => (if x5 = (0 : Int32) then some ((0 : Int32), h4) else bnd (gR h4 a0 10 15) fun x6 => bnd (aI h4 x6 i1) fun x7 => some (x7, h4)) else some ((0 : Int32), h1))
theorem g_Mo_solved_13 {l : Launch} {E : ET} {d : Nat} (hd : 9 ≤ d) {F : Nat} {r : Int32} {h9 : PH} {x : Nat}  (a0 : Nat) (i1 : Int32) (s0 : Int32) (s1 : Nat) (h : PH) (hf : b_Mo_solved_13 F a0 i1 s0 s1 h = some (r, h9)) : Go l E m_Mo_solved (rm d 0 0) (KM E 0 0 (PoE (some (.int r)) h9 x)) 0 0 h x 13 [(0, .ref a0), (1, .int i1)] [.int s0, .ref s1] := by
  unfold b_Mo_solved_13 at hf
  obtain ⟨h1, e_h1, hf⟩ := bnd_x hf
  refine go_putI d_Mo_solved_13 e_h1 fl_Mo_52 rfl rfl ?_
  refine go_aload_n 0 d_Mo_solved_16 rfl ?_
  obtain ⟨x2, e_x2, hf⟩ := bnd_x hf
  refine go_get d_Mo_solved_17 (gI_x e_x2) fl_Mo_52 ?_
  refine go_if_eq 25 d_Mo_solved_20 (by decide) (fun q9 => ?_) (fun q9 => ?_)
  · rw [if_pos q9] at hf
    refine go_aload_n 0 d_Mo_solved_25 rfl ?_
    refine go_iconst (1 : Int32) d_Mo_solved_26 (by decide) ?_
    obtain ⟨_, e3, hf⟩ := bnd_x hf
    obtain ⟨h4, e_x4, hf⟩ := bnd_x hf
    refine go_callV_N (As := [.int (1 : Int32)]) (st := []) (c_Mo_solveNow (d := d - 1) (by omega) e_x4) lk_Mo_265 rfl rfl e3 (by decide) rfl (rm_ok (by omega)) (Nat.le_of_ble_eq_true rfl) rm_c d_Mo_solved_27 ?_
    refine go_aload_n 0 d_Mo_solved_30 rfl ?_
    obtain ⟨x5, e_x5, hf⟩ := bnd_x hf
    refine go_get d_Mo_solved_31 (gI_x e_x5) fl_Mo_175 ?_
    refine go_if_ne 41 d_Mo_solved_34 (by decide) (fun q8 => ?_) (fun q8 => ?_)
    · rw [if_neg q8] at hf
      refine go_aload_n 0 d_Mo_solved_41 rfl ?_
      obtain ⟨x6, e_x6, hf⟩ := bnd_x hf
      refine go_get d_Mo_solved_42 (gR_x e_x6) fl_Mo_37 ?_
      refine go_iload_n 1 d_Mo_solved_45 rfl ?_
      obtain ⟨x7, e_x7, hf⟩ := bnd_x hf
      refine go_iaload d_Mo_solved_46 e_x7 ?_
      obtain ⟨e8, e9⟩ := Prod.mk.inj (Option.some.inj hf)
      subst e8; subst e9
      exact go_iret d_Mo_solved_47 rfl ⟨rfl, rfl, rfl⟩
    · rw [if_pos q8] at hf
      refine go_iconst (0 : Int32) d_Mo_solved_37 (by decide) ?_
      refine go_goto 47 d_Mo_solved_38 (by decide) ?_
      obtain ⟨e8, e9⟩ := Prod.mk.inj (Option.some.inj hf)
      subst e8; subst e9
      exact go_iret d_Mo_solved_47 rfl ⟨rfl, rfl, rfl⟩
  · rw [if_neg q9] at hf
    refine go_iconst (0 : Int32) d_Mo_solved_23 (by decide) ?_
    obtain ⟨e8, e9⟩ := Prod.mk.inj (Option.some.inj hf)
    subst e8; subst e9
    exact go_iret d_Mo_solved_24 rfl ⟨rfl, rfl, rfl⟩
def f_Mo_solved (F : Nat) (a0 : Nat) (i1 : Int32) (h : PH) : Option (Int32 × PH) :=
  bnd (f_Mo_isCell i1) fun x1 => (if x1 = (0 : Int32) then b_Mo_solved_13 F a0 i1 (1 : Int32) a0 h else b_Mo_solved_13 F a0 i1 (0 : Int32) a0 h)
theorem g_Mo_solved_0 {l : Launch} {E : ET} {d : Nat} (hd : 9 ≤ d) {F : Nat} {r : Int32} {h9 : PH} {x : Nat}  (a0 : Nat) (i1 : Int32) (h : PH) (hf : f_Mo_solved F a0 i1 h = some (r, h9)) : Go l E m_Mo_solved (rm d 0 0) (KM E 0 0 (PoE (some (.int r)) h9 x)) 0 0 h x 0 [(0, .ref a0), (1, .int i1)] [] := by
  unfold f_Mo_solved at hf
  refine go_aload_n 0 d_Mo_solved_0 rfl ?_
  refine go_iload_n 1 d_Mo_solved_1 rfl ?_
  obtain ⟨x1, e_x1, hf⟩ := bnd_x hf
  refine go_callS_I (As := [.int i1]) (st := [.ref a0]) (c_Mo_isCell (d := d - 1) (by omega) e_x1) lk_Mo_214 rfl rfl (rm_ok (by omega)) (Nat.le_of_ble_eq_true rfl) rm_c d_Mo_solved_2 ?_
  refine go_if_eq 12 d_Mo_solved_5 (by decide) (fun q2 => ?_) (fun q2 => ?_)
  · rw [if_pos q2] at hf
    refine go_iconst (1 : Int32) d_Mo_solved_12 (by decide) ?_
    refine go_sub (lv' := [(0, .ref a0), (1, .int i1)]) [0, 1] rfl ?_
    exact g_Mo_solved_13 hd  a0 i1 (1 : Int32) a0 h hf
  · rw [if_neg q2] at hf
    refine go_iconst (0 : Int32) d_Mo_solved_8 (by decide) ?_
    refine go_goto 13 d_Mo_solved_9 (by decide) ?_
    refine go_sub (lv' := [(0, .ref a0), (1, .int i1)]) [0, 1] rfl ?_
    exact g_Mo_solved_13 hd  a0 i1 (0 : Int32) a0 h hf
theorem c_Mo_solved {l : Launch} {E : ET} {d : Nat} (hd : 9 ≤ d) {F : Nat} {r : Int32} {h9 : PH} {x : Nat} {a0 : Nat} {i1 : Int32} {h : PH} (hf : f_Mo_solved F a0 i1 h = some (r, h9)) : Fn l E m_Mo_solved d 0 0 [.ref a0, .int i1] h x (PoE (some (.int r)) h9 x) :=
  Fn.of (by decide +kernel) (Nat.le_of_ble_eq_true rfl) (g_Mo_solved_0 hd a0 i1 h hf)
theorem d_Mo_superfluous_0 : decode prog_13_method_78_code 0 = .ok (.aload_n 0, 1) := by decide +kernel
theorem d_Mo_superfluous_1 : decode prog_13_method_78_code 1 = .ok (.iconst 0, 1) := by decide +kernel
theorem d_Mo_superfluous_2 : decode prog_13_method_78_code 2 = .ok (.putfield 52, 3) := by decide +kernel
theorem d_Mo_superfluous_5 : decode prog_13_method_78_code 5 = .ok (.aload_n 0, 1) := by decide +kernel
theorem d_Mo_superfluous_6 : decode prog_13_method_78_code 6 = .ok (.bipush 21, 2) := by decide +kernel
theorem d_Mo_superfluous_8 : decode prog_13_method_78_code 8 = .ok (.invokevirtual 265, 3) := by decide +kernel
theorem d_Mo_superfluous_11 : decode prog_13_method_78_code 11 = .ok (.aload_n 0, 1) := by decide +kernel
theorem d_Mo_superfluous_12 : decode prog_13_method_78_code 12 = .ok (.getfield 175, 3) := by decide +kernel
theorem d_Mo_superfluous_15 : decode prog_13_method_78_code 15 = .ok (.bipush 20, 2) := by decide +kernel
theorem d_Mo_superfluous_17 : decode prog_13_method_78_code 17 = .ok (.if_icmp .le 5, 3) := by decide +kernel
theorem d_Mo_superfluous_20 : decode prog_13_method_78_code 20 = .ok (.iconst (-1), 1) := by decide +kernel
theorem d_Mo_superfluous_21 : decode prog_13_method_78_code 21 = .ok (.ireturn, 1) := by decide +kernel
theorem d_Mo_superfluous_22 : decode prog_13_method_78_code 22 = .ok (.iconst 0, 1) := by decide +kernel
theorem d_Mo_superfluous_23 : decode prog_13_method_78_code 23 = .ok (.istore_n 1, 1) := by decide +kernel
theorem d_Mo_superfluous_24 : decode prog_13_method_78_code 24 = .ok (.iconst 0, 1) := by decide +kernel
theorem d_Mo_superfluous_25 : decode prog_13_method_78_code 25 = .ok (.istore_n 2, 1) := by decide +kernel
theorem d_Mo_superfluous_26 : decode prog_13_method_78_code 26 = .ok (.iload_n 2, 1) := by decide +kernel
theorem d_Mo_superfluous_27 : decode prog_13_method_78_code 27 = .ok (.bipush 36, 2) := by decide +kernel
theorem d_Mo_superfluous_29 : decode prog_13_method_78_code 29 = .ok (.if_icmp .ge 30, 3) := by decide +kernel
theorem d_Mo_superfluous_32 : decode prog_13_method_78_code 32 = .ok (.iload_n 1, 1) := by decide +kernel
theorem d_Mo_superfluous_33 : decode prog_13_method_78_code 33 = .ok (.aload_n 0, 1) := by decide +kernel
theorem d_Mo_superfluous_34 : decode prog_13_method_78_code 34 = .ok (.getfield 7, 3) := by decide +kernel
theorem d_Mo_superfluous_37 : decode prog_13_method_78_code 37 = .ok (.iload_n 2, 1) := by decide +kernel
theorem d_Mo_superfluous_38 : decode prog_13_method_78_code 38 = .ok (.iaload, 1) := by decide +kernel
theorem d_Mo_superfluous_39 : decode prog_13_method_78_code 39 = .ok (.aload_n 0, 1) := by decide +kernel
theorem d_Mo_superfluous_40 : decode prog_13_method_78_code 40 = .ok (.getfield 40, 3) := by decide +kernel
theorem d_Mo_superfluous_43 : decode prog_13_method_78_code 43 = .ok (.iload_n 2, 1) := by decide +kernel
theorem d_Mo_superfluous_44 : decode prog_13_method_78_code 44 = .ok (.iaload, 1) := by decide +kernel
theorem d_Mo_superfluous_45 : decode prog_13_method_78_code 45 = .ok (.iconst (-1), 1) := by decide +kernel
theorem d_Mo_superfluous_46 : decode prog_13_method_78_code 46 = .ok (.ixor, 1) := by decide +kernel
theorem d_Mo_superfluous_47 : decode prog_13_method_78_code 47 = .ok (.iand, 1) := by decide +kernel
theorem d_Mo_superfluous_48 : decode prog_13_method_78_code 48 = .ok (.invokestatic 98, 3) := by decide +kernel
theorem d_Mo_superfluous_51 : decode prog_13_method_78_code 51 = .ok (.iadd, 1) := by decide +kernel
theorem d_Mo_superfluous_52 : decode prog_13_method_78_code 52 = .ok (.istore_n 1, 1) := by decide +kernel
theorem d_Mo_superfluous_53 : decode prog_13_method_78_code 53 = .ok (.iinc 2 1, 3) := by decide +kernel
theorem d_Mo_superfluous_56 : decode prog_13_method_78_code 56 = .ok (.goto (-30), 3) := by decide +kernel
theorem d_Mo_superfluous_59 : decode prog_13_method_78_code 59 = .ok (.iload_n 1, 1) := by decide +kernel
theorem d_Mo_superfluous_60 : decode prog_13_method_78_code 60 = .ok (.ireturn, 1) := by decide +kernel
def b_Mo_superfluous_26 (F : Nat) (k26 : Nat → Int32 → Int32 → PH → Option (Int32 × PH)) (a0 : Nat) (i1 : Int32) (i2 : Int32) (h : PH) : Option (Int32 × PH) :=
  (if (36 : Int32) ≤ i2 then some (i1, h) else bnd (gR h a0 10 0) fun x1 => bnd (aI h x1 i2) fun x2 => bnd (gR h a0 10 16) fun x3 => bnd (aI h x3 i2) fun x4 => bnd (f_Mo_size F (x2 &&& (x4 ^^^ (-1 : Int32)))) fun x5 => k26 a0 (i1 + x5) (i2 + (1 : Int32)) h)
def f_Mo_superfluous_26 (F : Nat) : Nat → Nat → Int32 → Int32 → PH → Option (Int32 × PH)
  | 0 => fun _ _ _ _ => none
  | n + 1 => b_Mo_superfluous_26 F (f_Mo_superfluous_26 F n)
theorem g_Mo_superfluous_26 {l : Launch} {E : ET} {d : Nat} (hd : 9 ≤ d) {F : Nat} {r : Int32} {h9 : PH} {x : Nat} {k26 : Nat → Int32 → Int32 → PH → Option (Int32 × PH)} (hk26 : ∀ (a0 : Nat) (i1 : Int32) (i2 : Int32) (hh : PH), k26 a0 i1 i2 hh = some (r, h9) → Go l E m_Mo_superfluous (rm d 0 0) (KM E 0 0 (PoE (some (.int r)) h9 x)) 0 0 hh x 26 [(0, .ref a0), (1, .int i1), (2, .int i2)] []) (a0 : Nat) (i1 : Int32) (i2 : Int32) (h : PH) (hf : b_Mo_superfluous_26 F k26 a0 i1 i2 h = some (r, h9)) : Go l E m_Mo_superfluous (rm d 0 0) (KM E 0 0 (PoE (some (.int r)) h9 x)) 0 0 h x 26 [(0, .ref a0), (1, .int i1), (2, .int i2)] [] := by
  unfold b_Mo_superfluous_26 at hf
  refine go_iload_n 2 d_Mo_superfluous_26 rfl ?_
  refine go_bipush (36 : Int32) d_Mo_superfluous_27 (by decide) ?_
  refine go_icmp_ge 59 d_Mo_superfluous_29 (by decide) (fun q6 => ?_) (fun q6 => ?_)
  · rw [if_pos q6] at hf
    refine go_iload_n 1 d_Mo_superfluous_59 rfl ?_
    obtain ⟨e8, e9⟩ := Prod.mk.inj (Option.some.inj hf)
    subst e8; subst e9
    exact go_iret d_Mo_superfluous_60 rfl ⟨rfl, rfl, rfl⟩
  · rw [if_neg q6] at hf
    refine go_iload_n 1 d_Mo_superfluous_32 rfl ?_
    refine go_aload_n 0 d_Mo_superfluous_33 rfl ?_
    obtain ⟨x1, e_x1, hf⟩ := bnd_x hf
    refine go_get d_Mo_superfluous_34 (gR_x e_x1) fl_Mo_7 ?_
    refine go_iload_n 2 d_Mo_superfluous_37 rfl ?_
    obtain ⟨x2, e_x2, hf⟩ := bnd_x hf
    refine go_iaload d_Mo_superfluous_38 e_x2 ?_
    refine go_aload_n 0 d_Mo_superfluous_39 rfl ?_
    obtain ⟨x3, e_x3, hf⟩ := bnd_x hf
    refine go_get d_Mo_superfluous_40 (gR_x e_x3) fl_Mo_40 ?_
    refine go_iload_n 2 d_Mo_superfluous_43 rfl ?_
    obtain ⟨x4, e_x4, hf⟩ := bnd_x hf
    refine go_iaload d_Mo_superfluous_44 e_x4 ?_
    refine go_iconst (-1 : Int32) d_Mo_superfluous_45 (by decide) ?_
    refine go_ixor d_Mo_superfluous_46 ?_
    refine go_iand d_Mo_superfluous_47 ?_
    obtain ⟨x5, e_x5, hf⟩ := bnd_x hf
    refine go_callS_I (As := [.int (x2 &&& (x4 ^^^ (-1 : Int32)))]) (st := [.int i1]) (c_Mo_size (d := d - 1) (by omega) e_x5) lk_Mo_98 rfl rfl (rm_ok (by omega)) (Nat.le_of_ble_eq_true rfl) rm_c d_Mo_superfluous_48 ?_
    refine go_iadd d_Mo_superfluous_51 ?_
    refine go_istore_n (lv' := [(1, .int (i1 + x5)), (0, .ref a0), (2, .int i2)]) d_Mo_superfluous_52 rfl (by decide) ?_
    refine go_iinc (lv' := [(2, .int (i2 + (1 : Int32))), (1, .int (i1 + x5)), (0, .ref a0)]) 2 (i2 + (1 : Int32)) d_Mo_superfluous_53 rfl rfl rfl (by decide) ?_
    refine go_goto 26 d_Mo_superfluous_56 (by decide) ?_
    refine go_sub (lv' := [(0, .ref a0), (1, .int (i1 + x5)), (2, .int (i2 + (1 : Int32)))]) [2, 1, 0] rfl ?_
    exact hk26 a0 (i1 + x5) (i2 + (1 : Int32)) h hf
theorem t_Mo_superfluous_26 {l : Launch} {E : ET} {d : Nat} (hd : 9 ≤ d) {F : Nat} {r : Int32} {h9 : PH} {x : Nat}  : ∀ (n : Nat) (a0 : Nat) (i1 : Int32) (i2 : Int32) (hh : PH), f_Mo_superfluous_26 F n a0 i1 i2 hh = some (r, h9) → Go l E m_Mo_superfluous (rm d 0 0) (KM E 0 0 (PoE (some (.int r)) h9 x)) 0 0 hh x 26 [(0, .ref a0), (1, .int i1), (2, .int i2)] [] := by
  intro n
  induction n with
  | zero => intro v0 v1 v2 v3 hf; cases hf
  | succ n ih => intro v0 v1 v2 v3 hf; exact g_Mo_superfluous_26 hd ih v0 v1 v2 v3 hf
def f_Mo_superfluous (F : Nat) (a0 : Nat) (h : PH) : Option (Int32 × PH) :=
  bnd (pV h a0 10 5 (.int (0 : Int32))) fun h1 => bnd (cK h1 a0 10) fun _ => bnd (f_Mo_solveNow F a0 (21 : Int32) h1) fun h3 => bnd (gI h3 a0 10 17) fun x4 => (if x4 ≤ (20 : Int32) then f_Mo_superfluous_26 F F a0 (0 : Int32) (0 : Int32) h3 else some ((-1 : Int32), h3))
theorem g_Mo_superfluous_0 {l : Launch} {E : ET} {d : Nat} (hd : 9 ≤ d) {F : Nat} {r : Int32} {h9 : PH} {x : Nat}  (a0 : Nat) (h : PH) (hf : f_Mo_superfluous F a0 h = some (r, h9)) : Go l E m_Mo_superfluous (rm d 0 0) (KM E 0 0 (PoE (some (.int r)) h9 x)) 0 0 h x 0 [(0, .ref a0)] [] := by
  unfold f_Mo_superfluous at hf
  refine go_aload_n 0 d_Mo_superfluous_0 rfl ?_
  refine go_iconst (0 : Int32) d_Mo_superfluous_1 (by decide) ?_
  obtain ⟨h1, e_h1, hf⟩ := bnd_x hf
  refine go_putI d_Mo_superfluous_2 e_h1 fl_Mo_52 rfl rfl ?_
  refine go_aload_n 0 d_Mo_superfluous_5 rfl ?_
  refine go_bipush (21 : Int32) d_Mo_superfluous_6 (by decide) ?_
  obtain ⟨_, e2, hf⟩ := bnd_x hf
  obtain ⟨h3, e_x3, hf⟩ := bnd_x hf
  refine go_callV_N (As := [.int (21 : Int32)]) (st := []) (c_Mo_solveNow (d := d - 1) (by omega) e_x3) lk_Mo_265 rfl rfl e2 (by decide) rfl (rm_ok (by omega)) (Nat.le_of_ble_eq_true rfl) rm_c d_Mo_superfluous_8 ?_
  refine go_aload_n 0 d_Mo_superfluous_11 rfl ?_
  obtain ⟨x4, e_x4, hf⟩ := bnd_x hf
  refine go_get d_Mo_superfluous_12 (gI_x e_x4) fl_Mo_175 ?_
  refine go_bipush (20 : Int32) d_Mo_superfluous_15 (by decide) ?_
  refine go_icmp_le 22 d_Mo_superfluous_17 (by decide) (fun q5 => ?_) (fun q5 => ?_)
  · rw [if_pos q5] at hf
    refine go_iconst (0 : Int32) d_Mo_superfluous_22 (by decide) ?_
    refine go_istore_n (lv' := [(1, .int (0 : Int32)), (0, .ref a0)]) d_Mo_superfluous_23 rfl (by decide) ?_
    refine go_iconst (0 : Int32) d_Mo_superfluous_24 (by decide) ?_
    refine go_istore_n (lv' := [(2, .int (0 : Int32)), (1, .int (0 : Int32)), (0, .ref a0)]) d_Mo_superfluous_25 rfl (by decide) ?_
    refine go_sub (lv' := [(0, .ref a0), (1, .int (0 : Int32)), (2, .int (0 : Int32))]) [2, 1, 0] rfl ?_
    exact t_Mo_superfluous_26 hd  _ a0 (0 : Int32) (0 : Int32) h3 hf
  · rw [if_neg q5] at hf
    refine go_iconst (-1 : Int32) d_Mo_superfluous_20 (by decide) ?_
    obtain ⟨e8, e9⟩ := Prod.mk.inj (Option.some.inj hf)
    subst e8; subst e9
    exact go_iret d_Mo_superfluous_21 rfl ⟨rfl, rfl, rfl⟩
theorem c_Mo_superfluous {l : Launch} {E : ET} {d : Nat} (hd : 9 ≤ d) {F : Nat} {r : Int32} {h9 : PH} {x : Nat} {a0 : Nat} {h : PH} (hf : f_Mo_superfluous F a0 h = some (r, h9)) : Fn l E m_Mo_superfluous d 0 0 [.ref a0] h x (PoE (some (.int r)) h9 x) :=
  Fn.of (by decide +kernel) (Nat.le_of_ble_eq_true rfl) (g_Mo_superfluous_0 hd a0 h hf)
theorem d_Mo_possible_0 : decode prog_13_method_79_code 0 = .ok (.aload_n 0, 1) := by decide +kernel
theorem d_Mo_possible_1 : decode prog_13_method_79_code 1 = .ok (.iload_n 1, 1) := by decide +kernel
theorem d_Mo_possible_2 : decode prog_13_method_79_code 2 = .ok (.invokestatic 214, 3) := by decide +kernel
theorem d_Mo_possible_5 : decode prog_13_method_79_code 5 = .ok (.ifCond .ne 7, 3) := by decide +kernel
theorem d_Mo_possible_8 : decode prog_13_method_79_code 8 = .ok (.iconst 1, 1) := by decide +kernel
theorem d_Mo_possible_9 : decode prog_13_method_79_code 9 = .ok (.goto 15, 3) := by decide +kernel
theorem d_Mo_possible_12 : decode prog_13_method_79_code 12 = .ok (.iload_n 2, 1) := by decide +kernel
theorem d_Mo_possible_13 : decode prog_13_method_79_code 13 = .ok (.invokestatic 217, 3) := by decide +kernel
theorem d_Mo_possible_16 : decode prog_13_method_79_code 16 = .ok (.ifCond .eq 7, 3) := by decide +kernel
theorem d_Mo_possible_19 : decode prog_13_method_79_code 19 = .ok (.iconst 0, 1) := by decide +kernel
theorem d_Mo_possible_20 : decode prog_13_method_79_code 20 = .ok (.goto 4, 3) := by decide +kernel
theorem d_Mo_possible_23 : decode prog_13_method_79_code 23 = .ok (.iconst 2, 1) := by decide +kernel
theorem d_Mo_possible_24 : decode prog_13_method_79_code 24 = .ok (.putfield 52, 3) := by decide +kernel
theorem d_Mo_possible_27 : decode prog_13_method_79_code 27 = .ok (.aload_n 0, 1) := by decide +kernel
theorem d_Mo_possible_28 : decode prog_13_method_79_code 28 = .ok (.getfield 52, 3) := by decide +kernel
theorem d_Mo_possible_31 : decode prog_13_method_79_code 31 = .ok (.ifCond .eq 5, 3) := by decide +kernel
theorem d_Mo_possible_34 : decode prog_13_method_79_code 34 = .ok (.iconst 0, 1) := by decide +kernel
theorem d_Mo_possible_35 : decode prog_13_method_79_code 35 = .ok (.ireturn, 1) := by decide +kernel
theorem d_Mo_possible_36 : decode prog_13_method_79_code 36 = .ok (.aload_n 0, 1) := by decide +kernel
theorem d_Mo_possible_37 : decode prog_13_method_79_code 37 = .ok (.getfield 7, 3) := by decide +kernel
theorem d_Mo_possible_40 : decode prog_13_method_79_code 40 = .ok (.iconst 0, 1) := by decide +kernel
theorem d_Mo_possible_41 : decode prog_13_method_79_code 41 = .ok (.aload_n 0, 1) := by decide +kernel
theorem d_Mo_possible_42 : decode prog_13_method_79_code 42 = .ok (.getfield 25, 3) := by decide +kernel
theorem d_Mo_possible_45 : decode prog_13_method_79_code 45 = .ok (.iconst 0, 1) := by decide +kernel
theorem d_Mo_possible_46 : decode prog_13_method_79_code 46 = .ok (.invokestatic 197, 3) := by decide +kernel
theorem d_Mo_possible_49 : decode prog_13_method_79_code 49 = .ok (.aload_n 0, 1) := by decide +kernel
theorem d_Mo_possible_50 : decode prog_13_method_79_code 50 = .ok (.getfield 25, 3) := by decide +kernel
theorem d_Mo_possible_53 : decode prog_13_method_79_code 53 = .ok (.iload_n 1, 1) := by decide +kernel
theorem d_Mo_possible_54 : decode prog_13_method_79_code 54 = .ok (.dup2, 1) := by decide +kernel
theorem d_Mo_possible_55 : decode prog_13_method_79_code 55 = .ok (.iaload, 1) := by decide +kernel
theorem d_Mo_possible_56 : decode prog_13_method_79_code 56 = .ok (.iconst 1, 1) := by decide +kernel
theorem d_Mo_possible_57 : decode prog_13_method_79_code 57 = .ok (.iload_n 2, 1) := by decide +kernel
theorem d_Mo_possible_58 : decode prog_13_method_79_code 58 = .ok (.ishl, 1) := by decide +kernel
theorem d_Mo_possible_59 : decode prog_13_method_79_code 59 = .ok (.iand, 1) := by decide +kernel
theorem d_Mo_possible_60 : decode prog_13_method_79_code 60 = .ok (.iastore, 1) := by decide +kernel
theorem d_Mo_possible_61 : decode prog_13_method_79_code 61 = .ok (.aload_n 0, 1) := by decide +kernel
theorem d_Mo_possible_62 : decode prog_13_method_79_code 62 = .ok (.iconst 1, 1) := by decide +kernel
theorem d_Mo_possible_63 : decode prog_13_method_79_code 63 = .ok (.invokevirtual 201, 3) := by decide +kernel
theorem d_Mo_possible_66 : decode prog_13_method_79_code 66 = .ok (.aload_n 0, 1) := by decide +kernel
theorem d_Mo_possible_67 : decode prog_13_method_79_code 67 = .ok (.getfield 175, 3) := by decide +kernel
theorem d_Mo_possible_70 : decode prog_13_method_79_code 70 = .ok (.ifCond .le 7, 3) := by decide +kernel
theorem d_Mo_possible_73 : decode prog_13_method_79_code 73 = .ok (.iconst 1, 1) := by decide +kernel
theorem d_Mo_possible_74 : decode prog_13_method_79_code 74 = .ok (.goto 4, 3) := by decide +kernel
theorem d_Mo_possible_77 : decode prog_13_method_79_code 77 = .ok (.iconst 0, 1) := by decide +kernel
theorem d_Mo_possible_78 : decode prog_13_method_79_code 78 = .ok (.ireturn, 1) := by decide +kernel
def b_Mo_possible_24 (F : Nat) (a0 : Nat) (i1 : Int32) (i2 : Int32) (s0 : Int32) (s1 : Nat) (h : PH) : Option (Int32 × PH) :=
  bnd (pV h s1 10 5 (.int s0)) fun h1 => bnd (gI h1 a0 10 5) fun x2 => (if x2 = (0 : Int32) then bnd (gR h1 a0 10 0) fun x3 => bnd (gR h1 a0 10 11) fun x4 => bnd (f_Mo_copyRow F x3 (0 : Int32) x4 (0 : Int32) h1) fun h5 => bnd (gR h5 a0 10 11) fun x6 => bnd (aI h5 x6 i1) fun x7 => bnd (sI h5 x6 i1 (x7 &&& ((1 : Int32) <<< (i2 &&& 31)))) fun h8 => bnd (cK h8 a0 10) fun _ => bnd (f_Mo_solve F a0 (1 : Int32) h8) fun h10 => bnd (gI h10 a0 10 17) fun x11 => (if x11 ≤ (0 : Int32) then some ((0 : Int32), h10) else some ((1 : Int32), h10)) else some ((0 : Int32), h1))
theorem g_Mo_possible_24 {l : Launch} {E : ET} {d : Nat} (hd : 8 ≤ d) {F : Nat} {r : Int32} {h9 : PH} {x : Nat}  (a0 : Nat) (i1 : Int32) (i2 : Int32) (s0 : Int32) (s1 : Nat) (h : PH) (hf : b_Mo_possible_24 F a0 i1 i2 s0 s1 h = some (r, h9)) : Go l E m_Mo_possible (rm d 0 0) (KM E 0 0 (PoE (some (.int r)) h9 x)) 0 0 h x 24 [(0, .ref a0), (1, .int i1), (2, .int i2)] [.int s0, .ref s1] := by
  unfold b_Mo_possible_24 at hf
  obtain ⟨h1, e_h1, hf⟩ := bnd_x hf
  refine go_putI d_Mo_possible_24 e_h1 fl_Mo_52 rfl rfl ?_
  refine go_aload_n 0 d_Mo_possible_27 rfl ?_
  obtain ⟨x2, e_x2, hf⟩ := bnd_x hf
  refine go_get d_Mo_possible_28 (gI_x e_x2) fl_Mo_52 ?_
  refine go_if_eq 36 d_Mo_possible_31 (by decide) (fun q13 => ?_) (fun q13 => ?_)
  · rw [if_pos q13] at hf
    refine go_aload_n 0 d_Mo_possible_36 rfl ?_
    obtain ⟨x3, e_x3, hf⟩ := bnd_x hf
    refine go_get d_Mo_possible_37 (gR_x e_x3) fl_Mo_7 ?_
    refine go_iconst (0 : Int32) d_Mo_possible_40 (by decide) ?_
    refine go_aload_n 0 d_Mo_possible_41 rfl ?_
    obtain ⟨x4, e_x4, hf⟩ := bnd_x hf
    refine go_get d_Mo_possible_42 (gR_x e_x4) fl_Mo_25 ?_
    refine go_iconst (0 : Int32) d_Mo_possible_45 (by decide) ?_
    obtain ⟨h5, e_x5, hf⟩ := bnd_x hf
    refine go_callS_N (As := [.ref x3, .int (0 : Int32), .ref x4, .int (0 : Int32)]) (st := []) (c_Mo_copyRow (d := d - 1) (by omega) e_x5) lk_Mo_197 rfl rfl (rm_ok (by omega)) (Nat.le_of_ble_eq_true rfl) rm_c d_Mo_possible_46 ?_
    refine go_aload_n 0 d_Mo_possible_49 rfl ?_
    obtain ⟨x6, e_x6, hf⟩ := bnd_x hf
    refine go_get d_Mo_possible_50 (gR_x e_x6) fl_Mo_25 ?_
    refine go_iload_n 1 d_Mo_possible_53 rfl ?_
    refine go_dup2 d_Mo_possible_54 rfl rfl ?_
    obtain ⟨x7, e_x7, hf⟩ := bnd_x hf
    refine go_iaload d_Mo_possible_55 e_x7 ?_
    refine go_iconst (1 : Int32) d_Mo_possible_56 (by decide) ?_
    refine go_iload_n 2 d_Mo_possible_57 rfl ?_
    refine go_ishl d_Mo_possible_58 ?_
    refine go_iand d_Mo_possible_59 ?_
    obtain ⟨h8, e_h8, hf⟩ := bnd_x hf
    refine go_iastore d_Mo_possible_60 e_h8 ?_
    refine go_aload_n 0 d_Mo_possible_61 rfl ?_
    refine go_iconst (1 : Int32) d_Mo_possible_62 (by decide) ?_
    obtain ⟨_, e9, hf⟩ := bnd_x hf
    obtain ⟨h10, e_x10, hf⟩ := bnd_x hf
    refine go_callV_N (As := [.int (1 : Int32)]) (st := []) (c_Mo_solve (d := d - 1) (by omega) e_x10) lk_Mo_201 rfl rfl e9 (by decide) rfl (rm_ok (by omega)) (Nat.le_of_ble_eq_true rfl) rm_c d_Mo_possible_63 ?_
    refine go_aload_n 0 d_Mo_possible_66 rfl ?_
    obtain ⟨x11, e_x11, hf⟩ := bnd_x hf
    refine go_get d_Mo_possible_67 (gI_x e_x11) fl_Mo_175 ?_
    refine go_if_le 77 d_Mo_possible_70 (by decide) (fun q12 => ?_) (fun q12 => ?_)
    · rw [if_pos q12] at hf
      refine go_iconst (0 : Int32) d_Mo_possible_77 (by decide) ?_
      obtain ⟨e8, e9⟩ := Prod.mk.inj (Option.some.inj hf)
      subst e8; subst e9
      exact go_zret d_Mo_possible_78 rfl rfl ⟨rfl, rfl, rfl⟩
    · rw [if_neg q12] at hf
      refine go_iconst (1 : Int32) d_Mo_possible_73 (by decide) ?_
      refine go_goto 78 d_Mo_possible_74 (by decide) ?_
      obtain ⟨e8, e9⟩ := Prod.mk.inj (Option.some.inj hf)
      subst e8; subst e9
      exact go_zret d_Mo_possible_78 rfl rfl ⟨rfl, rfl, rfl⟩
  · rw [if_neg q13] at hf
    refine go_iconst (0 : Int32) d_Mo_possible_34 (by decide) ?_
    obtain ⟨e8, e9⟩ := Prod.mk.inj (Option.some.inj hf)
    subst e8; subst e9
    exact go_zret d_Mo_possible_35 rfl rfl ⟨rfl, rfl, rfl⟩
def f_Mo_possible (F : Nat) (a0 : Nat) (i1 : Int32) (i2 : Int32) (h : PH) : Option (Int32 × PH) :=
  bnd (f_Mo_isCell i1) fun x1 => (if x1 = (0 : Int32) then b_Mo_possible_24 F a0 i1 i2 (1 : Int32) a0 h else bnd (f_Mo_isDigit i2) fun x2 => (if x2 = (0 : Int32) then b_Mo_possible_24 F a0 i1 i2 (2 : Int32) a0 h else b_Mo_possible_24 F a0 i1 i2 (0 : Int32) a0 h))
theorem g_Mo_possible_0 {l : Launch} {E : ET} {d : Nat} (hd : 8 ≤ d) {F : Nat} {r : Int32} {h9 : PH} {x : Nat}  (a0 : Nat) (i1 : Int32) (i2 : Int32) (h : PH) (hf : f_Mo_possible F a0 i1 i2 h = some (r, h9)) : Go l E m_Mo_possible (rm d 0 0) (KM E 0 0 (PoE (some (.int r)) h9 x)) 0 0 h x 0 [(0, .ref a0), (1, .int i1), (2, .int i2)] [] := by
  unfold f_Mo_possible at hf
  refine go_aload_n 0 d_Mo_possible_0 rfl ?_
  refine go_iload_n 1 d_Mo_possible_1 rfl ?_
  obtain ⟨x1, e_x1, hf⟩ := bnd_x hf
  refine go_callS_I (As := [.int i1]) (st := [.ref a0]) (c_Mo_isCell (d := d - 1) (by omega) e_x1) lk_Mo_214 rfl rfl (rm_ok (by omega)) (Nat.le_of_ble_eq_true rfl) rm_c d_Mo_possible_2 ?_
  refine go_if_ne 12 d_Mo_possible_5 (by decide) (fun q4 => ?_) (fun q4 => ?_)
  · rw [if_neg q4] at hf
    refine go_iload_n 2 d_Mo_possible_12 rfl ?_
    obtain ⟨x2, e_x2, hf⟩ := bnd_x hf
    refine go_callS_I (As := [.int i2]) (st := [.ref a0]) (c_Mo_isDigit (d := d - 1) (by omega) e_x2) lk_Mo_217 rfl rfl (rm_ok (by omega)) (Nat.le_of_ble_eq_true rfl) rm_c d_Mo_possible_13 ?_
    refine go_if_eq 23 d_Mo_possible_16 (by decide) (fun q3 => ?_) (fun q3 => ?_)
    · rw [if_pos q3] at hf
      refine go_iconst (2 : Int32) d_Mo_possible_23 (by decide) ?_
      refine go_sub (lv' := [(0, .ref a0), (1, .int i1), (2, .int i2)]) [0, 1, 2] rfl ?_
      exact g_Mo_possible_24 hd  a0 i1 i2 (2 : Int32) a0 h hf
    · rw [if_neg q3] at hf
      refine go_iconst (0 : Int32) d_Mo_possible_19 (by decide) ?_
      refine go_goto 24 d_Mo_possible_20 (by decide) ?_
      refine go_sub (lv' := [(0, .ref a0), (1, .int i1), (2, .int i2)]) [0, 1, 2] rfl ?_
      exact g_Mo_possible_24 hd  a0 i1 i2 (0 : Int32) a0 h hf
  · rw [if_pos q4] at hf
    refine go_iconst (1 : Int32) d_Mo_possible_8 (by decide) ?_
    refine go_goto 24 d_Mo_possible_9 (by decide) ?_
    refine go_sub (lv' := [(0, .ref a0), (1, .int i1), (2, .int i2)]) [0, 1, 2] rfl ?_
    exact g_Mo_possible_24 hd  a0 i1 i2 (1 : Int32) a0 h hf
theorem c_Mo_possible {l : Launch} {E : ET} {d : Nat} (hd : 8 ≤ d) {F : Nat} {r : Int32} {h9 : PH} {x : Nat} {a0 : Nat} {i1 : Int32} {i2 : Int32} {h : PH} (hf : f_Mo_possible F a0 i1 i2 h = some (r, h9)) : Fn l E m_Mo_possible d 0 0 [.ref a0, .int i1, .int i2] h x (PoE (some (.int r)) h9 x) :=
  Fn.of (by decide +kernel) (Nat.le_of_ble_eq_true rfl) (g_Mo_possible_0 hd a0 i1 i2 h hf)
theorem d_Mo_needed_0 : decode prog_13_method_80_code 0 = .ok (.aload_n 0, 1) := by decide +kernel
theorem d_Mo_needed_1 : decode prog_13_method_80_code 1 = .ok (.iconst 0, 1) := by decide +kernel
theorem d_Mo_needed_2 : decode prog_13_method_80_code 2 = .ok (.putfield 52, 3) := by decide +kernel
theorem d_Mo_needed_5 : decode prog_13_method_80_code 5 = .ok (.iconst 0, 1) := by decide +kernel
theorem d_Mo_needed_6 : decode prog_13_method_80_code 6 = .ok (.istore_n 1, 1) := by decide +kernel
theorem d_Mo_needed_7 : decode prog_13_method_80_code 7 = .ok (.iconst 0, 1) := by decide +kernel
theorem d_Mo_needed_8 : decode prog_13_method_80_code 8 = .ok (.istore_n 2, 1) := by decide +kernel
theorem d_Mo_needed_9 : decode prog_13_method_80_code 9 = .ok (.iload_n 2, 1) := by decide +kernel
theorem d_Mo_needed_10 : decode prog_13_method_80_code 10 = .ok (.bipush 36, 2) := by decide +kernel
theorem d_Mo_needed_12 : decode prog_13_method_80_code 12 = .ok (.if_icmp .ge 39, 3) := by decide +kernel
theorem d_Mo_needed_15 : decode prog_13_method_80_code 15 = .ok (.iload_n 1, 1) := by decide +kernel
theorem d_Mo_needed_16 : decode prog_13_method_80_code 16 = .ok (.aload_n 0, 1) := by decide +kernel
theorem d_Mo_needed_17 : decode prog_13_method_80_code 17 = .ok (.getfield 7, 3) := by decide +kernel
theorem d_Mo_needed_20 : decode prog_13_method_80_code 20 = .ok (.bipush 72, 2) := by decide +kernel
theorem d_Mo_needed_22 : decode prog_13_method_80_code 22 = .ok (.iload_n 2, 1) := by decide +kernel
theorem d_Mo_needed_23 : decode prog_13_method_80_code 23 = .ok (.iadd, 1) := by decide +kernel
theorem d_Mo_needed_24 : decode prog_13_method_80_code 24 = .ok (.iaload, 1) := by decide +kernel
theorem d_Mo_needed_25 : decode prog_13_method_80_code 25 = .ok (.ifCond .le 17, 3) := by decide +kernel
theorem d_Mo_needed_28 : decode prog_13_method_80_code 28 = .ok (.aload_n 0, 1) := by decide +kernel
theorem d_Mo_needed_29 : decode prog_13_method_80_code 29 = .ok (.iload_n 2, 1) := by decide +kernel
theorem d_Mo_needed_30 : decode prog_13_method_80_code 30 = .ok (.iconst 2, 1) := by decide +kernel
theorem d_Mo_needed_31 : decode prog_13_method_80_code 31 = .ok (.invokevirtual 249, 3) := by decide +kernel
theorem d_Mo_needed_34 : decode prog_13_method_80_code 34 = .ok (.iconst 1, 1) := by decide +kernel
theorem d_Mo_needed_35 : decode prog_13_method_80_code 35 = .ok (.if_icmp .le 7, 3) := by decide +kernel
theorem d_Mo_needed_38 : decode prog_13_method_80_code 38 = .ok (.iconst 1, 1) := by decide +kernel
theorem d_Mo_needed_39 : decode prog_13_method_80_code 39 = .ok (.goto 4, 3) := by decide +kernel
theorem d_Mo_needed_42 : decode prog_13_method_80_code 42 = .ok (.iconst 0, 1) := by decide +kernel
theorem d_Mo_needed_43 : decode prog_13_method_80_code 43 = .ok (.iadd, 1) := by decide +kernel
theorem d_Mo_needed_44 : decode prog_13_method_80_code 44 = .ok (.istore_n 1, 1) := by decide +kernel
theorem d_Mo_needed_45 : decode prog_13_method_80_code 45 = .ok (.iinc 2 1, 3) := by decide +kernel
theorem d_Mo_needed_48 : decode prog_13_method_80_code 48 = .ok (.goto (-39), 3) := by decide +kernel
theorem d_Mo_needed_51 : decode prog_13_method_80_code 51 = .ok (.iload_n 1, 1) := by decide +kernel
theorem d_Mo_needed_52 : decode prog_13_method_80_code 52 = .ok (.ireturn, 1) := by decide +kernel
def b_Mo_needed_43 (F : Nat) (k9 : Nat → Int32 → Int32 → PH → Option (Int32 × PH)) (a0 : Nat) (i2 : Int32) (s0 : Int32) (s1 : Int32) (h : PH) : Option (Int32 × PH) :=
  k9 a0 (s1 + s0) (i2 + (1 : Int32)) h
theorem g_Mo_needed_43 {l : Launch} {E : ET} {d : Nat} (hd : 9 ≤ d) {F : Nat} {r : Int32} {h9 : PH} {x : Nat} {k9 : Nat → Int32 → Int32 → PH → Option (Int32 × PH)} (hk9 : ∀ (a0 : Nat) (i1 : Int32) (i2 : Int32) (hh : PH), k9 a0 i1 i2 hh = some (r, h9) → Go l E m_Mo_needed (rm d 0 0) (KM E 0 0 (PoE (some (.int r)) h9 x)) 0 0 hh x 9 [(0, .ref a0), (1, .int i1), (2, .int i2)] []) (a0 : Nat) (i2 : Int32) (s0 : Int32) (s1 : Int32) (h : PH) (hf : b_Mo_needed_43 F k9 a0 i2 s0 s1 h = some (r, h9)) : Go l E m_Mo_needed (rm d 0 0) (KM E 0 0 (PoE (some (.int r)) h9 x)) 0 0 h x 43 [(0, .ref a0), (2, .int i2)] [.int s0, .int s1] := by
  unfold b_Mo_needed_43 at hf
  refine go_iadd d_Mo_needed_43 ?_
  refine go_istore_n (lv' := [(1, .int (s1 + s0)), (0, .ref a0), (2, .int i2)]) d_Mo_needed_44 rfl (by decide) ?_
  refine go_iinc (lv' := [(2, .int (i2 + (1 : Int32))), (1, .int (s1 + s0)), (0, .ref a0)]) 2 (i2 + (1 : Int32)) d_Mo_needed_45 rfl rfl rfl (by decide) ?_
  refine go_goto 9 d_Mo_needed_48 (by decide) ?_
  refine go_sub (lv' := [(0, .ref a0), (1, .int (s1 + s0)), (2, .int (i2 + (1 : Int32)))]) [2, 1, 0] rfl ?_
  exact hk9 a0 (s1 + s0) (i2 + (1 : Int32)) h hf
def b_Mo_needed_42 (F : Nat) (k9 : Nat → Int32 → Int32 → PH → Option (Int32 × PH)) (a0 : Nat) (i2 : Int32) (s0 : Int32) (h : PH) : Option (Int32 × PH) :=
  b_Mo_needed_43 F k9 a0 i2 (0 : Int32) s0 h
theorem g_Mo_needed_42 {l : Launch} {E : ET} {d : Nat} (hd : 9 ≤ d) {F : Nat} {r : Int32} {h9 : PH} {x : Nat} {k9 : Nat → Int32 → Int32 → PH → Option (Int32 × PH)} (hk9 : ∀ (a0 : Nat) (i1 : Int32) (i2 : Int32) (hh : PH), k9 a0 i1 i2 hh = some (r, h9) → Go l E m_Mo_needed (rm d 0 0) (KM E 0 0 (PoE (some (.int r)) h9 x)) 0 0 hh x 9 [(0, .ref a0), (1, .int i1), (2, .int i2)] []) (a0 : Nat) (i2 : Int32) (s0 : Int32) (h : PH) (hf : b_Mo_needed_42 F k9 a0 i2 s0 h = some (r, h9)) : Go l E m_Mo_needed (rm d 0 0) (KM E 0 0 (PoE (some (.int r)) h9 x)) 0 0 h x 42 [(0, .ref a0), (2, .int i2)] [.int s0] := by
  unfold b_Mo_needed_42 at hf
  refine go_iconst (0 : Int32) d_Mo_needed_42 (by decide) ?_
  refine go_sub (lv' := [(0, .ref a0), (2, .int i2)]) [0, 1] rfl ?_
  exact g_Mo_needed_43 hd hk9 a0 i2 (0 : Int32) s0 h hf
def b_Mo_needed_9 (F : Nat) (k9 : Nat → Int32 → Int32 → PH → Option (Int32 × PH)) (a0 : Nat) (i1 : Int32) (i2 : Int32) (h : PH) : Option (Int32 × PH) :=
  (if (36 : Int32) ≤ i2 then some (i1, h) else bnd (gR h a0 10 0) fun x1 => bnd (aI h x1 ((72 : Int32) + i2)) fun x2 => (if x2 ≤ (0 : Int32) then b_Mo_needed_42 F k9 a0 i2 i1 h else bnd (cK h a0 10) fun _ => bnd2 (f_Mo_solutionsWithout F a0 i2 (2 : Int32) h) fun x4 h5 => (if x4 ≤ (1 : Int32) then b_Mo_needed_42 F k9 a0 i2 i1 h5 else b_Mo_needed_43 F k9 a0 i2 (1 : Int32) i1 h5)))
def f_Mo_needed_9 (F : Nat) : Nat → Nat → Int32 → Int32 → PH → Option (Int32 × PH)
  | 0 => fun _ _ _ _ => none
  | n + 1 => b_Mo_needed_9 F (f_Mo_needed_9 F n)
theorem g_Mo_needed_9 {l : Launch} {E : ET} {d : Nat} (hd : 9 ≤ d) {F : Nat} {r : Int32} {h9 : PH} {x : Nat} {k9 : Nat → Int32 → Int32 → PH → Option (Int32 × PH)} (hk9 : ∀ (a0 : Nat) (i1 : Int32) (i2 : Int32) (hh : PH), k9 a0 i1 i2 hh = some (r, h9) → Go l E m_Mo_needed (rm d 0 0) (KM E 0 0 (PoE (some (.int r)) h9 x)) 0 0 hh x 9 [(0, .ref a0), (1, .int i1), (2, .int i2)] []) (a0 : Nat) (i1 : Int32) (i2 : Int32) (h : PH) (hf : b_Mo_needed_9 F k9 a0 i1 i2 h = some (r, h9)) : Go l E m_Mo_needed (rm d 0 0) (KM E 0 0 (PoE (some (.int r)) h9 x)) 0 0 h x 9 [(0, .ref a0), (1, .int i1), (2, .int i2)] [] := by
  unfold b_Mo_needed_9 at hf
  refine go_iload_n 2 d_Mo_needed_9 rfl ?_
  refine go_bipush (36 : Int32) d_Mo_needed_10 (by decide) ?_
  refine go_icmp_ge 51 d_Mo_needed_12 (by decide) (fun q8 => ?_) (fun q8 => ?_)
  · rw [if_pos q8] at hf
    refine go_iload_n 1 d_Mo_needed_51 rfl ?_
    obtain ⟨e8, e9⟩ := Prod.mk.inj (Option.some.inj hf)
    subst e8; subst e9
    exact go_iret d_Mo_needed_52 rfl ⟨rfl, rfl, rfl⟩
  · rw [if_neg q8] at hf
    refine go_iload_n 1 d_Mo_needed_15 rfl ?_
    refine go_aload_n 0 d_Mo_needed_16 rfl ?_
    obtain ⟨x1, e_x1, hf⟩ := bnd_x hf
    refine go_get d_Mo_needed_17 (gR_x e_x1) fl_Mo_7 ?_
    refine go_bipush (72 : Int32) d_Mo_needed_20 (by decide) ?_
    refine go_iload_n 2 d_Mo_needed_22 rfl ?_
    refine go_iadd d_Mo_needed_23 ?_
    obtain ⟨x2, e_x2, hf⟩ := bnd_x hf
    refine go_iaload d_Mo_needed_24 e_x2 ?_
    refine go_if_le 42 d_Mo_needed_25 (by decide) (fun q7 => ?_) (fun q7 => ?_)
    · rw [if_pos q7] at hf
      refine go_sub (lv' := [(0, .ref a0), (2, .int i2)]) [0, 2] rfl ?_
      exact g_Mo_needed_42 hd hk9 a0 i2 i1 h hf
    · rw [if_neg q7] at hf
      refine go_aload_n 0 d_Mo_needed_28 rfl ?_
      refine go_iload_n 2 d_Mo_needed_29 rfl ?_
      refine go_iconst (2 : Int32) d_Mo_needed_30 (by decide) ?_
      obtain ⟨_, e3, hf⟩ := bnd_x hf
      obtain ⟨x4, h5, e_x4, hf⟩ := bnd2_x hf
      refine go_callV_I (As := [.int i2, .int (2 : Int32)]) (st := [.int i1]) (c_Mo_solutionsWithout (d := d - 1) (by omega) e_x4) lk_Mo_249 rfl rfl e3 (by decide) rfl (rm_ok (by omega)) (Nat.le_of_ble_eq_true rfl) rm_c d_Mo_needed_31 ?_
      refine go_iconst (1 : Int32) d_Mo_needed_34 (by decide) ?_
      refine go_icmp_le 42 d_Mo_needed_35 (by decide) (fun q6 => ?_) (fun q6 => ?_)
      · rw [if_pos q6] at hf
        refine go_sub (lv' := [(0, .ref a0), (2, .int i2)]) [0, 2] rfl ?_
        exact g_Mo_needed_42 hd hk9 a0 i2 i1 h5 hf
      · rw [if_neg q6] at hf
        refine go_iconst (1 : Int32) d_Mo_needed_38 (by decide) ?_
        refine go_goto 43 d_Mo_needed_39 (by decide) ?_
        refine go_sub (lv' := [(0, .ref a0), (2, .int i2)]) [0, 2] rfl ?_
        exact g_Mo_needed_43 hd hk9 a0 i2 (1 : Int32) i1 h5 hf
theorem t_Mo_needed_9 {l : Launch} {E : ET} {d : Nat} (hd : 9 ≤ d) {F : Nat} {r : Int32} {h9 : PH} {x : Nat}  : ∀ (n : Nat) (a0 : Nat) (i1 : Int32) (i2 : Int32) (hh : PH), f_Mo_needed_9 F n a0 i1 i2 hh = some (r, h9) → Go l E m_Mo_needed (rm d 0 0) (KM E 0 0 (PoE (some (.int r)) h9 x)) 0 0 hh x 9 [(0, .ref a0), (1, .int i1), (2, .int i2)] [] := by
  intro n
  induction n with
  | zero => intro v0 v1 v2 v3 hf; cases hf
  | succ n ih => intro v0 v1 v2 v3 hf; exact g_Mo_needed_9 hd ih v0 v1 v2 v3 hf
def f_Mo_needed (F : Nat) (a0 : Nat) (h : PH) : Option (Int32 × PH) :=
  bnd (pV h a0 10 5 (.int (0 : Int32))) fun h1 => f_Mo_needed_9 F F a0 (0 : Int32) (0 : Int32) h1
theorem g_Mo_needed_0 {l : Launch} {E : ET} {d : Nat} (hd : 9 ≤ d) {F : Nat} {r : Int32} {h9 : PH} {x : Nat}  (a0 : Nat) (h : PH) (hf : f_Mo_needed F a0 h = some (r, h9)) : Go l E m_Mo_needed (rm d 0 0) (KM E 0 0 (PoE (some (.int r)) h9 x)) 0 0 h x 0 [(0, .ref a0)] [] := by
  unfold f_Mo_needed at hf
  refine go_aload_n 0 d_Mo_needed_0 rfl ?_
  refine go_iconst (0 : Int32) d_Mo_needed_1 (by decide) ?_
  obtain ⟨h1, e_h1, hf⟩ := bnd_x hf
  refine go_putI d_Mo_needed_2 e_h1 fl_Mo_52 rfl rfl ?_
  refine go_iconst (0 : Int32) d_Mo_needed_5 (by decide) ?_
  refine go_istore_n (lv' := [(1, .int (0 : Int32)), (0, .ref a0)]) d_Mo_needed_6 rfl (by decide) ?_
  refine go_iconst (0 : Int32) d_Mo_needed_7 (by decide) ?_
  refine go_istore_n (lv' := [(2, .int (0 : Int32)), (1, .int (0 : Int32)), (0, .ref a0)]) d_Mo_needed_8 rfl (by decide) ?_
  refine go_sub (lv' := [(0, .ref a0), (1, .int (0 : Int32)), (2, .int (0 : Int32))]) [2, 1, 0] rfl ?_
  exact t_Mo_needed_9 hd  _ a0 (0 : Int32) (0 : Int32) h1 hf
theorem c_Mo_needed {l : Launch} {E : ET} {d : Nat} (hd : 9 ≤ d) {F : Nat} {r : Int32} {h9 : PH} {x : Nat} {a0 : Nat} {h : PH} (hf : f_Mo_needed F a0 h = some (r, h9)) : Fn l E m_Mo_needed d 0 0 [.ref a0] h x (PoE (some (.int r)) h9 x) :=
  Fn.of (by decide +kernel) (Nat.le_of_ble_eq_true rfl) (g_Mo_needed_0 hd a0 h hf)
