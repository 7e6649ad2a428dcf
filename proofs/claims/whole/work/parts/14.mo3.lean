/-! 14.mo3: methods as functions, by program. -/
theorem d_Mo_solve_0 : decode prog_13_method_43_code 0 = .ok (.aload_n 0, 1) := by decide +kernel
theorem d_Mo_solve_1 : decode prog_13_method_43_code 1 = .ok (.iconst 0, 1) := by decide +kernel
theorem d_Mo_solve_2 : decode prog_13_method_43_code 2 = .ok (.putfield 175, 3) := by decide +kernel
theorem d_Mo_solve_5 : decode prog_13_method_43_code 5 = .ok (.aload_n 0, 1) := by decide +kernel
theorem d_Mo_solve_6 : decode prog_13_method_43_code 6 = .ok (.iconst 0, 1) := by decide +kernel
theorem d_Mo_solve_7 : decode prog_13_method_43_code 7 = .ok (.putfield 178, 3) := by decide +kernel
theorem d_Mo_solve_10 : decode prog_13_method_43_code 10 = .ok (.iconst 0, 1) := by decide +kernel
theorem d_Mo_solve_11 : decode prog_13_method_43_code 11 = .ok (.istore_n 2, 1) := by decide +kernel
theorem d_Mo_solve_12 : decode prog_13_method_43_code 12 = .ok (.iload_n 2, 1) := by decide +kernel
theorem d_Mo_solve_13 : decode prog_13_method_43_code 13 = .ok (.bipush 36, 2) := by decide +kernel
theorem d_Mo_solve_15 : decode prog_13_method_43_code 15 = .ok (.if_icmp .ge 16, 3) := by decide +kernel
theorem d_Mo_solve_18 : decode prog_13_method_43_code 18 = .ok (.aload_n 0, 1) := by decide +kernel
theorem d_Mo_solve_19 : decode prog_13_method_43_code 19 = .ok (.getfield 40, 3) := by decide +kernel
theorem d_Mo_solve_22 : decode prog_13_method_43_code 22 = .ok (.iload_n 2, 1) := by decide +kernel
theorem d_Mo_solve_23 : decode prog_13_method_43_code 23 = .ok (.iconst 0, 1) := by decide +kernel
theorem d_Mo_solve_24 : decode prog_13_method_43_code 24 = .ok (.iastore, 1) := by decide +kernel
theorem d_Mo_solve_25 : decode prog_13_method_43_code 25 = .ok (.iinc 2 1, 3) := by decide +kernel
theorem d_Mo_solve_28 : decode prog_13_method_43_code 28 = .ok (.goto (-16), 3) := by decide +kernel
theorem d_Mo_solve_31 : decode prog_13_method_43_code 31 = .ok (.iconst 0, 1) := by decide +kernel
theorem d_Mo_solve_32 : decode prog_13_method_43_code 32 = .ok (.istore_n 2, 1) := by decide +kernel
theorem d_Mo_solve_33 : decode prog_13_method_43_code 33 = .ok (.iconst 1, 1) := by decide +kernel
theorem d_Mo_solve_34 : decode prog_13_method_43_code 34 = .ok (.istore_n 3, 1) := by decide +kernel
theorem d_Mo_solve_35 : decode prog_13_method_43_code 35 = .ok (.iload_n 3, 1) := by decide +kernel
theorem d_Mo_solve_36 : decode prog_13_method_43_code 36 = .ok (.ifCond .eq 211, 3) := by decide +kernel
theorem d_Mo_solve_39 : decode prog_13_method_43_code 39 = .ok (.aload_n 0, 1) := by decide +kernel
theorem d_Mo_solve_40 : decode prog_13_method_43_code 40 = .ok (.aload_n 0, 1) := by decide +kernel
theorem d_Mo_solve_41 : decode prog_13_method_43_code 41 = .ok (.getfield 25, 3) := by decide +kernel
theorem d_Mo_solve_44 : decode prog_13_method_43_code 44 = .ok (.invokevirtual 184, 3) := by decide +kernel
theorem d_Mo_solve_47 : decode prog_13_method_43_code 47 = .ok (.ifCond .eq 8, 3) := by decide +kernel
theorem d_Mo_solve_50 : decode prog_13_method_43_code 50 = .ok (.iconst 1, 1) := by decide +kernel
theorem d_Mo_solve_51 : decode prog_13_method_43_code 51 = .ok (.istore_n 3, 1) := by decide +kernel
theorem d_Mo_solve_52 : decode prog_13_method_43_code 52 = .ok (.goto (-13), 3) := by decide +kernel
theorem d_Mo_solve_55 : decode prog_13_method_43_code 55 = .ok (.aload_n 0, 1) := by decide +kernel
theorem d_Mo_solve_56 : decode prog_13_method_43_code 56 = .ok (.getfield 25, 3) := by decide +kernel
theorem d_Mo_solve_59 : decode prog_13_method_43_code 59 = .ok (.invokestatic 187, 3) := by decide +kernel
theorem d_Mo_solve_62 : decode prog_13_method_43_code 62 = .ok (.ifCond .eq 10, 3) := by decide +kernel
theorem d_Mo_solve_65 : decode prog_13_method_43_code 65 = .ok (.aload_n 0, 1) := by decide +kernel
theorem d_Mo_solve_66 : decode prog_13_method_43_code 66 = .ok (.invokevirtual 190, 3) := by decide +kernel
theorem d_Mo_solve_69 : decode prog_13_method_43_code 69 = .ok (.goto 57, 3) := by decide +kernel
theorem d_Mo_solve_72 : decode prog_13_method_43_code 72 = .ok (.aload_n 0, 1) := by decide +kernel
theorem d_Mo_solve_73 : decode prog_13_method_43_code 73 = .ok (.getfield 25, 3) := by decide +kernel
theorem d_Mo_solve_76 : decode prog_13_method_43_code 76 = .ok (.invokestatic 91, 3) := by decide +kernel
theorem d_Mo_solve_79 : decode prog_13_method_43_code 79 = .ok (.ifCond .ne 47, 3) := by decide +kernel
theorem d_Mo_solve_82 : decode prog_13_method_43_code 82 = .ok (.aload_n 0, 1) := by decide +kernel
theorem d_Mo_solve_83 : decode prog_13_method_43_code 83 = .ok (.getfield 31, 3) := by decide +kernel
theorem d_Mo_solve_86 : decode prog_13_method_43_code 86 = .ok (.iload_n 2, 1) := by decide +kernel
theorem d_Mo_solve_87 : decode prog_13_method_43_code 87 = .ok (.aload_n 0, 1) := by decide +kernel
theorem d_Mo_solve_88 : decode prog_13_method_43_code 88 = .ok (.invokevirtual 193, 3) := by decide +kernel
theorem d_Mo_solve_91 : decode prog_13_method_43_code 91 = .ok (.iastore, 1) := by decide +kernel
theorem d_Mo_solve_92 : decode prog_13_method_43_code 92 = .ok (.aload_n 0, 1) := by decide +kernel
theorem d_Mo_solve_93 : decode prog_13_method_43_code 93 = .ok (.getfield 34, 3) := by decide +kernel
theorem d_Mo_solve_96 : decode prog_13_method_43_code 96 = .ok (.iload_n 2, 1) := by decide +kernel
theorem d_Mo_solve_97 : decode prog_13_method_43_code 97 = .ok (.aload_n 0, 1) := by decide +kernel
theorem d_Mo_solve_98 : decode prog_13_method_43_code 98 = .ok (.getfield 25, 3) := by decide +kernel
theorem d_Mo_solve_101 : decode prog_13_method_43_code 101 = .ok (.aload_n 0, 1) := by decide +kernel
theorem d_Mo_solve_102 : decode prog_13_method_43_code 102 = .ok (.invokevirtual 193, 3) := by decide +kernel
theorem d_Mo_solve_105 : decode prog_13_method_43_code 105 = .ok (.iaload, 1) := by decide +kernel
theorem d_Mo_solve_106 : decode prog_13_method_43_code 106 = .ok (.iastore, 1) := by decide +kernel
theorem d_Mo_solve_107 : decode prog_13_method_43_code 107 = .ok (.aload_n 0, 1) := by decide +kernel
theorem d_Mo_solve_108 : decode prog_13_method_43_code 108 = .ok (.getfield 25, 3) := by decide +kernel
theorem d_Mo_solve_111 : decode prog_13_method_43_code 111 = .ok (.iconst 0, 1) := by decide +kernel
theorem d_Mo_solve_112 : decode prog_13_method_43_code 112 = .ok (.aload_n 0, 1) := by decide +kernel
theorem d_Mo_solve_113 : decode prog_13_method_43_code 113 = .ok (.getfield 28, 3) := by decide +kernel
theorem d_Mo_solve_116 : decode prog_13_method_43_code 116 = .ok (.bipush 72, 2) := by decide +kernel
theorem d_Mo_solve_118 : decode prog_13_method_43_code 118 = .ok (.iload_n 2, 1) := by decide +kernel
theorem d_Mo_solve_119 : decode prog_13_method_43_code 119 = .ok (.imul, 1) := by decide +kernel
theorem d_Mo_solve_120 : decode prog_13_method_43_code 120 = .ok (.invokestatic 197, 3) := by decide +kernel
theorem d_Mo_solve_123 : decode prog_13_method_43_code 123 = .ok (.iinc 2 1, 3) := by decide +kernel
theorem d_Mo_solve_126 : decode prog_13_method_43_code 126 = .ok (.iload_n 2, 1) := by decide +kernel
theorem d_Mo_solve_127 : decode prog_13_method_43_code 127 = .ok (.ifCond .le 20, 3) := by decide +kernel
theorem d_Mo_solve_130 : decode prog_13_method_43_code 130 = .ok (.aload_n 0, 1) := by decide +kernel
theorem d_Mo_solve_131 : decode prog_13_method_43_code 131 = .ok (.getfield 34, 3) := by decide +kernel
theorem d_Mo_solve_134 : decode prog_13_method_43_code 134 = .ok (.iload_n 2, 1) := by decide +kernel
theorem d_Mo_solve_135 : decode prog_13_method_43_code 135 = .ok (.iconst 1, 1) := by decide +kernel
theorem d_Mo_solve_136 : decode prog_13_method_43_code 136 = .ok (.isub, 1) := by decide +kernel
theorem d_Mo_solve_137 : decode prog_13_method_43_code 137 = .ok (.iaload, 1) := by decide +kernel
theorem d_Mo_solve_138 : decode prog_13_method_43_code 138 = .ok (.ifCond .ne 9, 3) := by decide +kernel
theorem d_Mo_solve_141 : decode prog_13_method_43_code 141 = .ok (.iinc 2 (-1), 3) := by decide +kernel
theorem d_Mo_solve_144 : decode prog_13_method_43_code 144 = .ok (.goto (-18), 3) := by decide +kernel
theorem d_Mo_solve_147 : decode prog_13_method_43_code 147 = .ok (.iload_n 2, 1) := by decide +kernel
theorem d_Mo_solve_148 : decode prog_13_method_43_code 148 = .ok (.ifCond .le 15, 3) := by decide +kernel
theorem d_Mo_solve_151 : decode prog_13_method_43_code 151 = .ok (.aload_n 0, 1) := by decide +kernel
theorem d_Mo_solve_152 : decode prog_13_method_43_code 152 = .ok (.getfield 175, 3) := by decide +kernel
theorem d_Mo_solve_155 : decode prog_13_method_43_code 155 = .ok (.iload_n 1, 1) := by decide +kernel
theorem d_Mo_solve_156 : decode prog_13_method_43_code 156 = .ok (.if_icmp .ge 7, 3) := by decide +kernel
theorem d_Mo_solve_159 : decode prog_13_method_43_code 159 = .ok (.iconst 1, 1) := by decide +kernel
theorem d_Mo_solve_160 : decode prog_13_method_43_code 160 = .ok (.goto 4, 3) := by decide +kernel
theorem d_Mo_solve_163 : decode prog_13_method_43_code 163 = .ok (.iconst 0, 1) := by decide +kernel
theorem d_Mo_solve_164 : decode prog_13_method_43_code 164 = .ok (.istore_n 3, 1) := by decide +kernel
theorem d_Mo_solve_165 : decode prog_13_method_43_code 165 = .ok (.iload_n 3, 1) := by decide +kernel
theorem d_Mo_solve_166 : decode prog_13_method_43_code 166 = .ok (.ifCond .eq (-131), 3) := by decide +kernel
theorem d_Mo_solve_169 : decode prog_13_method_43_code 169 = .ok (.aload_n 0, 1) := by decide +kernel
theorem d_Mo_solve_170 : decode prog_13_method_43_code 170 = .ok (.getfield 34, 3) := by decide +kernel
theorem d_Mo_solve_173 : decode prog_13_method_43_code 173 = .ok (.iload_n 2, 1) := by decide +kernel
theorem d_Mo_solve_174 : decode prog_13_method_43_code 174 = .ok (.iconst 1, 1) := by decide +kernel
theorem d_Mo_solve_175 : decode prog_13_method_43_code 175 = .ok (.isub, 1) := by decide +kernel
theorem d_Mo_solve_176 : decode prog_13_method_43_code 176 = .ok (.iaload, 1) := by decide +kernel
theorem d_Mo_solve_177 : decode prog_13_method_43_code 177 = .ok (.invokestatic 114, 3) := by decide +kernel
theorem d_Mo_solve_180 : decode prog_13_method_43_code 180 = .ok (.istore 4, 2) := by decide +kernel
theorem d_Mo_solve_182 : decode prog_13_method_43_code 182 = .ok (.aload_n 0, 1) := by decide +kernel
theorem d_Mo_solve_183 : decode prog_13_method_43_code 183 = .ok (.getfield 34, 3) := by decide +kernel
theorem d_Mo_solve_186 : decode prog_13_method_43_code 186 = .ok (.iload_n 2, 1) := by decide +kernel
theorem d_Mo_solve_187 : decode prog_13_method_43_code 187 = .ok (.iconst 1, 1) := by decide +kernel
theorem d_Mo_solve_188 : decode prog_13_method_43_code 188 = .ok (.isub, 1) := by decide +kernel
theorem d_Mo_solve_189 : decode prog_13_method_43_code 189 = .ok (.dup2, 1) := by decide +kernel
theorem d_Mo_solve_190 : decode prog_13_method_43_code 190 = .ok (.iaload, 1) := by decide +kernel
theorem d_Mo_solve_191 : decode prog_13_method_43_code 191 = .ok (.iconst 1, 1) := by decide +kernel
theorem d_Mo_solve_192 : decode prog_13_method_43_code 192 = .ok (.iload 4, 2) := by decide +kernel
theorem d_Mo_solve_194 : decode prog_13_method_43_code 194 = .ok (.ishl, 1) := by decide +kernel
theorem d_Mo_solve_195 : decode prog_13_method_43_code 195 = .ok (.iconst (-1), 1) := by decide +kernel
theorem d_Mo_solve_196 : decode prog_13_method_43_code 196 = .ok (.ixor, 1) := by decide +kernel
theorem d_Mo_solve_197 : decode prog_13_method_43_code 197 = .ok (.iand, 1) := by decide +kernel
theorem d_Mo_solve_198 : decode prog_13_method_43_code 198 = .ok (.iastore, 1) := by decide +kernel
theorem d_Mo_solve_199 : decode prog_13_method_43_code 199 = .ok (.aload_n 0, 1) := by decide +kernel
theorem d_Mo_solve_200 : decode prog_13_method_43_code 200 = .ok (.dup, 1) := by decide +kernel
theorem d_Mo_solve_201 : decode prog_13_method_43_code 201 = .ok (.getfield 178, 3) := by decide +kernel
theorem d_Mo_solve_204 : decode prog_13_method_43_code 204 = .ok (.iconst 1, 1) := by decide +kernel
theorem d_Mo_solve_205 : decode prog_13_method_43_code 205 = .ok (.iadd, 1) := by decide +kernel
theorem d_Mo_solve_206 : decode prog_13_method_43_code 206 = .ok (.putfield 178, 3) := by decide +kernel
theorem d_Mo_solve_209 : decode prog_13_method_43_code 209 = .ok (.aload_n 0, 1) := by decide +kernel
theorem d_Mo_solve_210 : decode prog_13_method_43_code 210 = .ok (.getfield 28, 3) := by decide +kernel
theorem d_Mo_solve_213 : decode prog_13_method_43_code 213 = .ok (.bipush 72, 2) := by decide +kernel
theorem d_Mo_solve_215 : decode prog_13_method_43_code 215 = .ok (.iload_n 2, 1) := by decide +kernel
theorem d_Mo_solve_216 : decode prog_13_method_43_code 216 = .ok (.iconst 1, 1) := by decide +kernel
theorem d_Mo_solve_217 : decode prog_13_method_43_code 217 = .ok (.isub, 1) := by decide +kernel
theorem d_Mo_solve_218 : decode prog_13_method_43_code 218 = .ok (.imul, 1) := by decide +kernel
theorem d_Mo_solve_219 : decode prog_13_method_43_code 219 = .ok (.aload_n 0, 1) := by decide +kernel
theorem d_Mo_solve_220 : decode prog_13_method_43_code 220 = .ok (.getfield 25, 3) := by decide +kernel
theorem d_Mo_solve_223 : decode prog_13_method_43_code 223 = .ok (.iconst 0, 1) := by decide +kernel
theorem d_Mo_solve_224 : decode prog_13_method_43_code 224 = .ok (.invokestatic 197, 3) := by decide +kernel
theorem d_Mo_solve_227 : decode prog_13_method_43_code 227 = .ok (.aload_n 0, 1) := by decide +kernel
theorem d_Mo_solve_228 : decode prog_13_method_43_code 228 = .ok (.getfield 25, 3) := by decide +kernel
theorem d_Mo_solve_231 : decode prog_13_method_43_code 231 = .ok (.aload_n 0, 1) := by decide +kernel
theorem d_Mo_solve_232 : decode prog_13_method_43_code 232 = .ok (.getfield 31, 3) := by decide +kernel
theorem d_Mo_solve_235 : decode prog_13_method_43_code 235 = .ok (.iload_n 2, 1) := by decide +kernel
theorem d_Mo_solve_236 : decode prog_13_method_43_code 236 = .ok (.iconst 1, 1) := by decide +kernel
theorem d_Mo_solve_237 : decode prog_13_method_43_code 237 = .ok (.isub, 1) := by decide +kernel
theorem d_Mo_solve_238 : decode prog_13_method_43_code 238 = .ok (.iaload, 1) := by decide +kernel
theorem d_Mo_solve_239 : decode prog_13_method_43_code 239 = .ok (.iconst 1, 1) := by decide +kernel
theorem d_Mo_solve_240 : decode prog_13_method_43_code 240 = .ok (.iload 4, 2) := by decide +kernel
theorem d_Mo_solve_242 : decode prog_13_method_43_code 242 = .ok (.ishl, 1) := by decide +kernel
theorem d_Mo_solve_243 : decode prog_13_method_43_code 243 = .ok (.iastore, 1) := by decide +kernel
theorem d_Mo_solve_244 : decode prog_13_method_43_code 244 = .ok (.goto (-209), 3) := by decide +kernel
theorem d_Mo_solve_247 : decode prog_13_method_43_code 247 = .ok (.return_, 1) := by decide +kernel
def b_Mo_solve_164 (F : Nat) (k35 : Nat → Int32 → Int32 → Int32 → PH → Option PH) (a0 : Nat) (i1 : Int32) (i2 : Int32) (s0 : Int32) (h : PH) : Option PH :=
  (if s0 = (0 : Int32) then k35 a0 i1 i2 s0 h else bnd (gR h a0 10 14) fun x1 => bnd (aI h x1 (i2 - (1 : Int32))) fun x2 => bnd (f_Mo_least F x2) fun x3 => bnd (gR h a0 10 14) fun x4 => bnd (aI h x4 (i2 - (1 : Int32))) fun x5 => bnd (sI h x4 (i2 - (1 : Int32)) (x5 &&& (((1 : Int32) <<< (x3 &&& 31)) ^^^ (-1 : Int32)))) fun h6 => bnd (gI h6 a0 10 18) fun x7 => bnd (pV h6 a0 10 18 (.int (x7 + (1 : Int32)))) fun h8 => bnd (gR h8 a0 10 12) fun x9 => bnd (gR h8 a0 10 11) fun x10 => bnd (f_Mo_copyRow F x9 ((72 : Int32) * (i2 - (1 : Int32))) x10 (0 : Int32) h8) fun h11 => bnd (gR h11 a0 10 11) fun x12 => bnd (gR h11 a0 10 13) fun x13 => bnd (aI h11 x13 (i2 - (1 : Int32))) fun x14 => bnd (sI h11 x12 x14 ((1 : Int32) <<< (x3 &&& 31))) fun h15 => k35 a0 i1 i2 s0 h15)
theorem g_Mo_solve_164 {l : Launch} {E : ET} {d : Nat} (hd : 7 ≤ d) {F : Nat} {h9 : PH} {x : Nat} {k35 : Nat → Int32 → Int32 → Int32 → PH → Option PH} (hk35 : ∀ (a0 : Nat) (i1 : Int32) (i2 : Int32) (i3 : Int32) (hh : PH), k35 a0 i1 i2 i3 hh = some h9 → Go l E m_Mo_solve (rm d 0 0) (KM E 0 0 (PoE none h9 x)) 0 0 hh x 35 [(0, .ref a0), (1, .int i1), (2, .int i2), (3, .int i3)] []) (a0 : Nat) (i1 : Int32) (i2 : Int32) (s0 : Int32) (h : PH) (hf : b_Mo_solve_164 F k35 a0 i1 i2 s0 h = some h9) : Go l E m_Mo_solve (rm d 0 0) (KM E 0 0 (PoE none h9 x)) 0 0 h x 164 [(0, .ref a0), (1, .int i1), (2, .int i2)] [.int s0] := by
  unfold b_Mo_solve_164 at hf
  refine go_istore_n (lv' := [(3, .int s0), (0, .ref a0), (1, .int i1), (2, .int i2)]) d_Mo_solve_164 rfl (by decide) ?_
  refine go_iload_n 0 d_Mo_solve_165 rfl ?_
  refine go_if_eq 35 d_Mo_solve_166 (by decide) (fun q16 => ?_) (fun q16 => ?_)
  · rw [if_pos q16] at hf
    refine go_sub (lv' := [(0, .ref a0), (1, .int i1), (2, .int i2), (3, .int s0)]) [1, 2, 3, 0] rfl ?_
    exact hk35 a0 i1 i2 s0 h hf
  · rw [if_neg q16] at hf
    refine go_aload_n 1 d_Mo_solve_169 rfl ?_
    obtain ⟨x1, e_x1, hf⟩ := bnd_x hf
    refine go_get d_Mo_solve_170 (gR_x e_x1) fl_Mo_34 ?_
    refine go_iload_n 3 d_Mo_solve_173 rfl ?_
    refine go_iconst (1 : Int32) d_Mo_solve_174 (by decide) ?_
    refine go_isub d_Mo_solve_175 ?_
    obtain ⟨x2, e_x2, hf⟩ := bnd_x hf
    refine go_iaload d_Mo_solve_176 e_x2 ?_
    obtain ⟨x3, e_x3, hf⟩ := bnd_x hf
    refine go_callS_I (As := [.int x2]) (st := []) (c_Mo_least (d := d - 1) (by omega) e_x3) lk_Mo_114 rfl rfl (rm_ok (by omega)) (Nat.le_of_ble_eq_true rfl) rm_c d_Mo_solve_177 ?_
    refine go_istore (lv' := [(4, .int x3), (3, .int s0), (0, .ref a0), (1, .int i1), (2, .int i2)]) d_Mo_solve_180 rfl (by decide) ?_
    refine go_aload_n 2 d_Mo_solve_182 rfl ?_
    obtain ⟨x4, e_x4, hf⟩ := bnd_x hf
    refine go_get d_Mo_solve_183 (gR_x e_x4) fl_Mo_34 ?_
    refine go_iload_n 4 d_Mo_solve_186 rfl ?_
    refine go_iconst (1 : Int32) d_Mo_solve_187 (by decide) ?_
    refine go_isub d_Mo_solve_188 ?_
    refine go_dup2 d_Mo_solve_189 rfl rfl ?_
    obtain ⟨x5, e_x5, hf⟩ := bnd_x hf
    refine go_iaload d_Mo_solve_190 e_x5 ?_
    refine go_iconst (1 : Int32) d_Mo_solve_191 (by decide) ?_
    refine go_iload 0 d_Mo_solve_192 rfl ?_
    refine go_ishl d_Mo_solve_194 ?_
    refine go_iconst (-1 : Int32) d_Mo_solve_195 (by decide) ?_
    refine go_ixor d_Mo_solve_196 ?_
    refine go_iand d_Mo_solve_197 ?_
    obtain ⟨h6, e_h6, hf⟩ := bnd_x hf
    refine go_iastore d_Mo_solve_198 e_h6 ?_
    refine go_aload_n 2 d_Mo_solve_199 rfl ?_
    refine go_dup d_Mo_solve_200 rfl ?_
    obtain ⟨x7, e_x7, hf⟩ := bnd_x hf
    refine go_get d_Mo_solve_201 (gI_x e_x7) fl_Mo_178 ?_
    refine go_iconst (1 : Int32) d_Mo_solve_204 (by decide) ?_
    refine go_iadd d_Mo_solve_205 ?_
    obtain ⟨h8, e_h8, hf⟩ := bnd_x hf
    refine go_putI d_Mo_solve_206 e_h8 fl_Mo_178 rfl rfl ?_
    refine go_aload_n 2 d_Mo_solve_209 rfl ?_
    obtain ⟨x9, e_x9, hf⟩ := bnd_x hf
    refine go_get d_Mo_solve_210 (gR_x e_x9) fl_Mo_28 ?_
    refine go_bipush (72 : Int32) d_Mo_solve_213 (by decide) ?_
    refine go_iload_n 4 d_Mo_solve_215 rfl ?_
    refine go_iconst (1 : Int32) d_Mo_solve_216 (by decide) ?_
    refine go_isub d_Mo_solve_217 ?_
    refine go_imul d_Mo_solve_218 ?_
    refine go_aload_n 2 d_Mo_solve_219 rfl ?_
    obtain ⟨x10, e_x10, hf⟩ := bnd_x hf
    refine go_get d_Mo_solve_220 (gR_x e_x10) fl_Mo_25 ?_
    refine go_iconst (0 : Int32) d_Mo_solve_223 (by decide) ?_
    obtain ⟨h11, e_x11, hf⟩ := bnd_x hf
    refine go_callS_N (As := [.ref x9, .int ((72 : Int32) * (i2 - (1 : Int32))), .ref x10, .int (0 : Int32)]) (st := []) (c_Mo_copyRow (d := d - 1) (by omega) e_x11) lk_Mo_197 rfl rfl (rm_ok (by omega)) (Nat.le_of_ble_eq_true rfl) rm_c d_Mo_solve_224 ?_
    refine go_aload_n 2 d_Mo_solve_227 rfl ?_
    obtain ⟨x12, e_x12, hf⟩ := bnd_x hf
    refine go_get d_Mo_solve_228 (gR_x e_x12) fl_Mo_25 ?_
    refine go_aload_n 2 d_Mo_solve_231 rfl ?_
    obtain ⟨x13, e_x13, hf⟩ := bnd_x hf
    refine go_get d_Mo_solve_232 (gR_x e_x13) fl_Mo_31 ?_
    refine go_iload_n 4 d_Mo_solve_235 rfl ?_
    refine go_iconst (1 : Int32) d_Mo_solve_236 (by decide) ?_
    refine go_isub d_Mo_solve_237 ?_
    obtain ⟨x14, e_x14, hf⟩ := bnd_x hf
    refine go_iaload d_Mo_solve_238 e_x14 ?_
    refine go_iconst (1 : Int32) d_Mo_solve_239 (by decide) ?_
    refine go_iload 0 d_Mo_solve_240 rfl ?_
    refine go_ishl d_Mo_solve_242 ?_
    obtain ⟨h15, e_h15, hf⟩ := bnd_x hf
    refine go_iastore d_Mo_solve_243 e_h15 ?_
    refine go_goto 35 d_Mo_solve_244 (by decide) ?_
    refine go_sub (lv' := [(0, .ref a0), (1, .int i1), (2, .int i2), (3, .int s0)]) [2, 3, 4, 1] rfl ?_
    exact hk35 a0 i1 i2 s0 h15 hf
def b_Mo_solve_163 (F : Nat) (k35 : Nat → Int32 → Int32 → Int32 → PH → Option PH) (a0 : Nat) (i1 : Int32) (i2 : Int32) (h : PH) : Option PH :=
  b_Mo_solve_164 F k35 a0 i1 i2 (0 : Int32) h
theorem g_Mo_solve_163 {l : Launch} {E : ET} {d : Nat} (hd : 7 ≤ d) {F : Nat} {h9 : PH} {x : Nat} {k35 : Nat → Int32 → Int32 → Int32 → PH → Option PH} (hk35 : ∀ (a0 : Nat) (i1 : Int32) (i2 : Int32) (i3 : Int32) (hh : PH), k35 a0 i1 i2 i3 hh = some h9 → Go l E m_Mo_solve (rm d 0 0) (KM E 0 0 (PoE none h9 x)) 0 0 hh x 35 [(0, .ref a0), (1, .int i1), (2, .int i2), (3, .int i3)] []) (a0 : Nat) (i1 : Int32) (i2 : Int32) (h : PH) (hf : b_Mo_solve_163 F k35 a0 i1 i2 h = some h9) : Go l E m_Mo_solve (rm d 0 0) (KM E 0 0 (PoE none h9 x)) 0 0 h x 163 [(0, .ref a0), (1, .int i1), (2, .int i2)] [] := by
  unfold b_Mo_solve_163 at hf
  refine go_iconst (0 : Int32) d_Mo_solve_163 (by decide) ?_
  refine go_sub (lv' := [(0, .ref a0), (1, .int i1), (2, .int i2)]) [0, 1, 2] rfl ?_
  exact g_Mo_solve_164 hd hk35 a0 i1 i2 (0 : Int32) h hf
def b_Mo_solve_147 (F : Nat) (k35 : Nat → Int32 → Int32 → Int32 → PH → Option PH) (a0 : Nat) (i1 : Int32) (i2 : Int32) (h : PH) : Option PH :=
  (if i2 ≤ (0 : Int32) then b_Mo_solve_163 F k35 a0 i1 i2 h else bnd (gI h a0 10 17) fun x1 => (if i1 ≤ x1 then b_Mo_solve_163 F k35 a0 i1 i2 h else b_Mo_solve_164 F k35 a0 i1 i2 (1 : Int32) h))
theorem g_Mo_solve_147 {l : Launch} {E : ET} {d : Nat} (hd : 7 ≤ d) {F : Nat} {h9 : PH} {x : Nat} {k35 : Nat → Int32 → Int32 → Int32 → PH → Option PH} (hk35 : ∀ (a0 : Nat) (i1 : Int32) (i2 : Int32) (i3 : Int32) (hh : PH), k35 a0 i1 i2 i3 hh = some h9 → Go l E m_Mo_solve (rm d 0 0) (KM E 0 0 (PoE none h9 x)) 0 0 hh x 35 [(0, .ref a0), (1, .int i1), (2, .int i2), (3, .int i3)] []) (a0 : Nat) (i1 : Int32) (i2 : Int32) (h : PH) (hf : b_Mo_solve_147 F k35 a0 i1 i2 h = some h9) : Go l E m_Mo_solve (rm d 0 0) (KM E 0 0 (PoE none h9 x)) 0 0 h x 147 [(0, .ref a0), (1, .int i1), (2, .int i2)] [] := by
  unfold b_Mo_solve_147 at hf
  refine go_iload_n 2 d_Mo_solve_147 rfl ?_
  refine go_if_le 163 d_Mo_solve_148 (by decide) (fun q3 => ?_) (fun q3 => ?_)
  · rw [if_pos q3] at hf
    refine go_sub (lv' := [(0, .ref a0), (1, .int i1), (2, .int i2)]) [0, 1, 2] rfl ?_
    exact g_Mo_solve_163 hd hk35 a0 i1 i2 h hf
  · rw [if_neg q3] at hf
    refine go_aload_n 0 d_Mo_solve_151 rfl ?_
    obtain ⟨x1, e_x1, hf⟩ := bnd_x hf
    refine go_get d_Mo_solve_152 (gI_x e_x1) fl_Mo_175 ?_
    refine go_iload_n 1 d_Mo_solve_155 rfl ?_
    refine go_icmp_ge 163 d_Mo_solve_156 (by decide) (fun q2 => ?_) (fun q2 => ?_)
    · rw [if_pos q2] at hf
      refine go_sub (lv' := [(0, .ref a0), (1, .int i1), (2, .int i2)]) [0, 1, 2] rfl ?_
      exact g_Mo_solve_163 hd hk35 a0 i1 i2 h hf
    · rw [if_neg q2] at hf
      refine go_iconst (1 : Int32) d_Mo_solve_159 (by decide) ?_
      refine go_goto 164 d_Mo_solve_160 (by decide) ?_
      refine go_sub (lv' := [(0, .ref a0), (1, .int i1), (2, .int i2)]) [0, 1, 2] rfl ?_
      exact g_Mo_solve_164 hd hk35 a0 i1 i2 (1 : Int32) h hf
def b_Mo_solve_126 (F : Nat) (k35 : Nat → Int32 → Int32 → Int32 → PH → Option PH) (k126 : Nat → Int32 → Int32 → PH → Option PH) (a0 : Nat) (i1 : Int32) (i2 : Int32) (h : PH) : Option PH :=
  (if i2 ≤ (0 : Int32) then b_Mo_solve_147 F k35 a0 i1 i2 h else bnd (gR h a0 10 14) fun x1 => bnd (aI h x1 (i2 - (1 : Int32))) fun x2 => (if x2 = (0 : Int32) then k126 a0 i1 (i2 + (-1 : Int32)) h else b_Mo_solve_147 F k35 a0 i1 i2 h))
def f_Mo_solve_126 (F : Nat) (k35 : Nat → Int32 → Int32 → Int32 → PH → Option PH) : Nat → Nat → Int32 → Int32 → PH → Option PH
  | 0 => fun _ _ _ _ => none
  | n + 1 => b_Mo_solve_126 F k35 (f_Mo_solve_126 F k35 n)
theorem g_Mo_solve_126 {l : Launch} {E : ET} {d : Nat} (hd : 7 ≤ d) {F : Nat} {h9 : PH} {x : Nat} {k35 : Nat → Int32 → Int32 → Int32 → PH → Option PH} (hk35 : ∀ (a0 : Nat) (i1 : Int32) (i2 : Int32) (i3 : Int32) (hh : PH), k35 a0 i1 i2 i3 hh = some h9 → Go l E m_Mo_solve (rm d 0 0) (KM E 0 0 (PoE none h9 x)) 0 0 hh x 35 [(0, .ref a0), (1, .int i1), (2, .int i2), (3, .int i3)] []) {k126 : Nat → Int32 → Int32 → PH → Option PH} (hk126 : ∀ (a0 : Nat) (i1 : Int32) (i2 : Int32) (hh : PH), k126 a0 i1 i2 hh = some h9 → Go l E m_Mo_solve (rm d 0 0) (KM E 0 0 (PoE none h9 x)) 0 0 hh x 126 [(0, .ref a0), (1, .int i1), (2, .int i2)] []) (a0 : Nat) (i1 : Int32) (i2 : Int32) (h : PH) (hf : b_Mo_solve_126 F k35 k126 a0 i1 i2 h = some h9) : Go l E m_Mo_solve (rm d 0 0) (KM E 0 0 (PoE none h9 x)) 0 0 h x 126 [(0, .ref a0), (1, .int i1), (2, .int i2)] [] := by
  unfold b_Mo_solve_126 at hf
  refine go_iload_n 2 d_Mo_solve_126 rfl ?_
  refine go_if_le 147 d_Mo_solve_127 (by decide) (fun q4 => ?_) (fun q4 => ?_)
  · rw [if_pos q4] at hf
    refine go_sub (lv' := [(0, .ref a0), (1, .int i1), (2, .int i2)]) [0, 1, 2] rfl ?_
    exact g_Mo_solve_147 hd hk35 a0 i1 i2 h hf
  · rw [if_neg q4] at hf
    refine go_aload_n 0 d_Mo_solve_130 rfl ?_
    obtain ⟨x1, e_x1, hf⟩ := bnd_x hf
    refine go_get d_Mo_solve_131 (gR_x e_x1) fl_Mo_34 ?_
    refine go_iload_n 2 d_Mo_solve_134 rfl ?_
    refine go_iconst (1 : Int32) d_Mo_solve_135 (by decide) ?_
    refine go_isub d_Mo_solve_136 ?_
    obtain ⟨x2, e_x2, hf⟩ := bnd_x hf
    refine go_iaload d_Mo_solve_137 e_x2 ?_
    refine go_if_ne 147 d_Mo_solve_138 (by decide) (fun q3 => ?_) (fun q3 => ?_)
    · rw [if_neg q3] at hf
      refine go_sub (lv' := [(0, .ref a0), (1, .int i1), (2, .int i2)]) [0, 1, 2] rfl ?_
      exact g_Mo_solve_147 hd hk35 a0 i1 i2 h hf
    · rw [if_pos q3] at hf
      refine go_iinc (lv' := [(2, .int (i2 + (-1 : Int32))), (0, .ref a0), (1, .int i1)]) 2 (i2 + (-1 : Int32)) d_Mo_solve_141 rfl rfl rfl (by decide) ?_
      refine go_goto 126 d_Mo_solve_144 (by decide) ?_
      refine go_sub (lv' := [(0, .ref a0), (1, .int i1), (2, .int (i2 + (-1 : Int32)))]) [1, 2, 0] rfl ?_
      exact hk126 a0 i1 (i2 + (-1 : Int32)) h hf
theorem t_Mo_solve_126 {l : Launch} {E : ET} {d : Nat} (hd : 7 ≤ d) {F : Nat} {h9 : PH} {x : Nat} {k35 : Nat → Int32 → Int32 → Int32 → PH → Option PH} (hk35 : ∀ (a0 : Nat) (i1 : Int32) (i2 : Int32) (i3 : Int32) (hh : PH), k35 a0 i1 i2 i3 hh = some h9 → Go l E m_Mo_solve (rm d 0 0) (KM E 0 0 (PoE none h9 x)) 0 0 hh x 35 [(0, .ref a0), (1, .int i1), (2, .int i2), (3, .int i3)] []) : ∀ (n : Nat) (a0 : Nat) (i1 : Int32) (i2 : Int32) (hh : PH), f_Mo_solve_126 F k35 n a0 i1 i2 hh = some h9 → Go l E m_Mo_solve (rm d 0 0) (KM E 0 0 (PoE none h9 x)) 0 0 hh x 126 [(0, .ref a0), (1, .int i1), (2, .int i2)] [] := by
  intro n
  induction n with
  | zero => intro v0 v1 v2 v3 hf; cases hf
  | succ n ih => intro v0 v1 v2 v3 hf; exact g_Mo_solve_126 hd hk35 ih v0 v1 v2 v3 hf
def b_Mo_solve_39 (F : Nat) (k35 : Nat → Int32 → Int32 → Int32 → PH → Option PH) (k39 : Nat → Int32 → Int32 → PH → Option PH) (a0 : Nat) (i1 : Int32) (i2 : Int32) (h : PH) : Option PH :=
  bnd (gR h a0 10 11) fun x1 => bnd (cK h a0 10) fun _ => bnd2 (f_Mo_next F a0 x1 h) fun x3 h4 => (if x3 = (0 : Int32) then bnd (gR h4 a0 10 11) fun x5 => bnd (f_Mo_isSolved F x5 h4) fun x6 => (if x6 = (0 : Int32) then bnd (gR h4 a0 10 11) fun x7 => bnd (f_Mo_isDead F x7 h4) fun x8 => (if x8 = (0 : Int32) then bnd (gR h4 a0 10 13) fun x9 => bnd (cK h4 a0 10) fun _ => bnd (f_Mo_fewest F a0 h4) fun x11 => bnd (sI h4 x9 i2 x11) fun h12 => bnd (gR h12 a0 10 14) fun x13 => bnd (gR h12 a0 10 11) fun x14 => bnd (cK h12 a0 10) fun _ => bnd (f_Mo_fewest F a0 h12) fun x16 => bnd (aI h12 x14 x16) fun x17 => bnd (sI h12 x13 i2 x17) fun h18 => bnd (gR h18 a0 10 11) fun x19 => bnd (gR h18 a0 10 12) fun x20 => bnd (f_Mo_copyRow F x19 (0 : Int32) x20 ((72 : Int32) * i2) h18) fun h21 => f_Mo_solve_126 F k35 F a0 i1 (i2 + (1 : Int32)) h21 else f_Mo_solve_126 F k35 F a0 i1 i2 h4) else bnd (cK h4 a0 10) fun _ => bnd (f_Mo_notesSolution F a0 h4) fun h24 => f_Mo_solve_126 F k35 F a0 i1 i2 h24) else k39 a0 i1 i2 h4)
def f_Mo_solve_39 (F : Nat) (k35 : Nat → Int32 → Int32 → Int32 → PH → Option PH) : Nat → Nat → Int32 → Int32 → PH → Option PH
  | 0 => fun _ _ _ _ => none
  | n + 1 => b_Mo_solve_39 F k35 (f_Mo_solve_39 F k35 n)
theorem g_Mo_solve_39 {l : Launch} {E : ET} {d : Nat} (hd : 7 ≤ d) {F : Nat} {h9 : PH} {x : Nat} {k35 : Nat → Int32 → Int32 → Int32 → PH → Option PH} (hk35 : ∀ (a0 : Nat) (i1 : Int32) (i2 : Int32) (i3 : Int32) (hh : PH), k35 a0 i1 i2 i3 hh = some h9 → Go l E m_Mo_solve (rm d 0 0) (KM E 0 0 (PoE none h9 x)) 0 0 hh x 35 [(0, .ref a0), (1, .int i1), (2, .int i2), (3, .int i3)] []) {k39 : Nat → Int32 → Int32 → PH → Option PH} (hk39 : ∀ (a0 : Nat) (i1 : Int32) (i2 : Int32) (hh : PH), k39 a0 i1 i2 hh = some h9 → Go l E m_Mo_solve (rm d 0 0) (KM E 0 0 (PoE none h9 x)) 0 0 hh x 39 [(0, .ref a0), (1, .int i1), (2, .int i2)] []) (a0 : Nat) (i1 : Int32) (i2 : Int32) (h : PH) (hf : b_Mo_solve_39 F k35 k39 a0 i1 i2 h = some h9) : Go l E m_Mo_solve (rm d 0 0) (KM E 0 0 (PoE none h9 x)) 0 0 h x 39 [(0, .ref a0), (1, .int i1), (2, .int i2)] [] := by
  unfold b_Mo_solve_39 at hf
  refine go_aload_n 0 d_Mo_solve_39 rfl ?_
  refine go_aload_n 0 d_Mo_solve_40 rfl ?_
  obtain ⟨x1, e_x1, hf⟩ := bnd_x hf
  refine go_get d_Mo_solve_41 (gR_x e_x1) fl_Mo_25 ?_
  obtain ⟨_, e2, hf⟩ := bnd_x hf
  obtain ⟨x3, h4, e_x3, hf⟩ := bnd2_x hf
  refine go_callV_I (As := [.ref x1]) (st := []) (c_Mo_next (d := d - 1) (by omega) e_x3) lk_Mo_184 rfl rfl e2 (by decide) rfl (rm_ok (by omega)) (Nat.le_of_ble_eq_true rfl) rm_c d_Mo_solve_44 ?_
  refine go_if_eq 55 d_Mo_solve_47 (by decide) (fun q26 => ?_) (fun q26 => ?_)
  · rw [if_pos q26] at hf
    refine go_aload_n 0 d_Mo_solve_55 rfl ?_
    obtain ⟨x5, e_x5, hf⟩ := bnd_x hf
    refine go_get d_Mo_solve_56 (gR_x e_x5) fl_Mo_25 ?_
    obtain ⟨x6, e_x6, hf⟩ := bnd_x hf
    refine go_callS_I (As := [.ref x5]) (st := []) (c_Mo_isSolved (d := d - 1) (by omega) e_x6) lk_Mo_187 rfl rfl (rm_ok (by omega)) (Nat.le_of_ble_eq_true rfl) rm_c d_Mo_solve_59 ?_
    refine go_if_eq 72 d_Mo_solve_62 (by decide) (fun q25 => ?_) (fun q25 => ?_)
    · rw [if_pos q25] at hf
      refine go_aload_n 0 d_Mo_solve_72 rfl ?_
      obtain ⟨x7, e_x7, hf⟩ := bnd_x hf
      refine go_get d_Mo_solve_73 (gR_x e_x7) fl_Mo_25 ?_
      obtain ⟨x8, e_x8, hf⟩ := bnd_x hf
      refine go_callS_I (As := [.ref x7]) (st := []) (c_Mo_isDead (d := d - 1) (by omega) e_x8) lk_Mo_91 rfl rfl (rm_ok (by omega)) (Nat.le_of_ble_eq_true rfl) rm_c d_Mo_solve_76 ?_
      refine go_if_ne 126 d_Mo_solve_79 (by decide) (fun q22 => ?_) (fun q22 => ?_)
      · rw [if_neg q22] at hf
        refine go_sub (lv' := [(0, .ref a0), (1, .int i1), (2, .int i2)]) [0, 1, 2] rfl ?_
        exact t_Mo_solve_126 hd hk35 _ a0 i1 i2 h4 hf
      · rw [if_pos q22] at hf
        refine go_aload_n 0 d_Mo_solve_82 rfl ?_
        obtain ⟨x9, e_x9, hf⟩ := bnd_x hf
        refine go_get d_Mo_solve_83 (gR_x e_x9) fl_Mo_31 ?_
        refine go_iload_n 2 d_Mo_solve_86 rfl ?_
        refine go_aload_n 0 d_Mo_solve_87 rfl ?_
        obtain ⟨_, e10, hf⟩ := bnd_x hf
        obtain ⟨x11, e_x11, hf⟩ := bnd_x hf
        refine go_callV_I (As := []) (st := [.int i2, .ref x9]) (c_Mo_fewest (d := d - 1) (by omega) e_x11) lk_Mo_193 rfl rfl e10 (by decide) rfl (rm_ok (by omega)) (Nat.le_of_ble_eq_true rfl) rm_c d_Mo_solve_88 ?_
        obtain ⟨h12, e_h12, hf⟩ := bnd_x hf
        refine go_iastore d_Mo_solve_91 e_h12 ?_
        refine go_aload_n 0 d_Mo_solve_92 rfl ?_
        obtain ⟨x13, e_x13, hf⟩ := bnd_x hf
        refine go_get d_Mo_solve_93 (gR_x e_x13) fl_Mo_34 ?_
        refine go_iload_n 2 d_Mo_solve_96 rfl ?_
        refine go_aload_n 0 d_Mo_solve_97 rfl ?_
        obtain ⟨x14, e_x14, hf⟩ := bnd_x hf
        refine go_get d_Mo_solve_98 (gR_x e_x14) fl_Mo_25 ?_
        refine go_aload_n 0 d_Mo_solve_101 rfl ?_
        obtain ⟨_, e15, hf⟩ := bnd_x hf
        obtain ⟨x16, e_x16, hf⟩ := bnd_x hf
        refine go_callV_I (As := []) (st := [.ref x14, .int i2, .ref x13]) (c_Mo_fewest (d := d - 1) (by omega) e_x16) lk_Mo_193 rfl rfl e15 (by decide) rfl (rm_ok (by omega)) (Nat.le_of_ble_eq_true rfl) rm_c d_Mo_solve_102 ?_
        obtain ⟨x17, e_x17, hf⟩ := bnd_x hf
        refine go_iaload d_Mo_solve_105 e_x17 ?_
        obtain ⟨h18, e_h18, hf⟩ := bnd_x hf
        refine go_iastore d_Mo_solve_106 e_h18 ?_
        refine go_aload_n 0 d_Mo_solve_107 rfl ?_
        obtain ⟨x19, e_x19, hf⟩ := bnd_x hf
        refine go_get d_Mo_solve_108 (gR_x e_x19) fl_Mo_25 ?_
        refine go_iconst (0 : Int32) d_Mo_solve_111 (by decide) ?_
        refine go_aload_n 0 d_Mo_solve_112 rfl ?_
        obtain ⟨x20, e_x20, hf⟩ := bnd_x hf
        refine go_get d_Mo_solve_113 (gR_x e_x20) fl_Mo_28 ?_
        refine go_bipush (72 : Int32) d_Mo_solve_116 (by decide) ?_
        refine go_iload_n 2 d_Mo_solve_118 rfl ?_
        refine go_imul d_Mo_solve_119 ?_
        obtain ⟨h21, e_x21, hf⟩ := bnd_x hf
        refine go_callS_N (As := [.ref x19, .int (0 : Int32), .ref x20, .int ((72 : Int32) * i2)]) (st := []) (c_Mo_copyRow (d := d - 1) (by omega) e_x21) lk_Mo_197 rfl rfl (rm_ok (by omega)) (Nat.le_of_ble_eq_true rfl) rm_c d_Mo_solve_120 ?_
        refine go_iinc (lv' := [(2, .int (i2 + (1 : Int32))), (0, .ref a0), (1, .int i1)]) 2 (i2 + (1 : Int32)) d_Mo_solve_123 rfl rfl rfl (by decide) ?_
        refine go_sub (lv' := [(0, .ref a0), (1, .int i1), (2, .int (i2 + (1 : Int32)))]) [1, 2, 0] rfl ?_
        exact t_Mo_solve_126 hd hk35 _ a0 i1 (i2 + (1 : Int32)) h21 hf
    · rw [if_neg q25] at hf
      refine go_aload_n 0 d_Mo_solve_65 rfl ?_
      obtain ⟨_, e23, hf⟩ := bnd_x hf
      obtain ⟨h24, e_x24, hf⟩ := bnd_x hf
      refine go_callV_N (As := []) (st := []) (c_Mo_notesSolution (d := d - 1) (by omega) e_x24) lk_Mo_190 rfl rfl e23 (by decide) rfl (rm_ok (by omega)) (Nat.le_of_ble_eq_true rfl) rm_c d_Mo_solve_66 ?_
      refine go_goto 126 d_Mo_solve_69 (by decide) ?_
      refine go_sub (lv' := [(0, .ref a0), (1, .int i1), (2, .int i2)]) [0, 1, 2] rfl ?_
      exact t_Mo_solve_126 hd hk35 _ a0 i1 i2 h24 hf
  · rw [if_neg q26] at hf
    refine go_iconst (1 : Int32) d_Mo_solve_50 (by decide) ?_
    refine go_istore_n (lv' := [(3, .int (1 : Int32)), (0, .ref a0), (1, .int i1), (2, .int i2)]) d_Mo_solve_51 rfl (by decide) ?_
    refine go_goto 39 d_Mo_solve_52 (by decide) ?_
    refine go_sub (lv' := [(0, .ref a0), (1, .int i1), (2, .int i2)]) [1, 2, 3] rfl ?_
    exact hk39 a0 i1 i2 h4 hf
theorem t_Mo_solve_39 {l : Launch} {E : ET} {d : Nat} (hd : 7 ≤ d) {F : Nat} {h9 : PH} {x : Nat} {k35 : Nat → Int32 → Int32 → Int32 → PH → Option PH} (hk35 : ∀ (a0 : Nat) (i1 : Int32) (i2 : Int32) (i3 : Int32) (hh : PH), k35 a0 i1 i2 i3 hh = some h9 → Go l E m_Mo_solve (rm d 0 0) (KM E 0 0 (PoE none h9 x)) 0 0 hh x 35 [(0, .ref a0), (1, .int i1), (2, .int i2), (3, .int i3)] []) : ∀ (n : Nat) (a0 : Nat) (i1 : Int32) (i2 : Int32) (hh : PH), f_Mo_solve_39 F k35 n a0 i1 i2 hh = some h9 → Go l E m_Mo_solve (rm d 0 0) (KM E 0 0 (PoE none h9 x)) 0 0 hh x 39 [(0, .ref a0), (1, .int i1), (2, .int i2)] [] := by
  intro n
  induction n with
  | zero => intro v0 v1 v2 v3 hf; cases hf
  | succ n ih => intro v0 v1 v2 v3 hf; exact g_Mo_solve_39 hd hk35 ih v0 v1 v2 v3 hf
def b_Mo_solve_35 (F : Nat) (k35 : Nat → Int32 → Int32 → Int32 → PH → Option PH) (a0 : Nat) (i1 : Int32) (i2 : Int32) (i3 : Int32) (h : PH) : Option PH :=
  (if i3 = (0 : Int32) then some h else f_Mo_solve_39 F k35 F a0 i1 i2 h)
def f_Mo_solve_35 (F : Nat) : Nat → Nat → Int32 → Int32 → Int32 → PH → Option PH
  | 0 => fun _ _ _ _ _ => none
  | n + 1 => b_Mo_solve_35 F (f_Mo_solve_35 F n)
theorem g_Mo_solve_35 {l : Launch} {E : ET} {d : Nat} (hd : 7 ≤ d) {F : Nat} {h9 : PH} {x : Nat} {k35 : Nat → Int32 → Int32 → Int32 → PH → Option PH} (hk35 : ∀ (a0 : Nat) (i1 : Int32) (i2 : Int32) (i3 : Int32) (hh : PH), k35 a0 i1 i2 i3 hh = some h9 → Go l E m_Mo_solve (rm d 0 0) (KM E 0 0 (PoE none h9 x)) 0 0 hh x 35 [(0, .ref a0), (1, .int i1), (2, .int i2), (3, .int i3)] []) (a0 : Nat) (i1 : Int32) (i2 : Int32) (i3 : Int32) (h : PH) (hf : b_Mo_solve_35 F k35 a0 i1 i2 i3 h = some h9) : Go l E m_Mo_solve (rm d 0 0) (KM E 0 0 (PoE none h9 x)) 0 0 h x 35 [(0, .ref a0), (1, .int i1), (2, .int i2), (3, .int i3)] [] := by
  unfold b_Mo_solve_35 at hf
  refine go_iload_n 3 d_Mo_solve_35 rfl ?_
  refine go_if_eq 247 d_Mo_solve_36 (by decide) (fun q1 => ?_) (fun q1 => ?_)
  · rw [if_pos q1] at hf
    have e9 := Option.some.inj hf
    subst e9
    exact go_vret d_Mo_solve_247 rfl ⟨rfl, rfl, rfl⟩
  · rw [if_neg q1] at hf
    refine go_sub (lv' := [(0, .ref a0), (1, .int i1), (2, .int i2)]) [0, 1, 2] rfl ?_
    exact t_Mo_solve_39 hd hk35 _ a0 i1 i2 h hf
theorem t_Mo_solve_35 {l : Launch} {E : ET} {d : Nat} (hd : 7 ≤ d) {F : Nat} {h9 : PH} {x : Nat}  : ∀ (n : Nat) (a0 : Nat) (i1 : Int32) (i2 : Int32) (i3 : Int32) (hh : PH), f_Mo_solve_35 F n a0 i1 i2 i3 hh = some h9 → Go l E m_Mo_solve (rm d 0 0) (KM E 0 0 (PoE none h9 x)) 0 0 hh x 35 [(0, .ref a0), (1, .int i1), (2, .int i2), (3, .int i3)] [] := by
  intro n
  induction n with
  | zero => intro v0 v1 v2 v3 v4 hf; cases hf
  | succ n ih => intro v0 v1 v2 v3 v4 hf; exact g_Mo_solve_35 hd ih v0 v1 v2 v3 v4 hf
def b_Mo_solve_12 (F : Nat) (k12 : Nat → Int32 → Int32 → PH → Option PH) (a0 : Nat) (i1 : Int32) (i2 : Int32) (h : PH) : Option PH :=
  (if (36 : Int32) ≤ i2 then f_Mo_solve_35 F F a0 i1 (0 : Int32) (1 : Int32) h else bnd (gR h a0 10 16) fun x1 => bnd (sI h x1 i2 (0 : Int32)) fun h2 => k12 a0 i1 (i2 + (1 : Int32)) h2)
def f_Mo_solve_12 (F : Nat) : Nat → Nat → Int32 → Int32 → PH → Option PH
  | 0 => fun _ _ _ _ => none
  | n + 1 => b_Mo_solve_12 F (f_Mo_solve_12 F n)
theorem g_Mo_solve_12 {l : Launch} {E : ET} {d : Nat} (hd : 7 ≤ d) {F : Nat} {h9 : PH} {x : Nat} {k12 : Nat → Int32 → Int32 → PH → Option PH} (hk12 : ∀ (a0 : Nat) (i1 : Int32) (i2 : Int32) (hh : PH), k12 a0 i1 i2 hh = some h9 → Go l E m_Mo_solve (rm d 0 0) (KM E 0 0 (PoE none h9 x)) 0 0 hh x 12 [(0, .ref a0), (1, .int i1), (2, .int i2)] []) (a0 : Nat) (i1 : Int32) (i2 : Int32) (h : PH) (hf : b_Mo_solve_12 F k12 a0 i1 i2 h = some h9) : Go l E m_Mo_solve (rm d 0 0) (KM E 0 0 (PoE none h9 x)) 0 0 h x 12 [(0, .ref a0), (1, .int i1), (2, .int i2)] [] := by
  unfold b_Mo_solve_12 at hf
  refine go_iload_n 2 d_Mo_solve_12 rfl ?_
  refine go_bipush (36 : Int32) d_Mo_solve_13 (by decide) ?_
  refine go_icmp_ge 31 d_Mo_solve_15 (by decide) (fun q3 => ?_) (fun q3 => ?_)
  · rw [if_pos q3] at hf
    refine go_iconst (0 : Int32) d_Mo_solve_31 (by decide) ?_
    refine go_istore_n (lv' := [(2, .int (0 : Int32)), (0, .ref a0), (1, .int i1)]) d_Mo_solve_32 rfl (by decide) ?_
    refine go_iconst (1 : Int32) d_Mo_solve_33 (by decide) ?_
    refine go_istore_n (lv' := [(3, .int (1 : Int32)), (2, .int (0 : Int32)), (0, .ref a0), (1, .int i1)]) d_Mo_solve_34 rfl (by decide) ?_
    refine go_sub (lv' := [(0, .ref a0), (1, .int i1), (2, .int (0 : Int32)), (3, .int (1 : Int32))]) [2, 3, 1, 0] rfl ?_
    exact t_Mo_solve_35 hd  _ a0 i1 (0 : Int32) (1 : Int32) h hf
  · rw [if_neg q3] at hf
    refine go_aload_n 0 d_Mo_solve_18 rfl ?_
    obtain ⟨x1, e_x1, hf⟩ := bnd_x hf
    refine go_get d_Mo_solve_19 (gR_x e_x1) fl_Mo_40 ?_
    refine go_iload_n 2 d_Mo_solve_22 rfl ?_
    refine go_iconst (0 : Int32) d_Mo_solve_23 (by decide) ?_
    obtain ⟨h2, e_h2, hf⟩ := bnd_x hf
    refine go_iastore d_Mo_solve_24 e_h2 ?_
    refine go_iinc (lv' := [(2, .int (i2 + (1 : Int32))), (0, .ref a0), (1, .int i1)]) 2 (i2 + (1 : Int32)) d_Mo_solve_25 rfl rfl rfl (by decide) ?_
    refine go_goto 12 d_Mo_solve_28 (by decide) ?_
    refine go_sub (lv' := [(0, .ref a0), (1, .int i1), (2, .int (i2 + (1 : Int32)))]) [1, 2, 0] rfl ?_
    exact hk12 a0 i1 (i2 + (1 : Int32)) h2 hf
theorem t_Mo_solve_12 {l : Launch} {E : ET} {d : Nat} (hd : 7 ≤ d) {F : Nat} {h9 : PH} {x : Nat}  : ∀ (n : Nat) (a0 : Nat) (i1 : Int32) (i2 : Int32) (hh : PH), f_Mo_solve_12 F n a0 i1 i2 hh = some h9 → Go l E m_Mo_solve (rm d 0 0) (KM E 0 0 (PoE none h9 x)) 0 0 hh x 12 [(0, .ref a0), (1, .int i1), (2, .int i2)] [] := by
  intro n
  induction n with
  | zero => intro v0 v1 v2 v3 hf; cases hf
  | succ n ih => intro v0 v1 v2 v3 hf; exact g_Mo_solve_12 hd ih v0 v1 v2 v3 hf
def f_Mo_solve (F : Nat) (a0 : Nat) (i1 : Int32) (h : PH) : Option PH :=
  bnd (pV h a0 10 17 (.int (0 : Int32))) fun h1 => bnd (pV h1 a0 10 18 (.int (0 : Int32))) fun h2 => f_Mo_solve_12 F F a0 i1 (0 : Int32) h2
theorem g_Mo_solve_0 {l : Launch} {E : ET} {d : Nat} (hd : 7 ≤ d) {F : Nat} {h9 : PH} {x : Nat}  (a0 : Nat) (i1 : Int32) (h : PH) (hf : f_Mo_solve F a0 i1 h = some h9) : Go l E m_Mo_solve (rm d 0 0) (KM E 0 0 (PoE none h9 x)) 0 0 h x 0 [(0, .ref a0), (1, .int i1)] [] := by
  unfold f_Mo_solve at hf
  refine go_aload_n 0 d_Mo_solve_0 rfl ?_
  refine go_iconst (0 : Int32) d_Mo_solve_1 (by decide) ?_
  obtain ⟨h1, e_h1, hf⟩ := bnd_x hf
  refine go_putI d_Mo_solve_2 e_h1 fl_Mo_175 rfl rfl ?_
  refine go_aload_n 0 d_Mo_solve_5 rfl ?_
  refine go_iconst (0 : Int32) d_Mo_solve_6 (by decide) ?_
  obtain ⟨h2, e_h2, hf⟩ := bnd_x hf
  refine go_putI d_Mo_solve_7 e_h2 fl_Mo_178 rfl rfl ?_
  refine go_iconst (0 : Int32) d_Mo_solve_10 (by decide) ?_
  refine go_istore_n (lv' := [(2, .int (0 : Int32)), (0, .ref a0), (1, .int i1)]) d_Mo_solve_11 rfl (by decide) ?_
  refine go_sub (lv' := [(0, .ref a0), (1, .int i1), (2, .int (0 : Int32))]) [1, 2, 0] rfl ?_
  exact t_Mo_solve_12 hd  _ a0 i1 (0 : Int32) h2 hf
theorem c_Mo_solve {l : Launch} {E : ET} {d : Nat} (hd : 7 ≤ d) {F : Nat} {h9 : PH} {x : Nat} {a0 : Nat} {i1 : Int32} {h : PH} (hf : f_Mo_solve F a0 i1 h = some h9) : Fn l E m_Mo_solve d 0 0 [.ref a0, .int i1] h x (PoE none h9 x) :=
  Fn.of (by decide +kernel) (Nat.le_of_ble_eq_true rfl) (g_Mo_solve_0 hd a0 i1 h hf)
theorem d_Mo_solveNow_0 : decode prog_13_method_44_code 0 = .ok (.aload_n 0, 1) := by decide +kernel
theorem d_Mo_solveNow_1 : decode prog_13_method_44_code 1 = .ok (.getfield 7, 3) := by decide +kernel
theorem d_Mo_solveNow_4 : decode prog_13_method_44_code 4 = .ok (.iconst 0, 1) := by decide +kernel
theorem d_Mo_solveNow_5 : decode prog_13_method_44_code 5 = .ok (.aload_n 0, 1) := by decide +kernel
theorem d_Mo_solveNow_6 : decode prog_13_method_44_code 6 = .ok (.getfield 25, 3) := by decide +kernel
theorem d_Mo_solveNow_9 : decode prog_13_method_44_code 9 = .ok (.iconst 0, 1) := by decide +kernel
theorem d_Mo_solveNow_10 : decode prog_13_method_44_code 10 = .ok (.invokestatic 197, 3) := by decide +kernel
theorem d_Mo_solveNow_13 : decode prog_13_method_44_code 13 = .ok (.aload_n 0, 1) := by decide +kernel
theorem d_Mo_solveNow_14 : decode prog_13_method_44_code 14 = .ok (.iload_n 1, 1) := by decide +kernel
theorem d_Mo_solveNow_15 : decode prog_13_method_44_code 15 = .ok (.invokevirtual 201, 3) := by decide +kernel
theorem d_Mo_solveNow_18 : decode prog_13_method_44_code 18 = .ok (.return_, 1) := by decide +kernel
def f_Mo_solveNow (F : Nat) (a0 : Nat) (i1 : Int32) (h : PH) : Option PH :=
  bnd (gR h a0 10 0) fun x1 => bnd (gR h a0 10 11) fun x2 => bnd (f_Mo_copyRow F x1 (0 : Int32) x2 (0 : Int32) h) fun h3 => bnd (cK h3 a0 10) fun _ => bnd (f_Mo_solve F a0 i1 h3) fun h5 => some h5
theorem g_Mo_solveNow_0 {l : Launch} {E : ET} {d : Nat} (hd : 8 ≤ d) {F : Nat} {h9 : PH} {x : Nat}  (a0 : Nat) (i1 : Int32) (h : PH) (hf : f_Mo_solveNow F a0 i1 h = some h9) : Go l E m_Mo_solveNow (rm d 0 0) (KM E 0 0 (PoE none h9 x)) 0 0 h x 0 [(0, .ref a0), (1, .int i1)] [] := by
  unfold f_Mo_solveNow at hf
  refine go_aload_n 0 d_Mo_solveNow_0 rfl ?_
  obtain ⟨x1, e_x1, hf⟩ := bnd_x hf
  refine go_get d_Mo_solveNow_1 (gR_x e_x1) fl_Mo_7 ?_
  refine go_iconst (0 : Int32) d_Mo_solveNow_4 (by decide) ?_
  refine go_aload_n 0 d_Mo_solveNow_5 rfl ?_
  obtain ⟨x2, e_x2, hf⟩ := bnd_x hf
  refine go_get d_Mo_solveNow_6 (gR_x e_x2) fl_Mo_25 ?_
  refine go_iconst (0 : Int32) d_Mo_solveNow_9 (by decide) ?_
  obtain ⟨h3, e_x3, hf⟩ := bnd_x hf
  refine go_callS_N (As := [.ref x1, .int (0 : Int32), .ref x2, .int (0 : Int32)]) (st := []) (c_Mo_copyRow (d := d - 1) (by omega) e_x3) lk_Mo_197 rfl rfl (rm_ok (by omega)) (Nat.le_of_ble_eq_true rfl) rm_c d_Mo_solveNow_10 ?_
  refine go_aload_n 0 d_Mo_solveNow_13 rfl ?_
  refine go_iload_n 1 d_Mo_solveNow_14 rfl ?_
  obtain ⟨_, e4, hf⟩ := bnd_x hf
  obtain ⟨h5, e_x5, hf⟩ := bnd_x hf
  refine go_callV_N (As := [.int i1]) (st := []) (c_Mo_solve (d := d - 1) (by omega) e_x5) lk_Mo_201 rfl rfl e4 (by decide) rfl (rm_ok (by omega)) (Nat.le_of_ble_eq_true rfl) rm_c d_Mo_solveNow_15 ?_
  have e9 := Option.some.inj hf
  subst e9
  exact go_vret d_Mo_solveNow_18 rfl ⟨rfl, rfl, rfl⟩
theorem c_Mo_solveNow {l : Launch} {E : ET} {d : Nat} (hd : 8 ≤ d) {F : Nat} {h9 : PH} {x : Nat} {a0 : Nat} {i1 : Int32} {h : PH} (hf : f_Mo_solveNow F a0 i1 h = some h9) : Fn l E m_Mo_solveNow d 0 0 [.ref a0, .int i1] h x (PoE none h9 x) :=
  Fn.of (by decide +kernel) (Nat.le_of_ble_eq_true rfl) (g_Mo_solveNow_0 hd a0 i1 h hf)
theorem d_Mo_solutionsWithout_0 : decode prog_13_method_45_code 0 = .ok (.iconst 0, 1) := by decide +kernel
theorem d_Mo_solutionsWithout_1 : decode prog_13_method_45_code 1 = .ok (.istore_n 3, 1) := by decide +kernel
theorem d_Mo_solutionsWithout_2 : decode prog_13_method_45_code 2 = .ok (.iload_n 3, 1) := by decide +kernel
theorem d_Mo_solutionsWithout_3 : decode prog_13_method_45_code 3 = .ok (.bipush 36, 2) := by decide +kernel
theorem d_Mo_solutionsWithout_5 : decode prog_13_method_45_code 5 = .ok (.if_icmp .ge 58, 3) := by decide +kernel
theorem d_Mo_solutionsWithout_8 : decode prog_13_method_45_code 8 = .ok (.aload_n 0, 1) := by decide +kernel
theorem d_Mo_solutionsWithout_9 : decode prog_13_method_45_code 9 = .ok (.getfield 25, 3) := by decide +kernel
theorem d_Mo_solutionsWithout_12 : decode prog_13_method_45_code 12 = .ok (.iload_n 3, 1) := by decide +kernel
theorem d_Mo_solutionsWithout_13 : decode prog_13_method_45_code 13 = .ok (.aload_n 0, 1) := by decide +kernel
theorem d_Mo_solutionsWithout_14 : decode prog_13_method_45_code 14 = .ok (.getfield 7, 3) := by decide +kernel
theorem d_Mo_solutionsWithout_17 : decode prog_13_method_45_code 17 = .ok (.bipush 72, 2) := by decide +kernel
theorem d_Mo_solutionsWithout_19 : decode prog_13_method_45_code 19 = .ok (.iload_n 3, 1) := by decide +kernel
theorem d_Mo_solutionsWithout_20 : decode prog_13_method_45_code 20 = .ok (.iadd, 1) := by decide +kernel
theorem d_Mo_solutionsWithout_21 : decode prog_13_method_45_code 21 = .ok (.iaload, 1) := by decide +kernel
theorem d_Mo_solutionsWithout_22 : decode prog_13_method_45_code 22 = .ok (.ifCond .le 22, 3) := by decide +kernel
theorem d_Mo_solutionsWithout_25 : decode prog_13_method_45_code 25 = .ok (.iload_n 3, 1) := by decide +kernel
theorem d_Mo_solutionsWithout_26 : decode prog_13_method_45_code 26 = .ok (.iload_n 1, 1) := by decide +kernel
theorem d_Mo_solutionsWithout_27 : decode prog_13_method_45_code 27 = .ok (.if_icmp .eq 17, 3) := by decide +kernel
theorem d_Mo_solutionsWithout_30 : decode prog_13_method_45_code 30 = .ok (.iconst 1, 1) := by decide +kernel
theorem d_Mo_solutionsWithout_31 : decode prog_13_method_45_code 31 = .ok (.aload_n 0, 1) := by decide +kernel
theorem d_Mo_solutionsWithout_32 : decode prog_13_method_45_code 32 = .ok (.getfield 7, 3) := by decide +kernel
theorem d_Mo_solutionsWithout_35 : decode prog_13_method_45_code 35 = .ok (.bipush 72, 2) := by decide +kernel
theorem d_Mo_solutionsWithout_37 : decode prog_13_method_45_code 37 = .ok (.iload_n 3, 1) := by decide +kernel
theorem d_Mo_solutionsWithout_38 : decode prog_13_method_45_code 38 = .ok (.iadd, 1) := by decide +kernel
theorem d_Mo_solutionsWithout_39 : decode prog_13_method_45_code 39 = .ok (.iaload, 1) := by decide +kernel
theorem d_Mo_solutionsWithout_40 : decode prog_13_method_45_code 40 = .ok (.ishl, 1) := by decide +kernel
theorem d_Mo_solutionsWithout_41 : decode prog_13_method_45_code 41 = .ok (.goto 5, 3) := by decide +kernel
theorem d_Mo_solutionsWithout_44 : decode prog_13_method_45_code 44 = .ok (.bipush 126, 2) := by decide +kernel
theorem d_Mo_solutionsWithout_46 : decode prog_13_method_45_code 46 = .ok (.iastore, 1) := by decide +kernel
theorem d_Mo_solutionsWithout_47 : decode prog_13_method_45_code 47 = .ok (.aload_n 0, 1) := by decide +kernel
theorem d_Mo_solutionsWithout_48 : decode prog_13_method_45_code 48 = .ok (.getfield 25, 3) := by decide +kernel
theorem d_Mo_solutionsWithout_51 : decode prog_13_method_45_code 51 = .ok (.bipush 36, 2) := by decide +kernel
theorem d_Mo_solutionsWithout_53 : decode prog_13_method_45_code 53 = .ok (.iload_n 3, 1) := by decide +kernel
theorem d_Mo_solutionsWithout_54 : decode prog_13_method_45_code 54 = .ok (.iadd, 1) := by decide +kernel
theorem d_Mo_solutionsWithout_55 : decode prog_13_method_45_code 55 = .ok (.iconst 0, 1) := by decide +kernel
theorem d_Mo_solutionsWithout_56 : decode prog_13_method_45_code 56 = .ok (.iastore, 1) := by decide +kernel
theorem d_Mo_solutionsWithout_57 : decode prog_13_method_45_code 57 = .ok (.iinc 3 1, 3) := by decide +kernel
theorem d_Mo_solutionsWithout_60 : decode prog_13_method_45_code 60 = .ok (.goto (-58), 3) := by decide +kernel
theorem d_Mo_solutionsWithout_63 : decode prog_13_method_45_code 63 = .ok (.aload_n 0, 1) := by decide +kernel
theorem d_Mo_solutionsWithout_64 : decode prog_13_method_45_code 64 = .ok (.iload_n 2, 1) := by decide +kernel
theorem d_Mo_solutionsWithout_65 : decode prog_13_method_45_code 65 = .ok (.invokevirtual 201, 3) := by decide +kernel
theorem d_Mo_solutionsWithout_68 : decode prog_13_method_45_code 68 = .ok (.aload_n 0, 1) := by decide +kernel
theorem d_Mo_solutionsWithout_69 : decode prog_13_method_45_code 69 = .ok (.getfield 175, 3) := by decide +kernel
theorem d_Mo_solutionsWithout_72 : decode prog_13_method_45_code 72 = .ok (.ireturn, 1) := by decide +kernel
def b_Mo_solutionsWithout_46 (F : Nat) (k2 : Nat → Int32 → Int32 → Int32 → PH → Option (Int32 × PH)) (a0 : Nat) (i1 : Int32) (i2 : Int32) (i3 : Int32) (s0 : Int32) (s1 : Int32) (s2 : Nat) (h : PH) : Option (Int32 × PH) :=
  bnd (sI h s2 s1 s0) fun h1 => bnd (gR h1 a0 10 11) fun x2 => bnd (sI h1 x2 ((36 : Int32) + i3) (0 : Int32)) fun h3 => k2 a0 i1 i2 (i3 + (1 : Int32)) h3
theorem g_Mo_solutionsWithout_46 {l : Launch} {E : ET} {d : Nat} (hd : 8 ≤ d) {F : Nat} {r : Int32} {h9 : PH} {x : Nat} {k2 : Nat → Int32 → Int32 → Int32 → PH → Option (Int32 × PH)} (hk2 : ∀ (a0 : Nat) (i1 : Int32) (i2 : Int32) (i3 : Int32) (hh : PH), k2 a0 i1 i2 i3 hh = some (r, h9) → Go l E m_Mo_solutionsWithout (rm d 0 0) (KM E 0 0 (PoE (some (.int r)) h9 x)) 0 0 hh x 2 [(0, .ref a0), (1, .int i1), (2, .int i2), (3, .int i3)] []) (a0 : Nat) (i1 : Int32) (i2 : Int32) (i3 : Int32) (s0 : Int32) (s1 : Int32) (s2 : Nat) (h : PH) (hf : b_Mo_solutionsWithout_46 F k2 a0 i1 i2 i3 s0 s1 s2 h = some (r, h9)) : Go l E m_Mo_solutionsWithout (rm d 0 0) (KM E 0 0 (PoE (some (.int r)) h9 x)) 0 0 h x 46 [(0, .ref a0), (1, .int i1), (2, .int i2), (3, .int i3)] [.int s0, .int s1, .ref s2] := by
  unfold b_Mo_solutionsWithout_46 at hf
  obtain ⟨h1, e_h1, hf⟩ := bnd_x hf
  refine go_iastore d_Mo_solutionsWithout_46 e_h1 ?_
  refine go_aload_n 0 d_Mo_solutionsWithout_47 rfl ?_
  obtain ⟨x2, e_x2, hf⟩ := bnd_x hf
  refine go_get d_Mo_solutionsWithout_48 (gR_x e_x2) fl_Mo_25 ?_
  refine go_bipush (36 : Int32) d_Mo_solutionsWithout_51 (by decide) ?_
  refine go_iload_n 3 d_Mo_solutionsWithout_53 rfl ?_
  refine go_iadd d_Mo_solutionsWithout_54 ?_
  refine go_iconst (0 : Int32) d_Mo_solutionsWithout_55 (by decide) ?_
  obtain ⟨h3, e_h3, hf⟩ := bnd_x hf
  refine go_iastore d_Mo_solutionsWithout_56 e_h3 ?_
  refine go_iinc (lv' := [(3, .int (i3 + (1 : Int32))), (0, .ref a0), (1, .int i1), (2, .int i2)]) 3 (i3 + (1 : Int32)) d_Mo_solutionsWithout_57 rfl rfl rfl (by decide) ?_
  refine go_goto 2 d_Mo_solutionsWithout_60 (by decide) ?_
  refine go_sub (lv' := [(0, .ref a0), (1, .int i1), (2, .int i2), (3, .int (i3 + (1 : Int32)))]) [1, 2, 3, 0] rfl ?_
  exact hk2 a0 i1 i2 (i3 + (1 : Int32)) h3 hf
def b_Mo_solutionsWithout_44 (F : Nat) (k2 : Nat → Int32 → Int32 → Int32 → PH → Option (Int32 × PH)) (a0 : Nat) (i1 : Int32) (i2 : Int32) (i3 : Int32) (s0 : Int32) (s1 : Nat) (h : PH) : Option (Int32 × PH) :=
  b_Mo_solutionsWithout_46 F k2 a0 i1 i2 i3 (126 : Int32) s0 s1 h
theorem g_Mo_solutionsWithout_44 {l : Launch} {E : ET} {d : Nat} (hd : 8 ≤ d) {F : Nat} {r : Int32} {h9 : PH} {x : Nat} {k2 : Nat → Int32 → Int32 → Int32 → PH → Option (Int32 × PH)} (hk2 : ∀ (a0 : Nat) (i1 : Int32) (i2 : Int32) (i3 : Int32) (hh : PH), k2 a0 i1 i2 i3 hh = some (r, h9) → Go l E m_Mo_solutionsWithout (rm d 0 0) (KM E 0 0 (PoE (some (.int r)) h9 x)) 0 0 hh x 2 [(0, .ref a0), (1, .int i1), (2, .int i2), (3, .int i3)] []) (a0 : Nat) (i1 : Int32) (i2 : Int32) (i3 : Int32) (s0 : Int32) (s1 : Nat) (h : PH) (hf : b_Mo_solutionsWithout_44 F k2 a0 i1 i2 i3 s0 s1 h = some (r, h9)) : Go l E m_Mo_solutionsWithout (rm d 0 0) (KM E 0 0 (PoE (some (.int r)) h9 x)) 0 0 h x 44 [(0, .ref a0), (1, .int i1), (2, .int i2), (3, .int i3)] [.int s0, .ref s1] := by
  unfold b_Mo_solutionsWithout_44 at hf
  refine go_bipush (126 : Int32) d_Mo_solutionsWithout_44 (by decide) ?_
  refine go_sub (lv' := [(0, .ref a0), (1, .int i1), (2, .int i2), (3, .int i3)]) [0, 1, 2, 3] rfl ?_
  exact g_Mo_solutionsWithout_46 hd hk2 a0 i1 i2 i3 (126 : Int32) s0 s1 h hf
def b_Mo_solutionsWithout_2 (F : Nat) (k2 : Nat → Int32 → Int32 → Int32 → PH → Option (Int32 × PH)) (a0 : Nat) (i1 : Int32) (i2 : Int32) (i3 : Int32) (h : PH) : Option (Int32 × PH) :=
  (if (36 : Int32) ≤ i3 then bnd (cK h a0 10) fun _ => bnd (f_Mo_solve F a0 i2 h) fun h2 => bnd (gI h2 a0 10 17) fun x3 => some (x3, h2) else bnd (gR h a0 10 11) fun x4 => bnd (gR h a0 10 0) fun x5 => bnd (aI h x5 ((72 : Int32) + i3)) fun x6 => (if x6 ≤ (0 : Int32) then b_Mo_solutionsWithout_44 F k2 a0 i1 i2 i3 i3 x4 h else (if i3 = i1 then b_Mo_solutionsWithout_44 F k2 a0 i1 i2 i3 i3 x4 h else bnd (gR h a0 10 0) fun x7 => bnd (aI h x7 ((72 : Int32) + i3)) fun x8 => b_Mo_solutionsWithout_46 F k2 a0 i1 i2 i3 ((1 : Int32) <<< (x8 &&& 31)) i3 x4 h)))
def f_Mo_solutionsWithout_2 (F : Nat) : Nat → Nat → Int32 → Int32 → Int32 → PH → Option (Int32 × PH)
  | 0 => fun _ _ _ _ _ => none
  | n + 1 => b_Mo_solutionsWithout_2 F (f_Mo_solutionsWithout_2 F n)
theorem g_Mo_solutionsWithout_2 {l : Launch} {E : ET} {d : Nat} (hd : 8 ≤ d) {F : Nat} {r : Int32} {h9 : PH} {x : Nat} {k2 : Nat → Int32 → Int32 → Int32 → PH → Option (Int32 × PH)} (hk2 : ∀ (a0 : Nat) (i1 : Int32) (i2 : Int32) (i3 : Int32) (hh : PH), k2 a0 i1 i2 i3 hh = some (r, h9) → Go l E m_Mo_solutionsWithout (rm d 0 0) (KM E 0 0 (PoE (some (.int r)) h9 x)) 0 0 hh x 2 [(0, .ref a0), (1, .int i1), (2, .int i2), (3, .int i3)] []) (a0 : Nat) (i1 : Int32) (i2 : Int32) (i3 : Int32) (h : PH) (hf : b_Mo_solutionsWithout_2 F k2 a0 i1 i2 i3 h = some (r, h9)) : Go l E m_Mo_solutionsWithout (rm d 0 0) (KM E 0 0 (PoE (some (.int r)) h9 x)) 0 0 h x 2 [(0, .ref a0), (1, .int i1), (2, .int i2), (3, .int i3)] [] := by
  unfold b_Mo_solutionsWithout_2 at hf
  refine go_iload_n 3 d_Mo_solutionsWithout_2 rfl ?_
  refine go_bipush (36 : Int32) d_Mo_solutionsWithout_3 (by decide) ?_
  refine go_icmp_ge 63 d_Mo_solutionsWithout_5 (by decide) (fun q11 => ?_) (fun q11 => ?_)
  · rw [if_pos q11] at hf
    refine go_aload_n 0 d_Mo_solutionsWithout_63 rfl ?_
    refine go_iload_n 2 d_Mo_solutionsWithout_64 rfl ?_
    obtain ⟨_, e1, hf⟩ := bnd_x hf
    obtain ⟨h2, e_x2, hf⟩ := bnd_x hf
    refine go_callV_N (As := [.int i2]) (st := []) (c_Mo_solve (d := d - 1) (by omega) e_x2) lk_Mo_201 rfl rfl e1 (by decide) rfl (rm_ok (by omega)) (Nat.le_of_ble_eq_true rfl) rm_c d_Mo_solutionsWithout_65 ?_
    refine go_aload_n 0 d_Mo_solutionsWithout_68 rfl ?_
    obtain ⟨x3, e_x3, hf⟩ := bnd_x hf
    refine go_get d_Mo_solutionsWithout_69 (gI_x e_x3) fl_Mo_175 ?_
    obtain ⟨e8, e9⟩ := Prod.mk.inj (Option.some.inj hf)
    subst e8; subst e9
    exact go_iret d_Mo_solutionsWithout_72 rfl ⟨rfl, rfl, rfl⟩
  · rw [if_neg q11] at hf
    refine go_aload_n 0 d_Mo_solutionsWithout_8 rfl ?_
    obtain ⟨x4, e_x4, hf⟩ := bnd_x hf
    refine go_get d_Mo_solutionsWithout_9 (gR_x e_x4) fl_Mo_25 ?_
    refine go_iload_n 3 d_Mo_solutionsWithout_12 rfl ?_
    refine go_aload_n 0 d_Mo_solutionsWithout_13 rfl ?_
    obtain ⟨x5, e_x5, hf⟩ := bnd_x hf
    refine go_get d_Mo_solutionsWithout_14 (gR_x e_x5) fl_Mo_7 ?_
    refine go_bipush (72 : Int32) d_Mo_solutionsWithout_17 (by decide) ?_
    refine go_iload_n 3 d_Mo_solutionsWithout_19 rfl ?_
    refine go_iadd d_Mo_solutionsWithout_20 ?_
    obtain ⟨x6, e_x6, hf⟩ := bnd_x hf
    refine go_iaload d_Mo_solutionsWithout_21 e_x6 ?_
    refine go_if_le 44 d_Mo_solutionsWithout_22 (by decide) (fun q10 => ?_) (fun q10 => ?_)
    · rw [if_pos q10] at hf
      refine go_sub (lv' := [(0, .ref a0), (1, .int i1), (2, .int i2), (3, .int i3)]) [0, 1, 2, 3] rfl ?_
      exact g_Mo_solutionsWithout_44 hd hk2 a0 i1 i2 i3 i3 x4 h hf
    · rw [if_neg q10] at hf
      refine go_iload_n 3 d_Mo_solutionsWithout_25 rfl ?_
      refine go_iload_n 1 d_Mo_solutionsWithout_26 rfl ?_
      refine go_icmp_eq 44 d_Mo_solutionsWithout_27 (by decide) (fun q9 => ?_) (fun q9 => ?_)
      · rw [if_pos q9] at hf
        refine go_sub (lv' := [(0, .ref a0), (1, .int i1), (2, .int i2), (3, .int i3)]) [0, 1, 2, 3] rfl ?_
        exact g_Mo_solutionsWithout_44 hd hk2 a0 i1 i2 i3 i3 x4 h hf
      · rw [if_neg q9] at hf
        refine go_iconst (1 : Int32) d_Mo_solutionsWithout_30 (by decide) ?_
        refine go_aload_n 0 d_Mo_solutionsWithout_31 rfl ?_
        obtain ⟨x7, e_x7, hf⟩ := bnd_x hf
        refine go_get d_Mo_solutionsWithout_32 (gR_x e_x7) fl_Mo_7 ?_
        refine go_bipush (72 : Int32) d_Mo_solutionsWithout_35 (by decide) ?_
        refine go_iload_n 3 d_Mo_solutionsWithout_37 rfl ?_
        refine go_iadd d_Mo_solutionsWithout_38 ?_
        obtain ⟨x8, e_x8, hf⟩ := bnd_x hf
        refine go_iaload d_Mo_solutionsWithout_39 e_x8 ?_
        refine go_ishl d_Mo_solutionsWithout_40 ?_
        refine go_goto 46 d_Mo_solutionsWithout_41 (by decide) ?_
        refine go_sub (lv' := [(0, .ref a0), (1, .int i1), (2, .int i2), (3, .int i3)]) [0, 1, 2, 3] rfl ?_
        exact g_Mo_solutionsWithout_46 hd hk2 a0 i1 i2 i3 ((1 : Int32) <<< (x8 &&& 31)) i3 x4 h hf
theorem t_Mo_solutionsWithout_2 {l : Launch} {E : ET} {d : Nat} (hd : 8 ≤ d) {F : Nat} {r : Int32} {h9 : PH} {x : Nat}  : ∀ (n : Nat) (a0 : Nat) (i1 : Int32) (i2 : Int32) (i3 : Int32) (hh : PH), f_Mo_solutionsWithout_2 F n a0 i1 i2 i3 hh = some (r, h9) → Go l E m_Mo_solutionsWithout (rm d 0 0) (KM E 0 0 (PoE (some (.int r)) h9 x)) 0 0 hh x 2 [(0, .ref a0), (1, .int i1), (2, .int i2), (3, .int i3)] [] := by
  intro n
  induction n with
  | zero => intro v0 v1 v2 v3 v4 hf; cases hf
  | succ n ih => intro v0 v1 v2 v3 v4 hf; exact g_Mo_solutionsWithout_2 hd ih v0 v1 v2 v3 v4 hf
def f_Mo_solutionsWithout (F : Nat) (a0 : Nat) (i1 : Int32) (i2 : Int32) (h : PH) : Option (Int32 × PH) :=
  f_Mo_solutionsWithout_2 F F a0 i1 i2 (0 : Int32) h
theorem g_Mo_solutionsWithout_0 {l : Launch} {E : ET} {d : Nat} (hd : 8 ≤ d) {F : Nat} {r : Int32} {h9 : PH} {x : Nat}  (a0 : Nat) (i1 : Int32) (i2 : Int32) (h : PH) (hf : f_Mo_solutionsWithout F a0 i1 i2 h = some (r, h9)) : Go l E m_Mo_solutionsWithout (rm d 0 0) (KM E 0 0 (PoE (some (.int r)) h9 x)) 0 0 h x 0 [(0, .ref a0), (1, .int i1), (2, .int i2)] [] := by
  unfold f_Mo_solutionsWithout at hf
  refine go_iconst (0 : Int32) d_Mo_solutionsWithout_0 (by decide) ?_
  refine go_istore_n (lv' := [(3, .int (0 : Int32)), (0, .ref a0), (1, .int i1), (2, .int i2)]) d_Mo_solutionsWithout_1 rfl (by decide) ?_
  refine go_sub (lv' := [(0, .ref a0), (1, .int i1), (2, .int i2), (3, .int (0 : Int32))]) [1, 2, 3, 0] rfl ?_
  exact t_Mo_solutionsWithout_2 hd  _ a0 i1 i2 (0 : Int32) h hf
theorem c_Mo_solutionsWithout {l : Launch} {E : ET} {d : Nat} (hd : 8 ≤ d) {F : Nat} {r : Int32} {h9 : PH} {x : Nat} {a0 : Nat} {i1 : Int32} {i2 : Int32} {h : PH} (hf : f_Mo_solutionsWithout F a0 i1 i2 h = some (r, h9)) : Fn l E m_Mo_solutionsWithout d 0 0 [.ref a0, .int i1, .int i2] h x (PoE (some (.int r)) h9 x) :=
  Fn.of (by decide +kernel) (Nat.le_of_ble_eq_true rfl) (g_Mo_solutionsWithout_0 hd a0 i1 i2 h hf)
theorem d_Mo_beginAnew_0 : decode prog_13_method_46_code 0 = .ok (.iconst 0, 1) := by decide +kernel
theorem d_Mo_beginAnew_1 : decode prog_13_method_46_code 1 = .ok (.istore_n 1, 1) := by decide +kernel
theorem d_Mo_beginAnew_2 : decode prog_13_method_46_code 2 = .ok (.iload_n 1, 1) := by decide +kernel
theorem d_Mo_beginAnew_3 : decode prog_13_method_46_code 3 = .ok (.bipush 36, 2) := by decide +kernel
theorem d_Mo_beginAnew_5 : decode prog_13_method_46_code 5 = .ok (.if_icmp .ge 53, 3) := by decide +kernel
theorem d_Mo_beginAnew_8 : decode prog_13_method_46_code 8 = .ok (.aload_n 0, 1) := by decide +kernel
theorem d_Mo_beginAnew_9 : decode prog_13_method_46_code 9 = .ok (.getfield 7, 3) := by decide +kernel
theorem d_Mo_beginAnew_12 : decode prog_13_method_46_code 12 = .ok (.iload_n 1, 1) := by decide +kernel
theorem d_Mo_beginAnew_13 : decode prog_13_method_46_code 13 = .ok (.aload_n 0, 1) := by decide +kernel
theorem d_Mo_beginAnew_14 : decode prog_13_method_46_code 14 = .ok (.getfield 7, 3) := by decide +kernel
theorem d_Mo_beginAnew_17 : decode prog_13_method_46_code 17 = .ok (.bipush 72, 2) := by decide +kernel
theorem d_Mo_beginAnew_19 : decode prog_13_method_46_code 19 = .ok (.iload_n 1, 1) := by decide +kernel
theorem d_Mo_beginAnew_20 : decode prog_13_method_46_code 20 = .ok (.iadd, 1) := by decide +kernel
theorem d_Mo_beginAnew_21 : decode prog_13_method_46_code 21 = .ok (.iaload, 1) := by decide +kernel
theorem d_Mo_beginAnew_22 : decode prog_13_method_46_code 22 = .ok (.ifCond .le 17, 3) := by decide +kernel
theorem d_Mo_beginAnew_25 : decode prog_13_method_46_code 25 = .ok (.iconst 1, 1) := by decide +kernel
theorem d_Mo_beginAnew_26 : decode prog_13_method_46_code 26 = .ok (.aload_n 0, 1) := by decide +kernel
theorem d_Mo_beginAnew_27 : decode prog_13_method_46_code 27 = .ok (.getfield 7, 3) := by decide +kernel
theorem d_Mo_beginAnew_30 : decode prog_13_method_46_code 30 = .ok (.bipush 72, 2) := by decide +kernel
theorem d_Mo_beginAnew_32 : decode prog_13_method_46_code 32 = .ok (.iload_n 1, 1) := by decide +kernel
theorem d_Mo_beginAnew_33 : decode prog_13_method_46_code 33 = .ok (.iadd, 1) := by decide +kernel
theorem d_Mo_beginAnew_34 : decode prog_13_method_46_code 34 = .ok (.iaload, 1) := by decide +kernel
theorem d_Mo_beginAnew_35 : decode prog_13_method_46_code 35 = .ok (.ishl, 1) := by decide +kernel
theorem d_Mo_beginAnew_36 : decode prog_13_method_46_code 36 = .ok (.goto 5, 3) := by decide +kernel
theorem d_Mo_beginAnew_39 : decode prog_13_method_46_code 39 = .ok (.bipush 126, 2) := by decide +kernel
theorem d_Mo_beginAnew_41 : decode prog_13_method_46_code 41 = .ok (.iastore, 1) := by decide +kernel
theorem d_Mo_beginAnew_42 : decode prog_13_method_46_code 42 = .ok (.aload_n 0, 1) := by decide +kernel
theorem d_Mo_beginAnew_43 : decode prog_13_method_46_code 43 = .ok (.getfield 7, 3) := by decide +kernel
theorem d_Mo_beginAnew_46 : decode prog_13_method_46_code 46 = .ok (.bipush 36, 2) := by decide +kernel
theorem d_Mo_beginAnew_48 : decode prog_13_method_46_code 48 = .ok (.iload_n 1, 1) := by decide +kernel
theorem d_Mo_beginAnew_49 : decode prog_13_method_46_code 49 = .ok (.iadd, 1) := by decide +kernel
theorem d_Mo_beginAnew_50 : decode prog_13_method_46_code 50 = .ok (.iconst 0, 1) := by decide +kernel
theorem d_Mo_beginAnew_51 : decode prog_13_method_46_code 51 = .ok (.iastore, 1) := by decide +kernel
theorem d_Mo_beginAnew_52 : decode prog_13_method_46_code 52 = .ok (.iinc 1 1, 3) := by decide +kernel
theorem d_Mo_beginAnew_55 : decode prog_13_method_46_code 55 = .ok (.goto (-53), 3) := by decide +kernel
theorem d_Mo_beginAnew_58 : decode prog_13_method_46_code 58 = .ok (.return_, 1) := by decide +kernel
def b_Mo_beginAnew_41 (F : Nat) (k2 : Nat → Int32 → PH → Option PH) (a0 : Nat) (i1 : Int32) (s0 : Int32) (s1 : Int32) (s2 : Nat) (h : PH) : Option PH :=
  bnd (sI h s2 s1 s0) fun h1 => bnd (gR h1 a0 10 0) fun x2 => bnd (sI h1 x2 ((36 : Int32) + i1) (0 : Int32)) fun h3 => k2 a0 (i1 + (1 : Int32)) h3
theorem g_Mo_beginAnew_41 {l : Launch} {E : ET} {d : Nat} (hd : 1 ≤ d) {F : Nat} {h9 : PH} {x : Nat} {k2 : Nat → Int32 → PH → Option PH} (hk2 : ∀ (a0 : Nat) (i1 : Int32) (hh : PH), k2 a0 i1 hh = some h9 → Go l E m_Mo_beginAnew (rm d 0 0) (KM E 0 0 (PoE none h9 x)) 0 0 hh x 2 [(0, .ref a0), (1, .int i1)] []) (a0 : Nat) (i1 : Int32) (s0 : Int32) (s1 : Int32) (s2 : Nat) (h : PH) (hf : b_Mo_beginAnew_41 F k2 a0 i1 s0 s1 s2 h = some h9) : Go l E m_Mo_beginAnew (rm d 0 0) (KM E 0 0 (PoE none h9 x)) 0 0 h x 41 [(0, .ref a0), (1, .int i1)] [.int s0, .int s1, .ref s2] := by
  unfold b_Mo_beginAnew_41 at hf
  obtain ⟨h1, e_h1, hf⟩ := bnd_x hf
  refine go_iastore d_Mo_beginAnew_41 e_h1 ?_
  refine go_aload_n 0 d_Mo_beginAnew_42 rfl ?_
  obtain ⟨x2, e_x2, hf⟩ := bnd_x hf
  refine go_get d_Mo_beginAnew_43 (gR_x e_x2) fl_Mo_7 ?_
  refine go_bipush (36 : Int32) d_Mo_beginAnew_46 (by decide) ?_
  refine go_iload_n 1 d_Mo_beginAnew_48 rfl ?_
  refine go_iadd d_Mo_beginAnew_49 ?_
  refine go_iconst (0 : Int32) d_Mo_beginAnew_50 (by decide) ?_
  obtain ⟨h3, e_h3, hf⟩ := bnd_x hf
  refine go_iastore d_Mo_beginAnew_51 e_h3 ?_
  refine go_iinc (lv' := [(1, .int (i1 + (1 : Int32))), (0, .ref a0)]) 1 (i1 + (1 : Int32)) d_Mo_beginAnew_52 rfl rfl rfl (by decide) ?_
  refine go_goto 2 d_Mo_beginAnew_55 (by decide) ?_
  refine go_sub (lv' := [(0, .ref a0), (1, .int (i1 + (1 : Int32)))]) [1, 0] rfl ?_
  exact hk2 a0 (i1 + (1 : Int32)) h3 hf
def b_Mo_beginAnew_2 (F : Nat) (k2 : Nat → Int32 → PH → Option PH) (a0 : Nat) (i1 : Int32) (h : PH) : Option PH :=
  (if (36 : Int32) ≤ i1 then some h else bnd (gR h a0 10 0) fun x1 => bnd (gR h a0 10 0) fun x2 => bnd (aI h x2 ((72 : Int32) + i1)) fun x3 => (if x3 ≤ (0 : Int32) then b_Mo_beginAnew_41 F k2 a0 i1 (126 : Int32) i1 x1 h else bnd (gR h a0 10 0) fun x4 => bnd (aI h x4 ((72 : Int32) + i1)) fun x5 => b_Mo_beginAnew_41 F k2 a0 i1 ((1 : Int32) <<< (x5 &&& 31)) i1 x1 h))
def f_Mo_beginAnew_2 (F : Nat) : Nat → Nat → Int32 → PH → Option PH
  | 0 => fun _ _ _ => none
  | n + 1 => b_Mo_beginAnew_2 F (f_Mo_beginAnew_2 F n)
theorem g_Mo_beginAnew_2 {l : Launch} {E : ET} {d : Nat} (hd : 1 ≤ d) {F : Nat} {h9 : PH} {x : Nat} {k2 : Nat → Int32 → PH → Option PH} (hk2 : ∀ (a0 : Nat) (i1 : Int32) (hh : PH), k2 a0 i1 hh = some h9 → Go l E m_Mo_beginAnew (rm d 0 0) (KM E 0 0 (PoE none h9 x)) 0 0 hh x 2 [(0, .ref a0), (1, .int i1)] []) (a0 : Nat) (i1 : Int32) (h : PH) (hf : b_Mo_beginAnew_2 F k2 a0 i1 h = some h9) : Go l E m_Mo_beginAnew (rm d 0 0) (KM E 0 0 (PoE none h9 x)) 0 0 h x 2 [(0, .ref a0), (1, .int i1)] [] := by
  unfold b_Mo_beginAnew_2 at hf
  refine go_iload_n 1 d_Mo_beginAnew_2 rfl ?_
  refine go_bipush (36 : Int32) d_Mo_beginAnew_3 (by decide) ?_
  refine go_icmp_ge 58 d_Mo_beginAnew_5 (by decide) (fun q7 => ?_) (fun q7 => ?_)
  · rw [if_pos q7] at hf
    have e9 := Option.some.inj hf
    subst e9
    exact go_vret d_Mo_beginAnew_58 rfl ⟨rfl, rfl, rfl⟩
  · rw [if_neg q7] at hf
    refine go_aload_n 0 d_Mo_beginAnew_8 rfl ?_
    obtain ⟨x1, e_x1, hf⟩ := bnd_x hf
    refine go_get d_Mo_beginAnew_9 (gR_x e_x1) fl_Mo_7 ?_
    refine go_iload_n 1 d_Mo_beginAnew_12 rfl ?_
    refine go_aload_n 0 d_Mo_beginAnew_13 rfl ?_
    obtain ⟨x2, e_x2, hf⟩ := bnd_x hf
    refine go_get d_Mo_beginAnew_14 (gR_x e_x2) fl_Mo_7 ?_
    refine go_bipush (72 : Int32) d_Mo_beginAnew_17 (by decide) ?_
    refine go_iload_n 1 d_Mo_beginAnew_19 rfl ?_
    refine go_iadd d_Mo_beginAnew_20 ?_
    obtain ⟨x3, e_x3, hf⟩ := bnd_x hf
    refine go_iaload d_Mo_beginAnew_21 e_x3 ?_
    refine go_if_le 39 d_Mo_beginAnew_22 (by decide) (fun q6 => ?_) (fun q6 => ?_)
    · rw [if_pos q6] at hf
      refine go_bipush (126 : Int32) d_Mo_beginAnew_39 (by decide) ?_
      refine go_sub (lv' := [(0, .ref a0), (1, .int i1)]) [0, 1] rfl ?_
      exact g_Mo_beginAnew_41 hd hk2 a0 i1 (126 : Int32) i1 x1 h hf
    · rw [if_neg q6] at hf
      refine go_iconst (1 : Int32) d_Mo_beginAnew_25 (by decide) ?_
      refine go_aload_n 0 d_Mo_beginAnew_26 rfl ?_
      obtain ⟨x4, e_x4, hf⟩ := bnd_x hf
      refine go_get d_Mo_beginAnew_27 (gR_x e_x4) fl_Mo_7 ?_
      refine go_bipush (72 : Int32) d_Mo_beginAnew_30 (by decide) ?_
      refine go_iload_n 1 d_Mo_beginAnew_32 rfl ?_
      refine go_iadd d_Mo_beginAnew_33 ?_
      obtain ⟨x5, e_x5, hf⟩ := bnd_x hf
      refine go_iaload d_Mo_beginAnew_34 e_x5 ?_
      refine go_ishl d_Mo_beginAnew_35 ?_
      refine go_goto 41 d_Mo_beginAnew_36 (by decide) ?_
      refine go_sub (lv' := [(0, .ref a0), (1, .int i1)]) [0, 1] rfl ?_
      exact g_Mo_beginAnew_41 hd hk2 a0 i1 ((1 : Int32) <<< (x5 &&& 31)) i1 x1 h hf
theorem t_Mo_beginAnew_2 {l : Launch} {E : ET} {d : Nat} (hd : 1 ≤ d) {F : Nat} {h9 : PH} {x : Nat}  : ∀ (n : Nat) (a0 : Nat) (i1 : Int32) (hh : PH), f_Mo_beginAnew_2 F n a0 i1 hh = some h9 → Go l E m_Mo_beginAnew (rm d 0 0) (KM E 0 0 (PoE none h9 x)) 0 0 hh x 2 [(0, .ref a0), (1, .int i1)] [] := by
  intro n
  induction n with
  | zero => intro v0 v1 v2 hf; cases hf
  | succ n ih => intro v0 v1 v2 hf; exact g_Mo_beginAnew_2 hd ih v0 v1 v2 hf
def f_Mo_beginAnew (F : Nat) (a0 : Nat) (h : PH) : Option PH :=
  f_Mo_beginAnew_2 F F a0 (0 : Int32) h
theorem g_Mo_beginAnew_0 {l : Launch} {E : ET} {d : Nat} (hd : 1 ≤ d) {F : Nat} {h9 : PH} {x : Nat}  (a0 : Nat) (h : PH) (hf : f_Mo_beginAnew F a0 h = some h9) : Go l E m_Mo_beginAnew (rm d 0 0) (KM E 0 0 (PoE none h9 x)) 0 0 h x 0 [(0, .ref a0)] [] := by
  unfold f_Mo_beginAnew at hf
  refine go_iconst (0 : Int32) d_Mo_beginAnew_0 (by decide) ?_
  refine go_istore_n (lv' := [(1, .int (0 : Int32)), (0, .ref a0)]) d_Mo_beginAnew_1 rfl (by decide) ?_
  refine go_sub (lv' := [(0, .ref a0), (1, .int (0 : Int32))]) [1, 0] rfl ?_
  exact t_Mo_beginAnew_2 hd  _ a0 (0 : Int32) h hf
theorem c_Mo_beginAnew {l : Launch} {E : ET} {d : Nat} (hd : 1 ≤ d) {F : Nat} {h9 : PH} {x : Nat} {a0 : Nat} {h : PH} (hf : f_Mo_beginAnew F a0 h = some h9) : Fn l E m_Mo_beginAnew d 0 0 [.ref a0] h x (PoE none h9 x) :=
  Fn.of (by decide +kernel) (Nat.le_of_ble_eq_true rfl) (g_Mo_beginAnew_0 hd a0 h hf)
theorem d_Mo_givens_0 : decode prog_13_method_47_code 0 = .ok (.iconst 0, 1) := by decide +kernel
theorem d_Mo_givens_1 : decode prog_13_method_47_code 1 = .ok (.istore_n 1, 1) := by decide +kernel
theorem d_Mo_givens_2 : decode prog_13_method_47_code 2 = .ok (.iconst 0, 1) := by decide +kernel
theorem d_Mo_givens_3 : decode prog_13_method_47_code 3 = .ok (.istore_n 2, 1) := by decide +kernel
theorem d_Mo_givens_4 : decode prog_13_method_47_code 4 = .ok (.iload_n 2, 1) := by decide +kernel
theorem d_Mo_givens_5 : decode prog_13_method_47_code 5 = .ok (.bipush 36, 2) := by decide +kernel
theorem d_Mo_givens_7 : decode prog_13_method_47_code 7 = .ok (.if_icmp .ge 29, 3) := by decide +kernel
theorem d_Mo_givens_10 : decode prog_13_method_47_code 10 = .ok (.iload_n 1, 1) := by decide +kernel
theorem d_Mo_givens_11 : decode prog_13_method_47_code 11 = .ok (.aload_n 0, 1) := by decide +kernel
theorem d_Mo_givens_12 : decode prog_13_method_47_code 12 = .ok (.getfield 7, 3) := by decide +kernel
theorem d_Mo_givens_15 : decode prog_13_method_47_code 15 = .ok (.bipush 72, 2) := by decide +kernel
theorem d_Mo_givens_17 : decode prog_13_method_47_code 17 = .ok (.iload_n 2, 1) := by decide +kernel
theorem d_Mo_givens_18 : decode prog_13_method_47_code 18 = .ok (.iadd, 1) := by decide +kernel
theorem d_Mo_givens_19 : decode prog_13_method_47_code 19 = .ok (.iaload, 1) := by decide +kernel
theorem d_Mo_givens_20 : decode prog_13_method_47_code 20 = .ok (.ifCond .le 7, 3) := by decide +kernel
theorem d_Mo_givens_23 : decode prog_13_method_47_code 23 = .ok (.iconst 1, 1) := by decide +kernel
theorem d_Mo_givens_24 : decode prog_13_method_47_code 24 = .ok (.goto 4, 3) := by decide +kernel
theorem d_Mo_givens_27 : decode prog_13_method_47_code 27 = .ok (.iconst 0, 1) := by decide +kernel
theorem d_Mo_givens_28 : decode prog_13_method_47_code 28 = .ok (.iadd, 1) := by decide +kernel
theorem d_Mo_givens_29 : decode prog_13_method_47_code 29 = .ok (.istore_n 1, 1) := by decide +kernel
theorem d_Mo_givens_30 : decode prog_13_method_47_code 30 = .ok (.iinc 2 1, 3) := by decide +kernel
theorem d_Mo_givens_33 : decode prog_13_method_47_code 33 = .ok (.goto (-29), 3) := by decide +kernel
theorem d_Mo_givens_36 : decode prog_13_method_47_code 36 = .ok (.iload_n 1, 1) := by decide +kernel
theorem d_Mo_givens_37 : decode prog_13_method_47_code 37 = .ok (.ireturn, 1) := by decide +kernel
def b_Mo_givens_28 (F : Nat) (k4 : Nat → Int32 → Int32 → PH → Option Int32) (a0 : Nat) (i2 : Int32) (s0 : Int32) (s1 : Int32) (h : PH) : Option Int32 :=
  k4 a0 (s1 + s0) (i2 + (1 : Int32)) h
theorem g_Mo_givens_28 {l : Launch} {E : ET} {d : Nat} (hd : 1 ≤ d) {F : Nat} {r : Int32} {h : PH} {x : Nat} {k4 : Nat → Int32 → Int32 → PH → Option Int32} (hk4 : ∀ (a0 : Nat) (i1 : Int32) (i2 : Int32), k4 a0 i1 i2 h = some r → Go l E m_Mo_givens (rm d 0 0) (KM E 0 0 (PoE (some (.int r)) h x)) 0 0 h x 4 [(0, .ref a0), (1, .int i1), (2, .int i2)] []) (a0 : Nat) (i2 : Int32) (s0 : Int32) (s1 : Int32) (hf : b_Mo_givens_28 F k4 a0 i2 s0 s1 h = some r) : Go l E m_Mo_givens (rm d 0 0) (KM E 0 0 (PoE (some (.int r)) h x)) 0 0 h x 28 [(0, .ref a0), (2, .int i2)] [.int s0, .int s1] := by
  unfold b_Mo_givens_28 at hf
  refine go_iadd d_Mo_givens_28 ?_
  refine go_istore_n (lv' := [(1, .int (s1 + s0)), (0, .ref a0), (2, .int i2)]) d_Mo_givens_29 rfl (by decide) ?_
  refine go_iinc (lv' := [(2, .int (i2 + (1 : Int32))), (1, .int (s1 + s0)), (0, .ref a0)]) 2 (i2 + (1 : Int32)) d_Mo_givens_30 rfl rfl rfl (by decide) ?_
  refine go_goto 4 d_Mo_givens_33 (by decide) ?_
  refine go_sub (lv' := [(0, .ref a0), (1, .int (s1 + s0)), (2, .int (i2 + (1 : Int32)))]) [2, 1, 0] rfl ?_
  exact hk4 a0 (s1 + s0) (i2 + (1 : Int32)) hf
def b_Mo_givens_4 (F : Nat) (k4 : Nat → Int32 → Int32 → PH → Option Int32) (a0 : Nat) (i1 : Int32) (i2 : Int32) (h : PH) : Option Int32 :=
  (if (36 : Int32) ≤ i2 then some i1 else bnd (gR h a0 10 0) fun x1 => bnd (aI h x1 ((72 : Int32) + i2)) fun x2 => (if x2 ≤ (0 : Int32) then b_Mo_givens_28 F k4 a0 i2 (0 : Int32) i1 h else b_Mo_givens_28 F k4 a0 i2 (1 : Int32) i1 h))
def f_Mo_givens_4 (F : Nat) : Nat → Nat → Int32 → Int32 → PH → Option Int32
  | 0 => fun _ _ _ _ => none
  | n + 1 => b_Mo_givens_4 F (f_Mo_givens_4 F n)
theorem g_Mo_givens_4 {l : Launch} {E : ET} {d : Nat} (hd : 1 ≤ d) {F : Nat} {r : Int32} {h : PH} {x : Nat} {k4 : Nat → Int32 → Int32 → PH → Option Int32} (hk4 : ∀ (a0 : Nat) (i1 : Int32) (i2 : Int32), k4 a0 i1 i2 h = some r → Go l E m_Mo_givens (rm d 0 0) (KM E 0 0 (PoE (some (.int r)) h x)) 0 0 h x 4 [(0, .ref a0), (1, .int i1), (2, .int i2)] []) (a0 : Nat) (i1 : Int32) (i2 : Int32) (hf : b_Mo_givens_4 F k4 a0 i1 i2 h = some r) : Go l E m_Mo_givens (rm d 0 0) (KM E 0 0 (PoE (some (.int r)) h x)) 0 0 h x 4 [(0, .ref a0), (1, .int i1), (2, .int i2)] [] := by
  unfold b_Mo_givens_4 at hf
  refine go_iload_n 2 d_Mo_givens_4 rfl ?_
  refine go_bipush (36 : Int32) d_Mo_givens_5 (by decide) ?_
  refine go_icmp_ge 36 d_Mo_givens_7 (by decide) (fun q4 => ?_) (fun q4 => ?_)
  · rw [if_pos q4] at hf
    refine go_iload_n 1 d_Mo_givens_36 rfl ?_
    have e9 := Option.some.inj hf
    subst e9
    exact go_iret d_Mo_givens_37 rfl ⟨rfl, rfl, rfl⟩
  · rw [if_neg q4] at hf
    refine go_iload_n 1 d_Mo_givens_10 rfl ?_
    refine go_aload_n 0 d_Mo_givens_11 rfl ?_
    obtain ⟨x1, e_x1, hf⟩ := bnd_x hf
    refine go_get d_Mo_givens_12 (gR_x e_x1) fl_Mo_7 ?_
    refine go_bipush (72 : Int32) d_Mo_givens_15 (by decide) ?_
    refine go_iload_n 2 d_Mo_givens_17 rfl ?_
    refine go_iadd d_Mo_givens_18 ?_
    obtain ⟨x2, e_x2, hf⟩ := bnd_x hf
    refine go_iaload d_Mo_givens_19 e_x2 ?_
    refine go_if_le 27 d_Mo_givens_20 (by decide) (fun q3 => ?_) (fun q3 => ?_)
    · rw [if_pos q3] at hf
      refine go_iconst (0 : Int32) d_Mo_givens_27 (by decide) ?_
      refine go_sub (lv' := [(0, .ref a0), (2, .int i2)]) [0, 2] rfl ?_
      exact g_Mo_givens_28 hd hk4 a0 i2 (0 : Int32) i1  hf
    · rw [if_neg q3] at hf
      refine go_iconst (1 : Int32) d_Mo_givens_23 (by decide) ?_
      refine go_goto 28 d_Mo_givens_24 (by decide) ?_
      refine go_sub (lv' := [(0, .ref a0), (2, .int i2)]) [0, 2] rfl ?_
      exact g_Mo_givens_28 hd hk4 a0 i2 (1 : Int32) i1  hf
theorem t_Mo_givens_4 {l : Launch} {E : ET} {d : Nat} (hd : 1 ≤ d) {F : Nat} {r : Int32} {h : PH} {x : Nat}  : ∀ (n : Nat) (a0 : Nat) (i1 : Int32) (i2 : Int32), f_Mo_givens_4 F n a0 i1 i2 h = some r → Go l E m_Mo_givens (rm d 0 0) (KM E 0 0 (PoE (some (.int r)) h x)) 0 0 h x 4 [(0, .ref a0), (1, .int i1), (2, .int i2)] [] := by
  intro n
  induction n with
  | zero => intro v0 v1 v2 hf; cases hf
  | succ n ih => intro v0 v1 v2 hf; exact g_Mo_givens_4 hd ih v0 v1 v2 hf
def f_Mo_givens (F : Nat) (a0 : Nat) (h : PH) : Option Int32 :=
  f_Mo_givens_4 F F a0 (0 : Int32) (0 : Int32) h
theorem g_Mo_givens_0 {l : Launch} {E : ET} {d : Nat} (hd : 1 ≤ d) {F : Nat} {r : Int32} {h : PH} {x : Nat}  (a0 : Nat) (hf : f_Mo_givens F a0 h = some r) : Go l E m_Mo_givens (rm d 0 0) (KM E 0 0 (PoE (some (.int r)) h x)) 0 0 h x 0 [(0, .ref a0)] [] := by
  unfold f_Mo_givens at hf
  refine go_iconst (0 : Int32) d_Mo_givens_0 (by decide) ?_
  refine go_istore_n (lv' := [(1, .int (0 : Int32)), (0, .ref a0)]) d_Mo_givens_1 rfl (by decide) ?_
  refine go_iconst (0 : Int32) d_Mo_givens_2 (by decide) ?_
  refine go_istore_n (lv' := [(2, .int (0 : Int32)), (1, .int (0 : Int32)), (0, .ref a0)]) d_Mo_givens_3 rfl (by decide) ?_
  refine go_sub (lv' := [(0, .ref a0), (1, .int (0 : Int32)), (2, .int (0 : Int32))]) [2, 1, 0] rfl ?_
  exact t_Mo_givens_4 hd  _ a0 (0 : Int32) (0 : Int32)  hf
theorem c_Mo_givens {l : Launch} {E : ET} {d : Nat} (hd : 1 ≤ d) {F : Nat} {r : Int32} {h : PH} {x : Nat} {a0 : Nat} (hf : f_Mo_givens F a0 h = some r) : Fn l E m_Mo_givens d 0 0 [.ref a0] h x (PoE (some (.int r)) h x) :=
  Fn.of (by decide +kernel) (Nat.le_of_ble_eq_true rfl) (g_Mo_givens_0 hd a0 hf)
theorem d_Mo_clear_0 : decode prog_13_method_48_code 0 = .ok (.bipush 109, 2) := by decide +kernel
theorem d_Mo_clear_2 : decode prog_13_method_48_code 2 = .ok (.istore_n 1, 1) := by decide +kernel
theorem d_Mo_clear_3 : decode prog_13_method_48_code 3 = .ok (.iload_n 1, 1) := by decide +kernel
theorem d_Mo_clear_4 : decode prog_13_method_48_code 4 = .ok (.sipush 181, 3) := by decide +kernel
theorem d_Mo_clear_7 : decode prog_13_method_48_code 7 = .ok (.if_icmp .ge 16, 3) := by decide +kernel
theorem d_Mo_clear_10 : decode prog_13_method_48_code 10 = .ok (.aload_n 0, 1) := by decide +kernel
theorem d_Mo_clear_11 : decode prog_13_method_48_code 11 = .ok (.getfield 7, 3) := by decide +kernel
theorem d_Mo_clear_14 : decode prog_13_method_48_code 14 = .ok (.iload_n 1, 1) := by decide +kernel
theorem d_Mo_clear_15 : decode prog_13_method_48_code 15 = .ok (.iconst 0, 1) := by decide +kernel
theorem d_Mo_clear_16 : decode prog_13_method_48_code 16 = .ok (.iastore, 1) := by decide +kernel
theorem d_Mo_clear_17 : decode prog_13_method_48_code 17 = .ok (.iinc 1 1, 3) := by decide +kernel
theorem d_Mo_clear_20 : decode prog_13_method_48_code 20 = .ok (.goto (-17), 3) := by decide +kernel
theorem d_Mo_clear_23 : decode prog_13_method_48_code 23 = .ok (.aload_n 0, 1) := by decide +kernel
theorem d_Mo_clear_24 : decode prog_13_method_48_code 24 = .ok (.getfield 7, 3) := by decide +kernel
theorem d_Mo_clear_27 : decode prog_13_method_48_code 27 = .ok (.bipush 108, 2) := by decide +kernel
theorem d_Mo_clear_29 : decode prog_13_method_48_code 29 = .ok (.iconst 0, 1) := by decide +kernel
theorem d_Mo_clear_30 : decode prog_13_method_48_code 30 = .ok (.iastore, 1) := by decide +kernel
theorem d_Mo_clear_31 : decode prog_13_method_48_code 31 = .ok (.iconst 0, 1) := by decide +kernel
theorem d_Mo_clear_32 : decode prog_13_method_48_code 32 = .ok (.istore_n 1, 1) := by decide +kernel
theorem d_Mo_clear_33 : decode prog_13_method_48_code 33 = .ok (.iload_n 1, 1) := by decide +kernel
theorem d_Mo_clear_34 : decode prog_13_method_48_code 34 = .ok (.bipush 36, 2) := by decide +kernel
theorem d_Mo_clear_36 : decode prog_13_method_48_code 36 = .ok (.if_icmp .ge 19, 3) := by decide +kernel
theorem d_Mo_clear_39 : decode prog_13_method_48_code 39 = .ok (.aload_n 0, 1) := by decide +kernel
theorem d_Mo_clear_40 : decode prog_13_method_48_code 40 = .ok (.getfield 7, 3) := by decide +kernel
theorem d_Mo_clear_43 : decode prog_13_method_48_code 43 = .ok (.bipush 72, 2) := by decide +kernel
theorem d_Mo_clear_45 : decode prog_13_method_48_code 45 = .ok (.iload_n 1, 1) := by decide +kernel
theorem d_Mo_clear_46 : decode prog_13_method_48_code 46 = .ok (.iadd, 1) := by decide +kernel
theorem d_Mo_clear_47 : decode prog_13_method_48_code 47 = .ok (.iconst 0, 1) := by decide +kernel
theorem d_Mo_clear_48 : decode prog_13_method_48_code 48 = .ok (.iastore, 1) := by decide +kernel
theorem d_Mo_clear_49 : decode prog_13_method_48_code 49 = .ok (.iinc 1 1, 3) := by decide +kernel
theorem d_Mo_clear_52 : decode prog_13_method_48_code 52 = .ok (.goto (-19), 3) := by decide +kernel
theorem d_Mo_clear_55 : decode prog_13_method_48_code 55 = .ok (.aload_n 0, 1) := by decide +kernel
theorem d_Mo_clear_56 : decode prog_13_method_48_code 56 = .ok (.invokevirtual 205, 3) := by decide +kernel
theorem d_Mo_clear_59 : decode prog_13_method_48_code 59 = .ok (.return_, 1) := by decide +kernel
def b_Mo_clear_33 (F : Nat) (k33 : Nat → Int32 → PH → Option PH) (a0 : Nat) (i1 : Int32) (h : PH) : Option PH :=
  (if (36 : Int32) ≤ i1 then bnd (cK h a0 10) fun _ => bnd (f_Mo_beginAnew F a0 h) fun h2 => some h2 else bnd (gR h a0 10 0) fun x3 => bnd (sI h x3 ((72 : Int32) + i1) (0 : Int32)) fun h4 => k33 a0 (i1 + (1 : Int32)) h4)
def f_Mo_clear_33 (F : Nat) : Nat → Nat → Int32 → PH → Option PH
  | 0 => fun _ _ _ => none
  | n + 1 => b_Mo_clear_33 F (f_Mo_clear_33 F n)
theorem g_Mo_clear_33 {l : Launch} {E : ET} {d : Nat} (hd : 2 ≤ d) {F : Nat} {h9 : PH} {x : Nat} {k33 : Nat → Int32 → PH → Option PH} (hk33 : ∀ (a0 : Nat) (i1 : Int32) (hh : PH), k33 a0 i1 hh = some h9 → Go l E m_Mo_clear (rm d 0 0) (KM E 0 0 (PoE none h9 x)) 0 0 hh x 33 [(0, .ref a0), (1, .int i1)] []) (a0 : Nat) (i1 : Int32) (h : PH) (hf : b_Mo_clear_33 F k33 a0 i1 h = some h9) : Go l E m_Mo_clear (rm d 0 0) (KM E 0 0 (PoE none h9 x)) 0 0 h x 33 [(0, .ref a0), (1, .int i1)] [] := by
  unfold b_Mo_clear_33 at hf
  refine go_iload_n 1 d_Mo_clear_33 rfl ?_
  refine go_bipush (36 : Int32) d_Mo_clear_34 (by decide) ?_
  refine go_icmp_ge 55 d_Mo_clear_36 (by decide) (fun q5 => ?_) (fun q5 => ?_)
  · rw [if_pos q5] at hf
    refine go_aload_n 0 d_Mo_clear_55 rfl ?_
    obtain ⟨_, e1, hf⟩ := bnd_x hf
    obtain ⟨h2, e_x2, hf⟩ := bnd_x hf
    refine go_callV_N (As := []) (st := []) (c_Mo_beginAnew (d := d - 1) (by omega) e_x2) lk_Mo_205 rfl rfl e1 (by decide) rfl (rm_ok (by omega)) (Nat.le_of_ble_eq_true rfl) rm_c d_Mo_clear_56 ?_
    have e9 := Option.some.inj hf
    subst e9
    exact go_vret d_Mo_clear_59 rfl ⟨rfl, rfl, rfl⟩
  · rw [if_neg q5] at hf
    refine go_aload_n 0 d_Mo_clear_39 rfl ?_
    obtain ⟨x3, e_x3, hf⟩ := bnd_x hf
    refine go_get d_Mo_clear_40 (gR_x e_x3) fl_Mo_7 ?_
    refine go_bipush (72 : Int32) d_Mo_clear_43 (by decide) ?_
    refine go_iload_n 1 d_Mo_clear_45 rfl ?_
    refine go_iadd d_Mo_clear_46 ?_
    refine go_iconst (0 : Int32) d_Mo_clear_47 (by decide) ?_
    obtain ⟨h4, e_h4, hf⟩ := bnd_x hf
    refine go_iastore d_Mo_clear_48 e_h4 ?_
    refine go_iinc (lv' := [(1, .int (i1 + (1 : Int32))), (0, .ref a0)]) 1 (i1 + (1 : Int32)) d_Mo_clear_49 rfl rfl rfl (by decide) ?_
    refine go_goto 33 d_Mo_clear_52 (by decide) ?_
    refine go_sub (lv' := [(0, .ref a0), (1, .int (i1 + (1 : Int32)))]) [1, 0] rfl ?_
    exact hk33 a0 (i1 + (1 : Int32)) h4 hf
theorem t_Mo_clear_33 {l : Launch} {E : ET} {d : Nat} (hd : 2 ≤ d) {F : Nat} {h9 : PH} {x : Nat}  : ∀ (n : Nat) (a0 : Nat) (i1 : Int32) (hh : PH), f_Mo_clear_33 F n a0 i1 hh = some h9 → Go l E m_Mo_clear (rm d 0 0) (KM E 0 0 (PoE none h9 x)) 0 0 hh x 33 [(0, .ref a0), (1, .int i1)] [] := by
  intro n
  induction n with
  | zero => intro v0 v1 v2 hf; cases hf
  | succ n ih => intro v0 v1 v2 hf; exact g_Mo_clear_33 hd ih v0 v1 v2 hf
def b_Mo_clear_3 (F : Nat) (k3 : Nat → Int32 → PH → Option PH) (a0 : Nat) (i1 : Int32) (h : PH) : Option PH :=
  (if (181 : Int32) ≤ i1 then bnd (gR h a0 10 0) fun x1 => bnd (sI h x1 (108 : Int32) (0 : Int32)) fun h2 => f_Mo_clear_33 F F a0 (0 : Int32) h2 else bnd (gR h a0 10 0) fun x3 => bnd (sI h x3 i1 (0 : Int32)) fun h4 => k3 a0 (i1 + (1 : Int32)) h4)
def f_Mo_clear_3 (F : Nat) : Nat → Nat → Int32 → PH → Option PH
  | 0 => fun _ _ _ => none
  | n + 1 => b_Mo_clear_3 F (f_Mo_clear_3 F n)
theorem g_Mo_clear_3 {l : Launch} {E : ET} {d : Nat} (hd : 2 ≤ d) {F : Nat} {h9 : PH} {x : Nat} {k3 : Nat → Int32 → PH → Option PH} (hk3 : ∀ (a0 : Nat) (i1 : Int32) (hh : PH), k3 a0 i1 hh = some h9 → Go l E m_Mo_clear (rm d 0 0) (KM E 0 0 (PoE none h9 x)) 0 0 hh x 3 [(0, .ref a0), (1, .int i1)] []) (a0 : Nat) (i1 : Int32) (h : PH) (hf : b_Mo_clear_3 F k3 a0 i1 h = some h9) : Go l E m_Mo_clear (rm d 0 0) (KM E 0 0 (PoE none h9 x)) 0 0 h x 3 [(0, .ref a0), (1, .int i1)] [] := by
  unfold b_Mo_clear_3 at hf
  refine go_iload_n 1 d_Mo_clear_3 rfl ?_
  refine go_sipush (181 : Int32) d_Mo_clear_4 (by decide) ?_
  refine go_icmp_ge 23 d_Mo_clear_7 (by decide) (fun q5 => ?_) (fun q5 => ?_)
  · rw [if_pos q5] at hf
    refine go_aload_n 0 d_Mo_clear_23 rfl ?_
    obtain ⟨x1, e_x1, hf⟩ := bnd_x hf
    refine go_get d_Mo_clear_24 (gR_x e_x1) fl_Mo_7 ?_
    refine go_bipush (108 : Int32) d_Mo_clear_27 (by decide) ?_
    refine go_iconst (0 : Int32) d_Mo_clear_29 (by decide) ?_
    obtain ⟨h2, e_h2, hf⟩ := bnd_x hf
    refine go_iastore d_Mo_clear_30 e_h2 ?_
    refine go_iconst (0 : Int32) d_Mo_clear_31 (by decide) ?_
    refine go_istore_n (lv' := [(1, .int (0 : Int32)), (0, .ref a0)]) d_Mo_clear_32 rfl (by decide) ?_
    refine go_sub (lv' := [(0, .ref a0), (1, .int (0 : Int32))]) [1, 0] rfl ?_
    exact t_Mo_clear_33 hd  _ a0 (0 : Int32) h2 hf
  · rw [if_neg q5] at hf
    refine go_aload_n 0 d_Mo_clear_10 rfl ?_
    obtain ⟨x3, e_x3, hf⟩ := bnd_x hf
    refine go_get d_Mo_clear_11 (gR_x e_x3) fl_Mo_7 ?_
    refine go_iload_n 1 d_Mo_clear_14 rfl ?_
    refine go_iconst (0 : Int32) d_Mo_clear_15 (by decide) ?_
    obtain ⟨h4, e_h4, hf⟩ := bnd_x hf
    refine go_iastore d_Mo_clear_16 e_h4 ?_
    refine go_iinc (lv' := [(1, .int (i1 + (1 : Int32))), (0, .ref a0)]) 1 (i1 + (1 : Int32)) d_Mo_clear_17 rfl rfl rfl (by decide) ?_
    refine go_goto 3 d_Mo_clear_20 (by decide) ?_
    refine go_sub (lv' := [(0, .ref a0), (1, .int (i1 + (1 : Int32)))]) [1, 0] rfl ?_
    exact hk3 a0 (i1 + (1 : Int32)) h4 hf
theorem t_Mo_clear_3 {l : Launch} {E : ET} {d : Nat} (hd : 2 ≤ d) {F : Nat} {h9 : PH} {x : Nat}  : ∀ (n : Nat) (a0 : Nat) (i1 : Int32) (hh : PH), f_Mo_clear_3 F n a0 i1 hh = some h9 → Go l E m_Mo_clear (rm d 0 0) (KM E 0 0 (PoE none h9 x)) 0 0 hh x 3 [(0, .ref a0), (1, .int i1)] [] := by
  intro n
  induction n with
  | zero => intro v0 v1 v2 hf; cases hf
  | succ n ih => intro v0 v1 v2 hf; exact g_Mo_clear_3 hd ih v0 v1 v2 hf
def f_Mo_clear (F : Nat) (a0 : Nat) (h : PH) : Option PH :=
  f_Mo_clear_3 F F a0 (109 : Int32) h
theorem g_Mo_clear_0 {l : Launch} {E : ET} {d : Nat} (hd : 2 ≤ d) {F : Nat} {h9 : PH} {x : Nat}  (a0 : Nat) (h : PH) (hf : f_Mo_clear F a0 h = some h9) : Go l E m_Mo_clear (rm d 0 0) (KM E 0 0 (PoE none h9 x)) 0 0 h x 0 [(0, .ref a0)] [] := by
  unfold f_Mo_clear at hf
  refine go_bipush (109 : Int32) d_Mo_clear_0 (by decide) ?_
  refine go_istore_n (lv' := [(1, .int (109 : Int32)), (0, .ref a0)]) d_Mo_clear_2 rfl (by decide) ?_
  refine go_sub (lv' := [(0, .ref a0), (1, .int (109 : Int32))]) [1, 0] rfl ?_
  exact t_Mo_clear_3 hd  _ a0 (109 : Int32) h hf
theorem c_Mo_clear {l : Launch} {E : ET} {d : Nat} (hd : 2 ≤ d) {F : Nat} {h9 : PH} {x : Nat} {a0 : Nat} {h : PH} (hf : f_Mo_clear F a0 h = some h9) : Fn l E m_Mo_clear d 0 0 [.ref a0] h x (PoE none h9 x) :=
  Fn.of (by decide +kernel) (Nat.le_of_ble_eq_true rfl) (g_Mo_clear_0 hd a0 h hf)
theorem d_Mo_begin_0 : decode prog_13_method_49_code 0 = .ok (.aload_n 0, 1) := by decide +kernel
theorem d_Mo_begin_1 : decode prog_13_method_49_code 1 = .ok (.iconst 0, 1) := by decide +kernel
theorem d_Mo_begin_2 : decode prog_13_method_49_code 2 = .ok (.putfield 52, 3) := by decide +kernel
theorem d_Mo_begin_5 : decode prog_13_method_49_code 5 = .ok (.aload_n 0, 1) := by decide +kernel
theorem d_Mo_begin_6 : decode prog_13_method_49_code 6 = .ok (.invokevirtual 208, 3) := by decide +kernel
theorem d_Mo_begin_9 : decode prog_13_method_49_code 9 = .ok (.aload_n 0, 1) := by decide +kernel
theorem d_Mo_begin_10 : decode prog_13_method_49_code 10 = .ok (.getfield 7, 3) := by decide +kernel
theorem d_Mo_begin_13 : decode prog_13_method_49_code 13 = .ok (.invokestatic 87, 3) := by decide +kernel
theorem d_Mo_begin_16 : decode prog_13_method_49_code 16 = .ok (.istore_n 1, 1) := by decide +kernel
theorem d_Mo_begin_17 : decode prog_13_method_49_code 17 = .ok (.aload_n 0, 1) := by decide +kernel
theorem d_Mo_begin_18 : decode prog_13_method_49_code 18 = .ok (.invokevirtual 211, 3) := by decide +kernel
theorem d_Mo_begin_21 : decode prog_13_method_49_code 21 = .ok (.iload_n 1, 1) := by decide +kernel
theorem d_Mo_begin_22 : decode prog_13_method_49_code 22 = .ok (.ireturn, 1) := by decide +kernel
def f_Mo_begin (F : Nat) (a0 : Nat) (h : PH) : Option (Int32 × PH) :=
  bnd (pV h a0 10 5 (.int (0 : Int32))) fun h1 => bnd (cK h1 a0 10) fun _ => bnd (f_Mo_change F a0 h1) fun h3 => bnd (gR h3 a0 10 0) fun x4 => bnd (f_Mo_placedMany F x4 h3) fun x5 => bnd (cK h3 a0 10) fun _ => bnd (f_Mo_clear F a0 h3) fun h7 => some (x5, h7)
theorem g_Mo_begin_0 {l : Launch} {E : ET} {d : Nat} (hd : 3 ≤ d) {F : Nat} {r : Int32} {h9 : PH} {x : Nat}  (a0 : Nat) (h : PH) (hf : f_Mo_begin F a0 h = some (r, h9)) : Go l E m_Mo_begin (rm d 0 0) (KM E 0 0 (PoE (some (.int r)) h9 x)) 0 0 h x 0 [(0, .ref a0)] [] := by
  unfold f_Mo_begin at hf
  refine go_aload_n 0 d_Mo_begin_0 rfl ?_
  refine go_iconst (0 : Int32) d_Mo_begin_1 (by decide) ?_
  obtain ⟨h1, e_h1, hf⟩ := bnd_x hf
  refine go_putI d_Mo_begin_2 e_h1 fl_Mo_52 rfl rfl ?_
  refine go_aload_n 0 d_Mo_begin_5 rfl ?_
  obtain ⟨_, e2, hf⟩ := bnd_x hf
  obtain ⟨h3, e_x3, hf⟩ := bnd_x hf
  refine go_callV_N (As := []) (st := []) (c_Mo_change (d := d - 1) (by omega) e_x3) lk_Mo_208 rfl rfl e2 (by decide) rfl (rm_ok (by omega)) (Nat.le_of_ble_eq_true rfl) rm_c d_Mo_begin_6 ?_
  refine go_aload_n 0 d_Mo_begin_9 rfl ?_
  obtain ⟨x4, e_x4, hf⟩ := bnd_x hf
  refine go_get d_Mo_begin_10 (gR_x e_x4) fl_Mo_7 ?_
  obtain ⟨x5, e_x5, hf⟩ := bnd_x hf
  refine go_callS_I (As := [.ref x4]) (st := []) (c_Mo_placedMany (d := d - 1) (by omega) e_x5) lk_Mo_87 rfl rfl (rm_ok (by omega)) (Nat.le_of_ble_eq_true rfl) rm_c d_Mo_begin_13 ?_
  refine go_istore_n (lv' := [(1, .int x5), (0, .ref a0)]) d_Mo_begin_16 rfl (by decide) ?_
  refine go_aload_n 1 d_Mo_begin_17 rfl ?_
  obtain ⟨_, e6, hf⟩ := bnd_x hf
  obtain ⟨h7, e_x7, hf⟩ := bnd_x hf
  refine go_callV_N (As := []) (st := []) (c_Mo_clear (d := d - 1) (by omega) e_x7) lk_Mo_211 rfl rfl e6 (by decide) rfl (rm_ok (by omega)) (Nat.le_of_ble_eq_true rfl) rm_c d_Mo_begin_18 ?_
  refine go_iload_n 0 d_Mo_begin_21 rfl ?_
  obtain ⟨e8, e9⟩ := Prod.mk.inj (Option.some.inj hf)
  subst e8; subst e9
  exact go_iret d_Mo_begin_22 rfl ⟨rfl, rfl, rfl⟩
theorem c_Mo_begin {l : Launch} {E : ET} {d : Nat} (hd : 3 ≤ d) {F : Nat} {r : Int32} {h9 : PH} {x : Nat} {a0 : Nat} {h : PH} (hf : f_Mo_begin F a0 h = some (r, h9)) : Fn l E m_Mo_begin d 0 0 [.ref a0] h x (PoE (some (.int r)) h9 x) :=
  Fn.of (by decide +kernel) (Nat.le_of_ble_eq_true rfl) (g_Mo_begin_0 hd a0 h hf)
theorem d_Mo_give_0 : decode prog_13_method_50_code 0 = .ok (.aload_n 0, 1) := by decide +kernel
theorem d_Mo_give_1 : decode prog_13_method_50_code 1 = .ok (.iload_n 1, 1) := by decide +kernel
theorem d_Mo_give_2 : decode prog_13_method_50_code 2 = .ok (.invokestatic 214, 3) := by decide +kernel
theorem d_Mo_give_5 : decode prog_13_method_50_code 5 = .ok (.ifCond .ne 7, 3) := by decide +kernel
theorem d_Mo_give_8 : decode prog_13_method_50_code 8 = .ok (.iconst 1, 1) := by decide +kernel
theorem d_Mo_give_9 : decode prog_13_method_50_code 9 = .ok (.goto 15, 3) := by decide +kernel
theorem d_Mo_give_12 : decode prog_13_method_50_code 12 = .ok (.iload_n 2, 1) := by decide +kernel
theorem d_Mo_give_13 : decode prog_13_method_50_code 13 = .ok (.invokestatic 217, 3) := by decide +kernel
theorem d_Mo_give_16 : decode prog_13_method_50_code 16 = .ok (.ifCond .eq 7, 3) := by decide +kernel
theorem d_Mo_give_19 : decode prog_13_method_50_code 19 = .ok (.iconst 0, 1) := by decide +kernel
theorem d_Mo_give_20 : decode prog_13_method_50_code 20 = .ok (.goto 4, 3) := by decide +kernel
theorem d_Mo_give_23 : decode prog_13_method_50_code 23 = .ok (.iconst 2, 1) := by decide +kernel
theorem d_Mo_give_24 : decode prog_13_method_50_code 24 = .ok (.putfield 52, 3) := by decide +kernel
theorem d_Mo_give_27 : decode prog_13_method_50_code 27 = .ok (.aload_n 0, 1) := by decide +kernel
theorem d_Mo_give_28 : decode prog_13_method_50_code 28 = .ok (.getfield 52, 3) := by decide +kernel
theorem d_Mo_give_31 : decode prog_13_method_50_code 31 = .ok (.ifCond .eq 5, 3) := by decide +kernel
theorem d_Mo_give_34 : decode prog_13_method_50_code 34 = .ok (.iconst 0, 1) := by decide +kernel
theorem d_Mo_give_35 : decode prog_13_method_50_code 35 = .ok (.ireturn, 1) := by decide +kernel
theorem d_Mo_give_36 : decode prog_13_method_50_code 36 = .ok (.aload_n 0, 1) := by decide +kernel
theorem d_Mo_give_37 : decode prog_13_method_50_code 37 = .ok (.invokevirtual 208, 3) := by decide +kernel
theorem d_Mo_give_40 : decode prog_13_method_50_code 40 = .ok (.aload_n 0, 1) := by decide +kernel
theorem d_Mo_give_41 : decode prog_13_method_50_code 41 = .ok (.getfield 7, 3) := by decide +kernel
theorem d_Mo_give_44 : decode prog_13_method_50_code 44 = .ok (.iload_n 1, 1) := by decide +kernel
theorem d_Mo_give_45 : decode prog_13_method_50_code 45 = .ok (.iaload, 1) := by decide +kernel
theorem d_Mo_give_46 : decode prog_13_method_50_code 46 = .ok (.istore_n 3, 1) := by decide +kernel
theorem d_Mo_give_47 : decode prog_13_method_50_code 47 = .ok (.aload_n 0, 1) := by decide +kernel
theorem d_Mo_give_48 : decode prog_13_method_50_code 48 = .ok (.getfield 7, 3) := by decide +kernel
theorem d_Mo_give_51 : decode prog_13_method_50_code 51 = .ok (.iload_n 1, 1) := by decide +kernel
theorem d_Mo_give_52 : decode prog_13_method_50_code 52 = .ok (.iload_n 3, 1) := by decide +kernel
theorem d_Mo_give_53 : decode prog_13_method_50_code 53 = .ok (.iconst 1, 1) := by decide +kernel
theorem d_Mo_give_54 : decode prog_13_method_50_code 54 = .ok (.iload_n 2, 1) := by decide +kernel
theorem d_Mo_give_55 : decode prog_13_method_50_code 55 = .ok (.ishl, 1) := by decide +kernel
theorem d_Mo_give_56 : decode prog_13_method_50_code 56 = .ok (.iand, 1) := by decide +kernel
theorem d_Mo_give_57 : decode prog_13_method_50_code 57 = .ok (.iastore, 1) := by decide +kernel
theorem d_Mo_give_58 : decode prog_13_method_50_code 58 = .ok (.aload_n 0, 1) := by decide +kernel
theorem d_Mo_give_59 : decode prog_13_method_50_code 59 = .ok (.getfield 7, 3) := by decide +kernel
theorem d_Mo_give_62 : decode prog_13_method_50_code 62 = .ok (.bipush 72, 2) := by decide +kernel
theorem d_Mo_give_64 : decode prog_13_method_50_code 64 = .ok (.iload_n 1, 1) := by decide +kernel
theorem d_Mo_give_65 : decode prog_13_method_50_code 65 = .ok (.iadd, 1) := by decide +kernel
theorem d_Mo_give_66 : decode prog_13_method_50_code 66 = .ok (.iload_n 2, 1) := by decide +kernel
theorem d_Mo_give_67 : decode prog_13_method_50_code 67 = .ok (.iastore, 1) := by decide +kernel
theorem d_Mo_give_68 : decode prog_13_method_50_code 68 = .ok (.iload_n 3, 1) := by decide +kernel
theorem d_Mo_give_69 : decode prog_13_method_50_code 69 = .ok (.ireturn, 1) := by decide +kernel
def b_Mo_give_24 (F : Nat) (a0 : Nat) (i1 : Int32) (i2 : Int32) (s0 : Int32) (s1 : Nat) (h : PH) : Option (Int32 × PH) :=
  bnd (pV h s1 10 5 (.int s0)) fun h1 => bnd (gI h1 a0 10 5) fun x2 => (if x2 = (0 : Int32) then bnd (cK h1 a0 10) fun _ => bnd (f_Mo_change F a0 h1) fun h4 => bnd (gR h4 a0 10 0) fun x5 => bnd (aI h4 x5 i1) fun x6 => bnd (gR h4 a0 10 0) fun x7 => bnd (sI h4 x7 i1 (x6 &&& ((1 : Int32) <<< (i2 &&& 31)))) fun h8 => bnd (gR h8 a0 10 0) fun x9 => bnd (sI h8 x9 ((72 : Int32) + i1) i2) fun h10 => some (x6, h10) else some ((0 : Int32), h1))
theorem g_Mo_give_24 {l : Launch} {E : ET} {d : Nat} (hd : 3 ≤ d) {F : Nat} {r : Int32} {h9 : PH} {x : Nat}  (a0 : Nat) (i1 : Int32) (i2 : Int32) (s0 : Int32) (s1 : Nat) (h : PH) (hf : b_Mo_give_24 F a0 i1 i2 s0 s1 h = some (r, h9)) : Go l E m_Mo_give (rm d 0 0) (KM E 0 0 (PoE (some (.int r)) h9 x)) 0 0 h x 24 [(0, .ref a0), (1, .int i1), (2, .int i2)] [.int s0, .ref s1] := by
  unfold b_Mo_give_24 at hf
  obtain ⟨h1, e_h1, hf⟩ := bnd_x hf
  refine go_putI d_Mo_give_24 e_h1 fl_Mo_52 rfl rfl ?_
  refine go_aload_n 0 d_Mo_give_27 rfl ?_
  obtain ⟨x2, e_x2, hf⟩ := bnd_x hf
  refine go_get d_Mo_give_28 (gI_x e_x2) fl_Mo_52 ?_
  refine go_if_eq 36 d_Mo_give_31 (by decide) (fun q11 => ?_) (fun q11 => ?_)
  · rw [if_pos q11] at hf
    refine go_aload_n 0 d_Mo_give_36 rfl ?_
    obtain ⟨_, e3, hf⟩ := bnd_x hf
    obtain ⟨h4, e_x4, hf⟩ := bnd_x hf
    refine go_callV_N (As := []) (st := []) (c_Mo_change (d := d - 1) (by omega) e_x4) lk_Mo_208 rfl rfl e3 (by decide) rfl (rm_ok (by omega)) (Nat.le_of_ble_eq_true rfl) rm_c d_Mo_give_37 ?_
    refine go_aload_n 0 d_Mo_give_40 rfl ?_
    obtain ⟨x5, e_x5, hf⟩ := bnd_x hf
    refine go_get d_Mo_give_41 (gR_x e_x5) fl_Mo_7 ?_
    refine go_iload_n 1 d_Mo_give_44 rfl ?_
    obtain ⟨x6, e_x6, hf⟩ := bnd_x hf
    refine go_iaload d_Mo_give_45 e_x6 ?_
    refine go_istore_n (lv' := [(3, .int x6), (0, .ref a0), (1, .int i1), (2, .int i2)]) d_Mo_give_46 rfl (by decide) ?_
    refine go_aload_n 1 d_Mo_give_47 rfl ?_
    obtain ⟨x7, e_x7, hf⟩ := bnd_x hf
    refine go_get d_Mo_give_48 (gR_x e_x7) fl_Mo_7 ?_
    refine go_iload_n 2 d_Mo_give_51 rfl ?_
    refine go_iload_n 0 d_Mo_give_52 rfl ?_
    refine go_iconst (1 : Int32) d_Mo_give_53 (by decide) ?_
    refine go_iload_n 3 d_Mo_give_54 rfl ?_
    refine go_ishl d_Mo_give_55 ?_
    refine go_iand d_Mo_give_56 ?_
    obtain ⟨h8, e_h8, hf⟩ := bnd_x hf
    refine go_iastore d_Mo_give_57 e_h8 ?_
    refine go_aload_n 1 d_Mo_give_58 rfl ?_
    obtain ⟨x9, e_x9, hf⟩ := bnd_x hf
    refine go_get d_Mo_give_59 (gR_x e_x9) fl_Mo_7 ?_
    refine go_bipush (72 : Int32) d_Mo_give_62 (by decide) ?_
    refine go_iload_n 2 d_Mo_give_64 rfl ?_
    refine go_iadd d_Mo_give_65 ?_
    refine go_iload_n 3 d_Mo_give_66 rfl ?_
    obtain ⟨h10, e_h10, hf⟩ := bnd_x hf
    refine go_iastore d_Mo_give_67 e_h10 ?_
    refine go_iload_n 0 d_Mo_give_68 rfl ?_
    obtain ⟨e8, e9⟩ := Prod.mk.inj (Option.some.inj hf)
    subst e8; subst e9
    exact go_iret d_Mo_give_69 rfl ⟨rfl, rfl, rfl⟩
  · rw [if_neg q11] at hf
    refine go_iconst (0 : Int32) d_Mo_give_34 (by decide) ?_
    obtain ⟨e8, e9⟩ := Prod.mk.inj (Option.some.inj hf)
    subst e8; subst e9
    exact go_iret d_Mo_give_35 rfl ⟨rfl, rfl, rfl⟩
def f_Mo_give (F : Nat) (a0 : Nat) (i1 : Int32) (i2 : Int32) (h : PH) : Option (Int32 × PH) :=
  bnd (f_Mo_isCell i1) fun x1 => (if x1 = (0 : Int32) then b_Mo_give_24 F a0 i1 i2 (1 : Int32) a0 h else bnd (f_Mo_isDigit i2) fun x2 => (if x2 = (0 : Int32) then b_Mo_give_24 F a0 i1 i2 (2 : Int32) a0 h else b_Mo_give_24 F a0 i1 i2 (0 : Int32) a0 h))
theorem g_Mo_give_0 {l : Launch} {E : ET} {d : Nat} (hd : 3 ≤ d) {F : Nat} {r : Int32} {h9 : PH} {x : Nat}  (a0 : Nat) (i1 : Int32) (i2 : Int32) (h : PH) (hf : f_Mo_give F a0 i1 i2 h = some (r, h9)) : Go l E m_Mo_give (rm d 0 0) (KM E 0 0 (PoE (some (.int r)) h9 x)) 0 0 h x 0 [(0, .ref a0), (1, .int i1), (2, .int i2)] [] := by
  unfold f_Mo_give at hf
  refine go_aload_n 0 d_Mo_give_0 rfl ?_
  refine go_iload_n 1 d_Mo_give_1 rfl ?_
  obtain ⟨x1, e_x1, hf⟩ := bnd_x hf
  refine go_callS_I (As := [.int i1]) (st := [.ref a0]) (c_Mo_isCell (d := d - 1) (by omega) e_x1) lk_Mo_214 rfl rfl (rm_ok (by omega)) (Nat.le_of_ble_eq_true rfl) rm_c d_Mo_give_2 ?_
  refine go_if_ne 12 d_Mo_give_5 (by decide) (fun q4 => ?_) (fun q4 => ?_)
  · rw [if_neg q4] at hf
    refine go_iload_n 2 d_Mo_give_12 rfl ?_
    obtain ⟨x2, e_x2, hf⟩ := bnd_x hf
    refine go_callS_I (As := [.int i2]) (st := [.ref a0]) (c_Mo_isDigit (d := d - 1) (by omega) e_x2) lk_Mo_217 rfl rfl (rm_ok (by omega)) (Nat.le_of_ble_eq_true rfl) rm_c d_Mo_give_13 ?_
    refine go_if_eq 23 d_Mo_give_16 (by decide) (fun q3 => ?_) (fun q3 => ?_)
    · rw [if_pos q3] at hf
      refine go_iconst (2 : Int32) d_Mo_give_23 (by decide) ?_
      refine go_sub (lv' := [(0, .ref a0), (1, .int i1), (2, .int i2)]) [0, 1, 2] rfl ?_
      exact g_Mo_give_24 hd  a0 i1 i2 (2 : Int32) a0 h hf
    · rw [if_neg q3] at hf
      refine go_iconst (0 : Int32) d_Mo_give_19 (by decide) ?_
      refine go_goto 24 d_Mo_give_20 (by decide) ?_
      refine go_sub (lv' := [(0, .ref a0), (1, .int i1), (2, .int i2)]) [0, 1, 2] rfl ?_
      exact g_Mo_give_24 hd  a0 i1 i2 (0 : Int32) a0 h hf
  · rw [if_pos q4] at hf
    refine go_iconst (1 : Int32) d_Mo_give_8 (by decide) ?_
    refine go_goto 24 d_Mo_give_9 (by decide) ?_
    refine go_sub (lv' := [(0, .ref a0), (1, .int i1), (2, .int i2)]) [0, 1, 2] rfl ?_
    exact g_Mo_give_24 hd  a0 i1 i2 (1 : Int32) a0 h hf
theorem c_Mo_give {l : Launch} {E : ET} {d : Nat} (hd : 3 ≤ d) {F : Nat} {r : Int32} {h9 : PH} {x : Nat} {a0 : Nat} {i1 : Int32} {i2 : Int32} {h : PH} (hf : f_Mo_give F a0 i1 i2 h = some (r, h9)) : Fn l E m_Mo_give d 0 0 [.ref a0, .int i1, .int i2] h x (PoE (some (.int r)) h9 x) :=
  Fn.of (by decide +kernel) (Nat.le_of_ble_eq_true rfl) (g_Mo_give_0 hd a0 i1 i2 h hf)
theorem d_Mo_strike_0 : decode prog_13_method_51_code 0 = .ok (.aload_n 0, 1) := by decide +kernel
theorem d_Mo_strike_1 : decode prog_13_method_51_code 1 = .ok (.iload_n 1, 1) := by decide +kernel
theorem d_Mo_strike_2 : decode prog_13_method_51_code 2 = .ok (.invokestatic 214, 3) := by decide +kernel
theorem d_Mo_strike_5 : decode prog_13_method_51_code 5 = .ok (.ifCond .ne 7, 3) := by decide +kernel
theorem d_Mo_strike_8 : decode prog_13_method_51_code 8 = .ok (.iconst 1, 1) := by decide +kernel
theorem d_Mo_strike_9 : decode prog_13_method_51_code 9 = .ok (.goto 15, 3) := by decide +kernel
theorem d_Mo_strike_12 : decode prog_13_method_51_code 12 = .ok (.iload_n 2, 1) := by decide +kernel
theorem d_Mo_strike_13 : decode prog_13_method_51_code 13 = .ok (.invokestatic 217, 3) := by decide +kernel
theorem d_Mo_strike_16 : decode prog_13_method_51_code 16 = .ok (.ifCond .eq 7, 3) := by decide +kernel
theorem d_Mo_strike_19 : decode prog_13_method_51_code 19 = .ok (.iconst 0, 1) := by decide +kernel
theorem d_Mo_strike_20 : decode prog_13_method_51_code 20 = .ok (.goto 4, 3) := by decide +kernel
theorem d_Mo_strike_23 : decode prog_13_method_51_code 23 = .ok (.iconst 2, 1) := by decide +kernel
theorem d_Mo_strike_24 : decode prog_13_method_51_code 24 = .ok (.putfield 52, 3) := by decide +kernel
theorem d_Mo_strike_27 : decode prog_13_method_51_code 27 = .ok (.aload_n 0, 1) := by decide +kernel
theorem d_Mo_strike_28 : decode prog_13_method_51_code 28 = .ok (.getfield 52, 3) := by decide +kernel
theorem d_Mo_strike_31 : decode prog_13_method_51_code 31 = .ok (.ifCond .eq 5, 3) := by decide +kernel
theorem d_Mo_strike_34 : decode prog_13_method_51_code 34 = .ok (.iconst 0, 1) := by decide +kernel
theorem d_Mo_strike_35 : decode prog_13_method_51_code 35 = .ok (.ireturn, 1) := by decide +kernel
theorem d_Mo_strike_36 : decode prog_13_method_51_code 36 = .ok (.aload_n 0, 1) := by decide +kernel
theorem d_Mo_strike_37 : decode prog_13_method_51_code 37 = .ok (.invokevirtual 208, 3) := by decide +kernel
theorem d_Mo_strike_40 : decode prog_13_method_51_code 40 = .ok (.aload_n 0, 1) := by decide +kernel
theorem d_Mo_strike_41 : decode prog_13_method_51_code 41 = .ok (.getfield 7, 3) := by decide +kernel
theorem d_Mo_strike_44 : decode prog_13_method_51_code 44 = .ok (.iload_n 1, 1) := by decide +kernel
theorem d_Mo_strike_45 : decode prog_13_method_51_code 45 = .ok (.iaload, 1) := by decide +kernel
theorem d_Mo_strike_46 : decode prog_13_method_51_code 46 = .ok (.iload_n 2, 1) := by decide +kernel
theorem d_Mo_strike_47 : decode prog_13_method_51_code 47 = .ok (.invokestatic 66, 3) := by decide +kernel
theorem d_Mo_strike_50 : decode prog_13_method_51_code 50 = .ok (.istore_n 3, 1) := by decide +kernel
theorem d_Mo_strike_51 : decode prog_13_method_51_code 51 = .ok (.aload_n 0, 1) := by decide +kernel
theorem d_Mo_strike_52 : decode prog_13_method_51_code 52 = .ok (.getfield 7, 3) := by decide +kernel
theorem d_Mo_strike_55 : decode prog_13_method_51_code 55 = .ok (.iload_n 1, 1) := by decide +kernel
theorem d_Mo_strike_56 : decode prog_13_method_51_code 56 = .ok (.dup2, 1) := by decide +kernel
theorem d_Mo_strike_57 : decode prog_13_method_51_code 57 = .ok (.iaload, 1) := by decide +kernel
theorem d_Mo_strike_58 : decode prog_13_method_51_code 58 = .ok (.iconst 1, 1) := by decide +kernel
theorem d_Mo_strike_59 : decode prog_13_method_51_code 59 = .ok (.iload_n 2, 1) := by decide +kernel
theorem d_Mo_strike_60 : decode prog_13_method_51_code 60 = .ok (.ishl, 1) := by decide +kernel
theorem d_Mo_strike_61 : decode prog_13_method_51_code 61 = .ok (.iconst (-1), 1) := by decide +kernel
theorem d_Mo_strike_62 : decode prog_13_method_51_code 62 = .ok (.ixor, 1) := by decide +kernel
theorem d_Mo_strike_63 : decode prog_13_method_51_code 63 = .ok (.iand, 1) := by decide +kernel
theorem d_Mo_strike_64 : decode prog_13_method_51_code 64 = .ok (.iastore, 1) := by decide +kernel
theorem d_Mo_strike_65 : decode prog_13_method_51_code 65 = .ok (.iload_n 3, 1) := by decide +kernel
theorem d_Mo_strike_66 : decode prog_13_method_51_code 66 = .ok (.ireturn, 1) := by decide +kernel
def b_Mo_strike_24 (F : Nat) (a0 : Nat) (i1 : Int32) (i2 : Int32) (s0 : Int32) (s1 : Nat) (h : PH) : Option (Int32 × PH) :=
  bnd (pV h s1 10 5 (.int s0)) fun h1 => bnd (gI h1 a0 10 5) fun x2 => (if x2 = (0 : Int32) then bnd (cK h1 a0 10) fun _ => bnd (f_Mo_change F a0 h1) fun h4 => bnd (gR h4 a0 10 0) fun x5 => bnd (aI h4 x5 i1) fun x6 => bnd (f_Mo_has x6 i2) fun x7 => bnd (gR h4 a0 10 0) fun x8 => bnd (aI h4 x8 i1) fun x9 => bnd (sI h4 x8 i1 (x9 &&& (((1 : Int32) <<< (i2 &&& 31)) ^^^ (-1 : Int32)))) fun h10 => bnd (cZ x7) fun _ => some (x7, h10) else some ((0 : Int32), h1))
theorem g_Mo_strike_24 {l : Launch} {E : ET} {d : Nat} (hd : 3 ≤ d) {F : Nat} {r : Int32} {h9 : PH} {x : Nat}  (a0 : Nat) (i1 : Int32) (i2 : Int32) (s0 : Int32) (s1 : Nat) (h : PH) (hf : b_Mo_strike_24 F a0 i1 i2 s0 s1 h = some (r, h9)) : Go l E m_Mo_strike (rm d 0 0) (KM E 0 0 (PoE (some (.int r)) h9 x)) 0 0 h x 24 [(0, .ref a0), (1, .int i1), (2, .int i2)] [.int s0, .ref s1] := by
  unfold b_Mo_strike_24 at hf
  obtain ⟨h1, e_h1, hf⟩ := bnd_x hf
  refine go_putI d_Mo_strike_24 e_h1 fl_Mo_52 rfl rfl ?_
  refine go_aload_n 0 d_Mo_strike_27 rfl ?_
  obtain ⟨x2, e_x2, hf⟩ := bnd_x hf
  refine go_get d_Mo_strike_28 (gI_x e_x2) fl_Mo_52 ?_
  refine go_if_eq 36 d_Mo_strike_31 (by decide) (fun q12 => ?_) (fun q12 => ?_)
  · rw [if_pos q12] at hf
    refine go_aload_n 0 d_Mo_strike_36 rfl ?_
    obtain ⟨_, e3, hf⟩ := bnd_x hf
    obtain ⟨h4, e_x4, hf⟩ := bnd_x hf
    refine go_callV_N (As := []) (st := []) (c_Mo_change (d := d - 1) (by omega) e_x4) lk_Mo_208 rfl rfl e3 (by decide) rfl (rm_ok (by omega)) (Nat.le_of_ble_eq_true rfl) rm_c d_Mo_strike_37 ?_
    refine go_aload_n 0 d_Mo_strike_40 rfl ?_
    obtain ⟨x5, e_x5, hf⟩ := bnd_x hf
    refine go_get d_Mo_strike_41 (gR_x e_x5) fl_Mo_7 ?_
    refine go_iload_n 1 d_Mo_strike_44 rfl ?_
    obtain ⟨x6, e_x6, hf⟩ := bnd_x hf
    refine go_iaload d_Mo_strike_45 e_x6 ?_
    refine go_iload_n 2 d_Mo_strike_46 rfl ?_
    obtain ⟨x7, e_x7, hf⟩ := bnd_x hf
    refine go_callS_I (As := [.int x6, .int i2]) (st := []) (c_Mo_has (d := d - 1) (by omega) e_x7) lk_Mo_66 rfl rfl (rm_ok (by omega)) (Nat.le_of_ble_eq_true rfl) rm_c d_Mo_strike_47 ?_
    refine go_istore_n (lv' := [(3, .int x7), (0, .ref a0), (1, .int i1), (2, .int i2)]) d_Mo_strike_50 rfl (by decide) ?_
    refine go_aload_n 1 d_Mo_strike_51 rfl ?_
    obtain ⟨x8, e_x8, hf⟩ := bnd_x hf
    refine go_get d_Mo_strike_52 (gR_x e_x8) fl_Mo_7 ?_
    refine go_iload_n 2 d_Mo_strike_55 rfl ?_
    refine go_dup2 d_Mo_strike_56 rfl rfl ?_
    obtain ⟨x9, e_x9, hf⟩ := bnd_x hf
    refine go_iaload d_Mo_strike_57 e_x9 ?_
    refine go_iconst (1 : Int32) d_Mo_strike_58 (by decide) ?_
    refine go_iload_n 3 d_Mo_strike_59 rfl ?_
    refine go_ishl d_Mo_strike_60 ?_
    refine go_iconst (-1 : Int32) d_Mo_strike_61 (by decide) ?_
    refine go_ixor d_Mo_strike_62 ?_
    refine go_iand d_Mo_strike_63 ?_
    obtain ⟨h10, e_h10, hf⟩ := bnd_x hf
    refine go_iastore d_Mo_strike_64 e_h10 ?_
    refine go_iload_n 0 d_Mo_strike_65 rfl ?_
    obtain ⟨_, e11, hf⟩ := bnd_x hf
    obtain ⟨e8, e9⟩ := Prod.mk.inj (Option.some.inj hf)
    subst e8; subst e9
    exact go_zret d_Mo_strike_66 e11 rfl ⟨rfl, rfl, rfl⟩
  · rw [if_neg q12] at hf
    refine go_iconst (0 : Int32) d_Mo_strike_34 (by decide) ?_
    obtain ⟨e8, e9⟩ := Prod.mk.inj (Option.some.inj hf)
    subst e8; subst e9
    exact go_zret d_Mo_strike_35 rfl rfl ⟨rfl, rfl, rfl⟩
def f_Mo_strike (F : Nat) (a0 : Nat) (i1 : Int32) (i2 : Int32) (h : PH) : Option (Int32 × PH) :=
  bnd (f_Mo_isCell i1) fun x1 => (if x1 = (0 : Int32) then b_Mo_strike_24 F a0 i1 i2 (1 : Int32) a0 h else bnd (f_Mo_isDigit i2) fun x2 => (if x2 = (0 : Int32) then b_Mo_strike_24 F a0 i1 i2 (2 : Int32) a0 h else b_Mo_strike_24 F a0 i1 i2 (0 : Int32) a0 h))
theorem g_Mo_strike_0 {l : Launch} {E : ET} {d : Nat} (hd : 3 ≤ d) {F : Nat} {r : Int32} {h9 : PH} {x : Nat}  (a0 : Nat) (i1 : Int32) (i2 : Int32) (h : PH) (hf : f_Mo_strike F a0 i1 i2 h = some (r, h9)) : Go l E m_Mo_strike (rm d 0 0) (KM E 0 0 (PoE (some (.int r)) h9 x)) 0 0 h x 0 [(0, .ref a0), (1, .int i1), (2, .int i2)] [] := by
  unfold f_Mo_strike at hf
  refine go_aload_n 0 d_Mo_strike_0 rfl ?_
  refine go_iload_n 1 d_Mo_strike_1 rfl ?_
  obtain ⟨x1, e_x1, hf⟩ := bnd_x hf
  refine go_callS_I (As := [.int i1]) (st := [.ref a0]) (c_Mo_isCell (d := d - 1) (by omega) e_x1) lk_Mo_214 rfl rfl (rm_ok (by omega)) (Nat.le_of_ble_eq_true rfl) rm_c d_Mo_strike_2 ?_
  refine go_if_ne 12 d_Mo_strike_5 (by decide) (fun q4 => ?_) (fun q4 => ?_)
  · rw [if_neg q4] at hf
    refine go_iload_n 2 d_Mo_strike_12 rfl ?_
    obtain ⟨x2, e_x2, hf⟩ := bnd_x hf
    refine go_callS_I (As := [.int i2]) (st := [.ref a0]) (c_Mo_isDigit (d := d - 1) (by omega) e_x2) lk_Mo_217 rfl rfl (rm_ok (by omega)) (Nat.le_of_ble_eq_true rfl) rm_c d_Mo_strike_13 ?_
    refine go_if_eq 23 d_Mo_strike_16 (by decide) (fun q3 => ?_) (fun q3 => ?_)
    · rw [if_pos q3] at hf
      refine go_iconst (2 : Int32) d_Mo_strike_23 (by decide) ?_
      refine go_sub (lv' := [(0, .ref a0), (1, .int i1), (2, .int i2)]) [0, 1, 2] rfl ?_
      exact g_Mo_strike_24 hd  a0 i1 i2 (2 : Int32) a0 h hf
    · rw [if_neg q3] at hf
      refine go_iconst (0 : Int32) d_Mo_strike_19 (by decide) ?_
      refine go_goto 24 d_Mo_strike_20 (by decide) ?_
      refine go_sub (lv' := [(0, .ref a0), (1, .int i1), (2, .int i2)]) [0, 1, 2] rfl ?_
      exact g_Mo_strike_24 hd  a0 i1 i2 (0 : Int32) a0 h hf
  · rw [if_pos q4] at hf
    refine go_iconst (1 : Int32) d_Mo_strike_8 (by decide) ?_
    refine go_goto 24 d_Mo_strike_9 (by decide) ?_
    refine go_sub (lv' := [(0, .ref a0), (1, .int i1), (2, .int i2)]) [0, 1, 2] rfl ?_
    exact g_Mo_strike_24 hd  a0 i1 i2 (1 : Int32) a0 h hf
theorem c_Mo_strike {l : Launch} {E : ET} {d : Nat} (hd : 3 ≤ d) {F : Nat} {r : Int32} {h9 : PH} {x : Nat} {a0 : Nat} {i1 : Int32} {i2 : Int32} {h : PH} (hf : f_Mo_strike F a0 i1 i2 h = some (r, h9)) : Fn l E m_Mo_strike d 0 0 [.ref a0, .int i1, .int i2] h x (PoE (some (.int r)) h9 x) :=
  Fn.of (by decide +kernel) (Nat.le_of_ble_eq_true rfl) (g_Mo_strike_0 hd a0 i1 i2 h hf)
theorem d_Mo_addConstraint_0 : decode prog_13_method_52_code 0 = .ok (.iload_n 1, 1) := by decide +kernel
theorem d_Mo_addConstraint_1 : decode prog_13_method_52_code 1 = .ok (.iconst 0, 1) := by decide +kernel
theorem d_Mo_addConstraint_2 : decode prog_13_method_52_code 2 = .ok (.iconst 2, 1) := by decide +kernel
theorem d_Mo_addConstraint_3 : decode prog_13_method_52_code 3 = .ok (.invokestatic 62, 3) := by decide +kernel
theorem d_Mo_addConstraint_6 : decode prog_13_method_52_code 6 = .ok (.ifCond .eq 28, 3) := by decide +kernel
theorem d_Mo_addConstraint_9 : decode prog_13_method_52_code 9 = .ok (.iload_n 1, 1) := by decide +kernel
theorem d_Mo_addConstraint_10 : decode prog_13_method_52_code 10 = .ok (.ifCond .ne 16, 3) := by decide +kernel
theorem d_Mo_addConstraint_13 : decode prog_13_method_52_code 13 = .ok (.iload_n 3, 1) := by decide +kernel
theorem d_Mo_addConstraint_14 : decode prog_13_method_52_code 14 = .ok (.iconst 1, 1) := by decide +kernel
theorem d_Mo_addConstraint_15 : decode prog_13_method_52_code 15 = .ok (.bipush 24, 2) := by decide +kernel
theorem d_Mo_addConstraint_17 : decode prog_13_method_52_code 17 = .ok (.invokestatic 62, 3) := by decide +kernel
theorem d_Mo_addConstraint_20 : decode prog_13_method_52_code 20 = .ok (.ifCond .eq 14, 3) := by decide +kernel
theorem d_Mo_addConstraint_23 : decode prog_13_method_52_code 23 = .ok (.goto 7, 3) := by decide +kernel
theorem d_Mo_addConstraint_26 : decode prog_13_method_52_code 26 = .ok (.iload_n 3, 1) := by decide +kernel
theorem d_Mo_addConstraint_27 : decode prog_13_method_52_code 27 = .ok (.ifCond .ne 7, 3) := by decide +kernel
theorem d_Mo_addConstraint_30 : decode prog_13_method_52_code 30 = .ok (.iconst 1, 1) := by decide +kernel
theorem d_Mo_addConstraint_31 : decode prog_13_method_52_code 31 = .ok (.goto 4, 3) := by decide +kernel
theorem d_Mo_addConstraint_34 : decode prog_13_method_52_code 34 = .ok (.iconst 0, 1) := by decide +kernel
theorem d_Mo_addConstraint_35 : decode prog_13_method_52_code 35 = .ok (.istore 4, 2) := by decide +kernel
theorem d_Mo_addConstraint_37 : decode prog_13_method_52_code 37 = .ok (.aload_n 0, 1) := by decide +kernel
theorem d_Mo_addConstraint_38 : decode prog_13_method_52_code 38 = .ok (.iload_n 2, 1) := by decide +kernel
theorem d_Mo_addConstraint_39 : decode prog_13_method_52_code 39 = .ok (.invokestatic 214, 3) := by decide +kernel
theorem d_Mo_addConstraint_42 : decode prog_13_method_52_code 42 = .ok (.ifCond .ne 7, 3) := by decide +kernel
theorem d_Mo_addConstraint_45 : decode prog_13_method_52_code 45 = .ok (.iconst 1, 1) := by decide +kernel
theorem d_Mo_addConstraint_46 : decode prog_13_method_52_code 46 = .ok (.goto 29, 3) := by decide +kernel
theorem d_Mo_addConstraint_49 : decode prog_13_method_52_code 49 = .ok (.iload 4, 2) := by decide +kernel
theorem d_Mo_addConstraint_51 : decode prog_13_method_52_code 51 = .ok (.ifCond .ne 7, 3) := by decide +kernel
theorem d_Mo_addConstraint_54 : decode prog_13_method_52_code 54 = .ok (.iconst 2, 1) := by decide +kernel
theorem d_Mo_addConstraint_55 : decode prog_13_method_52_code 55 = .ok (.goto 20, 3) := by decide +kernel
theorem d_Mo_addConstraint_58 : decode prog_13_method_52_code 58 = .ok (.aload_n 0, 1) := by decide +kernel
theorem d_Mo_addConstraint_59 : decode prog_13_method_52_code 59 = .ok (.getfield 7, 3) := by decide +kernel
theorem d_Mo_addConstraint_62 : decode prog_13_method_52_code 62 = .ok (.bipush 108, 2) := by decide +kernel
theorem d_Mo_addConstraint_64 : decode prog_13_method_52_code 64 = .ok (.iaload, 1) := by decide +kernel
theorem d_Mo_addConstraint_65 : decode prog_13_method_52_code 65 = .ok (.bipush 8, 2) := by decide +kernel
theorem d_Mo_addConstraint_67 : decode prog_13_method_52_code 67 = .ok (.if_icmp .ne 7, 3) := by decide +kernel
theorem d_Mo_addConstraint_70 : decode prog_13_method_52_code 70 = .ok (.iconst 3, 1) := by decide +kernel
theorem d_Mo_addConstraint_71 : decode prog_13_method_52_code 71 = .ok (.goto 4, 3) := by decide +kernel
theorem d_Mo_addConstraint_74 : decode prog_13_method_52_code 74 = .ok (.iconst 0, 1) := by decide +kernel
theorem d_Mo_addConstraint_75 : decode prog_13_method_52_code 75 = .ok (.putfield 52, 3) := by decide +kernel
theorem d_Mo_addConstraint_78 : decode prog_13_method_52_code 78 = .ok (.aload_n 0, 1) := by decide +kernel
theorem d_Mo_addConstraint_79 : decode prog_13_method_52_code 79 = .ok (.getfield 52, 3) := by decide +kernel
theorem d_Mo_addConstraint_82 : decode prog_13_method_52_code 82 = .ok (.ifCond .eq 5, 3) := by decide +kernel
theorem d_Mo_addConstraint_85 : decode prog_13_method_52_code 85 = .ok (.iconst 0, 1) := by decide +kernel
theorem d_Mo_addConstraint_86 : decode prog_13_method_52_code 86 = .ok (.ireturn, 1) := by decide +kernel
theorem d_Mo_addConstraint_87 : decode prog_13_method_52_code 87 = .ok (.aload_n 0, 1) := by decide +kernel
theorem d_Mo_addConstraint_88 : decode prog_13_method_52_code 88 = .ok (.invokevirtual 208, 3) := by decide +kernel
theorem d_Mo_addConstraint_91 : decode prog_13_method_52_code 91 = .ok (.bipush 109, 2) := by decide +kernel
theorem d_Mo_addConstraint_93 : decode prog_13_method_52_code 93 = .ok (.bipush 9, 2) := by decide +kernel
theorem d_Mo_addConstraint_95 : decode prog_13_method_52_code 95 = .ok (.aload_n 0, 1) := by decide +kernel
theorem d_Mo_addConstraint_96 : decode prog_13_method_52_code 96 = .ok (.getfield 7, 3) := by decide +kernel
theorem d_Mo_addConstraint_99 : decode prog_13_method_52_code 99 = .ok (.bipush 108, 2) := by decide +kernel
theorem d_Mo_addConstraint_101 : decode prog_13_method_52_code 101 = .ok (.iaload, 1) := by decide +kernel
theorem d_Mo_addConstraint_102 : decode prog_13_method_52_code 102 = .ok (.imul, 1) := by decide +kernel
theorem d_Mo_addConstraint_103 : decode prog_13_method_52_code 103 = .ok (.iadd, 1) := by decide +kernel
theorem d_Mo_addConstraint_104 : decode prog_13_method_52_code 104 = .ok (.istore 5, 2) := by decide +kernel
theorem d_Mo_addConstraint_106 : decode prog_13_method_52_code 106 = .ok (.aload_n 0, 1) := by decide +kernel
theorem d_Mo_addConstraint_107 : decode prog_13_method_52_code 107 = .ok (.getfield 7, 3) := by decide +kernel
theorem d_Mo_addConstraint_110 : decode prog_13_method_52_code 110 = .ok (.iload 5, 2) := by decide +kernel
theorem d_Mo_addConstraint_112 : decode prog_13_method_52_code 112 = .ok (.iload_n 1, 1) := by decide +kernel
theorem d_Mo_addConstraint_113 : decode prog_13_method_52_code 113 = .ok (.iastore, 1) := by decide +kernel
theorem d_Mo_addConstraint_114 : decode prog_13_method_52_code 114 = .ok (.aload_n 0, 1) := by decide +kernel
theorem d_Mo_addConstraint_115 : decode prog_13_method_52_code 115 = .ok (.getfield 7, 3) := by decide +kernel
theorem d_Mo_addConstraint_118 : decode prog_13_method_52_code 118 = .ok (.iload 5, 2) := by decide +kernel
theorem d_Mo_addConstraint_120 : decode prog_13_method_52_code 120 = .ok (.iconst 1, 1) := by decide +kernel
theorem d_Mo_addConstraint_121 : decode prog_13_method_52_code 121 = .ok (.iadd, 1) := by decide +kernel
theorem d_Mo_addConstraint_122 : decode prog_13_method_52_code 122 = .ok (.iload_n 3, 1) := by decide +kernel
theorem d_Mo_addConstraint_123 : decode prog_13_method_52_code 123 = .ok (.iastore, 1) := by decide +kernel
theorem d_Mo_addConstraint_124 : decode prog_13_method_52_code 124 = .ok (.aload_n 0, 1) := by decide +kernel
theorem d_Mo_addConstraint_125 : decode prog_13_method_52_code 125 = .ok (.getfield 7, 3) := by decide +kernel
theorem d_Mo_addConstraint_128 : decode prog_13_method_52_code 128 = .ok (.iload 5, 2) := by decide +kernel
theorem d_Mo_addConstraint_130 : decode prog_13_method_52_code 130 = .ok (.iconst 2, 1) := by decide +kernel
theorem d_Mo_addConstraint_131 : decode prog_13_method_52_code 131 = .ok (.iadd, 1) := by decide +kernel
theorem d_Mo_addConstraint_132 : decode prog_13_method_52_code 132 = .ok (.iconst 1, 1) := by decide +kernel
theorem d_Mo_addConstraint_133 : decode prog_13_method_52_code 133 = .ok (.iastore, 1) := by decide +kernel
theorem d_Mo_addConstraint_134 : decode prog_13_method_52_code 134 = .ok (.aload_n 0, 1) := by decide +kernel
theorem d_Mo_addConstraint_135 : decode prog_13_method_52_code 135 = .ok (.getfield 7, 3) := by decide +kernel
theorem d_Mo_addConstraint_138 : decode prog_13_method_52_code 138 = .ok (.iload 5, 2) := by decide +kernel
theorem d_Mo_addConstraint_140 : decode prog_13_method_52_code 140 = .ok (.iconst 3, 1) := by decide +kernel
theorem d_Mo_addConstraint_141 : decode prog_13_method_52_code 141 = .ok (.iadd, 1) := by decide +kernel
theorem d_Mo_addConstraint_142 : decode prog_13_method_52_code 142 = .ok (.iload_n 2, 1) := by decide +kernel
theorem d_Mo_addConstraint_143 : decode prog_13_method_52_code 143 = .ok (.iastore, 1) := by decide +kernel
theorem d_Mo_addConstraint_144 : decode prog_13_method_52_code 144 = .ok (.aload_n 0, 1) := by decide +kernel
theorem d_Mo_addConstraint_145 : decode prog_13_method_52_code 145 = .ok (.getfield 7, 3) := by decide +kernel
theorem d_Mo_addConstraint_148 : decode prog_13_method_52_code 148 = .ok (.bipush 108, 2) := by decide +kernel
theorem d_Mo_addConstraint_150 : decode prog_13_method_52_code 150 = .ok (.dup2, 1) := by decide +kernel
theorem d_Mo_addConstraint_151 : decode prog_13_method_52_code 151 = .ok (.iaload, 1) := by decide +kernel
theorem d_Mo_addConstraint_152 : decode prog_13_method_52_code 152 = .ok (.iconst 1, 1) := by decide +kernel
theorem d_Mo_addConstraint_153 : decode prog_13_method_52_code 153 = .ok (.iadd, 1) := by decide +kernel
theorem d_Mo_addConstraint_154 : decode prog_13_method_52_code 154 = .ok (.iastore, 1) := by decide +kernel
theorem d_Mo_addConstraint_155 : decode prog_13_method_52_code 155 = .ok (.aload_n 0, 1) := by decide +kernel
theorem d_Mo_addConstraint_156 : decode prog_13_method_52_code 156 = .ok (.getfield 7, 3) := by decide +kernel
theorem d_Mo_addConstraint_159 : decode prog_13_method_52_code 159 = .ok (.bipush 108, 2) := by decide +kernel
theorem d_Mo_addConstraint_161 : decode prog_13_method_52_code 161 = .ok (.iaload, 1) := by decide +kernel
theorem d_Mo_addConstraint_162 : decode prog_13_method_52_code 162 = .ok (.iconst 1, 1) := by decide +kernel
theorem d_Mo_addConstraint_163 : decode prog_13_method_52_code 163 = .ok (.isub, 1) := by decide +kernel
theorem d_Mo_addConstraint_164 : decode prog_13_method_52_code 164 = .ok (.ireturn, 1) := by decide +kernel
def b_Mo_addConstraint_75 (F : Nat) (a0 : Nat) (i1 : Int32) (i2 : Int32) (i3 : Int32) (s0 : Int32) (s1 : Nat) (h : PH) : Option (Int32 × PH) :=
  bnd (pV h s1 10 5 (.int s0)) fun h1 => bnd (gI h1 a0 10 5) fun x2 => (if x2 = (0 : Int32) then bnd (cK h1 a0 10) fun _ => bnd (f_Mo_change F a0 h1) fun h4 => bnd (gR h4 a0 10 0) fun x5 => bnd (aI h4 x5 (108 : Int32)) fun x6 => bnd (some ((109 : Int32) + ((9 : Int32) * x6))) fun y7 => bnd (gR h4 a0 10 0) fun x8 => bnd (sI h4 x8 y7 i1) fun h9 => bnd (gR h9 a0 10 0) fun x10 => bnd (sI h9 x10 (y7 + (1 : Int32)) i3) fun h11 => bnd (gR h11 a0 10 0) fun x12 => bnd (sI h11 x12 (y7 + (2 : Int32)) (1 : Int32)) fun h13 => bnd (gR h13 a0 10 0) fun x14 => bnd (sI h13 x14 (y7 + (3 : Int32)) i2) fun h15 => bnd (gR h15 a0 10 0) fun x16 => bnd (aI h15 x16 (108 : Int32)) fun x17 => bnd (sI h15 x16 (108 : Int32) (x17 + (1 : Int32))) fun h18 => bnd (gR h18 a0 10 0) fun x19 => bnd (aI h18 x19 (108 : Int32)) fun x20 => some ((x20 - (1 : Int32)), h18) else some ((0 : Int32), h1))
theorem g_Mo_addConstraint_75 {l : Launch} {E : ET} {d : Nat} (hd : 3 ≤ d) {F : Nat} {r : Int32} {h9 : PH} {x : Nat}  (a0 : Nat) (i1 : Int32) (i2 : Int32) (i3 : Int32) (s0 : Int32) (s1 : Nat) (h : PH) (hf : b_Mo_addConstraint_75 F a0 i1 i2 i3 s0 s1 h = some (r, h9)) : Go l E m_Mo_addConstraint (rm d 0 0) (KM E 0 0 (PoE (some (.int r)) h9 x)) 0 0 h x 75 [(0, .ref a0), (1, .int i1), (2, .int i2), (3, .int i3)] [.int s0, .ref s1] := by
  unfold b_Mo_addConstraint_75 at hf
  obtain ⟨h1, e_h1, hf⟩ := bnd_x hf
  refine go_putI d_Mo_addConstraint_75 e_h1 fl_Mo_52 rfl rfl ?_
  refine go_aload_n 0 d_Mo_addConstraint_78 rfl ?_
  obtain ⟨x2, e_x2, hf⟩ := bnd_x hf
  refine go_get d_Mo_addConstraint_79 (gI_x e_x2) fl_Mo_52 ?_
  refine go_if_eq 87 d_Mo_addConstraint_82 (by decide) (fun q21 => ?_) (fun q21 => ?_)
  · rw [if_pos q21] at hf
    refine go_aload_n 0 d_Mo_addConstraint_87 rfl ?_
    obtain ⟨_, e3, hf⟩ := bnd_x hf
    obtain ⟨h4, e_x4, hf⟩ := bnd_x hf
    refine go_callV_N (As := []) (st := []) (c_Mo_change (d := d - 1) (by omega) e_x4) lk_Mo_208 rfl rfl e3 (by decide) rfl (rm_ok (by omega)) (Nat.le_of_ble_eq_true rfl) rm_c d_Mo_addConstraint_88 ?_
    refine go_bipush (109 : Int32) d_Mo_addConstraint_91 (by decide) ?_
    refine go_bipush (9 : Int32) d_Mo_addConstraint_93 (by decide) ?_
    refine go_aload_n 0 d_Mo_addConstraint_95 rfl ?_
    obtain ⟨x5, e_x5, hf⟩ := bnd_x hf
    refine go_get d_Mo_addConstraint_96 (gR_x e_x5) fl_Mo_7 ?_
    refine go_bipush (108 : Int32) d_Mo_addConstraint_99 (by decide) ?_
    obtain ⟨x6, e_x6, hf⟩ := bnd_x hf
    refine go_iaload d_Mo_addConstraint_101 e_x6 ?_
    refine go_imul d_Mo_addConstraint_102 ?_
    refine go_iadd d_Mo_addConstraint_103 ?_
    obtain ⟨y7, e_y7, hf⟩ := bnd_x hf
    refine go_nmI e_y7 ?_
    refine go_istore (lv' := [(5, .int y7), (0, .ref a0), (1, .int i1), (2, .int i2), (3, .int i3)]) d_Mo_addConstraint_104 rfl (by decide) ?_
    refine go_aload_n 1 d_Mo_addConstraint_106 rfl ?_
    obtain ⟨x8, e_x8, hf⟩ := bnd_x hf
    refine go_get d_Mo_addConstraint_107 (gR_x e_x8) fl_Mo_7 ?_
    refine go_iload 0 d_Mo_addConstraint_110 rfl ?_
    refine go_iload_n 2 d_Mo_addConstraint_112 rfl ?_
    obtain ⟨h9, e_h9, hf⟩ := bnd_x hf
    refine go_iastore d_Mo_addConstraint_113 e_h9 ?_
    refine go_aload_n 1 d_Mo_addConstraint_114 rfl ?_
    obtain ⟨x10, e_x10, hf⟩ := bnd_x hf
    refine go_get d_Mo_addConstraint_115 (gR_x e_x10) fl_Mo_7 ?_
    refine go_iload 0 d_Mo_addConstraint_118 rfl ?_
    refine go_iconst (1 : Int32) d_Mo_addConstraint_120 (by decide) ?_
    refine go_iadd d_Mo_addConstraint_121 ?_
    refine go_iload_n 4 d_Mo_addConstraint_122 rfl ?_
    obtain ⟨h11, e_h11, hf⟩ := bnd_x hf
    refine go_iastore d_Mo_addConstraint_123 e_h11 ?_
    refine go_aload_n 1 d_Mo_addConstraint_124 rfl ?_
    obtain ⟨x12, e_x12, hf⟩ := bnd_x hf
    refine go_get d_Mo_addConstraint_125 (gR_x e_x12) fl_Mo_7 ?_
    refine go_iload 0 d_Mo_addConstraint_128 rfl ?_
    refine go_iconst (2 : Int32) d_Mo_addConstraint_130 (by decide) ?_
    refine go_iadd d_Mo_addConstraint_131 ?_
    refine go_iconst (1 : Int32) d_Mo_addConstraint_132 (by decide) ?_
    obtain ⟨h13, e_h13, hf⟩ := bnd_x hf
    refine go_iastore d_Mo_addConstraint_133 e_h13 ?_
    refine go_aload_n 1 d_Mo_addConstraint_134 rfl ?_
    obtain ⟨x14, e_x14, hf⟩ := bnd_x hf
    refine go_get d_Mo_addConstraint_135 (gR_x e_x14) fl_Mo_7 ?_
    refine go_iload 0 d_Mo_addConstraint_138 rfl ?_
    refine go_iconst (3 : Int32) d_Mo_addConstraint_140 (by decide) ?_
    refine go_iadd d_Mo_addConstraint_141 ?_
    refine go_iload_n 3 d_Mo_addConstraint_142 rfl ?_
    obtain ⟨h15, e_h15, hf⟩ := bnd_x hf
    refine go_iastore d_Mo_addConstraint_143 e_h15 ?_
    refine go_aload_n 1 d_Mo_addConstraint_144 rfl ?_
    obtain ⟨x16, e_x16, hf⟩ := bnd_x hf
    refine go_get d_Mo_addConstraint_145 (gR_x e_x16) fl_Mo_7 ?_
    refine go_bipush (108 : Int32) d_Mo_addConstraint_148 (by decide) ?_
    refine go_dup2 d_Mo_addConstraint_150 rfl rfl ?_
    obtain ⟨x17, e_x17, hf⟩ := bnd_x hf
    refine go_iaload d_Mo_addConstraint_151 e_x17 ?_
    refine go_iconst (1 : Int32) d_Mo_addConstraint_152 (by decide) ?_
    refine go_iadd d_Mo_addConstraint_153 ?_
    obtain ⟨h18, e_h18, hf⟩ := bnd_x hf
    refine go_iastore d_Mo_addConstraint_154 e_h18 ?_
    refine go_aload_n 1 d_Mo_addConstraint_155 rfl ?_
    obtain ⟨x19, e_x19, hf⟩ := bnd_x hf
    refine go_get d_Mo_addConstraint_156 (gR_x e_x19) fl_Mo_7 ?_
    refine go_bipush (108 : Int32) d_Mo_addConstraint_159 (by decide) ?_
    obtain ⟨x20, e_x20, hf⟩ := bnd_x hf
    refine go_iaload d_Mo_addConstraint_161 e_x20 ?_
    refine go_iconst (1 : Int32) d_Mo_addConstraint_162 (by decide) ?_
    refine go_isub d_Mo_addConstraint_163 ?_
    obtain ⟨e8, e9⟩ := Prod.mk.inj (Option.some.inj hf)
    subst e8; subst e9
    exact go_iret d_Mo_addConstraint_164 rfl ⟨rfl, rfl, rfl⟩
  · rw [if_neg q21] at hf
    refine go_iconst (0 : Int32) d_Mo_addConstraint_85 (by decide) ?_
    obtain ⟨e8, e9⟩ := Prod.mk.inj (Option.some.inj hf)
    subst e8; subst e9
    exact go_iret d_Mo_addConstraint_86 rfl ⟨rfl, rfl, rfl⟩
def b_Mo_addConstraint_35 (F : Nat) (a0 : Nat) (i1 : Int32) (i2 : Int32) (i3 : Int32) (s0 : Int32) (h : PH) : Option (Int32 × PH) :=
  bnd (f_Mo_isCell i2) fun x1 => (if x1 = (0 : Int32) then b_Mo_addConstraint_75 F a0 i1 i2 i3 (1 : Int32) a0 h else (if s0 = (0 : Int32) then b_Mo_addConstraint_75 F a0 i1 i2 i3 (2 : Int32) a0 h else bnd (gR h a0 10 0) fun x2 => bnd (aI h x2 (108 : Int32)) fun x3 => (if x3 = (8 : Int32) then b_Mo_addConstraint_75 F a0 i1 i2 i3 (3 : Int32) a0 h else b_Mo_addConstraint_75 F a0 i1 i2 i3 (0 : Int32) a0 h)))
theorem g_Mo_addConstraint_35 {l : Launch} {E : ET} {d : Nat} (hd : 3 ≤ d) {F : Nat} {r : Int32} {h9 : PH} {x : Nat}  (a0 : Nat) (i1 : Int32) (i2 : Int32) (i3 : Int32) (s0 : Int32) (h : PH) (hf : b_Mo_addConstraint_35 F a0 i1 i2 i3 s0 h = some (r, h9)) : Go l E m_Mo_addConstraint (rm d 0 0) (KM E 0 0 (PoE (some (.int r)) h9 x)) 0 0 h x 35 [(0, .ref a0), (1, .int i1), (2, .int i2), (3, .int i3)] [.int s0] := by
  unfold b_Mo_addConstraint_35 at hf
  refine go_istore (lv' := [(4, .int s0), (0, .ref a0), (1, .int i1), (2, .int i2), (3, .int i3)]) d_Mo_addConstraint_35 rfl (by decide) ?_
  refine go_aload_n 1 d_Mo_addConstraint_37 rfl ?_
  refine go_iload_n 3 d_Mo_addConstraint_38 rfl ?_
  obtain ⟨x1, e_x1, hf⟩ := bnd_x hf
  refine go_callS_I (As := [.int i2]) (st := [.ref a0]) (c_Mo_isCell (d := d - 1) (by omega) e_x1) lk_Mo_214 rfl rfl (rm_ok (by omega)) (Nat.le_of_ble_eq_true rfl) rm_c d_Mo_addConstraint_39 ?_
  refine go_if_ne 49 d_Mo_addConstraint_42 (by decide) (fun q6 => ?_) (fun q6 => ?_)
  · rw [if_neg q6] at hf
    refine go_iload 0 d_Mo_addConstraint_49 rfl ?_
    refine go_if_ne 58 d_Mo_addConstraint_51 (by decide) (fun q5 => ?_) (fun q5 => ?_)
    · rw [if_neg q5] at hf
      refine go_aload_n 1 d_Mo_addConstraint_58 rfl ?_
      obtain ⟨x2, e_x2, hf⟩ := bnd_x hf
      refine go_get d_Mo_addConstraint_59 (gR_x e_x2) fl_Mo_7 ?_
      refine go_bipush (108 : Int32) d_Mo_addConstraint_62 (by decide) ?_
      obtain ⟨x3, e_x3, hf⟩ := bnd_x hf
      refine go_iaload d_Mo_addConstraint_64 e_x3 ?_
      refine go_bipush (8 : Int32) d_Mo_addConstraint_65 (by decide) ?_
      refine go_icmp_ne 74 d_Mo_addConstraint_67 (by decide) (fun q4 => ?_) (fun q4 => ?_)
      · rw [if_neg q4] at hf
        refine go_iconst (0 : Int32) d_Mo_addConstraint_74 (by decide) ?_
        refine go_sub (lv' := [(0, .ref a0), (1, .int i1), (2, .int i2), (3, .int i3)]) [1, 2, 3, 4] rfl ?_
        exact g_Mo_addConstraint_75 hd  a0 i1 i2 i3 (0 : Int32) a0 h hf
      · rw [if_pos q4] at hf
        refine go_iconst (3 : Int32) d_Mo_addConstraint_70 (by decide) ?_
        refine go_goto 75 d_Mo_addConstraint_71 (by decide) ?_
        refine go_sub (lv' := [(0, .ref a0), (1, .int i1), (2, .int i2), (3, .int i3)]) [1, 2, 3, 4] rfl ?_
        exact g_Mo_addConstraint_75 hd  a0 i1 i2 i3 (3 : Int32) a0 h hf
    · rw [if_pos q5] at hf
      refine go_iconst (2 : Int32) d_Mo_addConstraint_54 (by decide) ?_
      refine go_goto 75 d_Mo_addConstraint_55 (by decide) ?_
      refine go_sub (lv' := [(0, .ref a0), (1, .int i1), (2, .int i2), (3, .int i3)]) [1, 2, 3, 4] rfl ?_
      exact g_Mo_addConstraint_75 hd  a0 i1 i2 i3 (2 : Int32) a0 h hf
  · rw [if_pos q6] at hf
    refine go_iconst (1 : Int32) d_Mo_addConstraint_45 (by decide) ?_
    refine go_goto 75 d_Mo_addConstraint_46 (by decide) ?_
    refine go_sub (lv' := [(0, .ref a0), (1, .int i1), (2, .int i2), (3, .int i3)]) [1, 2, 3, 4] rfl ?_
    exact g_Mo_addConstraint_75 hd  a0 i1 i2 i3 (1 : Int32) a0 h hf
def b_Mo_addConstraint_30 (F : Nat) (a0 : Nat) (i1 : Int32) (i2 : Int32) (i3 : Int32) (h : PH) : Option (Int32 × PH) :=
  b_Mo_addConstraint_35 F a0 i1 i2 i3 (1 : Int32) h
theorem g_Mo_addConstraint_30 {l : Launch} {E : ET} {d : Nat} (hd : 3 ≤ d) {F : Nat} {r : Int32} {h9 : PH} {x : Nat}  (a0 : Nat) (i1 : Int32) (i2 : Int32) (i3 : Int32) (h : PH) (hf : b_Mo_addConstraint_30 F a0 i1 i2 i3 h = some (r, h9)) : Go l E m_Mo_addConstraint (rm d 0 0) (KM E 0 0 (PoE (some (.int r)) h9 x)) 0 0 h x 30 [(0, .ref a0), (1, .int i1), (2, .int i2), (3, .int i3)] [] := by
  unfold b_Mo_addConstraint_30 at hf
  refine go_iconst (1 : Int32) d_Mo_addConstraint_30 (by decide) ?_
  refine go_goto 35 d_Mo_addConstraint_31 (by decide) ?_
  refine go_sub (lv' := [(0, .ref a0), (1, .int i1), (2, .int i2), (3, .int i3)]) [0, 1, 2, 3] rfl ?_
  exact g_Mo_addConstraint_35 hd  a0 i1 i2 i3 (1 : Int32) h hf
def b_Mo_addConstraint_34 (F : Nat) (a0 : Nat) (i1 : Int32) (i2 : Int32) (i3 : Int32) (h : PH) : Option (Int32 × PH) :=
  b_Mo_addConstraint_35 F a0 i1 i2 i3 (0 : Int32) h
theorem g_Mo_addConstraint_34 {l : Launch} {E : ET} {d : Nat} (hd : 3 ≤ d) {F : Nat} {r : Int32} {h9 : PH} {x : Nat}  (a0 : Nat) (i1 : Int32) (i2 : Int32) (i3 : Int32) (h : PH) (hf : b_Mo_addConstraint_34 F a0 i1 i2 i3 h = some (r, h9)) : Go l E m_Mo_addConstraint (rm d 0 0) (KM E 0 0 (PoE (some (.int r)) h9 x)) 0 0 h x 34 [(0, .ref a0), (1, .int i1), (2, .int i2), (3, .int i3)] [] := by
  unfold b_Mo_addConstraint_34 at hf
  refine go_iconst (0 : Int32) d_Mo_addConstraint_34 (by decide) ?_
  refine go_sub (lv' := [(0, .ref a0), (1, .int i1), (2, .int i2), (3, .int i3)]) [0, 1, 2, 3] rfl ?_
  exact g_Mo_addConstraint_35 hd  a0 i1 i2 i3 (0 : Int32) h hf
def f_Mo_addConstraint (F : Nat) (a0 : Nat) (i1 : Int32) (i2 : Int32) (i3 : Int32) (h : PH) : Option (Int32 × PH) :=
  bnd (f_Mo_in i1 (0 : Int32) (2 : Int32)) fun x1 => (if x1 = (0 : Int32) then b_Mo_addConstraint_34 F a0 i1 i2 i3 h else (if i1 = (0 : Int32) then bnd (f_Mo_in i3 (1 : Int32) (24 : Int32)) fun x3 => (if x3 = (0 : Int32) then b_Mo_addConstraint_34 F a0 i1 i2 i3 h else b_Mo_addConstraint_30 F a0 i1 i2 i3 h) else (if i3 = (0 : Int32) then b_Mo_addConstraint_30 F a0 i1 i2 i3 h else b_Mo_addConstraint_34 F a0 i1 i2 i3 h)))
theorem g_Mo_addConstraint_0 {l : Launch} {E : ET} {d : Nat} (hd : 3 ≤ d) {F : Nat} {r : Int32} {h9 : PH} {x : Nat}  (a0 : Nat) (i1 : Int32) (i2 : Int32) (i3 : Int32) (h : PH) (hf : f_Mo_addConstraint F a0 i1 i2 i3 h = some (r, h9)) : Go l E m_Mo_addConstraint (rm d 0 0) (KM E 0 0 (PoE (some (.int r)) h9 x)) 0 0 h x 0 [(0, .ref a0), (1, .int i1), (2, .int i2), (3, .int i3)] [] := by
  unfold f_Mo_addConstraint at hf
  refine go_iload_n 1 d_Mo_addConstraint_0 rfl ?_
  refine go_iconst (0 : Int32) d_Mo_addConstraint_1 (by decide) ?_
  refine go_iconst (2 : Int32) d_Mo_addConstraint_2 (by decide) ?_
  obtain ⟨x1, e_x1, hf⟩ := bnd_x hf
  refine go_callS_I (As := [.int i1, .int (0 : Int32), .int (2 : Int32)]) (st := []) (c_Mo_in (d := d - 1) (by omega) e_x1) lk_Mo_62 rfl rfl (rm_ok (by omega)) (Nat.le_of_ble_eq_true rfl) rm_c d_Mo_addConstraint_3 ?_
  refine go_if_eq 34 d_Mo_addConstraint_6 (by decide) (fun q6 => ?_) (fun q6 => ?_)
  · rw [if_pos q6] at hf
    refine go_sub (lv' := [(0, .ref a0), (1, .int i1), (2, .int i2), (3, .int i3)]) [0, 1, 2, 3] rfl ?_
    exact g_Mo_addConstraint_34 hd  a0 i1 i2 i3 h hf
  · rw [if_neg q6] at hf
    refine go_iload_n 1 d_Mo_addConstraint_9 rfl ?_
    refine go_if_ne 26 d_Mo_addConstraint_10 (by decide) (fun q5 => ?_) (fun q5 => ?_)
    · rw [if_neg q5] at hf
      refine go_iload_n 3 d_Mo_addConstraint_26 rfl ?_
      refine go_if_ne 34 d_Mo_addConstraint_27 (by decide) (fun q2 => ?_) (fun q2 => ?_)
      · rw [if_neg q2] at hf
        refine go_sub (lv' := [(0, .ref a0), (1, .int i1), (2, .int i2), (3, .int i3)]) [0, 1, 2, 3] rfl ?_
        exact g_Mo_addConstraint_34 hd  a0 i1 i2 i3 h hf
      · rw [if_pos q2] at hf
        refine go_sub (lv' := [(0, .ref a0), (1, .int i1), (2, .int i2), (3, .int i3)]) [0, 1, 2, 3] rfl ?_
        exact g_Mo_addConstraint_30 hd  a0 i1 i2 i3 h hf
    · rw [if_pos q5] at hf
      refine go_iload_n 3 d_Mo_addConstraint_13 rfl ?_
      refine go_iconst (1 : Int32) d_Mo_addConstraint_14 (by decide) ?_
      refine go_bipush (24 : Int32) d_Mo_addConstraint_15 (by decide) ?_
      obtain ⟨x3, e_x3, hf⟩ := bnd_x hf
      refine go_callS_I (As := [.int i3, .int (1 : Int32), .int (24 : Int32)]) (st := []) (c_Mo_in (d := d - 1) (by omega) e_x3) lk_Mo_62 rfl rfl (rm_ok (by omega)) (Nat.le_of_ble_eq_true rfl) rm_c d_Mo_addConstraint_17 ?_
      refine go_if_eq 34 d_Mo_addConstraint_20 (by decide) (fun q4 => ?_) (fun q4 => ?_)
      · rw [if_pos q4] at hf
        refine go_sub (lv' := [(0, .ref a0), (1, .int i1), (2, .int i2), (3, .int i3)]) [0, 1, 2, 3] rfl ?_
        exact g_Mo_addConstraint_34 hd  a0 i1 i2 i3 h hf
      · rw [if_neg q4] at hf
        refine go_goto 30 d_Mo_addConstraint_23 (by decide) ?_
        refine go_sub (lv' := [(0, .ref a0), (1, .int i1), (2, .int i2), (3, .int i3)]) [0, 1, 2, 3] rfl ?_
        exact g_Mo_addConstraint_30 hd  a0 i1 i2 i3 h hf
theorem c_Mo_addConstraint {l : Launch} {E : ET} {d : Nat} (hd : 3 ≤ d) {F : Nat} {r : Int32} {h9 : PH} {x : Nat} {a0 : Nat} {i1 : Int32} {i2 : Int32} {i3 : Int32} {h : PH} (hf : f_Mo_addConstraint F a0 i1 i2 i3 h = some (r, h9)) : Fn l E m_Mo_addConstraint d 0 0 [.ref a0, .int i1, .int i2, .int i3] h x (PoE (some (.int r)) h9 x) :=
  Fn.of (by decide +kernel) (Nat.le_of_ble_eq_true rfl) (g_Mo_addConstraint_0 hd a0 i1 i2 i3 h hf)
theorem d_Mo_mostCells_0 : decode prog_13_method_53_code 0 = .ok (.iload_n 0, 1) := by decide +kernel
theorem d_Mo_mostCells_1 : decode prog_13_method_53_code 1 = .ok (.iconst 2, 1) := by decide +kernel
theorem d_Mo_mostCells_2 : decode prog_13_method_53_code 2 = .ok (.if_icmp .ne 8, 3) := by decide +kernel
theorem d_Mo_mostCells_5 : decode prog_13_method_53_code 5 = .ok (.bipush 6, 2) := by decide +kernel
theorem d_Mo_mostCells_7 : decode prog_13_method_53_code 7 = .ok (.goto 4, 3) := by decide +kernel
theorem d_Mo_mostCells_10 : decode prog_13_method_53_code 10 = .ok (.iconst 4, 1) := by decide +kernel
theorem d_Mo_mostCells_11 : decode prog_13_method_53_code 11 = .ok (.ireturn, 1) := by decide +kernel
def f_Mo_mostCells (i0 : Int32) : Option Int32 :=
  (if i0 = (2 : Int32) then some (6 : Int32) else some (4 : Int32))
theorem g_Mo_mostCells_0 {l : Launch} {E : ET} {d : Nat} (hd : 1 ≤ d) {r : Int32} {h : PH} {x : Nat}  (i0 : Int32) (hf : f_Mo_mostCells i0 = some r) : Go l E m_Mo_mostCells (rm d 0 0) (KM E 0 0 (PoE (some (.int r)) h x)) 0 0 h x 0 [(0, .int i0)] [] := by
  unfold f_Mo_mostCells at hf
  refine go_iload_n 0 d_Mo_mostCells_0 rfl ?_
  refine go_iconst (2 : Int32) d_Mo_mostCells_1 (by decide) ?_
  refine go_icmp_ne 10 d_Mo_mostCells_2 (by decide) (fun q1 => ?_) (fun q1 => ?_)
  · rw [if_neg q1] at hf
    refine go_iconst (4 : Int32) d_Mo_mostCells_10 (by decide) ?_
    have e9 := Option.some.inj hf
    subst e9
    exact go_iret d_Mo_mostCells_11 rfl ⟨rfl, rfl, rfl⟩
  · rw [if_pos q1] at hf
    refine go_bipush (6 : Int32) d_Mo_mostCells_5 (by decide) ?_
    refine go_goto 11 d_Mo_mostCells_7 (by decide) ?_
    have e9 := Option.some.inj hf
    subst e9
    exact go_iret d_Mo_mostCells_11 rfl ⟨rfl, rfl, rfl⟩
theorem c_Mo_mostCells {l : Launch} {E : ET} {d : Nat} (hd : 1 ≤ d) {r : Int32} {h : PH} {x : Nat} {i0 : Int32} (hf : f_Mo_mostCells i0 = some r) : Fn l E m_Mo_mostCells d 0 0 [.int i0] h x (PoE (some (.int r)) h x) :=
  Fn.of (by decide +kernel) (Nat.le_of_ble_eq_true rfl) (g_Mo_mostCells_0 hd i0 hf)
theorem d_Mo_isConstraint_0 : decode prog_13_method_54_code 0 = .ok (.iload_n 1, 1) := by decide +kernel
theorem d_Mo_isConstraint_1 : decode prog_13_method_54_code 1 = .ok (.iconst 0, 1) := by decide +kernel
theorem d_Mo_isConstraint_2 : decode prog_13_method_54_code 2 = .ok (.aload_n 0, 1) := by decide +kernel
theorem d_Mo_isConstraint_3 : decode prog_13_method_54_code 3 = .ok (.getfield 7, 3) := by decide +kernel
theorem d_Mo_isConstraint_6 : decode prog_13_method_54_code 6 = .ok (.bipush 108, 2) := by decide +kernel
theorem d_Mo_isConstraint_8 : decode prog_13_method_54_code 8 = .ok (.iaload, 1) := by decide +kernel
theorem d_Mo_isConstraint_9 : decode prog_13_method_54_code 9 = .ok (.iconst 1, 1) := by decide +kernel
theorem d_Mo_isConstraint_10 : decode prog_13_method_54_code 10 = .ok (.isub, 1) := by decide +kernel
theorem d_Mo_isConstraint_11 : decode prog_13_method_54_code 11 = .ok (.invokestatic 62, 3) := by decide +kernel
theorem d_Mo_isConstraint_14 : decode prog_13_method_54_code 14 = .ok (.ireturn, 1) := by decide +kernel
def f_Mo_isConstraint (a0 : Nat) (i1 : Int32) (h : PH) : Option Int32 :=
  bnd (gR h a0 10 0) fun x1 => bnd (aI h x1 (108 : Int32)) fun x2 => bnd (f_Mo_in i1 (0 : Int32) (x2 - (1 : Int32))) fun x3 => bnd (cZ x3) fun _ => some x3
theorem g_Mo_isConstraint_0 {l : Launch} {E : ET} {d : Nat} (hd : 2 ≤ d) {r : Int32} {h : PH} {x : Nat}  (a0 : Nat) (i1 : Int32) (hf : f_Mo_isConstraint a0 i1 h = some r) : Go l E m_Mo_isConstraint (rm d 0 0) (KM E 0 0 (PoE (some (.int r)) h x)) 0 0 h x 0 [(0, .ref a0), (1, .int i1)] [] := by
  unfold f_Mo_isConstraint at hf
  refine go_iload_n 1 d_Mo_isConstraint_0 rfl ?_
  refine go_iconst (0 : Int32) d_Mo_isConstraint_1 (by decide) ?_
  refine go_aload_n 0 d_Mo_isConstraint_2 rfl ?_
  obtain ⟨x1, e_x1, hf⟩ := bnd_x hf
  refine go_get d_Mo_isConstraint_3 (gR_x e_x1) fl_Mo_7 ?_
  refine go_bipush (108 : Int32) d_Mo_isConstraint_6 (by decide) ?_
  obtain ⟨x2, e_x2, hf⟩ := bnd_x hf
  refine go_iaload d_Mo_isConstraint_8 e_x2 ?_
  refine go_iconst (1 : Int32) d_Mo_isConstraint_9 (by decide) ?_
  refine go_isub d_Mo_isConstraint_10 ?_
  obtain ⟨x3, e_x3, hf⟩ := bnd_x hf
  refine go_callS_I (As := [.int i1, .int (0 : Int32), .int (x2 - (1 : Int32))]) (st := []) (c_Mo_in (d := d - 1) (by omega) e_x3) lk_Mo_62 rfl rfl (rm_ok (by omega)) (Nat.le_of_ble_eq_true rfl) rm_c d_Mo_isConstraint_11 ?_
  obtain ⟨_, e4, hf⟩ := bnd_x hf
  have e9 := Option.some.inj hf
  subst e9
  exact go_zret d_Mo_isConstraint_14 e4 rfl ⟨rfl, rfl, rfl⟩
theorem c_Mo_isConstraint {l : Launch} {E : ET} {d : Nat} (hd : 2 ≤ d) {r : Int32} {h : PH} {x : Nat} {a0 : Nat} {i1 : Int32} (hf : f_Mo_isConstraint a0 i1 h = some r) : Fn l E m_Mo_isConstraint d 0 0 [.ref a0, .int i1] h x (PoE (some (.int r)) h x) :=
  Fn.of (by decide +kernel) (Nat.le_of_ble_eq_true rfl) (g_Mo_isConstraint_0 hd a0 i1 hf)
theorem d_Mo_extend_0 : decode prog_13_method_55_code 0 = .ok (.aload_n 0, 1) := by decide +kernel
theorem d_Mo_extend_1 : decode prog_13_method_55_code 1 = .ok (.aload_n 0, 1) := by decide +kernel
theorem d_Mo_extend_2 : decode prog_13_method_55_code 2 = .ok (.iload_n 1, 1) := by decide +kernel
theorem d_Mo_extend_3 : decode prog_13_method_55_code 3 = .ok (.invokevirtual 220, 3) := by decide +kernel
theorem d_Mo_extend_6 : decode prog_13_method_55_code 6 = .ok (.ifCond .eq 10, 3) := by decide +kernel
theorem d_Mo_extend_9 : decode prog_13_method_55_code 9 = .ok (.iload_n 2, 1) := by decide +kernel
theorem d_Mo_extend_10 : decode prog_13_method_55_code 10 = .ok (.invokestatic 214, 3) := by decide +kernel
theorem d_Mo_extend_13 : decode prog_13_method_55_code 13 = .ok (.ifCond .ne 7, 3) := by decide +kernel
theorem d_Mo_extend_16 : decode prog_13_method_55_code 16 = .ok (.iconst 1, 1) := by decide +kernel
theorem d_Mo_extend_17 : decode prog_13_method_55_code 17 = .ok (.goto 4, 3) := by decide +kernel
theorem d_Mo_extend_20 : decode prog_13_method_55_code 20 = .ok (.iconst 0, 1) := by decide +kernel
theorem d_Mo_extend_21 : decode prog_13_method_55_code 21 = .ok (.putfield 52, 3) := by decide +kernel
theorem d_Mo_extend_24 : decode prog_13_method_55_code 24 = .ok (.aload_n 0, 1) := by decide +kernel
theorem d_Mo_extend_25 : decode prog_13_method_55_code 25 = .ok (.getfield 52, 3) := by decide +kernel
theorem d_Mo_extend_28 : decode prog_13_method_55_code 28 = .ok (.ifCond .eq 5, 3) := by decide +kernel
theorem d_Mo_extend_31 : decode prog_13_method_55_code 31 = .ok (.iconst 0, 1) := by decide +kernel
theorem d_Mo_extend_32 : decode prog_13_method_55_code 32 = .ok (.ireturn, 1) := by decide +kernel
theorem d_Mo_extend_33 : decode prog_13_method_55_code 33 = .ok (.aload_n 0, 1) := by decide +kernel
theorem d_Mo_extend_34 : decode prog_13_method_55_code 34 = .ok (.iload_n 1, 1) := by decide +kernel
theorem d_Mo_extend_35 : decode prog_13_method_55_code 35 = .ok (.invokevirtual 74, 3) := by decide +kernel
theorem d_Mo_extend_38 : decode prog_13_method_55_code 38 = .ok (.istore_n 3, 1) := by decide +kernel
theorem d_Mo_extend_39 : decode prog_13_method_55_code 39 = .ok (.aload_n 0, 1) := by decide +kernel
theorem d_Mo_extend_40 : decode prog_13_method_55_code 40 = .ok (.iload_n 1, 1) := by decide +kernel
theorem d_Mo_extend_41 : decode prog_13_method_55_code 41 = .ok (.iload_n 2, 1) := by decide +kernel
theorem d_Mo_extend_42 : decode prog_13_method_55_code 42 = .ok (.invokevirtual 84, 3) := by decide +kernel
theorem d_Mo_extend_45 : decode prog_13_method_55_code 45 = .ok (.ifCond .ne 15, 3) := by decide +kernel
theorem d_Mo_extend_48 : decode prog_13_method_55_code 48 = .ok (.iload_n 3, 1) := by decide +kernel
theorem d_Mo_extend_49 : decode prog_13_method_55_code 49 = .ok (.aload_n 0, 1) := by decide +kernel
theorem d_Mo_extend_50 : decode prog_13_method_55_code 50 = .ok (.iload_n 1, 1) := by decide +kernel
theorem d_Mo_extend_51 : decode prog_13_method_55_code 51 = .ok (.invokevirtual 81, 3) := by decide +kernel
theorem d_Mo_extend_54 : decode prog_13_method_55_code 54 = .ok (.invokestatic 223, 3) := by decide +kernel
theorem d_Mo_extend_57 : decode prog_13_method_55_code 57 = .ok (.if_icmp .ne 10, 3) := by decide +kernel
theorem d_Mo_extend_60 : decode prog_13_method_55_code 60 = .ok (.aload_n 0, 1) := by decide +kernel
theorem d_Mo_extend_61 : decode prog_13_method_55_code 61 = .ok (.iconst 2, 1) := by decide +kernel
theorem d_Mo_extend_62 : decode prog_13_method_55_code 62 = .ok (.putfield 52, 3) := by decide +kernel
theorem d_Mo_extend_65 : decode prog_13_method_55_code 65 = .ok (.iconst 0, 1) := by decide +kernel
theorem d_Mo_extend_66 : decode prog_13_method_55_code 66 = .ok (.ireturn, 1) := by decide +kernel
theorem d_Mo_extend_67 : decode prog_13_method_55_code 67 = .ok (.aload_n 0, 1) := by decide +kernel
theorem d_Mo_extend_68 : decode prog_13_method_55_code 68 = .ok (.invokevirtual 208, 3) := by decide +kernel
theorem d_Mo_extend_71 : decode prog_13_method_55_code 71 = .ok (.aload_n 0, 1) := by decide +kernel
theorem d_Mo_extend_72 : decode prog_13_method_55_code 72 = .ok (.getfield 7, 3) := by decide +kernel
theorem d_Mo_extend_75 : decode prog_13_method_55_code 75 = .ok (.bipush 109, 2) := by decide +kernel
theorem d_Mo_extend_77 : decode prog_13_method_55_code 77 = .ok (.bipush 9, 2) := by decide +kernel
theorem d_Mo_extend_79 : decode prog_13_method_55_code 79 = .ok (.iload_n 1, 1) := by decide +kernel
theorem d_Mo_extend_80 : decode prog_13_method_55_code 80 = .ok (.imul, 1) := by decide +kernel
theorem d_Mo_extend_81 : decode prog_13_method_55_code 81 = .ok (.iadd, 1) := by decide +kernel
theorem d_Mo_extend_82 : decode prog_13_method_55_code 82 = .ok (.iconst 3, 1) := by decide +kernel
theorem d_Mo_extend_83 : decode prog_13_method_55_code 83 = .ok (.iadd, 1) := by decide +kernel
theorem d_Mo_extend_84 : decode prog_13_method_55_code 84 = .ok (.iload_n 3, 1) := by decide +kernel
theorem d_Mo_extend_85 : decode prog_13_method_55_code 85 = .ok (.iadd, 1) := by decide +kernel
theorem d_Mo_extend_86 : decode prog_13_method_55_code 86 = .ok (.iload_n 2, 1) := by decide +kernel
theorem d_Mo_extend_87 : decode prog_13_method_55_code 87 = .ok (.iastore, 1) := by decide +kernel
theorem d_Mo_extend_88 : decode prog_13_method_55_code 88 = .ok (.aload_n 0, 1) := by decide +kernel
theorem d_Mo_extend_89 : decode prog_13_method_55_code 89 = .ok (.getfield 7, 3) := by decide +kernel
theorem d_Mo_extend_92 : decode prog_13_method_55_code 92 = .ok (.bipush 109, 2) := by decide +kernel
theorem d_Mo_extend_94 : decode prog_13_method_55_code 94 = .ok (.bipush 9, 2) := by decide +kernel
theorem d_Mo_extend_96 : decode prog_13_method_55_code 96 = .ok (.iload_n 1, 1) := by decide +kernel
theorem d_Mo_extend_97 : decode prog_13_method_55_code 97 = .ok (.imul, 1) := by decide +kernel
theorem d_Mo_extend_98 : decode prog_13_method_55_code 98 = .ok (.iadd, 1) := by decide +kernel
theorem d_Mo_extend_99 : decode prog_13_method_55_code 99 = .ok (.iconst 2, 1) := by decide +kernel
theorem d_Mo_extend_100 : decode prog_13_method_55_code 100 = .ok (.iadd, 1) := by decide +kernel
theorem d_Mo_extend_101 : decode prog_13_method_55_code 101 = .ok (.iload_n 3, 1) := by decide +kernel
theorem d_Mo_extend_102 : decode prog_13_method_55_code 102 = .ok (.iconst 1, 1) := by decide +kernel
theorem d_Mo_extend_103 : decode prog_13_method_55_code 103 = .ok (.iadd, 1) := by decide +kernel
theorem d_Mo_extend_104 : decode prog_13_method_55_code 104 = .ok (.iastore, 1) := by decide +kernel
theorem d_Mo_extend_105 : decode prog_13_method_55_code 105 = .ok (.iload_n 3, 1) := by decide +kernel
theorem d_Mo_extend_106 : decode prog_13_method_55_code 106 = .ok (.iconst 1, 1) := by decide +kernel
theorem d_Mo_extend_107 : decode prog_13_method_55_code 107 = .ok (.iadd, 1) := by decide +kernel
theorem d_Mo_extend_108 : decode prog_13_method_55_code 108 = .ok (.ireturn, 1) := by decide +kernel
def b_Mo_extend_60 (F : Nat) (a0 : Nat) (h : PH) : Option (Int32 × PH) :=
  bnd (pV h a0 10 5 (.int (2 : Int32))) fun h1 => some ((0 : Int32), h1)
theorem g_Mo_extend_60 {l : Launch} {E : ET} {d : Nat} (hd : 3 ≤ d) {F : Nat} {r : Int32} {h9 : PH} {x : Nat}  (a0 : Nat) (h : PH) (hf : b_Mo_extend_60 F a0 h = some (r, h9)) : Go l E m_Mo_extend (rm d 0 0) (KM E 0 0 (PoE (some (.int r)) h9 x)) 0 0 h x 60 [(0, .ref a0)] [] := by
  unfold b_Mo_extend_60 at hf
  refine go_aload_n 0 d_Mo_extend_60 rfl ?_
  refine go_iconst (2 : Int32) d_Mo_extend_61 (by decide) ?_
  obtain ⟨h1, e_h1, hf⟩ := bnd_x hf
  refine go_putI d_Mo_extend_62 e_h1 fl_Mo_52 rfl rfl ?_
  refine go_iconst (0 : Int32) d_Mo_extend_65 (by decide) ?_
  obtain ⟨e8, e9⟩ := Prod.mk.inj (Option.some.inj hf)
  subst e8; subst e9
  exact go_iret d_Mo_extend_66 rfl ⟨rfl, rfl, rfl⟩
def b_Mo_extend_21 (F : Nat) (a0 : Nat) (i1 : Int32) (i2 : Int32) (s0 : Int32) (s1 : Nat) (h : PH) : Option (Int32 × PH) :=
  bnd (pV h s1 10 5 (.int s0)) fun h1 => bnd (gI h1 a0 10 5) fun x2 => (if x2 = (0 : Int32) then bnd (cK h1 a0 10) fun _ => bnd (f_Mo_lengthOf a0 i1 h1) fun x4 => bnd (cK h1 a0 10) fun _ => bnd (f_Mo_contains F a0 i1 i2 h1) fun x6 => (if x6 = (0 : Int32) then bnd (cK h1 a0 10) fun _ => bnd (f_Mo_kindOf a0 i1 h1) fun x8 => bnd (f_Mo_mostCells x8) fun x9 => (if x4 = x9 then b_Mo_extend_60 F a0 h1 else bnd (cK h1 a0 10) fun _ => bnd (f_Mo_change F a0 h1) fun h11 => bnd (gR h11 a0 10 0) fun x12 => bnd (sI h11 x12 ((((109 : Int32) + ((9 : Int32) * i1)) + (3 : Int32)) + x4) i2) fun h13 => bnd (gR h13 a0 10 0) fun x14 => bnd (sI h13 x14 (((109 : Int32) + ((9 : Int32) * i1)) + (2 : Int32)) (x4 + (1 : Int32))) fun h15 => some ((x4 + (1 : Int32)), h15)) else b_Mo_extend_60 F a0 h1) else some ((0 : Int32), h1))
theorem g_Mo_extend_21 {l : Launch} {E : ET} {d : Nat} (hd : 3 ≤ d) {F : Nat} {r : Int32} {h9 : PH} {x : Nat}  (a0 : Nat) (i1 : Int32) (i2 : Int32) (s0 : Int32) (s1 : Nat) (h : PH) (hf : b_Mo_extend_21 F a0 i1 i2 s0 s1 h = some (r, h9)) : Go l E m_Mo_extend (rm d 0 0) (KM E 0 0 (PoE (some (.int r)) h9 x)) 0 0 h x 21 [(0, .ref a0), (1, .int i1), (2, .int i2)] [.int s0, .ref s1] := by
  unfold b_Mo_extend_21 at hf
  obtain ⟨h1, e_h1, hf⟩ := bnd_x hf
  refine go_putI d_Mo_extend_21 e_h1 fl_Mo_52 rfl rfl ?_
  refine go_aload_n 0 d_Mo_extend_24 rfl ?_
  obtain ⟨x2, e_x2, hf⟩ := bnd_x hf
  refine go_get d_Mo_extend_25 (gI_x e_x2) fl_Mo_52 ?_
  refine go_if_eq 33 d_Mo_extend_28 (by decide) (fun q18 => ?_) (fun q18 => ?_)
  · rw [if_pos q18] at hf
    refine go_aload_n 0 d_Mo_extend_33 rfl ?_
    refine go_iload_n 1 d_Mo_extend_34 rfl ?_
    obtain ⟨_, e3, hf⟩ := bnd_x hf
    obtain ⟨x4, e_x4, hf⟩ := bnd_x hf
    refine go_callV_I (As := [.int i1]) (st := []) (c_Mo_lengthOf (d := d - 1) (by omega) e_x4) lk_Mo_74 rfl rfl e3 (by decide) rfl (rm_ok (by omega)) (Nat.le_of_ble_eq_true rfl) rm_c d_Mo_extend_35 ?_
    refine go_istore_n (lv' := [(3, .int x4), (0, .ref a0), (1, .int i1), (2, .int i2)]) d_Mo_extend_38 rfl (by decide) ?_
    refine go_aload_n 1 d_Mo_extend_39 rfl ?_
    refine go_iload_n 2 d_Mo_extend_40 rfl ?_
    refine go_iload_n 3 d_Mo_extend_41 rfl ?_
    obtain ⟨_, e5, hf⟩ := bnd_x hf
    obtain ⟨x6, e_x6, hf⟩ := bnd_x hf
    refine go_callV_I (As := [.int i1, .int i2]) (st := []) (c_Mo_contains (d := d - 1) (by omega) e_x6) lk_Mo_84 rfl rfl e5 (by decide) rfl (rm_ok (by omega)) (Nat.le_of_ble_eq_true rfl) rm_c d_Mo_extend_42 ?_
    refine go_if_ne 60 d_Mo_extend_45 (by decide) (fun q17 => ?_) (fun q17 => ?_)
    · rw [if_neg q17] at hf
      refine go_sub (lv' := [(0, .ref a0)]) [1] rfl ?_
      exact g_Mo_extend_60 hd  a0 h1 hf
    · rw [if_pos q17] at hf
      refine go_iload_n 0 d_Mo_extend_48 rfl ?_
      refine go_aload_n 1 d_Mo_extend_49 rfl ?_
      refine go_iload_n 2 d_Mo_extend_50 rfl ?_
      obtain ⟨_, e7, hf⟩ := bnd_x hf
      obtain ⟨x8, e_x8, hf⟩ := bnd_x hf
      refine go_callV_I (As := [.int i1]) (st := [.int x4]) (c_Mo_kindOf (d := d - 1) (by omega) e_x8) lk_Mo_81 rfl rfl e7 (by decide) rfl (rm_ok (by omega)) (Nat.le_of_ble_eq_true rfl) rm_c d_Mo_extend_51 ?_
      obtain ⟨x9, e_x9, hf⟩ := bnd_x hf
      refine go_callS_I (As := [.int x8]) (st := [.int x4]) (c_Mo_mostCells (d := d - 1) (by omega) e_x9) lk_Mo_223 rfl rfl (rm_ok (by omega)) (Nat.le_of_ble_eq_true rfl) rm_c d_Mo_extend_54 ?_
      refine go_icmp_ne 67 d_Mo_extend_57 (by decide) (fun q16 => ?_) (fun q16 => ?_)
      · rw [if_neg q16] at hf
        refine go_aload_n 1 d_Mo_extend_67 rfl ?_
        obtain ⟨_, e10, hf⟩ := bnd_x hf
        obtain ⟨h11, e_x11, hf⟩ := bnd_x hf
        refine go_callV_N (As := []) (st := []) (c_Mo_change (d := d - 1) (by omega) e_x11) lk_Mo_208 rfl rfl e10 (by decide) rfl (rm_ok (by omega)) (Nat.le_of_ble_eq_true rfl) rm_c d_Mo_extend_68 ?_
        refine go_aload_n 1 d_Mo_extend_71 rfl ?_
        obtain ⟨x12, e_x12, hf⟩ := bnd_x hf
        refine go_get d_Mo_extend_72 (gR_x e_x12) fl_Mo_7 ?_
        refine go_bipush (109 : Int32) d_Mo_extend_75 (by decide) ?_
        refine go_bipush (9 : Int32) d_Mo_extend_77 (by decide) ?_
        refine go_iload_n 2 d_Mo_extend_79 rfl ?_
        refine go_imul d_Mo_extend_80 ?_
        refine go_iadd d_Mo_extend_81 ?_
        refine go_iconst (3 : Int32) d_Mo_extend_82 (by decide) ?_
        refine go_iadd d_Mo_extend_83 ?_
        refine go_iload_n 0 d_Mo_extend_84 rfl ?_
        refine go_iadd d_Mo_extend_85 ?_
        refine go_iload_n 3 d_Mo_extend_86 rfl ?_
        obtain ⟨h13, e_h13, hf⟩ := bnd_x hf
        refine go_iastore d_Mo_extend_87 e_h13 ?_
        refine go_aload_n 1 d_Mo_extend_88 rfl ?_
        obtain ⟨x14, e_x14, hf⟩ := bnd_x hf
        refine go_get d_Mo_extend_89 (gR_x e_x14) fl_Mo_7 ?_
        refine go_bipush (109 : Int32) d_Mo_extend_92 (by decide) ?_
        refine go_bipush (9 : Int32) d_Mo_extend_94 (by decide) ?_
        refine go_iload_n 2 d_Mo_extend_96 rfl ?_
        refine go_imul d_Mo_extend_97 ?_
        refine go_iadd d_Mo_extend_98 ?_
        refine go_iconst (2 : Int32) d_Mo_extend_99 (by decide) ?_
        refine go_iadd d_Mo_extend_100 ?_
        refine go_iload_n 0 d_Mo_extend_101 rfl ?_
        refine go_iconst (1 : Int32) d_Mo_extend_102 (by decide) ?_
        refine go_iadd d_Mo_extend_103 ?_
        obtain ⟨h15, e_h15, hf⟩ := bnd_x hf
        refine go_iastore d_Mo_extend_104 e_h15 ?_
        refine go_iload_n 0 d_Mo_extend_105 rfl ?_
        refine go_iconst (1 : Int32) d_Mo_extend_106 (by decide) ?_
        refine go_iadd d_Mo_extend_107 ?_
        obtain ⟨e8, e9⟩ := Prod.mk.inj (Option.some.inj hf)
        subst e8; subst e9
        exact go_iret d_Mo_extend_108 rfl ⟨rfl, rfl, rfl⟩
      · rw [if_pos q16] at hf
        refine go_sub (lv' := [(0, .ref a0)]) [1] rfl ?_
        exact g_Mo_extend_60 hd  a0 h1 hf
  · rw [if_neg q18] at hf
    refine go_iconst (0 : Int32) d_Mo_extend_31 (by decide) ?_
    obtain ⟨e8, e9⟩ := Prod.mk.inj (Option.some.inj hf)
    subst e8; subst e9
    exact go_iret d_Mo_extend_32 rfl ⟨rfl, rfl, rfl⟩
def b_Mo_extend_16 (F : Nat) (a0 : Nat) (i1 : Int32) (i2 : Int32) (s0 : Nat) (h : PH) : Option (Int32 × PH) :=
  b_Mo_extend_21 F a0 i1 i2 (1 : Int32) s0 h
theorem g_Mo_extend_16 {l : Launch} {E : ET} {d : Nat} (hd : 3 ≤ d) {F : Nat} {r : Int32} {h9 : PH} {x : Nat}  (a0 : Nat) (i1 : Int32) (i2 : Int32) (s0 : Nat) (h : PH) (hf : b_Mo_extend_16 F a0 i1 i2 s0 h = some (r, h9)) : Go l E m_Mo_extend (rm d 0 0) (KM E 0 0 (PoE (some (.int r)) h9 x)) 0 0 h x 16 [(0, .ref a0), (1, .int i1), (2, .int i2)] [.ref s0] := by
  unfold b_Mo_extend_16 at hf
  refine go_iconst (1 : Int32) d_Mo_extend_16 (by decide) ?_
  refine go_goto 21 d_Mo_extend_17 (by decide) ?_
  refine go_sub (lv' := [(0, .ref a0), (1, .int i1), (2, .int i2)]) [0, 1, 2] rfl ?_
  exact g_Mo_extend_21 hd  a0 i1 i2 (1 : Int32) s0 h hf
def f_Mo_extend (F : Nat) (a0 : Nat) (i1 : Int32) (i2 : Int32) (h : PH) : Option (Int32 × PH) :=
  bnd (cK h a0 10) fun _ => bnd (f_Mo_isConstraint a0 i1 h) fun x2 => (if x2 = (0 : Int32) then b_Mo_extend_16 F a0 i1 i2 a0 h else bnd (f_Mo_isCell i2) fun x3 => (if x3 = (0 : Int32) then b_Mo_extend_16 F a0 i1 i2 a0 h else b_Mo_extend_21 F a0 i1 i2 (0 : Int32) a0 h))
theorem g_Mo_extend_0 {l : Launch} {E : ET} {d : Nat} (hd : 3 ≤ d) {F : Nat} {r : Int32} {h9 : PH} {x : Nat}  (a0 : Nat) (i1 : Int32) (i2 : Int32) (h : PH) (hf : f_Mo_extend F a0 i1 i2 h = some (r, h9)) : Go l E m_Mo_extend (rm d 0 0) (KM E 0 0 (PoE (some (.int r)) h9 x)) 0 0 h x 0 [(0, .ref a0), (1, .int i1), (2, .int i2)] [] := by
  unfold f_Mo_extend at hf
  refine go_aload_n 0 d_Mo_extend_0 rfl ?_
  refine go_aload_n 0 d_Mo_extend_1 rfl ?_
  refine go_iload_n 1 d_Mo_extend_2 rfl ?_
  obtain ⟨_, e1, hf⟩ := bnd_x hf
  obtain ⟨x2, e_x2, hf⟩ := bnd_x hf
  refine go_callV_I (As := [.int i1]) (st := [.ref a0]) (c_Mo_isConstraint (d := d - 1) (by omega) e_x2) lk_Mo_220 rfl rfl e1 (by decide) rfl (rm_ok (by omega)) (Nat.le_of_ble_eq_true rfl) rm_c d_Mo_extend_3 ?_
  refine go_if_eq 16 d_Mo_extend_6 (by decide) (fun q5 => ?_) (fun q5 => ?_)
  · rw [if_pos q5] at hf
    refine go_sub (lv' := [(0, .ref a0), (1, .int i1), (2, .int i2)]) [0, 1, 2] rfl ?_
    exact g_Mo_extend_16 hd  a0 i1 i2 a0 h hf
  · rw [if_neg q5] at hf
    refine go_iload_n 2 d_Mo_extend_9 rfl ?_
    obtain ⟨x3, e_x3, hf⟩ := bnd_x hf
    refine go_callS_I (As := [.int i2]) (st := [.ref a0]) (c_Mo_isCell (d := d - 1) (by omega) e_x3) lk_Mo_214 rfl rfl (rm_ok (by omega)) (Nat.le_of_ble_eq_true rfl) rm_c d_Mo_extend_10 ?_
    refine go_if_ne 20 d_Mo_extend_13 (by decide) (fun q4 => ?_) (fun q4 => ?_)
    · rw [if_neg q4] at hf
      refine go_iconst (0 : Int32) d_Mo_extend_20 (by decide) ?_
      refine go_sub (lv' := [(0, .ref a0), (1, .int i1), (2, .int i2)]) [0, 1, 2] rfl ?_
      exact g_Mo_extend_21 hd  a0 i1 i2 (0 : Int32) a0 h hf
    · rw [if_pos q4] at hf
      refine go_sub (lv' := [(0, .ref a0), (1, .int i1), (2, .int i2)]) [0, 1, 2] rfl ?_
      exact g_Mo_extend_16 hd  a0 i1 i2 a0 h hf
theorem c_Mo_extend {l : Launch} {E : ET} {d : Nat} (hd : 3 ≤ d) {F : Nat} {r : Int32} {h9 : PH} {x : Nat} {a0 : Nat} {i1 : Int32} {i2 : Int32} {h : PH} (hf : f_Mo_extend F a0 i1 i2 h = some (r, h9)) : Fn l E m_Mo_extend d 0 0 [.ref a0, .int i1, .int i2] h x (PoE (some (.int r)) h9 x) :=
  Fn.of (by decide +kernel) (Nat.le_of_ble_eq_true rfl) (g_Mo_extend_0 hd a0 i1 i2 h hf)
theorem d_Mo_restart_0 : decode prog_13_method_56_code 0 = .ok (.aload_n 0, 1) := by decide +kernel
theorem d_Mo_restart_1 : decode prog_13_method_56_code 1 = .ok (.iconst 0, 1) := by decide +kernel
theorem d_Mo_restart_2 : decode prog_13_method_56_code 2 = .ok (.putfield 52, 3) := by decide +kernel
theorem d_Mo_restart_5 : decode prog_13_method_56_code 5 = .ok (.aload_n 0, 1) := by decide +kernel
theorem d_Mo_restart_6 : decode prog_13_method_56_code 6 = .ok (.invokevirtual 208, 3) := by decide +kernel
theorem d_Mo_restart_9 : decode prog_13_method_56_code 9 = .ok (.aload_n 0, 1) := by decide +kernel
theorem d_Mo_restart_10 : decode prog_13_method_56_code 10 = .ok (.invokevirtual 205, 3) := by decide +kernel
theorem d_Mo_restart_13 : decode prog_13_method_56_code 13 = .ok (.aload_n 0, 1) := by decide +kernel
theorem d_Mo_restart_14 : decode prog_13_method_56_code 14 = .ok (.invokevirtual 226, 3) := by decide +kernel
theorem d_Mo_restart_17 : decode prog_13_method_56_code 17 = .ok (.ireturn, 1) := by decide +kernel
def f_Mo_restart (F : Nat) (a0 : Nat) (h : PH) : Option (Int32 × PH) :=
  bnd (pV h a0 10 5 (.int (0 : Int32))) fun h1 => bnd (cK h1 a0 10) fun _ => bnd (f_Mo_change F a0 h1) fun h3 => bnd (cK h3 a0 10) fun _ => bnd (f_Mo_beginAnew F a0 h3) fun h5 => bnd (cK h5 a0 10) fun _ => bnd (f_Mo_givens F a0 h5) fun x7 => some (x7, h5)
theorem g_Mo_restart_0 {l : Launch} {E : ET} {d : Nat} (hd : 3 ≤ d) {F : Nat} {r : Int32} {h9 : PH} {x : Nat}  (a0 : Nat) (h : PH) (hf : f_Mo_restart F a0 h = some (r, h9)) : Go l E m_Mo_restart (rm d 0 0) (KM E 0 0 (PoE (some (.int r)) h9 x)) 0 0 h x 0 [(0, .ref a0)] [] := by
  unfold f_Mo_restart at hf
  refine go_aload_n 0 d_Mo_restart_0 rfl ?_
  refine go_iconst (0 : Int32) d_Mo_restart_1 (by decide) ?_
  obtain ⟨h1, e_h1, hf⟩ := bnd_x hf
  refine go_putI d_Mo_restart_2 e_h1 fl_Mo_52 rfl rfl ?_
  refine go_aload_n 0 d_Mo_restart_5 rfl ?_
  obtain ⟨_, e2, hf⟩ := bnd_x hf
  obtain ⟨h3, e_x3, hf⟩ := bnd_x hf
  refine go_callV_N (As := []) (st := []) (c_Mo_change (d := d - 1) (by omega) e_x3) lk_Mo_208 rfl rfl e2 (by decide) rfl (rm_ok (by omega)) (Nat.le_of_ble_eq_true rfl) rm_c d_Mo_restart_6 ?_
  refine go_aload_n 0 d_Mo_restart_9 rfl ?_
  obtain ⟨_, e4, hf⟩ := bnd_x hf
  obtain ⟨h5, e_x5, hf⟩ := bnd_x hf
  refine go_callV_N (As := []) (st := []) (c_Mo_beginAnew (d := d - 1) (by omega) e_x5) lk_Mo_205 rfl rfl e4 (by decide) rfl (rm_ok (by omega)) (Nat.le_of_ble_eq_true rfl) rm_c d_Mo_restart_10 ?_
  refine go_aload_n 0 d_Mo_restart_13 rfl ?_
  obtain ⟨_, e6, hf⟩ := bnd_x hf
  obtain ⟨x7, e_x7, hf⟩ := bnd_x hf
  refine go_callV_I (As := []) (st := []) (c_Mo_givens (d := d - 1) (by omega) e_x7) lk_Mo_226 rfl rfl e6 (by decide) rfl (rm_ok (by omega)) (Nat.le_of_ble_eq_true rfl) rm_c d_Mo_restart_14 ?_
  obtain ⟨e8, e9⟩ := Prod.mk.inj (Option.some.inj hf)
  subst e8; subst e9
  exact go_iret d_Mo_restart_17 rfl ⟨rfl, rfl, rfl⟩
theorem c_Mo_restart {l : Launch} {E : ET} {d : Nat} (hd : 3 ≤ d) {F : Nat} {r : Int32} {h9 : PH} {x : Nat} {a0 : Nat} {h : PH} (hf : f_Mo_restart F a0 h = some (r, h9)) : Fn l E m_Mo_restart d 0 0 [.ref a0] h x (PoE (some (.int r)) h9 x) :=
  Fn.of (by decide +kernel) (Nat.le_of_ble_eq_true rfl) (g_Mo_restart_0 hd a0 h hf)
theorem d_Mo_draw_0 : decode prog_13_method_57_code 0 = .ok (.aload_n 0, 1) := by decide +kernel
theorem d_Mo_draw_1 : decode prog_13_method_57_code 1 = .ok (.ldc2_w 229, 3) := by decide +kernel
theorem d_Mo_draw_4 : decode prog_13_method_57_code 4 = .ok (.aload_n 0, 1) := by decide +kernel
theorem d_Mo_draw_5 : decode prog_13_method_57_code 5 = .ok (.getfield 231, 3) := by decide +kernel
theorem d_Mo_draw_8 : decode prog_13_method_57_code 8 = .ok (.lmul, 1) := by decide +kernel
theorem d_Mo_draw_9 : decode prog_13_method_57_code 9 = .ok (.ldc2_w 235, 3) := by decide +kernel
theorem d_Mo_draw_12 : decode prog_13_method_57_code 12 = .ok (.ladd, 1) := by decide +kernel
theorem d_Mo_draw_13 : decode prog_13_method_57_code 13 = .ok (.ldc2_w 237, 3) := by decide +kernel
theorem d_Mo_draw_16 : decode prog_13_method_57_code 16 = .ok (.lrem, 1) := by decide +kernel
theorem d_Mo_draw_17 : decode prog_13_method_57_code 17 = .ok (.putfield 231, 3) := by decide +kernel
theorem d_Mo_draw_20 : decode prog_13_method_57_code 20 = .ok (.aload_n 0, 1) := by decide +kernel
theorem d_Mo_draw_21 : decode prog_13_method_57_code 21 = .ok (.getfield 231, 3) := by decide +kernel
theorem d_Mo_draw_24 : decode prog_13_method_57_code 24 = .ok (.ldc2_w 239, 3) := by decide +kernel
theorem d_Mo_draw_27 : decode prog_13_method_57_code 27 = .ok (.ldiv, 1) := by decide +kernel
theorem d_Mo_draw_28 : decode prog_13_method_57_code 28 = .ok (.iload_n 1, 1) := by decide +kernel
theorem d_Mo_draw_29 : decode prog_13_method_57_code 29 = .ok (.i2l, 1) := by decide +kernel
theorem d_Mo_draw_30 : decode prog_13_method_57_code 30 = .ok (.lrem, 1) := by decide +kernel
theorem d_Mo_draw_31 : decode prog_13_method_57_code 31 = .ok (.l2i, 1) := by decide +kernel
theorem d_Mo_draw_32 : decode prog_13_method_57_code 32 = .ok (.ireturn, 1) := by decide +kernel
def f_Mo_draw (a0 : Nat) (i1 : Int32) (h : PH) : Option (Int32 × PH) :=
  bnd (gL h a0 10 20) fun x1 => bnd (pV h a0 10 20 (.long ((((1103515245 : Int64) * x1) + (12345 : Int64)) - (((1103515245 : Int64) * x1) + (12345 : Int64)) / (2147483648 : Int64) * (2147483648 : Int64)))) fun h2 => bnd (gL h2 a0 10 20) fun x3 => bnd (cDL (i1.toInt64)) fun _ => some ((((x3 / (65536 : Int64)) - (x3 / (65536 : Int64)) / (i1.toInt64) * (i1.toInt64)).toInt32), h2)
theorem g_Mo_draw_0 {l : Launch} {E : ET} {d : Nat} (hd : 1 ≤ d) {r : Int32} {h9 : PH} {x : Nat}  (a0 : Nat) (i1 : Int32) (h : PH) (hf : f_Mo_draw a0 i1 h = some (r, h9)) : Go l E m_Mo_draw (rm d 0 0) (KM E 0 0 (PoE (some (.int r)) h9 x)) 0 0 h x 0 [(0, .ref a0), (1, .int i1)] [] := by
  unfold f_Mo_draw at hf
  refine go_aload_n 0 d_Mo_draw_0 rfl ?_
  refine go_ldc2 (1103515245 : Int64) d_Mo_draw_1 kl_Mo_229 ?_
  refine go_aload_n 0 d_Mo_draw_4 rfl ?_
  obtain ⟨x1, e_x1, hf⟩ := bnd_x hf
  refine go_get d_Mo_draw_5 (gL_x e_x1) fl_Mo_231 ?_
  refine go_lmul d_Mo_draw_8 ?_
  refine go_ldc2 (12345 : Int64) d_Mo_draw_9 kl_Mo_235 ?_
  refine go_ladd d_Mo_draw_12 ?_
  refine go_ldc2 (2147483648 : Int64) d_Mo_draw_13 kl_Mo_237 ?_
  refine go_lrem d_Mo_draw_16 (by decide) ?_
  obtain ⟨h2, e_h2, hf⟩ := bnd_x hf
  refine go_putL d_Mo_draw_17 e_h2 fl_Mo_231 rfl rfl ?_
  refine go_aload_n 0 d_Mo_draw_20 rfl ?_
  obtain ⟨x3, e_x3, hf⟩ := bnd_x hf
  refine go_get d_Mo_draw_21 (gL_x e_x3) fl_Mo_231 ?_
  refine go_ldc2 (65536 : Int64) d_Mo_draw_24 kl_Mo_239 ?_
  refine go_ldiv d_Mo_draw_27 (by decide) ?_
  refine go_iload_n 1 d_Mo_draw_28 rfl ?_
  refine go_i2l d_Mo_draw_29 ?_
  obtain ⟨_, e4, hf⟩ := bnd_x hf
  refine go_lrem d_Mo_draw_30 (cDL_x e4) ?_
  refine go_l2i d_Mo_draw_31 ?_
  obtain ⟨e8, e9⟩ := Prod.mk.inj (Option.some.inj hf)
  subst e8; subst e9
  exact go_iret d_Mo_draw_32 rfl ⟨rfl, rfl, rfl⟩
theorem c_Mo_draw {l : Launch} {E : ET} {d : Nat} (hd : 1 ≤ d) {r : Int32} {h9 : PH} {x : Nat} {a0 : Nat} {i1 : Int32} {h : PH} (hf : f_Mo_draw a0 i1 h = some (r, h9)) : Fn l E m_Mo_draw d 0 0 [.ref a0, .int i1] h x (PoE (some (.int r)) h9 x) :=
  Fn.of (by decide +kernel) (Nat.le_of_ble_eq_true rfl) (g_Mo_draw_0 hd a0 i1 h hf)
theorem d_Mo_shuffle_0 : decode prog_13_method_58_code 0 = .ok (.iconst 0, 1) := by decide +kernel
theorem d_Mo_shuffle_1 : decode prog_13_method_58_code 1 = .ok (.istore_n 3, 1) := by decide +kernel
theorem d_Mo_shuffle_2 : decode prog_13_method_58_code 2 = .ok (.iload_n 3, 1) := by decide +kernel
theorem d_Mo_shuffle_3 : decode prog_13_method_58_code 3 = .ok (.iload_n 1, 1) := by decide +kernel
theorem d_Mo_shuffle_4 : decode prog_13_method_58_code 4 = .ok (.if_icmp .ge 18, 3) := by decide +kernel
theorem d_Mo_shuffle_7 : decode prog_13_method_58_code 7 = .ok (.aload_n 0, 1) := by decide +kernel
theorem d_Mo_shuffle_8 : decode prog_13_method_58_code 8 = .ok (.getfield 43, 3) := by decide +kernel
theorem d_Mo_shuffle_11 : decode prog_13_method_58_code 11 = .ok (.iload_n 3, 1) := by decide +kernel
theorem d_Mo_shuffle_12 : decode prog_13_method_58_code 12 = .ok (.iload_n 2, 1) := by decide +kernel
theorem d_Mo_shuffle_13 : decode prog_13_method_58_code 13 = .ok (.iload_n 3, 1) := by decide +kernel
theorem d_Mo_shuffle_14 : decode prog_13_method_58_code 14 = .ok (.iadd, 1) := by decide +kernel
theorem d_Mo_shuffle_15 : decode prog_13_method_58_code 15 = .ok (.iastore, 1) := by decide +kernel
theorem d_Mo_shuffle_16 : decode prog_13_method_58_code 16 = .ok (.iinc 3 1, 3) := by decide +kernel
theorem d_Mo_shuffle_19 : decode prog_13_method_58_code 19 = .ok (.goto (-17), 3) := by decide +kernel
theorem d_Mo_shuffle_22 : decode prog_13_method_58_code 22 = .ok (.iload_n 1, 1) := by decide +kernel
theorem d_Mo_shuffle_23 : decode prog_13_method_58_code 23 = .ok (.iconst 1, 1) := by decide +kernel
theorem d_Mo_shuffle_24 : decode prog_13_method_58_code 24 = .ok (.isub, 1) := by decide +kernel
theorem d_Mo_shuffle_25 : decode prog_13_method_58_code 25 = .ok (.istore_n 3, 1) := by decide +kernel
theorem d_Mo_shuffle_26 : decode prog_13_method_58_code 26 = .ok (.iload_n 3, 1) := by decide +kernel
theorem d_Mo_shuffle_27 : decode prog_13_method_58_code 27 = .ok (.ifCond .le 48, 3) := by decide +kernel
theorem d_Mo_shuffle_30 : decode prog_13_method_58_code 30 = .ok (.aload_n 0, 1) := by decide +kernel
theorem d_Mo_shuffle_31 : decode prog_13_method_58_code 31 = .ok (.iload_n 3, 1) := by decide +kernel
theorem d_Mo_shuffle_32 : decode prog_13_method_58_code 32 = .ok (.iconst 1, 1) := by decide +kernel
theorem d_Mo_shuffle_33 : decode prog_13_method_58_code 33 = .ok (.iadd, 1) := by decide +kernel
theorem d_Mo_shuffle_34 : decode prog_13_method_58_code 34 = .ok (.invokevirtual 241, 3) := by decide +kernel
theorem d_Mo_shuffle_37 : decode prog_13_method_58_code 37 = .ok (.istore 4, 2) := by decide +kernel
theorem d_Mo_shuffle_39 : decode prog_13_method_58_code 39 = .ok (.aload_n 0, 1) := by decide +kernel
theorem d_Mo_shuffle_40 : decode prog_13_method_58_code 40 = .ok (.getfield 43, 3) := by decide +kernel
theorem d_Mo_shuffle_43 : decode prog_13_method_58_code 43 = .ok (.iload_n 3, 1) := by decide +kernel
theorem d_Mo_shuffle_44 : decode prog_13_method_58_code 44 = .ok (.iaload, 1) := by decide +kernel
theorem d_Mo_shuffle_45 : decode prog_13_method_58_code 45 = .ok (.istore 5, 2) := by decide +kernel
theorem d_Mo_shuffle_47 : decode prog_13_method_58_code 47 = .ok (.aload_n 0, 1) := by decide +kernel
theorem d_Mo_shuffle_48 : decode prog_13_method_58_code 48 = .ok (.getfield 43, 3) := by decide +kernel
theorem d_Mo_shuffle_51 : decode prog_13_method_58_code 51 = .ok (.iload_n 3, 1) := by decide +kernel
theorem d_Mo_shuffle_52 : decode prog_13_method_58_code 52 = .ok (.aload_n 0, 1) := by decide +kernel
theorem d_Mo_shuffle_53 : decode prog_13_method_58_code 53 = .ok (.getfield 43, 3) := by decide +kernel
theorem d_Mo_shuffle_56 : decode prog_13_method_58_code 56 = .ok (.iload 4, 2) := by decide +kernel
theorem d_Mo_shuffle_58 : decode prog_13_method_58_code 58 = .ok (.iaload, 1) := by decide +kernel
theorem d_Mo_shuffle_59 : decode prog_13_method_58_code 59 = .ok (.iastore, 1) := by decide +kernel
theorem d_Mo_shuffle_60 : decode prog_13_method_58_code 60 = .ok (.aload_n 0, 1) := by decide +kernel
theorem d_Mo_shuffle_61 : decode prog_13_method_58_code 61 = .ok (.getfield 43, 3) := by decide +kernel
theorem d_Mo_shuffle_64 : decode prog_13_method_58_code 64 = .ok (.iload 4, 2) := by decide +kernel
theorem d_Mo_shuffle_66 : decode prog_13_method_58_code 66 = .ok (.iload 5, 2) := by decide +kernel
theorem d_Mo_shuffle_68 : decode prog_13_method_58_code 68 = .ok (.iastore, 1) := by decide +kernel
theorem d_Mo_shuffle_69 : decode prog_13_method_58_code 69 = .ok (.iinc 3 (-1), 3) := by decide +kernel
theorem d_Mo_shuffle_72 : decode prog_13_method_58_code 72 = .ok (.goto (-46), 3) := by decide +kernel
theorem d_Mo_shuffle_75 : decode prog_13_method_58_code 75 = .ok (.return_, 1) := by decide +kernel
def b_Mo_shuffle_26 (F : Nat) (k26 : Nat → Int32 → PH → Option PH) (a0 : Nat) (i3 : Int32) (h : PH) : Option PH :=
  (if i3 ≤ (0 : Int32) then some h else bnd (cK h a0 10) fun _ => bnd2 (f_Mo_draw a0 (i3 + (1 : Int32)) h) fun x2 h3 => bnd (gR h3 a0 10 21) fun x4 => bnd (aI h3 x4 i3) fun x5 => bnd (gR h3 a0 10 21) fun x6 => bnd (gR h3 a0 10 21) fun x7 => bnd (aI h3 x7 x2) fun x8 => bnd (sI h3 x6 i3 x8) fun h9 => bnd (gR h9 a0 10 21) fun x10 => bnd (sI h9 x10 x2 x5) fun h11 => k26 a0 (i3 + (-1 : Int32)) h11)
def f_Mo_shuffle_26 (F : Nat) : Nat → Nat → Int32 → PH → Option PH
  | 0 => fun _ _ _ => none
  | n + 1 => b_Mo_shuffle_26 F (f_Mo_shuffle_26 F n)
theorem g_Mo_shuffle_26 {l : Launch} {E : ET} {d : Nat} (hd : 2 ≤ d) {F : Nat} {h9 : PH} {x : Nat} {k26 : Nat → Int32 → PH → Option PH} (hk26 : ∀ (a0 : Nat) (i3 : Int32) (hh : PH), k26 a0 i3 hh = some h9 → Go l E m_Mo_shuffle (rm d 0 0) (KM E 0 0 (PoE none h9 x)) 0 0 hh x 26 [(0, .ref a0), (3, .int i3)] []) (a0 : Nat) (i3 : Int32) (h : PH) (hf : b_Mo_shuffle_26 F k26 a0 i3 h = some h9) : Go l E m_Mo_shuffle (rm d 0 0) (KM E 0 0 (PoE none h9 x)) 0 0 h x 26 [(0, .ref a0), (3, .int i3)] [] := by
  unfold b_Mo_shuffle_26 at hf
  refine go_iload_n 1 d_Mo_shuffle_26 rfl ?_
  refine go_if_le 75 d_Mo_shuffle_27 (by decide) (fun q12 => ?_) (fun q12 => ?_)
  · rw [if_pos q12] at hf
    have e9 := Option.some.inj hf
    subst e9
    exact go_vret d_Mo_shuffle_75 rfl ⟨rfl, rfl, rfl⟩
  · rw [if_neg q12] at hf
    refine go_aload_n 0 d_Mo_shuffle_30 rfl ?_
    refine go_iload_n 1 d_Mo_shuffle_31 rfl ?_
    refine go_iconst (1 : Int32) d_Mo_shuffle_32 (by decide) ?_
    refine go_iadd d_Mo_shuffle_33 ?_
    obtain ⟨_, e1, hf⟩ := bnd_x hf
    obtain ⟨x2, h3, e_x2, hf⟩ := bnd2_x hf
    refine go_callV_I (As := [.int (i3 + (1 : Int32))]) (st := []) (c_Mo_draw (d := d - 1) (by omega) e_x2) lk_Mo_241 rfl rfl e1 (by decide) rfl (rm_ok (by omega)) (Nat.le_of_ble_eq_true rfl) rm_c d_Mo_shuffle_34 ?_
    refine go_istore (lv' := [(4, .int x2), (0, .ref a0), (3, .int i3)]) d_Mo_shuffle_37 rfl (by decide) ?_
    refine go_aload_n 1 d_Mo_shuffle_39 rfl ?_
    obtain ⟨x4, e_x4, hf⟩ := bnd_x hf
    refine go_get d_Mo_shuffle_40 (gR_x e_x4) fl_Mo_43 ?_
    refine go_iload_n 2 d_Mo_shuffle_43 rfl ?_
    obtain ⟨x5, e_x5, hf⟩ := bnd_x hf
    refine go_iaload d_Mo_shuffle_44 e_x5 ?_
    refine go_istore (lv' := [(5, .int x5), (4, .int x2), (0, .ref a0), (3, .int i3)]) d_Mo_shuffle_45 rfl (by decide) ?_
    refine go_aload_n 2 d_Mo_shuffle_47 rfl ?_
    obtain ⟨x6, e_x6, hf⟩ := bnd_x hf
    refine go_get d_Mo_shuffle_48 (gR_x e_x6) fl_Mo_43 ?_
    refine go_iload_n 3 d_Mo_shuffle_51 rfl ?_
    refine go_aload_n 2 d_Mo_shuffle_52 rfl ?_
    obtain ⟨x7, e_x7, hf⟩ := bnd_x hf
    refine go_get d_Mo_shuffle_53 (gR_x e_x7) fl_Mo_43 ?_
    refine go_iload 1 d_Mo_shuffle_56 rfl ?_
    obtain ⟨x8, e_x8, hf⟩ := bnd_x hf
    refine go_iaload d_Mo_shuffle_58 e_x8 ?_
    obtain ⟨h9, e_h9, hf⟩ := bnd_x hf
    refine go_iastore d_Mo_shuffle_59 e_h9 ?_
    refine go_aload_n 2 d_Mo_shuffle_60 rfl ?_
    obtain ⟨x10, e_x10, hf⟩ := bnd_x hf
    refine go_get d_Mo_shuffle_61 (gR_x e_x10) fl_Mo_43 ?_
    refine go_iload 1 d_Mo_shuffle_64 rfl ?_
    refine go_iload 0 d_Mo_shuffle_66 rfl ?_
    obtain ⟨h11, e_h11, hf⟩ := bnd_x hf
    refine go_iastore d_Mo_shuffle_68 e_h11 ?_
    refine go_iinc (lv' := [(3, .int (i3 + (-1 : Int32))), (5, .int x5), (4, .int x2), (0, .ref a0)]) 3 (i3 + (-1 : Int32)) d_Mo_shuffle_69 rfl rfl rfl (by decide) ?_
    refine go_goto 26 d_Mo_shuffle_72 (by decide) ?_
    refine go_sub (lv' := [(0, .ref a0), (3, .int (i3 + (-1 : Int32)))]) [3, 0] rfl ?_
    exact hk26 a0 (i3 + (-1 : Int32)) h11 hf
theorem t_Mo_shuffle_26 {l : Launch} {E : ET} {d : Nat} (hd : 2 ≤ d) {F : Nat} {h9 : PH} {x : Nat}  : ∀ (n : Nat) (a0 : Nat) (i3 : Int32) (hh : PH), f_Mo_shuffle_26 F n a0 i3 hh = some h9 → Go l E m_Mo_shuffle (rm d 0 0) (KM E 0 0 (PoE none h9 x)) 0 0 hh x 26 [(0, .ref a0), (3, .int i3)] [] := by
  intro n
  induction n with
  | zero => intro v0 v1 v2 hf; cases hf
  | succ n ih => intro v0 v1 v2 hf; exact g_Mo_shuffle_26 hd ih v0 v1 v2 hf
def b_Mo_shuffle_2 (F : Nat) (k2 : Nat → Int32 → Int32 → Int32 → PH → Option PH) (a0 : Nat) (i1 : Int32) (i2 : Int32) (i3 : Int32) (h : PH) : Option PH :=
  (if i1 ≤ i3 then bnd (some (i1 - (1 : Int32))) fun y1 => f_Mo_shuffle_26 F F a0 y1 h else bnd (gR h a0 10 21) fun x2 => bnd (sI h x2 i3 (i2 + i3)) fun h3 => k2 a0 i1 i2 (i3 + (1 : Int32)) h3)
def f_Mo_shuffle_2 (F : Nat) : Nat → Nat → Int32 → Int32 → Int32 → PH → Option PH
  | 0 => fun _ _ _ _ _ => none
  | n + 1 => b_Mo_shuffle_2 F (f_Mo_shuffle_2 F n)
theorem g_Mo_shuffle_2 {l : Launch} {E : ET} {d : Nat} (hd : 2 ≤ d) {F : Nat} {h9 : PH} {x : Nat} {k2 : Nat → Int32 → Int32 → Int32 → PH → Option PH} (hk2 : ∀ (a0 : Nat) (i1 : Int32) (i2 : Int32) (i3 : Int32) (hh : PH), k2 a0 i1 i2 i3 hh = some h9 → Go l E m_Mo_shuffle (rm d 0 0) (KM E 0 0 (PoE none h9 x)) 0 0 hh x 2 [(0, .ref a0), (1, .int i1), (2, .int i2), (3, .int i3)] []) (a0 : Nat) (i1 : Int32) (i2 : Int32) (i3 : Int32) (h : PH) (hf : b_Mo_shuffle_2 F k2 a0 i1 i2 i3 h = some h9) : Go l E m_Mo_shuffle (rm d 0 0) (KM E 0 0 (PoE none h9 x)) 0 0 h x 2 [(0, .ref a0), (1, .int i1), (2, .int i2), (3, .int i3)] [] := by
  unfold b_Mo_shuffle_2 at hf
  refine go_iload_n 3 d_Mo_shuffle_2 rfl ?_
  refine go_iload_n 1 d_Mo_shuffle_3 rfl ?_
  refine go_icmp_ge 22 d_Mo_shuffle_4 (by decide) (fun q4 => ?_) (fun q4 => ?_)
  · rw [if_pos q4] at hf
    refine go_iload_n 1 d_Mo_shuffle_22 rfl ?_
    refine go_iconst (1 : Int32) d_Mo_shuffle_23 (by decide) ?_
    refine go_isub d_Mo_shuffle_24 ?_
    obtain ⟨y1, e_y1, hf⟩ := bnd_x hf
    refine go_nmI e_y1 ?_
    refine go_istore_n (lv' := [(3, .int y1), (0, .ref a0), (1, .int i1), (2, .int i2)]) d_Mo_shuffle_25 rfl (by decide) ?_
    refine go_sub (lv' := [(0, .ref a0), (3, .int y1)]) [1, 0] rfl ?_
    exact t_Mo_shuffle_26 hd  _ a0 y1 h hf
  · rw [if_neg q4] at hf
    refine go_aload_n 0 d_Mo_shuffle_7 rfl ?_
    obtain ⟨x2, e_x2, hf⟩ := bnd_x hf
    refine go_get d_Mo_shuffle_8 (gR_x e_x2) fl_Mo_43 ?_
    refine go_iload_n 3 d_Mo_shuffle_11 rfl ?_
    refine go_iload_n 2 d_Mo_shuffle_12 rfl ?_
    refine go_iload_n 3 d_Mo_shuffle_13 rfl ?_
    refine go_iadd d_Mo_shuffle_14 ?_
    obtain ⟨h3, e_h3, hf⟩ := bnd_x hf
    refine go_iastore d_Mo_shuffle_15 e_h3 ?_
    refine go_iinc (lv' := [(3, .int (i3 + (1 : Int32))), (0, .ref a0), (1, .int i1), (2, .int i2)]) 3 (i3 + (1 : Int32)) d_Mo_shuffle_16 rfl rfl rfl (by decide) ?_
    refine go_goto 2 d_Mo_shuffle_19 (by decide) ?_
    refine go_sub (lv' := [(0, .ref a0), (1, .int i1), (2, .int i2), (3, .int (i3 + (1 : Int32)))]) [1, 2, 3, 0] rfl ?_
    exact hk2 a0 i1 i2 (i3 + (1 : Int32)) h3 hf
theorem t_Mo_shuffle_2 {l : Launch} {E : ET} {d : Nat} (hd : 2 ≤ d) {F : Nat} {h9 : PH} {x : Nat}  : ∀ (n : Nat) (a0 : Nat) (i1 : Int32) (i2 : Int32) (i3 : Int32) (hh : PH), f_Mo_shuffle_2 F n a0 i1 i2 i3 hh = some h9 → Go l E m_Mo_shuffle (rm d 0 0) (KM E 0 0 (PoE none h9 x)) 0 0 hh x 2 [(0, .ref a0), (1, .int i1), (2, .int i2), (3, .int i3)] [] := by
  intro n
  induction n with
  | zero => intro v0 v1 v2 v3 v4 hf; cases hf
  | succ n ih => intro v0 v1 v2 v3 v4 hf; exact g_Mo_shuffle_2 hd ih v0 v1 v2 v3 v4 hf
def f_Mo_shuffle (F : Nat) (a0 : Nat) (i1 : Int32) (i2 : Int32) (h : PH) : Option PH :=
  f_Mo_shuffle_2 F F a0 i1 i2 (0 : Int32) h
theorem g_Mo_shuffle_0 {l : Launch} {E : ET} {d : Nat} (hd : 2 ≤ d) {F : Nat} {h9 : PH} {x : Nat}  (a0 : Nat) (i1 : Int32) (i2 : Int32) (h : PH) (hf : f_Mo_shuffle F a0 i1 i2 h = some h9) : Go l E m_Mo_shuffle (rm d 0 0) (KM E 0 0 (PoE none h9 x)) 0 0 h x 0 [(0, .ref a0), (1, .int i1), (2, .int i2)] [] := by
  unfold f_Mo_shuffle at hf
  refine go_iconst (0 : Int32) d_Mo_shuffle_0 (by decide) ?_
  refine go_istore_n (lv' := [(3, .int (0 : Int32)), (0, .ref a0), (1, .int i1), (2, .int i2)]) d_Mo_shuffle_1 rfl (by decide) ?_
  refine go_sub (lv' := [(0, .ref a0), (1, .int i1), (2, .int i2), (3, .int (0 : Int32))]) [1, 2, 3, 0] rfl ?_
  exact t_Mo_shuffle_2 hd  _ a0 i1 i2 (0 : Int32) h hf
theorem c_Mo_shuffle {l : Launch} {E : ET} {d : Nat} (hd : 2 ≤ d) {F : Nat} {h9 : PH} {x : Nat} {a0 : Nat} {i1 : Int32} {i2 : Int32} {h : PH} (hf : f_Mo_shuffle F a0 i1 i2 h = some h9) : Fn l E m_Mo_shuffle d 0 0 [.ref a0, .int i1, .int i2] h x (PoE none h9 x) :=
  Fn.of (by decide +kernel) (Nat.le_of_ble_eq_true rfl) (g_Mo_shuffle_0 hd a0 i1 i2 h hf)
