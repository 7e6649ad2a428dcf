/-! 08.leaf: methods as functions, by program. -/
theorem d_Grd_unit_0 : decode prog_2_method_2_code 0 = .ok (.iload_n 0, 1) := by decide +kernel
theorem d_Grd_unit_1 : decode prog_2_method_2_code 1 = .ok (.ifCond .lt 17, 3) := by decide +kernel
theorem d_Grd_unit_4 : decode prog_2_method_2_code 4 = .ok (.iload_n 0, 1) := by decide +kernel
theorem d_Grd_unit_5 : decode prog_2_method_2_code 5 = .ok (.bipush 18, 2) := by decide +kernel
theorem d_Grd_unit_7 : decode prog_2_method_2_code 7 = .ok (.if_icmp .ge 11, 3) := by decide +kernel
theorem d_Grd_unit_10 : decode prog_2_method_2_code 10 = .ok (.getstatic 11, 3) := by decide +kernel
theorem d_Grd_unit_13 : decode prog_2_method_2_code 13 = .ok (.iload_n 0, 1) := by decide +kernel
theorem d_Grd_unit_14 : decode prog_2_method_2_code 14 = .ok (.laload, 1) := by decide +kernel
theorem d_Grd_unit_15 : decode prog_2_method_2_code 15 = .ok (.goto 4, 3) := by decide +kernel
theorem d_Grd_unit_18 : decode prog_2_method_2_code 18 = .ok (.lconst 0, 1) := by decide +kernel
theorem d_Grd_unit_19 : decode prog_2_method_2_code 19 = .ok (.lreturn, 1) := by decide +kernel
def f_Grd_unit (i0 : Int32) : Option Int64 :=
  (if i0 < (0 : Int32) then some (0 : Int64) else (if (18 : Int32) ≤ i0 then some (0 : Int64) else bnd (uL i0) fun x1 => some x1))
theorem g_Grd_unit_0 {l : Launch} {E : ET} {d : Nat} (hd : 1 ≤ d) {r : Int64} {h : PH} {x : Nat}  (i0 : Int32) (hf : f_Grd_unit i0 = some r) : Go l E m_Grd_unit (rm d 0 0) (KM E 0 0 (PoE (some (.long r)) h x)) 0 0 h x 0 [(0, .int i0)] [] := by
  unfold f_Grd_unit at hf
  refine go_iload_n 0 d_Grd_unit_0 rfl ?_
  refine go_if_lt 18 d_Grd_unit_1 (by decide) (fun q3 => ?_) (fun q3 => ?_)
  · rw [if_pos q3] at hf
    refine go_lconst (0 : Int64) d_Grd_unit_18 (by decide) ?_
    have e9 := Option.some.inj hf
    subst e9
    exact go_lret d_Grd_unit_19 rfl ⟨rfl, rfl, rfl⟩
  · rw [if_neg q3] at hf
    refine go_iload_n 0 d_Grd_unit_4 rfl ?_
    refine go_bipush (18 : Int32) d_Grd_unit_5 (by decide) ?_
    refine go_icmp_ge 18 d_Grd_unit_7 (by decide) (fun q2 => ?_) (fun q2 => ?_)
    · rw [if_pos q2] at hf
      refine go_lconst (0 : Int64) d_Grd_unit_18 (by decide) ?_
      have e9 := Option.some.inj hf
      subst e9
      exact go_lret d_Grd_unit_19 rfl ⟨rfl, rfl, rfl⟩
    · rw [if_neg q2] at hf
      refine go_static d_Grd_unit_10 ks_11 ?_
      refine go_iload_n 0 d_Grd_unit_13 rfl ?_
      obtain ⟨x1, e_x1, hf⟩ := bnd_x hf
      refine go_uload d_Grd_unit_14 e_x1 ?_
      refine go_goto 19 d_Grd_unit_15 (by decide) ?_
      have e9 := Option.some.inj hf
      subst e9
      exact go_lret d_Grd_unit_19 rfl ⟨rfl, rfl, rfl⟩
theorem c_Grd_unit {l : Launch} {E : ET} {d : Nat} (hd : 1 ≤ d) {r : Int64} {h : PH} {x : Nat} {i0 : Int32} (hf : f_Grd_unit i0 = some r) : Fn l E m_Grd_unit d 0 0 [.int i0] h x (PoE (some (.long r)) h x) :=
  Fn.of (by decide +kernel) (Nat.le_of_ble_eq_true rfl) (g_Grd_unit_0 hd i0 hf)
theorem d_Grd_neighbours_0 : decode prog_2_method_3_code 0 = .ok (.iload_n 0, 1) := by decide +kernel
theorem d_Grd_neighbours_1 : decode prog_2_method_3_code 1 = .ok (.bipush 6, 2) := by decide +kernel
theorem d_Grd_neighbours_3 : decode prog_2_method_3_code 3 = .ok (.idiv, 1) := by decide +kernel
theorem d_Grd_neighbours_4 : decode prog_2_method_3_code 4 = .ok (.istore_n 1, 1) := by decide +kernel
theorem d_Grd_neighbours_5 : decode prog_2_method_3_code 5 = .ok (.iload_n 0, 1) := by decide +kernel
theorem d_Grd_neighbours_6 : decode prog_2_method_3_code 6 = .ok (.bipush 6, 2) := by decide +kernel
theorem d_Grd_neighbours_8 : decode prog_2_method_3_code 8 = .ok (.irem, 1) := by decide +kernel
theorem d_Grd_neighbours_9 : decode prog_2_method_3_code 9 = .ok (.istore_n 2, 1) := by decide +kernel
theorem d_Grd_neighbours_10 : decode prog_2_method_3_code 10 = .ok (.iconst 2, 1) := by decide +kernel
theorem d_Grd_neighbours_11 : decode prog_2_method_3_code 11 = .ok (.iload_n 1, 1) := by decide +kernel
theorem d_Grd_neighbours_12 : decode prog_2_method_3_code 12 = .ok (.iconst 2, 1) := by decide +kernel
theorem d_Grd_neighbours_13 : decode prog_2_method_3_code 13 = .ok (.idiv, 1) := by decide +kernel
theorem d_Grd_neighbours_14 : decode prog_2_method_3_code 14 = .ok (.imul, 1) := by decide +kernel
theorem d_Grd_neighbours_15 : decode prog_2_method_3_code 15 = .ok (.iload_n 2, 1) := by decide +kernel
theorem d_Grd_neighbours_16 : decode prog_2_method_3_code 16 = .ok (.iconst 3, 1) := by decide +kernel
theorem d_Grd_neighbours_17 : decode prog_2_method_3_code 17 = .ok (.idiv, 1) := by decide +kernel
theorem d_Grd_neighbours_18 : decode prog_2_method_3_code 18 = .ok (.iadd, 1) := by decide +kernel
theorem d_Grd_neighbours_19 : decode prog_2_method_3_code 19 = .ok (.istore_n 3, 1) := by decide +kernel
theorem d_Grd_neighbours_20 : decode prog_2_method_3_code 20 = .ok (.iload_n 1, 1) := by decide +kernel
theorem d_Grd_neighbours_21 : decode prog_2_method_3_code 21 = .ok (.invokestatic 15, 3) := by decide +kernel
theorem d_Grd_neighbours_24 : decode prog_2_method_3_code 24 = .ok (.bipush 6, 2) := by decide +kernel
theorem d_Grd_neighbours_26 : decode prog_2_method_3_code 26 = .ok (.iload_n 2, 1) := by decide +kernel
theorem d_Grd_neighbours_27 : decode prog_2_method_3_code 27 = .ok (.iadd, 1) := by decide +kernel
theorem d_Grd_neighbours_28 : decode prog_2_method_3_code 28 = .ok (.invokestatic 15, 3) := by decide +kernel
theorem d_Grd_neighbours_31 : decode prog_2_method_3_code 31 = .ok (.lor, 1) := by decide +kernel
theorem d_Grd_neighbours_32 : decode prog_2_method_3_code 32 = .ok (.bipush 12, 2) := by decide +kernel
theorem d_Grd_neighbours_34 : decode prog_2_method_3_code 34 = .ok (.iload_n 3, 1) := by decide +kernel
theorem d_Grd_neighbours_35 : decode prog_2_method_3_code 35 = .ok (.iadd, 1) := by decide +kernel
theorem d_Grd_neighbours_36 : decode prog_2_method_3_code 36 = .ok (.invokestatic 15, 3) := by decide +kernel
theorem d_Grd_neighbours_39 : decode prog_2_method_3_code 39 = .ok (.lor, 1) := by decide +kernel
theorem d_Grd_neighbours_40 : decode prog_2_method_3_code 40 = .ok (.lconst 1, 1) := by decide +kernel
theorem d_Grd_neighbours_41 : decode prog_2_method_3_code 41 = .ok (.iload_n 0, 1) := by decide +kernel
theorem d_Grd_neighbours_42 : decode prog_2_method_3_code 42 = .ok (.lshl, 1) := by decide +kernel
theorem d_Grd_neighbours_43 : decode prog_2_method_3_code 43 = .ok (.ldc2_w 19, 3) := by decide +kernel
theorem d_Grd_neighbours_46 : decode prog_2_method_3_code 46 = .ok (.lxor, 1) := by decide +kernel
theorem d_Grd_neighbours_47 : decode prog_2_method_3_code 47 = .ok (.land, 1) := by decide +kernel
theorem d_Grd_neighbours_48 : decode prog_2_method_3_code 48 = .ok (.lreturn, 1) := by decide +kernel
def f_Grd_neighbours (i0 : Int32) : Option Int64 :=
  bnd (some (i0 / (6 : Int32))) fun y1 => bnd (some (i0 - i0 / (6 : Int32) * (6 : Int32))) fun y2 => bnd (some (((2 : Int32) * (y1 / (2 : Int32))) + (y2 / (3 : Int32)))) fun y3 => bnd (f_Grd_unit y1) fun x4 => bnd (f_Grd_unit ((6 : Int32) + y2)) fun x5 => bnd (f_Grd_unit ((12 : Int32) + y3)) fun x6 => some (((x4 ||| x5) ||| x6) &&& (((1 : Int64) <<< ((i0).toInt64 &&& 63)) ^^^ (-1 : Int64)))
theorem g_Grd_neighbours_0 {l : Launch} {E : ET} {d : Nat} (hd : 2 ≤ d) {r : Int64} {h : PH} {x : Nat}  (i0 : Int32) (hf : f_Grd_neighbours i0 = some r) : Go l E m_Grd_neighbours (rm d 0 0) (KM E 0 0 (PoE (some (.long r)) h x)) 0 0 h x 0 [(0, .int i0)] [] := by
  unfold f_Grd_neighbours at hf
  refine go_iload_n 0 d_Grd_neighbours_0 rfl ?_
  refine go_bipush (6 : Int32) d_Grd_neighbours_1 (by decide) ?_
  refine go_idiv d_Grd_neighbours_3 (by decide) ?_
  obtain ⟨y1, e_y1, hf⟩ := bnd_x hf
  refine go_nmI e_y1 ?_
  refine go_istore_n (lv' := [(1, .int y1), (0, .int i0)]) d_Grd_neighbours_4 rfl (by decide) ?_
  refine go_iload_n 1 d_Grd_neighbours_5 rfl ?_
  refine go_bipush (6 : Int32) d_Grd_neighbours_6 (by decide) ?_
  refine go_irem d_Grd_neighbours_8 (by decide) ?_
  obtain ⟨y2, e_y2, hf⟩ := bnd_x hf
  refine go_nmI e_y2 ?_
  refine go_istore_n (lv' := [(2, .int y2), (1, .int y1), (0, .int i0)]) d_Grd_neighbours_9 rfl (by decide) ?_
  refine go_iconst (2 : Int32) d_Grd_neighbours_10 (by decide) ?_
  refine go_iload_n 1 d_Grd_neighbours_11 rfl ?_
  refine go_iconst (2 : Int32) d_Grd_neighbours_12 (by decide) ?_
  refine go_idiv d_Grd_neighbours_13 (by decide) ?_
  refine go_imul d_Grd_neighbours_14 ?_
  refine go_iload_n 0 d_Grd_neighbours_15 rfl ?_
  refine go_iconst (3 : Int32) d_Grd_neighbours_16 (by decide) ?_
  refine go_idiv d_Grd_neighbours_17 (by decide) ?_
  refine go_iadd d_Grd_neighbours_18 ?_
  obtain ⟨y3, e_y3, hf⟩ := bnd_x hf
  refine go_nmI e_y3 ?_
  refine go_istore_n (lv' := [(3, .int y3), (2, .int y2), (1, .int y1), (0, .int i0)]) d_Grd_neighbours_19 rfl (by decide) ?_
  refine go_iload_n 2 d_Grd_neighbours_20 rfl ?_
  obtain ⟨x4, e_x4, hf⟩ := bnd_x hf
  refine go_callS_L (As := [.int y1]) (st := []) (c_Grd_unit (d := d - 1) (by omega) e_x4) lk_Grd_15 rfl rfl (rm_ok (by omega)) (Nat.le_of_ble_eq_true rfl) rm_c d_Grd_neighbours_21 ?_
  refine go_bipush (6 : Int32) d_Grd_neighbours_24 (by decide) ?_
  refine go_iload_n 1 d_Grd_neighbours_26 rfl ?_
  refine go_iadd d_Grd_neighbours_27 ?_
  obtain ⟨x5, e_x5, hf⟩ := bnd_x hf
  refine go_callS_L (As := [.int ((6 : Int32) + y2)]) (st := [.long x4]) (c_Grd_unit (d := d - 1) (by omega) e_x5) lk_Grd_15 rfl rfl (rm_ok (by omega)) (Nat.le_of_ble_eq_true rfl) rm_c d_Grd_neighbours_28 ?_
  refine go_lor d_Grd_neighbours_31 ?_
  refine go_bipush (12 : Int32) d_Grd_neighbours_32 (by decide) ?_
  refine go_iload_n 0 d_Grd_neighbours_34 rfl ?_
  refine go_iadd d_Grd_neighbours_35 ?_
  obtain ⟨x6, e_x6, hf⟩ := bnd_x hf
  refine go_callS_L (As := [.int ((12 : Int32) + y3)]) (st := [.long (x4 ||| x5)]) (c_Grd_unit (d := d - 1) (by omega) e_x6) lk_Grd_15 rfl rfl (rm_ok (by omega)) (Nat.le_of_ble_eq_true rfl) rm_c d_Grd_neighbours_36 ?_
  refine go_lor d_Grd_neighbours_39 ?_
  refine go_lconst (1 : Int64) d_Grd_neighbours_40 (by decide) ?_
  refine go_iload_n 3 d_Grd_neighbours_41 rfl ?_
  refine go_lshl d_Grd_neighbours_42 ?_
  refine go_ldc2 (-1 : Int64) d_Grd_neighbours_43 kl_Grd_19 ?_
  refine go_lxor d_Grd_neighbours_46 ?_
  refine go_land d_Grd_neighbours_47 ?_
  have e9 := Option.some.inj hf
  subst e9
  exact go_lret d_Grd_neighbours_48 rfl ⟨rfl, rfl, rfl⟩
theorem c_Grd_neighbours {l : Launch} {E : ET} {d : Nat} (hd : 2 ≤ d) {r : Int64} {h : PH} {x : Nat} {i0 : Int32} (hf : f_Grd_neighbours i0 = some r) : Fn l E m_Grd_neighbours d 0 0 [.int i0] h x (PoE (some (.long r)) h x) :=
  Fn.of (by decide +kernel) (Nat.le_of_ble_eq_true rfl) (g_Grd_neighbours_0 hd i0 hf)
theorem d_Grd_isOne_0 : decode prog_2_method_4_code 0 = .ok (.lload_n 0, 1) := by decide +kernel
theorem d_Grd_isOne_1 : decode prog_2_method_4_code 1 = .ok (.lconst 0, 1) := by decide +kernel
theorem d_Grd_isOne_2 : decode prog_2_method_4_code 2 = .ok (.lcmp, 1) := by decide +kernel
theorem d_Grd_isOne_3 : decode prog_2_method_4_code 3 = .ok (.ifCond .eq 17, 3) := by decide +kernel
theorem d_Grd_isOne_6 : decode prog_2_method_4_code 6 = .ok (.lload_n 0, 1) := by decide +kernel
theorem d_Grd_isOne_7 : decode prog_2_method_4_code 7 = .ok (.lload_n 0, 1) := by decide +kernel
theorem d_Grd_isOne_8 : decode prog_2_method_4_code 8 = .ok (.lconst 1, 1) := by decide +kernel
theorem d_Grd_isOne_9 : decode prog_2_method_4_code 9 = .ok (.lsub, 1) := by decide +kernel
theorem d_Grd_isOne_10 : decode prog_2_method_4_code 10 = .ok (.land, 1) := by decide +kernel
theorem d_Grd_isOne_11 : decode prog_2_method_4_code 11 = .ok (.lconst 0, 1) := by decide +kernel
theorem d_Grd_isOne_12 : decode prog_2_method_4_code 12 = .ok (.lcmp, 1) := by decide +kernel
theorem d_Grd_isOne_13 : decode prog_2_method_4_code 13 = .ok (.ifCond .ne 7, 3) := by decide +kernel
theorem d_Grd_isOne_16 : decode prog_2_method_4_code 16 = .ok (.iconst 1, 1) := by decide +kernel
theorem d_Grd_isOne_17 : decode prog_2_method_4_code 17 = .ok (.goto 4, 3) := by decide +kernel
theorem d_Grd_isOne_20 : decode prog_2_method_4_code 20 = .ok (.iconst 0, 1) := by decide +kernel
theorem d_Grd_isOne_21 : decode prog_2_method_4_code 21 = .ok (.ireturn, 1) := by decide +kernel
def f_Grd_isOne (i0 : Int64) : Option Int32 :=
  (if (lg_cmp i0 (0 : Int64)) = (0 : Int32) then some (0 : Int32) else (if (lg_cmp (i0 &&& (i0 - (1 : Int64))) (0 : Int64)) = (0 : Int32) then some (1 : Int32) else some (0 : Int32)))
theorem g_Grd_isOne_0 {l : Launch} {E : ET} {d : Nat} (hd : 1 ≤ d) {r : Int32} {h : PH} {x : Nat}  (i0 : Int64) (hf : f_Grd_isOne i0 = some r) : Go l E m_Grd_isOne (rm d 0 0) (KM E 0 0 (PoE (some (.int r)) h x)) 0 0 h x 0 [(0, .long i0)] [] := by
  unfold f_Grd_isOne at hf
  refine go_lload_n 0 d_Grd_isOne_0 rfl ?_
  refine go_lconst (0 : Int64) d_Grd_isOne_1 (by decide) ?_
  refine go_lcmp d_Grd_isOne_2 ?_
  refine go_if_eq 20 d_Grd_isOne_3 (by decide) (fun q2 => ?_) (fun q2 => ?_)
  · rw [if_pos q2] at hf
    refine go_iconst (0 : Int32) d_Grd_isOne_20 (by decide) ?_
    have e9 := Option.some.inj hf
    subst e9
    exact go_zret d_Grd_isOne_21 rfl rfl ⟨rfl, rfl, rfl⟩
  · rw [if_neg q2] at hf
    refine go_lload_n 0 d_Grd_isOne_6 rfl ?_
    refine go_lload_n 0 d_Grd_isOne_7 rfl ?_
    refine go_lconst (1 : Int64) d_Grd_isOne_8 (by decide) ?_
    refine go_lsub d_Grd_isOne_9 ?_
    refine go_land d_Grd_isOne_10 ?_
    refine go_lconst (0 : Int64) d_Grd_isOne_11 (by decide) ?_
    refine go_lcmp d_Grd_isOne_12 ?_
    refine go_if_ne 20 d_Grd_isOne_13 (by decide) (fun q1 => ?_) (fun q1 => ?_)
    · rw [if_neg q1] at hf
      refine go_iconst (0 : Int32) d_Grd_isOne_20 (by decide) ?_
      have e9 := Option.some.inj hf
      subst e9
      exact go_zret d_Grd_isOne_21 rfl rfl ⟨rfl, rfl, rfl⟩
    · rw [if_pos q1] at hf
      refine go_iconst (1 : Int32) d_Grd_isOne_16 (by decide) ?_
      refine go_goto 21 d_Grd_isOne_17 (by decide) ?_
      have e9 := Option.some.inj hf
      subst e9
      exact go_zret d_Grd_isOne_21 rfl rfl ⟨rfl, rfl, rfl⟩
theorem c_Grd_isOne {l : Launch} {E : ET} {d : Nat} (hd : 1 ≤ d) {r : Int32} {h : PH} {x : Nat} {i0 : Int64} (hf : f_Grd_isOne i0 = some r) : Fn l E m_Grd_isOne d 0 0 [.long i0] h x (PoE (some (.int r)) h x) :=
  Fn.of (by decide +kernel) (Nat.le_of_ble_eq_true rfl) (g_Grd_isOne_0 hd i0 hf)
theorem d_Lng_bitCount_0 : decode prog_18_method_50_code 0 = .ok (.lload_n 0, 1) := by decide +kernel
theorem d_Lng_bitCount_1 : decode prog_18_method_50_code 1 = .ok (.lload_n 0, 1) := by decide +kernel
theorem d_Lng_bitCount_2 : decode prog_18_method_50_code 2 = .ok (.iconst 1, 1) := by decide +kernel
theorem d_Lng_bitCount_3 : decode prog_18_method_50_code 3 = .ok (.lushr, 1) := by decide +kernel
theorem d_Lng_bitCount_4 : decode prog_18_method_50_code 4 = .ok (.ldc2_w 314, 3) := by decide +kernel
theorem d_Lng_bitCount_7 : decode prog_18_method_50_code 7 = .ok (.land, 1) := by decide +kernel
theorem d_Lng_bitCount_8 : decode prog_18_method_50_code 8 = .ok (.lsub, 1) := by decide +kernel
theorem d_Lng_bitCount_9 : decode prog_18_method_50_code 9 = .ok (.lstore_n 0, 1) := by decide +kernel
theorem d_Lng_bitCount_10 : decode prog_18_method_50_code 10 = .ok (.lload_n 0, 1) := by decide +kernel
theorem d_Lng_bitCount_11 : decode prog_18_method_50_code 11 = .ok (.ldc2_w 316, 3) := by decide +kernel
theorem d_Lng_bitCount_14 : decode prog_18_method_50_code 14 = .ok (.land, 1) := by decide +kernel
theorem d_Lng_bitCount_15 : decode prog_18_method_50_code 15 = .ok (.lload_n 0, 1) := by decide +kernel
theorem d_Lng_bitCount_16 : decode prog_18_method_50_code 16 = .ok (.iconst 2, 1) := by decide +kernel
theorem d_Lng_bitCount_17 : decode prog_18_method_50_code 17 = .ok (.lushr, 1) := by decide +kernel
theorem d_Lng_bitCount_18 : decode prog_18_method_50_code 18 = .ok (.ldc2_w 316, 3) := by decide +kernel
theorem d_Lng_bitCount_21 : decode prog_18_method_50_code 21 = .ok (.land, 1) := by decide +kernel
theorem d_Lng_bitCount_22 : decode prog_18_method_50_code 22 = .ok (.ladd, 1) := by decide +kernel
theorem d_Lng_bitCount_23 : decode prog_18_method_50_code 23 = .ok (.lstore_n 0, 1) := by decide +kernel
theorem d_Lng_bitCount_24 : decode prog_18_method_50_code 24 = .ok (.lload_n 0, 1) := by decide +kernel
theorem d_Lng_bitCount_25 : decode prog_18_method_50_code 25 = .ok (.lload_n 0, 1) := by decide +kernel
theorem d_Lng_bitCount_26 : decode prog_18_method_50_code 26 = .ok (.iconst 4, 1) := by decide +kernel
theorem d_Lng_bitCount_27 : decode prog_18_method_50_code 27 = .ok (.lushr, 1) := by decide +kernel
theorem d_Lng_bitCount_28 : decode prog_18_method_50_code 28 = .ok (.ladd, 1) := by decide +kernel
theorem d_Lng_bitCount_29 : decode prog_18_method_50_code 29 = .ok (.ldc2_w 318, 3) := by decide +kernel
theorem d_Lng_bitCount_32 : decode prog_18_method_50_code 32 = .ok (.land, 1) := by decide +kernel
theorem d_Lng_bitCount_33 : decode prog_18_method_50_code 33 = .ok (.lstore_n 0, 1) := by decide +kernel
theorem d_Lng_bitCount_34 : decode prog_18_method_50_code 34 = .ok (.lload_n 0, 1) := by decide +kernel
theorem d_Lng_bitCount_35 : decode prog_18_method_50_code 35 = .ok (.lload_n 0, 1) := by decide +kernel
theorem d_Lng_bitCount_36 : decode prog_18_method_50_code 36 = .ok (.bipush 8, 2) := by decide +kernel
theorem d_Lng_bitCount_38 : decode prog_18_method_50_code 38 = .ok (.lushr, 1) := by decide +kernel
theorem d_Lng_bitCount_39 : decode prog_18_method_50_code 39 = .ok (.ladd, 1) := by decide +kernel
theorem d_Lng_bitCount_40 : decode prog_18_method_50_code 40 = .ok (.lstore_n 0, 1) := by decide +kernel
theorem d_Lng_bitCount_41 : decode prog_18_method_50_code 41 = .ok (.lload_n 0, 1) := by decide +kernel
theorem d_Lng_bitCount_42 : decode prog_18_method_50_code 42 = .ok (.lload_n 0, 1) := by decide +kernel
theorem d_Lng_bitCount_43 : decode prog_18_method_50_code 43 = .ok (.bipush 16, 2) := by decide +kernel
theorem d_Lng_bitCount_45 : decode prog_18_method_50_code 45 = .ok (.lushr, 1) := by decide +kernel
theorem d_Lng_bitCount_46 : decode prog_18_method_50_code 46 = .ok (.ladd, 1) := by decide +kernel
theorem d_Lng_bitCount_47 : decode prog_18_method_50_code 47 = .ok (.lstore_n 0, 1) := by decide +kernel
theorem d_Lng_bitCount_48 : decode prog_18_method_50_code 48 = .ok (.lload_n 0, 1) := by decide +kernel
theorem d_Lng_bitCount_49 : decode prog_18_method_50_code 49 = .ok (.lload_n 0, 1) := by decide +kernel
theorem d_Lng_bitCount_50 : decode prog_18_method_50_code 50 = .ok (.bipush 32, 2) := by decide +kernel
theorem d_Lng_bitCount_52 : decode prog_18_method_50_code 52 = .ok (.lushr, 1) := by decide +kernel
theorem d_Lng_bitCount_53 : decode prog_18_method_50_code 53 = .ok (.ladd, 1) := by decide +kernel
theorem d_Lng_bitCount_54 : decode prog_18_method_50_code 54 = .ok (.lstore_n 0, 1) := by decide +kernel
theorem d_Lng_bitCount_55 : decode prog_18_method_50_code 55 = .ok (.lload_n 0, 1) := by decide +kernel
theorem d_Lng_bitCount_56 : decode prog_18_method_50_code 56 = .ok (.l2i, 1) := by decide +kernel
theorem d_Lng_bitCount_57 : decode prog_18_method_50_code 57 = .ok (.bipush 127, 2) := by decide +kernel
theorem d_Lng_bitCount_59 : decode prog_18_method_50_code 59 = .ok (.iand, 1) := by decide +kernel
theorem d_Lng_bitCount_60 : decode prog_18_method_50_code 60 = .ok (.ireturn, 1) := by decide +kernel
def f_Lng_bitCount (i0 : Int64) : Option Int32 :=
  bnd (some (i0 - ((((i0).toUInt64 >>> (((1 : Int32)).toInt64.toUInt64 &&& Int64.toUInt64 63)).toInt64) &&& (6148914691236517205 : Int64)))) fun y1 => bnd (some ((y1 &&& (3689348814741910323 : Int64)) + ((((y1).toUInt64 >>> (((2 : Int32)).toInt64.toUInt64 &&& Int64.toUInt64 63)).toInt64) &&& (3689348814741910323 : Int64)))) fun y2 => bnd (some ((y2 + (((y2).toUInt64 >>> (((4 : Int32)).toInt64.toUInt64 &&& Int64.toUInt64 63)).toInt64)) &&& (1085102592571150095 : Int64))) fun y3 => bnd (some (y3 + (((y3).toUInt64 >>> (((8 : Int32)).toInt64.toUInt64 &&& Int64.toUInt64 63)).toInt64))) fun y4 => bnd (some (y4 + (((y4).toUInt64 >>> (((16 : Int32)).toInt64.toUInt64 &&& Int64.toUInt64 63)).toInt64))) fun y5 => bnd (some (y5 + (((y5).toUInt64 >>> (((32 : Int32)).toInt64.toUInt64 &&& Int64.toUInt64 63)).toInt64))) fun y6 => some ((y6.toInt32) &&& (127 : Int32))
theorem g_Lng_bitCount_0 {l : Launch} {E : ET} {d : Nat} (hd : 1 ≤ d) {r : Int32} {h : PH} {x : Nat}  (i0 : Int64) (hf : f_Lng_bitCount i0 = some r) : Go l E m_Lng_bitCount (rm d 0 0) (KM E 0 0 (PoE (some (.int r)) h x)) 0 0 h x 0 [(0, .long i0)] [] := by
  unfold f_Lng_bitCount at hf
  refine go_lload_n 0 d_Lng_bitCount_0 rfl ?_
  refine go_lload_n 0 d_Lng_bitCount_1 rfl ?_
  refine go_iconst (1 : Int32) d_Lng_bitCount_2 (by decide) ?_
  refine go_lushr d_Lng_bitCount_3 ?_
  refine go_ldc2 (6148914691236517205 : Int64) d_Lng_bitCount_4 kl_Lng_314 ?_
  refine go_land d_Lng_bitCount_7 ?_
  refine go_lsub d_Lng_bitCount_8 ?_
  obtain ⟨y1, e_y1, hf⟩ := bnd_x hf
  refine go_nmL e_y1 ?_
  refine go_lstore_n (lv' := [(0, .long y1)]) d_Lng_bitCount_9 rfl (by decide) ?_
  refine go_lload_n 0 d_Lng_bitCount_10 rfl ?_
  refine go_ldc2 (3689348814741910323 : Int64) d_Lng_bitCount_11 kl_Lng_316 ?_
  refine go_land d_Lng_bitCount_14 ?_
  refine go_lload_n 0 d_Lng_bitCount_15 rfl ?_
  refine go_iconst (2 : Int32) d_Lng_bitCount_16 (by decide) ?_
  refine go_lushr d_Lng_bitCount_17 ?_
  refine go_ldc2 (3689348814741910323 : Int64) d_Lng_bitCount_18 kl_Lng_316 ?_
  refine go_land d_Lng_bitCount_21 ?_
  refine go_ladd d_Lng_bitCount_22 ?_
  obtain ⟨y2, e_y2, hf⟩ := bnd_x hf
  refine go_nmL e_y2 ?_
  refine go_lstore_n (lv' := [(0, .long y2)]) d_Lng_bitCount_23 rfl (by decide) ?_
  refine go_lload_n 0 d_Lng_bitCount_24 rfl ?_
  refine go_lload_n 0 d_Lng_bitCount_25 rfl ?_
  refine go_iconst (4 : Int32) d_Lng_bitCount_26 (by decide) ?_
  refine go_lushr d_Lng_bitCount_27 ?_
  refine go_ladd d_Lng_bitCount_28 ?_
  refine go_ldc2 (1085102592571150095 : Int64) d_Lng_bitCount_29 kl_Lng_318 ?_
  refine go_land d_Lng_bitCount_32 ?_
  obtain ⟨y3, e_y3, hf⟩ := bnd_x hf
  refine go_nmL e_y3 ?_
  refine go_lstore_n (lv' := [(0, .long y3)]) d_Lng_bitCount_33 rfl (by decide) ?_
  refine go_lload_n 0 d_Lng_bitCount_34 rfl ?_
  refine go_lload_n 0 d_Lng_bitCount_35 rfl ?_
  refine go_bipush (8 : Int32) d_Lng_bitCount_36 (by decide) ?_
  refine go_lushr d_Lng_bitCount_38 ?_
  refine go_ladd d_Lng_bitCount_39 ?_
  obtain ⟨y4, e_y4, hf⟩ := bnd_x hf
  refine go_nmL e_y4 ?_
  refine go_lstore_n (lv' := [(0, .long y4)]) d_Lng_bitCount_40 rfl (by decide) ?_
  refine go_lload_n 0 d_Lng_bitCount_41 rfl ?_
  refine go_lload_n 0 d_Lng_bitCount_42 rfl ?_
  refine go_bipush (16 : Int32) d_Lng_bitCount_43 (by decide) ?_
  refine go_lushr d_Lng_bitCount_45 ?_
  refine go_ladd d_Lng_bitCount_46 ?_
  obtain ⟨y5, e_y5, hf⟩ := bnd_x hf
  refine go_nmL e_y5 ?_
  refine go_lstore_n (lv' := [(0, .long y5)]) d_Lng_bitCount_47 rfl (by decide) ?_
  refine go_lload_n 0 d_Lng_bitCount_48 rfl ?_
  refine go_lload_n 0 d_Lng_bitCount_49 rfl ?_
  refine go_bipush (32 : Int32) d_Lng_bitCount_50 (by decide) ?_
  refine go_lushr d_Lng_bitCount_52 ?_
  refine go_ladd d_Lng_bitCount_53 ?_
  obtain ⟨y6, e_y6, hf⟩ := bnd_x hf
  refine go_nmL e_y6 ?_
  refine go_lstore_n (lv' := [(0, .long y6)]) d_Lng_bitCount_54 rfl (by decide) ?_
  refine go_lload_n 0 d_Lng_bitCount_55 rfl ?_
  refine go_l2i d_Lng_bitCount_56 ?_
  refine go_bipush (127 : Int32) d_Lng_bitCount_57 (by decide) ?_
  refine go_iand d_Lng_bitCount_59 ?_
  have e9 := Option.some.inj hf
  subst e9
  exact go_iret d_Lng_bitCount_60 rfl ⟨rfl, rfl, rfl⟩
theorem c_Lng_bitCount {l : Launch} {E : ET} {d : Nat} (hd : 1 ≤ d) {r : Int32} {h : PH} {x : Nat} {i0 : Int64} (hf : f_Lng_bitCount i0 = some r) : Fn l E m_Lng_bitCount d 0 0 [.long i0] h x (PoE (some (.int r)) h x) :=
  Fn.of (by decide +kernel) (Nat.le_of_ble_eq_true rfl) (g_Lng_bitCount_0 hd i0 hf)
theorem d_Grd_lowest_0 : decode prog_2_method_5_code 0 = .ok (.lload_n 0, 1) := by decide +kernel
theorem d_Grd_lowest_1 : decode prog_2_method_5_code 1 = .ok (.lload_n 0, 1) := by decide +kernel
theorem d_Grd_lowest_2 : decode prog_2_method_5_code 2 = .ok (.lneg, 1) := by decide +kernel
theorem d_Grd_lowest_3 : decode prog_2_method_5_code 3 = .ok (.land, 1) := by decide +kernel
theorem d_Grd_lowest_4 : decode prog_2_method_5_code 4 = .ok (.lconst 1, 1) := by decide +kernel
theorem d_Grd_lowest_5 : decode prog_2_method_5_code 5 = .ok (.lsub, 1) := by decide +kernel
theorem d_Grd_lowest_6 : decode prog_2_method_5_code 6 = .ok (.invokestatic 21, 3) := by decide +kernel
theorem d_Grd_lowest_9 : decode prog_2_method_5_code 9 = .ok (.ireturn, 1) := by decide +kernel
def f_Grd_lowest (i0 : Int64) : Option Int32 :=
  bnd (f_Lng_bitCount ((i0 &&& (-i0)) - (1 : Int64))) fun x1 => some x1
theorem g_Grd_lowest_0 {l : Launch} {E : ET} {d : Nat} (hd : 2 ≤ d) {r : Int32} {h : PH} {x : Nat}  (i0 : Int64) (hf : f_Grd_lowest i0 = some r) : Go l E m_Grd_lowest (rm d 0 0) (KM E 0 0 (PoE (some (.int r)) h x)) 0 0 h x 0 [(0, .long i0)] [] := by
  unfold f_Grd_lowest at hf
  refine go_lload_n 0 d_Grd_lowest_0 rfl ?_
  refine go_lload_n 0 d_Grd_lowest_1 rfl ?_
  refine go_lneg d_Grd_lowest_2 ?_
  refine go_land d_Grd_lowest_3 ?_
  refine go_lconst (1 : Int64) d_Grd_lowest_4 (by decide) ?_
  refine go_lsub d_Grd_lowest_5 ?_
  obtain ⟨x1, e_x1, hf⟩ := bnd_x hf
  refine go_callS_I (As := [.long ((i0 &&& (-i0)) - (1 : Int64))]) (st := []) (c_Lng_bitCount (d := d - 1) (by omega) e_x1) lk_Grd_21 rfl rfl (rm_ok (by omega)) (Nat.le_of_ble_eq_true rfl) rm_c d_Grd_lowest_6 ?_
  have e9 := Option.some.inj hf
  subst e9
  exact go_iret d_Grd_lowest_9 rfl ⟨rfl, rfl, rfl⟩
theorem c_Grd_lowest {l : Launch} {E : ET} {d : Nat} (hd : 2 ≤ d) {r : Int32} {h : PH} {x : Nat} {i0 : Int64} (hf : f_Grd_lowest i0 = some r) : Fn l E m_Grd_lowest d 0 0 [.long i0] h x (PoE (some (.int r)) h x) :=
  Fn.of (by decide +kernel) (Nat.le_of_ble_eq_true rfl) (g_Grd_lowest_0 hd i0 hf)
theorem d_Pos_openAll_0 : decode prog_4_method_2_code 0 = .ok (.iconst 1, 1) := by decide +kernel
theorem d_Pos_openAll_1 : decode prog_4_method_2_code 1 = .ok (.istore_n 1, 1) := by decide +kernel
theorem d_Pos_openAll_2 : decode prog_4_method_2_code 2 = .ok (.iload_n 1, 1) := by decide +kernel
theorem d_Pos_openAll_3 : decode prog_4_method_2_code 3 = .ok (.bipush 6, 2) := by decide +kernel
theorem d_Pos_openAll_5 : decode prog_4_method_2_code 5 = .ok (.if_icmp .gt 18, 3) := by decide +kernel
theorem d_Pos_openAll_8 : decode prog_4_method_2_code 8 = .ok (.aload_n 0, 1) := by decide +kernel
theorem d_Pos_openAll_9 : decode prog_4_method_2_code 9 = .ok (.getfield 9, 3) := by decide +kernel
theorem d_Pos_openAll_12 : decode prog_4_method_2_code 12 = .ok (.iload_n 1, 1) := by decide +kernel
theorem d_Pos_openAll_13 : decode prog_4_method_2_code 13 = .ok (.ldc2_w 18, 3) := by decide +kernel
theorem d_Pos_openAll_16 : decode prog_4_method_2_code 16 = .ok (.lastore, 1) := by decide +kernel
theorem d_Pos_openAll_17 : decode prog_4_method_2_code 17 = .ok (.iinc 1 1, 3) := by decide +kernel
theorem d_Pos_openAll_20 : decode prog_4_method_2_code 20 = .ok (.goto (-18), 3) := by decide +kernel
theorem d_Pos_openAll_23 : decode prog_4_method_2_code 23 = .ok (.aload_n 0, 1) := by decide +kernel
theorem d_Pos_openAll_24 : decode prog_4_method_2_code 24 = .ok (.lconst 0, 1) := by decide +kernel
theorem d_Pos_openAll_25 : decode prog_4_method_2_code 25 = .ok (.putfield 20, 3) := by decide +kernel
theorem d_Pos_openAll_28 : decode prog_4_method_2_code 28 = .ok (.aload_n 0, 1) := by decide +kernel
theorem d_Pos_openAll_29 : decode prog_4_method_2_code 29 = .ok (.ldc2_w 18, 3) := by decide +kernel
theorem d_Pos_openAll_32 : decode prog_4_method_2_code 32 = .ok (.putfield 24, 3) := by decide +kernel
theorem d_Pos_openAll_35 : decode prog_4_method_2_code 35 = .ok (.aload_n 0, 1) := by decide +kernel
theorem d_Pos_openAll_36 : decode prog_4_method_2_code 36 = .ok (.iconst 0, 1) := by decide +kernel
theorem d_Pos_openAll_37 : decode prog_4_method_2_code 37 = .ok (.putfield 27, 3) := by decide +kernel
theorem d_Pos_openAll_40 : decode prog_4_method_2_code 40 = .ok (.return_, 1) := by decide +kernel
def b_Pos_openAll_2 (F : Nat) (k2 : Nat → Int32 → PH → Option PH) (a0 : Nat) (i1 : Int32) (h : PH) : Option PH :=
  (if (6 : Int32) < i1 then bnd (pV h a0 1 1 (.long (0 : Int64))) fun h1 => bnd (pV h1 a0 1 2 (.long (68719476735 : Int64))) fun h2 => bnd (pV h2 a0 1 3 (.int (0 : Int32))) fun h3 => some h3 else bnd (gR h a0 1 0) fun x4 => bnd (sL h x4 i1 (68719476735 : Int64)) fun h5 => k2 a0 (i1 + (1 : Int32)) h5)
def f_Pos_openAll_2 (F : Nat) : Nat → Nat → Int32 → PH → Option PH
  | 0 => fun _ _ _ => none
  | n + 1 => b_Pos_openAll_2 F (f_Pos_openAll_2 F n)
theorem g_Pos_openAll_2 {l : Launch} {E : ET} {d : Nat} (hd : 1 ≤ d) {F : Nat} {h9 : PH} {x : Nat} {k2 : Nat → Int32 → PH → Option PH} (hk2 : ∀ (a0 : Nat) (i1 : Int32) (hh : PH), k2 a0 i1 hh = some h9 → Go l E m_Pos_openAll (rm d 0 0) (KM E 0 0 (PoE none h9 x)) 0 0 hh x 2 [(0, .ref a0), (1, .int i1)] []) (a0 : Nat) (i1 : Int32) (h : PH) (hf : b_Pos_openAll_2 F k2 a0 i1 h = some h9) : Go l E m_Pos_openAll (rm d 0 0) (KM E 0 0 (PoE none h9 x)) 0 0 h x 2 [(0, .ref a0), (1, .int i1)] [] := by
  unfold b_Pos_openAll_2 at hf
  refine go_iload_n 1 d_Pos_openAll_2 rfl ?_
  refine go_bipush (6 : Int32) d_Pos_openAll_3 (by decide) ?_
  refine go_icmp_gt 23 d_Pos_openAll_5 (by decide) (fun q6 => ?_) (fun q6 => ?_)
  · rw [if_pos q6] at hf
    refine go_aload_n 0 d_Pos_openAll_23 rfl ?_
    refine go_lconst (0 : Int64) d_Pos_openAll_24 (by decide) ?_
    obtain ⟨h1, e_h1, hf⟩ := bnd_x hf
    refine go_putL d_Pos_openAll_25 e_h1 fl_Pos_20 rfl rfl ?_
    refine go_aload_n 0 d_Pos_openAll_28 rfl ?_
    refine go_ldc2 (68719476735 : Int64) d_Pos_openAll_29 kl_Pos_18 ?_
    obtain ⟨h2, e_h2, hf⟩ := bnd_x hf
    refine go_putL d_Pos_openAll_32 e_h2 fl_Pos_24 rfl rfl ?_
    refine go_aload_n 0 d_Pos_openAll_35 rfl ?_
    refine go_iconst (0 : Int32) d_Pos_openAll_36 (by decide) ?_
    obtain ⟨h3, e_h3, hf⟩ := bnd_x hf
    refine go_putI d_Pos_openAll_37 e_h3 fl_Pos_27 rfl rfl ?_
    have e9 := Option.some.inj hf
    subst e9
    exact go_vret d_Pos_openAll_40 rfl ⟨rfl, rfl, rfl⟩
  · rw [if_neg q6] at hf
    refine go_aload_n 0 d_Pos_openAll_8 rfl ?_
    obtain ⟨x4, e_x4, hf⟩ := bnd_x hf
    refine go_get d_Pos_openAll_9 (gR_x e_x4) fl_Pos_9 ?_
    refine go_iload_n 1 d_Pos_openAll_12 rfl ?_
    refine go_ldc2 (68719476735 : Int64) d_Pos_openAll_13 kl_Pos_18 ?_
    obtain ⟨h5, e_h5, hf⟩ := bnd_x hf
    refine go_lastore d_Pos_openAll_16 e_h5 ?_
    refine go_iinc (lv' := [(1, .int (i1 + (1 : Int32))), (0, .ref a0)]) 1 (i1 + (1 : Int32)) d_Pos_openAll_17 rfl rfl rfl (by decide) ?_
    refine go_goto 2 d_Pos_openAll_20 (by decide) ?_
    refine go_sub (lv' := [(0, .ref a0), (1, .int (i1 + (1 : Int32)))]) [1, 0] rfl ?_
    exact hk2 a0 (i1 + (1 : Int32)) h5 hf
theorem t_Pos_openAll_2 {l : Launch} {E : ET} {d : Nat} (hd : 1 ≤ d) {F : Nat} {h9 : PH} {x : Nat}  : ∀ (n : Nat) (a0 : Nat) (i1 : Int32) (hh : PH), f_Pos_openAll_2 F n a0 i1 hh = some h9 → Go l E m_Pos_openAll (rm d 0 0) (KM E 0 0 (PoE none h9 x)) 0 0 hh x 2 [(0, .ref a0), (1, .int i1)] [] := by
  intro n
  induction n with
  | zero => intro v0 v1 v2 hf; cases hf
  | succ n ih => intro v0 v1 v2 hf; exact g_Pos_openAll_2 hd ih v0 v1 v2 hf
def f_Pos_openAll (F : Nat) (a0 : Nat) (h : PH) : Option PH :=
  f_Pos_openAll_2 F F a0 (1 : Int32) h
theorem g_Pos_openAll_0 {l : Launch} {E : ET} {d : Nat} (hd : 1 ≤ d) {F : Nat} {h9 : PH} {x : Nat}  (a0 : Nat) (h : PH) (hf : f_Pos_openAll F a0 h = some h9) : Go l E m_Pos_openAll (rm d 0 0) (KM E 0 0 (PoE none h9 x)) 0 0 h x 0 [(0, .ref a0)] [] := by
  unfold f_Pos_openAll at hf
  refine go_iconst (1 : Int32) d_Pos_openAll_0 (by decide) ?_
  refine go_istore_n (lv' := [(1, .int (1 : Int32)), (0, .ref a0)]) d_Pos_openAll_1 rfl (by decide) ?_
  refine go_sub (lv' := [(0, .ref a0), (1, .int (1 : Int32))]) [1, 0] rfl ?_
  exact t_Pos_openAll_2 hd  _ a0 (1 : Int32) h hf
theorem c_Pos_openAll {l : Launch} {E : ET} {d : Nat} (hd : 1 ≤ d) {F : Nat} {h9 : PH} {x : Nat} {a0 : Nat} {h : PH} (hf : f_Pos_openAll F a0 h = some h9) : Fn l E m_Pos_openAll d 0 0 [.ref a0] h x (PoE none h9 x) :=
  Fn.of (by decide +kernel) (Nat.le_of_ble_eq_true rfl) (g_Pos_openAll_0 hd a0 h hf)
theorem d_Pos_removeDigits_0 : decode prog_4_method_6_code 0 = .ok (.iconst 0, 1) := by decide +kernel
theorem d_Pos_removeDigits_1 : decode prog_4_method_6_code 1 = .ok (.istore 4, 2) := by decide +kernel
theorem d_Pos_removeDigits_3 : decode prog_4_method_6_code 3 = .ok (.iconst 1, 1) := by decide +kernel
theorem d_Pos_removeDigits_4 : decode prog_4_method_6_code 4 = .ok (.istore 5, 2) := by decide +kernel
theorem d_Pos_removeDigits_6 : decode prog_4_method_6_code 6 = .ok (.iload 5, 2) := by decide +kernel
theorem d_Pos_removeDigits_8 : decode prog_4_method_6_code 8 = .ok (.bipush 6, 2) := by decide +kernel
theorem d_Pos_removeDigits_10 : decode prog_4_method_6_code 10 = .ok (.if_icmp .gt 70, 3) := by decide +kernel
theorem d_Pos_removeDigits_13 : decode prog_4_method_6_code 13 = .ok (.iload_n 1, 1) := by decide +kernel
theorem d_Pos_removeDigits_14 : decode prog_4_method_6_code 14 = .ok (.iload 5, 2) := by decide +kernel
theorem d_Pos_removeDigits_16 : decode prog_4_method_6_code 16 = .ok (.ishr, 1) := by decide +kernel
theorem d_Pos_removeDigits_17 : decode prog_4_method_6_code 17 = .ok (.iconst 1, 1) := by decide +kernel
theorem d_Pos_removeDigits_18 : decode prog_4_method_6_code 18 = .ok (.iand, 1) := by decide +kernel
theorem d_Pos_removeDigits_19 : decode prog_4_method_6_code 19 = .ok (.ifCond .eq 15, 3) := by decide +kernel
theorem d_Pos_removeDigits_22 : decode prog_4_method_6_code 22 = .ok (.aload_n 0, 1) := by decide +kernel
theorem d_Pos_removeDigits_23 : decode prog_4_method_6_code 23 = .ok (.getfield 9, 3) := by decide +kernel
theorem d_Pos_removeDigits_26 : decode prog_4_method_6_code 26 = .ok (.iload 5, 2) := by decide +kernel
theorem d_Pos_removeDigits_28 : decode prog_4_method_6_code 28 = .ok (.laload, 1) := by decide +kernel
theorem d_Pos_removeDigits_29 : decode prog_4_method_6_code 29 = .ok (.lload_n 2, 1) := by decide +kernel
theorem d_Pos_removeDigits_30 : decode prog_4_method_6_code 30 = .ok (.land, 1) := by decide +kernel
theorem d_Pos_removeDigits_31 : decode prog_4_method_6_code 31 = .ok (.goto 4, 3) := by decide +kernel
theorem d_Pos_removeDigits_34 : decode prog_4_method_6_code 34 = .ok (.lconst 0, 1) := by decide +kernel
theorem d_Pos_removeDigits_35 : decode prog_4_method_6_code 35 = .ok (.lstore 6, 2) := by decide +kernel
theorem d_Pos_removeDigits_37 : decode prog_4_method_6_code 37 = .ok (.aload_n 0, 1) := by decide +kernel
theorem d_Pos_removeDigits_38 : decode prog_4_method_6_code 38 = .ok (.getfield 9, 3) := by decide +kernel
theorem d_Pos_removeDigits_41 : decode prog_4_method_6_code 41 = .ok (.iload 5, 2) := by decide +kernel
theorem d_Pos_removeDigits_43 : decode prog_4_method_6_code 43 = .ok (.dup2, 1) := by decide +kernel
theorem d_Pos_removeDigits_44 : decode prog_4_method_6_code 44 = .ok (.laload, 1) := by decide +kernel
theorem d_Pos_removeDigits_45 : decode prog_4_method_6_code 45 = .ok (.lload 6, 2) := by decide +kernel
theorem d_Pos_removeDigits_47 : decode prog_4_method_6_code 47 = .ok (.ldc2_w 41, 3) := by decide +kernel
theorem d_Pos_removeDigits_50 : decode prog_4_method_6_code 50 = .ok (.lxor, 1) := by decide +kernel
theorem d_Pos_removeDigits_51 : decode prog_4_method_6_code 51 = .ok (.land, 1) := by decide +kernel
theorem d_Pos_removeDigits_52 : decode prog_4_method_6_code 52 = .ok (.lastore, 1) := by decide +kernel
theorem d_Pos_removeDigits_53 : decode prog_4_method_6_code 53 = .ok (.aload_n 0, 1) := by decide +kernel
theorem d_Pos_removeDigits_54 : decode prog_4_method_6_code 54 = .ok (.dup, 1) := by decide +kernel
theorem d_Pos_removeDigits_55 : decode prog_4_method_6_code 55 = .ok (.getfield 24, 3) := by decide +kernel
theorem d_Pos_removeDigits_58 : decode prog_4_method_6_code 58 = .ok (.lload 6, 2) := by decide +kernel
theorem d_Pos_removeDigits_60 : decode prog_4_method_6_code 60 = .ok (.lor, 1) := by decide +kernel
theorem d_Pos_removeDigits_61 : decode prog_4_method_6_code 61 = .ok (.putfield 24, 3) := by decide +kernel
theorem d_Pos_removeDigits_64 : decode prog_4_method_6_code 64 = .ok (.iload 4, 2) := by decide +kernel
theorem d_Pos_removeDigits_66 : decode prog_4_method_6_code 66 = .ok (.lload 6, 2) := by decide +kernel
theorem d_Pos_removeDigits_68 : decode prog_4_method_6_code 68 = .ok (.invokestatic 43, 3) := by decide +kernel
theorem d_Pos_removeDigits_71 : decode prog_4_method_6_code 71 = .ok (.iadd, 1) := by decide +kernel
theorem d_Pos_removeDigits_72 : decode prog_4_method_6_code 72 = .ok (.istore 4, 2) := by decide +kernel
theorem d_Pos_removeDigits_74 : decode prog_4_method_6_code 74 = .ok (.iinc 5 1, 3) := by decide +kernel
theorem d_Pos_removeDigits_77 : decode prog_4_method_6_code 77 = .ok (.goto (-71), 3) := by decide +kernel
theorem d_Pos_removeDigits_80 : decode prog_4_method_6_code 80 = .ok (.iload 4, 2) := by decide +kernel
theorem d_Pos_removeDigits_82 : decode prog_4_method_6_code 82 = .ok (.ireturn, 1) := by decide +kernel
def b_Pos_removeDigits_35 (F : Nat) (k6 : Nat → Int32 → Int64 → Int32 → Int32 → PH → Option (Int32 × PH)) (a0 : Nat) (i1 : Int32) (i2 : Int64) (i4 : Int32) (i5 : Int32) (s0 : Int64) (h : PH) : Option (Int32 × PH) :=
  bnd (gR h a0 1 0) fun x1 => bnd (aL h x1 i5) fun x2 => bnd (sL h x1 i5 (x2 &&& (s0 ^^^ (-1 : Int64)))) fun h3 => bnd (gL h3 a0 1 2) fun x4 => bnd (pV h3 a0 1 2 (.long (x4 ||| s0))) fun h5 => bnd (f_Lng_bitCount s0) fun x6 => k6 a0 i1 i2 (i4 + x6) (i5 + (1 : Int32)) h5
theorem g_Pos_removeDigits_35 {l : Launch} {E : ET} {d : Nat} (hd : 2 ≤ d) {F : Nat} {r : Int32} {h9 : PH} {x : Nat} {k6 : Nat → Int32 → Int64 → Int32 → Int32 → PH → Option (Int32 × PH)} (hk6 : ∀ (a0 : Nat) (i1 : Int32) (i2 : Int64) (i4 : Int32) (i5 : Int32) (hh : PH), k6 a0 i1 i2 i4 i5 hh = some (r, h9) → Go l E m_Pos_removeDigits (rm d 0 0) (KM E 0 0 (PoE (some (.int r)) h9 x)) 0 0 hh x 6 [(0, .ref a0), (1, .int i1), (2, .long i2), (4, .int i4), (5, .int i5)] []) (a0 : Nat) (i1 : Int32) (i2 : Int64) (i4 : Int32) (i5 : Int32) (s0 : Int64) (h : PH) (hf : b_Pos_removeDigits_35 F k6 a0 i1 i2 i4 i5 s0 h = some (r, h9)) : Go l E m_Pos_removeDigits (rm d 0 0) (KM E 0 0 (PoE (some (.int r)) h9 x)) 0 0 h x 35 [(0, .ref a0), (1, .int i1), (2, .long i2), (4, .int i4), (5, .int i5)] [.long s0] := by
  unfold b_Pos_removeDigits_35 at hf
  refine go_lstore (lv' := [(6, .long s0), (0, .ref a0), (1, .int i1), (2, .long i2), (4, .int i4), (5, .int i5)]) d_Pos_removeDigits_35 rfl (by decide) ?_
  refine go_aload_n 1 d_Pos_removeDigits_37 rfl ?_
  obtain ⟨x1, e_x1, hf⟩ := bnd_x hf
  refine go_get d_Pos_removeDigits_38 (gR_x e_x1) fl_Pos_9 ?_
  refine go_iload 5 d_Pos_removeDigits_41 rfl ?_
  refine go_dup2 d_Pos_removeDigits_43 rfl rfl ?_
  obtain ⟨x2, e_x2, hf⟩ := bnd_x hf
  refine go_laload d_Pos_removeDigits_44 e_x2 ?_
  refine go_lload 0 d_Pos_removeDigits_45 rfl ?_
  refine go_ldc2 (-1 : Int64) d_Pos_removeDigits_47 kl_Pos_41 ?_
  refine go_lxor d_Pos_removeDigits_50 ?_
  refine go_land d_Pos_removeDigits_51 ?_
  obtain ⟨h3, e_h3, hf⟩ := bnd_x hf
  refine go_lastore d_Pos_removeDigits_52 e_h3 ?_
  refine go_aload_n 1 d_Pos_removeDigits_53 rfl ?_
  refine go_dup d_Pos_removeDigits_54 rfl ?_
  obtain ⟨x4, e_x4, hf⟩ := bnd_x hf
  refine go_get d_Pos_removeDigits_55 (gL_x e_x4) fl_Pos_24 ?_
  refine go_lload 0 d_Pos_removeDigits_58 rfl ?_
  refine go_lor d_Pos_removeDigits_60 ?_
  obtain ⟨h5, e_h5, hf⟩ := bnd_x hf
  refine go_putL d_Pos_removeDigits_61 e_h5 fl_Pos_24 rfl rfl ?_
  refine go_iload 4 d_Pos_removeDigits_64 rfl ?_
  refine go_lload 0 d_Pos_removeDigits_66 rfl ?_
  obtain ⟨x6, e_x6, hf⟩ := bnd_x hf
  refine go_callS_I (As := [.long s0]) (st := [.int i4]) (c_Lng_bitCount (d := d - 1) (by omega) e_x6) lk_Pos_43 rfl rfl (rm_ok (by omega)) (Nat.le_of_ble_eq_true rfl) rm_c d_Pos_removeDigits_68 ?_
  refine go_iadd d_Pos_removeDigits_71 ?_
  refine go_istore (lv' := [(4, .int (i4 + x6)), (6, .long s0), (0, .ref a0), (1, .int i1), (2, .long i2), (5, .int i5)]) d_Pos_removeDigits_72 rfl (by decide) ?_
  refine go_iinc (lv' := [(5, .int (i5 + (1 : Int32))), (4, .int (i4 + x6)), (6, .long s0), (0, .ref a0), (1, .int i1), (2, .long i2)]) 5 (i5 + (1 : Int32)) d_Pos_removeDigits_74 rfl rfl rfl (by decide) ?_
  refine go_goto 6 d_Pos_removeDigits_77 (by decide) ?_
  refine go_sub (lv' := [(0, .ref a0), (1, .int i1), (2, .long i2), (4, .int (i4 + x6)), (5, .int (i5 + (1 : Int32)))]) [3, 4, 5, 1, 0] rfl ?_
  exact hk6 a0 i1 i2 (i4 + x6) (i5 + (1 : Int32)) h5 hf
def b_Pos_removeDigits_6 (F : Nat) (k6 : Nat → Int32 → Int64 → Int32 → Int32 → PH → Option (Int32 × PH)) (a0 : Nat) (i1 : Int32) (i2 : Int64) (i4 : Int32) (i5 : Int32) (h : PH) : Option (Int32 × PH) :=
  (if (6 : Int32) < i5 then some (i4, h) else (if ((i1 >>> (i5 &&& 31)) &&& (1 : Int32)) = (0 : Int32) then b_Pos_removeDigits_35 F k6 a0 i1 i2 i4 i5 (0 : Int64) h else bnd (gR h a0 1 0) fun x1 => bnd (aL h x1 i5) fun x2 => b_Pos_removeDigits_35 F k6 a0 i1 i2 i4 i5 (x2 &&& i2) h))
def f_Pos_removeDigits_6 (F : Nat) : Nat → Nat → Int32 → Int64 → Int32 → Int32 → PH → Option (Int32 × PH)
  | 0 => fun _ _ _ _ _ _ => none
  | n + 1 => b_Pos_removeDigits_6 F (f_Pos_removeDigits_6 F n)
theorem g_Pos_removeDigits_6 {l : Launch} {E : ET} {d : Nat} (hd : 2 ≤ d) {F : Nat} {r : Int32} {h9 : PH} {x : Nat} {k6 : Nat → Int32 → Int64 → Int32 → Int32 → PH → Option (Int32 × PH)} (hk6 : ∀ (a0 : Nat) (i1 : Int32) (i2 : Int64) (i4 : Int32) (i5 : Int32) (hh : PH), k6 a0 i1 i2 i4 i5 hh = some (r, h9) → Go l E m_Pos_removeDigits (rm d 0 0) (KM E 0 0 (PoE (some (.int r)) h9 x)) 0 0 hh x 6 [(0, .ref a0), (1, .int i1), (2, .long i2), (4, .int i4), (5, .int i5)] []) (a0 : Nat) (i1 : Int32) (i2 : Int64) (i4 : Int32) (i5 : Int32) (h : PH) (hf : b_Pos_removeDigits_6 F k6 a0 i1 i2 i4 i5 h = some (r, h9)) : Go l E m_Pos_removeDigits (rm d 0 0) (KM E 0 0 (PoE (some (.int r)) h9 x)) 0 0 h x 6 [(0, .ref a0), (1, .int i1), (2, .long i2), (4, .int i4), (5, .int i5)] [] := by
  unfold b_Pos_removeDigits_6 at hf
  refine go_iload 4 d_Pos_removeDigits_6 rfl ?_
  refine go_bipush (6 : Int32) d_Pos_removeDigits_8 (by decide) ?_
  refine go_icmp_gt 80 d_Pos_removeDigits_10 (by decide) (fun q4 => ?_) (fun q4 => ?_)
  · rw [if_pos q4] at hf
    refine go_iload 3 d_Pos_removeDigits_80 rfl ?_
    obtain ⟨e8, e9⟩ := Prod.mk.inj (Option.some.inj hf)
    subst e8; subst e9
    exact go_iret d_Pos_removeDigits_82 rfl ⟨rfl, rfl, rfl⟩
  · rw [if_neg q4] at hf
    refine go_iload_n 1 d_Pos_removeDigits_13 rfl ?_
    refine go_iload 4 d_Pos_removeDigits_14 rfl ?_
    refine go_ishr d_Pos_removeDigits_16 ?_
    refine go_iconst (1 : Int32) d_Pos_removeDigits_17 (by decide) ?_
    refine go_iand d_Pos_removeDigits_18 ?_
    refine go_if_eq 34 d_Pos_removeDigits_19 (by decide) (fun q3 => ?_) (fun q3 => ?_)
    · rw [if_pos q3] at hf
      refine go_lconst (0 : Int64) d_Pos_removeDigits_34 (by decide) ?_
      refine go_sub (lv' := [(0, .ref a0), (1, .int i1), (2, .long i2), (4, .int i4), (5, .int i5)]) [0, 1, 2, 3, 4] rfl ?_
      exact g_Pos_removeDigits_35 hd hk6 a0 i1 i2 i4 i5 (0 : Int64) h hf
    · rw [if_neg q3] at hf
      refine go_aload_n 0 d_Pos_removeDigits_22 rfl ?_
      obtain ⟨x1, e_x1, hf⟩ := bnd_x hf
      refine go_get d_Pos_removeDigits_23 (gR_x e_x1) fl_Pos_9 ?_
      refine go_iload 4 d_Pos_removeDigits_26 rfl ?_
      obtain ⟨x2, e_x2, hf⟩ := bnd_x hf
      refine go_laload d_Pos_removeDigits_28 e_x2 ?_
      refine go_lload_n 2 d_Pos_removeDigits_29 rfl ?_
      refine go_land d_Pos_removeDigits_30 ?_
      refine go_goto 35 d_Pos_removeDigits_31 (by decide) ?_
      refine go_sub (lv' := [(0, .ref a0), (1, .int i1), (2, .long i2), (4, .int i4), (5, .int i5)]) [0, 1, 2, 3, 4] rfl ?_
      exact g_Pos_removeDigits_35 hd hk6 a0 i1 i2 i4 i5 (x2 &&& i2) h hf
theorem t_Pos_removeDigits_6 {l : Launch} {E : ET} {d : Nat} (hd : 2 ≤ d) {F : Nat} {r : Int32} {h9 : PH} {x : Nat}  : ∀ (n : Nat) (a0 : Nat) (i1 : Int32) (i2 : Int64) (i4 : Int32) (i5 : Int32) (hh : PH), f_Pos_removeDigits_6 F n a0 i1 i2 i4 i5 hh = some (r, h9) → Go l E m_Pos_removeDigits (rm d 0 0) (KM E 0 0 (PoE (some (.int r)) h9 x)) 0 0 hh x 6 [(0, .ref a0), (1, .int i1), (2, .long i2), (4, .int i4), (5, .int i5)] [] := by
  intro n
  induction n with
  | zero => intro v0 v1 v2 v3 v4 v5 hf; cases hf
  | succ n ih => intro v0 v1 v2 v3 v4 v5 hf; exact g_Pos_removeDigits_6 hd ih v0 v1 v2 v3 v4 v5 hf
def f_Pos_removeDigits (F : Nat) (a0 : Nat) (i1 : Int32) (i2 : Int64) (h : PH) : Option (Int32 × PH) :=
  f_Pos_removeDigits_6 F F a0 i1 i2 (0 : Int32) (1 : Int32) h
theorem g_Pos_removeDigits_0 {l : Launch} {E : ET} {d : Nat} (hd : 2 ≤ d) {F : Nat} {r : Int32} {h9 : PH} {x : Nat}  (a0 : Nat) (i1 : Int32) (i2 : Int64) (h : PH) (hf : f_Pos_removeDigits F a0 i1 i2 h = some (r, h9)) : Go l E m_Pos_removeDigits (rm d 0 0) (KM E 0 0 (PoE (some (.int r)) h9 x)) 0 0 h x 0 [(0, .ref a0), (1, .int i1), (2, .long i2)] [] := by
  unfold f_Pos_removeDigits at hf
  refine go_iconst (0 : Int32) d_Pos_removeDigits_0 (by decide) ?_
  refine go_istore (lv' := [(4, .int (0 : Int32)), (0, .ref a0), (1, .int i1), (2, .long i2)]) d_Pos_removeDigits_1 rfl (by decide) ?_
  refine go_iconst (1 : Int32) d_Pos_removeDigits_3 (by decide) ?_
  refine go_istore (lv' := [(5, .int (1 : Int32)), (4, .int (0 : Int32)), (0, .ref a0), (1, .int i1), (2, .long i2)]) d_Pos_removeDigits_4 rfl (by decide) ?_
  refine go_sub (lv' := [(0, .ref a0), (1, .int i1), (2, .long i2), (4, .int (0 : Int32)), (5, .int (1 : Int32))]) [2, 3, 4, 1, 0] rfl ?_
  exact t_Pos_removeDigits_6 hd  _ a0 i1 i2 (0 : Int32) (1 : Int32) h hf
theorem c_Pos_removeDigits {l : Launch} {E : ET} {d : Nat} (hd : 2 ≤ d) {F : Nat} {r : Int32} {h9 : PH} {x : Nat} {a0 : Nat} {i1 : Int32} {i2 : Int64} {h : PH} (hf : f_Pos_removeDigits F a0 i1 i2 h = some (r, h9)) : Fn l E m_Pos_removeDigits d 0 0 [.ref a0, .int i1, .long i2] h x (PoE (some (.int r)) h9 x) :=
  Fn.of (by decide +kernel) (Nat.le_of_ble_eq_true rfl) (g_Pos_removeDigits_0 hd a0 i1 i2 h hf)
theorem d_Pos_keepOnly_0 : decode prog_4_method_7_code 0 = .ok (.aload_n 0, 1) := by decide +kernel
theorem d_Pos_keepOnly_1 : decode prog_4_method_7_code 1 = .ok (.bipush 126, 2) := by decide +kernel
theorem d_Pos_keepOnly_3 : decode prog_4_method_7_code 3 = .ok (.iconst 1, 1) := by decide +kernel
theorem d_Pos_keepOnly_4 : decode prog_4_method_7_code 4 = .ok (.iload_n 2, 1) := by decide +kernel
theorem d_Pos_keepOnly_5 : decode prog_4_method_7_code 5 = .ok (.ishl, 1) := by decide +kernel
theorem d_Pos_keepOnly_6 : decode prog_4_method_7_code 6 = .ok (.iconst (-1), 1) := by decide +kernel
theorem d_Pos_keepOnly_7 : decode prog_4_method_7_code 7 = .ok (.ixor, 1) := by decide +kernel
theorem d_Pos_keepOnly_8 : decode prog_4_method_7_code 8 = .ok (.iand, 1) := by decide +kernel
theorem d_Pos_keepOnly_9 : decode prog_4_method_7_code 9 = .ok (.lconst 1, 1) := by decide +kernel
theorem d_Pos_keepOnly_10 : decode prog_4_method_7_code 10 = .ok (.iload_n 1, 1) := by decide +kernel
theorem d_Pos_keepOnly_11 : decode prog_4_method_7_code 11 = .ok (.lshl, 1) := by decide +kernel
theorem d_Pos_keepOnly_12 : decode prog_4_method_7_code 12 = .ok (.invokevirtual 49, 3) := by decide +kernel
theorem d_Pos_keepOnly_15 : decode prog_4_method_7_code 15 = .ok (.ireturn, 1) := by decide +kernel
def f_Pos_keepOnly (F : Nat) (a0 : Nat) (i1 : Int32) (i2 : Int32) (h : PH) : Option (Int32 × PH) :=
  bnd (cK h a0 1) fun _ => bnd2 (f_Pos_removeDigits F a0 ((126 : Int32) &&& (((1 : Int32) <<< (i2 &&& 31)) ^^^ (-1 : Int32))) ((1 : Int64) <<< ((i1).toInt64 &&& 63)) h) fun x2 h3 => some (x2, h3)
theorem g_Pos_keepOnly_0 {l : Launch} {E : ET} {d : Nat} (hd : 3 ≤ d) {F : Nat} {r : Int32} {h9 : PH} {x : Nat}  (a0 : Nat) (i1 : Int32) (i2 : Int32) (h : PH) (hf : f_Pos_keepOnly F a0 i1 i2 h = some (r, h9)) : Go l E m_Pos_keepOnly (rm d 0 0) (KM E 0 0 (PoE (some (.int r)) h9 x)) 0 0 h x 0 [(0, .ref a0), (1, .int i1), (2, .int i2)] [] := by
  unfold f_Pos_keepOnly at hf
  refine go_aload_n 0 d_Pos_keepOnly_0 rfl ?_
  refine go_bipush (126 : Int32) d_Pos_keepOnly_1 (by decide) ?_
  refine go_iconst (1 : Int32) d_Pos_keepOnly_3 (by decide) ?_
  refine go_iload_n 2 d_Pos_keepOnly_4 rfl ?_
  refine go_ishl d_Pos_keepOnly_5 ?_
  refine go_iconst (-1 : Int32) d_Pos_keepOnly_6 (by decide) ?_
  refine go_ixor d_Pos_keepOnly_7 ?_
  refine go_iand d_Pos_keepOnly_8 ?_
  refine go_lconst (1 : Int64) d_Pos_keepOnly_9 (by decide) ?_
  refine go_iload_n 1 d_Pos_keepOnly_10 rfl ?_
  refine go_lshl d_Pos_keepOnly_11 ?_
  obtain ⟨_, e1, hf⟩ := bnd_x hf
  obtain ⟨x2, h3, e_x2, hf⟩ := bnd2_x hf
  refine go_callV_I (As := [.int ((126 : Int32) &&& (((1 : Int32) <<< (i2 &&& 31)) ^^^ (-1 : Int32))), .long ((1 : Int64) <<< ((i1).toInt64 &&& 63))]) (st := []) (c_Pos_removeDigits (d := d - 1) (by omega) e_x2) lk_Pos_49 rfl rfl e1 (by decide) rfl (rm_ok (by omega)) (Nat.le_of_ble_eq_true rfl) rm_c d_Pos_keepOnly_12 ?_
  obtain ⟨e8, e9⟩ := Prod.mk.inj (Option.some.inj hf)
  subst e8; subst e9
  exact go_iret d_Pos_keepOnly_15 rfl ⟨rfl, rfl, rfl⟩
theorem c_Pos_keepOnly {l : Launch} {E : ET} {d : Nat} (hd : 3 ≤ d) {F : Nat} {r : Int32} {h9 : PH} {x : Nat} {a0 : Nat} {i1 : Int32} {i2 : Int32} {h : PH} (hf : f_Pos_keepOnly F a0 i1 i2 h = some (r, h9)) : Fn l E m_Pos_keepOnly d 0 0 [.ref a0, .int i1, .int i2] h x (PoE (some (.int r)) h9 x) :=
  Fn.of (by decide +kernel) (Nat.le_of_ble_eq_true rfl) (g_Pos_keepOnly_0 hd a0 i1 i2 h hf)
theorem d_Pos_beginWith_0 : decode prog_4_method_3_code 0 = .ok (.aload_n 0, 1) := by decide +kernel
theorem d_Pos_beginWith_1 : decode prog_4_method_3_code 1 = .ok (.invokevirtual 15, 3) := by decide +kernel
theorem d_Pos_beginWith_4 : decode prog_4_method_3_code 4 = .ok (.iconst 0, 1) := by decide +kernel
theorem d_Pos_beginWith_5 : decode prog_4_method_3_code 5 = .ok (.istore_n 2, 1) := by decide +kernel
theorem d_Pos_beginWith_6 : decode prog_4_method_3_code 6 = .ok (.iload_n 2, 1) := by decide +kernel
theorem d_Pos_beginWith_7 : decode prog_4_method_3_code 7 = .ok (.bipush 36, 2) := by decide +kernel
theorem d_Pos_beginWith_9 : decode prog_4_method_3_code 9 = .ok (.if_icmp .ge 24, 3) := by decide +kernel
theorem d_Pos_beginWith_12 : decode prog_4_method_3_code 12 = .ok (.aload_n 1, 1) := by decide +kernel
theorem d_Pos_beginWith_13 : decode prog_4_method_3_code 13 = .ok (.iload_n 2, 1) := by decide +kernel
theorem d_Pos_beginWith_14 : decode prog_4_method_3_code 14 = .ok (.iaload, 1) := by decide +kernel
theorem d_Pos_beginWith_15 : decode prog_4_method_3_code 15 = .ok (.ifCond .eq 12, 3) := by decide +kernel
theorem d_Pos_beginWith_18 : decode prog_4_method_3_code 18 = .ok (.aload_n 0, 1) := by decide +kernel
theorem d_Pos_beginWith_19 : decode prog_4_method_3_code 19 = .ok (.iload_n 2, 1) := by decide +kernel
theorem d_Pos_beginWith_20 : decode prog_4_method_3_code 20 = .ok (.aload_n 1, 1) := by decide +kernel
theorem d_Pos_beginWith_21 : decode prog_4_method_3_code 21 = .ok (.iload_n 2, 1) := by decide +kernel
theorem d_Pos_beginWith_22 : decode prog_4_method_3_code 22 = .ok (.iaload, 1) := by decide +kernel
theorem d_Pos_beginWith_23 : decode prog_4_method_3_code 23 = .ok (.invokevirtual 31, 3) := by decide +kernel
theorem d_Pos_beginWith_26 : decode prog_4_method_3_code 26 = .ok (.pop, 1) := by decide +kernel
theorem d_Pos_beginWith_27 : decode prog_4_method_3_code 27 = .ok (.iinc 2 1, 3) := by decide +kernel
theorem d_Pos_beginWith_30 : decode prog_4_method_3_code 30 = .ok (.goto (-24), 3) := by decide +kernel
theorem d_Pos_beginWith_33 : decode prog_4_method_3_code 33 = .ok (.return_, 1) := by decide +kernel
def b_Pos_beginWith_27 (F : Nat) (k6 : Nat → Nat → Int32 → PH → Option PH) (a0 : Nat) (a1 : Nat) (i2 : Int32) (h : PH) : Option PH :=
  k6 a0 a1 (i2 + (1 : Int32)) h
theorem g_Pos_beginWith_27 {l : Launch} {E : ET} {d : Nat} (hd : 4 ≤ d) {F : Nat} {h9 : PH} {x : Nat} {k6 : Nat → Nat → Int32 → PH → Option PH} (hk6 : ∀ (a0 : Nat) (a1 : Nat) (i2 : Int32) (hh : PH), k6 a0 a1 i2 hh = some h9 → Go l E m_Pos_beginWith (rm d 0 0) (KM E 0 0 (PoE none h9 x)) 0 0 hh x 6 [(0, .ref a0), (1, .ref a1), (2, .int i2)] []) (a0 : Nat) (a1 : Nat) (i2 : Int32) (h : PH) (hf : b_Pos_beginWith_27 F k6 a0 a1 i2 h = some h9) : Go l E m_Pos_beginWith (rm d 0 0) (KM E 0 0 (PoE none h9 x)) 0 0 h x 27 [(0, .ref a0), (1, .ref a1), (2, .int i2)] [] := by
  unfold b_Pos_beginWith_27 at hf
  refine go_iinc (lv' := [(2, .int (i2 + (1 : Int32))), (0, .ref a0), (1, .ref a1)]) 2 (i2 + (1 : Int32)) d_Pos_beginWith_27 rfl rfl rfl (by decide) ?_
  refine go_goto 6 d_Pos_beginWith_30 (by decide) ?_
  refine go_sub (lv' := [(0, .ref a0), (1, .ref a1), (2, .int (i2 + (1 : Int32)))]) [1, 2, 0] rfl ?_
  exact hk6 a0 a1 (i2 + (1 : Int32)) h hf
def b_Pos_beginWith_6 (F : Nat) (k6 : Nat → Nat → Int32 → PH → Option PH) (a0 : Nat) (a1 : Nat) (i2 : Int32) (h : PH) : Option PH :=
  (if (36 : Int32) ≤ i2 then some h else bnd (aI h a1 i2) fun x1 => (if x1 = (0 : Int32) then b_Pos_beginWith_27 F k6 a0 a1 i2 h else bnd (aI h a1 i2) fun x2 => bnd (cK h a0 1) fun _ => bnd2 (f_Pos_keepOnly F a0 i2 x2 h) fun x4 h5 => b_Pos_beginWith_27 F k6 a0 a1 i2 h5))
def f_Pos_beginWith_6 (F : Nat) : Nat → Nat → Nat → Int32 → PH → Option PH
  | 0 => fun _ _ _ _ => none
  | n + 1 => b_Pos_beginWith_6 F (f_Pos_beginWith_6 F n)
theorem g_Pos_beginWith_6 {l : Launch} {E : ET} {d : Nat} (hd : 4 ≤ d) {F : Nat} {h9 : PH} {x : Nat} {k6 : Nat → Nat → Int32 → PH → Option PH} (hk6 : ∀ (a0 : Nat) (a1 : Nat) (i2 : Int32) (hh : PH), k6 a0 a1 i2 hh = some h9 → Go l E m_Pos_beginWith (rm d 0 0) (KM E 0 0 (PoE none h9 x)) 0 0 hh x 6 [(0, .ref a0), (1, .ref a1), (2, .int i2)] []) (a0 : Nat) (a1 : Nat) (i2 : Int32) (h : PH) (hf : b_Pos_beginWith_6 F k6 a0 a1 i2 h = some h9) : Go l E m_Pos_beginWith (rm d 0 0) (KM E 0 0 (PoE none h9 x)) 0 0 h x 6 [(0, .ref a0), (1, .ref a1), (2, .int i2)] [] := by
  unfold b_Pos_beginWith_6 at hf
  refine go_iload_n 2 d_Pos_beginWith_6 rfl ?_
  refine go_bipush (36 : Int32) d_Pos_beginWith_7 (by decide) ?_
  refine go_icmp_ge 33 d_Pos_beginWith_9 (by decide) (fun q7 => ?_) (fun q7 => ?_)
  · rw [if_pos q7] at hf
    have e9 := Option.some.inj hf
    subst e9
    exact go_vret d_Pos_beginWith_33 rfl ⟨rfl, rfl, rfl⟩
  · rw [if_neg q7] at hf
    refine go_aload_n 1 d_Pos_beginWith_12 rfl ?_
    refine go_iload_n 2 d_Pos_beginWith_13 rfl ?_
    obtain ⟨x1, e_x1, hf⟩ := bnd_x hf
    refine go_iaload d_Pos_beginWith_14 e_x1 ?_
    refine go_if_eq 27 d_Pos_beginWith_15 (by decide) (fun q6 => ?_) (fun q6 => ?_)
    · rw [if_pos q6] at hf
      refine go_sub (lv' := [(0, .ref a0), (1, .ref a1), (2, .int i2)]) [0, 1, 2] rfl ?_
      exact g_Pos_beginWith_27 hd hk6 a0 a1 i2 h hf
    · rw [if_neg q6] at hf
      refine go_aload_n 0 d_Pos_beginWith_18 rfl ?_
      refine go_iload_n 2 d_Pos_beginWith_19 rfl ?_
      refine go_aload_n 1 d_Pos_beginWith_20 rfl ?_
      refine go_iload_n 2 d_Pos_beginWith_21 rfl ?_
      obtain ⟨x2, e_x2, hf⟩ := bnd_x hf
      refine go_iaload d_Pos_beginWith_22 e_x2 ?_
      obtain ⟨_, e3, hf⟩ := bnd_x hf
      obtain ⟨x4, h5, e_x4, hf⟩ := bnd2_x hf
      refine go_callV_I (As := [.int i2, .int x2]) (st := []) (c_Pos_keepOnly (d := d - 1) (by omega) e_x4) lk_Pos_31 rfl rfl e3 (by decide) rfl (rm_ok (by omega)) (Nat.le_of_ble_eq_true rfl) rm_c d_Pos_beginWith_23 ?_
      refine go_pop d_Pos_beginWith_26 rfl ?_
      refine go_sub (lv' := [(0, .ref a0), (1, .ref a1), (2, .int i2)]) [0, 1, 2] rfl ?_
      exact g_Pos_beginWith_27 hd hk6 a0 a1 i2 h5 hf
theorem t_Pos_beginWith_6 {l : Launch} {E : ET} {d : Nat} (hd : 4 ≤ d) {F : Nat} {h9 : PH} {x : Nat}  : ∀ (n : Nat) (a0 : Nat) (a1 : Nat) (i2 : Int32) (hh : PH), f_Pos_beginWith_6 F n a0 a1 i2 hh = some h9 → Go l E m_Pos_beginWith (rm d 0 0) (KM E 0 0 (PoE none h9 x)) 0 0 hh x 6 [(0, .ref a0), (1, .ref a1), (2, .int i2)] [] := by
  intro n
  induction n with
  | zero => intro v0 v1 v2 v3 hf; cases hf
  | succ n ih => intro v0 v1 v2 v3 hf; exact g_Pos_beginWith_6 hd ih v0 v1 v2 v3 hf
def f_Pos_beginWith (F : Nat) (a0 : Nat) (a1 : Nat) (h : PH) : Option PH :=
  bnd (cK h a0 1) fun _ => bnd (f_Pos_openAll F a0 h) fun h2 => f_Pos_beginWith_6 F F a0 a1 (0 : Int32) h2
theorem g_Pos_beginWith_0 {l : Launch} {E : ET} {d : Nat} (hd : 4 ≤ d) {F : Nat} {h9 : PH} {x : Nat}  (a0 : Nat) (a1 : Nat) (h : PH) (hf : f_Pos_beginWith F a0 a1 h = some h9) : Go l E m_Pos_beginWith (rm d 0 0) (KM E 0 0 (PoE none h9 x)) 0 0 h x 0 [(0, .ref a0), (1, .ref a1)] [] := by
  unfold f_Pos_beginWith at hf
  refine go_aload_n 0 d_Pos_beginWith_0 rfl ?_
  obtain ⟨_, e1, hf⟩ := bnd_x hf
  obtain ⟨h2, e_x2, hf⟩ := bnd_x hf
  refine go_callV_N (As := []) (st := []) (c_Pos_openAll (d := d - 1) (by omega) e_x2) lk_Pos_15 rfl rfl e1 (by decide) rfl (rm_ok (by omega)) (Nat.le_of_ble_eq_true rfl) rm_c d_Pos_beginWith_1 ?_
  refine go_iconst (0 : Int32) d_Pos_beginWith_4 (by decide) ?_
  refine go_istore_n (lv' := [(2, .int (0 : Int32)), (0, .ref a0), (1, .ref a1)]) d_Pos_beginWith_5 rfl (by decide) ?_
  refine go_sub (lv' := [(0, .ref a0), (1, .ref a1), (2, .int (0 : Int32))]) [1, 2, 0] rfl ?_
  exact t_Pos_beginWith_6 hd  _ a0 a1 (0 : Int32) h2 hf
theorem c_Pos_beginWith {l : Launch} {E : ET} {d : Nat} (hd : 4 ≤ d) {F : Nat} {h9 : PH} {x : Nat} {a0 : Nat} {a1 : Nat} {h : PH} (hf : f_Pos_beginWith F a0 a1 h = some h9) : Fn l E m_Pos_beginWith d 0 0 [.ref a0, .ref a1] h x (PoE none h9 x) :=
  Fn.of (by decide +kernel) (Nat.le_of_ble_eq_true rfl) (g_Pos_beginWith_0 hd a0 a1 h hf)
theorem d_Pos_copyFrom_0 : decode prog_4_method_4_code 0 = .ok (.aload_n 1, 1) := by decide +kernel
theorem d_Pos_copyFrom_1 : decode prog_4_method_4_code 1 = .ok (.getfield 9, 3) := by decide +kernel
theorem d_Pos_copyFrom_4 : decode prog_4_method_4_code 4 = .ok (.iconst 0, 1) := by decide +kernel
theorem d_Pos_copyFrom_5 : decode prog_4_method_4_code 5 = .ok (.aload_n 0, 1) := by decide +kernel
theorem d_Pos_copyFrom_6 : decode prog_4_method_4_code 6 = .ok (.getfield 9, 3) := by decide +kernel
theorem d_Pos_copyFrom_9 : decode prog_4_method_4_code 9 = .ok (.iconst 0, 1) := by decide +kernel
theorem d_Pos_copyFrom_10 : decode prog_4_method_4_code 10 = .ok (.bipush 7, 2) := by decide +kernel
theorem d_Pos_copyFrom_12 : decode prog_4_method_4_code 12 = .ok (.invokestatic 35, 3) := by decide +kernel
theorem d_Pos_copyFrom_15 : decode prog_4_method_4_code 15 = .ok (.aload_n 0, 1) := by decide +kernel
theorem d_Pos_copyFrom_16 : decode prog_4_method_4_code 16 = .ok (.aload_n 1, 1) := by decide +kernel
theorem d_Pos_copyFrom_17 : decode prog_4_method_4_code 17 = .ok (.getfield 20, 3) := by decide +kernel
theorem d_Pos_copyFrom_20 : decode prog_4_method_4_code 20 = .ok (.putfield 20, 3) := by decide +kernel
theorem d_Pos_copyFrom_23 : decode prog_4_method_4_code 23 = .ok (.aload_n 0, 1) := by decide +kernel
theorem d_Pos_copyFrom_24 : decode prog_4_method_4_code 24 = .ok (.aload_n 1, 1) := by decide +kernel
theorem d_Pos_copyFrom_25 : decode prog_4_method_4_code 25 = .ok (.getfield 24, 3) := by decide +kernel
theorem d_Pos_copyFrom_28 : decode prog_4_method_4_code 28 = .ok (.putfield 24, 3) := by decide +kernel
theorem d_Pos_copyFrom_31 : decode prog_4_method_4_code 31 = .ok (.aload_n 0, 1) := by decide +kernel
theorem d_Pos_copyFrom_32 : decode prog_4_method_4_code 32 = .ok (.aload_n 1, 1) := by decide +kernel
theorem d_Pos_copyFrom_33 : decode prog_4_method_4_code 33 = .ok (.getfield 27, 3) := by decide +kernel
theorem d_Pos_copyFrom_36 : decode prog_4_method_4_code 36 = .ok (.putfield 27, 3) := by decide +kernel
theorem d_Pos_copyFrom_39 : decode prog_4_method_4_code 39 = .ok (.return_, 1) := by decide +kernel
def f_Pos_copyFrom (a0 : Nat) (a1 : Nat) (h : PH) : Option PH :=
  bnd (gR h a1 1 0) fun x1 => bnd (gR h a0 1 0) fun x2 => bnd (cpL h x1 (0 : Int32) x2 (0 : Int32) (7 : Int32)) fun h3 => bnd (gL h3 a1 1 1) fun x4 => bnd (pV h3 a0 1 1 (.long x4)) fun h5 => bnd (gL h5 a1 1 2) fun x6 => bnd (pV h5 a0 1 2 (.long x6)) fun h7 => bnd (gI h7 a1 1 3) fun x8 => bnd (pV h7 a0 1 3 (.int x8)) fun h9 => some h9
theorem g_Pos_copyFrom_0 {l : Launch} {E : ET} {d : Nat} (hd : 2 ≤ d) {h9 : PH} {x : Nat}  (a0 : Nat) (a1 : Nat) (h : PH) (hf : f_Pos_copyFrom a0 a1 h = some h9) : Go l E m_Pos_copyFrom (rm d 0 0) (KM E 0 0 (PoE none h9 x)) 0 0 h x 0 [(0, .ref a0), (1, .ref a1)] [] := by
  unfold f_Pos_copyFrom at hf
  refine go_aload_n 1 d_Pos_copyFrom_0 rfl ?_
  obtain ⟨x1, e_x1, hf⟩ := bnd_x hf
  refine go_get d_Pos_copyFrom_1 (gR_x e_x1) fl_Pos_9 ?_
  refine go_iconst (0 : Int32) d_Pos_copyFrom_4 (by decide) ?_
  refine go_aload_n 0 d_Pos_copyFrom_5 rfl ?_
  obtain ⟨x2, e_x2, hf⟩ := bnd_x hf
  refine go_get d_Pos_copyFrom_6 (gR_x e_x2) fl_Pos_9 ?_
  refine go_iconst (0 : Int32) d_Pos_copyFrom_9 (by decide) ?_
  refine go_bipush (7 : Int32) d_Pos_copyFrom_10 (by decide) ?_
  obtain ⟨h3, e_h3, hf⟩ := bnd_x hf
  refine go_copyL d_Pos_copyFrom_12 e_h3 cl_Pos_35 (rm_n (by omega)) (Nat.le_of_ble_eq_true rfl) ?_
  refine go_aload_n 0 d_Pos_copyFrom_15 rfl ?_
  refine go_aload_n 1 d_Pos_copyFrom_16 rfl ?_
  obtain ⟨x4, e_x4, hf⟩ := bnd_x hf
  refine go_get d_Pos_copyFrom_17 (gL_x e_x4) fl_Pos_20 ?_
  obtain ⟨h5, e_h5, hf⟩ := bnd_x hf
  refine go_putL d_Pos_copyFrom_20 e_h5 fl_Pos_20 rfl rfl ?_
  refine go_aload_n 0 d_Pos_copyFrom_23 rfl ?_
  refine go_aload_n 1 d_Pos_copyFrom_24 rfl ?_
  obtain ⟨x6, e_x6, hf⟩ := bnd_x hf
  refine go_get d_Pos_copyFrom_25 (gL_x e_x6) fl_Pos_24 ?_
  obtain ⟨h7, e_h7, hf⟩ := bnd_x hf
  refine go_putL d_Pos_copyFrom_28 e_h7 fl_Pos_24 rfl rfl ?_
  refine go_aload_n 0 d_Pos_copyFrom_31 rfl ?_
  refine go_aload_n 1 d_Pos_copyFrom_32 rfl ?_
  obtain ⟨x8, e_x8, hf⟩ := bnd_x hf
  refine go_get d_Pos_copyFrom_33 (gI_x e_x8) fl_Pos_27 ?_
  obtain ⟨h9, e_h9, hf⟩ := bnd_x hf
  refine go_putI d_Pos_copyFrom_36 e_h9 fl_Pos_27 rfl rfl ?_
  have e9 := Option.some.inj hf
  subst e9
  exact go_vret d_Pos_copyFrom_39 rfl ⟨rfl, rfl, rfl⟩
theorem c_Pos_copyFrom {l : Launch} {E : ET} {d : Nat} (hd : 2 ≤ d) {h9 : PH} {x : Nat} {a0 : Nat} {a1 : Nat} {h : PH} (hf : f_Pos_copyFrom a0 a1 h = some h9) : Fn l E m_Pos_copyFrom d 0 0 [.ref a0, .ref a1] h x (PoE none h9 x) :=
  Fn.of (by decide +kernel) (Nat.le_of_ble_eq_true rfl) (g_Pos_copyFrom_0 hd a0 a1 h hf)
theorem d_Pos_remove_0 : decode prog_4_method_5_code 0 = .ok (.aload_n 0, 1) := by decide +kernel
theorem d_Pos_remove_1 : decode prog_4_method_5_code 1 = .ok (.getfield 9, 3) := by decide +kernel
theorem d_Pos_remove_4 : decode prog_4_method_5_code 4 = .ok (.iload_n 1, 1) := by decide +kernel
theorem d_Pos_remove_5 : decode prog_4_method_5_code 5 = .ok (.laload, 1) := by decide +kernel
theorem d_Pos_remove_6 : decode prog_4_method_5_code 6 = .ok (.lload_n 2, 1) := by decide +kernel
theorem d_Pos_remove_7 : decode prog_4_method_5_code 7 = .ok (.land, 1) := by decide +kernel
theorem d_Pos_remove_8 : decode prog_4_method_5_code 8 = .ok (.lstore 4, 2) := by decide +kernel
theorem d_Pos_remove_10 : decode prog_4_method_5_code 10 = .ok (.aload_n 0, 1) := by decide +kernel
theorem d_Pos_remove_11 : decode prog_4_method_5_code 11 = .ok (.getfield 9, 3) := by decide +kernel
theorem d_Pos_remove_14 : decode prog_4_method_5_code 14 = .ok (.iload_n 1, 1) := by decide +kernel
theorem d_Pos_remove_15 : decode prog_4_method_5_code 15 = .ok (.dup2, 1) := by decide +kernel
theorem d_Pos_remove_16 : decode prog_4_method_5_code 16 = .ok (.laload, 1) := by decide +kernel
theorem d_Pos_remove_17 : decode prog_4_method_5_code 17 = .ok (.lload 4, 2) := by decide +kernel
theorem d_Pos_remove_19 : decode prog_4_method_5_code 19 = .ok (.ldc2_w 41, 3) := by decide +kernel
theorem d_Pos_remove_22 : decode prog_4_method_5_code 22 = .ok (.lxor, 1) := by decide +kernel
theorem d_Pos_remove_23 : decode prog_4_method_5_code 23 = .ok (.land, 1) := by decide +kernel
theorem d_Pos_remove_24 : decode prog_4_method_5_code 24 = .ok (.lastore, 1) := by decide +kernel
theorem d_Pos_remove_25 : decode prog_4_method_5_code 25 = .ok (.aload_n 0, 1) := by decide +kernel
theorem d_Pos_remove_26 : decode prog_4_method_5_code 26 = .ok (.dup, 1) := by decide +kernel
theorem d_Pos_remove_27 : decode prog_4_method_5_code 27 = .ok (.getfield 24, 3) := by decide +kernel
theorem d_Pos_remove_30 : decode prog_4_method_5_code 30 = .ok (.lload 4, 2) := by decide +kernel
theorem d_Pos_remove_32 : decode prog_4_method_5_code 32 = .ok (.lor, 1) := by decide +kernel
theorem d_Pos_remove_33 : decode prog_4_method_5_code 33 = .ok (.putfield 24, 3) := by decide +kernel
theorem d_Pos_remove_36 : decode prog_4_method_5_code 36 = .ok (.lload 4, 2) := by decide +kernel
theorem d_Pos_remove_38 : decode prog_4_method_5_code 38 = .ok (.invokestatic 43, 3) := by decide +kernel
theorem d_Pos_remove_41 : decode prog_4_method_5_code 41 = .ok (.ireturn, 1) := by decide +kernel
def f_Pos_remove (a0 : Nat) (i1 : Int32) (i2 : Int64) (h : PH) : Option (Int32 × PH) :=
  bnd (gR h a0 1 0) fun x1 => bnd (aL h x1 i1) fun x2 => bnd (gR h a0 1 0) fun x3 => bnd (aL h x3 i1) fun x4 => bnd (sL h x3 i1 (x4 &&& ((x2 &&& i2) ^^^ (-1 : Int64)))) fun h5 => bnd (gL h5 a0 1 2) fun x6 => bnd (pV h5 a0 1 2 (.long (x6 ||| (x2 &&& i2)))) fun h7 => bnd (f_Lng_bitCount (x2 &&& i2)) fun x8 => some (x8, h7)
theorem g_Pos_remove_0 {l : Launch} {E : ET} {d : Nat} (hd : 2 ≤ d) {r : Int32} {h9 : PH} {x : Nat}  (a0 : Nat) (i1 : Int32) (i2 : Int64) (h : PH) (hf : f_Pos_remove a0 i1 i2 h = some (r, h9)) : Go l E m_Pos_remove (rm d 0 0) (KM E 0 0 (PoE (some (.int r)) h9 x)) 0 0 h x 0 [(0, .ref a0), (1, .int i1), (2, .long i2)] [] := by
  unfold f_Pos_remove at hf
  refine go_aload_n 0 d_Pos_remove_0 rfl ?_
  obtain ⟨x1, e_x1, hf⟩ := bnd_x hf
  refine go_get d_Pos_remove_1 (gR_x e_x1) fl_Pos_9 ?_
  refine go_iload_n 1 d_Pos_remove_4 rfl ?_
  obtain ⟨x2, e_x2, hf⟩ := bnd_x hf
  refine go_laload d_Pos_remove_5 e_x2 ?_
  refine go_lload_n 2 d_Pos_remove_6 rfl ?_
  refine go_land d_Pos_remove_7 ?_
  refine go_lstore (lv' := [(4, .long (x2 &&& i2)), (0, .ref a0), (1, .int i1), (2, .long i2)]) d_Pos_remove_8 rfl (by decide) ?_
  refine go_aload_n 1 d_Pos_remove_10 rfl ?_
  obtain ⟨x3, e_x3, hf⟩ := bnd_x hf
  refine go_get d_Pos_remove_11 (gR_x e_x3) fl_Pos_9 ?_
  refine go_iload_n 2 d_Pos_remove_14 rfl ?_
  refine go_dup2 d_Pos_remove_15 rfl rfl ?_
  obtain ⟨x4, e_x4, hf⟩ := bnd_x hf
  refine go_laload d_Pos_remove_16 e_x4 ?_
  refine go_lload 0 d_Pos_remove_17 rfl ?_
  refine go_ldc2 (-1 : Int64) d_Pos_remove_19 kl_Pos_41 ?_
  refine go_lxor d_Pos_remove_22 ?_
  refine go_land d_Pos_remove_23 ?_
  obtain ⟨h5, e_h5, hf⟩ := bnd_x hf
  refine go_lastore d_Pos_remove_24 e_h5 ?_
  refine go_aload_n 1 d_Pos_remove_25 rfl ?_
  refine go_dup d_Pos_remove_26 rfl ?_
  obtain ⟨x6, e_x6, hf⟩ := bnd_x hf
  refine go_get d_Pos_remove_27 (gL_x e_x6) fl_Pos_24 ?_
  refine go_lload 0 d_Pos_remove_30 rfl ?_
  refine go_lor d_Pos_remove_32 ?_
  obtain ⟨h7, e_h7, hf⟩ := bnd_x hf
  refine go_putL d_Pos_remove_33 e_h7 fl_Pos_24 rfl rfl ?_
  refine go_lload 0 d_Pos_remove_36 rfl ?_
  obtain ⟨x8, e_x8, hf⟩ := bnd_x hf
  refine go_callS_I (As := [.long (x2 &&& i2)]) (st := []) (c_Lng_bitCount (d := d - 1) (by omega) e_x8) lk_Pos_43 rfl rfl (rm_ok (by omega)) (Nat.le_of_ble_eq_true rfl) rm_c d_Pos_remove_38 ?_
  obtain ⟨e8, e9⟩ := Prod.mk.inj (Option.some.inj hf)
  subst e8; subst e9
  exact go_iret d_Pos_remove_41 rfl ⟨rfl, rfl, rfl⟩
theorem c_Pos_remove {l : Launch} {E : ET} {d : Nat} (hd : 2 ≤ d) {r : Int32} {h9 : PH} {x : Nat} {a0 : Nat} {i1 : Int32} {i2 : Int64} {h : PH} (hf : f_Pos_remove a0 i1 i2 h = some (r, h9)) : Fn l E m_Pos_remove d 0 0 [.ref a0, .int i1, .long i2] h x (PoE (some (.int r)) h9 x) :=
  Fn.of (by decide +kernel) (Nat.le_of_ble_eq_true rfl) (g_Pos_remove_0 hd a0 i1 i2 h hf)
theorem d_Pos_digitsOf_0 : decode prog_4_method_8_code 0 = .ok (.iconst 0, 1) := by decide +kernel
theorem d_Pos_digitsOf_1 : decode prog_4_method_8_code 1 = .ok (.istore_n 2, 1) := by decide +kernel
theorem d_Pos_digitsOf_2 : decode prog_4_method_8_code 2 = .ok (.iconst 1, 1) := by decide +kernel
theorem d_Pos_digitsOf_3 : decode prog_4_method_8_code 3 = .ok (.istore_n 3, 1) := by decide +kernel
theorem d_Pos_digitsOf_4 : decode prog_4_method_8_code 4 = .ok (.iload_n 3, 1) := by decide +kernel
theorem d_Pos_digitsOf_5 : decode prog_4_method_8_code 5 = .ok (.bipush 6, 2) := by decide +kernel
theorem d_Pos_digitsOf_7 : decode prog_4_method_8_code 7 = .ok (.if_icmp .gt 25, 3) := by decide +kernel
theorem d_Pos_digitsOf_10 : decode prog_4_method_8_code 10 = .ok (.iload_n 2, 1) := by decide +kernel
theorem d_Pos_digitsOf_11 : decode prog_4_method_8_code 11 = .ok (.aload_n 0, 1) := by decide +kernel
theorem d_Pos_digitsOf_12 : decode prog_4_method_8_code 12 = .ok (.getfield 9, 3) := by decide +kernel
theorem d_Pos_digitsOf_15 : decode prog_4_method_8_code 15 = .ok (.iload_n 3, 1) := by decide +kernel
theorem d_Pos_digitsOf_16 : decode prog_4_method_8_code 16 = .ok (.laload, 1) := by decide +kernel
theorem d_Pos_digitsOf_17 : decode prog_4_method_8_code 17 = .ok (.iload_n 1, 1) := by decide +kernel
theorem d_Pos_digitsOf_18 : decode prog_4_method_8_code 18 = .ok (.lshr, 1) := by decide +kernel
theorem d_Pos_digitsOf_19 : decode prog_4_method_8_code 19 = .ok (.lconst 1, 1) := by decide +kernel
theorem d_Pos_digitsOf_20 : decode prog_4_method_8_code 20 = .ok (.land, 1) := by decide +kernel
theorem d_Pos_digitsOf_21 : decode prog_4_method_8_code 21 = .ok (.l2i, 1) := by decide +kernel
theorem d_Pos_digitsOf_22 : decode prog_4_method_8_code 22 = .ok (.iload_n 3, 1) := by decide +kernel
theorem d_Pos_digitsOf_23 : decode prog_4_method_8_code 23 = .ok (.ishl, 1) := by decide +kernel
theorem d_Pos_digitsOf_24 : decode prog_4_method_8_code 24 = .ok (.ior, 1) := by decide +kernel
theorem d_Pos_digitsOf_25 : decode prog_4_method_8_code 25 = .ok (.istore_n 2, 1) := by decide +kernel
theorem d_Pos_digitsOf_26 : decode prog_4_method_8_code 26 = .ok (.iinc 3 1, 3) := by decide +kernel
theorem d_Pos_digitsOf_29 : decode prog_4_method_8_code 29 = .ok (.goto (-25), 3) := by decide +kernel
theorem d_Pos_digitsOf_32 : decode prog_4_method_8_code 32 = .ok (.iload_n 2, 1) := by decide +kernel
theorem d_Pos_digitsOf_33 : decode prog_4_method_8_code 33 = .ok (.ireturn, 1) := by decide +kernel
def b_Pos_digitsOf_4 (F : Nat) (k4 : Nat → Int32 → Int32 → Int32 → PH → Option Int32) (a0 : Nat) (i1 : Int32) (i2 : Int32) (i3 : Int32) (h : PH) : Option Int32 :=
  (if (6 : Int32) < i3 then some i2 else bnd (gR h a0 1 0) fun x1 => bnd (aL h x1 i3) fun x2 => bnd (some (i2 ||| ((((x2 >>> ((i1).toInt64 &&& 63)) &&& (1 : Int64)).toInt32) <<< (i3 &&& 31)))) fun y3 => k4 a0 i1 y3 (i3 + (1 : Int32)) h)
def f_Pos_digitsOf_4 (F : Nat) : Nat → Nat → Int32 → Int32 → Int32 → PH → Option Int32
  | 0 => fun _ _ _ _ _ => none
  | n + 1 => b_Pos_digitsOf_4 F (f_Pos_digitsOf_4 F n)
theorem g_Pos_digitsOf_4 {l : Launch} {E : ET} {d : Nat} (hd : 1 ≤ d) {F : Nat} {r : Int32} {h : PH} {x : Nat} {k4 : Nat → Int32 → Int32 → Int32 → PH → Option Int32} (hk4 : ∀ (a0 : Nat) (i1 : Int32) (i2 : Int32) (i3 : Int32), k4 a0 i1 i2 i3 h = some r → Go l E m_Pos_digitsOf (rm d 0 0) (KM E 0 0 (PoE (some (.int r)) h x)) 0 0 h x 4 [(0, .ref a0), (1, .int i1), (2, .int i2), (3, .int i3)] []) (a0 : Nat) (i1 : Int32) (i2 : Int32) (i3 : Int32) (hf : b_Pos_digitsOf_4 F k4 a0 i1 i2 i3 h = some r) : Go l E m_Pos_digitsOf (rm d 0 0) (KM E 0 0 (PoE (some (.int r)) h x)) 0 0 h x 4 [(0, .ref a0), (1, .int i1), (2, .int i2), (3, .int i3)] [] := by
  unfold b_Pos_digitsOf_4 at hf
  refine go_iload_n 3 d_Pos_digitsOf_4 rfl ?_
  refine go_bipush (6 : Int32) d_Pos_digitsOf_5 (by decide) ?_
  refine go_icmp_gt 32 d_Pos_digitsOf_7 (by decide) (fun q4 => ?_) (fun q4 => ?_)
  · rw [if_pos q4] at hf
    refine go_iload_n 2 d_Pos_digitsOf_32 rfl ?_
    have e9 := Option.some.inj hf
    subst e9
    exact go_iret d_Pos_digitsOf_33 rfl ⟨rfl, rfl, rfl⟩
  · rw [if_neg q4] at hf
    refine go_iload_n 2 d_Pos_digitsOf_10 rfl ?_
    refine go_aload_n 0 d_Pos_digitsOf_11 rfl ?_
    obtain ⟨x1, e_x1, hf⟩ := bnd_x hf
    refine go_get d_Pos_digitsOf_12 (gR_x e_x1) fl_Pos_9 ?_
    refine go_iload_n 3 d_Pos_digitsOf_15 rfl ?_
    obtain ⟨x2, e_x2, hf⟩ := bnd_x hf
    refine go_laload d_Pos_digitsOf_16 e_x2 ?_
    refine go_iload_n 1 d_Pos_digitsOf_17 rfl ?_
    refine go_lshr d_Pos_digitsOf_18 ?_
    refine go_lconst (1 : Int64) d_Pos_digitsOf_19 (by decide) ?_
    refine go_land d_Pos_digitsOf_20 ?_
    refine go_l2i d_Pos_digitsOf_21 ?_
    refine go_iload_n 3 d_Pos_digitsOf_22 rfl ?_
    refine go_ishl d_Pos_digitsOf_23 ?_
    refine go_ior d_Pos_digitsOf_24 ?_
    obtain ⟨y3, e_y3, hf⟩ := bnd_x hf
    refine go_nmI e_y3 ?_
    refine go_istore_n (lv' := [(2, .int y3), (0, .ref a0), (1, .int i1), (3, .int i3)]) d_Pos_digitsOf_25 rfl (by decide) ?_
    refine go_iinc (lv' := [(3, .int (i3 + (1 : Int32))), (2, .int y3), (0, .ref a0), (1, .int i1)]) 3 (i3 + (1 : Int32)) d_Pos_digitsOf_26 rfl rfl rfl (by decide) ?_
    refine go_goto 4 d_Pos_digitsOf_29 (by decide) ?_
    refine go_sub (lv' := [(0, .ref a0), (1, .int i1), (2, .int y3), (3, .int (i3 + (1 : Int32)))]) [2, 3, 1, 0] rfl ?_
    exact hk4 a0 i1 y3 (i3 + (1 : Int32)) hf
theorem t_Pos_digitsOf_4 {l : Launch} {E : ET} {d : Nat} (hd : 1 ≤ d) {F : Nat} {r : Int32} {h : PH} {x : Nat}  : ∀ (n : Nat) (a0 : Nat) (i1 : Int32) (i2 : Int32) (i3 : Int32), f_Pos_digitsOf_4 F n a0 i1 i2 i3 h = some r → Go l E m_Pos_digitsOf (rm d 0 0) (KM E 0 0 (PoE (some (.int r)) h x)) 0 0 h x 4 [(0, .ref a0), (1, .int i1), (2, .int i2), (3, .int i3)] [] := by
  intro n
  induction n with
  | zero => intro v0 v1 v2 v3 hf; cases hf
  | succ n ih => intro v0 v1 v2 v3 hf; exact g_Pos_digitsOf_4 hd ih v0 v1 v2 v3 hf
def f_Pos_digitsOf (F : Nat) (a0 : Nat) (i1 : Int32) (h : PH) : Option Int32 :=
  f_Pos_digitsOf_4 F F a0 i1 (0 : Int32) (1 : Int32) h
theorem g_Pos_digitsOf_0 {l : Launch} {E : ET} {d : Nat} (hd : 1 ≤ d) {F : Nat} {r : Int32} {h : PH} {x : Nat}  (a0 : Nat) (i1 : Int32) (hf : f_Pos_digitsOf F a0 i1 h = some r) : Go l E m_Pos_digitsOf (rm d 0 0) (KM E 0 0 (PoE (some (.int r)) h x)) 0 0 h x 0 [(0, .ref a0), (1, .int i1)] [] := by
  unfold f_Pos_digitsOf at hf
  refine go_iconst (0 : Int32) d_Pos_digitsOf_0 (by decide) ?_
  refine go_istore_n (lv' := [(2, .int (0 : Int32)), (0, .ref a0), (1, .int i1)]) d_Pos_digitsOf_1 rfl (by decide) ?_
  refine go_iconst (1 : Int32) d_Pos_digitsOf_2 (by decide) ?_
  refine go_istore_n (lv' := [(3, .int (1 : Int32)), (2, .int (0 : Int32)), (0, .ref a0), (1, .int i1)]) d_Pos_digitsOf_3 rfl (by decide) ?_
  refine go_sub (lv' := [(0, .ref a0), (1, .int i1), (2, .int (0 : Int32)), (3, .int (1 : Int32))]) [2, 3, 1, 0] rfl ?_
  exact t_Pos_digitsOf_4 hd  _ a0 i1 (0 : Int32) (1 : Int32)  hf
theorem c_Pos_digitsOf {l : Launch} {E : ET} {d : Nat} (hd : 1 ≤ d) {F : Nat} {r : Int32} {h : PH} {x : Nat} {a0 : Nat} {i1 : Int32} (hf : f_Pos_digitsOf F a0 i1 h = some r) : Fn l E m_Pos_digitsOf d 0 0 [.ref a0, .int i1] h x (PoE (some (.int r)) h x) :=
  Fn.of (by decide +kernel) (Nat.le_of_ble_eq_true rfl) (g_Pos_digitsOf_0 hd a0 i1 hf)
theorem d_Pos_lowestDigitOf_0 : decode prog_4_method_9_code 0 = .ok (.iconst 1, 1) := by decide +kernel
theorem d_Pos_lowestDigitOf_1 : decode prog_4_method_9_code 1 = .ok (.istore_n 2, 1) := by decide +kernel
theorem d_Pos_lowestDigitOf_2 : decode prog_4_method_9_code 2 = .ok (.iload_n 2, 1) := by decide +kernel
theorem d_Pos_lowestDigitOf_3 : decode prog_4_method_9_code 3 = .ok (.bipush 6, 2) := by decide +kernel
theorem d_Pos_lowestDigitOf_5 : decode prog_4_method_9_code 5 = .ok (.if_icmp .gt 26, 3) := by decide +kernel
theorem d_Pos_lowestDigitOf_8 : decode prog_4_method_9_code 8 = .ok (.aload_n 0, 1) := by decide +kernel
theorem d_Pos_lowestDigitOf_9 : decode prog_4_method_9_code 9 = .ok (.getfield 9, 3) := by decide +kernel
theorem d_Pos_lowestDigitOf_12 : decode prog_4_method_9_code 12 = .ok (.iload_n 2, 1) := by decide +kernel
theorem d_Pos_lowestDigitOf_13 : decode prog_4_method_9_code 13 = .ok (.laload, 1) := by decide +kernel
theorem d_Pos_lowestDigitOf_14 : decode prog_4_method_9_code 14 = .ok (.iload_n 1, 1) := by decide +kernel
theorem d_Pos_lowestDigitOf_15 : decode prog_4_method_9_code 15 = .ok (.lshr, 1) := by decide +kernel
theorem d_Pos_lowestDigitOf_16 : decode prog_4_method_9_code 16 = .ok (.lconst 1, 1) := by decide +kernel
theorem d_Pos_lowestDigitOf_17 : decode prog_4_method_9_code 17 = .ok (.land, 1) := by decide +kernel
theorem d_Pos_lowestDigitOf_18 : decode prog_4_method_9_code 18 = .ok (.lconst 0, 1) := by decide +kernel
theorem d_Pos_lowestDigitOf_19 : decode prog_4_method_9_code 19 = .ok (.lcmp, 1) := by decide +kernel
theorem d_Pos_lowestDigitOf_20 : decode prog_4_method_9_code 20 = .ok (.ifCond .eq 5, 3) := by decide +kernel
theorem d_Pos_lowestDigitOf_23 : decode prog_4_method_9_code 23 = .ok (.iload_n 2, 1) := by decide +kernel
theorem d_Pos_lowestDigitOf_24 : decode prog_4_method_9_code 24 = .ok (.ireturn, 1) := by decide +kernel
theorem d_Pos_lowestDigitOf_25 : decode prog_4_method_9_code 25 = .ok (.iinc 2 1, 3) := by decide +kernel
theorem d_Pos_lowestDigitOf_28 : decode prog_4_method_9_code 28 = .ok (.goto (-26), 3) := by decide +kernel
theorem d_Pos_lowestDigitOf_31 : decode prog_4_method_9_code 31 = .ok (.iconst 0, 1) := by decide +kernel
theorem d_Pos_lowestDigitOf_32 : decode prog_4_method_9_code 32 = .ok (.ireturn, 1) := by decide +kernel
def b_Pos_lowestDigitOf_2 (F : Nat) (k2 : Nat → Int32 → Int32 → PH → Option Int32) (a0 : Nat) (i1 : Int32) (i2 : Int32) (h : PH) : Option Int32 :=
  (if (6 : Int32) < i2 then some (0 : Int32) else bnd (gR h a0 1 0) fun x1 => bnd (aL h x1 i2) fun x2 => (if (lg_cmp ((x2 >>> ((i1).toInt64 &&& 63)) &&& (1 : Int64)) (0 : Int64)) = (0 : Int32) then k2 a0 i1 (i2 + (1 : Int32)) h else some i2))
def f_Pos_lowestDigitOf_2 (F : Nat) : Nat → Nat → Int32 → Int32 → PH → Option Int32
  | 0 => fun _ _ _ _ => none
  | n + 1 => b_Pos_lowestDigitOf_2 F (f_Pos_lowestDigitOf_2 F n)
theorem g_Pos_lowestDigitOf_2 {l : Launch} {E : ET} {d : Nat} (hd : 1 ≤ d) {F : Nat} {r : Int32} {h : PH} {x : Nat} {k2 : Nat → Int32 → Int32 → PH → Option Int32} (hk2 : ∀ (a0 : Nat) (i1 : Int32) (i2 : Int32), k2 a0 i1 i2 h = some r → Go l E m_Pos_lowestDigitOf (rm d 0 0) (KM E 0 0 (PoE (some (.int r)) h x)) 0 0 h x 2 [(0, .ref a0), (1, .int i1), (2, .int i2)] []) (a0 : Nat) (i1 : Int32) (i2 : Int32) (hf : b_Pos_lowestDigitOf_2 F k2 a0 i1 i2 h = some r) : Go l E m_Pos_lowestDigitOf (rm d 0 0) (KM E 0 0 (PoE (some (.int r)) h x)) 0 0 h x 2 [(0, .ref a0), (1, .int i1), (2, .int i2)] [] := by
  unfold b_Pos_lowestDigitOf_2 at hf
  refine go_iload_n 2 d_Pos_lowestDigitOf_2 rfl ?_
  refine go_bipush (6 : Int32) d_Pos_lowestDigitOf_3 (by decide) ?_
  refine go_icmp_gt 31 d_Pos_lowestDigitOf_5 (by decide) (fun q4 => ?_) (fun q4 => ?_)
  · rw [if_pos q4] at hf
    refine go_iconst (0 : Int32) d_Pos_lowestDigitOf_31 (by decide) ?_
    have e9 := Option.some.inj hf
    subst e9
    exact go_iret d_Pos_lowestDigitOf_32 rfl ⟨rfl, rfl, rfl⟩
  · rw [if_neg q4] at hf
    refine go_aload_n 0 d_Pos_lowestDigitOf_8 rfl ?_
    obtain ⟨x1, e_x1, hf⟩ := bnd_x hf
    refine go_get d_Pos_lowestDigitOf_9 (gR_x e_x1) fl_Pos_9 ?_
    refine go_iload_n 2 d_Pos_lowestDigitOf_12 rfl ?_
    obtain ⟨x2, e_x2, hf⟩ := bnd_x hf
    refine go_laload d_Pos_lowestDigitOf_13 e_x2 ?_
    refine go_iload_n 1 d_Pos_lowestDigitOf_14 rfl ?_
    refine go_lshr d_Pos_lowestDigitOf_15 ?_
    refine go_lconst (1 : Int64) d_Pos_lowestDigitOf_16 (by decide) ?_
    refine go_land d_Pos_lowestDigitOf_17 ?_
    refine go_lconst (0 : Int64) d_Pos_lowestDigitOf_18 (by decide) ?_
    refine go_lcmp d_Pos_lowestDigitOf_19 ?_
    refine go_if_eq 25 d_Pos_lowestDigitOf_20 (by decide) (fun q3 => ?_) (fun q3 => ?_)
    · rw [if_pos q3] at hf
      refine go_iinc (lv' := [(2, .int (i2 + (1 : Int32))), (0, .ref a0), (1, .int i1)]) 2 (i2 + (1 : Int32)) d_Pos_lowestDigitOf_25 rfl rfl rfl (by decide) ?_
      refine go_goto 2 d_Pos_lowestDigitOf_28 (by decide) ?_
      refine go_sub (lv' := [(0, .ref a0), (1, .int i1), (2, .int (i2 + (1 : Int32)))]) [1, 2, 0] rfl ?_
      exact hk2 a0 i1 (i2 + (1 : Int32)) hf
    · rw [if_neg q3] at hf
      refine go_iload_n 2 d_Pos_lowestDigitOf_23 rfl ?_
      have e9 := Option.some.inj hf
      subst e9
      exact go_iret d_Pos_lowestDigitOf_24 rfl ⟨rfl, rfl, rfl⟩
theorem t_Pos_lowestDigitOf_2 {l : Launch} {E : ET} {d : Nat} (hd : 1 ≤ d) {F : Nat} {r : Int32} {h : PH} {x : Nat}  : ∀ (n : Nat) (a0 : Nat) (i1 : Int32) (i2 : Int32), f_Pos_lowestDigitOf_2 F n a0 i1 i2 h = some r → Go l E m_Pos_lowestDigitOf (rm d 0 0) (KM E 0 0 (PoE (some (.int r)) h x)) 0 0 h x 2 [(0, .ref a0), (1, .int i1), (2, .int i2)] [] := by
  intro n
  induction n with
  | zero => intro v0 v1 v2 hf; cases hf
  | succ n ih => intro v0 v1 v2 hf; exact g_Pos_lowestDigitOf_2 hd ih v0 v1 v2 hf
def f_Pos_lowestDigitOf (F : Nat) (a0 : Nat) (i1 : Int32) (h : PH) : Option Int32 :=
  f_Pos_lowestDigitOf_2 F F a0 i1 (1 : Int32) h
theorem g_Pos_lowestDigitOf_0 {l : Launch} {E : ET} {d : Nat} (hd : 1 ≤ d) {F : Nat} {r : Int32} {h : PH} {x : Nat}  (a0 : Nat) (i1 : Int32) (hf : f_Pos_lowestDigitOf F a0 i1 h = some r) : Go l E m_Pos_lowestDigitOf (rm d 0 0) (KM E 0 0 (PoE (some (.int r)) h x)) 0 0 h x 0 [(0, .ref a0), (1, .int i1)] [] := by
  unfold f_Pos_lowestDigitOf at hf
  refine go_iconst (1 : Int32) d_Pos_lowestDigitOf_0 (by decide) ?_
  refine go_istore_n (lv' := [(2, .int (1 : Int32)), (0, .ref a0), (1, .int i1)]) d_Pos_lowestDigitOf_1 rfl (by decide) ?_
  refine go_sub (lv' := [(0, .ref a0), (1, .int i1), (2, .int (1 : Int32))]) [1, 2, 0] rfl ?_
  exact t_Pos_lowestDigitOf_2 hd  _ a0 i1 (1 : Int32)  hf
theorem c_Pos_lowestDigitOf {l : Launch} {E : ET} {d : Nat} (hd : 1 ≤ d) {F : Nat} {r : Int32} {h : PH} {x : Nat} {a0 : Nat} {i1 : Int32} (hf : f_Pos_lowestDigitOf F a0 i1 h = some r) : Fn l E m_Pos_lowestDigitOf d 0 0 [.ref a0, .int i1] h x (PoE (some (.int r)) h x) :=
  Fn.of (by decide +kernel) (Nat.le_of_ble_eq_true rfl) (g_Pos_lowestDigitOf_0 hd a0 i1 hf)
theorem d_Pos_candidateCount_0 : decode prog_4_method_10_code 0 = .ok (.iconst 0, 1) := by decide +kernel
theorem d_Pos_candidateCount_1 : decode prog_4_method_10_code 1 = .ok (.istore_n 1, 1) := by decide +kernel
theorem d_Pos_candidateCount_2 : decode prog_4_method_10_code 2 = .ok (.iconst 1, 1) := by decide +kernel
theorem d_Pos_candidateCount_3 : decode prog_4_method_10_code 3 = .ok (.istore_n 2, 1) := by decide +kernel
theorem d_Pos_candidateCount_4 : decode prog_4_method_10_code 4 = .ok (.iload_n 2, 1) := by decide +kernel
theorem d_Pos_candidateCount_5 : decode prog_4_method_10_code 5 = .ok (.bipush 6, 2) := by decide +kernel
theorem d_Pos_candidateCount_7 : decode prog_4_method_10_code 7 = .ok (.if_icmp .gt 21, 3) := by decide +kernel
theorem d_Pos_candidateCount_10 : decode prog_4_method_10_code 10 = .ok (.iload_n 1, 1) := by decide +kernel
theorem d_Pos_candidateCount_11 : decode prog_4_method_10_code 11 = .ok (.aload_n 0, 1) := by decide +kernel
theorem d_Pos_candidateCount_12 : decode prog_4_method_10_code 12 = .ok (.getfield 9, 3) := by decide +kernel
theorem d_Pos_candidateCount_15 : decode prog_4_method_10_code 15 = .ok (.iload_n 2, 1) := by decide +kernel
theorem d_Pos_candidateCount_16 : decode prog_4_method_10_code 16 = .ok (.laload, 1) := by decide +kernel
theorem d_Pos_candidateCount_17 : decode prog_4_method_10_code 17 = .ok (.invokestatic 43, 3) := by decide +kernel
theorem d_Pos_candidateCount_20 : decode prog_4_method_10_code 20 = .ok (.iadd, 1) := by decide +kernel
theorem d_Pos_candidateCount_21 : decode prog_4_method_10_code 21 = .ok (.istore_n 1, 1) := by decide +kernel
theorem d_Pos_candidateCount_22 : decode prog_4_method_10_code 22 = .ok (.iinc 2 1, 3) := by decide +kernel
theorem d_Pos_candidateCount_25 : decode prog_4_method_10_code 25 = .ok (.goto (-21), 3) := by decide +kernel
theorem d_Pos_candidateCount_28 : decode prog_4_method_10_code 28 = .ok (.iload_n 1, 1) := by decide +kernel
theorem d_Pos_candidateCount_29 : decode prog_4_method_10_code 29 = .ok (.ireturn, 1) := by decide +kernel
def b_Pos_candidateCount_4 (F : Nat) (k4 : Nat → Int32 → Int32 → PH → Option Int32) (a0 : Nat) (i1 : Int32) (i2 : Int32) (h : PH) : Option Int32 :=
  (if (6 : Int32) < i2 then some i1 else bnd (gR h a0 1 0) fun x1 => bnd (aL h x1 i2) fun x2 => bnd (f_Lng_bitCount x2) fun x3 => k4 a0 (i1 + x3) (i2 + (1 : Int32)) h)
def f_Pos_candidateCount_4 (F : Nat) : Nat → Nat → Int32 → Int32 → PH → Option Int32
  | 0 => fun _ _ _ _ => none
  | n + 1 => b_Pos_candidateCount_4 F (f_Pos_candidateCount_4 F n)
theorem g_Pos_candidateCount_4 {l : Launch} {E : ET} {d : Nat} (hd : 2 ≤ d) {F : Nat} {r : Int32} {h : PH} {x : Nat} {k4 : Nat → Int32 → Int32 → PH → Option Int32} (hk4 : ∀ (a0 : Nat) (i1 : Int32) (i2 : Int32), k4 a0 i1 i2 h = some r → Go l E m_Pos_candidateCount (rm d 0 0) (KM E 0 0 (PoE (some (.int r)) h x)) 0 0 h x 4 [(0, .ref a0), (1, .int i1), (2, .int i2)] []) (a0 : Nat) (i1 : Int32) (i2 : Int32) (hf : b_Pos_candidateCount_4 F k4 a0 i1 i2 h = some r) : Go l E m_Pos_candidateCount (rm d 0 0) (KM E 0 0 (PoE (some (.int r)) h x)) 0 0 h x 4 [(0, .ref a0), (1, .int i1), (2, .int i2)] [] := by
  unfold b_Pos_candidateCount_4 at hf
  refine go_iload_n 2 d_Pos_candidateCount_4 rfl ?_
  refine go_bipush (6 : Int32) d_Pos_candidateCount_5 (by decide) ?_
  refine go_icmp_gt 28 d_Pos_candidateCount_7 (by decide) (fun q4 => ?_) (fun q4 => ?_)
  · rw [if_pos q4] at hf
    refine go_iload_n 1 d_Pos_candidateCount_28 rfl ?_
    have e9 := Option.some.inj hf
    subst e9
    exact go_iret d_Pos_candidateCount_29 rfl ⟨rfl, rfl, rfl⟩
  · rw [if_neg q4] at hf
    refine go_iload_n 1 d_Pos_candidateCount_10 rfl ?_
    refine go_aload_n 0 d_Pos_candidateCount_11 rfl ?_
    obtain ⟨x1, e_x1, hf⟩ := bnd_x hf
    refine go_get d_Pos_candidateCount_12 (gR_x e_x1) fl_Pos_9 ?_
    refine go_iload_n 2 d_Pos_candidateCount_15 rfl ?_
    obtain ⟨x2, e_x2, hf⟩ := bnd_x hf
    refine go_laload d_Pos_candidateCount_16 e_x2 ?_
    obtain ⟨x3, e_x3, hf⟩ := bnd_x hf
    refine go_callS_I (As := [.long x2]) (st := [.int i1]) (c_Lng_bitCount (d := d - 1) (by omega) e_x3) lk_Pos_43 rfl rfl (rm_ok (by omega)) (Nat.le_of_ble_eq_true rfl) rm_c d_Pos_candidateCount_17 ?_
    refine go_iadd d_Pos_candidateCount_20 ?_
    refine go_istore_n (lv' := [(1, .int (i1 + x3)), (0, .ref a0), (2, .int i2)]) d_Pos_candidateCount_21 rfl (by decide) ?_
    refine go_iinc (lv' := [(2, .int (i2 + (1 : Int32))), (1, .int (i1 + x3)), (0, .ref a0)]) 2 (i2 + (1 : Int32)) d_Pos_candidateCount_22 rfl rfl rfl (by decide) ?_
    refine go_goto 4 d_Pos_candidateCount_25 (by decide) ?_
    refine go_sub (lv' := [(0, .ref a0), (1, .int (i1 + x3)), (2, .int (i2 + (1 : Int32)))]) [2, 1, 0] rfl ?_
    exact hk4 a0 (i1 + x3) (i2 + (1 : Int32)) hf
theorem t_Pos_candidateCount_4 {l : Launch} {E : ET} {d : Nat} (hd : 2 ≤ d) {F : Nat} {r : Int32} {h : PH} {x : Nat}  : ∀ (n : Nat) (a0 : Nat) (i1 : Int32) (i2 : Int32), f_Pos_candidateCount_4 F n a0 i1 i2 h = some r → Go l E m_Pos_candidateCount (rm d 0 0) (KM E 0 0 (PoE (some (.int r)) h x)) 0 0 h x 4 [(0, .ref a0), (1, .int i1), (2, .int i2)] [] := by
  intro n
  induction n with
  | zero => intro v0 v1 v2 hf; cases hf
  | succ n ih => intro v0 v1 v2 hf; exact g_Pos_candidateCount_4 hd ih v0 v1 v2 hf
def f_Pos_candidateCount (F : Nat) (a0 : Nat) (h : PH) : Option Int32 :=
  f_Pos_candidateCount_4 F F a0 (0 : Int32) (1 : Int32) h
theorem g_Pos_candidateCount_0 {l : Launch} {E : ET} {d : Nat} (hd : 2 ≤ d) {F : Nat} {r : Int32} {h : PH} {x : Nat}  (a0 : Nat) (hf : f_Pos_candidateCount F a0 h = some r) : Go l E m_Pos_candidateCount (rm d 0 0) (KM E 0 0 (PoE (some (.int r)) h x)) 0 0 h x 0 [(0, .ref a0)] [] := by
  unfold f_Pos_candidateCount at hf
  refine go_iconst (0 : Int32) d_Pos_candidateCount_0 (by decide) ?_
  refine go_istore_n (lv' := [(1, .int (0 : Int32)), (0, .ref a0)]) d_Pos_candidateCount_1 rfl (by decide) ?_
  refine go_iconst (1 : Int32) d_Pos_candidateCount_2 (by decide) ?_
  refine go_istore_n (lv' := [(2, .int (1 : Int32)), (1, .int (0 : Int32)), (0, .ref a0)]) d_Pos_candidateCount_3 rfl (by decide) ?_
  refine go_sub (lv' := [(0, .ref a0), (1, .int (0 : Int32)), (2, .int (1 : Int32))]) [2, 1, 0] rfl ?_
  exact t_Pos_candidateCount_4 hd  _ a0 (0 : Int32) (1 : Int32)  hf
theorem c_Pos_candidateCount {l : Launch} {E : ET} {d : Nat} (hd : 2 ≤ d) {F : Nat} {r : Int32} {h : PH} {x : Nat} {a0 : Nat} (hf : f_Pos_candidateCount F a0 h = some r) : Fn l E m_Pos_candidateCount d 0 0 [.ref a0] h x (PoE (some (.int r)) h x) :=
  Fn.of (by decide +kernel) (Nat.le_of_ble_eq_true rfl) (g_Pos_candidateCount_0 hd a0 hf)
theorem d_Pos_isDead_0 : decode prog_4_method_11_code 0 = .ok (.aload_n 0, 1) := by decide +kernel
theorem d_Pos_isDead_1 : decode prog_4_method_11_code 1 = .ok (.getfield 9, 3) := by decide +kernel
theorem d_Pos_isDead_4 : decode prog_4_method_11_code 4 = .ok (.iconst 1, 1) := by decide +kernel
theorem d_Pos_isDead_5 : decode prog_4_method_11_code 5 = .ok (.laload, 1) := by decide +kernel
theorem d_Pos_isDead_6 : decode prog_4_method_11_code 6 = .ok (.aload_n 0, 1) := by decide +kernel
theorem d_Pos_isDead_7 : decode prog_4_method_11_code 7 = .ok (.getfield 9, 3) := by decide +kernel
theorem d_Pos_isDead_10 : decode prog_4_method_11_code 10 = .ok (.iconst 2, 1) := by decide +kernel
theorem d_Pos_isDead_11 : decode prog_4_method_11_code 11 = .ok (.laload, 1) := by decide +kernel
theorem d_Pos_isDead_12 : decode prog_4_method_11_code 12 = .ok (.lor, 1) := by decide +kernel
theorem d_Pos_isDead_13 : decode prog_4_method_11_code 13 = .ok (.aload_n 0, 1) := by decide +kernel
theorem d_Pos_isDead_14 : decode prog_4_method_11_code 14 = .ok (.getfield 9, 3) := by decide +kernel
theorem d_Pos_isDead_17 : decode prog_4_method_11_code 17 = .ok (.iconst 3, 1) := by decide +kernel
theorem d_Pos_isDead_18 : decode prog_4_method_11_code 18 = .ok (.laload, 1) := by decide +kernel
theorem d_Pos_isDead_19 : decode prog_4_method_11_code 19 = .ok (.lor, 1) := by decide +kernel
theorem d_Pos_isDead_20 : decode prog_4_method_11_code 20 = .ok (.aload_n 0, 1) := by decide +kernel
theorem d_Pos_isDead_21 : decode prog_4_method_11_code 21 = .ok (.getfield 9, 3) := by decide +kernel
theorem d_Pos_isDead_24 : decode prog_4_method_11_code 24 = .ok (.iconst 4, 1) := by decide +kernel
theorem d_Pos_isDead_25 : decode prog_4_method_11_code 25 = .ok (.laload, 1) := by decide +kernel
theorem d_Pos_isDead_26 : decode prog_4_method_11_code 26 = .ok (.lor, 1) := by decide +kernel
theorem d_Pos_isDead_27 : decode prog_4_method_11_code 27 = .ok (.aload_n 0, 1) := by decide +kernel
theorem d_Pos_isDead_28 : decode prog_4_method_11_code 28 = .ok (.getfield 9, 3) := by decide +kernel
theorem d_Pos_isDead_31 : decode prog_4_method_11_code 31 = .ok (.iconst 5, 1) := by decide +kernel
theorem d_Pos_isDead_32 : decode prog_4_method_11_code 32 = .ok (.laload, 1) := by decide +kernel
theorem d_Pos_isDead_33 : decode prog_4_method_11_code 33 = .ok (.lor, 1) := by decide +kernel
theorem d_Pos_isDead_34 : decode prog_4_method_11_code 34 = .ok (.aload_n 0, 1) := by decide +kernel
theorem d_Pos_isDead_35 : decode prog_4_method_11_code 35 = .ok (.getfield 9, 3) := by decide +kernel
theorem d_Pos_isDead_38 : decode prog_4_method_11_code 38 = .ok (.bipush 6, 2) := by decide +kernel
theorem d_Pos_isDead_40 : decode prog_4_method_11_code 40 = .ok (.laload, 1) := by decide +kernel
theorem d_Pos_isDead_41 : decode prog_4_method_11_code 41 = .ok (.lor, 1) := by decide +kernel
theorem d_Pos_isDead_42 : decode prog_4_method_11_code 42 = .ok (.ldc2_w 18, 3) := by decide +kernel
theorem d_Pos_isDead_45 : decode prog_4_method_11_code 45 = .ok (.lcmp, 1) := by decide +kernel
theorem d_Pos_isDead_46 : decode prog_4_method_11_code 46 = .ok (.ifCond .eq 7, 3) := by decide +kernel
theorem d_Pos_isDead_49 : decode prog_4_method_11_code 49 = .ok (.iconst 1, 1) := by decide +kernel
theorem d_Pos_isDead_50 : decode prog_4_method_11_code 50 = .ok (.goto 4, 3) := by decide +kernel
theorem d_Pos_isDead_53 : decode prog_4_method_11_code 53 = .ok (.iconst 0, 1) := by decide +kernel
theorem d_Pos_isDead_54 : decode prog_4_method_11_code 54 = .ok (.ireturn, 1) := by decide +kernel
def f_Pos_isDead (a0 : Nat) (h : PH) : Option Int32 :=
  bnd (gR h a0 1 0) fun x1 => bnd (aL h x1 (1 : Int32)) fun x2 => bnd (gR h a0 1 0) fun x3 => bnd (aL h x3 (2 : Int32)) fun x4 => bnd (gR h a0 1 0) fun x5 => bnd (aL h x5 (3 : Int32)) fun x6 => bnd (gR h a0 1 0) fun x7 => bnd (aL h x7 (4 : Int32)) fun x8 => bnd (gR h a0 1 0) fun x9 => bnd (aL h x9 (5 : Int32)) fun x10 => bnd (gR h a0 1 0) fun x11 => bnd (aL h x11 (6 : Int32)) fun x12 => (if (lg_cmp (((((x2 ||| x4) ||| x6) ||| x8) ||| x10) ||| x12) (68719476735 : Int64)) = (0 : Int32) then some (0 : Int32) else some (1 : Int32))
theorem g_Pos_isDead_0 {l : Launch} {E : ET} {d : Nat} (hd : 1 ≤ d) {r : Int32} {h : PH} {x : Nat}  (a0 : Nat) (hf : f_Pos_isDead a0 h = some r) : Go l E m_Pos_isDead (rm d 0 0) (KM E 0 0 (PoE (some (.int r)) h x)) 0 0 h x 0 [(0, .ref a0)] [] := by
  unfold f_Pos_isDead at hf
  refine go_aload_n 0 d_Pos_isDead_0 rfl ?_
  obtain ⟨x1, e_x1, hf⟩ := bnd_x hf
  refine go_get d_Pos_isDead_1 (gR_x e_x1) fl_Pos_9 ?_
  refine go_iconst (1 : Int32) d_Pos_isDead_4 (by decide) ?_
  obtain ⟨x2, e_x2, hf⟩ := bnd_x hf
  refine go_laload d_Pos_isDead_5 e_x2 ?_
  refine go_aload_n 0 d_Pos_isDead_6 rfl ?_
  obtain ⟨x3, e_x3, hf⟩ := bnd_x hf
  refine go_get d_Pos_isDead_7 (gR_x e_x3) fl_Pos_9 ?_
  refine go_iconst (2 : Int32) d_Pos_isDead_10 (by decide) ?_
  obtain ⟨x4, e_x4, hf⟩ := bnd_x hf
  refine go_laload d_Pos_isDead_11 e_x4 ?_
  refine go_lor d_Pos_isDead_12 ?_
  refine go_aload_n 0 d_Pos_isDead_13 rfl ?_
  obtain ⟨x5, e_x5, hf⟩ := bnd_x hf
  refine go_get d_Pos_isDead_14 (gR_x e_x5) fl_Pos_9 ?_
  refine go_iconst (3 : Int32) d_Pos_isDead_17 (by decide) ?_
  obtain ⟨x6, e_x6, hf⟩ := bnd_x hf
  refine go_laload d_Pos_isDead_18 e_x6 ?_
  refine go_lor d_Pos_isDead_19 ?_
  refine go_aload_n 0 d_Pos_isDead_20 rfl ?_
  obtain ⟨x7, e_x7, hf⟩ := bnd_x hf
  refine go_get d_Pos_isDead_21 (gR_x e_x7) fl_Pos_9 ?_
  refine go_iconst (4 : Int32) d_Pos_isDead_24 (by decide) ?_
  obtain ⟨x8, e_x8, hf⟩ := bnd_x hf
  refine go_laload d_Pos_isDead_25 e_x8 ?_
  refine go_lor d_Pos_isDead_26 ?_
  refine go_aload_n 0 d_Pos_isDead_27 rfl ?_
  obtain ⟨x9, e_x9, hf⟩ := bnd_x hf
  refine go_get d_Pos_isDead_28 (gR_x e_x9) fl_Pos_9 ?_
  refine go_iconst (5 : Int32) d_Pos_isDead_31 (by decide) ?_
  obtain ⟨x10, e_x10, hf⟩ := bnd_x hf
  refine go_laload d_Pos_isDead_32 e_x10 ?_
  refine go_lor d_Pos_isDead_33 ?_
  refine go_aload_n 0 d_Pos_isDead_34 rfl ?_
  obtain ⟨x11, e_x11, hf⟩ := bnd_x hf
  refine go_get d_Pos_isDead_35 (gR_x e_x11) fl_Pos_9 ?_
  refine go_bipush (6 : Int32) d_Pos_isDead_38 (by decide) ?_
  obtain ⟨x12, e_x12, hf⟩ := bnd_x hf
  refine go_laload d_Pos_isDead_40 e_x12 ?_
  refine go_lor d_Pos_isDead_41 ?_
  refine go_ldc2 (68719476735 : Int64) d_Pos_isDead_42 kl_Pos_18 ?_
  refine go_lcmp d_Pos_isDead_45 ?_
  refine go_if_eq 53 d_Pos_isDead_46 (by decide) (fun q13 => ?_) (fun q13 => ?_)
  · rw [if_pos q13] at hf
    refine go_iconst (0 : Int32) d_Pos_isDead_53 (by decide) ?_
    have e9 := Option.some.inj hf
    subst e9
    exact go_zret d_Pos_isDead_54 rfl rfl ⟨rfl, rfl, rfl⟩
  · rw [if_neg q13] at hf
    refine go_iconst (1 : Int32) d_Pos_isDead_49 (by decide) ?_
    refine go_goto 54 d_Pos_isDead_50 (by decide) ?_
    have e9 := Option.some.inj hf
    subst e9
    exact go_zret d_Pos_isDead_54 rfl rfl ⟨rfl, rfl, rfl⟩
theorem c_Pos_isDead {l : Launch} {E : ET} {d : Nat} (hd : 1 ≤ d) {r : Int32} {h : PH} {x : Nat} {a0 : Nat} (hf : f_Pos_isDead a0 h = some r) : Fn l E m_Pos_isDead d 0 0 [.ref a0] h x (PoE (some (.int r)) h x) :=
  Fn.of (by decide +kernel) (Nat.le_of_ble_eq_true rfl) (g_Pos_isDead_0 hd a0 hf)
theorem d_Pos_isFinished_0 : decode prog_4_method_12_code 0 = .ok (.aload_n 0, 1) := by decide +kernel
theorem d_Pos_isFinished_1 : decode prog_4_method_12_code 1 = .ok (.getfield 20, 3) := by decide +kernel
theorem d_Pos_isFinished_4 : decode prog_4_method_12_code 4 = .ok (.ldc2_w 18, 3) := by decide +kernel
theorem d_Pos_isFinished_7 : decode prog_4_method_12_code 7 = .ok (.lcmp, 1) := by decide +kernel
theorem d_Pos_isFinished_8 : decode prog_4_method_12_code 8 = .ok (.ifCond .ne 14, 3) := by decide +kernel
theorem d_Pos_isFinished_11 : decode prog_4_method_12_code 11 = .ok (.aload_n 0, 1) := by decide +kernel
theorem d_Pos_isFinished_12 : decode prog_4_method_12_code 12 = .ok (.invokevirtual 53, 3) := by decide +kernel
theorem d_Pos_isFinished_15 : decode prog_4_method_12_code 15 = .ok (.ifCond .ne 7, 3) := by decide +kernel
theorem d_Pos_isFinished_18 : decode prog_4_method_12_code 18 = .ok (.iconst 1, 1) := by decide +kernel
theorem d_Pos_isFinished_19 : decode prog_4_method_12_code 19 = .ok (.goto 4, 3) := by decide +kernel
theorem d_Pos_isFinished_22 : decode prog_4_method_12_code 22 = .ok (.iconst 0, 1) := by decide +kernel
theorem d_Pos_isFinished_23 : decode prog_4_method_12_code 23 = .ok (.ireturn, 1) := by decide +kernel
def f_Pos_isFinished (a0 : Nat) (h : PH) : Option Int32 :=
  bnd (gL h a0 1 1) fun x1 => (if (lg_cmp x1 (68719476735 : Int64)) = (0 : Int32) then bnd (cK h a0 1) fun _ => bnd (f_Pos_isDead a0 h) fun x3 => (if x3 = (0 : Int32) then some (1 : Int32) else some (0 : Int32)) else some (0 : Int32))
theorem g_Pos_isFinished_0 {l : Launch} {E : ET} {d : Nat} (hd : 2 ≤ d) {r : Int32} {h : PH} {x : Nat}  (a0 : Nat) (hf : f_Pos_isFinished a0 h = some r) : Go l E m_Pos_isFinished (rm d 0 0) (KM E 0 0 (PoE (some (.int r)) h x)) 0 0 h x 0 [(0, .ref a0)] [] := by
  unfold f_Pos_isFinished at hf
  refine go_aload_n 0 d_Pos_isFinished_0 rfl ?_
  obtain ⟨x1, e_x1, hf⟩ := bnd_x hf
  refine go_get d_Pos_isFinished_1 (gL_x e_x1) fl_Pos_20 ?_
  refine go_ldc2 (68719476735 : Int64) d_Pos_isFinished_4 kl_Pos_18 ?_
  refine go_lcmp d_Pos_isFinished_7 ?_
  refine go_if_ne 22 d_Pos_isFinished_8 (by decide) (fun q5 => ?_) (fun q5 => ?_)
  · rw [if_neg q5] at hf
    refine go_iconst (0 : Int32) d_Pos_isFinished_22 (by decide) ?_
    have e9 := Option.some.inj hf
    subst e9
    exact go_zret d_Pos_isFinished_23 rfl rfl ⟨rfl, rfl, rfl⟩
  · rw [if_pos q5] at hf
    refine go_aload_n 0 d_Pos_isFinished_11 rfl ?_
    obtain ⟨_, e2, hf⟩ := bnd_x hf
    obtain ⟨x3, e_x3, hf⟩ := bnd_x hf
    refine go_callV_I (As := []) (st := []) (c_Pos_isDead (d := d - 1) (by omega) e_x3) lk_Pos_53 rfl rfl e2 (by decide) rfl (rm_ok (by omega)) (Nat.le_of_ble_eq_true rfl) rm_c d_Pos_isFinished_12 ?_
    refine go_if_ne 22 d_Pos_isFinished_15 (by decide) (fun q4 => ?_) (fun q4 => ?_)
    · rw [if_neg q4] at hf
      refine go_iconst (0 : Int32) d_Pos_isFinished_22 (by decide) ?_
      have e9 := Option.some.inj hf
      subst e9
      exact go_zret d_Pos_isFinished_23 rfl rfl ⟨rfl, rfl, rfl⟩
    · rw [if_pos q4] at hf
      refine go_iconst (1 : Int32) d_Pos_isFinished_18 (by decide) ?_
      refine go_goto 23 d_Pos_isFinished_19 (by decide) ?_
      have e9 := Option.some.inj hf
      subst e9
      exact go_zret d_Pos_isFinished_23 rfl rfl ⟨rfl, rfl, rfl⟩
theorem c_Pos_isFinished {l : Launch} {E : ET} {d : Nat} (hd : 2 ≤ d) {r : Int32} {h : PH} {x : Nat} {a0 : Nat} (hf : f_Pos_isFinished a0 h = some r) : Fn l E m_Pos_isFinished d 0 0 [.ref a0] h x (PoE (some (.int r)) h x) :=
  Fn.of (by decide +kernel) (Nat.le_of_ble_eq_true rfl) (g_Pos_isFinished_0 hd a0 hf)
