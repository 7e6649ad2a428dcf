/-! the small methods of the law, by program. -/
theorem d_Law_give_0 : decode method_3_code 0 = .ok (.aload_n 3, 1) := by decide +kernel
theorem d_Law_give_1 : decode method_3_code 1 = .ok (.iconst 0, 1) := by decide +kernel
theorem d_Law_give_2 : decode method_3_code 2 = .ok (.aload_n 0, 1) := by decide +kernel
theorem d_Law_give_3 : decode method_3_code 3 = .ok (.iload_n 1, 1) := by decide +kernel
theorem d_Law_give_4 : decode method_3_code 4 = .ok (.iload_n 2, 1) := by decide +kernel
theorem d_Law_give_5 : decode method_3_code 5 = .ok (.invokevirtual 7, 3) := by decide +kernel
theorem d_Law_give_8 : decode method_3_code 8 = .ok (.i2l, 1) := by decide +kernel
theorem d_Law_give_9 : decode method_3_code 9 = .ok (.lastore, 1) := by decide +kernel
theorem d_Law_give_10 : decode method_3_code 10 = .ok (.goto 11, 3) := by decide +kernel
theorem d_Law_give_13 : decode method_3_code 13 = .ok (.astore 4, 2) := by decide +kernel
theorem d_Law_give_15 : decode method_3_code 15 = .ok (.iconst 1, 1) := by decide +kernel
theorem d_Law_give_16 : decode method_3_code 16 = .ok (.ireturn, 1) := by decide +kernel
theorem d_Law_give_17 : decode method_3_code 17 = .ok (.astore 4, 2) := by decide +kernel
theorem d_Law_give_19 : decode method_3_code 19 = .ok (.iconst 2, 1) := by decide +kernel
theorem d_Law_give_20 : decode method_3_code 20 = .ok (.ireturn, 1) := by decide +kernel
theorem d_Law_give_21 : decode method_3_code 21 = .ok (.iconst 0, 1) := by decide +kernel
theorem d_Law_give_22 : decode method_3_code 22 = .ok (.ireturn, 1) := by decide +kernel
def m_Law_give : MT := (⟨"NumberPlaceLaw", "give", "(LNumberPlace;II[J)I"⟩, method_3_code, 5, some .int)
def hh_Law_give : List (Nat × Nat × Nat × Nat) := [(0, 10, 13, 13), (0, 10, 17, 15)]
def f_Law_give (F : Nat) (a0 : Nat) (i1 : Int32) (i2 : Int32) (a3 : Nat) (h : PH) : Option (Int32 × PH) :=
  bnd (cK h a0 9) fun _ => bndC (f_Np_give F a0 i1 i2 h) (fun x2 h3 => bnd (sL h3 a3 (0 : Int32) (x2.toInt64)) fun h4 => some ((0 : Int32), h4)) (hd2 0 1)
theorem gw_Law_give_0 {l : Launch} {E : ET} (hl : l.stackTraces = false) {d : Nat} (hd : 8 ≤ d) {F : Nat} {r : Int32} {h9 : PH} {x : Nat} (a0 : Nat) (i1 : Int32) (i2 : Int32) (a3 : Nat) (h : PH) (hf : f_Law_give F a0 i1 i2 a3 h = some (r, h9)) : Go l E m_Law_give (rm d 1 6) (KW l E hh_Law_give (PoX r h9)) 0 0 h x 0 [(0, .ref a0), (1, .int i1), (2, .int i2), (3, .ref a3)] [] := by
  unfold f_Law_give at hf
  refine go_aload_n 3 d_Law_give_0 rfl ?_
  refine go_iconst (0 : Int32) d_Law_give_1 (by decide) ?_
  refine go_aload_n 0 d_Law_give_2 rfl ?_
  refine go_iload_n 1 d_Law_give_3 rfl ?_
  refine go_iload_n 2 d_Law_give_4 rfl ?_
  obtain ⟨_, e1, hf⟩ := bnd_x hf
  rcases bndC_x hf with ⟨j, e_x2, e_c⟩ | ⟨x2, h3, e_x2, hf⟩
  · rcases hd2_x e_c with ⟨rfl, rfl⟩ | ⟨rfl, rfl⟩
    · exact go_catchV [] (0, 10, 13, 13) [(0, 10, 17, 15)] rfl (fun z hz => nomatch hz) (by decide) (by decide) lc_0 cs_0 (HWd_w d_Law_give_13 d_Law_give_15 d_Law_give_16 (by decide) rfl (by decide) (fun _ => ⟨rfl, rfl⟩)) (As := [.int i1, .int i2]) (st := [.int (0 : Int32), .ref a3]) (x_Np_give hl (d := d - 1) (by omega) e_x2) lk_Law_7 rfl rfl e1 (by decide) rfl (rm_ok1 (by omega)) (Nat.le_of_ble_eq_true rfl) d_Law_give_5
    · exact go_catchV [(0, 10, 13, 13)] (0, 10, 17, 15) [] rfl (fun z hz => by rcases List.mem_cons.mp hz with rfl | hz; exact ⟨by decide, xN 0, lc_0, by decide +kernel⟩; cases hz) (by decide) (by decide) lc_1 cs_1 (HWd_w d_Law_give_17 d_Law_give_19 d_Law_give_20 (by decide) rfl (by decide) (fun _ => ⟨rfl, rfl⟩)) (As := [.int i1, .int i2]) (st := [.int (0 : Int32), .ref a3]) (x_Np_give hl (d := d - 1) (by omega) e_x2) lk_Law_7 rfl rfl e1 (by decide) rfl (rm_ok1 (by omega)) (Nat.le_of_ble_eq_true rfl) d_Law_give_5
  refine go_callV_I (As := [.int i1, .int i2]) (st := [.int (0 : Int32), .ref a3]) (c_Np_give (d := d - 1) (by omega) e_x2) lk_Law_7 rfl rfl e1 (by decide) rfl (rm_ok1 (by omega)) (Nat.le_of_ble_eq_true rfl) rm_c1 d_Law_give_5 ?_
  refine go_i2l d_Law_give_8 ?_
  obtain ⟨h4, e_h4, hf⟩ := bnd_x hf
  refine go_lastore d_Law_give_9 e_h4 ?_
  refine go_goto 21 d_Law_give_10 (by decide) ?_
  refine go_iconst (0 : Int32) d_Law_give_21 (by decide) ?_
  obtain ⟨e8, e9⟩ := Prod.mk.inj (Option.some.inj hf)
  subst e8; subst e9
  exact go_iretW d_Law_give_22 rfl ⟨rfl, rfl⟩ ⟨by decide, by decide⟩
theorem c_Law_give {l : Launch} {E : ET} (hl : l.stackTraces = false) {d : Nat} (hd : 8 ≤ d) {F : Nat} {r : Int32} {h9 : PH} {x : Nat} {a0 : Nat} {i1 : Int32} {i2 : Int32} {a3 : Nat} {h : PH} (hf : f_Law_give F a0 i1 i2 a3 h = some (r, h9)) : FnW l E m_Law_give hh_Law_give d [.ref a0, .int i1, .int i2, .ref a3] h x (PoX r h9) :=
  FnW.of hl (by decide +kernel) (Nat.le_of_ble_eq_true rfl) (gw_Law_give_0 hl hd a0 i1 i2 a3 h hf)
theorem lk_Law_82 : LkW "NumberPlaceLaw" 82 m_Law_give hh_Law_give 4 := ⟨w_in 795 (by decide +kernel) (by decide +kernel), w_in 796 (by decide +kernel) (by decide +kernel), w_in 797 (by decide +kernel) (by decide +kernel), w_in 0 (by decide +kernel) (by decide +kernel), by decide +kernel, by decide +kernel⟩
theorem d_Law_strike_0 : decode method_4_code 0 = .ok (.aload_n 3, 1) := by decide +kernel
theorem d_Law_strike_1 : decode method_4_code 1 = .ok (.iconst 0, 1) := by decide +kernel
theorem d_Law_strike_2 : decode method_4_code 2 = .ok (.aload_n 0, 1) := by decide +kernel
theorem d_Law_strike_3 : decode method_4_code 3 = .ok (.iload_n 1, 1) := by decide +kernel
theorem d_Law_strike_4 : decode method_4_code 4 = .ok (.iload_n 2, 1) := by decide +kernel
theorem d_Law_strike_5 : decode method_4_code 5 = .ok (.invokevirtual 17, 3) := by decide +kernel
theorem d_Law_strike_8 : decode method_4_code 8 = .ok (.ifCond .eq 7, 3) := by decide +kernel
theorem d_Law_strike_11 : decode method_4_code 11 = .ok (.lconst 1, 1) := by decide +kernel
theorem d_Law_strike_12 : decode method_4_code 12 = .ok (.goto 4, 3) := by decide +kernel
theorem d_Law_strike_15 : decode method_4_code 15 = .ok (.lconst 0, 1) := by decide +kernel
theorem d_Law_strike_16 : decode method_4_code 16 = .ok (.lastore, 1) := by decide +kernel
theorem d_Law_strike_17 : decode method_4_code 17 = .ok (.goto 11, 3) := by decide +kernel
theorem d_Law_strike_20 : decode method_4_code 20 = .ok (.astore 4, 2) := by decide +kernel
theorem d_Law_strike_22 : decode method_4_code 22 = .ok (.iconst 1, 1) := by decide +kernel
theorem d_Law_strike_23 : decode method_4_code 23 = .ok (.ireturn, 1) := by decide +kernel
theorem d_Law_strike_24 : decode method_4_code 24 = .ok (.astore 4, 2) := by decide +kernel
theorem d_Law_strike_26 : decode method_4_code 26 = .ok (.iconst 2, 1) := by decide +kernel
theorem d_Law_strike_27 : decode method_4_code 27 = .ok (.ireturn, 1) := by decide +kernel
theorem d_Law_strike_28 : decode method_4_code 28 = .ok (.iconst 0, 1) := by decide +kernel
theorem d_Law_strike_29 : decode method_4_code 29 = .ok (.ireturn, 1) := by decide +kernel
def m_Law_strike : MT := (⟨"NumberPlaceLaw", "strike", "(LNumberPlace;II[J)I"⟩, method_4_code, 5, some .int)
def hh_Law_strike : List (Nat × Nat × Nat × Nat) := [(0, 17, 20, 13), (0, 17, 24, 15)]
def b_Law_strike_16 (s0 : Int64) (s1 : Int32) (s2 : Nat) (h : PH) : Option (Int32 × PH) :=
  bnd (sL h s2 s1 s0) fun h1 => some ((0 : Int32), h1)
theorem gw_Law_strike_16 {l : Launch} {E : ET} (hl : l.stackTraces = false) {d : Nat} (hd : 8 ≤ d) {r : Int32} {h9 : PH} {x : Nat} (s0 : Int64) (s1 : Int32) (s2 : Nat) (h : PH) (hf : b_Law_strike_16 s0 s1 s2 h = some (r, h9)) : Go l E m_Law_strike (rm d 1 6) (KW l E hh_Law_strike (PoX r h9)) 0 0 h x 16 [] [.long s0, .int s1, .ref s2] := by
  unfold b_Law_strike_16 at hf
  obtain ⟨h1, e_h1, hf⟩ := bnd_x hf
  refine go_lastore d_Law_strike_16 e_h1 ?_
  refine go_goto 28 d_Law_strike_17 (by decide) ?_
  refine go_iconst (0 : Int32) d_Law_strike_28 (by decide) ?_
  obtain ⟨e8, e9⟩ := Prod.mk.inj (Option.some.inj hf)
  subst e8; subst e9
  exact go_iretW d_Law_strike_29 rfl ⟨rfl, rfl⟩ ⟨by decide, by decide⟩
def f_Law_strike (a0 : Nat) (i1 : Int32) (i2 : Int32) (a3 : Nat) (h : PH) : Option (Int32 × PH) :=
  bnd (cK h a0 9) fun _ => bndC (f_Np_strike a0 i1 i2 h) (fun x2 h3 => (if x2 = (0 : Int32) then b_Law_strike_16 (0 : Int64) (0 : Int32) a3 h3 else b_Law_strike_16 (1 : Int64) (0 : Int32) a3 h3)) (hd2 0 1)
theorem gw_Law_strike_0 {l : Launch} {E : ET} (hl : l.stackTraces = false) {d : Nat} (hd : 8 ≤ d) {r : Int32} {h9 : PH} {x : Nat} (a0 : Nat) (i1 : Int32) (i2 : Int32) (a3 : Nat) (h : PH) (hf : f_Law_strike a0 i1 i2 a3 h = some (r, h9)) : Go l E m_Law_strike (rm d 1 6) (KW l E hh_Law_strike (PoX r h9)) 0 0 h x 0 [(0, .ref a0), (1, .int i1), (2, .int i2), (3, .ref a3)] [] := by
  unfold f_Law_strike at hf
  refine go_aload_n 3 d_Law_strike_0 rfl ?_
  refine go_iconst (0 : Int32) d_Law_strike_1 (by decide) ?_
  refine go_aload_n 0 d_Law_strike_2 rfl ?_
  refine go_iload_n 1 d_Law_strike_3 rfl ?_
  refine go_iload_n 2 d_Law_strike_4 rfl ?_
  obtain ⟨_, e1, hf⟩ := bnd_x hf
  rcases bndC_x hf with ⟨j, e_x2, e_c⟩ | ⟨x2, h3, e_x2, hf⟩
  · rcases hd2_x e_c with ⟨rfl, rfl⟩ | ⟨rfl, rfl⟩
    · exact go_catchV [] (0, 17, 20, 13) [(0, 17, 24, 15)] rfl (fun z hz => nomatch hz) (by decide) (by decide) lc_0 cs_0 (HWd_w d_Law_strike_20 d_Law_strike_22 d_Law_strike_23 (by decide) rfl (by decide) (fun _ => ⟨rfl, rfl⟩)) (As := [.int i1, .int i2]) (st := [.int (0 : Int32), .ref a3]) (x_Np_strike hl (d := d - 1) (by omega) e_x2) lk_Law_17 rfl rfl e1 (by decide) rfl (rm_ok1 (by omega)) (Nat.le_of_ble_eq_true rfl) d_Law_strike_5
    · exact go_catchV [(0, 17, 20, 13)] (0, 17, 24, 15) [] rfl (fun z hz => by rcases List.mem_cons.mp hz with rfl | hz; exact ⟨by decide, xN 0, lc_0, by decide +kernel⟩; cases hz) (by decide) (by decide) lc_1 cs_1 (HWd_w d_Law_strike_24 d_Law_strike_26 d_Law_strike_27 (by decide) rfl (by decide) (fun _ => ⟨rfl, rfl⟩)) (As := [.int i1, .int i2]) (st := [.int (0 : Int32), .ref a3]) (x_Np_strike hl (d := d - 1) (by omega) e_x2) lk_Law_17 rfl rfl e1 (by decide) rfl (rm_ok1 (by omega)) (Nat.le_of_ble_eq_true rfl) d_Law_strike_5
  refine go_callV_I (As := [.int i1, .int i2]) (st := [.int (0 : Int32), .ref a3]) (c_Np_strike (d := d - 1) (by omega) e_x2) lk_Law_17 rfl rfl e1 (by decide) rfl (rm_ok1 (by omega)) (Nat.le_of_ble_eq_true rfl) rm_c1 d_Law_strike_5 ?_
  refine go_if_eq 15 d_Law_strike_8 (by decide) (fun q4 => ?_) (fun q4 => ?_)
  · rw [if_pos q4] at hf
    refine go_lconst (0 : Int64) d_Law_strike_15 (by decide) ?_
    refine go_sub (lv' := []) [] rfl ?_
    exact gw_Law_strike_16 hl hd (0 : Int64) (0 : Int32) a3 h3 hf
  · rw [if_neg q4] at hf
    refine go_lconst (1 : Int64) d_Law_strike_11 (by decide) ?_
    refine go_goto 16 d_Law_strike_12 (by decide) ?_
    refine go_sub (lv' := []) [] rfl ?_
    exact gw_Law_strike_16 hl hd (1 : Int64) (0 : Int32) a3 h3 hf
theorem c_Law_strike {l : Launch} {E : ET} (hl : l.stackTraces = false) {d : Nat} (hd : 8 ≤ d) {r : Int32} {h9 : PH} {x : Nat} {a0 : Nat} {i1 : Int32} {i2 : Int32} {a3 : Nat} {h : PH} (hf : f_Law_strike a0 i1 i2 a3 h = some (r, h9)) : FnW l E m_Law_strike hh_Law_strike d [.ref a0, .int i1, .int i2, .ref a3] h x (PoX r h9) :=
  FnW.of hl (by decide +kernel) (Nat.le_of_ble_eq_true rfl) (gw_Law_strike_0 hl hd a0 i1 i2 a3 h hf)
theorem lk_Law_91 : LkW "NumberPlaceLaw" 91 m_Law_strike hh_Law_strike 4 := ⟨w_in 809 (by decide +kernel) (by decide +kernel), w_in 810 (by decide +kernel) (by decide +kernel), w_in 811 (by decide +kernel) (by decide +kernel), w_in 0 (by decide +kernel) (by decide +kernel), by decide +kernel, by decide +kernel⟩
theorem d_Law_addConstraint_0 : decode method_5_code 0 = .ok (.aload 4, 2) := by decide +kernel
theorem d_Law_addConstraint_2 : decode method_5_code 2 = .ok (.iconst 0, 1) := by decide +kernel
theorem d_Law_addConstraint_3 : decode method_5_code 3 = .ok (.aload_n 0, 1) := by decide +kernel
theorem d_Law_addConstraint_4 : decode method_5_code 4 = .ok (.iload_n 1, 1) := by decide +kernel
theorem d_Law_addConstraint_5 : decode method_5_code 5 = .ok (.iload_n 2, 1) := by decide +kernel
theorem d_Law_addConstraint_6 : decode method_5_code 6 = .ok (.iload_n 3, 1) := by decide +kernel
theorem d_Law_addConstraint_7 : decode method_5_code 7 = .ok (.invokevirtual 21, 3) := by decide +kernel
theorem d_Law_addConstraint_10 : decode method_5_code 10 = .ok (.i2l, 1) := by decide +kernel
theorem d_Law_addConstraint_11 : decode method_5_code 11 = .ok (.lastore, 1) := by decide +kernel
theorem d_Law_addConstraint_12 : decode method_5_code 12 = .ok (.goto 15, 3) := by decide +kernel
theorem d_Law_addConstraint_15 : decode method_5_code 15 = .ok (.astore 5, 2) := by decide +kernel
theorem d_Law_addConstraint_17 : decode method_5_code 17 = .ok (.iconst 1, 1) := by decide +kernel
theorem d_Law_addConstraint_18 : decode method_5_code 18 = .ok (.ireturn, 1) := by decide +kernel
theorem d_Law_addConstraint_19 : decode method_5_code 19 = .ok (.astore 5, 2) := by decide +kernel
theorem d_Law_addConstraint_21 : decode method_5_code 21 = .ok (.iconst 2, 1) := by decide +kernel
theorem d_Law_addConstraint_22 : decode method_5_code 22 = .ok (.ireturn, 1) := by decide +kernel
theorem d_Law_addConstraint_23 : decode method_5_code 23 = .ok (.astore 5, 2) := by decide +kernel
theorem d_Law_addConstraint_25 : decode method_5_code 25 = .ok (.iconst 3, 1) := by decide +kernel
theorem d_Law_addConstraint_26 : decode method_5_code 26 = .ok (.ireturn, 1) := by decide +kernel
theorem d_Law_addConstraint_27 : decode method_5_code 27 = .ok (.iconst 0, 1) := by decide +kernel
theorem d_Law_addConstraint_28 : decode method_5_code 28 = .ok (.ireturn, 1) := by decide +kernel
def m_Law_addConstraint : MT := (⟨"NumberPlaceLaw", "addConstraint", "(LNumberPlace;III[J)I"⟩, method_5_code, 6, some .int)
def hh_Law_addConstraint : List (Nat × Nat × Nat × Nat) := [(0, 12, 15, 13), (0, 12, 19, 15), (0, 12, 23, 25)]
def f_Law_addConstraint (F : Nat) (a0 : Nat) (i1 : Int32) (i2 : Int32) (i3 : Int32) (a4 : Nat) (h : PH) : Option (Int32 × PH) :=
  bnd (cK h a0 9) fun _ => bndC (f_Np_addConstraint F a0 i1 i2 i3 h) (fun x2 h3 => bnd (sL h3 a4 (0 : Int32) (x2.toInt64)) fun h4 => some ((0 : Int32), h4)) (hd3 0 1 2)
theorem gw_Law_addConstraint_0 {l : Launch} {E : ET} (hl : l.stackTraces = false) {d : Nat} (hd : 8 ≤ d) {F : Nat} {r : Int32} {h9 : PH} {x : Nat} (a0 : Nat) (i1 : Int32) (i2 : Int32) (i3 : Int32) (a4 : Nat) (h : PH) (hf : f_Law_addConstraint F a0 i1 i2 i3 a4 h = some (r, h9)) : Go l E m_Law_addConstraint (rm d 1 6) (KW l E hh_Law_addConstraint (PoX r h9)) 0 0 h x 0 [(0, .ref a0), (1, .int i1), (2, .int i2), (3, .int i3), (4, .ref a4)] [] := by
  unfold f_Law_addConstraint at hf
  refine go_aload 4 d_Law_addConstraint_0 rfl ?_
  refine go_iconst (0 : Int32) d_Law_addConstraint_2 (by decide) ?_
  refine go_aload_n 0 d_Law_addConstraint_3 rfl ?_
  refine go_iload_n 1 d_Law_addConstraint_4 rfl ?_
  refine go_iload_n 2 d_Law_addConstraint_5 rfl ?_
  refine go_iload_n 3 d_Law_addConstraint_6 rfl ?_
  obtain ⟨_, e1, hf⟩ := bnd_x hf
  rcases bndC_x hf with ⟨j, e_x2, e_c⟩ | ⟨x2, h3, e_x2, hf⟩
  · rcases hd3_x e_c with ⟨rfl, rfl⟩ | ⟨rfl, rfl⟩ | ⟨rfl, rfl⟩
    · exact go_catchV [] (0, 12, 15, 13) [(0, 12, 19, 15), (0, 12, 23, 25)] rfl (fun z hz => nomatch hz) (by decide) (by decide) lc_0 cs_0 (HWd_w d_Law_addConstraint_15 d_Law_addConstraint_17 d_Law_addConstraint_18 (by decide) rfl (by decide) (fun _ => ⟨rfl, rfl⟩)) (As := [.int i1, .int i2, .int i3]) (st := [.int (0 : Int32), .ref a4]) (x_Np_addConstraint hl (d := d - 1) (by omega) e_x2) lk_Law_21 rfl rfl e1 (by decide) rfl (rm_ok1 (by omega)) (Nat.le_of_ble_eq_true rfl) d_Law_addConstraint_7
    · exact go_catchV [(0, 12, 15, 13)] (0, 12, 19, 15) [(0, 12, 23, 25)] rfl (fun z hz => by rcases List.mem_cons.mp hz with rfl | hz; exact ⟨by decide, xN 0, lc_0, by decide +kernel⟩; cases hz) (by decide) (by decide) lc_1 cs_1 (HWd_w d_Law_addConstraint_19 d_Law_addConstraint_21 d_Law_addConstraint_22 (by decide) rfl (by decide) (fun _ => ⟨rfl, rfl⟩)) (As := [.int i1, .int i2, .int i3]) (st := [.int (0 : Int32), .ref a4]) (x_Np_addConstraint hl (d := d - 1) (by omega) e_x2) lk_Law_21 rfl rfl e1 (by decide) rfl (rm_ok1 (by omega)) (Nat.le_of_ble_eq_true rfl) d_Law_addConstraint_7
    · exact go_catchV [(0, 12, 15, 13), (0, 12, 19, 15)] (0, 12, 23, 25) [] rfl (fun z hz => by rcases List.mem_cons.mp hz with rfl | hz; exact ⟨by decide, xN 0, lc_0, by decide +kernel⟩; rcases List.mem_cons.mp hz with rfl | hz; exact ⟨by decide, xN 1, lc_1, by decide +kernel⟩; cases hz) (by decide) (by decide) lc_2 cs_2 (HWd_w d_Law_addConstraint_23 d_Law_addConstraint_25 d_Law_addConstraint_26 (by decide) rfl (by decide) (fun _ => ⟨rfl, rfl⟩)) (As := [.int i1, .int i2, .int i3]) (st := [.int (0 : Int32), .ref a4]) (x_Np_addConstraint hl (d := d - 1) (by omega) e_x2) lk_Law_21 rfl rfl e1 (by decide) rfl (rm_ok1 (by omega)) (Nat.le_of_ble_eq_true rfl) d_Law_addConstraint_7
  refine go_callV_I (As := [.int i1, .int i2, .int i3]) (st := [.int (0 : Int32), .ref a4]) (c_Np_addConstraint (d := d - 1) (by omega) e_x2) lk_Law_21 rfl rfl e1 (by decide) rfl (rm_ok1 (by omega)) (Nat.le_of_ble_eq_true rfl) rm_c1 d_Law_addConstraint_7 ?_
  refine go_i2l d_Law_addConstraint_10 ?_
  obtain ⟨h4, e_h4, hf⟩ := bnd_x hf
  refine go_lastore d_Law_addConstraint_11 e_h4 ?_
  refine go_goto 27 d_Law_addConstraint_12 (by decide) ?_
  refine go_iconst (0 : Int32) d_Law_addConstraint_27 (by decide) ?_
  obtain ⟨e8, e9⟩ := Prod.mk.inj (Option.some.inj hf)
  subst e8; subst e9
  exact go_iretW d_Law_addConstraint_28 rfl ⟨rfl, rfl⟩ ⟨by decide, by decide⟩
theorem c_Law_addConstraint {l : Launch} {E : ET} (hl : l.stackTraces = false) {d : Nat} (hd : 8 ≤ d) {F : Nat} {r : Int32} {h9 : PH} {x : Nat} {a0 : Nat} {i1 : Int32} {i2 : Int32} {i3 : Int32} {a4 : Nat} {h : PH} (hf : f_Law_addConstraint F a0 i1 i2 i3 a4 h = some (r, h9)) : FnW l E m_Law_addConstraint hh_Law_addConstraint d [.ref a0, .int i1, .int i2, .int i3, .ref a4] h x (PoX r h9) :=
  FnW.of hl (by decide +kernel) (Nat.le_of_ble_eq_true rfl) (gw_Law_addConstraint_0 hl hd a0 i1 i2 i3 a4 h hf)
theorem lk_Law_94 : LkW "NumberPlaceLaw" 94 m_Law_addConstraint hh_Law_addConstraint 5 := ⟨w_in 817 (by decide +kernel) (by decide +kernel), w_in 818 (by decide +kernel) (by decide +kernel), w_in 819 (by decide +kernel) (by decide +kernel), w_in 0 (by decide +kernel) (by decide +kernel), by decide +kernel, by decide +kernel⟩
theorem d_Law_extend_0 : decode method_6_code 0 = .ok (.aload_n 3, 1) := by decide +kernel
theorem d_Law_extend_1 : decode method_6_code 1 = .ok (.iconst 0, 1) := by decide +kernel
theorem d_Law_extend_2 : decode method_6_code 2 = .ok (.aload_n 0, 1) := by decide +kernel
theorem d_Law_extend_3 : decode method_6_code 3 = .ok (.iload_n 1, 1) := by decide +kernel
theorem d_Law_extend_4 : decode method_6_code 4 = .ok (.iload_n 2, 1) := by decide +kernel
theorem d_Law_extend_5 : decode method_6_code 5 = .ok (.invokevirtual 27, 3) := by decide +kernel
theorem d_Law_extend_8 : decode method_6_code 8 = .ok (.i2l, 1) := by decide +kernel
theorem d_Law_extend_9 : decode method_6_code 9 = .ok (.lastore, 1) := by decide +kernel
theorem d_Law_extend_10 : decode method_6_code 10 = .ok (.goto 11, 3) := by decide +kernel
theorem d_Law_extend_13 : decode method_6_code 13 = .ok (.astore 4, 2) := by decide +kernel
theorem d_Law_extend_15 : decode method_6_code 15 = .ok (.iconst 1, 1) := by decide +kernel
theorem d_Law_extend_16 : decode method_6_code 16 = .ok (.ireturn, 1) := by decide +kernel
theorem d_Law_extend_17 : decode method_6_code 17 = .ok (.astore 4, 2) := by decide +kernel
theorem d_Law_extend_19 : decode method_6_code 19 = .ok (.iconst 2, 1) := by decide +kernel
theorem d_Law_extend_20 : decode method_6_code 20 = .ok (.ireturn, 1) := by decide +kernel
theorem d_Law_extend_21 : decode method_6_code 21 = .ok (.iconst 0, 1) := by decide +kernel
theorem d_Law_extend_22 : decode method_6_code 22 = .ok (.ireturn, 1) := by decide +kernel
def m_Law_extend : MT := (⟨"NumberPlaceLaw", "extend", "(LNumberPlace;II[J)I"⟩, method_6_code, 5, some .int)
def hh_Law_extend : List (Nat × Nat × Nat × Nat) := [(0, 10, 13, 13), (0, 10, 17, 25)]
def f_Law_extend (F : Nat) (a0 : Nat) (i1 : Int32) (i2 : Int32) (a3 : Nat) (h : PH) : Option (Int32 × PH) :=
  bnd (cK h a0 9) fun _ => bndC (f_Np_extend F a0 i1 i2 h) (fun x2 h3 => bnd (sL h3 a3 (0 : Int32) (x2.toInt64)) fun h4 => some ((0 : Int32), h4)) (hd2 0 2)
theorem gw_Law_extend_0 {l : Launch} {E : ET} (hl : l.stackTraces = false) {d : Nat} (hd : 8 ≤ d) {F : Nat} {r : Int32} {h9 : PH} {x : Nat} (a0 : Nat) (i1 : Int32) (i2 : Int32) (a3 : Nat) (h : PH) (hf : f_Law_extend F a0 i1 i2 a3 h = some (r, h9)) : Go l E m_Law_extend (rm d 1 6) (KW l E hh_Law_extend (PoX r h9)) 0 0 h x 0 [(0, .ref a0), (1, .int i1), (2, .int i2), (3, .ref a3)] [] := by
  unfold f_Law_extend at hf
  refine go_aload_n 3 d_Law_extend_0 rfl ?_
  refine go_iconst (0 : Int32) d_Law_extend_1 (by decide) ?_
  refine go_aload_n 0 d_Law_extend_2 rfl ?_
  refine go_iload_n 1 d_Law_extend_3 rfl ?_
  refine go_iload_n 2 d_Law_extend_4 rfl ?_
  obtain ⟨_, e1, hf⟩ := bnd_x hf
  rcases bndC_x hf with ⟨j, e_x2, e_c⟩ | ⟨x2, h3, e_x2, hf⟩
  · rcases hd2_x e_c with ⟨rfl, rfl⟩ | ⟨rfl, rfl⟩
    · exact go_catchV [] (0, 10, 13, 13) [(0, 10, 17, 25)] rfl (fun z hz => nomatch hz) (by decide) (by decide) lc_0 cs_0 (HWd_w d_Law_extend_13 d_Law_extend_15 d_Law_extend_16 (by decide) rfl (by decide) (fun _ => ⟨rfl, rfl⟩)) (As := [.int i1, .int i2]) (st := [.int (0 : Int32), .ref a3]) (x_Np_extend hl (d := d - 1) (by omega) e_x2) lk_Law_27 rfl rfl e1 (by decide) rfl (rm_ok1 (by omega)) (Nat.le_of_ble_eq_true rfl) d_Law_extend_5
    · exact go_catchV [(0, 10, 13, 13)] (0, 10, 17, 25) [] rfl (fun z hz => by rcases List.mem_cons.mp hz with rfl | hz; exact ⟨by decide, xN 0, lc_0, by decide +kernel⟩; cases hz) (by decide) (by decide) lc_2 cs_2 (HWd_w d_Law_extend_17 d_Law_extend_19 d_Law_extend_20 (by decide) rfl (by decide) (fun _ => ⟨rfl, rfl⟩)) (As := [.int i1, .int i2]) (st := [.int (0 : Int32), .ref a3]) (x_Np_extend hl (d := d - 1) (by omega) e_x2) lk_Law_27 rfl rfl e1 (by decide) rfl (rm_ok1 (by omega)) (Nat.le_of_ble_eq_true rfl) d_Law_extend_5
  refine go_callV_I (As := [.int i1, .int i2]) (st := [.int (0 : Int32), .ref a3]) (c_Np_extend (d := d - 1) (by omega) e_x2) lk_Law_27 rfl rfl e1 (by decide) rfl (rm_ok1 (by omega)) (Nat.le_of_ble_eq_true rfl) rm_c1 d_Law_extend_5 ?_
  refine go_i2l d_Law_extend_8 ?_
  obtain ⟨h4, e_h4, hf⟩ := bnd_x hf
  refine go_lastore d_Law_extend_9 e_h4 ?_
  refine go_goto 21 d_Law_extend_10 (by decide) ?_
  refine go_iconst (0 : Int32) d_Law_extend_21 (by decide) ?_
  obtain ⟨e8, e9⟩ := Prod.mk.inj (Option.some.inj hf)
  subst e8; subst e9
  exact go_iretW d_Law_extend_22 rfl ⟨rfl, rfl⟩ ⟨by decide, by decide⟩
theorem c_Law_extend {l : Launch} {E : ET} (hl : l.stackTraces = false) {d : Nat} (hd : 8 ≤ d) {F : Nat} {r : Int32} {h9 : PH} {x : Nat} {a0 : Nat} {i1 : Int32} {i2 : Int32} {a3 : Nat} {h : PH} (hf : f_Law_extend F a0 i1 i2 a3 h = some (r, h9)) : FnW l E m_Law_extend hh_Law_extend d [.ref a0, .int i1, .int i2, .ref a3] h x (PoX r h9) :=
  FnW.of hl (by decide +kernel) (Nat.le_of_ble_eq_true rfl) (gw_Law_extend_0 hl hd a0 i1 i2 a3 h hf)
theorem lk_Law_98 : LkW "NumberPlaceLaw" 98 m_Law_extend hh_Law_extend 4 := ⟨w_in 850 (by decide +kernel) (by decide +kernel), w_in 851 (by decide +kernel) (by decide +kernel), w_in 852 (by decide +kernel) (by decide +kernel), w_in 0 (by decide +kernel) (by decide +kernel), by decide +kernel, by decide +kernel⟩
theorem d_Law_make_0 : decode method_7_code 0 = .ok (.aload_n 3, 1) := by decide +kernel
theorem d_Law_make_1 : decode method_7_code 1 = .ok (.iconst 0, 1) := by decide +kernel
theorem d_Law_make_2 : decode method_7_code 2 = .ok (.aload_n 0, 1) := by decide +kernel
theorem d_Law_make_3 : decode method_7_code 3 = .ok (.iload_n 1, 1) := by decide +kernel
theorem d_Law_make_4 : decode method_7_code 4 = .ok (.iload_n 2, 1) := by decide +kernel
theorem d_Law_make_5 : decode method_7_code 5 = .ok (.invokevirtual 30, 3) := by decide +kernel
theorem d_Law_make_8 : decode method_7_code 8 = .ok (.i2l, 1) := by decide +kernel
theorem d_Law_make_9 : decode method_7_code 9 = .ok (.lastore, 1) := by decide +kernel
theorem d_Law_make_10 : decode method_7_code 10 = .ok (.goto 7, 3) := by decide +kernel
theorem d_Law_make_13 : decode method_7_code 13 = .ok (.astore 4, 2) := by decide +kernel
theorem d_Law_make_15 : decode method_7_code 15 = .ok (.iconst 1, 1) := by decide +kernel
theorem d_Law_make_16 : decode method_7_code 16 = .ok (.ireturn, 1) := by decide +kernel
theorem d_Law_make_17 : decode method_7_code 17 = .ok (.iconst 0, 1) := by decide +kernel
theorem d_Law_make_18 : decode method_7_code 18 = .ok (.ireturn, 1) := by decide +kernel
def m_Law_make : MT := (⟨"NumberPlaceLaw", "make", "(LNumberPlace;II[J)I"⟩, method_7_code, 5, some .int)
def hh_Law_make : List (Nat × Nat × Nat × Nat) := [(0, 10, 13, 15)]
def f_Law_make (F : Nat) (a0 : Nat) (i1 : Int32) (i2 : Int32) (a3 : Nat) (h : PH) : Option (Int32 × PH) :=
  bnd (cK h a0 9) fun _ => bndC (f_Np_make F a0 i1 i2 h) (fun x2 h3 => bnd (sL h3 a3 (0 : Int32) (x2.toInt64)) fun h4 => some ((0 : Int32), h4)) (hd1 1)
theorem gw_Law_make_0 {l : Launch} {E : ET} (hl : l.stackTraces = false) {d : Nat} (hd : 129 ≤ d) {F : Nat} {r : Int32} {h9 : PH} {x : Nat} (a0 : Nat) (i1 : Int32) (i2 : Int32) (a3 : Nat) (h : PH) (hf : f_Law_make F a0 i1 i2 a3 h = some (r, h9)) : Go l E m_Law_make (rm d 1 6) (KW l E hh_Law_make (PoX r h9)) 0 0 h x 0 [(0, .ref a0), (1, .int i1), (2, .int i2), (3, .ref a3)] [] := by
  unfold f_Law_make at hf
  refine go_aload_n 3 d_Law_make_0 rfl ?_
  refine go_iconst (0 : Int32) d_Law_make_1 (by decide) ?_
  refine go_aload_n 0 d_Law_make_2 rfl ?_
  refine go_iload_n 1 d_Law_make_3 rfl ?_
  refine go_iload_n 2 d_Law_make_4 rfl ?_
  obtain ⟨_, e1, hf⟩ := bnd_x hf
  rcases bndC_x hf with ⟨j, e_x2, e_c⟩ | ⟨x2, h3, e_x2, hf⟩
  · rcases hd1_x e_c with ⟨rfl, rfl⟩
    · exact go_catchV [] (0, 10, 13, 15) [] rfl (fun z hz => nomatch hz) (by decide) (by decide) lc_1 cs_1 (HWd_w d_Law_make_13 d_Law_make_15 d_Law_make_16 (by decide) rfl (by decide) (fun _ => ⟨rfl, rfl⟩)) (As := [.int i1, .int i2]) (st := [.int (0 : Int32), .ref a3]) (x_Np_make hl (d := d - 1) (by omega) e_x2) lk_Law_30 rfl rfl e1 (by decide) rfl (rm_ok1 (by omega)) (Nat.le_of_ble_eq_true rfl) d_Law_make_5
  refine go_callV_I (As := [.int i1, .int i2]) (st := [.int (0 : Int32), .ref a3]) (c_Np_make (d := d - 1) (by omega) e_x2) lk_Law_30 rfl rfl e1 (by decide) rfl (rm_ok1 (by omega)) (Nat.le_of_ble_eq_true rfl) rm_c1 d_Law_make_5 ?_
  refine go_i2l d_Law_make_8 ?_
  obtain ⟨h4, e_h4, hf⟩ := bnd_x hf
  refine go_lastore d_Law_make_9 e_h4 ?_
  refine go_goto 17 d_Law_make_10 (by decide) ?_
  refine go_iconst (0 : Int32) d_Law_make_17 (by decide) ?_
  obtain ⟨e8, e9⟩ := Prod.mk.inj (Option.some.inj hf)
  subst e8; subst e9
  exact go_iretW d_Law_make_18 rfl ⟨rfl, rfl⟩ ⟨by decide, by decide⟩
theorem c_Law_make {l : Launch} {E : ET} (hl : l.stackTraces = false) {d : Nat} (hd : 129 ≤ d) {F : Nat} {r : Int32} {h9 : PH} {x : Nat} {a0 : Nat} {i1 : Int32} {i2 : Int32} {a3 : Nat} {h : PH} (hf : f_Law_make F a0 i1 i2 a3 h = some (r, h9)) : FnW l E m_Law_make hh_Law_make d [.ref a0, .int i1, .int i2, .ref a3] h x (PoX r h9) :=
  FnW.of hl (by decide +kernel) (Nat.le_of_ble_eq_true rfl) (gw_Law_make_0 hl hd a0 i1 i2 a3 h hf)
theorem lk_Law_105 : LkW "NumberPlaceLaw" 105 m_Law_make hh_Law_make 4 := ⟨w_in 866 (by decide +kernel) (by decide +kernel), w_in 867 (by decide +kernel) (by decide +kernel), w_in 868 (by decide +kernel) (by decide +kernel), w_in 0 (by decide +kernel) (by decide +kernel), by decide +kernel, by decide +kernel⟩
theorem d_Law_constraint_0 : decode method_8_code 0 = .ok (.aload_n 3, 1) := by decide +kernel
theorem d_Law_constraint_1 : decode method_8_code 1 = .ok (.iconst 0, 1) := by decide +kernel
theorem d_Law_constraint_2 : decode method_8_code 2 = .ok (.aload_n 0, 1) := by decide +kernel
theorem d_Law_constraint_3 : decode method_8_code 3 = .ok (.iload_n 1, 1) := by decide +kernel
theorem d_Law_constraint_4 : decode method_8_code 4 = .ok (.iload_n 2, 1) := by decide +kernel
theorem d_Law_constraint_5 : decode method_8_code 5 = .ok (.invokevirtual 33, 3) := by decide +kernel
theorem d_Law_constraint_8 : decode method_8_code 8 = .ok (.i2l, 1) := by decide +kernel
theorem d_Law_constraint_9 : decode method_8_code 9 = .ok (.lastore, 1) := by decide +kernel
theorem d_Law_constraint_10 : decode method_8_code 10 = .ok (.goto 11, 3) := by decide +kernel
theorem d_Law_constraint_13 : decode method_8_code 13 = .ok (.astore 4, 2) := by decide +kernel
theorem d_Law_constraint_15 : decode method_8_code 15 = .ok (.iconst 1, 1) := by decide +kernel
theorem d_Law_constraint_16 : decode method_8_code 16 = .ok (.ireturn, 1) := by decide +kernel
theorem d_Law_constraint_17 : decode method_8_code 17 = .ok (.astore 4, 2) := by decide +kernel
theorem d_Law_constraint_19 : decode method_8_code 19 = .ok (.iconst 2, 1) := by decide +kernel
theorem d_Law_constraint_20 : decode method_8_code 20 = .ok (.ireturn, 1) := by decide +kernel
theorem d_Law_constraint_21 : decode method_8_code 21 = .ok (.iconst 0, 1) := by decide +kernel
theorem d_Law_constraint_22 : decode method_8_code 22 = .ok (.ireturn, 1) := by decide +kernel
def m_Law_constraint : MT := (⟨"NumberPlaceLaw", "constraint", "(LNumberPlace;II[J)I"⟩, method_8_code, 5, some .int)
def hh_Law_constraint : List (Nat × Nat × Nat × Nat) := [(0, 10, 13, 13), (0, 10, 17, 15)]
def f_Law_constraint (a0 : Nat) (i1 : Int32) (i2 : Int32) (a3 : Nat) (h : PH) : Option (Int32 × PH) :=
  bnd (cK h a0 9) fun _ => bndC (f_Np_constraint a0 i1 i2 h) (fun x2 h3 => bnd (sL h3 a3 (0 : Int32) (x2.toInt64)) fun h4 => some ((0 : Int32), h4)) (hd2 0 1)
theorem gw_Law_constraint_0 {l : Launch} {E : ET} (hl : l.stackTraces = false) {d : Nat} (hd : 8 ≤ d) {r : Int32} {h9 : PH} {x : Nat} (a0 : Nat) (i1 : Int32) (i2 : Int32) (a3 : Nat) (h : PH) (hf : f_Law_constraint a0 i1 i2 a3 h = some (r, h9)) : Go l E m_Law_constraint (rm d 1 6) (KW l E hh_Law_constraint (PoX r h9)) 0 0 h x 0 [(0, .ref a0), (1, .int i1), (2, .int i2), (3, .ref a3)] [] := by
  unfold f_Law_constraint at hf
  refine go_aload_n 3 d_Law_constraint_0 rfl ?_
  refine go_iconst (0 : Int32) d_Law_constraint_1 (by decide) ?_
  refine go_aload_n 0 d_Law_constraint_2 rfl ?_
  refine go_iload_n 1 d_Law_constraint_3 rfl ?_
  refine go_iload_n 2 d_Law_constraint_4 rfl ?_
  obtain ⟨_, e1, hf⟩ := bnd_x hf
  rcases bndC_x hf with ⟨j, e_x2, e_c⟩ | ⟨x2, h3, e_x2, hf⟩
  · rcases hd2_x e_c with ⟨rfl, rfl⟩ | ⟨rfl, rfl⟩
    · exact go_catchV [] (0, 10, 13, 13) [(0, 10, 17, 15)] rfl (fun z hz => nomatch hz) (by decide) (by decide) lc_0 cs_0 (HWd_w d_Law_constraint_13 d_Law_constraint_15 d_Law_constraint_16 (by decide) rfl (by decide) (fun _ => ⟨rfl, rfl⟩)) (As := [.int i1, .int i2]) (st := [.int (0 : Int32), .ref a3]) (x_Np_constraint hl (d := d - 1) (by omega) e_x2) lk_Law_33 rfl rfl e1 (by decide) rfl (rm_ok1 (by omega)) (Nat.le_of_ble_eq_true rfl) d_Law_constraint_5
    · exact go_catchV [(0, 10, 13, 13)] (0, 10, 17, 15) [] rfl (fun z hz => by rcases List.mem_cons.mp hz with rfl | hz; exact ⟨by decide, xN 0, lc_0, by decide +kernel⟩; cases hz) (by decide) (by decide) lc_1 cs_1 (HWd_w d_Law_constraint_17 d_Law_constraint_19 d_Law_constraint_20 (by decide) rfl (by decide) (fun _ => ⟨rfl, rfl⟩)) (As := [.int i1, .int i2]) (st := [.int (0 : Int32), .ref a3]) (x_Np_constraint hl (d := d - 1) (by omega) e_x2) lk_Law_33 rfl rfl e1 (by decide) rfl (rm_ok1 (by omega)) (Nat.le_of_ble_eq_true rfl) d_Law_constraint_5
  refine go_callV_I (As := [.int i1, .int i2]) (st := [.int (0 : Int32), .ref a3]) (c_Np_constraint (d := d - 1) (by omega) e_x2) lk_Law_33 rfl rfl e1 (by decide) rfl (rm_ok1 (by omega)) (Nat.le_of_ble_eq_true rfl) rm_c1 d_Law_constraint_5 ?_
  refine go_i2l d_Law_constraint_8 ?_
  obtain ⟨h4, e_h4, hf⟩ := bnd_x hf
  refine go_lastore d_Law_constraint_9 e_h4 ?_
  refine go_goto 21 d_Law_constraint_10 (by decide) ?_
  refine go_iconst (0 : Int32) d_Law_constraint_21 (by decide) ?_
  obtain ⟨e8, e9⟩ := Prod.mk.inj (Option.some.inj hf)
  subst e8; subst e9
  exact go_iretW d_Law_constraint_22 rfl ⟨rfl, rfl⟩ ⟨by decide, by decide⟩
theorem c_Law_constraint {l : Launch} {E : ET} (hl : l.stackTraces = false) {d : Nat} (hd : 8 ≤ d) {r : Int32} {h9 : PH} {x : Nat} {a0 : Nat} {i1 : Int32} {i2 : Int32} {a3 : Nat} {h : PH} (hf : f_Law_constraint a0 i1 i2 a3 h = some (r, h9)) : FnW l E m_Law_constraint hh_Law_constraint d [.ref a0, .int i1, .int i2, .ref a3] h x (PoX r h9) :=
  FnW.of hl (by decide +kernel) (Nat.le_of_ble_eq_true rfl) (gw_Law_constraint_0 hl hd a0 i1 i2 a3 h hf)
theorem lk_Law_108 : LkW "NumberPlaceLaw" 108 m_Law_constraint hh_Law_constraint 4 := ⟨w_in 899 (by decide +kernel) (by decide +kernel), w_in 900 (by decide +kernel) (by decide +kernel), w_in 901 (by decide +kernel) (by decide +kernel), w_in 0 (by decide +kernel) (by decide +kernel), by decide +kernel, by decide +kernel⟩
theorem d_Law_cellOf_0 : decode method_9_code 0 = .ok (.aload_n 3, 1) := by decide +kernel
theorem d_Law_cellOf_1 : decode method_9_code 1 = .ok (.iconst 0, 1) := by decide +kernel
theorem d_Law_cellOf_2 : decode method_9_code 2 = .ok (.aload_n 0, 1) := by decide +kernel
theorem d_Law_cellOf_3 : decode method_9_code 3 = .ok (.iload_n 1, 1) := by decide +kernel
theorem d_Law_cellOf_4 : decode method_9_code 4 = .ok (.iload_n 2, 1) := by decide +kernel
theorem d_Law_cellOf_5 : decode method_9_code 5 = .ok (.invokevirtual 36, 3) := by decide +kernel
theorem d_Law_cellOf_8 : decode method_9_code 8 = .ok (.i2l, 1) := by decide +kernel
theorem d_Law_cellOf_9 : decode method_9_code 9 = .ok (.lastore, 1) := by decide +kernel
theorem d_Law_cellOf_10 : decode method_9_code 10 = .ok (.goto 7, 3) := by decide +kernel
theorem d_Law_cellOf_13 : decode method_9_code 13 = .ok (.astore 4, 2) := by decide +kernel
theorem d_Law_cellOf_15 : decode method_9_code 15 = .ok (.iconst 1, 1) := by decide +kernel
theorem d_Law_cellOf_16 : decode method_9_code 16 = .ok (.ireturn, 1) := by decide +kernel
theorem d_Law_cellOf_17 : decode method_9_code 17 = .ok (.iconst 0, 1) := by decide +kernel
theorem d_Law_cellOf_18 : decode method_9_code 18 = .ok (.ireturn, 1) := by decide +kernel
def m_Law_cellOf : MT := (⟨"NumberPlaceLaw", "cellOf", "(LNumberPlace;II[J)I"⟩, method_9_code, 5, some .int)
def hh_Law_cellOf : List (Nat × Nat × Nat × Nat) := [(0, 10, 13, 13)]
def f_Law_cellOf (a0 : Nat) (i1 : Int32) (i2 : Int32) (a3 : Nat) (h : PH) : Option (Int32 × PH) :=
  bnd (cK h a0 9) fun _ => bndC (f_Np_cellOf a0 i1 i2 h) (fun x2 h3 => bnd (sL h3 a3 (0 : Int32) (x2.toInt64)) fun h4 => some ((0 : Int32), h4)) (hd1 0)
theorem gw_Law_cellOf_0 {l : Launch} {E : ET} (hl : l.stackTraces = false) {d : Nat} (hd : 8 ≤ d) {r : Int32} {h9 : PH} {x : Nat} (a0 : Nat) (i1 : Int32) (i2 : Int32) (a3 : Nat) (h : PH) (hf : f_Law_cellOf a0 i1 i2 a3 h = some (r, h9)) : Go l E m_Law_cellOf (rm d 1 6) (KW l E hh_Law_cellOf (PoX r h9)) 0 0 h x 0 [(0, .ref a0), (1, .int i1), (2, .int i2), (3, .ref a3)] [] := by
  unfold f_Law_cellOf at hf
  refine go_aload_n 3 d_Law_cellOf_0 rfl ?_
  refine go_iconst (0 : Int32) d_Law_cellOf_1 (by decide) ?_
  refine go_aload_n 0 d_Law_cellOf_2 rfl ?_
  refine go_iload_n 1 d_Law_cellOf_3 rfl ?_
  refine go_iload_n 2 d_Law_cellOf_4 rfl ?_
  obtain ⟨_, e1, hf⟩ := bnd_x hf
  rcases bndC_x hf with ⟨j, e_x2, e_c⟩ | ⟨x2, h3, e_x2, hf⟩
  · rcases hd1_x e_c with ⟨rfl, rfl⟩
    · exact go_catchV [] (0, 10, 13, 13) [] rfl (fun z hz => nomatch hz) (by decide) (by decide) lc_0 cs_0 (HWd_w d_Law_cellOf_13 d_Law_cellOf_15 d_Law_cellOf_16 (by decide) rfl (by decide) (fun _ => ⟨rfl, rfl⟩)) (As := [.int i1, .int i2]) (st := [.int (0 : Int32), .ref a3]) (x_Np_cellOf hl (d := d - 1) (by omega) e_x2) lk_Law_36 rfl rfl e1 (by decide) rfl (rm_ok1 (by omega)) (Nat.le_of_ble_eq_true rfl) d_Law_cellOf_5
  refine go_callV_I (As := [.int i1, .int i2]) (st := [.int (0 : Int32), .ref a3]) (c_Np_cellOf (d := d - 1) (by omega) e_x2) lk_Law_36 rfl rfl e1 (by decide) rfl (rm_ok1 (by omega)) (Nat.le_of_ble_eq_true rfl) rm_c1 d_Law_cellOf_5 ?_
  refine go_i2l d_Law_cellOf_8 ?_
  obtain ⟨h4, e_h4, hf⟩ := bnd_x hf
  refine go_lastore d_Law_cellOf_9 e_h4 ?_
  refine go_goto 17 d_Law_cellOf_10 (by decide) ?_
  refine go_iconst (0 : Int32) d_Law_cellOf_17 (by decide) ?_
  obtain ⟨e8, e9⟩ := Prod.mk.inj (Option.some.inj hf)
  subst e8; subst e9
  exact go_iretW d_Law_cellOf_18 rfl ⟨rfl, rfl⟩ ⟨by decide, by decide⟩
theorem c_Law_cellOf {l : Launch} {E : ET} (hl : l.stackTraces = false) {d : Nat} (hd : 8 ≤ d) {r : Int32} {h9 : PH} {x : Nat} {a0 : Nat} {i1 : Int32} {i2 : Int32} {a3 : Nat} {h : PH} (hf : f_Law_cellOf a0 i1 i2 a3 h = some (r, h9)) : FnW l E m_Law_cellOf hh_Law_cellOf d [.ref a0, .int i1, .int i2, .ref a3] h x (PoX r h9) :=
  FnW.of hl (by decide +kernel) (Nat.le_of_ble_eq_true rfl) (gw_Law_cellOf_0 hl hd a0 i1 i2 a3 h hf)
theorem lk_Law_111 : LkW "NumberPlaceLaw" 111 m_Law_cellOf hh_Law_cellOf 4 := ⟨w_in 906 (by decide +kernel) (by decide +kernel), w_in 907 (by decide +kernel) (by decide +kernel), w_in 908 (by decide +kernel) (by decide +kernel), w_in 0 (by decide +kernel) (by decide +kernel), by decide +kernel, by decide +kernel⟩
theorem d_Law_count_0 : decode method_10_code 0 = .ok (.aload_n 2, 1) := by decide +kernel
theorem d_Law_count_1 : decode method_10_code 1 = .ok (.iconst 0, 1) := by decide +kernel
theorem d_Law_count_2 : decode method_10_code 2 = .ok (.aload_n 0, 1) := by decide +kernel
theorem d_Law_count_3 : decode method_10_code 3 = .ok (.iload_n 1, 1) := by decide +kernel
theorem d_Law_count_4 : decode method_10_code 4 = .ok (.invokevirtual 39, 3) := by decide +kernel
theorem d_Law_count_7 : decode method_10_code 7 = .ok (.i2l, 1) := by decide +kernel
theorem d_Law_count_8 : decode method_10_code 8 = .ok (.lastore, 1) := by decide +kernel
theorem d_Law_count_9 : decode method_10_code 9 = .ok (.goto 6, 3) := by decide +kernel
theorem d_Law_count_12 : decode method_10_code 12 = .ok (.astore_n 3, 1) := by decide +kernel
theorem d_Law_count_13 : decode method_10_code 13 = .ok (.iconst 1, 1) := by decide +kernel
theorem d_Law_count_14 : decode method_10_code 14 = .ok (.ireturn, 1) := by decide +kernel
theorem d_Law_count_15 : decode method_10_code 15 = .ok (.iconst 0, 1) := by decide +kernel
theorem d_Law_count_16 : decode method_10_code 16 = .ok (.ireturn, 1) := by decide +kernel
def m_Law_count : MT := (⟨"NumberPlaceLaw", "count", "(LNumberPlace;I[J)I"⟩, method_10_code, 4, some .int)
def hh_Law_count : List (Nat × Nat × Nat × Nat) := [(0, 9, 12, 15)]
def f_Law_count (F : Nat) (a0 : Nat) (i1 : Int32) (a2 : Nat) (h : PH) : Option (Int32 × PH) :=
  bnd (cK h a0 9) fun _ => bndC (f_Np_count F a0 i1 h) (fun x2 h3 => bnd (sL h3 a2 (0 : Int32) (x2.toInt64)) fun h4 => some ((0 : Int32), h4)) (hd1 1)
theorem gw_Law_count_0 {l : Launch} {E : ET} (hl : l.stackTraces = false) {d : Nat} (hd : 8 ≤ d) {F : Nat} {r : Int32} {h9 : PH} {x : Nat} (a0 : Nat) (i1 : Int32) (a2 : Nat) (h : PH) (hf : f_Law_count F a0 i1 a2 h = some (r, h9)) : Go l E m_Law_count (rm d 1 6) (KW l E hh_Law_count (PoX r h9)) 0 0 h x 0 [(0, .ref a0), (1, .int i1), (2, .ref a2)] [] := by
  unfold f_Law_count at hf
  refine go_aload_n 2 d_Law_count_0 rfl ?_
  refine go_iconst (0 : Int32) d_Law_count_1 (by decide) ?_
  refine go_aload_n 0 d_Law_count_2 rfl ?_
  refine go_iload_n 1 d_Law_count_3 rfl ?_
  obtain ⟨_, e1, hf⟩ := bnd_x hf
  rcases bndC_x hf with ⟨j, e_x2, e_c⟩ | ⟨x2, h3, e_x2, hf⟩
  · rcases hd1_x e_c with ⟨rfl, rfl⟩
    · exact go_catchV [] (0, 9, 12, 15) [] rfl (fun z hz => nomatch hz) (by decide) (by decide) lc_1 cs_1 (HWd_n d_Law_count_12 d_Law_count_13 d_Law_count_14 (by decide) rfl (by decide) (fun _ => ⟨rfl, rfl⟩)) (As := [.int i1]) (st := [.int (0 : Int32), .ref a2]) (x_Np_count hl (d := d - 1) (by omega) e_x2) lk_Law_39 rfl rfl e1 (by decide) rfl (rm_ok1 (by omega)) (Nat.le_of_ble_eq_true rfl) d_Law_count_4
  refine go_callV_I (As := [.int i1]) (st := [.int (0 : Int32), .ref a2]) (c_Np_count (d := d - 1) (by omega) e_x2) lk_Law_39 rfl rfl e1 (by decide) rfl (rm_ok1 (by omega)) (Nat.le_of_ble_eq_true rfl) rm_c1 d_Law_count_4 ?_
  refine go_i2l d_Law_count_7 ?_
  obtain ⟨h4, e_h4, hf⟩ := bnd_x hf
  refine go_lastore d_Law_count_8 e_h4 ?_
  refine go_goto 15 d_Law_count_9 (by decide) ?_
  refine go_iconst (0 : Int32) d_Law_count_15 (by decide) ?_
  obtain ⟨e8, e9⟩ := Prod.mk.inj (Option.some.inj hf)
  subst e8; subst e9
  exact go_iretW d_Law_count_16 rfl ⟨rfl, rfl⟩ ⟨by decide, by decide⟩
theorem c_Law_count {l : Launch} {E : ET} (hl : l.stackTraces = false) {d : Nat} (hd : 8 ≤ d) {F : Nat} {r : Int32} {h9 : PH} {x : Nat} {a0 : Nat} {i1 : Int32} {a2 : Nat} {h : PH} (hf : f_Law_count F a0 i1 a2 h = some (r, h9)) : FnW l E m_Law_count hh_Law_count d [.ref a0, .int i1, .ref a2] h x (PoX r h9) :=
  FnW.of hl (by decide +kernel) (Nat.le_of_ble_eq_true rfl) (gw_Law_count_0 hl hd a0 i1 a2 h hf)
theorem lk_Law_114 : LkW "NumberPlaceLaw" 114 m_Law_count hh_Law_count 3 := ⟨w_in 915 (by decide +kernel) (by decide +kernel), w_in 916 (by decide +kernel) (by decide +kernel), w_in 917 (by decide +kernel) (by decide +kernel), w_in 0 (by decide +kernel) (by decide +kernel), by decide +kernel, by decide +kernel⟩
theorem d_Law_candidates_0 : decode method_11_code 0 = .ok (.aload_n 2, 1) := by decide +kernel
theorem d_Law_candidates_1 : decode method_11_code 1 = .ok (.iconst 0, 1) := by decide +kernel
theorem d_Law_candidates_2 : decode method_11_code 2 = .ok (.aload_n 0, 1) := by decide +kernel
theorem d_Law_candidates_3 : decode method_11_code 3 = .ok (.iload_n 1, 1) := by decide +kernel
theorem d_Law_candidates_4 : decode method_11_code 4 = .ok (.invokevirtual 43, 3) := by decide +kernel
theorem d_Law_candidates_7 : decode method_11_code 7 = .ok (.i2l, 1) := by decide +kernel
theorem d_Law_candidates_8 : decode method_11_code 8 = .ok (.lastore, 1) := by decide +kernel
theorem d_Law_candidates_9 : decode method_11_code 9 = .ok (.goto 6, 3) := by decide +kernel
theorem d_Law_candidates_12 : decode method_11_code 12 = .ok (.astore_n 3, 1) := by decide +kernel
theorem d_Law_candidates_13 : decode method_11_code 13 = .ok (.iconst 1, 1) := by decide +kernel
theorem d_Law_candidates_14 : decode method_11_code 14 = .ok (.ireturn, 1) := by decide +kernel
theorem d_Law_candidates_15 : decode method_11_code 15 = .ok (.iconst 0, 1) := by decide +kernel
theorem d_Law_candidates_16 : decode method_11_code 16 = .ok (.ireturn, 1) := by decide +kernel
def m_Law_candidates : MT := (⟨"NumberPlaceLaw", "candidates", "(LNumberPlace;I[J)I"⟩, method_11_code, 4, some .int)
def hh_Law_candidates : List (Nat × Nat × Nat × Nat) := [(0, 9, 12, 13)]
def f_Law_candidates (F : Nat) (a0 : Nat) (i1 : Int32) (a2 : Nat) (h : PH) : Option (Int32 × PH) :=
  bnd (cK h a0 9) fun _ => bndC (f_Np_candidates F a0 i1 h) (fun x2 h3 => bnd (sL h3 a2 (0 : Int32) (x2.toInt64)) fun h4 => some ((0 : Int32), h4)) (hd1 0)
theorem gw_Law_candidates_0 {l : Launch} {E : ET} (hl : l.stackTraces = false) {d : Nat} (hd : 8 ≤ d) {F : Nat} {r : Int32} {h9 : PH} {x : Nat} (a0 : Nat) (i1 : Int32) (a2 : Nat) (h : PH) (hf : f_Law_candidates F a0 i1 a2 h = some (r, h9)) : Go l E m_Law_candidates (rm d 1 6) (KW l E hh_Law_candidates (PoX r h9)) 0 0 h x 0 [(0, .ref a0), (1, .int i1), (2, .ref a2)] [] := by
  unfold f_Law_candidates at hf
  refine go_aload_n 2 d_Law_candidates_0 rfl ?_
  refine go_iconst (0 : Int32) d_Law_candidates_1 (by decide) ?_
  refine go_aload_n 0 d_Law_candidates_2 rfl ?_
  refine go_iload_n 1 d_Law_candidates_3 rfl ?_
  obtain ⟨_, e1, hf⟩ := bnd_x hf
  rcases bndC_x hf with ⟨j, e_x2, e_c⟩ | ⟨x2, h3, e_x2, hf⟩
  · rcases hd1_x e_c with ⟨rfl, rfl⟩
    · exact go_catchV [] (0, 9, 12, 13) [] rfl (fun z hz => nomatch hz) (by decide) (by decide) lc_0 cs_0 (HWd_n d_Law_candidates_12 d_Law_candidates_13 d_Law_candidates_14 (by decide) rfl (by decide) (fun _ => ⟨rfl, rfl⟩)) (As := [.int i1]) (st := [.int (0 : Int32), .ref a2]) (x_Np_candidates hl (d := d - 1) (by omega) e_x2) lk_Law_43 rfl rfl e1 (by decide) rfl (rm_ok1 (by omega)) (Nat.le_of_ble_eq_true rfl) d_Law_candidates_4
  refine go_callV_I (As := [.int i1]) (st := [.int (0 : Int32), .ref a2]) (c_Np_candidates (d := d - 1) (by omega) e_x2) lk_Law_43 rfl rfl e1 (by decide) rfl (rm_ok1 (by omega)) (Nat.le_of_ble_eq_true rfl) rm_c1 d_Law_candidates_4 ?_
  refine go_i2l d_Law_candidates_7 ?_
  obtain ⟨h4, e_h4, hf⟩ := bnd_x hf
  refine go_lastore d_Law_candidates_8 e_h4 ?_
  refine go_goto 15 d_Law_candidates_9 (by decide) ?_
  refine go_iconst (0 : Int32) d_Law_candidates_15 (by decide) ?_
  obtain ⟨e8, e9⟩ := Prod.mk.inj (Option.some.inj hf)
  subst e8; subst e9
  exact go_iretW d_Law_candidates_16 rfl ⟨rfl, rfl⟩ ⟨by decide, by decide⟩
theorem c_Law_candidates {l : Launch} {E : ET} (hl : l.stackTraces = false) {d : Nat} (hd : 8 ≤ d) {F : Nat} {r : Int32} {h9 : PH} {x : Nat} {a0 : Nat} {i1 : Int32} {a2 : Nat} {h : PH} (hf : f_Law_candidates F a0 i1 a2 h = some (r, h9)) : FnW l E m_Law_candidates hh_Law_candidates d [.ref a0, .int i1, .ref a2] h x (PoX r h9) :=
  FnW.of hl (by decide +kernel) (Nat.le_of_ble_eq_true rfl) (gw_Law_candidates_0 hl hd a0 i1 a2 h hf)
theorem lk_Law_118 : LkW "NumberPlaceLaw" 118 m_Law_candidates hh_Law_candidates 3 := ⟨w_in 919 (by decide +kernel) (by decide +kernel), w_in 920 (by decide +kernel) (by decide +kernel), w_in 921 (by decide +kernel) (by decide +kernel), w_in 0 (by decide +kernel) (by decide +kernel), by decide +kernel, by decide +kernel⟩
theorem d_Law_cell_0 : decode method_12_code 0 = .ok (.aload_n 3, 1) := by decide +kernel
theorem d_Law_cell_1 : decode method_12_code 1 = .ok (.iconst 0, 1) := by decide +kernel
theorem d_Law_cell_2 : decode method_12_code 2 = .ok (.aload_n 0, 1) := by decide +kernel
theorem d_Law_cell_3 : decode method_12_code 3 = .ok (.iload_n 1, 1) := by decide +kernel
theorem d_Law_cell_4 : decode method_12_code 4 = .ok (.iload_n 2, 1) := by decide +kernel
theorem d_Law_cell_5 : decode method_12_code 5 = .ok (.invokevirtual 46, 3) := by decide +kernel
theorem d_Law_cell_8 : decode method_12_code 8 = .ok (.i2l, 1) := by decide +kernel
theorem d_Law_cell_9 : decode method_12_code 9 = .ok (.lastore, 1) := by decide +kernel
theorem d_Law_cell_10 : decode method_12_code 10 = .ok (.goto 11, 3) := by decide +kernel
theorem d_Law_cell_13 : decode method_12_code 13 = .ok (.astore 4, 2) := by decide +kernel
theorem d_Law_cell_15 : decode method_12_code 15 = .ok (.iconst 1, 1) := by decide +kernel
theorem d_Law_cell_16 : decode method_12_code 16 = .ok (.ireturn, 1) := by decide +kernel
theorem d_Law_cell_17 : decode method_12_code 17 = .ok (.astore 4, 2) := by decide +kernel
theorem d_Law_cell_19 : decode method_12_code 19 = .ok (.iconst 2, 1) := by decide +kernel
theorem d_Law_cell_20 : decode method_12_code 20 = .ok (.ireturn, 1) := by decide +kernel
theorem d_Law_cell_21 : decode method_12_code 21 = .ok (.iconst 0, 1) := by decide +kernel
theorem d_Law_cell_22 : decode method_12_code 22 = .ok (.ireturn, 1) := by decide +kernel
def m_Law_cell : MT := (⟨"NumberPlaceLaw", "cell", "(LNumberPlace;II[J)I"⟩, method_12_code, 5, some .int)
def hh_Law_cell : List (Nat × Nat × Nat × Nat) := [(0, 10, 13, 13), (0, 10, 17, 15)]
def f_Law_cell (F : Nat) (a0 : Nat) (i1 : Int32) (i2 : Int32) (a3 : Nat) (h : PH) : Option (Int32 × PH) :=
  bnd (cK h a0 9) fun _ => bndC (f_Np_cell F a0 i1 i2 h) (fun x2 h3 => bnd (sL h3 a3 (0 : Int32) (x2.toInt64)) fun h4 => some ((0 : Int32), h4)) (hd2 0 1)
theorem gw_Law_cell_0 {l : Launch} {E : ET} (hl : l.stackTraces = false) {d : Nat} (hd : 8 ≤ d) {F : Nat} {r : Int32} {h9 : PH} {x : Nat} (a0 : Nat) (i1 : Int32) (i2 : Int32) (a3 : Nat) (h : PH) (hf : f_Law_cell F a0 i1 i2 a3 h = some (r, h9)) : Go l E m_Law_cell (rm d 1 6) (KW l E hh_Law_cell (PoX r h9)) 0 0 h x 0 [(0, .ref a0), (1, .int i1), (2, .int i2), (3, .ref a3)] [] := by
  unfold f_Law_cell at hf
  refine go_aload_n 3 d_Law_cell_0 rfl ?_
  refine go_iconst (0 : Int32) d_Law_cell_1 (by decide) ?_
  refine go_aload_n 0 d_Law_cell_2 rfl ?_
  refine go_iload_n 1 d_Law_cell_3 rfl ?_
  refine go_iload_n 2 d_Law_cell_4 rfl ?_
  obtain ⟨_, e1, hf⟩ := bnd_x hf
  rcases bndC_x hf with ⟨j, e_x2, e_c⟩ | ⟨x2, h3, e_x2, hf⟩
  · rcases hd2_x e_c with ⟨rfl, rfl⟩ | ⟨rfl, rfl⟩
    · exact go_catchV [] (0, 10, 13, 13) [(0, 10, 17, 15)] rfl (fun z hz => nomatch hz) (by decide) (by decide) lc_0 cs_0 (HWd_w d_Law_cell_13 d_Law_cell_15 d_Law_cell_16 (by decide) rfl (by decide) (fun _ => ⟨rfl, rfl⟩)) (As := [.int i1, .int i2]) (st := [.int (0 : Int32), .ref a3]) (x_Np_cell hl (d := d - 1) (by omega) e_x2) lk_Law_46 rfl rfl e1 (by decide) rfl (rm_ok1 (by omega)) (Nat.le_of_ble_eq_true rfl) d_Law_cell_5
    · exact go_catchV [(0, 10, 13, 13)] (0, 10, 17, 15) [] rfl (fun z hz => by rcases List.mem_cons.mp hz with rfl | hz; exact ⟨by decide, xN 0, lc_0, by decide +kernel⟩; cases hz) (by decide) (by decide) lc_1 cs_1 (HWd_w d_Law_cell_17 d_Law_cell_19 d_Law_cell_20 (by decide) rfl (by decide) (fun _ => ⟨rfl, rfl⟩)) (As := [.int i1, .int i2]) (st := [.int (0 : Int32), .ref a3]) (x_Np_cell hl (d := d - 1) (by omega) e_x2) lk_Law_46 rfl rfl e1 (by decide) rfl (rm_ok1 (by omega)) (Nat.le_of_ble_eq_true rfl) d_Law_cell_5
  refine go_callV_I (As := [.int i1, .int i2]) (st := [.int (0 : Int32), .ref a3]) (c_Np_cell (d := d - 1) (by omega) e_x2) lk_Law_46 rfl rfl e1 (by decide) rfl (rm_ok1 (by omega)) (Nat.le_of_ble_eq_true rfl) rm_c1 d_Law_cell_5 ?_
  refine go_i2l d_Law_cell_8 ?_
  obtain ⟨h4, e_h4, hf⟩ := bnd_x hf
  refine go_lastore d_Law_cell_9 e_h4 ?_
  refine go_goto 21 d_Law_cell_10 (by decide) ?_
  refine go_iconst (0 : Int32) d_Law_cell_21 (by decide) ?_
  obtain ⟨e8, e9⟩ := Prod.mk.inj (Option.some.inj hf)
  subst e8; subst e9
  exact go_iretW d_Law_cell_22 rfl ⟨rfl, rfl⟩ ⟨by decide, by decide⟩
theorem c_Law_cell {l : Launch} {E : ET} (hl : l.stackTraces = false) {d : Nat} (hd : 8 ≤ d) {F : Nat} {r : Int32} {h9 : PH} {x : Nat} {a0 : Nat} {i1 : Int32} {i2 : Int32} {a3 : Nat} {h : PH} (hf : f_Law_cell F a0 i1 i2 a3 h = some (r, h9)) : FnW l E m_Law_cell hh_Law_cell d [.ref a0, .int i1, .int i2, .ref a3] h x (PoX r h9) :=
  FnW.of hl (by decide +kernel) (Nat.le_of_ble_eq_true rfl) (gw_Law_cell_0 hl hd a0 i1 i2 a3 h hf)
theorem lk_Law_121 : LkW "NumberPlaceLaw" 121 m_Law_cell hh_Law_cell 4 := ⟨w_in 923 (by decide +kernel) (by decide +kernel), w_in 924 (by decide +kernel) (by decide +kernel), w_in 925 (by decide +kernel) (by decide +kernel), w_in 0 (by decide +kernel) (by decide +kernel), by decide +kernel, by decide +kernel⟩
theorem d_Law_deduce_0 : decode method_13_code 0 = .ok (.aload_n 2, 1) := by decide +kernel
theorem d_Law_deduce_1 : decode method_13_code 1 = .ok (.iconst 0, 1) := by decide +kernel
theorem d_Law_deduce_2 : decode method_13_code 2 = .ok (.aload_n 0, 1) := by decide +kernel
theorem d_Law_deduce_3 : decode method_13_code 3 = .ok (.iload_n 1, 1) := by decide +kernel
theorem d_Law_deduce_4 : decode method_13_code 4 = .ok (.invokevirtual 49, 3) := by decide +kernel
theorem d_Law_deduce_7 : decode method_13_code 7 = .ok (.i2l, 1) := by decide +kernel
theorem d_Law_deduce_8 : decode method_13_code 8 = .ok (.lastore, 1) := by decide +kernel
theorem d_Law_deduce_9 : decode method_13_code 9 = .ok (.goto 6, 3) := by decide +kernel
theorem d_Law_deduce_12 : decode method_13_code 12 = .ok (.astore_n 3, 1) := by decide +kernel
theorem d_Law_deduce_13 : decode method_13_code 13 = .ok (.iconst 1, 1) := by decide +kernel
theorem d_Law_deduce_14 : decode method_13_code 14 = .ok (.ireturn, 1) := by decide +kernel
theorem d_Law_deduce_15 : decode method_13_code 15 = .ok (.iconst 0, 1) := by decide +kernel
theorem d_Law_deduce_16 : decode method_13_code 16 = .ok (.ireturn, 1) := by decide +kernel
def m_Law_deduce : MT := (⟨"NumberPlaceLaw", "deduce", "(LNumberPlace;I[J)I"⟩, method_13_code, 4, some .int)
def hh_Law_deduce : List (Nat × Nat × Nat × Nat) := [(0, 9, 12, 15)]
def f_Law_deduce (F : Nat) (a0 : Nat) (i1 : Int32) (a2 : Nat) (h : PH) : Option (Int32 × PH) :=
  bnd (cK h a0 9) fun _ => bndC (f_Np_deduce F a0 i1 h) (fun x2 h3 => bnd (sL h3 a2 (0 : Int32) (x2.toInt64)) fun h4 => some ((0 : Int32), h4)) (hd1 1)
theorem gw_Law_deduce_0 {l : Launch} {E : ET} (hl : l.stackTraces = false) {d : Nat} (hd : 67 ≤ d) {F : Nat} {r : Int32} {h9 : PH} {x : Nat} (a0 : Nat) (i1 : Int32) (a2 : Nat) (h : PH) (hf : f_Law_deduce F a0 i1 a2 h = some (r, h9)) : Go l E m_Law_deduce (rm d 1 6) (KW l E hh_Law_deduce (PoX r h9)) 0 0 h x 0 [(0, .ref a0), (1, .int i1), (2, .ref a2)] [] := by
  unfold f_Law_deduce at hf
  refine go_aload_n 2 d_Law_deduce_0 rfl ?_
  refine go_iconst (0 : Int32) d_Law_deduce_1 (by decide) ?_
  refine go_aload_n 0 d_Law_deduce_2 rfl ?_
  refine go_iload_n 1 d_Law_deduce_3 rfl ?_
  obtain ⟨_, e1, hf⟩ := bnd_x hf
  rcases bndC_x hf with ⟨j, e_x2, e_c⟩ | ⟨x2, h3, e_x2, hf⟩
  · rcases hd1_x e_c with ⟨rfl, rfl⟩
    · exact go_catchV [] (0, 9, 12, 15) [] rfl (fun z hz => nomatch hz) (by decide) (by decide) lc_1 cs_1 (HWd_n d_Law_deduce_12 d_Law_deduce_13 d_Law_deduce_14 (by decide) rfl (by decide) (fun _ => ⟨rfl, rfl⟩)) (As := [.int i1]) (st := [.int (0 : Int32), .ref a2]) (x_Np_deduce hl (d := d - 1) (by omega) e_x2) lk_Law_49 rfl rfl e1 (by decide) rfl (rm_ok1 (by omega)) (Nat.le_of_ble_eq_true rfl) d_Law_deduce_4
  refine go_callV_I (As := [.int i1]) (st := [.int (0 : Int32), .ref a2]) (c_Np_deduce (d := d - 1) (by omega) e_x2) lk_Law_49 rfl rfl e1 (by decide) rfl (rm_ok1 (by omega)) (Nat.le_of_ble_eq_true rfl) rm_c1 d_Law_deduce_4 ?_
  refine go_i2l d_Law_deduce_7 ?_
  obtain ⟨h4, e_h4, hf⟩ := bnd_x hf
  refine go_lastore d_Law_deduce_8 e_h4 ?_
  refine go_goto 15 d_Law_deduce_9 (by decide) ?_
  refine go_iconst (0 : Int32) d_Law_deduce_15 (by decide) ?_
  obtain ⟨e8, e9⟩ := Prod.mk.inj (Option.some.inj hf)
  subst e8; subst e9
  exact go_iretW d_Law_deduce_16 rfl ⟨rfl, rfl⟩ ⟨by decide, by decide⟩
theorem c_Law_deduce {l : Launch} {E : ET} (hl : l.stackTraces = false) {d : Nat} (hd : 67 ≤ d) {F : Nat} {r : Int32} {h9 : PH} {x : Nat} {a0 : Nat} {i1 : Int32} {a2 : Nat} {h : PH} (hf : f_Law_deduce F a0 i1 a2 h = some (r, h9)) : FnW l E m_Law_deduce hh_Law_deduce d [.ref a0, .int i1, .ref a2] h x (PoX r h9) :=
  FnW.of hl (by decide +kernel) (Nat.le_of_ble_eq_true rfl) (gw_Law_deduce_0 hl hd a0 i1 a2 h hf)
theorem lk_Law_124 : LkW "NumberPlaceLaw" 124 m_Law_deduce hh_Law_deduce 3 := ⟨w_in 927 (by decide +kernel) (by decide +kernel), w_in 928 (by decide +kernel) (by decide +kernel), w_in 929 (by decide +kernel) (by decide +kernel), w_in 0 (by decide +kernel) (by decide +kernel), by decide +kernel, by decide +kernel⟩
theorem d_Law_step_0 : decode method_14_code 0 = .ok (.aload_n 3, 1) := by decide +kernel
theorem d_Law_step_1 : decode method_14_code 1 = .ok (.iconst 0, 1) := by decide +kernel
theorem d_Law_step_2 : decode method_14_code 2 = .ok (.aload_n 0, 1) := by decide +kernel
theorem d_Law_step_3 : decode method_14_code 3 = .ok (.iload_n 1, 1) := by decide +kernel
theorem d_Law_step_4 : decode method_14_code 4 = .ok (.iload_n 2, 1) := by decide +kernel
theorem d_Law_step_5 : decode method_14_code 5 = .ok (.invokevirtual 52, 3) := by decide +kernel
theorem d_Law_step_8 : decode method_14_code 8 = .ok (.i2l, 1) := by decide +kernel
theorem d_Law_step_9 : decode method_14_code 9 = .ok (.lastore, 1) := by decide +kernel
theorem d_Law_step_10 : decode method_14_code 10 = .ok (.goto 11, 3) := by decide +kernel
theorem d_Law_step_13 : decode method_14_code 13 = .ok (.astore 4, 2) := by decide +kernel
theorem d_Law_step_15 : decode method_14_code 15 = .ok (.iconst 1, 1) := by decide +kernel
theorem d_Law_step_16 : decode method_14_code 16 = .ok (.ireturn, 1) := by decide +kernel
theorem d_Law_step_17 : decode method_14_code 17 = .ok (.astore 4, 2) := by decide +kernel
theorem d_Law_step_19 : decode method_14_code 19 = .ok (.iconst 2, 1) := by decide +kernel
theorem d_Law_step_20 : decode method_14_code 20 = .ok (.ireturn, 1) := by decide +kernel
theorem d_Law_step_21 : decode method_14_code 21 = .ok (.iconst 0, 1) := by decide +kernel
theorem d_Law_step_22 : decode method_14_code 22 = .ok (.ireturn, 1) := by decide +kernel
def m_Law_step : MT := (⟨"NumberPlaceLaw", "step", "(LNumberPlace;II[J)I"⟩, method_14_code, 5, some .int)
def hh_Law_step : List (Nat × Nat × Nat × Nat) := [(0, 10, 13, 13), (0, 10, 17, 15)]
def f_Law_step (a0 : Nat) (i1 : Int32) (i2 : Int32) (a3 : Nat) (h : PH) : Option (Int32 × PH) :=
  bnd (cK h a0 9) fun _ => bndC (f_Np_step a0 i1 i2 h) (fun x2 h3 => bnd (sL h3 a3 (0 : Int32) (x2.toInt64)) fun h4 => some ((0 : Int32), h4)) (hd2 0 1)
theorem gw_Law_step_0 {l : Launch} {E : ET} (hl : l.stackTraces = false) {d : Nat} (hd : 8 ≤ d) {r : Int32} {h9 : PH} {x : Nat} (a0 : Nat) (i1 : Int32) (i2 : Int32) (a3 : Nat) (h : PH) (hf : f_Law_step a0 i1 i2 a3 h = some (r, h9)) : Go l E m_Law_step (rm d 1 6) (KW l E hh_Law_step (PoX r h9)) 0 0 h x 0 [(0, .ref a0), (1, .int i1), (2, .int i2), (3, .ref a3)] [] := by
  unfold f_Law_step at hf
  refine go_aload_n 3 d_Law_step_0 rfl ?_
  refine go_iconst (0 : Int32) d_Law_step_1 (by decide) ?_
  refine go_aload_n 0 d_Law_step_2 rfl ?_
  refine go_iload_n 1 d_Law_step_3 rfl ?_
  refine go_iload_n 2 d_Law_step_4 rfl ?_
  obtain ⟨_, e1, hf⟩ := bnd_x hf
  rcases bndC_x hf with ⟨j, e_x2, e_c⟩ | ⟨x2, h3, e_x2, hf⟩
  · rcases hd2_x e_c with ⟨rfl, rfl⟩ | ⟨rfl, rfl⟩
    · exact go_catchV [] (0, 10, 13, 13) [(0, 10, 17, 15)] rfl (fun z hz => nomatch hz) (by decide) (by decide) lc_0 cs_0 (HWd_w d_Law_step_13 d_Law_step_15 d_Law_step_16 (by decide) rfl (by decide) (fun _ => ⟨rfl, rfl⟩)) (As := [.int i1, .int i2]) (st := [.int (0 : Int32), .ref a3]) (x_Np_step hl (d := d - 1) (by omega) e_x2) lk_Law_52 rfl rfl e1 (by decide) rfl (rm_ok1 (by omega)) (Nat.le_of_ble_eq_true rfl) d_Law_step_5
    · exact go_catchV [(0, 10, 13, 13)] (0, 10, 17, 15) [] rfl (fun z hz => by rcases List.mem_cons.mp hz with rfl | hz; exact ⟨by decide, xN 0, lc_0, by decide +kernel⟩; cases hz) (by decide) (by decide) lc_1 cs_1 (HWd_w d_Law_step_17 d_Law_step_19 d_Law_step_20 (by decide) rfl (by decide) (fun _ => ⟨rfl, rfl⟩)) (As := [.int i1, .int i2]) (st := [.int (0 : Int32), .ref a3]) (x_Np_step hl (d := d - 1) (by omega) e_x2) lk_Law_52 rfl rfl e1 (by decide) rfl (rm_ok1 (by omega)) (Nat.le_of_ble_eq_true rfl) d_Law_step_5
  refine go_callV_I (As := [.int i1, .int i2]) (st := [.int (0 : Int32), .ref a3]) (c_Np_step (d := d - 1) (by omega) e_x2) lk_Law_52 rfl rfl e1 (by decide) rfl (rm_ok1 (by omega)) (Nat.le_of_ble_eq_true rfl) rm_c1 d_Law_step_5 ?_
  refine go_i2l d_Law_step_8 ?_
  obtain ⟨h4, e_h4, hf⟩ := bnd_x hf
  refine go_lastore d_Law_step_9 e_h4 ?_
  refine go_goto 21 d_Law_step_10 (by decide) ?_
  refine go_iconst (0 : Int32) d_Law_step_21 (by decide) ?_
  obtain ⟨e8, e9⟩ := Prod.mk.inj (Option.some.inj hf)
  subst e8; subst e9
  exact go_iretW d_Law_step_22 rfl ⟨rfl, rfl⟩ ⟨by decide, by decide⟩
theorem c_Law_step {l : Launch} {E : ET} (hl : l.stackTraces = false) {d : Nat} (hd : 8 ≤ d) {r : Int32} {h9 : PH} {x : Nat} {a0 : Nat} {i1 : Int32} {i2 : Int32} {a3 : Nat} {h : PH} (hf : f_Law_step a0 i1 i2 a3 h = some (r, h9)) : FnW l E m_Law_step hh_Law_step d [.ref a0, .int i1, .int i2, .ref a3] h x (PoX r h9) :=
  FnW.of hl (by decide +kernel) (Nat.le_of_ble_eq_true rfl) (gw_Law_step_0 hl hd a0 i1 i2 a3 h hf)
theorem lk_Law_139 : LkW "NumberPlaceLaw" 139 m_Law_step hh_Law_step 4 := ⟨w_in 939 (by decide +kernel) (by decide +kernel), w_in 940 (by decide +kernel) (by decide +kernel), w_in 941 (by decide +kernel) (by decide +kernel), w_in 0 (by decide +kernel) (by decide +kernel), by decide +kernel, by decide +kernel⟩
theorem d_Law_needs_0 : decode method_15_code 0 = .ok (.aload_n 2, 1) := by decide +kernel
theorem d_Law_needs_1 : decode method_15_code 1 = .ok (.iconst 0, 1) := by decide +kernel
theorem d_Law_needs_2 : decode method_15_code 2 = .ok (.aload_n 0, 1) := by decide +kernel
theorem d_Law_needs_3 : decode method_15_code 3 = .ok (.iload_n 1, 1) := by decide +kernel
theorem d_Law_needs_4 : decode method_15_code 4 = .ok (.invokevirtual 55, 3) := by decide +kernel
theorem d_Law_needs_7 : decode method_15_code 7 = .ok (.i2l, 1) := by decide +kernel
theorem d_Law_needs_8 : decode method_15_code 8 = .ok (.lastore, 1) := by decide +kernel
theorem d_Law_needs_9 : decode method_15_code 9 = .ok (.goto 6, 3) := by decide +kernel
theorem d_Law_needs_12 : decode method_15_code 12 = .ok (.astore_n 3, 1) := by decide +kernel
theorem d_Law_needs_13 : decode method_15_code 13 = .ok (.iconst 1, 1) := by decide +kernel
theorem d_Law_needs_14 : decode method_15_code 14 = .ok (.ireturn, 1) := by decide +kernel
theorem d_Law_needs_15 : decode method_15_code 15 = .ok (.iconst 0, 1) := by decide +kernel
theorem d_Law_needs_16 : decode method_15_code 16 = .ok (.ireturn, 1) := by decide +kernel
def m_Law_needs : MT := (⟨"NumberPlaceLaw", "needs", "(LNumberPlace;I[J)I"⟩, method_15_code, 4, some .int)
def hh_Law_needs : List (Nat × Nat × Nat × Nat) := [(0, 9, 12, 15)]
def f_Law_needs (F : Nat) (a0 : Nat) (i1 : Int32) (a2 : Nat) (h : PH) : Option (Int32 × PH) :=
  bnd (cK h a0 9) fun _ => bndC (f_Np_needs F a0 i1 h) (fun x2 h3 => bnd (sL h3 a2 (0 : Int32) (x2.toInt64)) fun h4 => some ((0 : Int32), h4)) (hd1 1)
theorem gw_Law_needs_0 {l : Launch} {E : ET} (hl : l.stackTraces = false) {d : Nat} (hd : 67 ≤ d) {F : Nat} {r : Int32} {h9 : PH} {x : Nat} (a0 : Nat) (i1 : Int32) (a2 : Nat) (h : PH) (hf : f_Law_needs F a0 i1 a2 h = some (r, h9)) : Go l E m_Law_needs (rm d 1 6) (KW l E hh_Law_needs (PoX r h9)) 0 0 h x 0 [(0, .ref a0), (1, .int i1), (2, .ref a2)] [] := by
  unfold f_Law_needs at hf
  refine go_aload_n 2 d_Law_needs_0 rfl ?_
  refine go_iconst (0 : Int32) d_Law_needs_1 (by decide) ?_
  refine go_aload_n 0 d_Law_needs_2 rfl ?_
  refine go_iload_n 1 d_Law_needs_3 rfl ?_
  obtain ⟨_, e1, hf⟩ := bnd_x hf
  rcases bndC_x hf with ⟨j, e_x2, e_c⟩ | ⟨x2, h3, e_x2, hf⟩
  · rcases hd1_x e_c with ⟨rfl, rfl⟩
    · exact go_catchV [] (0, 9, 12, 15) [] rfl (fun z hz => nomatch hz) (by decide) (by decide) lc_1 cs_1 (HWd_n d_Law_needs_12 d_Law_needs_13 d_Law_needs_14 (by decide) rfl (by decide) (fun _ => ⟨rfl, rfl⟩)) (As := [.int i1]) (st := [.int (0 : Int32), .ref a2]) (x_Np_needs hl (d := d - 1) (by omega) e_x2) lk_Law_55 rfl rfl e1 (by decide) rfl (rm_ok1 (by omega)) (Nat.le_of_ble_eq_true rfl) d_Law_needs_4
  refine go_callV_I (As := [.int i1]) (st := [.int (0 : Int32), .ref a2]) (c_Np_needs (d := d - 1) (by omega) e_x2) lk_Law_55 rfl rfl e1 (by decide) rfl (rm_ok1 (by omega)) (Nat.le_of_ble_eq_true rfl) rm_c1 d_Law_needs_4 ?_
  refine go_i2l d_Law_needs_7 ?_
  obtain ⟨h4, e_h4, hf⟩ := bnd_x hf
  refine go_lastore d_Law_needs_8 e_h4 ?_
  refine go_goto 15 d_Law_needs_9 (by decide) ?_
  refine go_iconst (0 : Int32) d_Law_needs_15 (by decide) ?_
  obtain ⟨e8, e9⟩ := Prod.mk.inj (Option.some.inj hf)
  subst e8; subst e9
  exact go_iretW d_Law_needs_16 rfl ⟨rfl, rfl⟩ ⟨by decide, by decide⟩
theorem c_Law_needs {l : Launch} {E : ET} (hl : l.stackTraces = false) {d : Nat} (hd : 67 ≤ d) {F : Nat} {r : Int32} {h9 : PH} {x : Nat} {a0 : Nat} {i1 : Int32} {a2 : Nat} {h : PH} (hf : f_Law_needs F a0 i1 a2 h = some (r, h9)) : FnW l E m_Law_needs hh_Law_needs d [.ref a0, .int i1, .ref a2] h x (PoX r h9) :=
  FnW.of hl (by decide +kernel) (Nat.le_of_ble_eq_true rfl) (gw_Law_needs_0 hl hd a0 i1 a2 h hf)
theorem lk_Law_142 : LkW "NumberPlaceLaw" 142 m_Law_needs hh_Law_needs 3 := ⟨w_in 948 (by decide +kernel) (by decide +kernel), w_in 949 (by decide +kernel) (by decide +kernel), w_in 950 (by decide +kernel) (by decide +kernel), w_in 0 (by decide +kernel) (by decide +kernel), by decide +kernel, by decide +kernel⟩
theorem d_Law_solutions_0 : decode method_16_code 0 = .ok (.aload_n 2, 1) := by decide +kernel
theorem d_Law_solutions_1 : decode method_16_code 1 = .ok (.iconst 0, 1) := by decide +kernel
theorem d_Law_solutions_2 : decode method_16_code 2 = .ok (.aload_n 0, 1) := by decide +kernel
theorem d_Law_solutions_3 : decode method_16_code 3 = .ok (.iload_n 1, 1) := by decide +kernel
theorem d_Law_solutions_4 : decode method_16_code 4 = .ok (.invokevirtual 58, 3) := by decide +kernel
theorem d_Law_solutions_7 : decode method_16_code 7 = .ok (.i2l, 1) := by decide +kernel
theorem d_Law_solutions_8 : decode method_16_code 8 = .ok (.lastore, 1) := by decide +kernel
theorem d_Law_solutions_9 : decode method_16_code 9 = .ok (.goto 6, 3) := by decide +kernel
theorem d_Law_solutions_12 : decode method_16_code 12 = .ok (.astore_n 3, 1) := by decide +kernel
theorem d_Law_solutions_13 : decode method_16_code 13 = .ok (.iconst 1, 1) := by decide +kernel
theorem d_Law_solutions_14 : decode method_16_code 14 = .ok (.ireturn, 1) := by decide +kernel
theorem d_Law_solutions_15 : decode method_16_code 15 = .ok (.iconst 0, 1) := by decide +kernel
theorem d_Law_solutions_16 : decode method_16_code 16 = .ok (.ireturn, 1) := by decide +kernel
def m_Law_solutions : MT := (⟨"NumberPlaceLaw", "solutions", "(LNumberPlace;I[J)I"⟩, method_16_code, 4, some .int)
def hh_Law_solutions : List (Nat × Nat × Nat × Nat) := [(0, 9, 12, 15)]
def f_Law_solutions (F : Nat) (a0 : Nat) (i1 : Int32) (a2 : Nat) (h : PH) : Option (Int32 × PH) :=
  bnd (cK h a0 9) fun _ => bndC (f_Np_solutions F a0 i1 h) (fun x2 h3 => bnd (sL h3 a2 (0 : Int32) (x2.toInt64)) fun h4 => some ((0 : Int32), h4)) (hd1 1)
theorem gw_Law_solutions_0 {l : Launch} {E : ET} (hl : l.stackTraces = false) {d : Nat} (hd : 129 ≤ d) {F : Nat} {r : Int32} {h9 : PH} {x : Nat} (a0 : Nat) (i1 : Int32) (a2 : Nat) (h : PH) (hf : f_Law_solutions F a0 i1 a2 h = some (r, h9)) : Go l E m_Law_solutions (rm d 1 6) (KW l E hh_Law_solutions (PoX r h9)) 0 0 h x 0 [(0, .ref a0), (1, .int i1), (2, .ref a2)] [] := by
  unfold f_Law_solutions at hf
  refine go_aload_n 2 d_Law_solutions_0 rfl ?_
  refine go_iconst (0 : Int32) d_Law_solutions_1 (by decide) ?_
  refine go_aload_n 0 d_Law_solutions_2 rfl ?_
  refine go_iload_n 1 d_Law_solutions_3 rfl ?_
  obtain ⟨_, e1, hf⟩ := bnd_x hf
  rcases bndC_x hf with ⟨j, e_x2, e_c⟩ | ⟨x2, h3, e_x2, hf⟩
  · rcases hd1_x e_c with ⟨rfl, rfl⟩
    · exact go_catchV [] (0, 9, 12, 15) [] rfl (fun z hz => nomatch hz) (by decide) (by decide) lc_1 cs_1 (HWd_n d_Law_solutions_12 d_Law_solutions_13 d_Law_solutions_14 (by decide) rfl (by decide) (fun _ => ⟨rfl, rfl⟩)) (As := [.int i1]) (st := [.int (0 : Int32), .ref a2]) (x_Np_solutions hl (d := d - 1) (by omega) e_x2) lk_Law_58 rfl rfl e1 (by decide) rfl (rm_ok1 (by omega)) (Nat.le_of_ble_eq_true rfl) d_Law_solutions_4
  refine go_callV_I (As := [.int i1]) (st := [.int (0 : Int32), .ref a2]) (c_Np_solutions (d := d - 1) (by omega) e_x2) lk_Law_58 rfl rfl e1 (by decide) rfl (rm_ok1 (by omega)) (Nat.le_of_ble_eq_true rfl) rm_c1 d_Law_solutions_4 ?_
  refine go_i2l d_Law_solutions_7 ?_
  obtain ⟨h4, e_h4, hf⟩ := bnd_x hf
  refine go_lastore d_Law_solutions_8 e_h4 ?_
  refine go_goto 15 d_Law_solutions_9 (by decide) ?_
  refine go_iconst (0 : Int32) d_Law_solutions_15 (by decide) ?_
  obtain ⟨e8, e9⟩ := Prod.mk.inj (Option.some.inj hf)
  subst e8; subst e9
  exact go_iretW d_Law_solutions_16 rfl ⟨rfl, rfl⟩ ⟨by decide, by decide⟩
theorem c_Law_solutions {l : Launch} {E : ET} (hl : l.stackTraces = false) {d : Nat} (hd : 129 ≤ d) {F : Nat} {r : Int32} {h9 : PH} {x : Nat} {a0 : Nat} {i1 : Int32} {a2 : Nat} {h : PH} (hf : f_Law_solutions F a0 i1 a2 h = some (r, h9)) : FnW l E m_Law_solutions hh_Law_solutions d [.ref a0, .int i1, .ref a2] h x (PoX r h9) :=
  FnW.of hl (by decide +kernel) (Nat.le_of_ble_eq_true rfl) (gw_Law_solutions_0 hl hd a0 i1 a2 h hf)
theorem lk_Law_145 : LkW "NumberPlaceLaw" 145 m_Law_solutions hh_Law_solutions 3 := ⟨w_in 956 (by decide +kernel) (by decide +kernel), w_in 957 (by decide +kernel) (by decide +kernel), w_in 958 (by decide +kernel) (by decide +kernel), w_in 0 (by decide +kernel) (by decide +kernel), by decide +kernel, by decide +kernel⟩
theorem d_Law_solved_0 : decode method_17_code 0 = .ok (.aload_n 2, 1) := by decide +kernel
theorem d_Law_solved_1 : decode method_17_code 1 = .ok (.iconst 0, 1) := by decide +kernel
theorem d_Law_solved_2 : decode method_17_code 2 = .ok (.aload_n 0, 1) := by decide +kernel
theorem d_Law_solved_3 : decode method_17_code 3 = .ok (.iload_n 1, 1) := by decide +kernel
theorem d_Law_solved_4 : decode method_17_code 4 = .ok (.invokevirtual 61, 3) := by decide +kernel
theorem d_Law_solved_7 : decode method_17_code 7 = .ok (.i2l, 1) := by decide +kernel
theorem d_Law_solved_8 : decode method_17_code 8 = .ok (.lastore, 1) := by decide +kernel
theorem d_Law_solved_9 : decode method_17_code 9 = .ok (.goto 6, 3) := by decide +kernel
theorem d_Law_solved_12 : decode method_17_code 12 = .ok (.astore_n 3, 1) := by decide +kernel
theorem d_Law_solved_13 : decode method_17_code 13 = .ok (.iconst 1, 1) := by decide +kernel
theorem d_Law_solved_14 : decode method_17_code 14 = .ok (.ireturn, 1) := by decide +kernel
theorem d_Law_solved_15 : decode method_17_code 15 = .ok (.iconst 0, 1) := by decide +kernel
theorem d_Law_solved_16 : decode method_17_code 16 = .ok (.ireturn, 1) := by decide +kernel
def m_Law_solved : MT := (⟨"NumberPlaceLaw", "solved", "(LNumberPlace;I[J)I"⟩, method_17_code, 4, some .int)
def hh_Law_solved : List (Nat × Nat × Nat × Nat) := [(0, 9, 12, 13)]
def f_Law_solved (F : Nat) (a0 : Nat) (i1 : Int32) (a2 : Nat) (h : PH) : Option (Int32 × PH) :=
  bnd (cK h a0 9) fun _ => bndC (f_Np_solved F a0 i1 h) (fun x2 h3 => bnd (sL h3 a2 (0 : Int32) (x2.toInt64)) fun h4 => some ((0 : Int32), h4)) (hd1 0)
theorem gw_Law_solved_0 {l : Launch} {E : ET} (hl : l.stackTraces = false) {d : Nat} (hd : 129 ≤ d) {F : Nat} {r : Int32} {h9 : PH} {x : Nat} (a0 : Nat) (i1 : Int32) (a2 : Nat) (h : PH) (hf : f_Law_solved F a0 i1 a2 h = some (r, h9)) : Go l E m_Law_solved (rm d 1 6) (KW l E hh_Law_solved (PoX r h9)) 0 0 h x 0 [(0, .ref a0), (1, .int i1), (2, .ref a2)] [] := by
  unfold f_Law_solved at hf
  refine go_aload_n 2 d_Law_solved_0 rfl ?_
  refine go_iconst (0 : Int32) d_Law_solved_1 (by decide) ?_
  refine go_aload_n 0 d_Law_solved_2 rfl ?_
  refine go_iload_n 1 d_Law_solved_3 rfl ?_
  obtain ⟨_, e1, hf⟩ := bnd_x hf
  rcases bndC_x hf with ⟨j, e_x2, e_c⟩ | ⟨x2, h3, e_x2, hf⟩
  · rcases hd1_x e_c with ⟨rfl, rfl⟩
    · exact go_catchV [] (0, 9, 12, 13) [] rfl (fun z hz => nomatch hz) (by decide) (by decide) lc_0 cs_0 (HWd_n d_Law_solved_12 d_Law_solved_13 d_Law_solved_14 (by decide) rfl (by decide) (fun _ => ⟨rfl, rfl⟩)) (As := [.int i1]) (st := [.int (0 : Int32), .ref a2]) (x_Np_solved hl (d := d - 1) (by omega) e_x2) lk_Law_61 rfl rfl e1 (by decide) rfl (rm_ok1 (by omega)) (Nat.le_of_ble_eq_true rfl) d_Law_solved_4
  refine go_callV_I (As := [.int i1]) (st := [.int (0 : Int32), .ref a2]) (c_Np_solved (d := d - 1) (by omega) e_x2) lk_Law_61 rfl rfl e1 (by decide) rfl (rm_ok1 (by omega)) (Nat.le_of_ble_eq_true rfl) rm_c1 d_Law_solved_4 ?_
  refine go_i2l d_Law_solved_7 ?_
  obtain ⟨h4, e_h4, hf⟩ := bnd_x hf
  refine go_lastore d_Law_solved_8 e_h4 ?_
  refine go_goto 15 d_Law_solved_9 (by decide) ?_
  refine go_iconst (0 : Int32) d_Law_solved_15 (by decide) ?_
  obtain ⟨e8, e9⟩ := Prod.mk.inj (Option.some.inj hf)
  subst e8; subst e9
  exact go_iretW d_Law_solved_16 rfl ⟨rfl, rfl⟩ ⟨by decide, by decide⟩
theorem c_Law_solved {l : Launch} {E : ET} (hl : l.stackTraces = false) {d : Nat} (hd : 129 ≤ d) {F : Nat} {r : Int32} {h9 : PH} {x : Nat} {a0 : Nat} {i1 : Int32} {a2 : Nat} {h : PH} (hf : f_Law_solved F a0 i1 a2 h = some (r, h9)) : FnW l E m_Law_solved hh_Law_solved d [.ref a0, .int i1, .ref a2] h x (PoX r h9) :=
  FnW.of hl (by decide +kernel) (Nat.le_of_ble_eq_true rfl) (gw_Law_solved_0 hl hd a0 i1 a2 h hf)
theorem lk_Law_152 : LkW "NumberPlaceLaw" 152 m_Law_solved hh_Law_solved 3 := ⟨w_in 964 (by decide +kernel) (by decide +kernel), w_in 965 (by decide +kernel) (by decide +kernel), w_in 966 (by decide +kernel) (by decide +kernel), w_in 0 (by decide +kernel) (by decide +kernel), by decide +kernel, by decide +kernel⟩
theorem d_Law_possible_0 : decode method_18_code 0 = .ok (.aload_n 3, 1) := by decide +kernel
theorem d_Law_possible_1 : decode method_18_code 1 = .ok (.iconst 0, 1) := by decide +kernel
theorem d_Law_possible_2 : decode method_18_code 2 = .ok (.aload_n 0, 1) := by decide +kernel
theorem d_Law_possible_3 : decode method_18_code 3 = .ok (.iload_n 1, 1) := by decide +kernel
theorem d_Law_possible_4 : decode method_18_code 4 = .ok (.iload_n 2, 1) := by decide +kernel
theorem d_Law_possible_5 : decode method_18_code 5 = .ok (.invokevirtual 64, 3) := by decide +kernel
theorem d_Law_possible_8 : decode method_18_code 8 = .ok (.ifCond .eq 7, 3) := by decide +kernel
theorem d_Law_possible_11 : decode method_18_code 11 = .ok (.lconst 1, 1) := by decide +kernel
theorem d_Law_possible_12 : decode method_18_code 12 = .ok (.goto 4, 3) := by decide +kernel
theorem d_Law_possible_15 : decode method_18_code 15 = .ok (.lconst 0, 1) := by decide +kernel
theorem d_Law_possible_16 : decode method_18_code 16 = .ok (.lastore, 1) := by decide +kernel
theorem d_Law_possible_17 : decode method_18_code 17 = .ok (.goto 11, 3) := by decide +kernel
theorem d_Law_possible_20 : decode method_18_code 20 = .ok (.astore 4, 2) := by decide +kernel
theorem d_Law_possible_22 : decode method_18_code 22 = .ok (.iconst 1, 1) := by decide +kernel
theorem d_Law_possible_23 : decode method_18_code 23 = .ok (.ireturn, 1) := by decide +kernel
theorem d_Law_possible_24 : decode method_18_code 24 = .ok (.astore 4, 2) := by decide +kernel
theorem d_Law_possible_26 : decode method_18_code 26 = .ok (.iconst 2, 1) := by decide +kernel
theorem d_Law_possible_27 : decode method_18_code 27 = .ok (.ireturn, 1) := by decide +kernel
theorem d_Law_possible_28 : decode method_18_code 28 = .ok (.iconst 0, 1) := by decide +kernel
theorem d_Law_possible_29 : decode method_18_code 29 = .ok (.ireturn, 1) := by decide +kernel
def m_Law_possible : MT := (⟨"NumberPlaceLaw", "possible", "(LNumberPlace;II[J)I"⟩, method_18_code, 5, some .int)
def hh_Law_possible : List (Nat × Nat × Nat × Nat) := [(0, 17, 20, 13), (0, 17, 24, 15)]
def b_Law_possible_16 (F : Nat) (s0 : Int64) (s1 : Int32) (s2 : Nat) (h : PH) : Option (Int32 × PH) :=
  bnd (sL h s2 s1 s0) fun h1 => some ((0 : Int32), h1)
theorem gw_Law_possible_16 {l : Launch} {E : ET} (hl : l.stackTraces = false) {d : Nat} (hd : 129 ≤ d) {F : Nat} {r : Int32} {h9 : PH} {x : Nat} (s0 : Int64) (s1 : Int32) (s2 : Nat) (h : PH) (hf : b_Law_possible_16 F s0 s1 s2 h = some (r, h9)) : Go l E m_Law_possible (rm d 1 6) (KW l E hh_Law_possible (PoX r h9)) 0 0 h x 16 [] [.long s0, .int s1, .ref s2] := by
  unfold b_Law_possible_16 at hf
  obtain ⟨h1, e_h1, hf⟩ := bnd_x hf
  refine go_lastore d_Law_possible_16 e_h1 ?_
  refine go_goto 28 d_Law_possible_17 (by decide) ?_
  refine go_iconst (0 : Int32) d_Law_possible_28 (by decide) ?_
  obtain ⟨e8, e9⟩ := Prod.mk.inj (Option.some.inj hf)
  subst e8; subst e9
  exact go_iretW d_Law_possible_29 rfl ⟨rfl, rfl⟩ ⟨by decide, by decide⟩
def f_Law_possible (F : Nat) (a0 : Nat) (i1 : Int32) (i2 : Int32) (a3 : Nat) (h : PH) : Option (Int32 × PH) :=
  bnd (cK h a0 9) fun _ => bndC (f_Np_possible F a0 i1 i2 h) (fun x2 h3 => (if x2 = (0 : Int32) then b_Law_possible_16 F (0 : Int64) (0 : Int32) a3 h3 else b_Law_possible_16 F (1 : Int64) (0 : Int32) a3 h3)) (hd2 0 1)
theorem gw_Law_possible_0 {l : Launch} {E : ET} (hl : l.stackTraces = false) {d : Nat} (hd : 129 ≤ d) {F : Nat} {r : Int32} {h9 : PH} {x : Nat} (a0 : Nat) (i1 : Int32) (i2 : Int32) (a3 : Nat) (h : PH) (hf : f_Law_possible F a0 i1 i2 a3 h = some (r, h9)) : Go l E m_Law_possible (rm d 1 6) (KW l E hh_Law_possible (PoX r h9)) 0 0 h x 0 [(0, .ref a0), (1, .int i1), (2, .int i2), (3, .ref a3)] [] := by
  unfold f_Law_possible at hf
  refine go_aload_n 3 d_Law_possible_0 rfl ?_
  refine go_iconst (0 : Int32) d_Law_possible_1 (by decide) ?_
  refine go_aload_n 0 d_Law_possible_2 rfl ?_
  refine go_iload_n 1 d_Law_possible_3 rfl ?_
  refine go_iload_n 2 d_Law_possible_4 rfl ?_
  obtain ⟨_, e1, hf⟩ := bnd_x hf
  rcases bndC_x hf with ⟨j, e_x2, e_c⟩ | ⟨x2, h3, e_x2, hf⟩
  · rcases hd2_x e_c with ⟨rfl, rfl⟩ | ⟨rfl, rfl⟩
    · exact go_catchV [] (0, 17, 20, 13) [(0, 17, 24, 15)] rfl (fun z hz => nomatch hz) (by decide) (by decide) lc_0 cs_0 (HWd_w d_Law_possible_20 d_Law_possible_22 d_Law_possible_23 (by decide) rfl (by decide) (fun _ => ⟨rfl, rfl⟩)) (As := [.int i1, .int i2]) (st := [.int (0 : Int32), .ref a3]) (x_Np_possible hl (d := d - 1) (by omega) e_x2) lk_Law_64 rfl rfl e1 (by decide) rfl (rm_ok1 (by omega)) (Nat.le_of_ble_eq_true rfl) d_Law_possible_5
    · exact go_catchV [(0, 17, 20, 13)] (0, 17, 24, 15) [] rfl (fun z hz => by rcases List.mem_cons.mp hz with rfl | hz; exact ⟨by decide, xN 0, lc_0, by decide +kernel⟩; cases hz) (by decide) (by decide) lc_1 cs_1 (HWd_w d_Law_possible_24 d_Law_possible_26 d_Law_possible_27 (by decide) rfl (by decide) (fun _ => ⟨rfl, rfl⟩)) (As := [.int i1, .int i2]) (st := [.int (0 : Int32), .ref a3]) (x_Np_possible hl (d := d - 1) (by omega) e_x2) lk_Law_64 rfl rfl e1 (by decide) rfl (rm_ok1 (by omega)) (Nat.le_of_ble_eq_true rfl) d_Law_possible_5
  refine go_callV_I (As := [.int i1, .int i2]) (st := [.int (0 : Int32), .ref a3]) (c_Np_possible (d := d - 1) (by omega) e_x2) lk_Law_64 rfl rfl e1 (by decide) rfl (rm_ok1 (by omega)) (Nat.le_of_ble_eq_true rfl) rm_c1 d_Law_possible_5 ?_
  refine go_if_eq 15 d_Law_possible_8 (by decide) (fun q4 => ?_) (fun q4 => ?_)
  · rw [if_pos q4] at hf
    refine go_lconst (0 : Int64) d_Law_possible_15 (by decide) ?_
    refine go_sub (lv' := []) [] rfl ?_
    exact gw_Law_possible_16 hl hd (0 : Int64) (0 : Int32) a3 h3 hf
  · rw [if_neg q4] at hf
    refine go_lconst (1 : Int64) d_Law_possible_11 (by decide) ?_
    refine go_goto 16 d_Law_possible_12 (by decide) ?_
    refine go_sub (lv' := []) [] rfl ?_
    exact gw_Law_possible_16 hl hd (1 : Int64) (0 : Int32) a3 h3 hf
theorem c_Law_possible {l : Launch} {E : ET} (hl : l.stackTraces = false) {d : Nat} (hd : 129 ≤ d) {F : Nat} {r : Int32} {h9 : PH} {x : Nat} {a0 : Nat} {i1 : Int32} {i2 : Int32} {a3 : Nat} {h : PH} (hf : f_Law_possible F a0 i1 i2 a3 h = some (r, h9)) : FnW l E m_Law_possible hh_Law_possible d [.ref a0, .int i1, .int i2, .ref a3] h x (PoX r h9) :=
  FnW.of hl (by decide +kernel) (Nat.le_of_ble_eq_true rfl) (gw_Law_possible_0 hl hd a0 i1 i2 a3 h hf)
theorem lk_Law_159 : LkW "NumberPlaceLaw" 159 m_Law_possible hh_Law_possible 4 := ⟨w_in 971 (by decide +kernel) (by decide +kernel), w_in 972 (by decide +kernel) (by decide +kernel), w_in 973 (by decide +kernel) (by decide +kernel), w_in 0 (by decide +kernel) (by decide +kernel), by decide +kernel, by decide +kernel⟩
theorem d_Law_append_0 : decode method_19_code 0 = .ok (.aload_n 2, 1) := by decide +kernel
theorem d_Law_append_1 : decode method_19_code 1 = .ok (.iconst 0, 1) := by decide +kernel
theorem d_Law_append_2 : decode method_19_code 2 = .ok (.aload_n 0, 1) := by decide +kernel
theorem d_Law_append_3 : decode method_19_code 3 = .ok (.iload_n 1, 1) := by decide +kernel
theorem d_Law_append_4 : decode method_19_code 4 = .ok (.invokevirtual 67, 3) := by decide +kernel
theorem d_Law_append_7 : decode method_19_code 7 = .ok (.i2l, 1) := by decide +kernel
theorem d_Law_append_8 : decode method_19_code 8 = .ok (.lastore, 1) := by decide +kernel
theorem d_Law_append_9 : decode method_19_code 9 = .ok (.goto 9, 3) := by decide +kernel
theorem d_Law_append_12 : decode method_19_code 12 = .ok (.astore_n 3, 1) := by decide +kernel
theorem d_Law_append_13 : decode method_19_code 13 = .ok (.iconst 1, 1) := by decide +kernel
theorem d_Law_append_14 : decode method_19_code 14 = .ok (.ireturn, 1) := by decide +kernel
theorem d_Law_append_15 : decode method_19_code 15 = .ok (.astore_n 3, 1) := by decide +kernel
theorem d_Law_append_16 : decode method_19_code 16 = .ok (.iconst 2, 1) := by decide +kernel
theorem d_Law_append_17 : decode method_19_code 17 = .ok (.ireturn, 1) := by decide +kernel
theorem d_Law_append_18 : decode method_19_code 18 = .ok (.iconst 0, 1) := by decide +kernel
theorem d_Law_append_19 : decode method_19_code 19 = .ok (.ireturn, 1) := by decide +kernel
def m_Law_append : MT := (⟨"NumberPlaceLaw", "append", "(LNumberPlace;I[J)I"⟩, method_19_code, 4, some .int)
def hh_Law_append : List (Nat × Nat × Nat × Nat) := [(0, 9, 12, 15), (0, 9, 15, 25)]
def f_Law_append (a0 : Nat) (i1 : Int32) (a2 : Nat) (h : PH) : Option (Int32 × PH) :=
  bnd (cK h a0 9) fun _ => bndC (f_Np_append a0 i1 h) (fun x2 h3 => bnd (sL h3 a2 (0 : Int32) (x2.toInt64)) fun h4 => some ((0 : Int32), h4)) (hd2 1 2)
theorem gw_Law_append_0 {l : Launch} {E : ET} (hl : l.stackTraces = false) {d : Nat} (hd : 7 ≤ d) {r : Int32} {h9 : PH} {x : Nat} (a0 : Nat) (i1 : Int32) (a2 : Nat) (h : PH) (hf : f_Law_append a0 i1 a2 h = some (r, h9)) : Go l E m_Law_append (rm d 1 6) (KW l E hh_Law_append (PoX r h9)) 0 0 h x 0 [(0, .ref a0), (1, .int i1), (2, .ref a2)] [] := by
  unfold f_Law_append at hf
  refine go_aload_n 2 d_Law_append_0 rfl ?_
  refine go_iconst (0 : Int32) d_Law_append_1 (by decide) ?_
  refine go_aload_n 0 d_Law_append_2 rfl ?_
  refine go_iload_n 1 d_Law_append_3 rfl ?_
  obtain ⟨_, e1, hf⟩ := bnd_x hf
  rcases bndC_x hf with ⟨j, e_x2, e_c⟩ | ⟨x2, h3, e_x2, hf⟩
  · rcases hd2_x e_c with ⟨rfl, rfl⟩ | ⟨rfl, rfl⟩
    · exact go_catchV [] (0, 9, 12, 15) [(0, 9, 15, 25)] rfl (fun z hz => nomatch hz) (by decide) (by decide) lc_1 cs_1 (HWd_n d_Law_append_12 d_Law_append_13 d_Law_append_14 (by decide) rfl (by decide) (fun _ => ⟨rfl, rfl⟩)) (As := [.int i1]) (st := [.int (0 : Int32), .ref a2]) (x_Np_append hl (d := d - 1) (by omega) e_x2) lk_Law_67 rfl rfl e1 (by decide) rfl (rm_ok1 (by omega)) (Nat.le_of_ble_eq_true rfl) d_Law_append_4
    · exact go_catchV [(0, 9, 12, 15)] (0, 9, 15, 25) [] rfl (fun z hz => by rcases List.mem_cons.mp hz with rfl | hz; exact ⟨by decide, xN 1, lc_1, by decide +kernel⟩; cases hz) (by decide) (by decide) lc_2 cs_2 (HWd_n d_Law_append_15 d_Law_append_16 d_Law_append_17 (by decide) rfl (by decide) (fun _ => ⟨rfl, rfl⟩)) (As := [.int i1]) (st := [.int (0 : Int32), .ref a2]) (x_Np_append hl (d := d - 1) (by omega) e_x2) lk_Law_67 rfl rfl e1 (by decide) rfl (rm_ok1 (by omega)) (Nat.le_of_ble_eq_true rfl) d_Law_append_4
  refine go_callV_I (As := [.int i1]) (st := [.int (0 : Int32), .ref a2]) (c_Np_append (d := d - 1) (by omega) e_x2) lk_Law_67 rfl rfl e1 (by decide) rfl (rm_ok1 (by omega)) (Nat.le_of_ble_eq_true rfl) rm_c1 d_Law_append_4 ?_
  refine go_i2l d_Law_append_7 ?_
  obtain ⟨h4, e_h4, hf⟩ := bnd_x hf
  refine go_lastore d_Law_append_8 e_h4 ?_
  refine go_goto 18 d_Law_append_9 (by decide) ?_
  refine go_iconst (0 : Int32) d_Law_append_18 (by decide) ?_
  obtain ⟨e8, e9⟩ := Prod.mk.inj (Option.some.inj hf)
  subst e8; subst e9
  exact go_iretW d_Law_append_19 rfl ⟨rfl, rfl⟩ ⟨by decide, by decide⟩
theorem c_Law_append {l : Launch} {E : ET} (hl : l.stackTraces = false) {d : Nat} (hd : 7 ≤ d) {r : Int32} {h9 : PH} {x : Nat} {a0 : Nat} {i1 : Int32} {a2 : Nat} {h : PH} (hf : f_Law_append a0 i1 a2 h = some (r, h9)) : FnW l E m_Law_append hh_Law_append d [.ref a0, .int i1, .ref a2] h x (PoX r h9) :=
  FnW.of hl (by decide +kernel) (Nat.le_of_ble_eq_true rfl) (gw_Law_append_0 hl hd a0 i1 a2 h hf)
theorem lk_Law_166 : LkW "NumberPlaceLaw" 166 m_Law_append hh_Law_append 3 := ⟨w_in 978 (by decide +kernel) (by decide +kernel), w_in 979 (by decide +kernel) (by decide +kernel), w_in 980 (by decide +kernel) (by decide +kernel), w_in 0 (by decide +kernel) (by decide +kernel), by decide +kernel, by decide +kernel⟩
theorem d_Law_undo_0 : decode method_20_code 0 = .ok (.aload_n 1, 1) := by decide +kernel
theorem d_Law_undo_1 : decode method_20_code 1 = .ok (.iconst 0, 1) := by decide +kernel
theorem d_Law_undo_2 : decode method_20_code 2 = .ok (.aload_n 0, 1) := by decide +kernel
theorem d_Law_undo_3 : decode method_20_code 3 = .ok (.invokevirtual 70, 3) := by decide +kernel
theorem d_Law_undo_6 : decode method_20_code 6 = .ok (.i2l, 1) := by decide +kernel
theorem d_Law_undo_7 : decode method_20_code 7 = .ok (.lastore, 1) := by decide +kernel
theorem d_Law_undo_8 : decode method_20_code 8 = .ok (.goto 6, 3) := by decide +kernel
theorem d_Law_undo_11 : decode method_20_code 11 = .ok (.astore_n 2, 1) := by decide +kernel
theorem d_Law_undo_12 : decode method_20_code 12 = .ok (.iconst 1, 1) := by decide +kernel
theorem d_Law_undo_13 : decode method_20_code 13 = .ok (.ireturn, 1) := by decide +kernel
theorem d_Law_undo_14 : decode method_20_code 14 = .ok (.iconst 0, 1) := by decide +kernel
theorem d_Law_undo_15 : decode method_20_code 15 = .ok (.ireturn, 1) := by decide +kernel
def m_Law_undo : MT := (⟨"NumberPlaceLaw", "undo", "(LNumberPlace;[J)I"⟩, method_20_code, 3, some .int)
def hh_Law_undo : List (Nat × Nat × Nat × Nat) := [(0, 8, 11, 25)]
def f_Law_undo (a0 : Nat) (a1 : Nat) (h : PH) : Option (Int32 × PH) :=
  bnd (cK h a0 9) fun _ => bndC (f_Np_undo a0 h) (fun x2 h3 => bnd (sL h3 a1 (0 : Int32) (x2.toInt64)) fun h4 => some ((0 : Int32), h4)) (hd1 2)
theorem gw_Law_undo_0 {l : Launch} {E : ET} (hl : l.stackTraces = false) {d : Nat} (hd : 7 ≤ d) {r : Int32} {h9 : PH} {x : Nat} (a0 : Nat) (a1 : Nat) (h : PH) (hf : f_Law_undo a0 a1 h = some (r, h9)) : Go l E m_Law_undo (rm d 1 6) (KW l E hh_Law_undo (PoX r h9)) 0 0 h x 0 [(0, .ref a0), (1, .ref a1)] [] := by
  unfold f_Law_undo at hf
  refine go_aload_n 1 d_Law_undo_0 rfl ?_
  refine go_iconst (0 : Int32) d_Law_undo_1 (by decide) ?_
  refine go_aload_n 0 d_Law_undo_2 rfl ?_
  obtain ⟨_, e1, hf⟩ := bnd_x hf
  rcases bndC_x hf with ⟨j, e_x2, e_c⟩ | ⟨x2, h3, e_x2, hf⟩
  · rcases hd1_x e_c with ⟨rfl, rfl⟩
    · exact go_catchV [] (0, 8, 11, 25) [] rfl (fun z hz => nomatch hz) (by decide) (by decide) lc_2 cs_2 (HWd_n d_Law_undo_11 d_Law_undo_12 d_Law_undo_13 (by decide) rfl (by decide) (fun _ => ⟨rfl, rfl⟩)) (As := []) (st := [.int (0 : Int32), .ref a1]) (x_Np_undo hl (d := d - 1) (by omega) e_x2) lk_Law_70 rfl rfl e1 (by decide) rfl (rm_ok1 (by omega)) (Nat.le_of_ble_eq_true rfl) d_Law_undo_3
  refine go_callV_I (As := []) (st := [.int (0 : Int32), .ref a1]) (c_Np_undo (d := d - 1) (by omega) e_x2) lk_Law_70 rfl rfl e1 (by decide) rfl (rm_ok1 (by omega)) (Nat.le_of_ble_eq_true rfl) rm_c1 d_Law_undo_3 ?_
  refine go_i2l d_Law_undo_6 ?_
  obtain ⟨h4, e_h4, hf⟩ := bnd_x hf
  refine go_lastore d_Law_undo_7 e_h4 ?_
  refine go_goto 14 d_Law_undo_8 (by decide) ?_
  refine go_iconst (0 : Int32) d_Law_undo_14 (by decide) ?_
  obtain ⟨e8, e9⟩ := Prod.mk.inj (Option.some.inj hf)
  subst e8; subst e9
  exact go_iretW d_Law_undo_15 rfl ⟨rfl, rfl⟩ ⟨by decide, by decide⟩
theorem c_Law_undo {l : Launch} {E : ET} (hl : l.stackTraces = false) {d : Nat} (hd : 7 ≤ d) {r : Int32} {h9 : PH} {x : Nat} {a0 : Nat} {a1 : Nat} {h : PH} (hf : f_Law_undo a0 a1 h = some (r, h9)) : FnW l E m_Law_undo hh_Law_undo d [.ref a0, .ref a1] h x (PoX r h9) :=
  FnW.of hl (by decide +kernel) (Nat.le_of_ble_eq_true rfl) (gw_Law_undo_0 hl hd a0 a1 h hf)
theorem lk_Law_177 : LkW "NumberPlaceLaw" 177 m_Law_undo hh_Law_undo 2 := ⟨w_in 991 (by decide +kernel) (by decide +kernel), w_in 992 (by decide +kernel) (by decide +kernel), w_in 993 (by decide +kernel) (by decide +kernel), w_in 0 (by decide +kernel) (by decide +kernel), by decide +kernel, by decide +kernel⟩
