/-! 14.mo5: methods as functions, by program. -/
theorem d_Mo_append_0 : decode prog_13_method_81_code 0 = .ok (.aload_n 0, 1) := by decide +kernel
theorem d_Mo_append_1 : decode prog_13_method_81_code 1 = .ok (.iload_n 1, 1) := by decide +kernel
theorem d_Mo_append_2 : decode prog_13_method_81_code 2 = .ok (.iconst 0, 1) := by decide +kernel
theorem d_Mo_append_3 : decode prog_13_method_81_code 3 = .ok (.bipush 127, 2) := by decide +kernel
theorem d_Mo_append_5 : decode prog_13_method_81_code 5 = .ok (.invokestatic 62, 3) := by decide +kernel
theorem d_Mo_append_8 : decode prog_13_method_81_code 8 = .ok (.ifCond .ne 7, 3) := by decide +kernel
theorem d_Mo_append_11 : decode prog_13_method_81_code 11 = .ok (.iconst 1, 1) := by decide +kernel
theorem d_Mo_append_12 : decode prog_13_method_81_code 12 = .ok (.goto 18, 3) := by decide +kernel
theorem d_Mo_append_15 : decode prog_13_method_81_code 15 = .ok (.aload_n 0, 1) := by decide +kernel
theorem d_Mo_append_16 : decode prog_13_method_81_code 16 = .ok (.getfield 268, 3) := by decide +kernel
theorem d_Mo_append_19 : decode prog_13_method_81_code 19 = .ok (.sipush 150, 3) := by decide +kernel
theorem d_Mo_append_22 : decode prog_13_method_81_code 22 = .ok (.if_icmp .ne 7, 3) := by decide +kernel
theorem d_Mo_append_25 : decode prog_13_method_81_code 25 = .ok (.iconst 2, 1) := by decide +kernel
theorem d_Mo_append_26 : decode prog_13_method_81_code 26 = .ok (.goto 4, 3) := by decide +kernel
theorem d_Mo_append_29 : decode prog_13_method_81_code 29 = .ok (.iconst 0, 1) := by decide +kernel
theorem d_Mo_append_30 : decode prog_13_method_81_code 30 = .ok (.putfield 52, 3) := by decide +kernel
theorem d_Mo_append_33 : decode prog_13_method_81_code 33 = .ok (.aload_n 0, 1) := by decide +kernel
theorem d_Mo_append_34 : decode prog_13_method_81_code 34 = .ok (.getfield 52, 3) := by decide +kernel
theorem d_Mo_append_37 : decode prog_13_method_81_code 37 = .ok (.ifCond .eq 5, 3) := by decide +kernel
theorem d_Mo_append_40 : decode prog_13_method_81_code 40 = .ok (.iconst 0, 1) := by decide +kernel
theorem d_Mo_append_41 : decode prog_13_method_81_code 41 = .ok (.ireturn, 1) := by decide +kernel
theorem d_Mo_append_42 : decode prog_13_method_81_code 42 = .ok (.aload_n 0, 1) := by decide +kernel
theorem d_Mo_append_43 : decode prog_13_method_81_code 43 = .ok (.getfield 16, 3) := by decide +kernel
theorem d_Mo_append_46 : decode prog_13_method_81_code 46 = .ok (.aload_n 0, 1) := by decide +kernel
theorem d_Mo_append_47 : decode prog_13_method_81_code 47 = .ok (.getfield 268, 3) := by decide +kernel
theorem d_Mo_append_50 : decode prog_13_method_81_code 50 = .ok (.iload_n 1, 1) := by decide +kernel
theorem d_Mo_append_51 : decode prog_13_method_81_code 51 = .ok (.iastore, 1) := by decide +kernel
theorem d_Mo_append_52 : decode prog_13_method_81_code 52 = .ok (.aload_n 0, 1) := by decide +kernel
theorem d_Mo_append_53 : decode prog_13_method_81_code 53 = .ok (.dup, 1) := by decide +kernel
theorem d_Mo_append_54 : decode prog_13_method_81_code 54 = .ok (.getfield 268, 3) := by decide +kernel
theorem d_Mo_append_57 : decode prog_13_method_81_code 57 = .ok (.iconst 1, 1) := by decide +kernel
theorem d_Mo_append_58 : decode prog_13_method_81_code 58 = .ok (.iadd, 1) := by decide +kernel
theorem d_Mo_append_59 : decode prog_13_method_81_code 59 = .ok (.putfield 268, 3) := by decide +kernel
theorem d_Mo_append_62 : decode prog_13_method_81_code 62 = .ok (.aload_n 0, 1) := by decide +kernel
theorem d_Mo_append_63 : decode prog_13_method_81_code 63 = .ok (.getfield 268, 3) := by decide +kernel
theorem d_Mo_append_66 : decode prog_13_method_81_code 66 = .ok (.ireturn, 1) := by decide +kernel
def b_Mo_append_30 (a0 : Nat) (i1 : Int32) (s0 : Int32) (s1 : Nat) (h : PH) : Option (Int32 × PH) :=
  bnd (pV h s1 10 5 (.int s0)) fun h1 => bnd (gI h1 a0 10 5) fun x2 => (if x2 = (0 : Int32) then bnd (gR h1 a0 10 3) fun x3 => bnd (gI h1 a0 10 4) fun x4 => bnd (sI h1 x3 x4 i1) fun h5 => bnd (gI h5 a0 10 4) fun x6 => bnd (pV h5 a0 10 4 (.int (x6 + (1 : Int32)))) fun h7 => bnd (gI h7 a0 10 4) fun x8 => some (x8, h7) else some ((0 : Int32), h1))
theorem g_Mo_append_30 {l : Launch} {E : ET} {d : Nat} (hd : 2 ≤ d) {r : Int32} {h9 : PH} {x : Nat}  (a0 : Nat) (i1 : Int32) (s0 : Int32) (s1 : Nat) (h : PH) (hf : b_Mo_append_30 a0 i1 s0 s1 h = some (r, h9)) : Go l E m_Mo_append (rm d 0 0) (KM E 0 0 (PoE (some (.int r)) h9 x)) 0 0 h x 30 [(0, .ref a0), (1, .int i1)] [.int s0, .ref s1] := by
  unfold b_Mo_append_30 at hf
  obtain ⟨h1, e_h1, hf⟩ := bnd_x hf
  refine go_putI d_Mo_append_30 e_h1 fl_Mo_52 rfl rfl ?_
  refine go_aload_n 0 d_Mo_append_33 rfl ?_
  obtain ⟨x2, e_x2, hf⟩ := bnd_x hf
  refine go_get d_Mo_append_34 (gI_x e_x2) fl_Mo_52 ?_
  refine go_if_eq 42 d_Mo_append_37 (by decide) (fun q9 => ?_) (fun q9 => ?_)
  · rw [if_pos q9] at hf
    refine go_aload_n 0 d_Mo_append_42 rfl ?_
    obtain ⟨x3, e_x3, hf⟩ := bnd_x hf
    refine go_get d_Mo_append_43 (gR_x e_x3) fl_Mo_16 ?_
    refine go_aload_n 0 d_Mo_append_46 rfl ?_
    obtain ⟨x4, e_x4, hf⟩ := bnd_x hf
    refine go_get d_Mo_append_47 (gI_x e_x4) fl_Mo_268 ?_
    refine go_iload_n 1 d_Mo_append_50 rfl ?_
    obtain ⟨h5, e_h5, hf⟩ := bnd_x hf
    refine go_iastore d_Mo_append_51 e_h5 ?_
    refine go_aload_n 0 d_Mo_append_52 rfl ?_
    refine go_dup d_Mo_append_53 rfl ?_
    obtain ⟨x6, e_x6, hf⟩ := bnd_x hf
    refine go_get d_Mo_append_54 (gI_x e_x6) fl_Mo_268 ?_
    refine go_iconst (1 : Int32) d_Mo_append_57 (by decide) ?_
    refine go_iadd d_Mo_append_58 ?_
    obtain ⟨h7, e_h7, hf⟩ := bnd_x hf
    refine go_putI d_Mo_append_59 e_h7 fl_Mo_268 rfl rfl ?_
    refine go_aload_n 0 d_Mo_append_62 rfl ?_
    obtain ⟨x8, e_x8, hf⟩ := bnd_x hf
    refine go_get d_Mo_append_63 (gI_x e_x8) fl_Mo_268 ?_
    obtain ⟨e8, e9⟩ := Prod.mk.inj (Option.some.inj hf)
    subst e8; subst e9
    exact go_iret d_Mo_append_66 rfl ⟨rfl, rfl, rfl⟩
  · rw [if_neg q9] at hf
    refine go_iconst (0 : Int32) d_Mo_append_40 (by decide) ?_
    obtain ⟨e8, e9⟩ := Prod.mk.inj (Option.some.inj hf)
    subst e8; subst e9
    exact go_iret d_Mo_append_41 rfl ⟨rfl, rfl, rfl⟩
def f_Mo_append (a0 : Nat) (i1 : Int32) (h : PH) : Option (Int32 × PH) :=
  bnd (f_Mo_in i1 (0 : Int32) (127 : Int32)) fun x1 => (if x1 = (0 : Int32) then b_Mo_append_30 a0 i1 (1 : Int32) a0 h else bnd (gI h a0 10 4) fun x2 => (if x2 = (150 : Int32) then b_Mo_append_30 a0 i1 (2 : Int32) a0 h else b_Mo_append_30 a0 i1 (0 : Int32) a0 h))
theorem g_Mo_append_0 {l : Launch} {E : ET} {d : Nat} (hd : 2 ≤ d) {r : Int32} {h9 : PH} {x : Nat}  (a0 : Nat) (i1 : Int32) (h : PH) (hf : f_Mo_append a0 i1 h = some (r, h9)) : Go l E m_Mo_append (rm d 0 0) (KM E 0 0 (PoE (some (.int r)) h9 x)) 0 0 h x 0 [(0, .ref a0), (1, .int i1)] [] := by
  unfold f_Mo_append at hf
  refine go_aload_n 0 d_Mo_append_0 rfl ?_
  refine go_iload_n 1 d_Mo_append_1 rfl ?_
  refine go_iconst (0 : Int32) d_Mo_append_2 (by decide) ?_
  refine go_bipush (127 : Int32) d_Mo_append_3 (by decide) ?_
  obtain ⟨x1, e_x1, hf⟩ := bnd_x hf
  refine go_callS_I (As := [.int i1, .int (0 : Int32), .int (127 : Int32)]) (st := [.ref a0]) (c_Mo_in (d := d - 1) (by omega) e_x1) lk_Mo_62 rfl rfl (rm_ok (by omega)) (Nat.le_of_ble_eq_true rfl) rm_c d_Mo_append_5 ?_
  refine go_if_ne 15 d_Mo_append_8 (by decide) (fun q4 => ?_) (fun q4 => ?_)
  · rw [if_neg q4] at hf
    refine go_aload_n 0 d_Mo_append_15 rfl ?_
    obtain ⟨x2, e_x2, hf⟩ := bnd_x hf
    refine go_get d_Mo_append_16 (gI_x e_x2) fl_Mo_268 ?_
    refine go_sipush (150 : Int32) d_Mo_append_19 (by decide) ?_
    refine go_icmp_ne 29 d_Mo_append_22 (by decide) (fun q3 => ?_) (fun q3 => ?_)
    · rw [if_neg q3] at hf
      refine go_iconst (0 : Int32) d_Mo_append_29 (by decide) ?_
      refine go_sub (lv' := [(0, .ref a0), (1, .int i1)]) [0, 1] rfl ?_
      exact g_Mo_append_30 hd  a0 i1 (0 : Int32) a0 h hf
    · rw [if_pos q3] at hf
      refine go_iconst (2 : Int32) d_Mo_append_25 (by decide) ?_
      refine go_goto 30 d_Mo_append_26 (by decide) ?_
      refine go_sub (lv' := [(0, .ref a0), (1, .int i1)]) [0, 1] rfl ?_
      exact g_Mo_append_30 hd  a0 i1 (2 : Int32) a0 h hf
  · rw [if_pos q4] at hf
    refine go_iconst (1 : Int32) d_Mo_append_11 (by decide) ?_
    refine go_goto 30 d_Mo_append_12 (by decide) ?_
    refine go_sub (lv' := [(0, .ref a0), (1, .int i1)]) [0, 1] rfl ?_
    exact g_Mo_append_30 hd  a0 i1 (1 : Int32) a0 h hf
theorem c_Mo_append {l : Launch} {E : ET} {d : Nat} (hd : 2 ≤ d) {r : Int32} {h9 : PH} {x : Nat} {a0 : Nat} {i1 : Int32} {h : PH} (hf : f_Mo_append a0 i1 h = some (r, h9)) : Fn l E m_Mo_append d 0 0 [.ref a0, .int i1] h x (PoE (some (.int r)) h9 x) :=
  Fn.of (by decide +kernel) (Nat.le_of_ble_eq_true rfl) (g_Mo_append_0 hd a0 i1 h hf)
theorem d_Mo_clearText_0 : decode prog_13_method_82_code 0 = .ok (.aload_n 0, 1) := by decide +kernel
theorem d_Mo_clearText_1 : decode prog_13_method_82_code 1 = .ok (.iconst 0, 1) := by decide +kernel
theorem d_Mo_clearText_2 : decode prog_13_method_82_code 2 = .ok (.putfield 52, 3) := by decide +kernel
theorem d_Mo_clearText_5 : decode prog_13_method_82_code 5 = .ok (.aload_n 0, 1) := by decide +kernel
theorem d_Mo_clearText_6 : decode prog_13_method_82_code 6 = .ok (.getfield 268, 3) := by decide +kernel
theorem d_Mo_clearText_9 : decode prog_13_method_82_code 9 = .ok (.istore_n 1, 1) := by decide +kernel
theorem d_Mo_clearText_10 : decode prog_13_method_82_code 10 = .ok (.aload_n 0, 1) := by decide +kernel
theorem d_Mo_clearText_11 : decode prog_13_method_82_code 11 = .ok (.iconst 0, 1) := by decide +kernel
theorem d_Mo_clearText_12 : decode prog_13_method_82_code 12 = .ok (.putfield 268, 3) := by decide +kernel
theorem d_Mo_clearText_15 : decode prog_13_method_82_code 15 = .ok (.iload_n 1, 1) := by decide +kernel
theorem d_Mo_clearText_16 : decode prog_13_method_82_code 16 = .ok (.ireturn, 1) := by decide +kernel
def f_Mo_clearText (a0 : Nat) (h : PH) : Option (Int32 × PH) :=
  bnd (pV h a0 10 5 (.int (0 : Int32))) fun h1 => bnd (gI h1 a0 10 4) fun x2 => bnd (pV h1 a0 10 4 (.int (0 : Int32))) fun h3 => some (x2, h3)
theorem g_Mo_clearText_0 {l : Launch} {E : ET} {d : Nat} (hd : 1 ≤ d) {r : Int32} {h9 : PH} {x : Nat}  (a0 : Nat) (h : PH) (hf : f_Mo_clearText a0 h = some (r, h9)) : Go l E m_Mo_clearText (rm d 0 0) (KM E 0 0 (PoE (some (.int r)) h9 x)) 0 0 h x 0 [(0, .ref a0)] [] := by
  unfold f_Mo_clearText at hf
  refine go_aload_n 0 d_Mo_clearText_0 rfl ?_
  refine go_iconst (0 : Int32) d_Mo_clearText_1 (by decide) ?_
  obtain ⟨h1, e_h1, hf⟩ := bnd_x hf
  refine go_putI d_Mo_clearText_2 e_h1 fl_Mo_52 rfl rfl ?_
  refine go_aload_n 0 d_Mo_clearText_5 rfl ?_
  obtain ⟨x2, e_x2, hf⟩ := bnd_x hf
  refine go_get d_Mo_clearText_6 (gI_x e_x2) fl_Mo_268 ?_
  refine go_istore_n (lv' := [(1, .int x2), (0, .ref a0)]) d_Mo_clearText_9 rfl (by decide) ?_
  refine go_aload_n 1 d_Mo_clearText_10 rfl ?_
  refine go_iconst (0 : Int32) d_Mo_clearText_11 (by decide) ?_
  obtain ⟨h3, e_h3, hf⟩ := bnd_x hf
  refine go_putI d_Mo_clearText_12 e_h3 fl_Mo_268 rfl rfl ?_
  refine go_iload_n 0 d_Mo_clearText_15 rfl ?_
  obtain ⟨e8, e9⟩ := Prod.mk.inj (Option.some.inj hf)
  subst e8; subst e9
  exact go_iret d_Mo_clearText_16 rfl ⟨rfl, rfl, rfl⟩
theorem c_Mo_clearText {l : Launch} {E : ET} {d : Nat} (hd : 1 ≤ d) {r : Int32} {h9 : PH} {x : Nat} {a0 : Nat} {h : PH} (hf : f_Mo_clearText a0 h = some (r, h9)) : Fn l E m_Mo_clearText d 0 0 [.ref a0] h x (PoE (some (.int r)) h9 x) :=
  Fn.of (by decide +kernel) (Nat.le_of_ble_eq_true rfl) (g_Mo_clearText_0 hd a0 h hf)
theorem d_Mo_here_0 : decode prog_13_method_83_code 0 = .ok (.aload_n 0, 1) := by decide +kernel
theorem d_Mo_here_1 : decode prog_13_method_83_code 1 = .ok (.getfield 271, 3) := by decide +kernel
theorem d_Mo_here_4 : decode prog_13_method_83_code 4 = .ok (.aload_n 0, 1) := by decide +kernel
theorem d_Mo_here_5 : decode prog_13_method_83_code 5 = .ok (.getfield 268, 3) := by decide +kernel
theorem d_Mo_here_8 : decode prog_13_method_83_code 8 = .ok (.if_icmp .ge 15, 3) := by decide +kernel
theorem d_Mo_here_11 : decode prog_13_method_83_code 11 = .ok (.aload_n 0, 1) := by decide +kernel
theorem d_Mo_here_12 : decode prog_13_method_83_code 12 = .ok (.getfield 16, 3) := by decide +kernel
theorem d_Mo_here_15 : decode prog_13_method_83_code 15 = .ok (.aload_n 0, 1) := by decide +kernel
theorem d_Mo_here_16 : decode prog_13_method_83_code 16 = .ok (.getfield 271, 3) := by decide +kernel
theorem d_Mo_here_19 : decode prog_13_method_83_code 19 = .ok (.iaload, 1) := by decide +kernel
theorem d_Mo_here_20 : decode prog_13_method_83_code 20 = .ok (.goto 4, 3) := by decide +kernel
theorem d_Mo_here_23 : decode prog_13_method_83_code 23 = .ok (.iconst (-1), 1) := by decide +kernel
theorem d_Mo_here_24 : decode prog_13_method_83_code 24 = .ok (.ireturn, 1) := by decide +kernel
def f_Mo_here (a0 : Nat) (h : PH) : Option Int32 :=
  bnd (gI h a0 10 22) fun x1 => bnd (gI h a0 10 4) fun x2 => (if x2 ≤ x1 then some (-1 : Int32) else bnd (gR h a0 10 3) fun x3 => bnd (gI h a0 10 22) fun x4 => bnd (aI h x3 x4) fun x5 => some x5)
theorem g_Mo_here_0 {l : Launch} {E : ET} {d : Nat} (hd : 1 ≤ d) {r : Int32} {h : PH} {x : Nat}  (a0 : Nat) (hf : f_Mo_here a0 h = some r) : Go l E m_Mo_here (rm d 0 0) (KM E 0 0 (PoE (some (.int r)) h x)) 0 0 h x 0 [(0, .ref a0)] [] := by
  unfold f_Mo_here at hf
  refine go_aload_n 0 d_Mo_here_0 rfl ?_
  obtain ⟨x1, e_x1, hf⟩ := bnd_x hf
  refine go_get d_Mo_here_1 (gI_x e_x1) fl_Mo_271 ?_
  refine go_aload_n 0 d_Mo_here_4 rfl ?_
  obtain ⟨x2, e_x2, hf⟩ := bnd_x hf
  refine go_get d_Mo_here_5 (gI_x e_x2) fl_Mo_268 ?_
  refine go_icmp_ge 23 d_Mo_here_8 (by decide) (fun q6 => ?_) (fun q6 => ?_)
  · rw [if_pos q6] at hf
    refine go_iconst (-1 : Int32) d_Mo_here_23 (by decide) ?_
    have e9 := Option.some.inj hf
    subst e9
    exact go_iret d_Mo_here_24 rfl ⟨rfl, rfl, rfl⟩
  · rw [if_neg q6] at hf
    refine go_aload_n 0 d_Mo_here_11 rfl ?_
    obtain ⟨x3, e_x3, hf⟩ := bnd_x hf
    refine go_get d_Mo_here_12 (gR_x e_x3) fl_Mo_16 ?_
    refine go_aload_n 0 d_Mo_here_15 rfl ?_
    obtain ⟨x4, e_x4, hf⟩ := bnd_x hf
    refine go_get d_Mo_here_16 (gI_x e_x4) fl_Mo_271 ?_
    obtain ⟨x5, e_x5, hf⟩ := bnd_x hf
    refine go_iaload d_Mo_here_19 e_x5 ?_
    refine go_goto 24 d_Mo_here_20 (by decide) ?_
    have e9 := Option.some.inj hf
    subst e9
    exact go_iret d_Mo_here_24 rfl ⟨rfl, rfl, rfl⟩
theorem c_Mo_here {l : Launch} {E : ET} {d : Nat} (hd : 1 ≤ d) {r : Int32} {h : PH} {x : Nat} {a0 : Nat} (hf : f_Mo_here a0 h = some r) : Fn l E m_Mo_here d 0 0 [.ref a0] h x (PoE (some (.int r)) h x) :=
  Fn.of (by decide +kernel) (Nat.le_of_ble_eq_true rfl) (g_Mo_here_0 hd a0 hf)
theorem d_Mo_passes_0 : decode prog_13_method_84_code 0 = .ok (.aload_n 0, 1) := by decide +kernel
theorem d_Mo_passes_1 : decode prog_13_method_84_code 1 = .ok (.invokevirtual 274, 3) := by decide +kernel
theorem d_Mo_passes_4 : decode prog_13_method_84_code 4 = .ok (.iload_n 1, 1) := by decide +kernel
theorem d_Mo_passes_5 : decode prog_13_method_84_code 5 = .ok (.if_icmp .ne 7, 3) := by decide +kernel
theorem d_Mo_passes_8 : decode prog_13_method_84_code 8 = .ok (.iconst 1, 1) := by decide +kernel
theorem d_Mo_passes_9 : decode prog_13_method_84_code 9 = .ok (.goto 4, 3) := by decide +kernel
theorem d_Mo_passes_12 : decode prog_13_method_84_code 12 = .ok (.iconst 0, 1) := by decide +kernel
theorem d_Mo_passes_13 : decode prog_13_method_84_code 13 = .ok (.istore_n 2, 1) := by decide +kernel
theorem d_Mo_passes_14 : decode prog_13_method_84_code 14 = .ok (.aload_n 0, 1) := by decide +kernel
theorem d_Mo_passes_15 : decode prog_13_method_84_code 15 = .ok (.dup, 1) := by decide +kernel
theorem d_Mo_passes_16 : decode prog_13_method_84_code 16 = .ok (.getfield 271, 3) := by decide +kernel
theorem d_Mo_passes_19 : decode prog_13_method_84_code 19 = .ok (.iload_n 2, 1) := by decide +kernel
theorem d_Mo_passes_20 : decode prog_13_method_84_code 20 = .ok (.ifCond .eq 7, 3) := by decide +kernel
theorem d_Mo_passes_23 : decode prog_13_method_84_code 23 = .ok (.iconst 1, 1) := by decide +kernel
theorem d_Mo_passes_24 : decode prog_13_method_84_code 24 = .ok (.goto 4, 3) := by decide +kernel
theorem d_Mo_passes_27 : decode prog_13_method_84_code 27 = .ok (.iconst 0, 1) := by decide +kernel
theorem d_Mo_passes_28 : decode prog_13_method_84_code 28 = .ok (.iadd, 1) := by decide +kernel
theorem d_Mo_passes_29 : decode prog_13_method_84_code 29 = .ok (.putfield 271, 3) := by decide +kernel
theorem d_Mo_passes_32 : decode prog_13_method_84_code 32 = .ok (.iload_n 2, 1) := by decide +kernel
theorem d_Mo_passes_33 : decode prog_13_method_84_code 33 = .ok (.ireturn, 1) := by decide +kernel
def b_Mo_passes_28 (i2 : Int32) (s0 : Int32) (s1 : Int32) (s2 : Nat) (h : PH) : Option (Int32 × PH) :=
  bnd (pV h s2 10 22 (.int (s1 + s0))) fun h1 => bnd (cZ i2) fun _ => some (i2, h1)
theorem g_Mo_passes_28 {l : Launch} {E : ET} {d : Nat} (hd : 2 ≤ d) {r : Int32} {h9 : PH} {x : Nat}  (i2 : Int32) (s0 : Int32) (s1 : Int32) (s2 : Nat) (h : PH) (hf : b_Mo_passes_28 i2 s0 s1 s2 h = some (r, h9)) : Go l E m_Mo_passes (rm d 0 0) (KM E 0 0 (PoE (some (.int r)) h9 x)) 0 0 h x 28 [(2, .int i2)] [.int s0, .int s1, .ref s2] := by
  unfold b_Mo_passes_28 at hf
  refine go_iadd d_Mo_passes_28 ?_
  obtain ⟨h1, e_h1, hf⟩ := bnd_x hf
  refine go_putI d_Mo_passes_29 e_h1 fl_Mo_271 rfl rfl ?_
  refine go_iload_n 0 d_Mo_passes_32 rfl ?_
  obtain ⟨_, e2, hf⟩ := bnd_x hf
  obtain ⟨e8, e9⟩ := Prod.mk.inj (Option.some.inj hf)
  subst e8; subst e9
  exact go_zret d_Mo_passes_33 e2 rfl ⟨rfl, rfl, rfl⟩
def b_Mo_passes_13 (a0 : Nat) (s0 : Int32) (h : PH) : Option (Int32 × PH) :=
  bnd (gI h a0 10 22) fun x1 => (if s0 = (0 : Int32) then b_Mo_passes_28 s0 (0 : Int32) x1 a0 h else b_Mo_passes_28 s0 (1 : Int32) x1 a0 h)
theorem g_Mo_passes_13 {l : Launch} {E : ET} {d : Nat} (hd : 2 ≤ d) {r : Int32} {h9 : PH} {x : Nat}  (a0 : Nat) (s0 : Int32) (h : PH) (hf : b_Mo_passes_13 a0 s0 h = some (r, h9)) : Go l E m_Mo_passes (rm d 0 0) (KM E 0 0 (PoE (some (.int r)) h9 x)) 0 0 h x 13 [(0, .ref a0)] [.int s0] := by
  unfold b_Mo_passes_13 at hf
  refine go_istore_n (lv' := [(2, .int s0), (0, .ref a0)]) d_Mo_passes_13 rfl (by decide) ?_
  refine go_aload_n 1 d_Mo_passes_14 rfl ?_
  refine go_dup d_Mo_passes_15 rfl ?_
  obtain ⟨x1, e_x1, hf⟩ := bnd_x hf
  refine go_get d_Mo_passes_16 (gI_x e_x1) fl_Mo_271 ?_
  refine go_iload_n 0 d_Mo_passes_19 rfl ?_
  refine go_if_eq 27 d_Mo_passes_20 (by decide) (fun q2 => ?_) (fun q2 => ?_)
  · rw [if_pos q2] at hf
    refine go_iconst (0 : Int32) d_Mo_passes_27 (by decide) ?_
    refine go_sub (lv' := [(2, .int s0)]) [0] rfl ?_
    exact g_Mo_passes_28 hd  s0 (0 : Int32) x1 a0 h hf
  · rw [if_neg q2] at hf
    refine go_iconst (1 : Int32) d_Mo_passes_23 (by decide) ?_
    refine go_goto 28 d_Mo_passes_24 (by decide) ?_
    refine go_sub (lv' := [(2, .int s0)]) [0] rfl ?_
    exact g_Mo_passes_28 hd  s0 (1 : Int32) x1 a0 h hf
def f_Mo_passes (a0 : Nat) (i1 : Int32) (h : PH) : Option (Int32 × PH) :=
  bnd (cK h a0 10) fun _ => bnd (f_Mo_here a0 h) fun x2 => (if x2 = i1 then b_Mo_passes_13 a0 (1 : Int32) h else b_Mo_passes_13 a0 (0 : Int32) h)
theorem g_Mo_passes_0 {l : Launch} {E : ET} {d : Nat} (hd : 2 ≤ d) {r : Int32} {h9 : PH} {x : Nat}  (a0 : Nat) (i1 : Int32) (h : PH) (hf : f_Mo_passes a0 i1 h = some (r, h9)) : Go l E m_Mo_passes (rm d 0 0) (KM E 0 0 (PoE (some (.int r)) h9 x)) 0 0 h x 0 [(0, .ref a0), (1, .int i1)] [] := by
  unfold f_Mo_passes at hf
  refine go_aload_n 0 d_Mo_passes_0 rfl ?_
  obtain ⟨_, e1, hf⟩ := bnd_x hf
  obtain ⟨x2, e_x2, hf⟩ := bnd_x hf
  refine go_callV_I (As := []) (st := []) (c_Mo_here (d := d - 1) (by omega) e_x2) lk_Mo_274 rfl rfl e1 (by decide) rfl (rm_ok (by omega)) (Nat.le_of_ble_eq_true rfl) rm_c d_Mo_passes_1 ?_
  refine go_iload_n 1 d_Mo_passes_4 rfl ?_
  refine go_icmp_ne 12 d_Mo_passes_5 (by decide) (fun q3 => ?_) (fun q3 => ?_)
  · rw [if_neg q3] at hf
    refine go_iconst (0 : Int32) d_Mo_passes_12 (by decide) ?_
    refine go_sub (lv' := [(0, .ref a0)]) [0] rfl ?_
    exact g_Mo_passes_13 hd  a0 (0 : Int32) h hf
  · rw [if_pos q3] at hf
    refine go_iconst (1 : Int32) d_Mo_passes_8 (by decide) ?_
    refine go_goto 13 d_Mo_passes_9 (by decide) ?_
    refine go_sub (lv' := [(0, .ref a0)]) [0] rfl ?_
    exact g_Mo_passes_13 hd  a0 (1 : Int32) h hf
theorem c_Mo_passes {l : Launch} {E : ET} {d : Nat} (hd : 2 ≤ d) {r : Int32} {h9 : PH} {x : Nat} {a0 : Nat} {i1 : Int32} {h : PH} (hf : f_Mo_passes a0 i1 h = some (r, h9)) : Fn l E m_Mo_passes d 0 0 [.ref a0, .int i1] h x (PoE (some (.int r)) h9 x) :=
  Fn.of (by decide +kernel) (Nat.le_of_ble_eq_true rfl) (g_Mo_passes_0 hd a0 i1 h hf)
theorem d_Mo_readNumber_0 : decode prog_13_method_85_code 0 = .ok (.aload_n 0, 1) := by decide +kernel
theorem d_Mo_readNumber_1 : decode prog_13_method_85_code 1 = .ok (.getfield 271, 3) := by decide +kernel
theorem d_Mo_readNumber_4 : decode prog_13_method_85_code 4 = .ok (.istore_n 3, 1) := by decide +kernel
theorem d_Mo_readNumber_5 : decode prog_13_method_85_code 5 = .ok (.aload_n 0, 1) := by decide +kernel
theorem d_Mo_readNumber_6 : decode prog_13_method_85_code 6 = .ok (.iconst 0, 1) := by decide +kernel
theorem d_Mo_readNumber_7 : decode prog_13_method_85_code 7 = .ok (.putfield 277, 3) := by decide +kernel
theorem d_Mo_readNumber_10 : decode prog_13_method_85_code 10 = .ok (.aload_n 0, 1) := by decide +kernel
theorem d_Mo_readNumber_11 : decode prog_13_method_85_code 11 = .ok (.getfield 271, 3) := by decide +kernel
theorem d_Mo_readNumber_14 : decode prog_13_method_85_code 14 = .ok (.iload_n 3, 1) := by decide +kernel
theorem d_Mo_readNumber_15 : decode prog_13_method_85_code 15 = .ok (.isub, 1) := by decide +kernel
theorem d_Mo_readNumber_16 : decode prog_13_method_85_code 16 = .ok (.iconst 2, 1) := by decide +kernel
theorem d_Mo_readNumber_17 : decode prog_13_method_85_code 17 = .ok (.if_icmp .ge 49, 3) := by decide +kernel
theorem d_Mo_readNumber_20 : decode prog_13_method_85_code 20 = .ok (.aload_n 0, 1) := by decide +kernel
theorem d_Mo_readNumber_21 : decode prog_13_method_85_code 21 = .ok (.invokevirtual 274, 3) := by decide +kernel
theorem d_Mo_readNumber_24 : decode prog_13_method_85_code 24 = .ok (.bipush 48, 2) := by decide +kernel
theorem d_Mo_readNumber_26 : decode prog_13_method_85_code 26 = .ok (.bipush 57, 2) := by decide +kernel
theorem d_Mo_readNumber_28 : decode prog_13_method_85_code 28 = .ok (.invokestatic 62, 3) := by decide +kernel
theorem d_Mo_readNumber_31 : decode prog_13_method_85_code 31 = .ok (.ifCond .eq 35, 3) := by decide +kernel
theorem d_Mo_readNumber_34 : decode prog_13_method_85_code 34 = .ok (.aload_n 0, 1) := by decide +kernel
theorem d_Mo_readNumber_35 : decode prog_13_method_85_code 35 = .ok (.bipush 10, 2) := by decide +kernel
theorem d_Mo_readNumber_37 : decode prog_13_method_85_code 37 = .ok (.aload_n 0, 1) := by decide +kernel
theorem d_Mo_readNumber_38 : decode prog_13_method_85_code 38 = .ok (.getfield 277, 3) := by decide +kernel
theorem d_Mo_readNumber_41 : decode prog_13_method_85_code 41 = .ok (.imul, 1) := by decide +kernel
theorem d_Mo_readNumber_42 : decode prog_13_method_85_code 42 = .ok (.aload_n 0, 1) := by decide +kernel
theorem d_Mo_readNumber_43 : decode prog_13_method_85_code 43 = .ok (.invokevirtual 274, 3) := by decide +kernel
theorem d_Mo_readNumber_46 : decode prog_13_method_85_code 46 = .ok (.iadd, 1) := by decide +kernel
theorem d_Mo_readNumber_47 : decode prog_13_method_85_code 47 = .ok (.bipush 48, 2) := by decide +kernel
theorem d_Mo_readNumber_49 : decode prog_13_method_85_code 49 = .ok (.isub, 1) := by decide +kernel
theorem d_Mo_readNumber_50 : decode prog_13_method_85_code 50 = .ok (.putfield 277, 3) := by decide +kernel
theorem d_Mo_readNumber_53 : decode prog_13_method_85_code 53 = .ok (.aload_n 0, 1) := by decide +kernel
theorem d_Mo_readNumber_54 : decode prog_13_method_85_code 54 = .ok (.dup, 1) := by decide +kernel
theorem d_Mo_readNumber_55 : decode prog_13_method_85_code 55 = .ok (.getfield 271, 3) := by decide +kernel
theorem d_Mo_readNumber_58 : decode prog_13_method_85_code 58 = .ok (.iconst 1, 1) := by decide +kernel
theorem d_Mo_readNumber_59 : decode prog_13_method_85_code 59 = .ok (.iadd, 1) := by decide +kernel
theorem d_Mo_readNumber_60 : decode prog_13_method_85_code 60 = .ok (.putfield 271, 3) := by decide +kernel
theorem d_Mo_readNumber_63 : decode prog_13_method_85_code 63 = .ok (.goto (-53), 3) := by decide +kernel
theorem d_Mo_readNumber_66 : decode prog_13_method_85_code 66 = .ok (.aload_n 0, 1) := by decide +kernel
theorem d_Mo_readNumber_67 : decode prog_13_method_85_code 67 = .ok (.getfield 271, 3) := by decide +kernel
theorem d_Mo_readNumber_70 : decode prog_13_method_85_code 70 = .ok (.iload_n 3, 1) := by decide +kernel
theorem d_Mo_readNumber_71 : decode prog_13_method_85_code 71 = .ok (.if_icmp .eq 17, 3) := by decide +kernel
theorem d_Mo_readNumber_74 : decode prog_13_method_85_code 74 = .ok (.aload_n 0, 1) := by decide +kernel
theorem d_Mo_readNumber_75 : decode prog_13_method_85_code 75 = .ok (.invokevirtual 274, 3) := by decide +kernel
theorem d_Mo_readNumber_78 : decode prog_13_method_85_code 78 = .ok (.bipush 48, 2) := by decide +kernel
theorem d_Mo_readNumber_80 : decode prog_13_method_85_code 80 = .ok (.bipush 57, 2) := by decide +kernel
theorem d_Mo_readNumber_82 : decode prog_13_method_85_code 82 = .ok (.invokestatic 62, 3) := by decide +kernel
theorem d_Mo_readNumber_85 : decode prog_13_method_85_code 85 = .ok (.ifCond .eq 5, 3) := by decide +kernel
theorem d_Mo_readNumber_88 : decode prog_13_method_85_code 88 = .ok (.iconst 0, 1) := by decide +kernel
theorem d_Mo_readNumber_89 : decode prog_13_method_85_code 89 = .ok (.ireturn, 1) := by decide +kernel
theorem d_Mo_readNumber_90 : decode prog_13_method_85_code 90 = .ok (.aload_n 0, 1) := by decide +kernel
theorem d_Mo_readNumber_91 : decode prog_13_method_85_code 91 = .ok (.getfield 277, 3) := by decide +kernel
theorem d_Mo_readNumber_94 : decode prog_13_method_85_code 94 = .ok (.iload_n 1, 1) := by decide +kernel
theorem d_Mo_readNumber_95 : decode prog_13_method_85_code 95 = .ok (.iload_n 2, 1) := by decide +kernel
theorem d_Mo_readNumber_96 : decode prog_13_method_85_code 96 = .ok (.invokestatic 62, 3) := by decide +kernel
theorem d_Mo_readNumber_99 : decode prog_13_method_85_code 99 = .ok (.istore 4, 2) := by decide +kernel
theorem d_Mo_readNumber_101 : decode prog_13_method_85_code 101 = .ok (.aload_n 0, 1) := by decide +kernel
theorem d_Mo_readNumber_102 : decode prog_13_method_85_code 102 = .ok (.iload 4, 2) := by decide +kernel
theorem d_Mo_readNumber_104 : decode prog_13_method_85_code 104 = .ok (.ifCond .eq 10, 3) := by decide +kernel
theorem d_Mo_readNumber_107 : decode prog_13_method_85_code 107 = .ok (.aload_n 0, 1) := by decide +kernel
theorem d_Mo_readNumber_108 : decode prog_13_method_85_code 108 = .ok (.getfield 271, 3) := by decide +kernel
theorem d_Mo_readNumber_111 : decode prog_13_method_85_code 111 = .ok (.goto 4, 3) := by decide +kernel
theorem d_Mo_readNumber_114 : decode prog_13_method_85_code 114 = .ok (.iload_n 3, 1) := by decide +kernel
theorem d_Mo_readNumber_115 : decode prog_13_method_85_code 115 = .ok (.putfield 271, 3) := by decide +kernel
theorem d_Mo_readNumber_118 : decode prog_13_method_85_code 118 = .ok (.iload 4, 2) := by decide +kernel
theorem d_Mo_readNumber_120 : decode prog_13_method_85_code 120 = .ok (.ireturn, 1) := by decide +kernel
def b_Mo_readNumber_115 (F : Nat) (i4 : Int32) (s0 : Int32) (s1 : Nat) (h : PH) : Option (Int32 × PH) :=
  bnd (pV h s1 10 22 (.int s0)) fun h1 => bnd (cZ i4) fun _ => some (i4, h1)
theorem g_Mo_readNumber_115 {l : Launch} {E : ET} {d : Nat} (hd : 2 ≤ d) {F : Nat} {r : Int32} {h9 : PH} {x : Nat}  (i4 : Int32) (s0 : Int32) (s1 : Nat) (h : PH) (hf : b_Mo_readNumber_115 F i4 s0 s1 h = some (r, h9)) : Go l E m_Mo_readNumber (rm d 0 0) (KM E 0 0 (PoE (some (.int r)) h9 x)) 0 0 h x 115 [(4, .int i4)] [.int s0, .ref s1] := by
  unfold b_Mo_readNumber_115 at hf
  obtain ⟨h1, e_h1, hf⟩ := bnd_x hf
  refine go_putI d_Mo_readNumber_115 e_h1 fl_Mo_271 rfl rfl ?_
  refine go_iload 0 d_Mo_readNumber_118 rfl ?_
  obtain ⟨_, e2, hf⟩ := bnd_x hf
  obtain ⟨e8, e9⟩ := Prod.mk.inj (Option.some.inj hf)
  subst e8; subst e9
  exact go_zret d_Mo_readNumber_120 e2 rfl ⟨rfl, rfl, rfl⟩
def b_Mo_readNumber_66 (F : Nat) (a0 : Nat) (i1 : Int32) (i2 : Int32) (i3 : Int32) (h : PH) : Option (Int32 × PH) :=
  bnd (gI h a0 10 22) fun x1 => (if x1 = i3 then some ((0 : Int32), h) else bnd (cK h a0 10) fun _ => bnd (f_Mo_here a0 h) fun x3 => bnd (f_Mo_in x3 (48 : Int32) (57 : Int32)) fun x4 => (if x4 = (0 : Int32) then bnd (gI h a0 10 23) fun x5 => bnd (f_Mo_in x5 i1 i2) fun x6 => (if x6 = (0 : Int32) then b_Mo_readNumber_115 F x6 i3 a0 h else bnd (gI h a0 10 22) fun x7 => b_Mo_readNumber_115 F x6 x7 a0 h) else some ((0 : Int32), h)))
theorem g_Mo_readNumber_66 {l : Launch} {E : ET} {d : Nat} (hd : 2 ≤ d) {F : Nat} {r : Int32} {h9 : PH} {x : Nat}  (a0 : Nat) (i1 : Int32) (i2 : Int32) (i3 : Int32) (h : PH) (hf : b_Mo_readNumber_66 F a0 i1 i2 i3 h = some (r, h9)) : Go l E m_Mo_readNumber (rm d 0 0) (KM E 0 0 (PoE (some (.int r)) h9 x)) 0 0 h x 66 [(0, .ref a0), (1, .int i1), (2, .int i2), (3, .int i3)] [] := by
  unfold b_Mo_readNumber_66 at hf
  refine go_aload_n 0 d_Mo_readNumber_66 rfl ?_
  obtain ⟨x1, e_x1, hf⟩ := bnd_x hf
  refine go_get d_Mo_readNumber_67 (gI_x e_x1) fl_Mo_271 ?_
  refine go_iload_n 3 d_Mo_readNumber_70 rfl ?_
  refine go_icmp_eq 88 d_Mo_readNumber_71 (by decide) (fun q10 => ?_) (fun q10 => ?_)
  · rw [if_pos q10] at hf
    refine go_iconst (0 : Int32) d_Mo_readNumber_88 (by decide) ?_
    obtain ⟨e8, e9⟩ := Prod.mk.inj (Option.some.inj hf)
    subst e8; subst e9
    exact go_zret d_Mo_readNumber_89 rfl rfl ⟨rfl, rfl, rfl⟩
  · rw [if_neg q10] at hf
    refine go_aload_n 0 d_Mo_readNumber_74 rfl ?_
    obtain ⟨_, e2, hf⟩ := bnd_x hf
    obtain ⟨x3, e_x3, hf⟩ := bnd_x hf
    refine go_callV_I (As := []) (st := []) (c_Mo_here (d := d - 1) (by omega) e_x3) lk_Mo_274 rfl rfl e2 (by decide) rfl (rm_ok (by omega)) (Nat.le_of_ble_eq_true rfl) rm_c d_Mo_readNumber_75 ?_
    refine go_bipush (48 : Int32) d_Mo_readNumber_78 (by decide) ?_
    refine go_bipush (57 : Int32) d_Mo_readNumber_80 (by decide) ?_
    obtain ⟨x4, e_x4, hf⟩ := bnd_x hf
    refine go_callS_I (As := [.int x3, .int (48 : Int32), .int (57 : Int32)]) (st := []) (c_Mo_in (d := d - 1) (by omega) e_x4) lk_Mo_62 rfl rfl (rm_ok (by omega)) (Nat.le_of_ble_eq_true rfl) rm_c d_Mo_readNumber_82 ?_
    refine go_if_eq 90 d_Mo_readNumber_85 (by decide) (fun q9 => ?_) (fun q9 => ?_)
    · rw [if_pos q9] at hf
      refine go_aload_n 0 d_Mo_readNumber_90 rfl ?_
      obtain ⟨x5, e_x5, hf⟩ := bnd_x hf
      refine go_get d_Mo_readNumber_91 (gI_x e_x5) fl_Mo_277 ?_
      refine go_iload_n 1 d_Mo_readNumber_94 rfl ?_
      refine go_iload_n 2 d_Mo_readNumber_95 rfl ?_
      obtain ⟨x6, e_x6, hf⟩ := bnd_x hf
      refine go_callS_I (As := [.int x5, .int i1, .int i2]) (st := []) (c_Mo_in (d := d - 1) (by omega) e_x6) lk_Mo_62 rfl rfl (rm_ok (by omega)) (Nat.le_of_ble_eq_true rfl) rm_c d_Mo_readNumber_96 ?_
      refine go_istore (lv' := [(4, .int x6), (0, .ref a0), (1, .int i1), (2, .int i2), (3, .int i3)]) d_Mo_readNumber_99 rfl (by decide) ?_
      refine go_aload_n 1 d_Mo_readNumber_101 rfl ?_
      refine go_iload 0 d_Mo_readNumber_102 rfl ?_
      refine go_if_eq 114 d_Mo_readNumber_104 (by decide) (fun q8 => ?_) (fun q8 => ?_)
      · rw [if_pos q8] at hf
        refine go_iload_n 4 d_Mo_readNumber_114 rfl ?_
        refine go_sub (lv' := [(4, .int x6)]) [0] rfl ?_
        exact g_Mo_readNumber_115 hd  x6 i3 a0 h hf
      · rw [if_neg q8] at hf
        refine go_aload_n 1 d_Mo_readNumber_107 rfl ?_
        obtain ⟨x7, e_x7, hf⟩ := bnd_x hf
        refine go_get d_Mo_readNumber_108 (gI_x e_x7) fl_Mo_271 ?_
        refine go_goto 115 d_Mo_readNumber_111 (by decide) ?_
        refine go_sub (lv' := [(4, .int x6)]) [0] rfl ?_
        exact g_Mo_readNumber_115 hd  x6 x7 a0 h hf
    · rw [if_neg q9] at hf
      refine go_iconst (0 : Int32) d_Mo_readNumber_88 (by decide) ?_
      obtain ⟨e8, e9⟩ := Prod.mk.inj (Option.some.inj hf)
      subst e8; subst e9
      exact go_zret d_Mo_readNumber_89 rfl rfl ⟨rfl, rfl, rfl⟩
def b_Mo_readNumber_10 (F : Nat) (k10 : Nat → Int32 → Int32 → Int32 → PH → Option (Int32 × PH)) (a0 : Nat) (i1 : Int32) (i2 : Int32) (i3 : Int32) (h : PH) : Option (Int32 × PH) :=
  bnd (gI h a0 10 22) fun x1 => (if (2 : Int32) ≤ (x1 - i3) then b_Mo_readNumber_66 F a0 i1 i2 i3 h else bnd (cK h a0 10) fun _ => bnd (f_Mo_here a0 h) fun x3 => bnd (f_Mo_in x3 (48 : Int32) (57 : Int32)) fun x4 => (if x4 = (0 : Int32) then b_Mo_readNumber_66 F a0 i1 i2 i3 h else bnd (gI h a0 10 23) fun x5 => bnd (cK h a0 10) fun _ => bnd (f_Mo_here a0 h) fun x7 => bnd (pV h a0 10 23 (.int ((((10 : Int32) * x5) + x7) - (48 : Int32)))) fun h8 => bnd (gI h8 a0 10 22) fun x9 => bnd (pV h8 a0 10 22 (.int (x9 + (1 : Int32)))) fun h10 => k10 a0 i1 i2 i3 h10))
def f_Mo_readNumber_10 (F : Nat) : Nat → Nat → Int32 → Int32 → Int32 → PH → Option (Int32 × PH)
  | 0 => fun _ _ _ _ _ => none
  | n + 1 => b_Mo_readNumber_10 F (f_Mo_readNumber_10 F n)
theorem g_Mo_readNumber_10 {l : Launch} {E : ET} {d : Nat} (hd : 2 ≤ d) {F : Nat} {r : Int32} {h9 : PH} {x : Nat} {k10 : Nat → Int32 → Int32 → Int32 → PH → Option (Int32 × PH)} (hk10 : ∀ (a0 : Nat) (i1 : Int32) (i2 : Int32) (i3 : Int32) (hh : PH), k10 a0 i1 i2 i3 hh = some (r, h9) → Go l E m_Mo_readNumber (rm d 0 0) (KM E 0 0 (PoE (some (.int r)) h9 x)) 0 0 hh x 10 [(0, .ref a0), (1, .int i1), (2, .int i2), (3, .int i3)] []) (a0 : Nat) (i1 : Int32) (i2 : Int32) (i3 : Int32) (h : PH) (hf : b_Mo_readNumber_10 F k10 a0 i1 i2 i3 h = some (r, h9)) : Go l E m_Mo_readNumber (rm d 0 0) (KM E 0 0 (PoE (some (.int r)) h9 x)) 0 0 h x 10 [(0, .ref a0), (1, .int i1), (2, .int i2), (3, .int i3)] [] := by
  unfold b_Mo_readNumber_10 at hf
  refine go_aload_n 0 d_Mo_readNumber_10 rfl ?_
  obtain ⟨x1, e_x1, hf⟩ := bnd_x hf
  refine go_get d_Mo_readNumber_11 (gI_x e_x1) fl_Mo_271 ?_
  refine go_iload_n 3 d_Mo_readNumber_14 rfl ?_
  refine go_isub d_Mo_readNumber_15 ?_
  refine go_iconst (2 : Int32) d_Mo_readNumber_16 (by decide) ?_
  refine go_icmp_ge 66 d_Mo_readNumber_17 (by decide) (fun q12 => ?_) (fun q12 => ?_)
  · rw [if_pos q12] at hf
    refine go_sub (lv' := [(0, .ref a0), (1, .int i1), (2, .int i2), (3, .int i3)]) [0, 1, 2, 3] rfl ?_
    exact g_Mo_readNumber_66 hd  a0 i1 i2 i3 h hf
  · rw [if_neg q12] at hf
    refine go_aload_n 0 d_Mo_readNumber_20 rfl ?_
    obtain ⟨_, e2, hf⟩ := bnd_x hf
    obtain ⟨x3, e_x3, hf⟩ := bnd_x hf
    refine go_callV_I (As := []) (st := []) (c_Mo_here (d := d - 1) (by omega) e_x3) lk_Mo_274 rfl rfl e2 (by decide) rfl (rm_ok (by omega)) (Nat.le_of_ble_eq_true rfl) rm_c d_Mo_readNumber_21 ?_
    refine go_bipush (48 : Int32) d_Mo_readNumber_24 (by decide) ?_
    refine go_bipush (57 : Int32) d_Mo_readNumber_26 (by decide) ?_
    obtain ⟨x4, e_x4, hf⟩ := bnd_x hf
    refine go_callS_I (As := [.int x3, .int (48 : Int32), .int (57 : Int32)]) (st := []) (c_Mo_in (d := d - 1) (by omega) e_x4) lk_Mo_62 rfl rfl (rm_ok (by omega)) (Nat.le_of_ble_eq_true rfl) rm_c d_Mo_readNumber_28 ?_
    refine go_if_eq 66 d_Mo_readNumber_31 (by decide) (fun q11 => ?_) (fun q11 => ?_)
    · rw [if_pos q11] at hf
      refine go_sub (lv' := [(0, .ref a0), (1, .int i1), (2, .int i2), (3, .int i3)]) [0, 1, 2, 3] rfl ?_
      exact g_Mo_readNumber_66 hd  a0 i1 i2 i3 h hf
    · rw [if_neg q11] at hf
      refine go_aload_n 0 d_Mo_readNumber_34 rfl ?_
      refine go_bipush (10 : Int32) d_Mo_readNumber_35 (by decide) ?_
      refine go_aload_n 0 d_Mo_readNumber_37 rfl ?_
      obtain ⟨x5, e_x5, hf⟩ := bnd_x hf
      refine go_get d_Mo_readNumber_38 (gI_x e_x5) fl_Mo_277 ?_
      refine go_imul d_Mo_readNumber_41 ?_
      refine go_aload_n 0 d_Mo_readNumber_42 rfl ?_
      obtain ⟨_, e6, hf⟩ := bnd_x hf
      obtain ⟨x7, e_x7, hf⟩ := bnd_x hf
      refine go_callV_I (As := []) (st := [.int ((10 : Int32) * x5), .ref a0]) (c_Mo_here (d := d - 1) (by omega) e_x7) lk_Mo_274 rfl rfl e6 (by decide) rfl (rm_ok (by omega)) (Nat.le_of_ble_eq_true rfl) rm_c d_Mo_readNumber_43 ?_
      refine go_iadd d_Mo_readNumber_46 ?_
      refine go_bipush (48 : Int32) d_Mo_readNumber_47 (by decide) ?_
      refine go_isub d_Mo_readNumber_49 ?_
      obtain ⟨h8, e_h8, hf⟩ := bnd_x hf
      refine go_putI d_Mo_readNumber_50 e_h8 fl_Mo_277 rfl rfl ?_
      refine go_aload_n 0 d_Mo_readNumber_53 rfl ?_
      refine go_dup d_Mo_readNumber_54 rfl ?_
      obtain ⟨x9, e_x9, hf⟩ := bnd_x hf
      refine go_get d_Mo_readNumber_55 (gI_x e_x9) fl_Mo_271 ?_
      refine go_iconst (1 : Int32) d_Mo_readNumber_58 (by decide) ?_
      refine go_iadd d_Mo_readNumber_59 ?_
      obtain ⟨h10, e_h10, hf⟩ := bnd_x hf
      refine go_putI d_Mo_readNumber_60 e_h10 fl_Mo_271 rfl rfl ?_
      refine go_goto 10 d_Mo_readNumber_63 (by decide) ?_
      refine go_sub (lv' := [(0, .ref a0), (1, .int i1), (2, .int i2), (3, .int i3)]) [0, 1, 2, 3] rfl ?_
      exact hk10 a0 i1 i2 i3 h10 hf
theorem t_Mo_readNumber_10 {l : Launch} {E : ET} {d : Nat} (hd : 2 ≤ d) {F : Nat} {r : Int32} {h9 : PH} {x : Nat}  : ∀ (n : Nat) (a0 : Nat) (i1 : Int32) (i2 : Int32) (i3 : Int32) (hh : PH), f_Mo_readNumber_10 F n a0 i1 i2 i3 hh = some (r, h9) → Go l E m_Mo_readNumber (rm d 0 0) (KM E 0 0 (PoE (some (.int r)) h9 x)) 0 0 hh x 10 [(0, .ref a0), (1, .int i1), (2, .int i2), (3, .int i3)] [] := by
  intro n
  induction n with
  | zero => intro v0 v1 v2 v3 v4 hf; cases hf
  | succ n ih => intro v0 v1 v2 v3 v4 hf; exact g_Mo_readNumber_10 hd ih v0 v1 v2 v3 v4 hf
def f_Mo_readNumber (F : Nat) (a0 : Nat) (i1 : Int32) (i2 : Int32) (h : PH) : Option (Int32 × PH) :=
  bnd (gI h a0 10 22) fun x1 => bnd (pV h a0 10 23 (.int (0 : Int32))) fun h2 => f_Mo_readNumber_10 F F a0 i1 i2 x1 h2
theorem g_Mo_readNumber_0 {l : Launch} {E : ET} {d : Nat} (hd : 2 ≤ d) {F : Nat} {r : Int32} {h9 : PH} {x : Nat}  (a0 : Nat) (i1 : Int32) (i2 : Int32) (h : PH) (hf : f_Mo_readNumber F a0 i1 i2 h = some (r, h9)) : Go l E m_Mo_readNumber (rm d 0 0) (KM E 0 0 (PoE (some (.int r)) h9 x)) 0 0 h x 0 [(0, .ref a0), (1, .int i1), (2, .int i2)] [] := by
  unfold f_Mo_readNumber at hf
  refine go_aload_n 0 d_Mo_readNumber_0 rfl ?_
  obtain ⟨x1, e_x1, hf⟩ := bnd_x hf
  refine go_get d_Mo_readNumber_1 (gI_x e_x1) fl_Mo_271 ?_
  refine go_istore_n (lv' := [(3, .int x1), (0, .ref a0), (1, .int i1), (2, .int i2)]) d_Mo_readNumber_4 rfl (by decide) ?_
  refine go_aload_n 1 d_Mo_readNumber_5 rfl ?_
  refine go_iconst (0 : Int32) d_Mo_readNumber_6 (by decide) ?_
  obtain ⟨h2, e_h2, hf⟩ := bnd_x hf
  refine go_putI d_Mo_readNumber_7 e_h2 fl_Mo_277 rfl rfl ?_
  refine go_sub (lv' := [(0, .ref a0), (1, .int i1), (2, .int i2), (3, .int x1)]) [1, 2, 3, 0] rfl ?_
  exact t_Mo_readNumber_10 hd  _ a0 i1 i2 x1 h2 hf
theorem c_Mo_readNumber {l : Launch} {E : ET} {d : Nat} (hd : 2 ≤ d) {F : Nat} {r : Int32} {h9 : PH} {x : Nat} {a0 : Nat} {i1 : Int32} {i2 : Int32} {h : PH} (hf : f_Mo_readNumber F a0 i1 i2 h = some (r, h9)) : Fn l E m_Mo_readNumber d 0 0 [.ref a0, .int i1, .int i2] h x (PoE (some (.int r)) h9 x) :=
  Fn.of (by decide +kernel) (Nat.le_of_ble_eq_true rfl) (g_Mo_readNumber_0 hd a0 i1 i2 h hf)
theorem d_Mo_readCell_0 : decode prog_13_method_86_code 0 = .ok (.aload_n 0, 1) := by decide +kernel
theorem d_Mo_readCell_1 : decode prog_13_method_86_code 1 = .ok (.getfield 271, 3) := by decide +kernel
theorem d_Mo_readCell_4 : decode prog_13_method_86_code 4 = .ok (.istore_n 2, 1) := by decide +kernel
theorem d_Mo_readCell_5 : decode prog_13_method_86_code 5 = .ok (.aload_n 0, 1) := by decide +kernel
theorem d_Mo_readCell_6 : decode prog_13_method_86_code 6 = .ok (.iconst 0, 1) := by decide +kernel
theorem d_Mo_readCell_7 : decode prog_13_method_86_code 7 = .ok (.bipush 35, 2) := by decide +kernel
theorem d_Mo_readCell_9 : decode prog_13_method_86_code 9 = .ok (.invokevirtual 280, 3) := by decide +kernel
theorem d_Mo_readCell_12 : decode prog_13_method_86_code 12 = .ok (.ifCond .ne 5, 3) := by decide +kernel
theorem d_Mo_readCell_15 : decode prog_13_method_86_code 15 = .ok (.iconst 0, 1) := by decide +kernel
theorem d_Mo_readCell_16 : decode prog_13_method_86_code 16 = .ok (.ireturn, 1) := by decide +kernel
theorem d_Mo_readCell_17 : decode prog_13_method_86_code 17 = .ok (.iconst 0, 1) := by decide +kernel
theorem d_Mo_readCell_18 : decode prog_13_method_86_code 18 = .ok (.istore_n 3, 1) := by decide +kernel
theorem d_Mo_readCell_19 : decode prog_13_method_86_code 19 = .ok (.iload_n 3, 1) := by decide +kernel
theorem d_Mo_readCell_20 : decode prog_13_method_86_code 20 = .ok (.aload_n 0, 1) := by decide +kernel
theorem d_Mo_readCell_21 : decode prog_13_method_86_code 21 = .ok (.getfield 46, 3) := by decide +kernel
theorem d_Mo_readCell_24 : decode prog_13_method_86_code 24 = .ok (.iload_n 1, 1) := by decide +kernel
theorem d_Mo_readCell_25 : decode prog_13_method_86_code 25 = .ok (.iconst 2, 1) := by decide +kernel
theorem d_Mo_readCell_26 : decode prog_13_method_86_code 26 = .ok (.iadd, 1) := by decide +kernel
theorem d_Mo_readCell_27 : decode prog_13_method_86_code 27 = .ok (.iaload, 1) := by decide +kernel
theorem d_Mo_readCell_28 : decode prog_13_method_86_code 28 = .ok (.if_icmp .ge 33, 3) := by decide +kernel
theorem d_Mo_readCell_31 : decode prog_13_method_86_code 31 = .ok (.aload_n 0, 1) := by decide +kernel
theorem d_Mo_readCell_32 : decode prog_13_method_86_code 32 = .ok (.getfield 46, 3) := by decide +kernel
theorem d_Mo_readCell_35 : decode prog_13_method_86_code 35 = .ok (.iload_n 1, 1) := by decide +kernel
theorem d_Mo_readCell_36 : decode prog_13_method_86_code 36 = .ok (.iconst 3, 1) := by decide +kernel
theorem d_Mo_readCell_37 : decode prog_13_method_86_code 37 = .ok (.iadd, 1) := by decide +kernel
theorem d_Mo_readCell_38 : decode prog_13_method_86_code 38 = .ok (.iload_n 3, 1) := by decide +kernel
theorem d_Mo_readCell_39 : decode prog_13_method_86_code 39 = .ok (.iadd, 1) := by decide +kernel
theorem d_Mo_readCell_40 : decode prog_13_method_86_code 40 = .ok (.iaload, 1) := by decide +kernel
theorem d_Mo_readCell_41 : decode prog_13_method_86_code 41 = .ok (.aload_n 0, 1) := by decide +kernel
theorem d_Mo_readCell_42 : decode prog_13_method_86_code 42 = .ok (.getfield 277, 3) := by decide +kernel
theorem d_Mo_readCell_45 : decode prog_13_method_86_code 45 = .ok (.if_icmp .ne 10, 3) := by decide +kernel
theorem d_Mo_readCell_48 : decode prog_13_method_86_code 48 = .ok (.aload_n 0, 1) := by decide +kernel
theorem d_Mo_readCell_49 : decode prog_13_method_86_code 49 = .ok (.iload_n 2, 1) := by decide +kernel
theorem d_Mo_readCell_50 : decode prog_13_method_86_code 50 = .ok (.putfield 271, 3) := by decide +kernel
theorem d_Mo_readCell_53 : decode prog_13_method_86_code 53 = .ok (.iconst 0, 1) := by decide +kernel
theorem d_Mo_readCell_54 : decode prog_13_method_86_code 54 = .ok (.ireturn, 1) := by decide +kernel
theorem d_Mo_readCell_55 : decode prog_13_method_86_code 55 = .ok (.iinc 3 1, 3) := by decide +kernel
theorem d_Mo_readCell_58 : decode prog_13_method_86_code 58 = .ok (.goto (-39), 3) := by decide +kernel
theorem d_Mo_readCell_61 : decode prog_13_method_86_code 61 = .ok (.aload_n 0, 1) := by decide +kernel
theorem d_Mo_readCell_62 : decode prog_13_method_86_code 62 = .ok (.getfield 46, 3) := by decide +kernel
theorem d_Mo_readCell_65 : decode prog_13_method_86_code 65 = .ok (.iload_n 1, 1) := by decide +kernel
theorem d_Mo_readCell_66 : decode prog_13_method_86_code 66 = .ok (.iconst 3, 1) := by decide +kernel
theorem d_Mo_readCell_67 : decode prog_13_method_86_code 67 = .ok (.iadd, 1) := by decide +kernel
theorem d_Mo_readCell_68 : decode prog_13_method_86_code 68 = .ok (.aload_n 0, 1) := by decide +kernel
theorem d_Mo_readCell_69 : decode prog_13_method_86_code 69 = .ok (.getfield 46, 3) := by decide +kernel
theorem d_Mo_readCell_72 : decode prog_13_method_86_code 72 = .ok (.iload_n 1, 1) := by decide +kernel
theorem d_Mo_readCell_73 : decode prog_13_method_86_code 73 = .ok (.iconst 2, 1) := by decide +kernel
theorem d_Mo_readCell_74 : decode prog_13_method_86_code 74 = .ok (.iadd, 1) := by decide +kernel
theorem d_Mo_readCell_75 : decode prog_13_method_86_code 75 = .ok (.iaload, 1) := by decide +kernel
theorem d_Mo_readCell_76 : decode prog_13_method_86_code 76 = .ok (.iadd, 1) := by decide +kernel
theorem d_Mo_readCell_77 : decode prog_13_method_86_code 77 = .ok (.aload_n 0, 1) := by decide +kernel
theorem d_Mo_readCell_78 : decode prog_13_method_86_code 78 = .ok (.getfield 277, 3) := by decide +kernel
theorem d_Mo_readCell_81 : decode prog_13_method_86_code 81 = .ok (.iastore, 1) := by decide +kernel
theorem d_Mo_readCell_82 : decode prog_13_method_86_code 82 = .ok (.aload_n 0, 1) := by decide +kernel
theorem d_Mo_readCell_83 : decode prog_13_method_86_code 83 = .ok (.getfield 46, 3) := by decide +kernel
theorem d_Mo_readCell_86 : decode prog_13_method_86_code 86 = .ok (.iload_n 1, 1) := by decide +kernel
theorem d_Mo_readCell_87 : decode prog_13_method_86_code 87 = .ok (.iconst 2, 1) := by decide +kernel
theorem d_Mo_readCell_88 : decode prog_13_method_86_code 88 = .ok (.iadd, 1) := by decide +kernel
theorem d_Mo_readCell_89 : decode prog_13_method_86_code 89 = .ok (.dup2, 1) := by decide +kernel
theorem d_Mo_readCell_90 : decode prog_13_method_86_code 90 = .ok (.iaload, 1) := by decide +kernel
theorem d_Mo_readCell_91 : decode prog_13_method_86_code 91 = .ok (.iconst 1, 1) := by decide +kernel
theorem d_Mo_readCell_92 : decode prog_13_method_86_code 92 = .ok (.iadd, 1) := by decide +kernel
theorem d_Mo_readCell_93 : decode prog_13_method_86_code 93 = .ok (.iastore, 1) := by decide +kernel
theorem d_Mo_readCell_94 : decode prog_13_method_86_code 94 = .ok (.iconst 1, 1) := by decide +kernel
theorem d_Mo_readCell_95 : decode prog_13_method_86_code 95 = .ok (.ireturn, 1) := by decide +kernel
def b_Mo_readCell_19 (F : Nat) (k19 : Nat → Int32 → Int32 → Int32 → PH → Option (Int32 × PH)) (a0 : Nat) (i1 : Int32) (i2 : Int32) (i3 : Int32) (h : PH) : Option (Int32 × PH) :=
  bnd (gR h a0 10 24) fun x1 => bnd (aI h x1 (i1 + (2 : Int32))) fun x2 => (if x2 ≤ i3 then bnd (gR h a0 10 24) fun x3 => bnd (gR h a0 10 24) fun x4 => bnd (aI h x4 (i1 + (2 : Int32))) fun x5 => bnd (gI h a0 10 23) fun x6 => bnd (sI h x3 ((i1 + (3 : Int32)) + x5) x6) fun h7 => bnd (gR h7 a0 10 24) fun x8 => bnd (aI h7 x8 (i1 + (2 : Int32))) fun x9 => bnd (sI h7 x8 (i1 + (2 : Int32)) (x9 + (1 : Int32))) fun h10 => some ((1 : Int32), h10) else bnd (gR h a0 10 24) fun x11 => bnd (aI h x11 ((i1 + (3 : Int32)) + i3)) fun x12 => bnd (gI h a0 10 23) fun x13 => (if x12 = x13 then bnd (pV h a0 10 22 (.int i2)) fun h14 => some ((0 : Int32), h14) else k19 a0 i1 i2 (i3 + (1 : Int32)) h))
def f_Mo_readCell_19 (F : Nat) : Nat → Nat → Int32 → Int32 → Int32 → PH → Option (Int32 × PH)
  | 0 => fun _ _ _ _ _ => none
  | n + 1 => b_Mo_readCell_19 F (f_Mo_readCell_19 F n)
theorem g_Mo_readCell_19 {l : Launch} {E : ET} {d : Nat} (hd : 3 ≤ d) {F : Nat} {r : Int32} {h9 : PH} {x : Nat} {k19 : Nat → Int32 → Int32 → Int32 → PH → Option (Int32 × PH)} (hk19 : ∀ (a0 : Nat) (i1 : Int32) (i2 : Int32) (i3 : Int32) (hh : PH), k19 a0 i1 i2 i3 hh = some (r, h9) → Go l E m_Mo_readCell (rm d 0 0) (KM E 0 0 (PoE (some (.int r)) h9 x)) 0 0 hh x 19 [(0, .ref a0), (1, .int i1), (2, .int i2), (3, .int i3)] []) (a0 : Nat) (i1 : Int32) (i2 : Int32) (i3 : Int32) (h : PH) (hf : b_Mo_readCell_19 F k19 a0 i1 i2 i3 h = some (r, h9)) : Go l E m_Mo_readCell (rm d 0 0) (KM E 0 0 (PoE (some (.int r)) h9 x)) 0 0 h x 19 [(0, .ref a0), (1, .int i1), (2, .int i2), (3, .int i3)] [] := by
  unfold b_Mo_readCell_19 at hf
  refine go_iload_n 3 d_Mo_readCell_19 rfl ?_
  refine go_aload_n 0 d_Mo_readCell_20 rfl ?_
  obtain ⟨x1, e_x1, hf⟩ := bnd_x hf
  refine go_get d_Mo_readCell_21 (gR_x e_x1) fl_Mo_46 ?_
  refine go_iload_n 1 d_Mo_readCell_24 rfl ?_
  refine go_iconst (2 : Int32) d_Mo_readCell_25 (by decide) ?_
  refine go_iadd d_Mo_readCell_26 ?_
  obtain ⟨x2, e_x2, hf⟩ := bnd_x hf
  refine go_iaload d_Mo_readCell_27 e_x2 ?_
  refine go_icmp_ge 61 d_Mo_readCell_28 (by decide) (fun q16 => ?_) (fun q16 => ?_)
  · rw [if_pos q16] at hf
    refine go_aload_n 0 d_Mo_readCell_61 rfl ?_
    obtain ⟨x3, e_x3, hf⟩ := bnd_x hf
    refine go_get d_Mo_readCell_62 (gR_x e_x3) fl_Mo_46 ?_
    refine go_iload_n 1 d_Mo_readCell_65 rfl ?_
    refine go_iconst (3 : Int32) d_Mo_readCell_66 (by decide) ?_
    refine go_iadd d_Mo_readCell_67 ?_
    refine go_aload_n 0 d_Mo_readCell_68 rfl ?_
    obtain ⟨x4, e_x4, hf⟩ := bnd_x hf
    refine go_get d_Mo_readCell_69 (gR_x e_x4) fl_Mo_46 ?_
    refine go_iload_n 1 d_Mo_readCell_72 rfl ?_
    refine go_iconst (2 : Int32) d_Mo_readCell_73 (by decide) ?_
    refine go_iadd d_Mo_readCell_74 ?_
    obtain ⟨x5, e_x5, hf⟩ := bnd_x hf
    refine go_iaload d_Mo_readCell_75 e_x5 ?_
    refine go_iadd d_Mo_readCell_76 ?_
    refine go_aload_n 0 d_Mo_readCell_77 rfl ?_
    obtain ⟨x6, e_x6, hf⟩ := bnd_x hf
    refine go_get d_Mo_readCell_78 (gI_x e_x6) fl_Mo_277 ?_
    obtain ⟨h7, e_h7, hf⟩ := bnd_x hf
    refine go_iastore d_Mo_readCell_81 e_h7 ?_
    refine go_aload_n 0 d_Mo_readCell_82 rfl ?_
    obtain ⟨x8, e_x8, hf⟩ := bnd_x hf
    refine go_get d_Mo_readCell_83 (gR_x e_x8) fl_Mo_46 ?_
    refine go_iload_n 1 d_Mo_readCell_86 rfl ?_
    refine go_iconst (2 : Int32) d_Mo_readCell_87 (by decide) ?_
    refine go_iadd d_Mo_readCell_88 ?_
    refine go_dup2 d_Mo_readCell_89 rfl rfl ?_
    obtain ⟨x9, e_x9, hf⟩ := bnd_x hf
    refine go_iaload d_Mo_readCell_90 e_x9 ?_
    refine go_iconst (1 : Int32) d_Mo_readCell_91 (by decide) ?_
    refine go_iadd d_Mo_readCell_92 ?_
    obtain ⟨h10, e_h10, hf⟩ := bnd_x hf
    refine go_iastore d_Mo_readCell_93 e_h10 ?_
    refine go_iconst (1 : Int32) d_Mo_readCell_94 (by decide) ?_
    obtain ⟨e8, e9⟩ := Prod.mk.inj (Option.some.inj hf)
    subst e8; subst e9
    exact go_zret d_Mo_readCell_95 rfl rfl ⟨rfl, rfl, rfl⟩
  · rw [if_neg q16] at hf
    refine go_aload_n 0 d_Mo_readCell_31 rfl ?_
    obtain ⟨x11, e_x11, hf⟩ := bnd_x hf
    refine go_get d_Mo_readCell_32 (gR_x e_x11) fl_Mo_46 ?_
    refine go_iload_n 1 d_Mo_readCell_35 rfl ?_
    refine go_iconst (3 : Int32) d_Mo_readCell_36 (by decide) ?_
    refine go_iadd d_Mo_readCell_37 ?_
    refine go_iload_n 3 d_Mo_readCell_38 rfl ?_
    refine go_iadd d_Mo_readCell_39 ?_
    obtain ⟨x12, e_x12, hf⟩ := bnd_x hf
    refine go_iaload d_Mo_readCell_40 e_x12 ?_
    refine go_aload_n 0 d_Mo_readCell_41 rfl ?_
    obtain ⟨x13, e_x13, hf⟩ := bnd_x hf
    refine go_get d_Mo_readCell_42 (gI_x e_x13) fl_Mo_277 ?_
    refine go_icmp_ne 55 d_Mo_readCell_45 (by decide) (fun q15 => ?_) (fun q15 => ?_)
    · rw [if_neg q15] at hf
      refine go_iinc (lv' := [(3, .int (i3 + (1 : Int32))), (0, .ref a0), (1, .int i1), (2, .int i2)]) 3 (i3 + (1 : Int32)) d_Mo_readCell_55 rfl rfl rfl (by decide) ?_
      refine go_goto 19 d_Mo_readCell_58 (by decide) ?_
      refine go_sub (lv' := [(0, .ref a0), (1, .int i1), (2, .int i2), (3, .int (i3 + (1 : Int32)))]) [1, 2, 3, 0] rfl ?_
      exact hk19 a0 i1 i2 (i3 + (1 : Int32)) h hf
    · rw [if_pos q15] at hf
      refine go_aload_n 0 d_Mo_readCell_48 rfl ?_
      refine go_iload_n 2 d_Mo_readCell_49 rfl ?_
      obtain ⟨h14, e_h14, hf⟩ := bnd_x hf
      refine go_putI d_Mo_readCell_50 e_h14 fl_Mo_271 rfl rfl ?_
      refine go_iconst (0 : Int32) d_Mo_readCell_53 (by decide) ?_
      obtain ⟨e8, e9⟩ := Prod.mk.inj (Option.some.inj hf)
      subst e8; subst e9
      exact go_zret d_Mo_readCell_54 rfl rfl ⟨rfl, rfl, rfl⟩
theorem t_Mo_readCell_19 {l : Launch} {E : ET} {d : Nat} (hd : 3 ≤ d) {F : Nat} {r : Int32} {h9 : PH} {x : Nat}  : ∀ (n : Nat) (a0 : Nat) (i1 : Int32) (i2 : Int32) (i3 : Int32) (hh : PH), f_Mo_readCell_19 F n a0 i1 i2 i3 hh = some (r, h9) → Go l E m_Mo_readCell (rm d 0 0) (KM E 0 0 (PoE (some (.int r)) h9 x)) 0 0 hh x 19 [(0, .ref a0), (1, .int i1), (2, .int i2), (3, .int i3)] [] := by
  intro n
  induction n with
  | zero => intro v0 v1 v2 v3 v4 hf; cases hf
  | succ n ih => intro v0 v1 v2 v3 v4 hf; exact g_Mo_readCell_19 hd ih v0 v1 v2 v3 v4 hf
def f_Mo_readCell (F : Nat) (a0 : Nat) (i1 : Int32) (h : PH) : Option (Int32 × PH) :=
  bnd (gI h a0 10 22) fun x1 => bnd (cK h a0 10) fun _ => bnd2 (f_Mo_readNumber F a0 (0 : Int32) (35 : Int32) h) fun x3 h4 => (if x3 = (0 : Int32) then some ((0 : Int32), h4) else f_Mo_readCell_19 F F a0 i1 x1 (0 : Int32) h4)
theorem g_Mo_readCell_0 {l : Launch} {E : ET} {d : Nat} (hd : 3 ≤ d) {F : Nat} {r : Int32} {h9 : PH} {x : Nat}  (a0 : Nat) (i1 : Int32) (h : PH) (hf : f_Mo_readCell F a0 i1 h = some (r, h9)) : Go l E m_Mo_readCell (rm d 0 0) (KM E 0 0 (PoE (some (.int r)) h9 x)) 0 0 h x 0 [(0, .ref a0), (1, .int i1)] [] := by
  unfold f_Mo_readCell at hf
  refine go_aload_n 0 d_Mo_readCell_0 rfl ?_
  obtain ⟨x1, e_x1, hf⟩ := bnd_x hf
  refine go_get d_Mo_readCell_1 (gI_x e_x1) fl_Mo_271 ?_
  refine go_istore_n (lv' := [(2, .int x1), (0, .ref a0), (1, .int i1)]) d_Mo_readCell_4 rfl (by decide) ?_
  refine go_aload_n 1 d_Mo_readCell_5 rfl ?_
  refine go_iconst (0 : Int32) d_Mo_readCell_6 (by decide) ?_
  refine go_bipush (35 : Int32) d_Mo_readCell_7 (by decide) ?_
  obtain ⟨_, e2, hf⟩ := bnd_x hf
  obtain ⟨x3, h4, e_x3, hf⟩ := bnd2_x hf
  refine go_callV_I (As := [.int (0 : Int32), .int (35 : Int32)]) (st := []) (c_Mo_readNumber (d := d - 1) (by omega) e_x3) lk_Mo_280 rfl rfl e2 (by decide) rfl (rm_ok (by omega)) (Nat.le_of_ble_eq_true rfl) rm_c d_Mo_readCell_9 ?_
  refine go_if_ne 17 d_Mo_readCell_12 (by decide) (fun q5 => ?_) (fun q5 => ?_)
  · rw [if_neg q5] at hf
    refine go_iconst (0 : Int32) d_Mo_readCell_17 (by decide) ?_
    refine go_istore_n (lv' := [(3, .int (0 : Int32)), (2, .int x1), (0, .ref a0), (1, .int i1)]) d_Mo_readCell_18 rfl (by decide) ?_
    refine go_sub (lv' := [(0, .ref a0), (1, .int i1), (2, .int x1), (3, .int (0 : Int32))]) [2, 3, 1, 0] rfl ?_
    exact t_Mo_readCell_19 hd  _ a0 i1 x1 (0 : Int32) h4 hf
  · rw [if_pos q5] at hf
    refine go_iconst (0 : Int32) d_Mo_readCell_15 (by decide) ?_
    obtain ⟨e8, e9⟩ := Prod.mk.inj (Option.some.inj hf)
    subst e8; subst e9
    exact go_zret d_Mo_readCell_16 rfl rfl ⟨rfl, rfl, rfl⟩
theorem c_Mo_readCell {l : Launch} {E : ET} {d : Nat} (hd : 3 ≤ d) {F : Nat} {r : Int32} {h9 : PH} {x : Nat} {a0 : Nat} {i1 : Int32} {h : PH} (hf : f_Mo_readCell F a0 i1 h = some (r, h9)) : Fn l E m_Mo_readCell d 0 0 [.ref a0, .int i1] h x (PoE (some (.int r)) h9 x) :=
  Fn.of (by decide +kernel) (Nat.le_of_ble_eq_true rfl) (g_Mo_readCell_0 hd a0 i1 h hf)
theorem d_Mo_readConstraint_0 : decode prog_13_method_87_code 0 = .ok (.aload_n 0, 1) := by decide +kernel
theorem d_Mo_readConstraint_1 : decode prog_13_method_87_code 1 = .ok (.invokevirtual 274, 3) := by decide +kernel
theorem d_Mo_readConstraint_4 : decode prog_13_method_87_code 4 = .ok (.istore_n 1, 1) := by decide +kernel
theorem d_Mo_readConstraint_5 : decode prog_13_method_87_code 5 = .ok (.iload_n 1, 1) := by decide +kernel
theorem d_Mo_readConstraint_6 : decode prog_13_method_87_code 6 = .ok (.bipush 107, 2) := by decide +kernel
theorem d_Mo_readConstraint_8 : decode prog_13_method_87_code 8 = .ok (.if_icmp .eq 15, 3) := by decide +kernel
theorem d_Mo_readConstraint_11 : decode prog_13_method_87_code 11 = .ok (.iload_n 1, 1) := by decide +kernel
theorem d_Mo_readConstraint_12 : decode prog_13_method_87_code 12 = .ok (.bipush 97, 2) := by decide +kernel
theorem d_Mo_readConstraint_14 : decode prog_13_method_87_code 14 = .ok (.if_icmp .eq 9, 3) := by decide +kernel
theorem d_Mo_readConstraint_17 : decode prog_13_method_87_code 17 = .ok (.iload_n 1, 1) := by decide +kernel
theorem d_Mo_readConstraint_18 : decode prog_13_method_87_code 18 = .ok (.bipush 116, 2) := by decide +kernel
theorem d_Mo_readConstraint_20 : decode prog_13_method_87_code 20 = .ok (.if_icmp .ne 7, 3) := by decide +kernel
theorem d_Mo_readConstraint_23 : decode prog_13_method_87_code 23 = .ok (.iconst 1, 1) := by decide +kernel
theorem d_Mo_readConstraint_24 : decode prog_13_method_87_code 24 = .ok (.goto 4, 3) := by decide +kernel
theorem d_Mo_readConstraint_27 : decode prog_13_method_87_code 27 = .ok (.iconst 0, 1) := by decide +kernel
theorem d_Mo_readConstraint_28 : decode prog_13_method_87_code 28 = .ok (.istore_n 2, 1) := by decide +kernel
theorem d_Mo_readConstraint_29 : decode prog_13_method_87_code 29 = .ok (.aload_n 0, 1) := by decide +kernel
theorem d_Mo_readConstraint_30 : decode prog_13_method_87_code 30 = .ok (.getfield 283, 3) := by decide +kernel
theorem d_Mo_readConstraint_33 : decode prog_13_method_87_code 33 = .ok (.bipush 8, 2) := by decide +kernel
theorem d_Mo_readConstraint_35 : decode prog_13_method_87_code 35 = .ok (.if_icmp .eq 7, 3) := by decide +kernel
theorem d_Mo_readConstraint_38 : decode prog_13_method_87_code 38 = .ok (.iload_n 2, 1) := by decide +kernel
theorem d_Mo_readConstraint_39 : decode prog_13_method_87_code 39 = .ok (.ifCond .ne 5, 3) := by decide +kernel
theorem d_Mo_readConstraint_42 : decode prog_13_method_87_code 42 = .ok (.iconst 0, 1) := by decide +kernel
theorem d_Mo_readConstraint_43 : decode prog_13_method_87_code 43 = .ok (.ireturn, 1) := by decide +kernel
theorem d_Mo_readConstraint_44 : decode prog_13_method_87_code 44 = .ok (.aload_n 0, 1) := by decide +kernel
theorem d_Mo_readConstraint_45 : decode prog_13_method_87_code 45 = .ok (.dup, 1) := by decide +kernel
theorem d_Mo_readConstraint_46 : decode prog_13_method_87_code 46 = .ok (.getfield 271, 3) := by decide +kernel
theorem d_Mo_readConstraint_49 : decode prog_13_method_87_code 49 = .ok (.iconst 1, 1) := by decide +kernel
theorem d_Mo_readConstraint_50 : decode prog_13_method_87_code 50 = .ok (.iadd, 1) := by decide +kernel
theorem d_Mo_readConstraint_51 : decode prog_13_method_87_code 51 = .ok (.putfield 271, 3) := by decide +kernel
theorem d_Mo_readConstraint_54 : decode prog_13_method_87_code 54 = .ok (.bipush 9, 2) := by decide +kernel
theorem d_Mo_readConstraint_56 : decode prog_13_method_87_code 56 = .ok (.aload_n 0, 1) := by decide +kernel
theorem d_Mo_readConstraint_57 : decode prog_13_method_87_code 57 = .ok (.getfield 283, 3) := by decide +kernel
theorem d_Mo_readConstraint_60 : decode prog_13_method_87_code 60 = .ok (.imul, 1) := by decide +kernel
theorem d_Mo_readConstraint_61 : decode prog_13_method_87_code 61 = .ok (.istore_n 3, 1) := by decide +kernel
theorem d_Mo_readConstraint_62 : decode prog_13_method_87_code 62 = .ok (.aload_n 0, 1) := by decide +kernel
theorem d_Mo_readConstraint_63 : decode prog_13_method_87_code 63 = .ok (.getfield 46, 3) := by decide +kernel
theorem d_Mo_readConstraint_66 : decode prog_13_method_87_code 66 = .ok (.iload_n 3, 1) := by decide +kernel
theorem d_Mo_readConstraint_67 : decode prog_13_method_87_code 67 = .ok (.iload_n 1, 1) := by decide +kernel
theorem d_Mo_readConstraint_68 : decode prog_13_method_87_code 68 = .ok (.bipush 107, 2) := by decide +kernel
theorem d_Mo_readConstraint_70 : decode prog_13_method_87_code 70 = .ok (.if_icmp .ne 7, 3) := by decide +kernel
theorem d_Mo_readConstraint_73 : decode prog_13_method_87_code 73 = .ok (.iconst 0, 1) := by decide +kernel
theorem d_Mo_readConstraint_74 : decode prog_13_method_87_code 74 = .ok (.goto 14, 3) := by decide +kernel
theorem d_Mo_readConstraint_77 : decode prog_13_method_87_code 77 = .ok (.iload_n 1, 1) := by decide +kernel
theorem d_Mo_readConstraint_78 : decode prog_13_method_87_code 78 = .ok (.bipush 97, 2) := by decide +kernel
theorem d_Mo_readConstraint_80 : decode prog_13_method_87_code 80 = .ok (.if_icmp .ne 7, 3) := by decide +kernel
theorem d_Mo_readConstraint_83 : decode prog_13_method_87_code 83 = .ok (.iconst 1, 1) := by decide +kernel
theorem d_Mo_readConstraint_84 : decode prog_13_method_87_code 84 = .ok (.goto 4, 3) := by decide +kernel
theorem d_Mo_readConstraint_87 : decode prog_13_method_87_code 87 = .ok (.iconst 2, 1) := by decide +kernel
theorem d_Mo_readConstraint_88 : decode prog_13_method_87_code 88 = .ok (.iastore, 1) := by decide +kernel
theorem d_Mo_readConstraint_89 : decode prog_13_method_87_code 89 = .ok (.aload_n 0, 1) := by decide +kernel
theorem d_Mo_readConstraint_90 : decode prog_13_method_87_code 90 = .ok (.getfield 46, 3) := by decide +kernel
theorem d_Mo_readConstraint_93 : decode prog_13_method_87_code 93 = .ok (.iload_n 3, 1) := by decide +kernel
theorem d_Mo_readConstraint_94 : decode prog_13_method_87_code 94 = .ok (.iconst 1, 1) := by decide +kernel
theorem d_Mo_readConstraint_95 : decode prog_13_method_87_code 95 = .ok (.iadd, 1) := by decide +kernel
theorem d_Mo_readConstraint_96 : decode prog_13_method_87_code 96 = .ok (.iconst 0, 1) := by decide +kernel
theorem d_Mo_readConstraint_97 : decode prog_13_method_87_code 97 = .ok (.iastore, 1) := by decide +kernel
theorem d_Mo_readConstraint_98 : decode prog_13_method_87_code 98 = .ok (.aload_n 0, 1) := by decide +kernel
theorem d_Mo_readConstraint_99 : decode prog_13_method_87_code 99 = .ok (.getfield 46, 3) := by decide +kernel
theorem d_Mo_readConstraint_102 : decode prog_13_method_87_code 102 = .ok (.iload_n 3, 1) := by decide +kernel
theorem d_Mo_readConstraint_103 : decode prog_13_method_87_code 103 = .ok (.iconst 2, 1) := by decide +kernel
theorem d_Mo_readConstraint_104 : decode prog_13_method_87_code 104 = .ok (.iadd, 1) := by decide +kernel
theorem d_Mo_readConstraint_105 : decode prog_13_method_87_code 105 = .ok (.iconst 0, 1) := by decide +kernel
theorem d_Mo_readConstraint_106 : decode prog_13_method_87_code 106 = .ok (.iastore, 1) := by decide +kernel
theorem d_Mo_readConstraint_107 : decode prog_13_method_87_code 107 = .ok (.iload_n 1, 1) := by decide +kernel
theorem d_Mo_readConstraint_108 : decode prog_13_method_87_code 108 = .ok (.bipush 107, 2) := by decide +kernel
theorem d_Mo_readConstraint_110 : decode prog_13_method_87_code 110 = .ok (.if_icmp .ne 27, 3) := by decide +kernel
theorem d_Mo_readConstraint_113 : decode prog_13_method_87_code 113 = .ok (.aload_n 0, 1) := by decide +kernel
theorem d_Mo_readConstraint_114 : decode prog_13_method_87_code 114 = .ok (.iconst 1, 1) := by decide +kernel
theorem d_Mo_readConstraint_115 : decode prog_13_method_87_code 115 = .ok (.bipush 24, 2) := by decide +kernel
theorem d_Mo_readConstraint_117 : decode prog_13_method_87_code 117 = .ok (.invokevirtual 280, 3) := by decide +kernel
theorem d_Mo_readConstraint_120 : decode prog_13_method_87_code 120 = .ok (.ifCond .ne 5, 3) := by decide +kernel
theorem d_Mo_readConstraint_123 : decode prog_13_method_87_code 123 = .ok (.iconst 0, 1) := by decide +kernel
theorem d_Mo_readConstraint_124 : decode prog_13_method_87_code 124 = .ok (.ireturn, 1) := by decide +kernel
theorem d_Mo_readConstraint_125 : decode prog_13_method_87_code 125 = .ok (.aload_n 0, 1) := by decide +kernel
theorem d_Mo_readConstraint_126 : decode prog_13_method_87_code 126 = .ok (.getfield 46, 3) := by decide +kernel
theorem d_Mo_readConstraint_129 : decode prog_13_method_87_code 129 = .ok (.iload_n 3, 1) := by decide +kernel
theorem d_Mo_readConstraint_130 : decode prog_13_method_87_code 130 = .ok (.iconst 1, 1) := by decide +kernel
theorem d_Mo_readConstraint_131 : decode prog_13_method_87_code 131 = .ok (.iadd, 1) := by decide +kernel
theorem d_Mo_readConstraint_132 : decode prog_13_method_87_code 132 = .ok (.aload_n 0, 1) := by decide +kernel
theorem d_Mo_readConstraint_133 : decode prog_13_method_87_code 133 = .ok (.getfield 277, 3) := by decide +kernel
theorem d_Mo_readConstraint_136 : decode prog_13_method_87_code 136 = .ok (.iastore, 1) := by decide +kernel
theorem d_Mo_readConstraint_137 : decode prog_13_method_87_code 137 = .ok (.aload_n 0, 1) := by decide +kernel
theorem d_Mo_readConstraint_138 : decode prog_13_method_87_code 138 = .ok (.getfield 46, 3) := by decide +kernel
theorem d_Mo_readConstraint_141 : decode prog_13_method_87_code 141 = .ok (.iload_n 3, 1) := by decide +kernel
theorem d_Mo_readConstraint_142 : decode prog_13_method_87_code 142 = .ok (.iconst 2, 1) := by decide +kernel
theorem d_Mo_readConstraint_143 : decode prog_13_method_87_code 143 = .ok (.iadd, 1) := by decide +kernel
theorem d_Mo_readConstraint_144 : decode prog_13_method_87_code 144 = .ok (.iaload, 1) := by decide +kernel
theorem d_Mo_readConstraint_145 : decode prog_13_method_87_code 145 = .ok (.iconst 2, 1) := by decide +kernel
theorem d_Mo_readConstraint_146 : decode prog_13_method_87_code 146 = .ok (.if_icmp .lt 12, 3) := by decide +kernel
theorem d_Mo_readConstraint_149 : decode prog_13_method_87_code 149 = .ok (.aload_n 0, 1) := by decide +kernel
theorem d_Mo_readConstraint_150 : decode prog_13_method_87_code 150 = .ok (.invokevirtual 274, 3) := by decide +kernel
theorem d_Mo_readConstraint_153 : decode prog_13_method_87_code 153 = .ok (.bipush 58, 2) := by decide +kernel
theorem d_Mo_readConstraint_155 : decode prog_13_method_87_code 155 = .ok (.if_icmp .ne 42, 3) := by decide +kernel
theorem d_Mo_readConstraint_158 : decode prog_13_method_87_code 158 = .ok (.aload_n 0, 1) := by decide +kernel
theorem d_Mo_readConstraint_159 : decode prog_13_method_87_code 159 = .ok (.getfield 46, 3) := by decide +kernel
theorem d_Mo_readConstraint_162 : decode prog_13_method_87_code 162 = .ok (.iload_n 3, 1) := by decide +kernel
theorem d_Mo_readConstraint_163 : decode prog_13_method_87_code 163 = .ok (.iconst 2, 1) := by decide +kernel
theorem d_Mo_readConstraint_164 : decode prog_13_method_87_code 164 = .ok (.iadd, 1) := by decide +kernel
theorem d_Mo_readConstraint_165 : decode prog_13_method_87_code 165 = .ok (.iaload, 1) := by decide +kernel
theorem d_Mo_readConstraint_166 : decode prog_13_method_87_code 166 = .ok (.aload_n 0, 1) := by decide +kernel
theorem d_Mo_readConstraint_167 : decode prog_13_method_87_code 167 = .ok (.getfield 46, 3) := by decide +kernel
theorem d_Mo_readConstraint_170 : decode prog_13_method_87_code 170 = .ok (.iload_n 3, 1) := by decide +kernel
theorem d_Mo_readConstraint_171 : decode prog_13_method_87_code 171 = .ok (.iaload, 1) := by decide +kernel
theorem d_Mo_readConstraint_172 : decode prog_13_method_87_code 172 = .ok (.invokestatic 223, 3) := by decide +kernel
theorem d_Mo_readConstraint_175 : decode prog_13_method_87_code 175 = .ok (.if_icmp .eq 20, 3) := by decide +kernel
theorem d_Mo_readConstraint_178 : decode prog_13_method_87_code 178 = .ok (.aload_n 0, 1) := by decide +kernel
theorem d_Mo_readConstraint_179 : decode prog_13_method_87_code 179 = .ok (.bipush 58, 2) := by decide +kernel
theorem d_Mo_readConstraint_181 : decode prog_13_method_87_code 181 = .ok (.invokevirtual 286, 3) := by decide +kernel
theorem d_Mo_readConstraint_184 : decode prog_13_method_87_code 184 = .ok (.ifCond .eq 11, 3) := by decide +kernel
theorem d_Mo_readConstraint_187 : decode prog_13_method_87_code 187 = .ok (.aload_n 0, 1) := by decide +kernel
theorem d_Mo_readConstraint_188 : decode prog_13_method_87_code 188 = .ok (.iload_n 3, 1) := by decide +kernel
theorem d_Mo_readConstraint_189 : decode prog_13_method_87_code 189 = .ok (.invokevirtual 289, 3) := by decide +kernel
theorem d_Mo_readConstraint_192 : decode prog_13_method_87_code 192 = .ok (.ifCond .ne (-55), 3) := by decide +kernel
theorem d_Mo_readConstraint_195 : decode prog_13_method_87_code 195 = .ok (.iconst 0, 1) := by decide +kernel
theorem d_Mo_readConstraint_196 : decode prog_13_method_87_code 196 = .ok (.ireturn, 1) := by decide +kernel
theorem d_Mo_readConstraint_197 : decode prog_13_method_87_code 197 = .ok (.aload_n 0, 1) := by decide +kernel
theorem d_Mo_readConstraint_198 : decode prog_13_method_87_code 198 = .ok (.dup, 1) := by decide +kernel
theorem d_Mo_readConstraint_199 : decode prog_13_method_87_code 199 = .ok (.getfield 283, 3) := by decide +kernel
theorem d_Mo_readConstraint_202 : decode prog_13_method_87_code 202 = .ok (.iconst 1, 1) := by decide +kernel
theorem d_Mo_readConstraint_203 : decode prog_13_method_87_code 203 = .ok (.iadd, 1) := by decide +kernel
theorem d_Mo_readConstraint_204 : decode prog_13_method_87_code 204 = .ok (.putfield 283, 3) := by decide +kernel
theorem d_Mo_readConstraint_207 : decode prog_13_method_87_code 207 = .ok (.iconst 1, 1) := by decide +kernel
theorem d_Mo_readConstraint_208 : decode prog_13_method_87_code 208 = .ok (.ireturn, 1) := by decide +kernel
def b_Mo_readConstraint_158 (F : Nat) (k137 : Nat → Int32 → PH → Option (Int32 × PH)) (a0 : Nat) (i3 : Int32) (h : PH) : Option (Int32 × PH) :=
  bnd (gR h a0 10 24) fun x1 => bnd (aI h x1 (i3 + (2 : Int32))) fun x2 => bnd (gR h a0 10 24) fun x3 => bnd (aI h x3 i3) fun x4 => bnd (f_Mo_mostCells x4) fun x5 => (if x2 = x5 then some ((0 : Int32), h) else bnd (cK h a0 10) fun _ => bnd2 (f_Mo_passes a0 (58 : Int32) h) fun x7 h8 => (if x7 = (0 : Int32) then some ((0 : Int32), h8) else bnd (cK h8 a0 10) fun _ => bnd2 (f_Mo_readCell F a0 i3 h8) fun x10 h11 => (if x10 = (0 : Int32) then some ((0 : Int32), h11) else k137 a0 i3 h11)))
theorem g_Mo_readConstraint_158 {l : Launch} {E : ET} {d : Nat} (hd : 4 ≤ d) {F : Nat} {r : Int32} {h9 : PH} {x : Nat} {k137 : Nat → Int32 → PH → Option (Int32 × PH)} (hk137 : ∀ (a0 : Nat) (i3 : Int32) (hh : PH), k137 a0 i3 hh = some (r, h9) → Go l E m_Mo_readConstraint (rm d 0 0) (KM E 0 0 (PoE (some (.int r)) h9 x)) 0 0 hh x 137 [(0, .ref a0), (3, .int i3)] []) (a0 : Nat) (i3 : Int32) (h : PH) (hf : b_Mo_readConstraint_158 F k137 a0 i3 h = some (r, h9)) : Go l E m_Mo_readConstraint (rm d 0 0) (KM E 0 0 (PoE (some (.int r)) h9 x)) 0 0 h x 158 [(0, .ref a0), (3, .int i3)] [] := by
  unfold b_Mo_readConstraint_158 at hf
  refine go_aload_n 0 d_Mo_readConstraint_158 rfl ?_
  obtain ⟨x1, e_x1, hf⟩ := bnd_x hf
  refine go_get d_Mo_readConstraint_159 (gR_x e_x1) fl_Mo_46 ?_
  refine go_iload_n 1 d_Mo_readConstraint_162 rfl ?_
  refine go_iconst (2 : Int32) d_Mo_readConstraint_163 (by decide) ?_
  refine go_iadd d_Mo_readConstraint_164 ?_
  obtain ⟨x2, e_x2, hf⟩ := bnd_x hf
  refine go_iaload d_Mo_readConstraint_165 e_x2 ?_
  refine go_aload_n 0 d_Mo_readConstraint_166 rfl ?_
  obtain ⟨x3, e_x3, hf⟩ := bnd_x hf
  refine go_get d_Mo_readConstraint_167 (gR_x e_x3) fl_Mo_46 ?_
  refine go_iload_n 1 d_Mo_readConstraint_170 rfl ?_
  obtain ⟨x4, e_x4, hf⟩ := bnd_x hf
  refine go_iaload d_Mo_readConstraint_171 e_x4 ?_
  obtain ⟨x5, e_x5, hf⟩ := bnd_x hf
  refine go_callS_I (As := [.int x4]) (st := [.int x2]) (c_Mo_mostCells (d := d - 1) (by omega) e_x5) lk_Mo_223 rfl rfl (rm_ok (by omega)) (Nat.le_of_ble_eq_true rfl) rm_c d_Mo_readConstraint_172 ?_
  refine go_icmp_eq 195 d_Mo_readConstraint_175 (by decide) (fun q14 => ?_) (fun q14 => ?_)
  · rw [if_pos q14] at hf
    refine go_iconst (0 : Int32) d_Mo_readConstraint_195 (by decide) ?_
    obtain ⟨e8, e9⟩ := Prod.mk.inj (Option.some.inj hf)
    subst e8; subst e9
    exact go_zret d_Mo_readConstraint_196 rfl rfl ⟨rfl, rfl, rfl⟩
  · rw [if_neg q14] at hf
    refine go_aload_n 0 d_Mo_readConstraint_178 rfl ?_
    refine go_bipush (58 : Int32) d_Mo_readConstraint_179 (by decide) ?_
    obtain ⟨_, e6, hf⟩ := bnd_x hf
    obtain ⟨x7, h8, e_x7, hf⟩ := bnd2_x hf
    refine go_callV_I (As := [.int (58 : Int32)]) (st := []) (c_Mo_passes (d := d - 1) (by omega) e_x7) lk_Mo_286 rfl rfl e6 (by decide) rfl (rm_ok (by omega)) (Nat.le_of_ble_eq_true rfl) rm_c d_Mo_readConstraint_181 ?_
    refine go_if_eq 195 d_Mo_readConstraint_184 (by decide) (fun q13 => ?_) (fun q13 => ?_)
    · rw [if_pos q13] at hf
      refine go_iconst (0 : Int32) d_Mo_readConstraint_195 (by decide) ?_
      obtain ⟨e8, e9⟩ := Prod.mk.inj (Option.some.inj hf)
      subst e8; subst e9
      exact go_zret d_Mo_readConstraint_196 rfl rfl ⟨rfl, rfl, rfl⟩
    · rw [if_neg q13] at hf
      refine go_aload_n 0 d_Mo_readConstraint_187 rfl ?_
      refine go_iload_n 1 d_Mo_readConstraint_188 rfl ?_
      obtain ⟨_, e9, hf⟩ := bnd_x hf
      obtain ⟨x10, h11, e_x10, hf⟩ := bnd2_x hf
      refine go_callV_I (As := [.int i3]) (st := []) (c_Mo_readCell (d := d - 1) (by omega) e_x10) lk_Mo_289 rfl rfl e9 (by decide) rfl (rm_ok (by omega)) (Nat.le_of_ble_eq_true rfl) rm_c d_Mo_readConstraint_189 ?_
      refine go_if_ne 137 d_Mo_readConstraint_192 (by decide) (fun q12 => ?_) (fun q12 => ?_)
      · rw [if_neg q12] at hf
        refine go_sub (lv' := [(0, .ref a0), (3, .int i3)]) [0, 1] rfl ?_
        exact hk137 a0 i3 h11 hf
      · rw [if_pos q12] at hf
        refine go_iconst (0 : Int32) d_Mo_readConstraint_195 (by decide) ?_
        obtain ⟨e8, e9⟩ := Prod.mk.inj (Option.some.inj hf)
        subst e8; subst e9
        exact go_zret d_Mo_readConstraint_196 rfl rfl ⟨rfl, rfl, rfl⟩
def b_Mo_readConstraint_137 (F : Nat) (k137 : Nat → Int32 → PH → Option (Int32 × PH)) (a0 : Nat) (i3 : Int32) (h : PH) : Option (Int32 × PH) :=
  bnd (gR h a0 10 24) fun x1 => bnd (aI h x1 (i3 + (2 : Int32))) fun x2 => (if x2 < (2 : Int32) then b_Mo_readConstraint_158 F k137 a0 i3 h else bnd (cK h a0 10) fun _ => bnd (f_Mo_here a0 h) fun x4 => (if x4 = (58 : Int32) then b_Mo_readConstraint_158 F k137 a0 i3 h else bnd (gI h a0 10 26) fun x5 => bnd (pV h a0 10 26 (.int (x5 + (1 : Int32)))) fun h6 => some ((1 : Int32), h6)))
def f_Mo_readConstraint_137 (F : Nat) : Nat → Nat → Int32 → PH → Option (Int32 × PH)
  | 0 => fun _ _ _ => none
  | n + 1 => b_Mo_readConstraint_137 F (f_Mo_readConstraint_137 F n)
theorem g_Mo_readConstraint_137 {l : Launch} {E : ET} {d : Nat} (hd : 4 ≤ d) {F : Nat} {r : Int32} {h9 : PH} {x : Nat} {k137 : Nat → Int32 → PH → Option (Int32 × PH)} (hk137 : ∀ (a0 : Nat) (i3 : Int32) (hh : PH), k137 a0 i3 hh = some (r, h9) → Go l E m_Mo_readConstraint (rm d 0 0) (KM E 0 0 (PoE (some (.int r)) h9 x)) 0 0 hh x 137 [(0, .ref a0), (3, .int i3)] []) (a0 : Nat) (i3 : Int32) (h : PH) (hf : b_Mo_readConstraint_137 F k137 a0 i3 h = some (r, h9)) : Go l E m_Mo_readConstraint (rm d 0 0) (KM E 0 0 (PoE (some (.int r)) h9 x)) 0 0 h x 137 [(0, .ref a0), (3, .int i3)] [] := by
  unfold b_Mo_readConstraint_137 at hf
  refine go_aload_n 0 d_Mo_readConstraint_137 rfl ?_
  obtain ⟨x1, e_x1, hf⟩ := bnd_x hf
  refine go_get d_Mo_readConstraint_138 (gR_x e_x1) fl_Mo_46 ?_
  refine go_iload_n 1 d_Mo_readConstraint_141 rfl ?_
  refine go_iconst (2 : Int32) d_Mo_readConstraint_142 (by decide) ?_
  refine go_iadd d_Mo_readConstraint_143 ?_
  obtain ⟨x2, e_x2, hf⟩ := bnd_x hf
  refine go_iaload d_Mo_readConstraint_144 e_x2 ?_
  refine go_iconst (2 : Int32) d_Mo_readConstraint_145 (by decide) ?_
  refine go_icmp_lt 158 d_Mo_readConstraint_146 (by decide) (fun q8 => ?_) (fun q8 => ?_)
  · rw [if_pos q8] at hf
    refine go_sub (lv' := [(0, .ref a0), (3, .int i3)]) [0, 1] rfl ?_
    exact g_Mo_readConstraint_158 hd hk137 a0 i3 h hf
  · rw [if_neg q8] at hf
    refine go_aload_n 0 d_Mo_readConstraint_149 rfl ?_
    obtain ⟨_, e3, hf⟩ := bnd_x hf
    obtain ⟨x4, e_x4, hf⟩ := bnd_x hf
    refine go_callV_I (As := []) (st := []) (c_Mo_here (d := d - 1) (by omega) e_x4) lk_Mo_274 rfl rfl e3 (by decide) rfl (rm_ok (by omega)) (Nat.le_of_ble_eq_true rfl) rm_c d_Mo_readConstraint_150 ?_
    refine go_bipush (58 : Int32) d_Mo_readConstraint_153 (by decide) ?_
    refine go_icmp_ne 197 d_Mo_readConstraint_155 (by decide) (fun q7 => ?_) (fun q7 => ?_)
    · rw [if_neg q7] at hf
      refine go_aload_n 0 d_Mo_readConstraint_197 rfl ?_
      refine go_dup d_Mo_readConstraint_198 rfl ?_
      obtain ⟨x5, e_x5, hf⟩ := bnd_x hf
      refine go_get d_Mo_readConstraint_199 (gI_x e_x5) fl_Mo_283 ?_
      refine go_iconst (1 : Int32) d_Mo_readConstraint_202 (by decide) ?_
      refine go_iadd d_Mo_readConstraint_203 ?_
      obtain ⟨h6, e_h6, hf⟩ := bnd_x hf
      refine go_putI d_Mo_readConstraint_204 e_h6 fl_Mo_283 rfl rfl ?_
      refine go_iconst (1 : Int32) d_Mo_readConstraint_207 (by decide) ?_
      obtain ⟨e8, e9⟩ := Prod.mk.inj (Option.some.inj hf)
      subst e8; subst e9
      exact go_zret d_Mo_readConstraint_208 rfl rfl ⟨rfl, rfl, rfl⟩
    · rw [if_pos q7] at hf
      refine go_sub (lv' := [(0, .ref a0), (3, .int i3)]) [0, 1] rfl ?_
      exact g_Mo_readConstraint_158 hd hk137 a0 i3 h hf
theorem t_Mo_readConstraint_137 {l : Launch} {E : ET} {d : Nat} (hd : 4 ≤ d) {F : Nat} {r : Int32} {h9 : PH} {x : Nat}  : ∀ (n : Nat) (a0 : Nat) (i3 : Int32) (hh : PH), f_Mo_readConstraint_137 F n a0 i3 hh = some (r, h9) → Go l E m_Mo_readConstraint (rm d 0 0) (KM E 0 0 (PoE (some (.int r)) h9 x)) 0 0 hh x 137 [(0, .ref a0), (3, .int i3)] [] := by
  intro n
  induction n with
  | zero => intro v0 v1 v2 hf; cases hf
  | succ n ih => intro v0 v1 v2 hf; exact g_Mo_readConstraint_137 hd ih v0 v1 v2 hf
def b_Mo_readConstraint_88 (F : Nat) (a0 : Nat) (i1 : Int32) (i3 : Int32) (s0 : Int32) (s1 : Int32) (s2 : Nat) (h : PH) : Option (Int32 × PH) :=
  bnd (sI h s2 s1 s0) fun h1 => bnd (gR h1 a0 10 24) fun x2 => bnd (sI h1 x2 (i3 + (1 : Int32)) (0 : Int32)) fun h3 => bnd (gR h3 a0 10 24) fun x4 => bnd (sI h3 x4 (i3 + (2 : Int32)) (0 : Int32)) fun h5 => (if i1 = (107 : Int32) then bnd (cK h5 a0 10) fun _ => bnd2 (f_Mo_readNumber F a0 (1 : Int32) (24 : Int32) h5) fun x7 h8 => (if x7 = (0 : Int32) then some ((0 : Int32), h8) else bnd (gR h8 a0 10 24) fun x9 => bnd (gI h8 a0 10 23) fun x10 => bnd (sI h8 x9 (i3 + (1 : Int32)) x10) fun h11 => f_Mo_readConstraint_137 F F a0 i3 h11) else f_Mo_readConstraint_137 F F a0 i3 h5)
theorem g_Mo_readConstraint_88 {l : Launch} {E : ET} {d : Nat} (hd : 4 ≤ d) {F : Nat} {r : Int32} {h9 : PH} {x : Nat}  (a0 : Nat) (i1 : Int32) (i3 : Int32) (s0 : Int32) (s1 : Int32) (s2 : Nat) (h : PH) (hf : b_Mo_readConstraint_88 F a0 i1 i3 s0 s1 s2 h = some (r, h9)) : Go l E m_Mo_readConstraint (rm d 0 0) (KM E 0 0 (PoE (some (.int r)) h9 x)) 0 0 h x 88 [(0, .ref a0), (1, .int i1), (3, .int i3)] [.int s0, .int s1, .ref s2] := by
  unfold b_Mo_readConstraint_88 at hf
  obtain ⟨h1, e_h1, hf⟩ := bnd_x hf
  refine go_iastore d_Mo_readConstraint_88 e_h1 ?_
  refine go_aload_n 0 d_Mo_readConstraint_89 rfl ?_
  obtain ⟨x2, e_x2, hf⟩ := bnd_x hf
  refine go_get d_Mo_readConstraint_90 (gR_x e_x2) fl_Mo_46 ?_
  refine go_iload_n 2 d_Mo_readConstraint_93 rfl ?_
  refine go_iconst (1 : Int32) d_Mo_readConstraint_94 (by decide) ?_
  refine go_iadd d_Mo_readConstraint_95 ?_
  refine go_iconst (0 : Int32) d_Mo_readConstraint_96 (by decide) ?_
  obtain ⟨h3, e_h3, hf⟩ := bnd_x hf
  refine go_iastore d_Mo_readConstraint_97 e_h3 ?_
  refine go_aload_n 0 d_Mo_readConstraint_98 rfl ?_
  obtain ⟨x4, e_x4, hf⟩ := bnd_x hf
  refine go_get d_Mo_readConstraint_99 (gR_x e_x4) fl_Mo_46 ?_
  refine go_iload_n 2 d_Mo_readConstraint_102 rfl ?_
  refine go_iconst (2 : Int32) d_Mo_readConstraint_103 (by decide) ?_
  refine go_iadd d_Mo_readConstraint_104 ?_
  refine go_iconst (0 : Int32) d_Mo_readConstraint_105 (by decide) ?_
  obtain ⟨h5, e_h5, hf⟩ := bnd_x hf
  refine go_iastore d_Mo_readConstraint_106 e_h5 ?_
  refine go_iload_n 1 d_Mo_readConstraint_107 rfl ?_
  refine go_bipush (107 : Int32) d_Mo_readConstraint_108 (by decide) ?_
  refine go_icmp_ne 137 d_Mo_readConstraint_110 (by decide) (fun q13 => ?_) (fun q13 => ?_)
  · rw [if_neg q13] at hf
    refine go_sub (lv' := [(0, .ref a0), (3, .int i3)]) [0, 2] rfl ?_
    exact t_Mo_readConstraint_137 hd  _ a0 i3 h5 hf
  · rw [if_pos q13] at hf
    refine go_aload_n 0 d_Mo_readConstraint_113 rfl ?_
    refine go_iconst (1 : Int32) d_Mo_readConstraint_114 (by decide) ?_
    refine go_bipush (24 : Int32) d_Mo_readConstraint_115 (by decide) ?_
    obtain ⟨_, e6, hf⟩ := bnd_x hf
    obtain ⟨x7, h8, e_x7, hf⟩ := bnd2_x hf
    refine go_callV_I (As := [.int (1 : Int32), .int (24 : Int32)]) (st := []) (c_Mo_readNumber (d := d - 1) (by omega) e_x7) lk_Mo_280 rfl rfl e6 (by decide) rfl (rm_ok (by omega)) (Nat.le_of_ble_eq_true rfl) rm_c d_Mo_readConstraint_117 ?_
    refine go_if_ne 125 d_Mo_readConstraint_120 (by decide) (fun q12 => ?_) (fun q12 => ?_)
    · rw [if_neg q12] at hf
      refine go_aload_n 0 d_Mo_readConstraint_125 rfl ?_
      obtain ⟨x9, e_x9, hf⟩ := bnd_x hf
      refine go_get d_Mo_readConstraint_126 (gR_x e_x9) fl_Mo_46 ?_
      refine go_iload_n 2 d_Mo_readConstraint_129 rfl ?_
      refine go_iconst (1 : Int32) d_Mo_readConstraint_130 (by decide) ?_
      refine go_iadd d_Mo_readConstraint_131 ?_
      refine go_aload_n 0 d_Mo_readConstraint_132 rfl ?_
      obtain ⟨x10, e_x10, hf⟩ := bnd_x hf
      refine go_get d_Mo_readConstraint_133 (gI_x e_x10) fl_Mo_277 ?_
      obtain ⟨h11, e_h11, hf⟩ := bnd_x hf
      refine go_iastore d_Mo_readConstraint_136 e_h11 ?_
      refine go_sub (lv' := [(0, .ref a0), (3, .int i3)]) [0, 2] rfl ?_
      exact t_Mo_readConstraint_137 hd  _ a0 i3 h11 hf
    · rw [if_pos q12] at hf
      refine go_iconst (0 : Int32) d_Mo_readConstraint_123 (by decide) ?_
      obtain ⟨e8, e9⟩ := Prod.mk.inj (Option.some.inj hf)
      subst e8; subst e9
      exact go_zret d_Mo_readConstraint_124 rfl rfl ⟨rfl, rfl, rfl⟩
def b_Mo_readConstraint_28 (F : Nat) (a0 : Nat) (i1 : Int32) (s0 : Int32) (h : PH) : Option (Int32 × PH) :=
  bnd (gI h a0 10 26) fun x1 => (if x1 = (8 : Int32) then some ((0 : Int32), h) else (if s0 = (0 : Int32) then some ((0 : Int32), h) else bnd (gI h a0 10 22) fun x2 => bnd (pV h a0 10 22 (.int (x2 + (1 : Int32)))) fun h3 => bnd (gI h3 a0 10 26) fun x4 => bnd (some ((9 : Int32) * x4)) fun y5 => bnd (gR h3 a0 10 24) fun x6 => (if i1 = (107 : Int32) then b_Mo_readConstraint_88 F a0 i1 y5 (0 : Int32) y5 x6 h3 else (if i1 = (97 : Int32) then b_Mo_readConstraint_88 F a0 i1 y5 (1 : Int32) y5 x6 h3 else b_Mo_readConstraint_88 F a0 i1 y5 (2 : Int32) y5 x6 h3))))
theorem g_Mo_readConstraint_28 {l : Launch} {E : ET} {d : Nat} (hd : 4 ≤ d) {F : Nat} {r : Int32} {h9 : PH} {x : Nat}  (a0 : Nat) (i1 : Int32) (s0 : Int32) (h : PH) (hf : b_Mo_readConstraint_28 F a0 i1 s0 h = some (r, h9)) : Go l E m_Mo_readConstraint (rm d 0 0) (KM E 0 0 (PoE (some (.int r)) h9 x)) 0 0 h x 28 [(0, .ref a0), (1, .int i1)] [.int s0] := by
  unfold b_Mo_readConstraint_28 at hf
  refine go_istore_n (lv' := [(2, .int s0), (0, .ref a0), (1, .int i1)]) d_Mo_readConstraint_28 rfl (by decide) ?_
  refine go_aload_n 1 d_Mo_readConstraint_29 rfl ?_
  obtain ⟨x1, e_x1, hf⟩ := bnd_x hf
  refine go_get d_Mo_readConstraint_30 (gI_x e_x1) fl_Mo_283 ?_
  refine go_bipush (8 : Int32) d_Mo_readConstraint_33 (by decide) ?_
  refine go_icmp_eq 42 d_Mo_readConstraint_35 (by decide) (fun q10 => ?_) (fun q10 => ?_)
  · rw [if_pos q10] at hf
    refine go_iconst (0 : Int32) d_Mo_readConstraint_42 (by decide) ?_
    obtain ⟨e8, e9⟩ := Prod.mk.inj (Option.some.inj hf)
    subst e8; subst e9
    exact go_zret d_Mo_readConstraint_43 rfl rfl ⟨rfl, rfl, rfl⟩
  · rw [if_neg q10] at hf
    refine go_iload_n 0 d_Mo_readConstraint_38 rfl ?_
    refine go_if_ne 44 d_Mo_readConstraint_39 (by decide) (fun q9 => ?_) (fun q9 => ?_)
    · rw [if_neg q9] at hf
      refine go_aload_n 1 d_Mo_readConstraint_44 rfl ?_
      refine go_dup d_Mo_readConstraint_45 rfl ?_
      obtain ⟨x2, e_x2, hf⟩ := bnd_x hf
      refine go_get d_Mo_readConstraint_46 (gI_x e_x2) fl_Mo_271 ?_
      refine go_iconst (1 : Int32) d_Mo_readConstraint_49 (by decide) ?_
      refine go_iadd d_Mo_readConstraint_50 ?_
      obtain ⟨h3, e_h3, hf⟩ := bnd_x hf
      refine go_putI d_Mo_readConstraint_51 e_h3 fl_Mo_271 rfl rfl ?_
      refine go_bipush (9 : Int32) d_Mo_readConstraint_54 (by decide) ?_
      refine go_aload_n 1 d_Mo_readConstraint_56 rfl ?_
      obtain ⟨x4, e_x4, hf⟩ := bnd_x hf
      refine go_get d_Mo_readConstraint_57 (gI_x e_x4) fl_Mo_283 ?_
      refine go_imul d_Mo_readConstraint_60 ?_
      obtain ⟨y5, e_y5, hf⟩ := bnd_x hf
      refine go_nmI e_y5 ?_
      refine go_istore_n (lv' := [(3, .int y5), (2, .int s0), (0, .ref a0), (1, .int i1)]) d_Mo_readConstraint_61 rfl (by decide) ?_
      refine go_aload_n 2 d_Mo_readConstraint_62 rfl ?_
      obtain ⟨x6, e_x6, hf⟩ := bnd_x hf
      refine go_get d_Mo_readConstraint_63 (gR_x e_x6) fl_Mo_46 ?_
      refine go_iload_n 0 d_Mo_readConstraint_66 rfl ?_
      refine go_iload_n 3 d_Mo_readConstraint_67 rfl ?_
      refine go_bipush (107 : Int32) d_Mo_readConstraint_68 (by decide) ?_
      refine go_icmp_ne 77 d_Mo_readConstraint_70 (by decide) (fun q8 => ?_) (fun q8 => ?_)
      · rw [if_neg q8] at hf
        refine go_iload_n 3 d_Mo_readConstraint_77 rfl ?_
        refine go_bipush (97 : Int32) d_Mo_readConstraint_78 (by decide) ?_
        refine go_icmp_ne 87 d_Mo_readConstraint_80 (by decide) (fun q7 => ?_) (fun q7 => ?_)
        · rw [if_neg q7] at hf
          refine go_iconst (2 : Int32) d_Mo_readConstraint_87 (by decide) ?_
          refine go_sub (lv' := [(0, .ref a0), (1, .int i1), (3, .int y5)]) [2, 3, 0] rfl ?_
          exact g_Mo_readConstraint_88 hd  a0 i1 y5 (2 : Int32) y5 x6 h3 hf
        · rw [if_pos q7] at hf
          refine go_iconst (1 : Int32) d_Mo_readConstraint_83 (by decide) ?_
          refine go_goto 88 d_Mo_readConstraint_84 (by decide) ?_
          refine go_sub (lv' := [(0, .ref a0), (1, .int i1), (3, .int y5)]) [2, 3, 0] rfl ?_
          exact g_Mo_readConstraint_88 hd  a0 i1 y5 (1 : Int32) y5 x6 h3 hf
      · rw [if_pos q8] at hf
        refine go_iconst (0 : Int32) d_Mo_readConstraint_73 (by decide) ?_
        refine go_goto 88 d_Mo_readConstraint_74 (by decide) ?_
        refine go_sub (lv' := [(0, .ref a0), (1, .int i1), (3, .int y5)]) [2, 3, 0] rfl ?_
        exact g_Mo_readConstraint_88 hd  a0 i1 y5 (0 : Int32) y5 x6 h3 hf
    · rw [if_pos q9] at hf
      refine go_iconst (0 : Int32) d_Mo_readConstraint_42 (by decide) ?_
      obtain ⟨e8, e9⟩ := Prod.mk.inj (Option.some.inj hf)
      subst e8; subst e9
      exact go_zret d_Mo_readConstraint_43 rfl rfl ⟨rfl, rfl, rfl⟩
def b_Mo_readConstraint_23 (F : Nat) (a0 : Nat) (i1 : Int32) (h : PH) : Option (Int32 × PH) :=
  b_Mo_readConstraint_28 F a0 i1 (1 : Int32) h
theorem g_Mo_readConstraint_23 {l : Launch} {E : ET} {d : Nat} (hd : 4 ≤ d) {F : Nat} {r : Int32} {h9 : PH} {x : Nat}  (a0 : Nat) (i1 : Int32) (h : PH) (hf : b_Mo_readConstraint_23 F a0 i1 h = some (r, h9)) : Go l E m_Mo_readConstraint (rm d 0 0) (KM E 0 0 (PoE (some (.int r)) h9 x)) 0 0 h x 23 [(0, .ref a0), (1, .int i1)] [] := by
  unfold b_Mo_readConstraint_23 at hf
  refine go_iconst (1 : Int32) d_Mo_readConstraint_23 (by decide) ?_
  refine go_goto 28 d_Mo_readConstraint_24 (by decide) ?_
  refine go_sub (lv' := [(0, .ref a0), (1, .int i1)]) [0, 1] rfl ?_
  exact g_Mo_readConstraint_28 hd  a0 i1 (1 : Int32) h hf
def f_Mo_readConstraint (F : Nat) (a0 : Nat) (h : PH) : Option (Int32 × PH) :=
  bnd (cK h a0 10) fun _ => bnd (f_Mo_here a0 h) fun x2 => (if x2 = (107 : Int32) then b_Mo_readConstraint_23 F a0 x2 h else (if x2 = (97 : Int32) then b_Mo_readConstraint_23 F a0 x2 h else (if x2 = (116 : Int32) then b_Mo_readConstraint_23 F a0 x2 h else b_Mo_readConstraint_28 F a0 x2 (0 : Int32) h)))
theorem g_Mo_readConstraint_0 {l : Launch} {E : ET} {d : Nat} (hd : 4 ≤ d) {F : Nat} {r : Int32} {h9 : PH} {x : Nat}  (a0 : Nat) (h : PH) (hf : f_Mo_readConstraint F a0 h = some (r, h9)) : Go l E m_Mo_readConstraint (rm d 0 0) (KM E 0 0 (PoE (some (.int r)) h9 x)) 0 0 h x 0 [(0, .ref a0)] [] := by
  unfold f_Mo_readConstraint at hf
  refine go_aload_n 0 d_Mo_readConstraint_0 rfl ?_
  obtain ⟨_, e1, hf⟩ := bnd_x hf
  obtain ⟨x2, e_x2, hf⟩ := bnd_x hf
  refine go_callV_I (As := []) (st := []) (c_Mo_here (d := d - 1) (by omega) e_x2) lk_Mo_274 rfl rfl e1 (by decide) rfl (rm_ok (by omega)) (Nat.le_of_ble_eq_true rfl) rm_c d_Mo_readConstraint_1 ?_
  refine go_istore_n (lv' := [(1, .int x2), (0, .ref a0)]) d_Mo_readConstraint_4 rfl (by decide) ?_
  refine go_iload_n 0 d_Mo_readConstraint_5 rfl ?_
  refine go_bipush (107 : Int32) d_Mo_readConstraint_6 (by decide) ?_
  refine go_icmp_eq 23 d_Mo_readConstraint_8 (by decide) (fun q5 => ?_) (fun q5 => ?_)
  · rw [if_pos q5] at hf
    refine go_sub (lv' := [(0, .ref a0), (1, .int x2)]) [1, 0] rfl ?_
    exact g_Mo_readConstraint_23 hd  a0 x2 h hf
  · rw [if_neg q5] at hf
    refine go_iload_n 0 d_Mo_readConstraint_11 rfl ?_
    refine go_bipush (97 : Int32) d_Mo_readConstraint_12 (by decide) ?_
    refine go_icmp_eq 23 d_Mo_readConstraint_14 (by decide) (fun q4 => ?_) (fun q4 => ?_)
    · rw [if_pos q4] at hf
      refine go_sub (lv' := [(0, .ref a0), (1, .int x2)]) [1, 0] rfl ?_
      exact g_Mo_readConstraint_23 hd  a0 x2 h hf
    · rw [if_neg q4] at hf
      refine go_iload_n 0 d_Mo_readConstraint_17 rfl ?_
      refine go_bipush (116 : Int32) d_Mo_readConstraint_18 (by decide) ?_
      refine go_icmp_ne 27 d_Mo_readConstraint_20 (by decide) (fun q3 => ?_) (fun q3 => ?_)
      · rw [if_neg q3] at hf
        refine go_iconst (0 : Int32) d_Mo_readConstraint_27 (by decide) ?_
        refine go_sub (lv' := [(0, .ref a0), (1, .int x2)]) [1, 0] rfl ?_
        exact g_Mo_readConstraint_28 hd  a0 x2 (0 : Int32) h hf
      · rw [if_pos q3] at hf
        refine go_sub (lv' := [(0, .ref a0), (1, .int x2)]) [1, 0] rfl ?_
        exact g_Mo_readConstraint_23 hd  a0 x2 h hf
theorem c_Mo_readConstraint {l : Launch} {E : ET} {d : Nat} (hd : 4 ≤ d) {F : Nat} {r : Int32} {h9 : PH} {x : Nat} {a0 : Nat} {h : PH} (hf : f_Mo_readConstraint F a0 h = some (r, h9)) : Fn l E m_Mo_readConstraint d 0 0 [.ref a0] h x (PoE (some (.int r)) h9 x) :=
  Fn.of (by decide +kernel) (Nat.le_of_ble_eq_true rfl) (g_Mo_readConstraint_0 hd a0 h hf)
theorem d_Mo_readAll_0 : decode prog_13_method_88_code 0 = .ok (.aload_n 0, 1) := by decide +kernel
theorem d_Mo_readAll_1 : decode prog_13_method_88_code 1 = .ok (.iconst 0, 1) := by decide +kernel
theorem d_Mo_readAll_2 : decode prog_13_method_88_code 2 = .ok (.putfield 271, 3) := by decide +kernel
theorem d_Mo_readAll_5 : decode prog_13_method_88_code 5 = .ok (.aload_n 0, 1) := by decide +kernel
theorem d_Mo_readAll_6 : decode prog_13_method_88_code 6 = .ok (.iconst 0, 1) := by decide +kernel
theorem d_Mo_readAll_7 : decode prog_13_method_88_code 7 = .ok (.putfield 283, 3) := by decide +kernel
theorem d_Mo_readAll_10 : decode prog_13_method_88_code 10 = .ok (.iconst 0, 1) := by decide +kernel
theorem d_Mo_readAll_11 : decode prog_13_method_88_code 11 = .ok (.istore_n 1, 1) := by decide +kernel
theorem d_Mo_readAll_12 : decode prog_13_method_88_code 12 = .ok (.iload_n 1, 1) := by decide +kernel
theorem d_Mo_readAll_13 : decode prog_13_method_88_code 13 = .ok (.bipush 36, 2) := by decide +kernel
theorem d_Mo_readAll_15 : decode prog_13_method_88_code 15 = .ok (.if_icmp .ge 67, 3) := by decide +kernel
theorem d_Mo_readAll_18 : decode prog_13_method_88_code 18 = .ok (.aload_n 0, 1) := by decide +kernel
theorem d_Mo_readAll_19 : decode prog_13_method_88_code 19 = .ok (.invokevirtual 274, 3) := by decide +kernel
theorem d_Mo_readAll_22 : decode prog_13_method_88_code 22 = .ok (.bipush 49, 2) := by decide +kernel
theorem d_Mo_readAll_24 : decode prog_13_method_88_code 24 = .ok (.bipush 54, 2) := by decide +kernel
theorem d_Mo_readAll_26 : decode prog_13_method_88_code 26 = .ok (.invokestatic 62, 3) := by decide +kernel
theorem d_Mo_readAll_29 : decode prog_13_method_88_code 29 = .ok (.istore_n 2, 1) := by decide +kernel
theorem d_Mo_readAll_30 : decode prog_13_method_88_code 30 = .ok (.iload_n 2, 1) := by decide +kernel
theorem d_Mo_readAll_31 : decode prog_13_method_88_code 31 = .ok (.ifCond .ne 14, 3) := by decide +kernel
theorem d_Mo_readAll_34 : decode prog_13_method_88_code 34 = .ok (.aload_n 0, 1) := by decide +kernel
theorem d_Mo_readAll_35 : decode prog_13_method_88_code 35 = .ok (.invokevirtual 274, 3) := by decide +kernel
theorem d_Mo_readAll_38 : decode prog_13_method_88_code 38 = .ok (.bipush 46, 2) := by decide +kernel
theorem d_Mo_readAll_40 : decode prog_13_method_88_code 40 = .ok (.if_icmp .eq 5, 3) := by decide +kernel
theorem d_Mo_readAll_43 : decode prog_13_method_88_code 43 = .ok (.iconst 0, 1) := by decide +kernel
theorem d_Mo_readAll_44 : decode prog_13_method_88_code 44 = .ok (.ireturn, 1) := by decide +kernel
theorem d_Mo_readAll_45 : decode prog_13_method_88_code 45 = .ok (.aload_n 0, 1) := by decide +kernel
theorem d_Mo_readAll_46 : decode prog_13_method_88_code 46 = .ok (.getfield 49, 3) := by decide +kernel
theorem d_Mo_readAll_49 : decode prog_13_method_88_code 49 = .ok (.iload_n 1, 1) := by decide +kernel
theorem d_Mo_readAll_50 : decode prog_13_method_88_code 50 = .ok (.iload_n 2, 1) := by decide +kernel
theorem d_Mo_readAll_51 : decode prog_13_method_88_code 51 = .ok (.ifCond .eq 13, 3) := by decide +kernel
theorem d_Mo_readAll_54 : decode prog_13_method_88_code 54 = .ok (.aload_n 0, 1) := by decide +kernel
theorem d_Mo_readAll_55 : decode prog_13_method_88_code 55 = .ok (.invokevirtual 274, 3) := by decide +kernel
theorem d_Mo_readAll_58 : decode prog_13_method_88_code 58 = .ok (.bipush 48, 2) := by decide +kernel
theorem d_Mo_readAll_60 : decode prog_13_method_88_code 60 = .ok (.isub, 1) := by decide +kernel
theorem d_Mo_readAll_61 : decode prog_13_method_88_code 61 = .ok (.goto 4, 3) := by decide +kernel
theorem d_Mo_readAll_64 : decode prog_13_method_88_code 64 = .ok (.iconst 0, 1) := by decide +kernel
theorem d_Mo_readAll_65 : decode prog_13_method_88_code 65 = .ok (.iastore, 1) := by decide +kernel
theorem d_Mo_readAll_66 : decode prog_13_method_88_code 66 = .ok (.aload_n 0, 1) := by decide +kernel
theorem d_Mo_readAll_67 : decode prog_13_method_88_code 67 = .ok (.dup, 1) := by decide +kernel
theorem d_Mo_readAll_68 : decode prog_13_method_88_code 68 = .ok (.getfield 271, 3) := by decide +kernel
theorem d_Mo_readAll_71 : decode prog_13_method_88_code 71 = .ok (.iconst 1, 1) := by decide +kernel
theorem d_Mo_readAll_72 : decode prog_13_method_88_code 72 = .ok (.iadd, 1) := by decide +kernel
theorem d_Mo_readAll_73 : decode prog_13_method_88_code 73 = .ok (.putfield 271, 3) := by decide +kernel
theorem d_Mo_readAll_76 : decode prog_13_method_88_code 76 = .ok (.iinc 1 1, 3) := by decide +kernel
theorem d_Mo_readAll_79 : decode prog_13_method_88_code 79 = .ok (.goto (-67), 3) := by decide +kernel
theorem d_Mo_readAll_82 : decode prog_13_method_88_code 82 = .ok (.aload_n 0, 1) := by decide +kernel
theorem d_Mo_readAll_83 : decode prog_13_method_88_code 83 = .ok (.getfield 271, 3) := by decide +kernel
theorem d_Mo_readAll_86 : decode prog_13_method_88_code 86 = .ok (.aload_n 0, 1) := by decide +kernel
theorem d_Mo_readAll_87 : decode prog_13_method_88_code 87 = .ok (.getfield 268, 3) := by decide +kernel
theorem d_Mo_readAll_90 : decode prog_13_method_88_code 90 = .ok (.if_icmp .ge 21, 3) := by decide +kernel
theorem d_Mo_readAll_93 : decode prog_13_method_88_code 93 = .ok (.aload_n 0, 1) := by decide +kernel
theorem d_Mo_readAll_94 : decode prog_13_method_88_code 94 = .ok (.bipush 59, 2) := by decide +kernel
theorem d_Mo_readAll_96 : decode prog_13_method_88_code 96 = .ok (.invokevirtual 286, 3) := by decide +kernel
theorem d_Mo_readAll_99 : decode prog_13_method_88_code 99 = .ok (.ifCond .eq 10, 3) := by decide +kernel
theorem d_Mo_readAll_102 : decode prog_13_method_88_code 102 = .ok (.aload_n 0, 1) := by decide +kernel
theorem d_Mo_readAll_103 : decode prog_13_method_88_code 103 = .ok (.invokevirtual 292, 3) := by decide +kernel
theorem d_Mo_readAll_106 : decode prog_13_method_88_code 106 = .ok (.ifCond .ne (-24), 3) := by decide +kernel
theorem d_Mo_readAll_109 : decode prog_13_method_88_code 109 = .ok (.iconst 0, 1) := by decide +kernel
theorem d_Mo_readAll_110 : decode prog_13_method_88_code 110 = .ok (.ireturn, 1) := by decide +kernel
theorem d_Mo_readAll_111 : decode prog_13_method_88_code 111 = .ok (.iconst 1, 1) := by decide +kernel
theorem d_Mo_readAll_112 : decode prog_13_method_88_code 112 = .ok (.ireturn, 1) := by decide +kernel
def b_Mo_readAll_65 (F : Nat) (k12 : Nat → Int32 → PH → Option (Int32 × PH)) (a0 : Nat) (i1 : Int32) (s0 : Int32) (s1 : Int32) (s2 : Nat) (h : PH) : Option (Int32 × PH) :=
  bnd (sI h s2 s1 s0) fun h1 => bnd (gI h1 a0 10 22) fun x2 => bnd (pV h1 a0 10 22 (.int (x2 + (1 : Int32)))) fun h3 => k12 a0 (i1 + (1 : Int32)) h3
theorem g_Mo_readAll_65 {l : Launch} {E : ET} {d : Nat} (hd : 5 ≤ d) {F : Nat} {r : Int32} {h9 : PH} {x : Nat} {k12 : Nat → Int32 → PH → Option (Int32 × PH)} (hk12 : ∀ (a0 : Nat) (i1 : Int32) (hh : PH), k12 a0 i1 hh = some (r, h9) → Go l E m_Mo_readAll (rm d 0 0) (KM E 0 0 (PoE (some (.int r)) h9 x)) 0 0 hh x 12 [(0, .ref a0), (1, .int i1)] []) (a0 : Nat) (i1 : Int32) (s0 : Int32) (s1 : Int32) (s2 : Nat) (h : PH) (hf : b_Mo_readAll_65 F k12 a0 i1 s0 s1 s2 h = some (r, h9)) : Go l E m_Mo_readAll (rm d 0 0) (KM E 0 0 (PoE (some (.int r)) h9 x)) 0 0 h x 65 [(0, .ref a0), (1, .int i1)] [.int s0, .int s1, .ref s2] := by
  unfold b_Mo_readAll_65 at hf
  obtain ⟨h1, e_h1, hf⟩ := bnd_x hf
  refine go_iastore d_Mo_readAll_65 e_h1 ?_
  refine go_aload_n 0 d_Mo_readAll_66 rfl ?_
  refine go_dup d_Mo_readAll_67 rfl ?_
  obtain ⟨x2, e_x2, hf⟩ := bnd_x hf
  refine go_get d_Mo_readAll_68 (gI_x e_x2) fl_Mo_271 ?_
  refine go_iconst (1 : Int32) d_Mo_readAll_71 (by decide) ?_
  refine go_iadd d_Mo_readAll_72 ?_
  obtain ⟨h3, e_h3, hf⟩ := bnd_x hf
  refine go_putI d_Mo_readAll_73 e_h3 fl_Mo_271 rfl rfl ?_
  refine go_iinc (lv' := [(1, .int (i1 + (1 : Int32))), (0, .ref a0)]) 1 (i1 + (1 : Int32)) d_Mo_readAll_76 rfl rfl rfl (by decide) ?_
  refine go_goto 12 d_Mo_readAll_79 (by decide) ?_
  refine go_sub (lv' := [(0, .ref a0), (1, .int (i1 + (1 : Int32)))]) [1, 0] rfl ?_
  exact hk12 a0 (i1 + (1 : Int32)) h3 hf
def b_Mo_readAll_45 (F : Nat) (k12 : Nat → Int32 → PH → Option (Int32 × PH)) (a0 : Nat) (i1 : Int32) (i2 : Int32) (h : PH) : Option (Int32 × PH) :=
  bnd (gR h a0 10 25) fun x1 => (if i2 = (0 : Int32) then b_Mo_readAll_65 F k12 a0 i1 (0 : Int32) i1 x1 h else bnd (cK h a0 10) fun _ => bnd (f_Mo_here a0 h) fun x3 => b_Mo_readAll_65 F k12 a0 i1 (x3 - (48 : Int32)) i1 x1 h)
theorem g_Mo_readAll_45 {l : Launch} {E : ET} {d : Nat} (hd : 5 ≤ d) {F : Nat} {r : Int32} {h9 : PH} {x : Nat} {k12 : Nat → Int32 → PH → Option (Int32 × PH)} (hk12 : ∀ (a0 : Nat) (i1 : Int32) (hh : PH), k12 a0 i1 hh = some (r, h9) → Go l E m_Mo_readAll (rm d 0 0) (KM E 0 0 (PoE (some (.int r)) h9 x)) 0 0 hh x 12 [(0, .ref a0), (1, .int i1)] []) (a0 : Nat) (i1 : Int32) (i2 : Int32) (h : PH) (hf : b_Mo_readAll_45 F k12 a0 i1 i2 h = some (r, h9)) : Go l E m_Mo_readAll (rm d 0 0) (KM E 0 0 (PoE (some (.int r)) h9 x)) 0 0 h x 45 [(0, .ref a0), (1, .int i1), (2, .int i2)] [] := by
  unfold b_Mo_readAll_45 at hf
  refine go_aload_n 0 d_Mo_readAll_45 rfl ?_
  obtain ⟨x1, e_x1, hf⟩ := bnd_x hf
  refine go_get d_Mo_readAll_46 (gR_x e_x1) fl_Mo_49 ?_
  refine go_iload_n 1 d_Mo_readAll_49 rfl ?_
  refine go_iload_n 2 d_Mo_readAll_50 rfl ?_
  refine go_if_eq 64 d_Mo_readAll_51 (by decide) (fun q4 => ?_) (fun q4 => ?_)
  · rw [if_pos q4] at hf
    refine go_iconst (0 : Int32) d_Mo_readAll_64 (by decide) ?_
    refine go_sub (lv' := [(0, .ref a0), (1, .int i1)]) [0, 1] rfl ?_
    exact g_Mo_readAll_65 hd hk12 a0 i1 (0 : Int32) i1 x1 h hf
  · rw [if_neg q4] at hf
    refine go_aload_n 0 d_Mo_readAll_54 rfl ?_
    obtain ⟨_, e2, hf⟩ := bnd_x hf
    obtain ⟨x3, e_x3, hf⟩ := bnd_x hf
    refine go_callV_I (As := []) (st := [.int i1, .ref x1]) (c_Mo_here (d := d - 1) (by omega) e_x3) lk_Mo_274 rfl rfl e2 (by decide) rfl (rm_ok (by omega)) (Nat.le_of_ble_eq_true rfl) rm_c d_Mo_readAll_55 ?_
    refine go_bipush (48 : Int32) d_Mo_readAll_58 (by decide) ?_
    refine go_isub d_Mo_readAll_60 ?_
    refine go_goto 65 d_Mo_readAll_61 (by decide) ?_
    refine go_sub (lv' := [(0, .ref a0), (1, .int i1)]) [0, 1] rfl ?_
    exact g_Mo_readAll_65 hd hk12 a0 i1 (x3 - (48 : Int32)) i1 x1 h hf
def b_Mo_readAll_82 (F : Nat) (k82 : Nat → PH → Option (Int32 × PH)) (a0 : Nat) (h : PH) : Option (Int32 × PH) :=
  bnd (gI h a0 10 22) fun x1 => bnd (gI h a0 10 4) fun x2 => (if x2 ≤ x1 then some ((1 : Int32), h) else bnd (cK h a0 10) fun _ => bnd2 (f_Mo_passes a0 (59 : Int32) h) fun x4 h5 => (if x4 = (0 : Int32) then some ((0 : Int32), h5) else bnd (cK h5 a0 10) fun _ => bnd2 (f_Mo_readConstraint F a0 h5) fun x7 h8 => (if x7 = (0 : Int32) then some ((0 : Int32), h8) else k82 a0 h8)))
def f_Mo_readAll_82 (F : Nat) : Nat → Nat → PH → Option (Int32 × PH)
  | 0 => fun _ _ => none
  | n + 1 => b_Mo_readAll_82 F (f_Mo_readAll_82 F n)
theorem g_Mo_readAll_82 {l : Launch} {E : ET} {d : Nat} (hd : 5 ≤ d) {F : Nat} {r : Int32} {h9 : PH} {x : Nat} {k82 : Nat → PH → Option (Int32 × PH)} (hk82 : ∀ (a0 : Nat) (hh : PH), k82 a0 hh = some (r, h9) → Go l E m_Mo_readAll (rm d 0 0) (KM E 0 0 (PoE (some (.int r)) h9 x)) 0 0 hh x 82 [(0, .ref a0)] []) (a0 : Nat) (h : PH) (hf : b_Mo_readAll_82 F k82 a0 h = some (r, h9)) : Go l E m_Mo_readAll (rm d 0 0) (KM E 0 0 (PoE (some (.int r)) h9 x)) 0 0 h x 82 [(0, .ref a0)] [] := by
  unfold b_Mo_readAll_82 at hf
  refine go_aload_n 0 d_Mo_readAll_82 rfl ?_
  obtain ⟨x1, e_x1, hf⟩ := bnd_x hf
  refine go_get d_Mo_readAll_83 (gI_x e_x1) fl_Mo_271 ?_
  refine go_aload_n 0 d_Mo_readAll_86 rfl ?_
  obtain ⟨x2, e_x2, hf⟩ := bnd_x hf
  refine go_get d_Mo_readAll_87 (gI_x e_x2) fl_Mo_268 ?_
  refine go_icmp_ge 111 d_Mo_readAll_90 (by decide) (fun q11 => ?_) (fun q11 => ?_)
  · rw [if_pos q11] at hf
    refine go_iconst (1 : Int32) d_Mo_readAll_111 (by decide) ?_
    obtain ⟨e8, e9⟩ := Prod.mk.inj (Option.some.inj hf)
    subst e8; subst e9
    exact go_zret d_Mo_readAll_112 rfl rfl ⟨rfl, rfl, rfl⟩
  · rw [if_neg q11] at hf
    refine go_aload_n 0 d_Mo_readAll_93 rfl ?_
    refine go_bipush (59 : Int32) d_Mo_readAll_94 (by decide) ?_
    obtain ⟨_, e3, hf⟩ := bnd_x hf
    obtain ⟨x4, h5, e_x4, hf⟩ := bnd2_x hf
    refine go_callV_I (As := [.int (59 : Int32)]) (st := []) (c_Mo_passes (d := d - 1) (by omega) e_x4) lk_Mo_286 rfl rfl e3 (by decide) rfl (rm_ok (by omega)) (Nat.le_of_ble_eq_true rfl) rm_c d_Mo_readAll_96 ?_
    refine go_if_eq 109 d_Mo_readAll_99 (by decide) (fun q10 => ?_) (fun q10 => ?_)
    · rw [if_pos q10] at hf
      refine go_iconst (0 : Int32) d_Mo_readAll_109 (by decide) ?_
      obtain ⟨e8, e9⟩ := Prod.mk.inj (Option.some.inj hf)
      subst e8; subst e9
      exact go_zret d_Mo_readAll_110 rfl rfl ⟨rfl, rfl, rfl⟩
    · rw [if_neg q10] at hf
      refine go_aload_n 0 d_Mo_readAll_102 rfl ?_
      obtain ⟨_, e6, hf⟩ := bnd_x hf
      obtain ⟨x7, h8, e_x7, hf⟩ := bnd2_x hf
      refine go_callV_I (As := []) (st := []) (c_Mo_readConstraint (d := d - 1) (by omega) e_x7) lk_Mo_292 rfl rfl e6 (by decide) rfl (rm_ok (by omega)) (Nat.le_of_ble_eq_true rfl) rm_c d_Mo_readAll_103 ?_
      refine go_if_ne 82 d_Mo_readAll_106 (by decide) (fun q9 => ?_) (fun q9 => ?_)
      · rw [if_neg q9] at hf
        refine go_sub (lv' := [(0, .ref a0)]) [0] rfl ?_
        exact hk82 a0 h8 hf
      · rw [if_pos q9] at hf
        refine go_iconst (0 : Int32) d_Mo_readAll_109 (by decide) ?_
        obtain ⟨e8, e9⟩ := Prod.mk.inj (Option.some.inj hf)
        subst e8; subst e9
        exact go_zret d_Mo_readAll_110 rfl rfl ⟨rfl, rfl, rfl⟩
theorem t_Mo_readAll_82 {l : Launch} {E : ET} {d : Nat} (hd : 5 ≤ d) {F : Nat} {r : Int32} {h9 : PH} {x : Nat}  : ∀ (n : Nat) (a0 : Nat) (hh : PH), f_Mo_readAll_82 F n a0 hh = some (r, h9) → Go l E m_Mo_readAll (rm d 0 0) (KM E 0 0 (PoE (some (.int r)) h9 x)) 0 0 hh x 82 [(0, .ref a0)] [] := by
  intro n
  induction n with
  | zero => intro v0 v1 hf; cases hf
  | succ n ih => intro v0 v1 hf; exact g_Mo_readAll_82 hd ih v0 v1 hf
def b_Mo_readAll_12 (F : Nat) (k12 : Nat → Int32 → PH → Option (Int32 × PH)) (a0 : Nat) (i1 : Int32) (h : PH) : Option (Int32 × PH) :=
  (if (36 : Int32) ≤ i1 then f_Mo_readAll_82 F F a0 h else bnd (cK h a0 10) fun _ => bnd (f_Mo_here a0 h) fun x2 => bnd (f_Mo_in x2 (49 : Int32) (54 : Int32)) fun x3 => (if x3 = (0 : Int32) then bnd (cK h a0 10) fun _ => bnd (f_Mo_here a0 h) fun x5 => (if x5 = (46 : Int32) then b_Mo_readAll_45 F k12 a0 i1 x3 h else some ((0 : Int32), h)) else b_Mo_readAll_45 F k12 a0 i1 x3 h))
def f_Mo_readAll_12 (F : Nat) : Nat → Nat → Int32 → PH → Option (Int32 × PH)
  | 0 => fun _ _ _ => none
  | n + 1 => b_Mo_readAll_12 F (f_Mo_readAll_12 F n)
theorem g_Mo_readAll_12 {l : Launch} {E : ET} {d : Nat} (hd : 5 ≤ d) {F : Nat} {r : Int32} {h9 : PH} {x : Nat} {k12 : Nat → Int32 → PH → Option (Int32 × PH)} (hk12 : ∀ (a0 : Nat) (i1 : Int32) (hh : PH), k12 a0 i1 hh = some (r, h9) → Go l E m_Mo_readAll (rm d 0 0) (KM E 0 0 (PoE (some (.int r)) h9 x)) 0 0 hh x 12 [(0, .ref a0), (1, .int i1)] []) (a0 : Nat) (i1 : Int32) (h : PH) (hf : b_Mo_readAll_12 F k12 a0 i1 h = some (r, h9)) : Go l E m_Mo_readAll (rm d 0 0) (KM E 0 0 (PoE (some (.int r)) h9 x)) 0 0 h x 12 [(0, .ref a0), (1, .int i1)] [] := by
  unfold b_Mo_readAll_12 at hf
  refine go_iload_n 1 d_Mo_readAll_12 rfl ?_
  refine go_bipush (36 : Int32) d_Mo_readAll_13 (by decide) ?_
  refine go_icmp_ge 82 d_Mo_readAll_15 (by decide) (fun q8 => ?_) (fun q8 => ?_)
  · rw [if_pos q8] at hf
    refine go_sub (lv' := [(0, .ref a0)]) [0] rfl ?_
    exact t_Mo_readAll_82 hd  _ a0 h hf
  · rw [if_neg q8] at hf
    refine go_aload_n 0 d_Mo_readAll_18 rfl ?_
    obtain ⟨_, e1, hf⟩ := bnd_x hf
    obtain ⟨x2, e_x2, hf⟩ := bnd_x hf
    refine go_callV_I (As := []) (st := []) (c_Mo_here (d := d - 1) (by omega) e_x2) lk_Mo_274 rfl rfl e1 (by decide) rfl (rm_ok (by omega)) (Nat.le_of_ble_eq_true rfl) rm_c d_Mo_readAll_19 ?_
    refine go_bipush (49 : Int32) d_Mo_readAll_22 (by decide) ?_
    refine go_bipush (54 : Int32) d_Mo_readAll_24 (by decide) ?_
    obtain ⟨x3, e_x3, hf⟩ := bnd_x hf
    refine go_callS_I (As := [.int x2, .int (49 : Int32), .int (54 : Int32)]) (st := []) (c_Mo_in (d := d - 1) (by omega) e_x3) lk_Mo_62 rfl rfl (rm_ok (by omega)) (Nat.le_of_ble_eq_true rfl) rm_c d_Mo_readAll_26 ?_
    refine go_istore_n (lv' := [(2, .int x3), (0, .ref a0), (1, .int i1)]) d_Mo_readAll_29 rfl (by decide) ?_
    refine go_iload_n 0 d_Mo_readAll_30 rfl ?_
    refine go_if_ne 45 d_Mo_readAll_31 (by decide) (fun q7 => ?_) (fun q7 => ?_)
    · rw [if_neg q7] at hf
      refine go_sub (lv' := [(0, .ref a0), (1, .int i1), (2, .int x3)]) [1, 2, 0] rfl ?_
      exact g_Mo_readAll_45 hd hk12 a0 i1 x3 h hf
    · rw [if_pos q7] at hf
      refine go_aload_n 1 d_Mo_readAll_34 rfl ?_
      obtain ⟨_, e4, hf⟩ := bnd_x hf
      obtain ⟨x5, e_x5, hf⟩ := bnd_x hf
      refine go_callV_I (As := []) (st := []) (c_Mo_here (d := d - 1) (by omega) e_x5) lk_Mo_274 rfl rfl e4 (by decide) rfl (rm_ok (by omega)) (Nat.le_of_ble_eq_true rfl) rm_c d_Mo_readAll_35 ?_
      refine go_bipush (46 : Int32) d_Mo_readAll_38 (by decide) ?_
      refine go_icmp_eq 45 d_Mo_readAll_40 (by decide) (fun q6 => ?_) (fun q6 => ?_)
      · rw [if_pos q6] at hf
        refine go_sub (lv' := [(0, .ref a0), (1, .int i1), (2, .int x3)]) [1, 2, 0] rfl ?_
        exact g_Mo_readAll_45 hd hk12 a0 i1 x3 h hf
      · rw [if_neg q6] at hf
        refine go_iconst (0 : Int32) d_Mo_readAll_43 (by decide) ?_
        obtain ⟨e8, e9⟩ := Prod.mk.inj (Option.some.inj hf)
        subst e8; subst e9
        exact go_zret d_Mo_readAll_44 rfl rfl ⟨rfl, rfl, rfl⟩
theorem t_Mo_readAll_12 {l : Launch} {E : ET} {d : Nat} (hd : 5 ≤ d) {F : Nat} {r : Int32} {h9 : PH} {x : Nat}  : ∀ (n : Nat) (a0 : Nat) (i1 : Int32) (hh : PH), f_Mo_readAll_12 F n a0 i1 hh = some (r, h9) → Go l E m_Mo_readAll (rm d 0 0) (KM E 0 0 (PoE (some (.int r)) h9 x)) 0 0 hh x 12 [(0, .ref a0), (1, .int i1)] [] := by
  intro n
  induction n with
  | zero => intro v0 v1 v2 hf; cases hf
  | succ n ih => intro v0 v1 v2 hf; exact g_Mo_readAll_12 hd ih v0 v1 v2 hf
def f_Mo_readAll (F : Nat) (a0 : Nat) (h : PH) : Option (Int32 × PH) :=
  bnd (pV h a0 10 22 (.int (0 : Int32))) fun h1 => bnd (pV h1 a0 10 26 (.int (0 : Int32))) fun h2 => f_Mo_readAll_12 F F a0 (0 : Int32) h2
theorem g_Mo_readAll_0 {l : Launch} {E : ET} {d : Nat} (hd : 5 ≤ d) {F : Nat} {r : Int32} {h9 : PH} {x : Nat}  (a0 : Nat) (h : PH) (hf : f_Mo_readAll F a0 h = some (r, h9)) : Go l E m_Mo_readAll (rm d 0 0) (KM E 0 0 (PoE (some (.int r)) h9 x)) 0 0 h x 0 [(0, .ref a0)] [] := by
  unfold f_Mo_readAll at hf
  refine go_aload_n 0 d_Mo_readAll_0 rfl ?_
  refine go_iconst (0 : Int32) d_Mo_readAll_1 (by decide) ?_
  obtain ⟨h1, e_h1, hf⟩ := bnd_x hf
  refine go_putI d_Mo_readAll_2 e_h1 fl_Mo_271 rfl rfl ?_
  refine go_aload_n 0 d_Mo_readAll_5 rfl ?_
  refine go_iconst (0 : Int32) d_Mo_readAll_6 (by decide) ?_
  obtain ⟨h2, e_h2, hf⟩ := bnd_x hf
  refine go_putI d_Mo_readAll_7 e_h2 fl_Mo_283 rfl rfl ?_
  refine go_iconst (0 : Int32) d_Mo_readAll_10 (by decide) ?_
  refine go_istore_n (lv' := [(1, .int (0 : Int32)), (0, .ref a0)]) d_Mo_readAll_11 rfl (by decide) ?_
  refine go_sub (lv' := [(0, .ref a0), (1, .int (0 : Int32))]) [1, 0] rfl ?_
  exact t_Mo_readAll_12 hd  _ a0 (0 : Int32) h2 hf
theorem c_Mo_readAll {l : Launch} {E : ET} {d : Nat} (hd : 5 ≤ d) {F : Nat} {r : Int32} {h9 : PH} {x : Nat} {a0 : Nat} {h : PH} (hf : f_Mo_readAll F a0 h = some (r, h9)) : Fn l E m_Mo_readAll d 0 0 [.ref a0] h x (PoE (some (.int r)) h9 x) :=
  Fn.of (by decide +kernel) (Nat.le_of_ble_eq_true rfl) (g_Mo_readAll_0 hd a0 h hf)
theorem d_Mo_parse_0 : decode prog_13_method_89_code 0 = .ok (.aload_n 0, 1) := by decide +kernel
theorem d_Mo_parse_1 : decode prog_13_method_89_code 1 = .ok (.iconst 0, 1) := by decide +kernel
theorem d_Mo_parse_2 : decode prog_13_method_89_code 2 = .ok (.putfield 52, 3) := by decide +kernel
theorem d_Mo_parse_5 : decode prog_13_method_89_code 5 = .ok (.aload_n 0, 1) := by decide +kernel
theorem d_Mo_parse_6 : decode prog_13_method_89_code 6 = .ok (.invokevirtual 295, 3) := by decide +kernel
theorem d_Mo_parse_9 : decode prog_13_method_89_code 9 = .ok (.ifCond .ne 11, 3) := by decide +kernel
theorem d_Mo_parse_12 : decode prog_13_method_89_code 12 = .ok (.bipush (-10), 2) := by decide +kernel
theorem d_Mo_parse_14 : decode prog_13_method_89_code 14 = .ok (.aload_n 0, 1) := by decide +kernel
theorem d_Mo_parse_15 : decode prog_13_method_89_code 15 = .ok (.getfield 271, 3) := by decide +kernel
theorem d_Mo_parse_18 : decode prog_13_method_89_code 18 = .ok (.isub, 1) := by decide +kernel
theorem d_Mo_parse_19 : decode prog_13_method_89_code 19 = .ok (.ireturn, 1) := by decide +kernel
theorem d_Mo_parse_20 : decode prog_13_method_89_code 20 = .ok (.aload_n 0, 1) := by decide +kernel
theorem d_Mo_parse_21 : decode prog_13_method_89_code 21 = .ok (.invokevirtual 208, 3) := by decide +kernel
theorem d_Mo_parse_24 : decode prog_13_method_89_code 24 = .ok (.aload_n 0, 1) := by decide +kernel
theorem d_Mo_parse_25 : decode prog_13_method_89_code 25 = .ok (.invokevirtual 211, 3) := by decide +kernel
theorem d_Mo_parse_28 : decode prog_13_method_89_code 28 = .ok (.iconst 0, 1) := by decide +kernel
theorem d_Mo_parse_29 : decode prog_13_method_89_code 29 = .ok (.istore_n 1, 1) := by decide +kernel
theorem d_Mo_parse_30 : decode prog_13_method_89_code 30 = .ok (.iload_n 1, 1) := by decide +kernel
theorem d_Mo_parse_31 : decode prog_13_method_89_code 31 = .ok (.bipush 36, 2) := by decide +kernel
theorem d_Mo_parse_33 : decode prog_13_method_89_code 33 = .ok (.if_icmp .ge 24, 3) := by decide +kernel
theorem d_Mo_parse_36 : decode prog_13_method_89_code 36 = .ok (.aload_n 0, 1) := by decide +kernel
theorem d_Mo_parse_37 : decode prog_13_method_89_code 37 = .ok (.getfield 7, 3) := by decide +kernel
theorem d_Mo_parse_40 : decode prog_13_method_89_code 40 = .ok (.bipush 72, 2) := by decide +kernel
theorem d_Mo_parse_42 : decode prog_13_method_89_code 42 = .ok (.iload_n 1, 1) := by decide +kernel
theorem d_Mo_parse_43 : decode prog_13_method_89_code 43 = .ok (.iadd, 1) := by decide +kernel
theorem d_Mo_parse_44 : decode prog_13_method_89_code 44 = .ok (.aload_n 0, 1) := by decide +kernel
theorem d_Mo_parse_45 : decode prog_13_method_89_code 45 = .ok (.getfield 49, 3) := by decide +kernel
theorem d_Mo_parse_48 : decode prog_13_method_89_code 48 = .ok (.iload_n 1, 1) := by decide +kernel
theorem d_Mo_parse_49 : decode prog_13_method_89_code 49 = .ok (.iaload, 1) := by decide +kernel
theorem d_Mo_parse_50 : decode prog_13_method_89_code 50 = .ok (.iastore, 1) := by decide +kernel
theorem d_Mo_parse_51 : decode prog_13_method_89_code 51 = .ok (.iinc 1 1, 3) := by decide +kernel
theorem d_Mo_parse_54 : decode prog_13_method_89_code 54 = .ok (.goto (-24), 3) := by decide +kernel
theorem d_Mo_parse_57 : decode prog_13_method_89_code 57 = .ok (.aload_n 0, 1) := by decide +kernel
theorem d_Mo_parse_58 : decode prog_13_method_89_code 58 = .ok (.getfield 7, 3) := by decide +kernel
theorem d_Mo_parse_61 : decode prog_13_method_89_code 61 = .ok (.bipush 108, 2) := by decide +kernel
theorem d_Mo_parse_63 : decode prog_13_method_89_code 63 = .ok (.aload_n 0, 1) := by decide +kernel
theorem d_Mo_parse_64 : decode prog_13_method_89_code 64 = .ok (.getfield 283, 3) := by decide +kernel
theorem d_Mo_parse_67 : decode prog_13_method_89_code 67 = .ok (.iastore, 1) := by decide +kernel
theorem d_Mo_parse_68 : decode prog_13_method_89_code 68 = .ok (.iconst 0, 1) := by decide +kernel
theorem d_Mo_parse_69 : decode prog_13_method_89_code 69 = .ok (.istore_n 1, 1) := by decide +kernel
theorem d_Mo_parse_70 : decode prog_13_method_89_code 70 = .ok (.iload_n 1, 1) := by decide +kernel
theorem d_Mo_parse_71 : decode prog_13_method_89_code 71 = .ok (.aload_n 0, 1) := by decide +kernel
theorem d_Mo_parse_72 : decode prog_13_method_89_code 72 = .ok (.getfield 283, 3) := by decide +kernel
theorem d_Mo_parse_75 : decode prog_13_method_89_code 75 = .ok (.if_icmp .ge 59, 3) := by decide +kernel
theorem d_Mo_parse_78 : decode prog_13_method_89_code 78 = .ok (.iconst 0, 1) := by decide +kernel
theorem d_Mo_parse_79 : decode prog_13_method_89_code 79 = .ok (.istore_n 2, 1) := by decide +kernel
theorem d_Mo_parse_80 : decode prog_13_method_89_code 80 = .ok (.iload_n 2, 1) := by decide +kernel
theorem d_Mo_parse_81 : decode prog_13_method_89_code 81 = .ok (.iconst 3, 1) := by decide +kernel
theorem d_Mo_parse_82 : decode prog_13_method_89_code 82 = .ok (.aload_n 0, 1) := by decide +kernel
theorem d_Mo_parse_83 : decode prog_13_method_89_code 83 = .ok (.getfield 46, 3) := by decide +kernel
theorem d_Mo_parse_86 : decode prog_13_method_89_code 86 = .ok (.bipush 9, 2) := by decide +kernel
theorem d_Mo_parse_88 : decode prog_13_method_89_code 88 = .ok (.iload_n 1, 1) := by decide +kernel
theorem d_Mo_parse_89 : decode prog_13_method_89_code 89 = .ok (.imul, 1) := by decide +kernel
theorem d_Mo_parse_90 : decode prog_13_method_89_code 90 = .ok (.iconst 2, 1) := by decide +kernel
theorem d_Mo_parse_91 : decode prog_13_method_89_code 91 = .ok (.iadd, 1) := by decide +kernel
theorem d_Mo_parse_92 : decode prog_13_method_89_code 92 = .ok (.iaload, 1) := by decide +kernel
theorem d_Mo_parse_93 : decode prog_13_method_89_code 93 = .ok (.iadd, 1) := by decide +kernel
theorem d_Mo_parse_94 : decode prog_13_method_89_code 94 = .ok (.if_icmp .ge 34, 3) := by decide +kernel
theorem d_Mo_parse_97 : decode prog_13_method_89_code 97 = .ok (.aload_n 0, 1) := by decide +kernel
theorem d_Mo_parse_98 : decode prog_13_method_89_code 98 = .ok (.getfield 7, 3) := by decide +kernel
theorem d_Mo_parse_101 : decode prog_13_method_89_code 101 = .ok (.bipush 109, 2) := by decide +kernel
theorem d_Mo_parse_103 : decode prog_13_method_89_code 103 = .ok (.bipush 9, 2) := by decide +kernel
theorem d_Mo_parse_105 : decode prog_13_method_89_code 105 = .ok (.iload_n 1, 1) := by decide +kernel
theorem d_Mo_parse_106 : decode prog_13_method_89_code 106 = .ok (.imul, 1) := by decide +kernel
theorem d_Mo_parse_107 : decode prog_13_method_89_code 107 = .ok (.iadd, 1) := by decide +kernel
theorem d_Mo_parse_108 : decode prog_13_method_89_code 108 = .ok (.iload_n 2, 1) := by decide +kernel
theorem d_Mo_parse_109 : decode prog_13_method_89_code 109 = .ok (.iadd, 1) := by decide +kernel
theorem d_Mo_parse_110 : decode prog_13_method_89_code 110 = .ok (.aload_n 0, 1) := by decide +kernel
theorem d_Mo_parse_111 : decode prog_13_method_89_code 111 = .ok (.getfield 46, 3) := by decide +kernel
theorem d_Mo_parse_114 : decode prog_13_method_89_code 114 = .ok (.bipush 9, 2) := by decide +kernel
theorem d_Mo_parse_116 : decode prog_13_method_89_code 116 = .ok (.iload_n 1, 1) := by decide +kernel
theorem d_Mo_parse_117 : decode prog_13_method_89_code 117 = .ok (.imul, 1) := by decide +kernel
theorem d_Mo_parse_118 : decode prog_13_method_89_code 118 = .ok (.iload_n 2, 1) := by decide +kernel
theorem d_Mo_parse_119 : decode prog_13_method_89_code 119 = .ok (.iadd, 1) := by decide +kernel
theorem d_Mo_parse_120 : decode prog_13_method_89_code 120 = .ok (.iaload, 1) := by decide +kernel
theorem d_Mo_parse_121 : decode prog_13_method_89_code 121 = .ok (.iastore, 1) := by decide +kernel
theorem d_Mo_parse_122 : decode prog_13_method_89_code 122 = .ok (.iinc 2 1, 3) := by decide +kernel
theorem d_Mo_parse_125 : decode prog_13_method_89_code 125 = .ok (.goto (-45), 3) := by decide +kernel
theorem d_Mo_parse_128 : decode prog_13_method_89_code 128 = .ok (.iinc 1 1, 3) := by decide +kernel
theorem d_Mo_parse_131 : decode prog_13_method_89_code 131 = .ok (.goto (-61), 3) := by decide +kernel
theorem d_Mo_parse_134 : decode prog_13_method_89_code 134 = .ok (.aload_n 0, 1) := by decide +kernel
theorem d_Mo_parse_135 : decode prog_13_method_89_code 135 = .ok (.invokevirtual 205, 3) := by decide +kernel
theorem d_Mo_parse_138 : decode prog_13_method_89_code 138 = .ok (.aload_n 0, 1) := by decide +kernel
theorem d_Mo_parse_139 : decode prog_13_method_89_code 139 = .ok (.invokevirtual 226, 3) := by decide +kernel
theorem d_Mo_parse_142 : decode prog_13_method_89_code 142 = .ok (.ireturn, 1) := by decide +kernel
def b_Mo_parse_80 (F : Nat) (k70 : Nat → Int32 → PH → Option (Int32 × PH)) (k80 : Nat → Int32 → Int32 → PH → Option (Int32 × PH)) (a0 : Nat) (i1 : Int32) (i2 : Int32) (h : PH) : Option (Int32 × PH) :=
  bnd (gR h a0 10 24) fun x1 => bnd (aI h x1 (((9 : Int32) * i1) + (2 : Int32))) fun x2 => (if ((3 : Int32) + x2) ≤ i2 then k70 a0 (i1 + (1 : Int32)) h else bnd (gR h a0 10 0) fun x3 => bnd (gR h a0 10 24) fun x4 => bnd (aI h x4 (((9 : Int32) * i1) + i2)) fun x5 => bnd (sI h x3 (((109 : Int32) + ((9 : Int32) * i1)) + i2) x5) fun h6 => k80 a0 i1 (i2 + (1 : Int32)) h6)
def f_Mo_parse_80 (F : Nat) (k70 : Nat → Int32 → PH → Option (Int32 × PH)) : Nat → Nat → Int32 → Int32 → PH → Option (Int32 × PH)
  | 0 => fun _ _ _ _ => none
  | n + 1 => b_Mo_parse_80 F k70 (f_Mo_parse_80 F k70 n)
theorem g_Mo_parse_80 {l : Launch} {E : ET} {d : Nat} (hd : 6 ≤ d) {F : Nat} {r : Int32} {h9 : PH} {x : Nat} {k70 : Nat → Int32 → PH → Option (Int32 × PH)} (hk70 : ∀ (a0 : Nat) (i1 : Int32) (hh : PH), k70 a0 i1 hh = some (r, h9) → Go l E m_Mo_parse (rm d 0 0) (KM E 0 0 (PoE (some (.int r)) h9 x)) 0 0 hh x 70 [(0, .ref a0), (1, .int i1)] []) {k80 : Nat → Int32 → Int32 → PH → Option (Int32 × PH)} (hk80 : ∀ (a0 : Nat) (i1 : Int32) (i2 : Int32) (hh : PH), k80 a0 i1 i2 hh = some (r, h9) → Go l E m_Mo_parse (rm d 0 0) (KM E 0 0 (PoE (some (.int r)) h9 x)) 0 0 hh x 80 [(0, .ref a0), (1, .int i1), (2, .int i2)] []) (a0 : Nat) (i1 : Int32) (i2 : Int32) (h : PH) (hf : b_Mo_parse_80 F k70 k80 a0 i1 i2 h = some (r, h9)) : Go l E m_Mo_parse (rm d 0 0) (KM E 0 0 (PoE (some (.int r)) h9 x)) 0 0 h x 80 [(0, .ref a0), (1, .int i1), (2, .int i2)] [] := by
  unfold b_Mo_parse_80 at hf
  refine go_iload_n 2 d_Mo_parse_80 rfl ?_
  refine go_iconst (3 : Int32) d_Mo_parse_81 (by decide) ?_
  refine go_aload_n 0 d_Mo_parse_82 rfl ?_
  obtain ⟨x1, e_x1, hf⟩ := bnd_x hf
  refine go_get d_Mo_parse_83 (gR_x e_x1) fl_Mo_46 ?_
  refine go_bipush (9 : Int32) d_Mo_parse_86 (by decide) ?_
  refine go_iload_n 1 d_Mo_parse_88 rfl ?_
  refine go_imul d_Mo_parse_89 ?_
  refine go_iconst (2 : Int32) d_Mo_parse_90 (by decide) ?_
  refine go_iadd d_Mo_parse_91 ?_
  obtain ⟨x2, e_x2, hf⟩ := bnd_x hf
  refine go_iaload d_Mo_parse_92 e_x2 ?_
  refine go_iadd d_Mo_parse_93 ?_
  refine go_icmp_ge 128 d_Mo_parse_94 (by decide) (fun q7 => ?_) (fun q7 => ?_)
  · rw [if_pos q7] at hf
    refine go_iinc (lv' := [(1, .int (i1 + (1 : Int32))), (0, .ref a0), (2, .int i2)]) 1 (i1 + (1 : Int32)) d_Mo_parse_128 rfl rfl rfl (by decide) ?_
    refine go_goto 70 d_Mo_parse_131 (by decide) ?_
    refine go_sub (lv' := [(0, .ref a0), (1, .int (i1 + (1 : Int32)))]) [1, 0] rfl ?_
    exact hk70 a0 (i1 + (1 : Int32)) h hf
  · rw [if_neg q7] at hf
    refine go_aload_n 0 d_Mo_parse_97 rfl ?_
    obtain ⟨x3, e_x3, hf⟩ := bnd_x hf
    refine go_get d_Mo_parse_98 (gR_x e_x3) fl_Mo_7 ?_
    refine go_bipush (109 : Int32) d_Mo_parse_101 (by decide) ?_
    refine go_bipush (9 : Int32) d_Mo_parse_103 (by decide) ?_
    refine go_iload_n 1 d_Mo_parse_105 rfl ?_
    refine go_imul d_Mo_parse_106 ?_
    refine go_iadd d_Mo_parse_107 ?_
    refine go_iload_n 2 d_Mo_parse_108 rfl ?_
    refine go_iadd d_Mo_parse_109 ?_
    refine go_aload_n 0 d_Mo_parse_110 rfl ?_
    obtain ⟨x4, e_x4, hf⟩ := bnd_x hf
    refine go_get d_Mo_parse_111 (gR_x e_x4) fl_Mo_46 ?_
    refine go_bipush (9 : Int32) d_Mo_parse_114 (by decide) ?_
    refine go_iload_n 1 d_Mo_parse_116 rfl ?_
    refine go_imul d_Mo_parse_117 ?_
    refine go_iload_n 2 d_Mo_parse_118 rfl ?_
    refine go_iadd d_Mo_parse_119 ?_
    obtain ⟨x5, e_x5, hf⟩ := bnd_x hf
    refine go_iaload d_Mo_parse_120 e_x5 ?_
    obtain ⟨h6, e_h6, hf⟩ := bnd_x hf
    refine go_iastore d_Mo_parse_121 e_h6 ?_
    refine go_iinc (lv' := [(2, .int (i2 + (1 : Int32))), (0, .ref a0), (1, .int i1)]) 2 (i2 + (1 : Int32)) d_Mo_parse_122 rfl rfl rfl (by decide) ?_
    refine go_goto 80 d_Mo_parse_125 (by decide) ?_
    refine go_sub (lv' := [(0, .ref a0), (1, .int i1), (2, .int (i2 + (1 : Int32)))]) [1, 2, 0] rfl ?_
    exact hk80 a0 i1 (i2 + (1 : Int32)) h6 hf
theorem t_Mo_parse_80 {l : Launch} {E : ET} {d : Nat} (hd : 6 ≤ d) {F : Nat} {r : Int32} {h9 : PH} {x : Nat} {k70 : Nat → Int32 → PH → Option (Int32 × PH)} (hk70 : ∀ (a0 : Nat) (i1 : Int32) (hh : PH), k70 a0 i1 hh = some (r, h9) → Go l E m_Mo_parse (rm d 0 0) (KM E 0 0 (PoE (some (.int r)) h9 x)) 0 0 hh x 70 [(0, .ref a0), (1, .int i1)] []) : ∀ (n : Nat) (a0 : Nat) (i1 : Int32) (i2 : Int32) (hh : PH), f_Mo_parse_80 F k70 n a0 i1 i2 hh = some (r, h9) → Go l E m_Mo_parse (rm d 0 0) (KM E 0 0 (PoE (some (.int r)) h9 x)) 0 0 hh x 80 [(0, .ref a0), (1, .int i1), (2, .int i2)] [] := by
  intro n
  induction n with
  | zero => intro v0 v1 v2 v3 hf; cases hf
  | succ n ih => intro v0 v1 v2 v3 hf; exact g_Mo_parse_80 hd hk70 ih v0 v1 v2 v3 hf
def b_Mo_parse_70 (F : Nat) (k70 : Nat → Int32 → PH → Option (Int32 × PH)) (a0 : Nat) (i1 : Int32) (h : PH) : Option (Int32 × PH) :=
  bnd (gI h a0 10 26) fun x1 => (if x1 ≤ i1 then bnd (cK h a0 10) fun _ => bnd (f_Mo_beginAnew F a0 h) fun h3 => bnd (cK h3 a0 10) fun _ => bnd (f_Mo_givens F a0 h3) fun x5 => some (x5, h3) else f_Mo_parse_80 F k70 F a0 i1 (0 : Int32) h)
def f_Mo_parse_70 (F : Nat) : Nat → Nat → Int32 → PH → Option (Int32 × PH)
  | 0 => fun _ _ _ => none
  | n + 1 => b_Mo_parse_70 F (f_Mo_parse_70 F n)
theorem g_Mo_parse_70 {l : Launch} {E : ET} {d : Nat} (hd : 6 ≤ d) {F : Nat} {r : Int32} {h9 : PH} {x : Nat} {k70 : Nat → Int32 → PH → Option (Int32 × PH)} (hk70 : ∀ (a0 : Nat) (i1 : Int32) (hh : PH), k70 a0 i1 hh = some (r, h9) → Go l E m_Mo_parse (rm d 0 0) (KM E 0 0 (PoE (some (.int r)) h9 x)) 0 0 hh x 70 [(0, .ref a0), (1, .int i1)] []) (a0 : Nat) (i1 : Int32) (h : PH) (hf : b_Mo_parse_70 F k70 a0 i1 h = some (r, h9)) : Go l E m_Mo_parse (rm d 0 0) (KM E 0 0 (PoE (some (.int r)) h9 x)) 0 0 h x 70 [(0, .ref a0), (1, .int i1)] [] := by
  unfold b_Mo_parse_70 at hf
  refine go_iload_n 1 d_Mo_parse_70 rfl ?_
  refine go_aload_n 0 d_Mo_parse_71 rfl ?_
  obtain ⟨x1, e_x1, hf⟩ := bnd_x hf
  refine go_get d_Mo_parse_72 (gI_x e_x1) fl_Mo_283 ?_
  refine go_icmp_ge 134 d_Mo_parse_75 (by decide) (fun q6 => ?_) (fun q6 => ?_)
  · rw [if_pos q6] at hf
    refine go_aload_n 0 d_Mo_parse_134 rfl ?_
    obtain ⟨_, e2, hf⟩ := bnd_x hf
    obtain ⟨h3, e_x3, hf⟩ := bnd_x hf
    refine go_callV_N (As := []) (st := []) (c_Mo_beginAnew (d := d - 1) (by omega) e_x3) lk_Mo_205 rfl rfl e2 (by decide) rfl (rm_ok (by omega)) (Nat.le_of_ble_eq_true rfl) rm_c d_Mo_parse_135 ?_
    refine go_aload_n 0 d_Mo_parse_138 rfl ?_
    obtain ⟨_, e4, hf⟩ := bnd_x hf
    obtain ⟨x5, e_x5, hf⟩ := bnd_x hf
    refine go_callV_I (As := []) (st := []) (c_Mo_givens (d := d - 1) (by omega) e_x5) lk_Mo_226 rfl rfl e4 (by decide) rfl (rm_ok (by omega)) (Nat.le_of_ble_eq_true rfl) rm_c d_Mo_parse_139 ?_
    obtain ⟨e8, e9⟩ := Prod.mk.inj (Option.some.inj hf)
    subst e8; subst e9
    exact go_iret d_Mo_parse_142 rfl ⟨rfl, rfl, rfl⟩
  · rw [if_neg q6] at hf
    refine go_iconst (0 : Int32) d_Mo_parse_78 (by decide) ?_
    refine go_istore_n (lv' := [(2, .int (0 : Int32)), (0, .ref a0), (1, .int i1)]) d_Mo_parse_79 rfl (by decide) ?_
    refine go_sub (lv' := [(0, .ref a0), (1, .int i1), (2, .int (0 : Int32))]) [1, 2, 0] rfl ?_
    exact t_Mo_parse_80 hd hk70 _ a0 i1 (0 : Int32) h hf
theorem t_Mo_parse_70 {l : Launch} {E : ET} {d : Nat} (hd : 6 ≤ d) {F : Nat} {r : Int32} {h9 : PH} {x : Nat}  : ∀ (n : Nat) (a0 : Nat) (i1 : Int32) (hh : PH), f_Mo_parse_70 F n a0 i1 hh = some (r, h9) → Go l E m_Mo_parse (rm d 0 0) (KM E 0 0 (PoE (some (.int r)) h9 x)) 0 0 hh x 70 [(0, .ref a0), (1, .int i1)] [] := by
  intro n
  induction n with
  | zero => intro v0 v1 v2 hf; cases hf
  | succ n ih => intro v0 v1 v2 hf; exact g_Mo_parse_70 hd ih v0 v1 v2 hf
def b_Mo_parse_30 (F : Nat) (k30 : Nat → Int32 → PH → Option (Int32 × PH)) (a0 : Nat) (i1 : Int32) (h : PH) : Option (Int32 × PH) :=
  (if (36 : Int32) ≤ i1 then bnd (gR h a0 10 0) fun x1 => bnd (gI h a0 10 26) fun x2 => bnd (sI h x1 (108 : Int32) x2) fun h3 => f_Mo_parse_70 F F a0 (0 : Int32) h3 else bnd (gR h a0 10 0) fun x4 => bnd (gR h a0 10 25) fun x5 => bnd (aI h x5 i1) fun x6 => bnd (sI h x4 ((72 : Int32) + i1) x6) fun h7 => k30 a0 (i1 + (1 : Int32)) h7)
def f_Mo_parse_30 (F : Nat) : Nat → Nat → Int32 → PH → Option (Int32 × PH)
  | 0 => fun _ _ _ => none
  | n + 1 => b_Mo_parse_30 F (f_Mo_parse_30 F n)
theorem g_Mo_parse_30 {l : Launch} {E : ET} {d : Nat} (hd : 6 ≤ d) {F : Nat} {r : Int32} {h9 : PH} {x : Nat} {k30 : Nat → Int32 → PH → Option (Int32 × PH)} (hk30 : ∀ (a0 : Nat) (i1 : Int32) (hh : PH), k30 a0 i1 hh = some (r, h9) → Go l E m_Mo_parse (rm d 0 0) (KM E 0 0 (PoE (some (.int r)) h9 x)) 0 0 hh x 30 [(0, .ref a0), (1, .int i1)] []) (a0 : Nat) (i1 : Int32) (h : PH) (hf : b_Mo_parse_30 F k30 a0 i1 h = some (r, h9)) : Go l E m_Mo_parse (rm d 0 0) (KM E 0 0 (PoE (some (.int r)) h9 x)) 0 0 h x 30 [(0, .ref a0), (1, .int i1)] [] := by
  unfold b_Mo_parse_30 at hf
  refine go_iload_n 1 d_Mo_parse_30 rfl ?_
  refine go_bipush (36 : Int32) d_Mo_parse_31 (by decide) ?_
  refine go_icmp_ge 57 d_Mo_parse_33 (by decide) (fun q8 => ?_) (fun q8 => ?_)
  · rw [if_pos q8] at hf
    refine go_aload_n 0 d_Mo_parse_57 rfl ?_
    obtain ⟨x1, e_x1, hf⟩ := bnd_x hf
    refine go_get d_Mo_parse_58 (gR_x e_x1) fl_Mo_7 ?_
    refine go_bipush (108 : Int32) d_Mo_parse_61 (by decide) ?_
    refine go_aload_n 0 d_Mo_parse_63 rfl ?_
    obtain ⟨x2, e_x2, hf⟩ := bnd_x hf
    refine go_get d_Mo_parse_64 (gI_x e_x2) fl_Mo_283 ?_
    obtain ⟨h3, e_h3, hf⟩ := bnd_x hf
    refine go_iastore d_Mo_parse_67 e_h3 ?_
    refine go_iconst (0 : Int32) d_Mo_parse_68 (by decide) ?_
    refine go_istore_n (lv' := [(1, .int (0 : Int32)), (0, .ref a0)]) d_Mo_parse_69 rfl (by decide) ?_
    refine go_sub (lv' := [(0, .ref a0), (1, .int (0 : Int32))]) [1, 0] rfl ?_
    exact t_Mo_parse_70 hd  _ a0 (0 : Int32) h3 hf
  · rw [if_neg q8] at hf
    refine go_aload_n 0 d_Mo_parse_36 rfl ?_
    obtain ⟨x4, e_x4, hf⟩ := bnd_x hf
    refine go_get d_Mo_parse_37 (gR_x e_x4) fl_Mo_7 ?_
    refine go_bipush (72 : Int32) d_Mo_parse_40 (by decide) ?_
    refine go_iload_n 1 d_Mo_parse_42 rfl ?_
    refine go_iadd d_Mo_parse_43 ?_
    refine go_aload_n 0 d_Mo_parse_44 rfl ?_
    obtain ⟨x5, e_x5, hf⟩ := bnd_x hf
    refine go_get d_Mo_parse_45 (gR_x e_x5) fl_Mo_49 ?_
    refine go_iload_n 1 d_Mo_parse_48 rfl ?_
    obtain ⟨x6, e_x6, hf⟩ := bnd_x hf
    refine go_iaload d_Mo_parse_49 e_x6 ?_
    obtain ⟨h7, e_h7, hf⟩ := bnd_x hf
    refine go_iastore d_Mo_parse_50 e_h7 ?_
    refine go_iinc (lv' := [(1, .int (i1 + (1 : Int32))), (0, .ref a0)]) 1 (i1 + (1 : Int32)) d_Mo_parse_51 rfl rfl rfl (by decide) ?_
    refine go_goto 30 d_Mo_parse_54 (by decide) ?_
    refine go_sub (lv' := [(0, .ref a0), (1, .int (i1 + (1 : Int32)))]) [1, 0] rfl ?_
    exact hk30 a0 (i1 + (1 : Int32)) h7 hf
theorem t_Mo_parse_30 {l : Launch} {E : ET} {d : Nat} (hd : 6 ≤ d) {F : Nat} {r : Int32} {h9 : PH} {x : Nat}  : ∀ (n : Nat) (a0 : Nat) (i1 : Int32) (hh : PH), f_Mo_parse_30 F n a0 i1 hh = some (r, h9) → Go l E m_Mo_parse (rm d 0 0) (KM E 0 0 (PoE (some (.int r)) h9 x)) 0 0 hh x 30 [(0, .ref a0), (1, .int i1)] [] := by
  intro n
  induction n with
  | zero => intro v0 v1 v2 hf; cases hf
  | succ n ih => intro v0 v1 v2 hf; exact g_Mo_parse_30 hd ih v0 v1 v2 hf
def f_Mo_parse (F : Nat) (a0 : Nat) (h : PH) : Option (Int32 × PH) :=
  bnd (pV h a0 10 5 (.int (0 : Int32))) fun h1 => bnd (cK h1 a0 10) fun _ => bnd2 (f_Mo_readAll F a0 h1) fun x3 h4 => (if x3 = (0 : Int32) then bnd (gI h4 a0 10 22) fun x9 => some (((-10 : Int32) - x9), h4) else bnd (cK h4 a0 10) fun _ => bnd (f_Mo_change F a0 h4) fun h6 => bnd (cK h6 a0 10) fun _ => bnd (f_Mo_clear F a0 h6) fun h8 => f_Mo_parse_30 F F a0 (0 : Int32) h8)
theorem g_Mo_parse_0 {l : Launch} {E : ET} {d : Nat} (hd : 6 ≤ d) {F : Nat} {r : Int32} {h9 : PH} {x : Nat}  (a0 : Nat) (h : PH) (hf : f_Mo_parse F a0 h = some (r, h9)) : Go l E m_Mo_parse (rm d 0 0) (KM E 0 0 (PoE (some (.int r)) h9 x)) 0 0 h x 0 [(0, .ref a0)] [] := by
  unfold f_Mo_parse at hf
  refine go_aload_n 0 d_Mo_parse_0 rfl ?_
  refine go_iconst (0 : Int32) d_Mo_parse_1 (by decide) ?_
  obtain ⟨h1, e_h1, hf⟩ := bnd_x hf
  refine go_putI d_Mo_parse_2 e_h1 fl_Mo_52 rfl rfl ?_
  refine go_aload_n 0 d_Mo_parse_5 rfl ?_
  obtain ⟨_, e2, hf⟩ := bnd_x hf
  obtain ⟨x3, h4, e_x3, hf⟩ := bnd2_x hf
  refine go_callV_I (As := []) (st := []) (c_Mo_readAll (d := d - 1) (by omega) e_x3) lk_Mo_295 rfl rfl e2 (by decide) rfl (rm_ok (by omega)) (Nat.le_of_ble_eq_true rfl) rm_c d_Mo_parse_6 ?_
  refine go_if_ne 20 d_Mo_parse_9 (by decide) (fun q10 => ?_) (fun q10 => ?_)
  · rw [if_neg q10] at hf
    refine go_aload_n 0 d_Mo_parse_20 rfl ?_
    obtain ⟨_, e5, hf⟩ := bnd_x hf
    obtain ⟨h6, e_x6, hf⟩ := bnd_x hf
    refine go_callV_N (As := []) (st := []) (c_Mo_change (d := d - 1) (by omega) e_x6) lk_Mo_208 rfl rfl e5 (by decide) rfl (rm_ok (by omega)) (Nat.le_of_ble_eq_true rfl) rm_c d_Mo_parse_21 ?_
    refine go_aload_n 0 d_Mo_parse_24 rfl ?_
    obtain ⟨_, e7, hf⟩ := bnd_x hf
    obtain ⟨h8, e_x8, hf⟩ := bnd_x hf
    refine go_callV_N (As := []) (st := []) (c_Mo_clear (d := d - 1) (by omega) e_x8) lk_Mo_211 rfl rfl e7 (by decide) rfl (rm_ok (by omega)) (Nat.le_of_ble_eq_true rfl) rm_c d_Mo_parse_25 ?_
    refine go_iconst (0 : Int32) d_Mo_parse_28 (by decide) ?_
    refine go_istore_n (lv' := [(1, .int (0 : Int32)), (0, .ref a0)]) d_Mo_parse_29 rfl (by decide) ?_
    refine go_sub (lv' := [(0, .ref a0), (1, .int (0 : Int32))]) [1, 0] rfl ?_
    exact t_Mo_parse_30 hd  _ a0 (0 : Int32) h8 hf
  · rw [if_pos q10] at hf
    refine go_bipush (-10 : Int32) d_Mo_parse_12 (by decide) ?_
    refine go_aload_n 0 d_Mo_parse_14 rfl ?_
    obtain ⟨x9, e_x9, hf⟩ := bnd_x hf
    refine go_get d_Mo_parse_15 (gI_x e_x9) fl_Mo_271 ?_
    refine go_isub d_Mo_parse_18 ?_
    obtain ⟨e8, e9⟩ := Prod.mk.inj (Option.some.inj hf)
    subst e8; subst e9
    exact go_iret d_Mo_parse_19 rfl ⟨rfl, rfl, rfl⟩
theorem c_Mo_parse {l : Launch} {E : ET} {d : Nat} (hd : 6 ≤ d) {F : Nat} {r : Int32} {h9 : PH} {x : Nat} {a0 : Nat} {h : PH} (hf : f_Mo_parse F a0 h = some (r, h9)) : Fn l E m_Mo_parse d 0 0 [.ref a0] h x (PoE (some (.int r)) h9 x) :=
  Fn.of (by decide +kernel) (Nat.le_of_ble_eq_true rfl) (g_Mo_parse_0 hd a0 h hf)
theorem d_Mo_undo_0 : decode prog_13_method_90_code 0 = .ok (.aload_n 0, 1) := by decide +kernel
theorem d_Mo_undo_1 : decode prog_13_method_90_code 1 = .ok (.aload_n 0, 1) := by decide +kernel
theorem d_Mo_undo_2 : decode prog_13_method_90_code 2 = .ok (.getfield 56, 3) := by decide +kernel
theorem d_Mo_undo_5 : decode prog_13_method_90_code 5 = .ok (.ifCond .ne 7, 3) := by decide +kernel
theorem d_Mo_undo_8 : decode prog_13_method_90_code 8 = .ok (.iconst 1, 1) := by decide +kernel
theorem d_Mo_undo_9 : decode prog_13_method_90_code 9 = .ok (.goto 4, 3) := by decide +kernel
theorem d_Mo_undo_12 : decode prog_13_method_90_code 12 = .ok (.iconst 0, 1) := by decide +kernel
theorem d_Mo_undo_13 : decode prog_13_method_90_code 13 = .ok (.putfield 52, 3) := by decide +kernel
theorem d_Mo_undo_16 : decode prog_13_method_90_code 16 = .ok (.aload_n 0, 1) := by decide +kernel
theorem d_Mo_undo_17 : decode prog_13_method_90_code 17 = .ok (.getfield 52, 3) := by decide +kernel
theorem d_Mo_undo_20 : decode prog_13_method_90_code 20 = .ok (.ifCond .eq 5, 3) := by decide +kernel
theorem d_Mo_undo_23 : decode prog_13_method_90_code 23 = .ok (.iconst 0, 1) := by decide +kernel
theorem d_Mo_undo_24 : decode prog_13_method_90_code 24 = .ok (.ireturn, 1) := by decide +kernel
theorem d_Mo_undo_25 : decode prog_13_method_90_code 25 = .ok (.aload_n 0, 1) := by decide +kernel
theorem d_Mo_undo_26 : decode prog_13_method_90_code 26 = .ok (.dup, 1) := by decide +kernel
theorem d_Mo_undo_27 : decode prog_13_method_90_code 27 = .ok (.getfield 56, 3) := by decide +kernel
theorem d_Mo_undo_30 : decode prog_13_method_90_code 30 = .ok (.iconst 1, 1) := by decide +kernel
theorem d_Mo_undo_31 : decode prog_13_method_90_code 31 = .ok (.isub, 1) := by decide +kernel
theorem d_Mo_undo_32 : decode prog_13_method_90_code 32 = .ok (.putfield 56, 3) := by decide +kernel
theorem d_Mo_undo_35 : decode prog_13_method_90_code 35 = .ok (.iconst 0, 1) := by decide +kernel
theorem d_Mo_undo_36 : decode prog_13_method_90_code 36 = .ok (.istore_n 1, 1) := by decide +kernel
theorem d_Mo_undo_37 : decode prog_13_method_90_code 37 = .ok (.iload_n 1, 1) := by decide +kernel
theorem d_Mo_undo_38 : decode prog_13_method_90_code 38 = .ok (.sipush 482, 3) := by decide +kernel
theorem d_Mo_undo_41 : decode prog_13_method_90_code 41 = .ok (.if_icmp .ge 30, 3) := by decide +kernel
theorem d_Mo_undo_44 : decode prog_13_method_90_code 44 = .ok (.aload_n 0, 1) := by decide +kernel
theorem d_Mo_undo_45 : decode prog_13_method_90_code 45 = .ok (.getfield 7, 3) := by decide +kernel
theorem d_Mo_undo_48 : decode prog_13_method_90_code 48 = .ok (.iload_n 1, 1) := by decide +kernel
theorem d_Mo_undo_49 : decode prog_13_method_90_code 49 = .ok (.aload_n 0, 1) := by decide +kernel
theorem d_Mo_undo_50 : decode prog_13_method_90_code 50 = .ok (.getfield 13, 3) := by decide +kernel
theorem d_Mo_undo_53 : decode prog_13_method_90_code 53 = .ok (.sipush 482, 3) := by decide +kernel
theorem d_Mo_undo_56 : decode prog_13_method_90_code 56 = .ok (.aload_n 0, 1) := by decide +kernel
theorem d_Mo_undo_57 : decode prog_13_method_90_code 57 = .ok (.getfield 56, 3) := by decide +kernel
theorem d_Mo_undo_60 : decode prog_13_method_90_code 60 = .ok (.imul, 1) := by decide +kernel
theorem d_Mo_undo_61 : decode prog_13_method_90_code 61 = .ok (.iload_n 1, 1) := by decide +kernel
theorem d_Mo_undo_62 : decode prog_13_method_90_code 62 = .ok (.iadd, 1) := by decide +kernel
theorem d_Mo_undo_63 : decode prog_13_method_90_code 63 = .ok (.iaload, 1) := by decide +kernel
theorem d_Mo_undo_64 : decode prog_13_method_90_code 64 = .ok (.iastore, 1) := by decide +kernel
theorem d_Mo_undo_65 : decode prog_13_method_90_code 65 = .ok (.iinc 1 1, 3) := by decide +kernel
theorem d_Mo_undo_68 : decode prog_13_method_90_code 68 = .ok (.goto (-31), 3) := by decide +kernel
theorem d_Mo_undo_71 : decode prog_13_method_90_code 71 = .ok (.aload_n 0, 1) := by decide +kernel
theorem d_Mo_undo_72 : decode prog_13_method_90_code 72 = .ok (.getfield 56, 3) := by decide +kernel
theorem d_Mo_undo_75 : decode prog_13_method_90_code 75 = .ok (.ireturn, 1) := by decide +kernel
def b_Mo_undo_37 (F : Nat) (k37 : Nat → Int32 → PH → Option (Int32 × PH)) (a0 : Nat) (i1 : Int32) (h : PH) : Option (Int32 × PH) :=
  (if (482 : Int32) ≤ i1 then bnd (gI h a0 10 2) fun x1 => some (x1, h) else bnd (gR h a0 10 0) fun x2 => bnd (gR h a0 10 1) fun x3 => bnd (gI h a0 10 2) fun x4 => bnd (aI h x3 (((482 : Int32) * x4) + i1)) fun x5 => bnd (sI h x2 i1 x5) fun h6 => k37 a0 (i1 + (1 : Int32)) h6)
def f_Mo_undo_37 (F : Nat) : Nat → Nat → Int32 → PH → Option (Int32 × PH)
  | 0 => fun _ _ _ => none
  | n + 1 => b_Mo_undo_37 F (f_Mo_undo_37 F n)
theorem g_Mo_undo_37 {l : Launch} {E : ET} {d : Nat} (hd : 1 ≤ d) {F : Nat} {r : Int32} {h9 : PH} {x : Nat} {k37 : Nat → Int32 → PH → Option (Int32 × PH)} (hk37 : ∀ (a0 : Nat) (i1 : Int32) (hh : PH), k37 a0 i1 hh = some (r, h9) → Go l E m_Mo_undo (rm d 0 0) (KM E 0 0 (PoE (some (.int r)) h9 x)) 0 0 hh x 37 [(0, .ref a0), (1, .int i1)] []) (a0 : Nat) (i1 : Int32) (h : PH) (hf : b_Mo_undo_37 F k37 a0 i1 h = some (r, h9)) : Go l E m_Mo_undo (rm d 0 0) (KM E 0 0 (PoE (some (.int r)) h9 x)) 0 0 h x 37 [(0, .ref a0), (1, .int i1)] [] := by
  unfold b_Mo_undo_37 at hf
  refine go_iload_n 1 d_Mo_undo_37 rfl ?_
  refine go_sipush (482 : Int32) d_Mo_undo_38 (by decide) ?_
  refine go_icmp_ge 71 d_Mo_undo_41 (by decide) (fun q7 => ?_) (fun q7 => ?_)
  · rw [if_pos q7] at hf
    refine go_aload_n 0 d_Mo_undo_71 rfl ?_
    obtain ⟨x1, e_x1, hf⟩ := bnd_x hf
    refine go_get d_Mo_undo_72 (gI_x e_x1) fl_Mo_56 ?_
    obtain ⟨e8, e9⟩ := Prod.mk.inj (Option.some.inj hf)
    subst e8; subst e9
    exact go_iret d_Mo_undo_75 rfl ⟨rfl, rfl, rfl⟩
  · rw [if_neg q7] at hf
    refine go_aload_n 0 d_Mo_undo_44 rfl ?_
    obtain ⟨x2, e_x2, hf⟩ := bnd_x hf
    refine go_get d_Mo_undo_45 (gR_x e_x2) fl_Mo_7 ?_
    refine go_iload_n 1 d_Mo_undo_48 rfl ?_
    refine go_aload_n 0 d_Mo_undo_49 rfl ?_
    obtain ⟨x3, e_x3, hf⟩ := bnd_x hf
    refine go_get d_Mo_undo_50 (gR_x e_x3) fl_Mo_13 ?_
    refine go_sipush (482 : Int32) d_Mo_undo_53 (by decide) ?_
    refine go_aload_n 0 d_Mo_undo_56 rfl ?_
    obtain ⟨x4, e_x4, hf⟩ := bnd_x hf
    refine go_get d_Mo_undo_57 (gI_x e_x4) fl_Mo_56 ?_
    refine go_imul d_Mo_undo_60 ?_
    refine go_iload_n 1 d_Mo_undo_61 rfl ?_
    refine go_iadd d_Mo_undo_62 ?_
    obtain ⟨x5, e_x5, hf⟩ := bnd_x hf
    refine go_iaload d_Mo_undo_63 e_x5 ?_
    obtain ⟨h6, e_h6, hf⟩ := bnd_x hf
    refine go_iastore d_Mo_undo_64 e_h6 ?_
    refine go_iinc (lv' := [(1, .int (i1 + (1 : Int32))), (0, .ref a0)]) 1 (i1 + (1 : Int32)) d_Mo_undo_65 rfl rfl rfl (by decide) ?_
    refine go_goto 37 d_Mo_undo_68 (by decide) ?_
    refine go_sub (lv' := [(0, .ref a0), (1, .int (i1 + (1 : Int32)))]) [1, 0] rfl ?_
    exact hk37 a0 (i1 + (1 : Int32)) h6 hf
theorem t_Mo_undo_37 {l : Launch} {E : ET} {d : Nat} (hd : 1 ≤ d) {F : Nat} {r : Int32} {h9 : PH} {x : Nat}  : ∀ (n : Nat) (a0 : Nat) (i1 : Int32) (hh : PH), f_Mo_undo_37 F n a0 i1 hh = some (r, h9) → Go l E m_Mo_undo (rm d 0 0) (KM E 0 0 (PoE (some (.int r)) h9 x)) 0 0 hh x 37 [(0, .ref a0), (1, .int i1)] [] := by
  intro n
  induction n with
  | zero => intro v0 v1 v2 hf; cases hf
  | succ n ih => intro v0 v1 v2 hf; exact g_Mo_undo_37 hd ih v0 v1 v2 hf
def b_Mo_undo_13 (F : Nat) (a0 : Nat) (s0 : Int32) (s1 : Nat) (h : PH) : Option (Int32 × PH) :=
  bnd (pV h s1 10 5 (.int s0)) fun h1 => bnd (gI h1 a0 10 5) fun x2 => (if x2 = (0 : Int32) then bnd (gI h1 a0 10 2) fun x3 => bnd (pV h1 a0 10 2 (.int (x3 - (1 : Int32)))) fun h4 => f_Mo_undo_37 F F a0 (0 : Int32) h4 else some ((0 : Int32), h1))
theorem g_Mo_undo_13 {l : Launch} {E : ET} {d : Nat} (hd : 1 ≤ d) {F : Nat} {r : Int32} {h9 : PH} {x : Nat}  (a0 : Nat) (s0 : Int32) (s1 : Nat) (h : PH) (hf : b_Mo_undo_13 F a0 s0 s1 h = some (r, h9)) : Go l E m_Mo_undo (rm d 0 0) (KM E 0 0 (PoE (some (.int r)) h9 x)) 0 0 h x 13 [(0, .ref a0)] [.int s0, .ref s1] := by
  unfold b_Mo_undo_13 at hf
  obtain ⟨h1, e_h1, hf⟩ := bnd_x hf
  refine go_putI d_Mo_undo_13 e_h1 fl_Mo_52 rfl rfl ?_
  refine go_aload_n 0 d_Mo_undo_16 rfl ?_
  obtain ⟨x2, e_x2, hf⟩ := bnd_x hf
  refine go_get d_Mo_undo_17 (gI_x e_x2) fl_Mo_52 ?_
  refine go_if_eq 25 d_Mo_undo_20 (by decide) (fun q5 => ?_) (fun q5 => ?_)
  · rw [if_pos q5] at hf
    refine go_aload_n 0 d_Mo_undo_25 rfl ?_
    refine go_dup d_Mo_undo_26 rfl ?_
    obtain ⟨x3, e_x3, hf⟩ := bnd_x hf
    refine go_get d_Mo_undo_27 (gI_x e_x3) fl_Mo_56 ?_
    refine go_iconst (1 : Int32) d_Mo_undo_30 (by decide) ?_
    refine go_isub d_Mo_undo_31 ?_
    obtain ⟨h4, e_h4, hf⟩ := bnd_x hf
    refine go_putI d_Mo_undo_32 e_h4 fl_Mo_56 rfl rfl ?_
    refine go_iconst (0 : Int32) d_Mo_undo_35 (by decide) ?_
    refine go_istore_n (lv' := [(1, .int (0 : Int32)), (0, .ref a0)]) d_Mo_undo_36 rfl (by decide) ?_
    refine go_sub (lv' := [(0, .ref a0), (1, .int (0 : Int32))]) [1, 0] rfl ?_
    exact t_Mo_undo_37 hd  _ a0 (0 : Int32) h4 hf
  · rw [if_neg q5] at hf
    refine go_iconst (0 : Int32) d_Mo_undo_23 (by decide) ?_
    obtain ⟨e8, e9⟩ := Prod.mk.inj (Option.some.inj hf)
    subst e8; subst e9
    exact go_iret d_Mo_undo_24 rfl ⟨rfl, rfl, rfl⟩
def f_Mo_undo (F : Nat) (a0 : Nat) (h : PH) : Option (Int32 × PH) :=
  bnd (gI h a0 10 2) fun x1 => (if x1 = (0 : Int32) then b_Mo_undo_13 F a0 (1 : Int32) a0 h else b_Mo_undo_13 F a0 (0 : Int32) a0 h)
theorem g_Mo_undo_0 {l : Launch} {E : ET} {d : Nat} (hd : 1 ≤ d) {F : Nat} {r : Int32} {h9 : PH} {x : Nat}  (a0 : Nat) (h : PH) (hf : f_Mo_undo F a0 h = some (r, h9)) : Go l E m_Mo_undo (rm d 0 0) (KM E 0 0 (PoE (some (.int r)) h9 x)) 0 0 h x 0 [(0, .ref a0)] [] := by
  unfold f_Mo_undo at hf
  refine go_aload_n 0 d_Mo_undo_0 rfl ?_
  refine go_aload_n 0 d_Mo_undo_1 rfl ?_
  obtain ⟨x1, e_x1, hf⟩ := bnd_x hf
  refine go_get d_Mo_undo_2 (gI_x e_x1) fl_Mo_56 ?_
  refine go_if_ne 12 d_Mo_undo_5 (by decide) (fun q2 => ?_) (fun q2 => ?_)
  · rw [if_neg q2] at hf
    refine go_iconst (0 : Int32) d_Mo_undo_12 (by decide) ?_
    refine go_sub (lv' := [(0, .ref a0)]) [0] rfl ?_
    exact g_Mo_undo_13 hd  a0 (0 : Int32) a0 h hf
  · rw [if_pos q2] at hf
    refine go_iconst (1 : Int32) d_Mo_undo_8 (by decide) ?_
    refine go_goto 13 d_Mo_undo_9 (by decide) ?_
    refine go_sub (lv' := [(0, .ref a0)]) [0] rfl ?_
    exact g_Mo_undo_13 hd  a0 (1 : Int32) a0 h hf
theorem c_Mo_undo {l : Launch} {E : ET} {d : Nat} (hd : 1 ≤ d) {F : Nat} {r : Int32} {h9 : PH} {x : Nat} {a0 : Nat} {h : PH} (hf : f_Mo_undo F a0 h = some (r, h9)) : Fn l E m_Mo_undo d 0 0 [.ref a0] h x (PoE (some (.int r)) h9 x) :=
  Fn.of (by decide +kernel) (Nat.le_of_ble_eq_true rfl) (g_Mo_undo_0 hd a0 h hf)
theorem d_Mo_mix_0 : decode prog_13_method_91_code 0 = .ok (.aload_n 0, 1) := by decide +kernel
theorem d_Mo_mix_1 : decode prog_13_method_91_code 1 = .ok (.ldc2_w 298, 3) := by decide +kernel
theorem d_Mo_mix_4 : decode prog_13_method_91_code 4 = .ok (.aload_n 0, 1) := by decide +kernel
theorem d_Mo_mix_5 : decode prog_13_method_91_code 5 = .ok (.getfield 300, 3) := by decide +kernel
theorem d_Mo_mix_8 : decode prog_13_method_91_code 8 = .ok (.lmul, 1) := by decide +kernel
theorem d_Mo_mix_9 : decode prog_13_method_91_code 9 = .ok (.lload_n 1, 1) := by decide +kernel
theorem d_Mo_mix_10 : decode prog_13_method_91_code 10 = .ok (.ladd, 1) := by decide +kernel
theorem d_Mo_mix_11 : decode prog_13_method_91_code 11 = .ok (.putfield 300, 3) := by decide +kernel
theorem d_Mo_mix_14 : decode prog_13_method_91_code 14 = .ok (.return_, 1) := by decide +kernel
def f_Mo_mix (a0 : Nat) (i1 : Int64) (h : PH) : Option PH :=
  bnd (gL h a0 10 27) fun x1 => bnd (pV h a0 10 27 (.long (((31 : Int64) * x1) + i1))) fun h2 => some h2
theorem g_Mo_mix_0 {l : Launch} {E : ET} {d : Nat} (hd : 1 ≤ d) {h9 : PH} {x : Nat}  (a0 : Nat) (i1 : Int64) (h : PH) (hf : f_Mo_mix a0 i1 h = some h9) : Go l E m_Mo_mix (rm d 0 0) (KM E 0 0 (PoE none h9 x)) 0 0 h x 0 [(0, .ref a0), (1, .long i1)] [] := by
  unfold f_Mo_mix at hf
  refine go_aload_n 0 d_Mo_mix_0 rfl ?_
  refine go_ldc2 (31 : Int64) d_Mo_mix_1 kl_Mo_298 ?_
  refine go_aload_n 0 d_Mo_mix_4 rfl ?_
  obtain ⟨x1, e_x1, hf⟩ := bnd_x hf
  refine go_get d_Mo_mix_5 (gL_x e_x1) fl_Mo_300 ?_
  refine go_lmul d_Mo_mix_8 ?_
  refine go_lload_n 1 d_Mo_mix_9 rfl ?_
  refine go_ladd d_Mo_mix_10 ?_
  obtain ⟨h2, e_h2, hf⟩ := bnd_x hf
  refine go_putL d_Mo_mix_11 e_h2 fl_Mo_300 rfl rfl ?_
  have e9 := Option.some.inj hf
  subst e9
  exact go_vret d_Mo_mix_14 rfl ⟨rfl, rfl, rfl⟩
theorem c_Mo_mix {l : Launch} {E : ET} {d : Nat} (hd : 1 ≤ d) {h9 : PH} {x : Nat} {a0 : Nat} {i1 : Int64} {h : PH} (hf : f_Mo_mix a0 i1 h = some h9) : Fn l E m_Mo_mix d 0 0 [.ref a0, .long i1] h x (PoE none h9 x) :=
  Fn.of (by decide +kernel) (Nat.le_of_ble_eq_true rfl) (g_Mo_mix_0 hd a0 i1 h hf)
theorem d_Mo_digest_0 : decode prog_13_method_92_code 0 = .ok (.aload_n 0, 1) := by decide +kernel
theorem d_Mo_digest_1 : decode prog_13_method_92_code 1 = .ok (.iconst 0, 1) := by decide +kernel
theorem d_Mo_digest_2 : decode prog_13_method_92_code 2 = .ok (.putfield 52, 3) := by decide +kernel
theorem d_Mo_digest_5 : decode prog_13_method_92_code 5 = .ok (.aload_n 0, 1) := by decide +kernel
theorem d_Mo_digest_6 : decode prog_13_method_92_code 6 = .ok (.ldc2_w 303, 3) := by decide +kernel
theorem d_Mo_digest_9 : decode prog_13_method_92_code 9 = .ok (.putfield 300, 3) := by decide +kernel
theorem d_Mo_digest_12 : decode prog_13_method_92_code 12 = .ok (.aload_n 0, 1) := by decide +kernel
theorem d_Mo_digest_13 : decode prog_13_method_92_code 13 = .ok (.aload_n 0, 1) := by decide +kernel
theorem d_Mo_digest_14 : decode prog_13_method_92_code 14 = .ok (.getfield 268, 3) := by decide +kernel
theorem d_Mo_digest_17 : decode prog_13_method_92_code 17 = .ok (.i2l, 1) := by decide +kernel
theorem d_Mo_digest_18 : decode prog_13_method_92_code 18 = .ok (.invokevirtual 305, 3) := by decide +kernel
theorem d_Mo_digest_21 : decode prog_13_method_92_code 21 = .ok (.iconst 0, 1) := by decide +kernel
theorem d_Mo_digest_22 : decode prog_13_method_92_code 22 = .ok (.istore_n 1, 1) := by decide +kernel
theorem d_Mo_digest_23 : decode prog_13_method_92_code 23 = .ok (.iload_n 1, 1) := by decide +kernel
theorem d_Mo_digest_24 : decode prog_13_method_92_code 24 = .ok (.bipush 6, 2) := by decide +kernel
theorem d_Mo_digest_26 : decode prog_13_method_92_code 26 = .ok (.if_icmp .ge 19, 3) := by decide +kernel
theorem d_Mo_digest_29 : decode prog_13_method_92_code 29 = .ok (.aload_n 0, 1) := by decide +kernel
theorem d_Mo_digest_30 : decode prog_13_method_92_code 30 = .ok (.aload_n 0, 1) := by decide +kernel
theorem d_Mo_digest_31 : decode prog_13_method_92_code 31 = .ok (.iload_n 1, 1) := by decide +kernel
theorem d_Mo_digest_32 : decode prog_13_method_92_code 32 = .ok (.invokevirtual 252, 3) := by decide +kernel
theorem d_Mo_digest_35 : decode prog_13_method_92_code 35 = .ok (.i2l, 1) := by decide +kernel
theorem d_Mo_digest_36 : decode prog_13_method_92_code 36 = .ok (.invokevirtual 305, 3) := by decide +kernel
theorem d_Mo_digest_39 : decode prog_13_method_92_code 39 = .ok (.iinc 1 1, 3) := by decide +kernel
theorem d_Mo_digest_42 : decode prog_13_method_92_code 42 = .ok (.goto (-19), 3) := by decide +kernel
theorem d_Mo_digest_45 : decode prog_13_method_92_code 45 = .ok (.iconst 0, 1) := by decide +kernel
theorem d_Mo_digest_46 : decode prog_13_method_92_code 46 = .ok (.istore_n 1, 1) := by decide +kernel
theorem d_Mo_digest_47 : decode prog_13_method_92_code 47 = .ok (.iload_n 1, 1) := by decide +kernel
theorem d_Mo_digest_48 : decode prog_13_method_92_code 48 = .ok (.bipush 36, 2) := by decide +kernel
theorem d_Mo_digest_50 : decode prog_13_method_92_code 50 = .ok (.if_icmp .ge 42, 3) := by decide +kernel
theorem d_Mo_digest_53 : decode prog_13_method_92_code 53 = .ok (.aload_n 0, 1) := by decide +kernel
theorem d_Mo_digest_54 : decode prog_13_method_92_code 54 = .ok (.aload_n 0, 1) := by decide +kernel
theorem d_Mo_digest_55 : decode prog_13_method_92_code 55 = .ok (.getfield 7, 3) := by decide +kernel
theorem d_Mo_digest_58 : decode prog_13_method_92_code 58 = .ok (.iload_n 1, 1) := by decide +kernel
theorem d_Mo_digest_59 : decode prog_13_method_92_code 59 = .ok (.iaload, 1) := by decide +kernel
theorem d_Mo_digest_60 : decode prog_13_method_92_code 60 = .ok (.i2l, 1) := by decide +kernel
theorem d_Mo_digest_61 : decode prog_13_method_92_code 61 = .ok (.invokevirtual 305, 3) := by decide +kernel
theorem d_Mo_digest_64 : decode prog_13_method_92_code 64 = .ok (.aload_n 0, 1) := by decide +kernel
theorem d_Mo_digest_65 : decode prog_13_method_92_code 65 = .ok (.aload_n 0, 1) := by decide +kernel
theorem d_Mo_digest_66 : decode prog_13_method_92_code 66 = .ok (.iload_n 1, 1) := by decide +kernel
theorem d_Mo_digest_67 : decode prog_13_method_92_code 67 = .ok (.iconst 0, 1) := by decide +kernel
theorem d_Mo_digest_68 : decode prog_13_method_92_code 68 = .ok (.invokevirtual 255, 3) := by decide +kernel
theorem d_Mo_digest_71 : decode prog_13_method_92_code 71 = .ok (.i2l, 1) := by decide +kernel
theorem d_Mo_digest_72 : decode prog_13_method_92_code 72 = .ok (.invokevirtual 305, 3) := by decide +kernel
theorem d_Mo_digest_75 : decode prog_13_method_92_code 75 = .ok (.aload_n 0, 1) := by decide +kernel
theorem d_Mo_digest_76 : decode prog_13_method_92_code 76 = .ok (.aload_n 0, 1) := by decide +kernel
theorem d_Mo_digest_77 : decode prog_13_method_92_code 77 = .ok (.iload_n 1, 1) := by decide +kernel
theorem d_Mo_digest_78 : decode prog_13_method_92_code 78 = .ok (.iconst 1, 1) := by decide +kernel
theorem d_Mo_digest_79 : decode prog_13_method_92_code 79 = .ok (.invokevirtual 255, 3) := by decide +kernel
theorem d_Mo_digest_82 : decode prog_13_method_92_code 82 = .ok (.i2l, 1) := by decide +kernel
theorem d_Mo_digest_83 : decode prog_13_method_92_code 83 = .ok (.invokevirtual 305, 3) := by decide +kernel
theorem d_Mo_digest_86 : decode prog_13_method_92_code 86 = .ok (.iinc 1 1, 3) := by decide +kernel
theorem d_Mo_digest_89 : decode prog_13_method_92_code 89 = .ok (.goto (-42), 3) := by decide +kernel
theorem d_Mo_digest_92 : decode prog_13_method_92_code 92 = .ok (.iconst 0, 1) := by decide +kernel
theorem d_Mo_digest_93 : decode prog_13_method_92_code 93 = .ok (.istore_n 1, 1) := by decide +kernel
theorem d_Mo_digest_94 : decode prog_13_method_92_code 94 = .ok (.iload_n 1, 1) := by decide +kernel
theorem d_Mo_digest_95 : decode prog_13_method_92_code 95 = .ok (.aload_n 0, 1) := by decide +kernel
theorem d_Mo_digest_96 : decode prog_13_method_92_code 96 = .ok (.getfield 7, 3) := by decide +kernel
theorem d_Mo_digest_99 : decode prog_13_method_92_code 99 = .ok (.bipush 108, 2) := by decide +kernel
theorem d_Mo_digest_101 : decode prog_13_method_92_code 101 = .ok (.iaload, 1) := by decide +kernel
theorem d_Mo_digest_102 : decode prog_13_method_92_code 102 = .ok (.if_icmp .ge 47, 3) := by decide +kernel
theorem d_Mo_digest_105 : decode prog_13_method_92_code 105 = .ok (.iconst 0, 1) := by decide +kernel
theorem d_Mo_digest_106 : decode prog_13_method_92_code 106 = .ok (.istore_n 2, 1) := by decide +kernel
theorem d_Mo_digest_107 : decode prog_13_method_92_code 107 = .ok (.iload_n 2, 1) := by decide +kernel
theorem d_Mo_digest_108 : decode prog_13_method_92_code 108 = .ok (.iconst 3, 1) := by decide +kernel
theorem d_Mo_digest_109 : decode prog_13_method_92_code 109 = .ok (.aload_n 0, 1) := by decide +kernel
theorem d_Mo_digest_110 : decode prog_13_method_92_code 110 = .ok (.iload_n 1, 1) := by decide +kernel
theorem d_Mo_digest_111 : decode prog_13_method_92_code 111 = .ok (.invokevirtual 74, 3) := by decide +kernel
theorem d_Mo_digest_114 : decode prog_13_method_92_code 114 = .ok (.iadd, 1) := by decide +kernel
theorem d_Mo_digest_115 : decode prog_13_method_92_code 115 = .ok (.if_icmp .ge 28, 3) := by decide +kernel
theorem d_Mo_digest_118 : decode prog_13_method_92_code 118 = .ok (.aload_n 0, 1) := by decide +kernel
theorem d_Mo_digest_119 : decode prog_13_method_92_code 119 = .ok (.aload_n 0, 1) := by decide +kernel
theorem d_Mo_digest_120 : decode prog_13_method_92_code 120 = .ok (.getfield 7, 3) := by decide +kernel
theorem d_Mo_digest_123 : decode prog_13_method_92_code 123 = .ok (.bipush 109, 2) := by decide +kernel
theorem d_Mo_digest_125 : decode prog_13_method_92_code 125 = .ok (.bipush 9, 2) := by decide +kernel
theorem d_Mo_digest_127 : decode prog_13_method_92_code 127 = .ok (.iload_n 1, 1) := by decide +kernel
theorem d_Mo_digest_128 : decode prog_13_method_92_code 128 = .ok (.imul, 1) := by decide +kernel
theorem d_Mo_digest_129 : decode prog_13_method_92_code 129 = .ok (.iadd, 1) := by decide +kernel
theorem d_Mo_digest_130 : decode prog_13_method_92_code 130 = .ok (.iload_n 2, 1) := by decide +kernel
theorem d_Mo_digest_131 : decode prog_13_method_92_code 131 = .ok (.iadd, 1) := by decide +kernel
theorem d_Mo_digest_132 : decode prog_13_method_92_code 132 = .ok (.iaload, 1) := by decide +kernel
theorem d_Mo_digest_133 : decode prog_13_method_92_code 133 = .ok (.i2l, 1) := by decide +kernel
theorem d_Mo_digest_134 : decode prog_13_method_92_code 134 = .ok (.invokevirtual 305, 3) := by decide +kernel
theorem d_Mo_digest_137 : decode prog_13_method_92_code 137 = .ok (.iinc 2 1, 3) := by decide +kernel
theorem d_Mo_digest_140 : decode prog_13_method_92_code 140 = .ok (.goto (-33), 3) := by decide +kernel
theorem d_Mo_digest_143 : decode prog_13_method_92_code 143 = .ok (.iinc 1 1, 3) := by decide +kernel
theorem d_Mo_digest_146 : decode prog_13_method_92_code 146 = .ok (.goto (-52), 3) := by decide +kernel
theorem d_Mo_digest_149 : decode prog_13_method_92_code 149 = .ok (.aload_n 0, 1) := by decide +kernel
theorem d_Mo_digest_150 : decode prog_13_method_92_code 150 = .ok (.aload_n 0, 1) := by decide +kernel
theorem d_Mo_digest_151 : decode prog_13_method_92_code 151 = .ok (.getfield 7, 3) := by decide +kernel
theorem d_Mo_digest_154 : decode prog_13_method_92_code 154 = .ok (.sipush 181, 3) := by decide +kernel
theorem d_Mo_digest_157 : decode prog_13_method_92_code 157 = .ok (.iaload, 1) := by decide +kernel
theorem d_Mo_digest_158 : decode prog_13_method_92_code 158 = .ok (.i2l, 1) := by decide +kernel
theorem d_Mo_digest_159 : decode prog_13_method_92_code 159 = .ok (.invokevirtual 305, 3) := by decide +kernel
theorem d_Mo_digest_162 : decode prog_13_method_92_code 162 = .ok (.iconst 0, 1) := by decide +kernel
theorem d_Mo_digest_163 : decode prog_13_method_92_code 163 = .ok (.istore_n 1, 1) := by decide +kernel
theorem d_Mo_digest_164 : decode prog_13_method_92_code 164 = .ok (.iload_n 1, 1) := by decide +kernel
theorem d_Mo_digest_165 : decode prog_13_method_92_code 165 = .ok (.iconst 3, 1) := by decide +kernel
theorem d_Mo_digest_166 : decode prog_13_method_92_code 166 = .ok (.aload_n 0, 1) := by decide +kernel
theorem d_Mo_digest_167 : decode prog_13_method_92_code 167 = .ok (.getfield 7, 3) := by decide +kernel
theorem d_Mo_digest_170 : decode prog_13_method_92_code 170 = .ok (.sipush 181, 3) := by decide +kernel
theorem d_Mo_digest_173 : decode prog_13_method_92_code 173 = .ok (.iaload, 1) := by decide +kernel
theorem d_Mo_digest_174 : decode prog_13_method_92_code 174 = .ok (.imul, 1) := by decide +kernel
theorem d_Mo_digest_175 : decode prog_13_method_92_code 175 = .ok (.if_icmp .ge 24, 3) := by decide +kernel
theorem d_Mo_digest_178 : decode prog_13_method_92_code 178 = .ok (.aload_n 0, 1) := by decide +kernel
theorem d_Mo_digest_179 : decode prog_13_method_92_code 179 = .ok (.aload_n 0, 1) := by decide +kernel
theorem d_Mo_digest_180 : decode prog_13_method_92_code 180 = .ok (.getfield 7, 3) := by decide +kernel
theorem d_Mo_digest_183 : decode prog_13_method_92_code 183 = .ok (.sipush 182, 3) := by decide +kernel
theorem d_Mo_digest_186 : decode prog_13_method_92_code 186 = .ok (.iload_n 1, 1) := by decide +kernel
theorem d_Mo_digest_187 : decode prog_13_method_92_code 187 = .ok (.iadd, 1) := by decide +kernel
theorem d_Mo_digest_188 : decode prog_13_method_92_code 188 = .ok (.iaload, 1) := by decide +kernel
theorem d_Mo_digest_189 : decode prog_13_method_92_code 189 = .ok (.i2l, 1) := by decide +kernel
theorem d_Mo_digest_190 : decode prog_13_method_92_code 190 = .ok (.invokevirtual 305, 3) := by decide +kernel
theorem d_Mo_digest_193 : decode prog_13_method_92_code 193 = .ok (.iinc 1 1, 3) := by decide +kernel
theorem d_Mo_digest_196 : decode prog_13_method_92_code 196 = .ok (.goto (-32), 3) := by decide +kernel
theorem d_Mo_digest_199 : decode prog_13_method_92_code 199 = .ok (.aload_n 0, 1) := by decide +kernel
theorem d_Mo_digest_200 : decode prog_13_method_92_code 200 = .ok (.aload_n 0, 1) := by decide +kernel
theorem d_Mo_digest_201 : decode prog_13_method_92_code 201 = .ok (.invokevirtual 261, 3) := by decide +kernel
theorem d_Mo_digest_204 : decode prog_13_method_92_code 204 = .ok (.ifCond .eq 11, 3) := by decide +kernel
theorem d_Mo_digest_207 : decode prog_13_method_92_code 207 = .ok (.aload_n 0, 1) := by decide +kernel
theorem d_Mo_digest_208 : decode prog_13_method_92_code 208 = .ok (.getfield 154, 3) := by decide +kernel
theorem d_Mo_digest_211 : decode prog_13_method_92_code 211 = .ok (.i2l, 1) := by decide +kernel
theorem d_Mo_digest_212 : decode prog_13_method_92_code 212 = .ok (.goto 4, 3) := by decide +kernel
theorem d_Mo_digest_215 : decode prog_13_method_92_code 215 = .ok (.lconst 0, 1) := by decide +kernel
theorem d_Mo_digest_216 : decode prog_13_method_92_code 216 = .ok (.invokevirtual 305, 3) := by decide +kernel
theorem d_Mo_digest_219 : decode prog_13_method_92_code 219 = .ok (.aload_n 0, 1) := by decide +kernel
theorem d_Mo_digest_220 : decode prog_13_method_92_code 220 = .ok (.aload_n 0, 1) := by decide +kernel
theorem d_Mo_digest_221 : decode prog_13_method_92_code 221 = .ok (.getfield 56, 3) := by decide +kernel
theorem d_Mo_digest_224 : decode prog_13_method_92_code 224 = .ok (.i2l, 1) := by decide +kernel
theorem d_Mo_digest_225 : decode prog_13_method_92_code 225 = .ok (.invokevirtual 305, 3) := by decide +kernel
theorem d_Mo_digest_228 : decode prog_13_method_92_code 228 = .ok (.aload_n 0, 1) := by decide +kernel
theorem d_Mo_digest_229 : decode prog_13_method_92_code 229 = .ok (.getfield 300, 3) := by decide +kernel
theorem d_Mo_digest_232 : decode prog_13_method_92_code 232 = .ok (.lreturn, 1) := by decide +kernel
def b_Mo_digest_107 (F : Nat) (k94 : Nat → Int32 → PH → Option (Int64 × PH)) (k107 : Nat → Int32 → Int32 → PH → Option (Int64 × PH)) (a0 : Nat) (i1 : Int32) (i2 : Int32) (h : PH) : Option (Int64 × PH) :=
  bnd (cK h a0 10) fun _ => bnd (f_Mo_lengthOf a0 i1 h) fun x2 => (if ((3 : Int32) + x2) ≤ i2 then k94 a0 (i1 + (1 : Int32)) h else bnd (gR h a0 10 0) fun x3 => bnd (aI h x3 (((109 : Int32) + ((9 : Int32) * i1)) + i2)) fun x4 => bnd (cK h a0 10) fun _ => bnd (f_Mo_mix a0 (x4.toInt64) h) fun h6 => k107 a0 i1 (i2 + (1 : Int32)) h6)
def f_Mo_digest_107 (F : Nat) (k94 : Nat → Int32 → PH → Option (Int64 × PH)) : Nat → Nat → Int32 → Int32 → PH → Option (Int64 × PH)
  | 0 => fun _ _ _ _ => none
  | n + 1 => b_Mo_digest_107 F k94 (f_Mo_digest_107 F k94 n)
theorem g_Mo_digest_107 {l : Launch} {E : ET} {d : Nat} (hd : 8 ≤ d) {F : Nat} {r : Int64} {h9 : PH} {x : Nat} {k94 : Nat → Int32 → PH → Option (Int64 × PH)} (hk94 : ∀ (a0 : Nat) (i1 : Int32) (hh : PH), k94 a0 i1 hh = some (r, h9) → Go l E m_Mo_digest (rm d 0 0) (KM E 0 0 (PoE (some (.long r)) h9 x)) 0 0 hh x 94 [(0, .ref a0), (1, .int i1)] []) {k107 : Nat → Int32 → Int32 → PH → Option (Int64 × PH)} (hk107 : ∀ (a0 : Nat) (i1 : Int32) (i2 : Int32) (hh : PH), k107 a0 i1 i2 hh = some (r, h9) → Go l E m_Mo_digest (rm d 0 0) (KM E 0 0 (PoE (some (.long r)) h9 x)) 0 0 hh x 107 [(0, .ref a0), (1, .int i1), (2, .int i2)] []) (a0 : Nat) (i1 : Int32) (i2 : Int32) (h : PH) (hf : b_Mo_digest_107 F k94 k107 a0 i1 i2 h = some (r, h9)) : Go l E m_Mo_digest (rm d 0 0) (KM E 0 0 (PoE (some (.long r)) h9 x)) 0 0 h x 107 [(0, .ref a0), (1, .int i1), (2, .int i2)] [] := by
  unfold b_Mo_digest_107 at hf
  refine go_iload_n 2 d_Mo_digest_107 rfl ?_
  refine go_iconst (3 : Int32) d_Mo_digest_108 (by decide) ?_
  refine go_aload_n 0 d_Mo_digest_109 rfl ?_
  refine go_iload_n 1 d_Mo_digest_110 rfl ?_
  obtain ⟨_, e1, hf⟩ := bnd_x hf
  obtain ⟨x2, e_x2, hf⟩ := bnd_x hf
  refine go_callV_I (As := [.int i1]) (st := [.int (3 : Int32), .int i2]) (c_Mo_lengthOf (d := d - 1) (by omega) e_x2) lk_Mo_74 rfl rfl e1 (by decide) rfl (rm_ok (by omega)) (Nat.le_of_ble_eq_true rfl) rm_c d_Mo_digest_111 ?_
  refine go_iadd d_Mo_digest_114 ?_
  refine go_icmp_ge 143 d_Mo_digest_115 (by decide) (fun q7 => ?_) (fun q7 => ?_)
  · rw [if_pos q7] at hf
    refine go_iinc (lv' := [(1, .int (i1 + (1 : Int32))), (0, .ref a0), (2, .int i2)]) 1 (i1 + (1 : Int32)) d_Mo_digest_143 rfl rfl rfl (by decide) ?_
    refine go_goto 94 d_Mo_digest_146 (by decide) ?_
    refine go_sub (lv' := [(0, .ref a0), (1, .int (i1 + (1 : Int32)))]) [1, 0] rfl ?_
    exact hk94 a0 (i1 + (1 : Int32)) h hf
  · rw [if_neg q7] at hf
    refine go_aload_n 0 d_Mo_digest_118 rfl ?_
    refine go_aload_n 0 d_Mo_digest_119 rfl ?_
    obtain ⟨x3, e_x3, hf⟩ := bnd_x hf
    refine go_get d_Mo_digest_120 (gR_x e_x3) fl_Mo_7 ?_
    refine go_bipush (109 : Int32) d_Mo_digest_123 (by decide) ?_
    refine go_bipush (9 : Int32) d_Mo_digest_125 (by decide) ?_
    refine go_iload_n 1 d_Mo_digest_127 rfl ?_
    refine go_imul d_Mo_digest_128 ?_
    refine go_iadd d_Mo_digest_129 ?_
    refine go_iload_n 2 d_Mo_digest_130 rfl ?_
    refine go_iadd d_Mo_digest_131 ?_
    obtain ⟨x4, e_x4, hf⟩ := bnd_x hf
    refine go_iaload d_Mo_digest_132 e_x4 ?_
    refine go_i2l d_Mo_digest_133 ?_
    obtain ⟨_, e5, hf⟩ := bnd_x hf
    obtain ⟨h6, e_x6, hf⟩ := bnd_x hf
    refine go_callV_N (As := [.long (x4.toInt64)]) (st := []) (c_Mo_mix (d := d - 1) (by omega) e_x6) lk_Mo_305 rfl rfl e5 (by decide) rfl (rm_ok (by omega)) (Nat.le_of_ble_eq_true rfl) rm_c d_Mo_digest_134 ?_
    refine go_iinc (lv' := [(2, .int (i2 + (1 : Int32))), (0, .ref a0), (1, .int i1)]) 2 (i2 + (1 : Int32)) d_Mo_digest_137 rfl rfl rfl (by decide) ?_
    refine go_goto 107 d_Mo_digest_140 (by decide) ?_
    refine go_sub (lv' := [(0, .ref a0), (1, .int i1), (2, .int (i2 + (1 : Int32)))]) [1, 2, 0] rfl ?_
    exact hk107 a0 i1 (i2 + (1 : Int32)) h6 hf
theorem t_Mo_digest_107 {l : Launch} {E : ET} {d : Nat} (hd : 8 ≤ d) {F : Nat} {r : Int64} {h9 : PH} {x : Nat} {k94 : Nat → Int32 → PH → Option (Int64 × PH)} (hk94 : ∀ (a0 : Nat) (i1 : Int32) (hh : PH), k94 a0 i1 hh = some (r, h9) → Go l E m_Mo_digest (rm d 0 0) (KM E 0 0 (PoE (some (.long r)) h9 x)) 0 0 hh x 94 [(0, .ref a0), (1, .int i1)] []) : ∀ (n : Nat) (a0 : Nat) (i1 : Int32) (i2 : Int32) (hh : PH), f_Mo_digest_107 F k94 n a0 i1 i2 hh = some (r, h9) → Go l E m_Mo_digest (rm d 0 0) (KM E 0 0 (PoE (some (.long r)) h9 x)) 0 0 hh x 107 [(0, .ref a0), (1, .int i1), (2, .int i2)] [] := by
  intro n
  induction n with
  | zero => intro v0 v1 v2 v3 hf; cases hf
  | succ n ih => intro v0 v1 v2 v3 hf; exact g_Mo_digest_107 hd hk94 ih v0 v1 v2 v3 hf
def b_Mo_digest_216 (F : Nat) (a0 : Nat) (s0 : Int64) (s1 : Nat) (h : PH) : Option (Int64 × PH) :=
  bnd (cK h s1 10) fun _ => bnd (f_Mo_mix s1 s0 h) fun h2 => bnd (gI h2 a0 10 2) fun x3 => bnd (cK h2 a0 10) fun _ => bnd (f_Mo_mix a0 (x3.toInt64) h2) fun h5 => bnd (gL h5 a0 10 27) fun x6 => some (x6, h5)
theorem g_Mo_digest_216 {l : Launch} {E : ET} {d : Nat} (hd : 8 ≤ d) {F : Nat} {r : Int64} {h9 : PH} {x : Nat}  (a0 : Nat) (s0 : Int64) (s1 : Nat) (h : PH) (hf : b_Mo_digest_216 F a0 s0 s1 h = some (r, h9)) : Go l E m_Mo_digest (rm d 0 0) (KM E 0 0 (PoE (some (.long r)) h9 x)) 0 0 h x 216 [(0, .ref a0)] [.long s0, .ref s1] := by
  unfold b_Mo_digest_216 at hf
  obtain ⟨_, e1, hf⟩ := bnd_x hf
  obtain ⟨h2, e_x2, hf⟩ := bnd_x hf
  refine go_callV_N (As := [.long s0]) (st := []) (c_Mo_mix (d := d - 1) (by omega) e_x2) lk_Mo_305 rfl rfl e1 (by decide) rfl (rm_ok (by omega)) (Nat.le_of_ble_eq_true rfl) rm_c d_Mo_digest_216 ?_
  refine go_aload_n 0 d_Mo_digest_219 rfl ?_
  refine go_aload_n 0 d_Mo_digest_220 rfl ?_
  obtain ⟨x3, e_x3, hf⟩ := bnd_x hf
  refine go_get d_Mo_digest_221 (gI_x e_x3) fl_Mo_56 ?_
  refine go_i2l d_Mo_digest_224 ?_
  obtain ⟨_, e4, hf⟩ := bnd_x hf
  obtain ⟨h5, e_x5, hf⟩ := bnd_x hf
  refine go_callV_N (As := [.long (x3.toInt64)]) (st := []) (c_Mo_mix (d := d - 1) (by omega) e_x5) lk_Mo_305 rfl rfl e4 (by decide) rfl (rm_ok (by omega)) (Nat.le_of_ble_eq_true rfl) rm_c d_Mo_digest_225 ?_
  refine go_aload_n 0 d_Mo_digest_228 rfl ?_
  obtain ⟨x6, e_x6, hf⟩ := bnd_x hf
  refine go_get d_Mo_digest_229 (gL_x e_x6) fl_Mo_300 ?_
  obtain ⟨e8, e9⟩ := Prod.mk.inj (Option.some.inj hf)
  subst e8; subst e9
  exact go_lret d_Mo_digest_232 rfl ⟨rfl, rfl, rfl⟩
def b_Mo_digest_164 (F : Nat) (k164 : Nat → Int32 → PH → Option (Int64 × PH)) (a0 : Nat) (i1 : Int32) (h : PH) : Option (Int64 × PH) :=
  bnd (gR h a0 10 0) fun x1 => bnd (aI h x1 (181 : Int32)) fun x2 => (if ((3 : Int32) * x2) ≤ i1 then bnd (cK h a0 10) fun _ => bnd2 (f_Mo_looks F a0 h) fun x4 h5 => (if x4 = (0 : Int32) then b_Mo_digest_216 F a0 (0 : Int64) a0 h5 else bnd (gI h5 a0 10 6) fun x6 => b_Mo_digest_216 F a0 (x6.toInt64) a0 h5) else bnd (gR h a0 10 0) fun x8 => bnd (aI h x8 ((182 : Int32) + i1)) fun x9 => bnd (cK h a0 10) fun _ => bnd (f_Mo_mix a0 (x9.toInt64) h) fun h11 => k164 a0 (i1 + (1 : Int32)) h11)
def f_Mo_digest_164 (F : Nat) : Nat → Nat → Int32 → PH → Option (Int64 × PH)
  | 0 => fun _ _ _ => none
  | n + 1 => b_Mo_digest_164 F (f_Mo_digest_164 F n)
theorem g_Mo_digest_164 {l : Launch} {E : ET} {d : Nat} (hd : 8 ≤ d) {F : Nat} {r : Int64} {h9 : PH} {x : Nat} {k164 : Nat → Int32 → PH → Option (Int64 × PH)} (hk164 : ∀ (a0 : Nat) (i1 : Int32) (hh : PH), k164 a0 i1 hh = some (r, h9) → Go l E m_Mo_digest (rm d 0 0) (KM E 0 0 (PoE (some (.long r)) h9 x)) 0 0 hh x 164 [(0, .ref a0), (1, .int i1)] []) (a0 : Nat) (i1 : Int32) (h : PH) (hf : b_Mo_digest_164 F k164 a0 i1 h = some (r, h9)) : Go l E m_Mo_digest (rm d 0 0) (KM E 0 0 (PoE (some (.long r)) h9 x)) 0 0 h x 164 [(0, .ref a0), (1, .int i1)] [] := by
  unfold b_Mo_digest_164 at hf
  refine go_iload_n 1 d_Mo_digest_164 rfl ?_
  refine go_iconst (3 : Int32) d_Mo_digest_165 (by decide) ?_
  refine go_aload_n 0 d_Mo_digest_166 rfl ?_
  obtain ⟨x1, e_x1, hf⟩ := bnd_x hf
  refine go_get d_Mo_digest_167 (gR_x e_x1) fl_Mo_7 ?_
  refine go_sipush (181 : Int32) d_Mo_digest_170 (by decide) ?_
  obtain ⟨x2, e_x2, hf⟩ := bnd_x hf
  refine go_iaload d_Mo_digest_173 e_x2 ?_
  refine go_imul d_Mo_digest_174 ?_
  refine go_icmp_ge 199 d_Mo_digest_175 (by decide) (fun q12 => ?_) (fun q12 => ?_)
  · rw [if_pos q12] at hf
    refine go_aload_n 0 d_Mo_digest_199 rfl ?_
    refine go_aload_n 0 d_Mo_digest_200 rfl ?_
    obtain ⟨_, e3, hf⟩ := bnd_x hf
    obtain ⟨x4, h5, e_x4, hf⟩ := bnd2_x hf
    refine go_callV_I (As := []) (st := [.ref a0]) (c_Mo_looks (d := d - 1) (by omega) e_x4) lk_Mo_261 rfl rfl e3 (by decide) rfl (rm_ok (by omega)) (Nat.le_of_ble_eq_true rfl) rm_c d_Mo_digest_201 ?_
    refine go_if_eq 215 d_Mo_digest_204 (by decide) (fun q7 => ?_) (fun q7 => ?_)
    · rw [if_pos q7] at hf
      refine go_lconst (0 : Int64) d_Mo_digest_215 (by decide) ?_
      refine go_sub (lv' := [(0, .ref a0)]) [0] rfl ?_
      exact g_Mo_digest_216 hd  a0 (0 : Int64) a0 h5 hf
    · rw [if_neg q7] at hf
      refine go_aload_n 0 d_Mo_digest_207 rfl ?_
      obtain ⟨x6, e_x6, hf⟩ := bnd_x hf
      refine go_get d_Mo_digest_208 (gI_x e_x6) fl_Mo_154 ?_
      refine go_i2l d_Mo_digest_211 ?_
      refine go_goto 216 d_Mo_digest_212 (by decide) ?_
      refine go_sub (lv' := [(0, .ref a0)]) [0] rfl ?_
      exact g_Mo_digest_216 hd  a0 (x6.toInt64) a0 h5 hf
  · rw [if_neg q12] at hf
    refine go_aload_n 0 d_Mo_digest_178 rfl ?_
    refine go_aload_n 0 d_Mo_digest_179 rfl ?_
    obtain ⟨x8, e_x8, hf⟩ := bnd_x hf
    refine go_get d_Mo_digest_180 (gR_x e_x8) fl_Mo_7 ?_
    refine go_sipush (182 : Int32) d_Mo_digest_183 (by decide) ?_
    refine go_iload_n 1 d_Mo_digest_186 rfl ?_
    refine go_iadd d_Mo_digest_187 ?_
    obtain ⟨x9, e_x9, hf⟩ := bnd_x hf
    refine go_iaload d_Mo_digest_188 e_x9 ?_
    refine go_i2l d_Mo_digest_189 ?_
    obtain ⟨_, e10, hf⟩ := bnd_x hf
    obtain ⟨h11, e_x11, hf⟩ := bnd_x hf
    refine go_callV_N (As := [.long (x9.toInt64)]) (st := []) (c_Mo_mix (d := d - 1) (by omega) e_x11) lk_Mo_305 rfl rfl e10 (by decide) rfl (rm_ok (by omega)) (Nat.le_of_ble_eq_true rfl) rm_c d_Mo_digest_190 ?_
    refine go_iinc (lv' := [(1, .int (i1 + (1 : Int32))), (0, .ref a0)]) 1 (i1 + (1 : Int32)) d_Mo_digest_193 rfl rfl rfl (by decide) ?_
    refine go_goto 164 d_Mo_digest_196 (by decide) ?_
    refine go_sub (lv' := [(0, .ref a0), (1, .int (i1 + (1 : Int32)))]) [1, 0] rfl ?_
    exact hk164 a0 (i1 + (1 : Int32)) h11 hf
theorem t_Mo_digest_164 {l : Launch} {E : ET} {d : Nat} (hd : 8 ≤ d) {F : Nat} {r : Int64} {h9 : PH} {x : Nat}  : ∀ (n : Nat) (a0 : Nat) (i1 : Int32) (hh : PH), f_Mo_digest_164 F n a0 i1 hh = some (r, h9) → Go l E m_Mo_digest (rm d 0 0) (KM E 0 0 (PoE (some (.long r)) h9 x)) 0 0 hh x 164 [(0, .ref a0), (1, .int i1)] [] := by
  intro n
  induction n with
  | zero => intro v0 v1 v2 hf; cases hf
  | succ n ih => intro v0 v1 v2 hf; exact g_Mo_digest_164 hd ih v0 v1 v2 hf
def b_Mo_digest_94 (F : Nat) (k94 : Nat → Int32 → PH → Option (Int64 × PH)) (a0 : Nat) (i1 : Int32) (h : PH) : Option (Int64 × PH) :=
  bnd (gR h a0 10 0) fun x1 => bnd (aI h x1 (108 : Int32)) fun x2 => (if x2 ≤ i1 then bnd (gR h a0 10 0) fun x3 => bnd (aI h x3 (181 : Int32)) fun x4 => bnd (cK h a0 10) fun _ => bnd (f_Mo_mix a0 (x4.toInt64) h) fun h6 => f_Mo_digest_164 F F a0 (0 : Int32) h6 else f_Mo_digest_107 F k94 F a0 i1 (0 : Int32) h)
def f_Mo_digest_94 (F : Nat) : Nat → Nat → Int32 → PH → Option (Int64 × PH)
  | 0 => fun _ _ _ => none
  | n + 1 => b_Mo_digest_94 F (f_Mo_digest_94 F n)
theorem g_Mo_digest_94 {l : Launch} {E : ET} {d : Nat} (hd : 8 ≤ d) {F : Nat} {r : Int64} {h9 : PH} {x : Nat} {k94 : Nat → Int32 → PH → Option (Int64 × PH)} (hk94 : ∀ (a0 : Nat) (i1 : Int32) (hh : PH), k94 a0 i1 hh = some (r, h9) → Go l E m_Mo_digest (rm d 0 0) (KM E 0 0 (PoE (some (.long r)) h9 x)) 0 0 hh x 94 [(0, .ref a0), (1, .int i1)] []) (a0 : Nat) (i1 : Int32) (h : PH) (hf : b_Mo_digest_94 F k94 a0 i1 h = some (r, h9)) : Go l E m_Mo_digest (rm d 0 0) (KM E 0 0 (PoE (some (.long r)) h9 x)) 0 0 h x 94 [(0, .ref a0), (1, .int i1)] [] := by
  unfold b_Mo_digest_94 at hf
  refine go_iload_n 1 d_Mo_digest_94 rfl ?_
  refine go_aload_n 0 d_Mo_digest_95 rfl ?_
  obtain ⟨x1, e_x1, hf⟩ := bnd_x hf
  refine go_get d_Mo_digest_96 (gR_x e_x1) fl_Mo_7 ?_
  refine go_bipush (108 : Int32) d_Mo_digest_99 (by decide) ?_
  obtain ⟨x2, e_x2, hf⟩ := bnd_x hf
  refine go_iaload d_Mo_digest_101 e_x2 ?_
  refine go_icmp_ge 149 d_Mo_digest_102 (by decide) (fun q7 => ?_) (fun q7 => ?_)
  · rw [if_pos q7] at hf
    refine go_aload_n 0 d_Mo_digest_149 rfl ?_
    refine go_aload_n 0 d_Mo_digest_150 rfl ?_
    obtain ⟨x3, e_x3, hf⟩ := bnd_x hf
    refine go_get d_Mo_digest_151 (gR_x e_x3) fl_Mo_7 ?_
    refine go_sipush (181 : Int32) d_Mo_digest_154 (by decide) ?_
    obtain ⟨x4, e_x4, hf⟩ := bnd_x hf
    refine go_iaload d_Mo_digest_157 e_x4 ?_
    refine go_i2l d_Mo_digest_158 ?_
    obtain ⟨_, e5, hf⟩ := bnd_x hf
    obtain ⟨h6, e_x6, hf⟩ := bnd_x hf
    refine go_callV_N (As := [.long (x4.toInt64)]) (st := []) (c_Mo_mix (d := d - 1) (by omega) e_x6) lk_Mo_305 rfl rfl e5 (by decide) rfl (rm_ok (by omega)) (Nat.le_of_ble_eq_true rfl) rm_c d_Mo_digest_159 ?_
    refine go_iconst (0 : Int32) d_Mo_digest_162 (by decide) ?_
    refine go_istore_n (lv' := [(1, .int (0 : Int32)), (0, .ref a0)]) d_Mo_digest_163 rfl (by decide) ?_
    refine go_sub (lv' := [(0, .ref a0), (1, .int (0 : Int32))]) [1, 0] rfl ?_
    exact t_Mo_digest_164 hd  _ a0 (0 : Int32) h6 hf
  · rw [if_neg q7] at hf
    refine go_iconst (0 : Int32) d_Mo_digest_105 (by decide) ?_
    refine go_istore_n (lv' := [(2, .int (0 : Int32)), (0, .ref a0), (1, .int i1)]) d_Mo_digest_106 rfl (by decide) ?_
    refine go_sub (lv' := [(0, .ref a0), (1, .int i1), (2, .int (0 : Int32))]) [1, 2, 0] rfl ?_
    exact t_Mo_digest_107 hd hk94 _ a0 i1 (0 : Int32) h hf
theorem t_Mo_digest_94 {l : Launch} {E : ET} {d : Nat} (hd : 8 ≤ d) {F : Nat} {r : Int64} {h9 : PH} {x : Nat}  : ∀ (n : Nat) (a0 : Nat) (i1 : Int32) (hh : PH), f_Mo_digest_94 F n a0 i1 hh = some (r, h9) → Go l E m_Mo_digest (rm d 0 0) (KM E 0 0 (PoE (some (.long r)) h9 x)) 0 0 hh x 94 [(0, .ref a0), (1, .int i1)] [] := by
  intro n
  induction n with
  | zero => intro v0 v1 v2 hf; cases hf
  | succ n ih => intro v0 v1 v2 hf; exact g_Mo_digest_94 hd ih v0 v1 v2 hf
def b_Mo_digest_47 (F : Nat) (k47 : Nat → Int32 → PH → Option (Int64 × PH)) (a0 : Nat) (i1 : Int32) (h : PH) : Option (Int64 × PH) :=
  (if (36 : Int32) ≤ i1 then f_Mo_digest_94 F F a0 (0 : Int32) h else bnd (gR h a0 10 0) fun x1 => bnd (aI h x1 i1) fun x2 => bnd (cK h a0 10) fun _ => bnd (f_Mo_mix a0 (x2.toInt64) h) fun h4 => bnd (cK h4 a0 10) fun _ => bnd (f_Mo_valueOf F a0 i1 (0 : Int32) h4) fun x6 => bnd (cK h4 a0 10) fun _ => bnd (f_Mo_mix a0 (x6.toInt64) h4) fun h8 => bnd (cK h8 a0 10) fun _ => bnd (f_Mo_valueOf F a0 i1 (1 : Int32) h8) fun x10 => bnd (cK h8 a0 10) fun _ => bnd (f_Mo_mix a0 (x10.toInt64) h8) fun h12 => k47 a0 (i1 + (1 : Int32)) h12)
def f_Mo_digest_47 (F : Nat) : Nat → Nat → Int32 → PH → Option (Int64 × PH)
  | 0 => fun _ _ _ => none
  | n + 1 => b_Mo_digest_47 F (f_Mo_digest_47 F n)
theorem g_Mo_digest_47 {l : Launch} {E : ET} {d : Nat} (hd : 8 ≤ d) {F : Nat} {r : Int64} {h9 : PH} {x : Nat} {k47 : Nat → Int32 → PH → Option (Int64 × PH)} (hk47 : ∀ (a0 : Nat) (i1 : Int32) (hh : PH), k47 a0 i1 hh = some (r, h9) → Go l E m_Mo_digest (rm d 0 0) (KM E 0 0 (PoE (some (.long r)) h9 x)) 0 0 hh x 47 [(0, .ref a0), (1, .int i1)] []) (a0 : Nat) (i1 : Int32) (h : PH) (hf : b_Mo_digest_47 F k47 a0 i1 h = some (r, h9)) : Go l E m_Mo_digest (rm d 0 0) (KM E 0 0 (PoE (some (.long r)) h9 x)) 0 0 h x 47 [(0, .ref a0), (1, .int i1)] [] := by
  unfold b_Mo_digest_47 at hf
  refine go_iload_n 1 d_Mo_digest_47 rfl ?_
  refine go_bipush (36 : Int32) d_Mo_digest_48 (by decide) ?_
  refine go_icmp_ge 92 d_Mo_digest_50 (by decide) (fun q13 => ?_) (fun q13 => ?_)
  · rw [if_pos q13] at hf
    refine go_iconst (0 : Int32) d_Mo_digest_92 (by decide) ?_
    refine go_istore_n (lv' := [(1, .int (0 : Int32)), (0, .ref a0)]) d_Mo_digest_93 rfl (by decide) ?_
    refine go_sub (lv' := [(0, .ref a0), (1, .int (0 : Int32))]) [1, 0] rfl ?_
    exact t_Mo_digest_94 hd  _ a0 (0 : Int32) h hf
  · rw [if_neg q13] at hf
    refine go_aload_n 0 d_Mo_digest_53 rfl ?_
    refine go_aload_n 0 d_Mo_digest_54 rfl ?_
    obtain ⟨x1, e_x1, hf⟩ := bnd_x hf
    refine go_get d_Mo_digest_55 (gR_x e_x1) fl_Mo_7 ?_
    refine go_iload_n 1 d_Mo_digest_58 rfl ?_
    obtain ⟨x2, e_x2, hf⟩ := bnd_x hf
    refine go_iaload d_Mo_digest_59 e_x2 ?_
    refine go_i2l d_Mo_digest_60 ?_
    obtain ⟨_, e3, hf⟩ := bnd_x hf
    obtain ⟨h4, e_x4, hf⟩ := bnd_x hf
    refine go_callV_N (As := [.long (x2.toInt64)]) (st := []) (c_Mo_mix (d := d - 1) (by omega) e_x4) lk_Mo_305 rfl rfl e3 (by decide) rfl (rm_ok (by omega)) (Nat.le_of_ble_eq_true rfl) rm_c d_Mo_digest_61 ?_
    refine go_aload_n 0 d_Mo_digest_64 rfl ?_
    refine go_aload_n 0 d_Mo_digest_65 rfl ?_
    refine go_iload_n 1 d_Mo_digest_66 rfl ?_
    refine go_iconst (0 : Int32) d_Mo_digest_67 (by decide) ?_
    obtain ⟨_, e5, hf⟩ := bnd_x hf
    obtain ⟨x6, e_x6, hf⟩ := bnd_x hf
    refine go_callV_I (As := [.int i1, .int (0 : Int32)]) (st := [.ref a0]) (c_Mo_valueOf (d := d - 1) (by omega) e_x6) lk_Mo_255 rfl rfl e5 (by decide) rfl (rm_ok (by omega)) (Nat.le_of_ble_eq_true rfl) rm_c d_Mo_digest_68 ?_
    refine go_i2l d_Mo_digest_71 ?_
    obtain ⟨_, e7, hf⟩ := bnd_x hf
    obtain ⟨h8, e_x8, hf⟩ := bnd_x hf
    refine go_callV_N (As := [.long (x6.toInt64)]) (st := []) (c_Mo_mix (d := d - 1) (by omega) e_x8) lk_Mo_305 rfl rfl e7 (by decide) rfl (rm_ok (by omega)) (Nat.le_of_ble_eq_true rfl) rm_c d_Mo_digest_72 ?_
    refine go_aload_n 0 d_Mo_digest_75 rfl ?_
    refine go_aload_n 0 d_Mo_digest_76 rfl ?_
    refine go_iload_n 1 d_Mo_digest_77 rfl ?_
    refine go_iconst (1 : Int32) d_Mo_digest_78 (by decide) ?_
    obtain ⟨_, e9, hf⟩ := bnd_x hf
    obtain ⟨x10, e_x10, hf⟩ := bnd_x hf
    refine go_callV_I (As := [.int i1, .int (1 : Int32)]) (st := [.ref a0]) (c_Mo_valueOf (d := d - 1) (by omega) e_x10) lk_Mo_255 rfl rfl e9 (by decide) rfl (rm_ok (by omega)) (Nat.le_of_ble_eq_true rfl) rm_c d_Mo_digest_79 ?_
    refine go_i2l d_Mo_digest_82 ?_
    obtain ⟨_, e11, hf⟩ := bnd_x hf
    obtain ⟨h12, e_x12, hf⟩ := bnd_x hf
    refine go_callV_N (As := [.long (x10.toInt64)]) (st := []) (c_Mo_mix (d := d - 1) (by omega) e_x12) lk_Mo_305 rfl rfl e11 (by decide) rfl (rm_ok (by omega)) (Nat.le_of_ble_eq_true rfl) rm_c d_Mo_digest_83 ?_
    refine go_iinc (lv' := [(1, .int (i1 + (1 : Int32))), (0, .ref a0)]) 1 (i1 + (1 : Int32)) d_Mo_digest_86 rfl rfl rfl (by decide) ?_
    refine go_goto 47 d_Mo_digest_89 (by decide) ?_
    refine go_sub (lv' := [(0, .ref a0), (1, .int (i1 + (1 : Int32)))]) [1, 0] rfl ?_
    exact hk47 a0 (i1 + (1 : Int32)) h12 hf
theorem t_Mo_digest_47 {l : Launch} {E : ET} {d : Nat} (hd : 8 ≤ d) {F : Nat} {r : Int64} {h9 : PH} {x : Nat}  : ∀ (n : Nat) (a0 : Nat) (i1 : Int32) (hh : PH), f_Mo_digest_47 F n a0 i1 hh = some (r, h9) → Go l E m_Mo_digest (rm d 0 0) (KM E 0 0 (PoE (some (.long r)) h9 x)) 0 0 hh x 47 [(0, .ref a0), (1, .int i1)] [] := by
  intro n
  induction n with
  | zero => intro v0 v1 v2 hf; cases hf
  | succ n ih => intro v0 v1 v2 hf; exact g_Mo_digest_47 hd ih v0 v1 v2 hf
def b_Mo_digest_23 (F : Nat) (k23 : Nat → Int32 → PH → Option (Int64 × PH)) (a0 : Nat) (i1 : Int32) (h : PH) : Option (Int64 × PH) :=
  (if (6 : Int32) ≤ i1 then f_Mo_digest_47 F F a0 (0 : Int32) h else bnd (cK h a0 10) fun _ => bnd (f_Mo_countOf F a0 i1 h) fun x2 => bnd (cK h a0 10) fun _ => bnd (f_Mo_mix a0 (x2.toInt64) h) fun h4 => k23 a0 (i1 + (1 : Int32)) h4)
def f_Mo_digest_23 (F : Nat) : Nat → Nat → Int32 → PH → Option (Int64 × PH)
  | 0 => fun _ _ _ => none
  | n + 1 => b_Mo_digest_23 F (f_Mo_digest_23 F n)
theorem g_Mo_digest_23 {l : Launch} {E : ET} {d : Nat} (hd : 8 ≤ d) {F : Nat} {r : Int64} {h9 : PH} {x : Nat} {k23 : Nat → Int32 → PH → Option (Int64 × PH)} (hk23 : ∀ (a0 : Nat) (i1 : Int32) (hh : PH), k23 a0 i1 hh = some (r, h9) → Go l E m_Mo_digest (rm d 0 0) (KM E 0 0 (PoE (some (.long r)) h9 x)) 0 0 hh x 23 [(0, .ref a0), (1, .int i1)] []) (a0 : Nat) (i1 : Int32) (h : PH) (hf : b_Mo_digest_23 F k23 a0 i1 h = some (r, h9)) : Go l E m_Mo_digest (rm d 0 0) (KM E 0 0 (PoE (some (.long r)) h9 x)) 0 0 h x 23 [(0, .ref a0), (1, .int i1)] [] := by
  unfold b_Mo_digest_23 at hf
  refine go_iload_n 1 d_Mo_digest_23 rfl ?_
  refine go_bipush (6 : Int32) d_Mo_digest_24 (by decide) ?_
  refine go_icmp_ge 45 d_Mo_digest_26 (by decide) (fun q5 => ?_) (fun q5 => ?_)
  · rw [if_pos q5] at hf
    refine go_iconst (0 : Int32) d_Mo_digest_45 (by decide) ?_
    refine go_istore_n (lv' := [(1, .int (0 : Int32)), (0, .ref a0)]) d_Mo_digest_46 rfl (by decide) ?_
    refine go_sub (lv' := [(0, .ref a0), (1, .int (0 : Int32))]) [1, 0] rfl ?_
    exact t_Mo_digest_47 hd  _ a0 (0 : Int32) h hf
  · rw [if_neg q5] at hf
    refine go_aload_n 0 d_Mo_digest_29 rfl ?_
    refine go_aload_n 0 d_Mo_digest_30 rfl ?_
    refine go_iload_n 1 d_Mo_digest_31 rfl ?_
    obtain ⟨_, e1, hf⟩ := bnd_x hf
    obtain ⟨x2, e_x2, hf⟩ := bnd_x hf
    refine go_callV_I (As := [.int i1]) (st := [.ref a0]) (c_Mo_countOf (d := d - 1) (by omega) e_x2) lk_Mo_252 rfl rfl e1 (by decide) rfl (rm_ok (by omega)) (Nat.le_of_ble_eq_true rfl) rm_c d_Mo_digest_32 ?_
    refine go_i2l d_Mo_digest_35 ?_
    obtain ⟨_, e3, hf⟩ := bnd_x hf
    obtain ⟨h4, e_x4, hf⟩ := bnd_x hf
    refine go_callV_N (As := [.long (x2.toInt64)]) (st := []) (c_Mo_mix (d := d - 1) (by omega) e_x4) lk_Mo_305 rfl rfl e3 (by decide) rfl (rm_ok (by omega)) (Nat.le_of_ble_eq_true rfl) rm_c d_Mo_digest_36 ?_
    refine go_iinc (lv' := [(1, .int (i1 + (1 : Int32))), (0, .ref a0)]) 1 (i1 + (1 : Int32)) d_Mo_digest_39 rfl rfl rfl (by decide) ?_
    refine go_goto 23 d_Mo_digest_42 (by decide) ?_
    refine go_sub (lv' := [(0, .ref a0), (1, .int (i1 + (1 : Int32)))]) [1, 0] rfl ?_
    exact hk23 a0 (i1 + (1 : Int32)) h4 hf
theorem t_Mo_digest_23 {l : Launch} {E : ET} {d : Nat} (hd : 8 ≤ d) {F : Nat} {r : Int64} {h9 : PH} {x : Nat}  : ∀ (n : Nat) (a0 : Nat) (i1 : Int32) (hh : PH), f_Mo_digest_23 F n a0 i1 hh = some (r, h9) → Go l E m_Mo_digest (rm d 0 0) (KM E 0 0 (PoE (some (.long r)) h9 x)) 0 0 hh x 23 [(0, .ref a0), (1, .int i1)] [] := by
  intro n
  induction n with
  | zero => intro v0 v1 v2 hf; cases hf
  | succ n ih => intro v0 v1 v2 hf; exact g_Mo_digest_23 hd ih v0 v1 v2 hf
def f_Mo_digest (F : Nat) (a0 : Nat) (h : PH) : Option (Int64 × PH) :=
  bnd (pV h a0 10 5 (.int (0 : Int32))) fun h1 => bnd (pV h1 a0 10 27 (.long (3041 : Int64))) fun h2 => bnd (gI h2 a0 10 4) fun x3 => bnd (cK h2 a0 10) fun _ => bnd (f_Mo_mix a0 (x3.toInt64) h2) fun h5 => f_Mo_digest_23 F F a0 (0 : Int32) h5
theorem g_Mo_digest_0 {l : Launch} {E : ET} {d : Nat} (hd : 8 ≤ d) {F : Nat} {r : Int64} {h9 : PH} {x : Nat}  (a0 : Nat) (h : PH) (hf : f_Mo_digest F a0 h = some (r, h9)) : Go l E m_Mo_digest (rm d 0 0) (KM E 0 0 (PoE (some (.long r)) h9 x)) 0 0 h x 0 [(0, .ref a0)] [] := by
  unfold f_Mo_digest at hf
  refine go_aload_n 0 d_Mo_digest_0 rfl ?_
  refine go_iconst (0 : Int32) d_Mo_digest_1 (by decide) ?_
  obtain ⟨h1, e_h1, hf⟩ := bnd_x hf
  refine go_putI d_Mo_digest_2 e_h1 fl_Mo_52 rfl rfl ?_
  refine go_aload_n 0 d_Mo_digest_5 rfl ?_
  refine go_ldc2 (3041 : Int64) d_Mo_digest_6 kl_Mo_303 ?_
  obtain ⟨h2, e_h2, hf⟩ := bnd_x hf
  refine go_putL d_Mo_digest_9 e_h2 fl_Mo_300 rfl rfl ?_
  refine go_aload_n 0 d_Mo_digest_12 rfl ?_
  refine go_aload_n 0 d_Mo_digest_13 rfl ?_
  obtain ⟨x3, e_x3, hf⟩ := bnd_x hf
  refine go_get d_Mo_digest_14 (gI_x e_x3) fl_Mo_268 ?_
  refine go_i2l d_Mo_digest_17 ?_
  obtain ⟨_, e4, hf⟩ := bnd_x hf
  obtain ⟨h5, e_x5, hf⟩ := bnd_x hf
  refine go_callV_N (As := [.long (x3.toInt64)]) (st := []) (c_Mo_mix (d := d - 1) (by omega) e_x5) lk_Mo_305 rfl rfl e4 (by decide) rfl (rm_ok (by omega)) (Nat.le_of_ble_eq_true rfl) rm_c d_Mo_digest_18 ?_
  refine go_iconst (0 : Int32) d_Mo_digest_21 (by decide) ?_
  refine go_istore_n (lv' := [(1, .int (0 : Int32)), (0, .ref a0)]) d_Mo_digest_22 rfl (by decide) ?_
  refine go_sub (lv' := [(0, .ref a0), (1, .int (0 : Int32))]) [1, 0] rfl ?_
  exact t_Mo_digest_23 hd  _ a0 (0 : Int32) h5 hf
theorem c_Mo_digest {l : Launch} {E : ET} {d : Nat} (hd : 8 ≤ d) {F : Nat} {r : Int64} {h9 : PH} {x : Nat} {a0 : Nat} {h : PH} (hf : f_Mo_digest F a0 h = some (r, h9)) : Fn l E m_Mo_digest d 0 0 [.ref a0] h x (PoE (some (.long r)) h9 x) :=
  Fn.of (by decide +kernel) (Nat.le_of_ble_eq_true rfl) (g_Mo_digest_0 hd a0 h hf)
