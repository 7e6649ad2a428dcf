/-! 17.nx2: methods that throw, by program. -/
theorem d_Np_count_0 : decode prog_1_method_11_code 0 = .ok (.iload_n 1, 1) := by decide +kernel
theorem d_Np_count_1 : decode prog_1_method_11_code 1 = .ok (.iconst 5, 1) := by decide +kernel
theorem d_Np_count_2 : decode prog_1_method_11_code 2 = .ok (.invokestatic 199, 3) := by decide +kernel
theorem d_Np_count_5 : decode prog_1_method_11_code 5 = .ok (.iload_n 1, 1) := by decide +kernel
theorem d_Np_count_6 : decode prog_1_method_11_code 6 = .ok (.tableswitch 97 0 4 #[34, 45, 53, 67, 78], 34) := by decide +kernel
theorem d_Np_count_40 : decode prog_1_method_11_code 40 = .ok (.aload_n 0, 1) := by decide +kernel
theorem d_Np_count_41 : decode prog_1_method_11_code 41 = .ok (.getfield 10, 3) := by decide +kernel
theorem d_Np_count_44 : decode prog_1_method_11_code 44 = .ok (.getfield 129, 3) := by decide +kernel
theorem d_Np_count_47 : decode prog_1_method_11_code 47 = .ok (.getfield 133, 3) := by decide +kernel
theorem d_Np_count_50 : decode prog_1_method_11_code 50 = .ok (.ireturn, 1) := by decide +kernel
theorem d_Np_count_51 : decode prog_1_method_11_code 51 = .ok (.aload_n 0, 1) := by decide +kernel
theorem d_Np_count_52 : decode prog_1_method_11_code 52 = .ok (.getfield 10, 3) := by decide +kernel
theorem d_Np_count_55 : decode prog_1_method_11_code 55 = .ok (.invokevirtual 176, 3) := by decide +kernel
theorem d_Np_count_58 : decode prog_1_method_11_code 58 = .ok (.ireturn, 1) := by decide +kernel
theorem d_Np_count_59 : decode prog_1_method_11_code 59 = .ok (.aload_n 0, 1) := by decide +kernel
theorem d_Np_count_60 : decode prog_1_method_11_code 60 = .ok (.getfield 10, 3) := by decide +kernel
theorem d_Np_count_63 : decode prog_1_method_11_code 63 = .ok (.getfield 68, 3) := by decide +kernel
theorem d_Np_count_66 : decode prog_1_method_11_code 66 = .ok (.getfield 71, 3) := by decide +kernel
theorem d_Np_count_69 : decode prog_1_method_11_code 69 = .ok (.invokestatic 75, 3) := by decide +kernel
theorem d_Np_count_72 : decode prog_1_method_11_code 72 = .ok (.ireturn, 1) := by decide +kernel
theorem d_Np_count_73 : decode prog_1_method_11_code 73 = .ok (.aload_n 0, 1) := by decide +kernel
theorem d_Np_count_74 : decode prog_1_method_11_code 74 = .ok (.getfield 10, 3) := by decide +kernel
theorem d_Np_count_77 : decode prog_1_method_11_code 77 = .ok (.getfield 68, 3) := by decide +kernel
theorem d_Np_count_80 : decode prog_1_method_11_code 80 = .ok (.invokevirtual 216, 3) := by decide +kernel
theorem d_Np_count_83 : decode prog_1_method_11_code 83 = .ok (.ireturn, 1) := by decide +kernel
theorem d_Np_count_84 : decode prog_1_method_11_code 84 = .ok (.aload_n 0, 1) := by decide +kernel
theorem d_Np_count_85 : decode prog_1_method_11_code 85 = .ok (.getfield 10, 3) := by decide +kernel
theorem d_Np_count_88 : decode prog_1_method_11_code 88 = .ok (.getfield 68, 3) := by decide +kernel
theorem d_Np_count_91 : decode prog_1_method_11_code 91 = .ok (.invokevirtual 219, 3) := by decide +kernel
theorem d_Np_count_94 : decode prog_1_method_11_code 94 = .ok (.ifCond .eq 7, 3) := by decide +kernel
theorem d_Np_count_97 : decode prog_1_method_11_code 97 = .ok (.iconst 1, 1) := by decide +kernel
theorem d_Np_count_98 : decode prog_1_method_11_code 98 = .ok (.goto 4, 3) := by decide +kernel
theorem d_Np_count_101 : decode prog_1_method_11_code 101 = .ok (.iconst 0, 1) := by decide +kernel
theorem d_Np_count_102 : decode prog_1_method_11_code 102 = .ok (.ireturn, 1) := by decide +kernel
theorem d_Np_count_103 : decode prog_1_method_11_code 103 = .ok (.aload_n 0, 1) := by decide +kernel
theorem d_Np_count_104 : decode prog_1_method_11_code 104 = .ok (.getfield 10, 3) := by decide +kernel
theorem d_Np_count_107 : decode prog_1_method_11_code 107 = .ok (.getfield 68, 3) := by decide +kernel
theorem d_Np_count_110 : decode prog_1_method_11_code 110 = .ok (.invokevirtual 223, 3) := by decide +kernel
theorem d_Np_count_113 : decode prog_1_method_11_code 113 = .ok (.ifCond .eq 7, 3) := by decide +kernel
theorem d_Np_count_116 : decode prog_1_method_11_code 116 = .ok (.iconst 1, 1) := by decide +kernel
theorem d_Np_count_117 : decode prog_1_method_11_code 117 = .ok (.goto 4, 3) := by decide +kernel
theorem d_Np_count_120 : decode prog_1_method_11_code 120 = .ok (.iconst 0, 1) := by decide +kernel
theorem d_Np_count_121 : decode prog_1_method_11_code 121 = .ok (.ireturn, 1) := by decide +kernel
def f_Np_count (F : Nat) (a0 : Nat) (i1 : Int32) (h : PH) : Option ((Nat ⊕ Int32) × PH) :=
  bndT (f_Np_checkWhat i1 (5 : Int32) h) fun x1 h2 => (if i1 = (0 : Int32) then bnd (gR h2 a0 9 0) fun x4 => bnd (gR h2 x4 8 1) fun x5 => bnd (gI h2 x5 4 6) fun x6 => some (.inr x6, h2) else (if i1 = (1 : Int32) then bnd (gR h2 a0 9 0) fun x8 => bnd (cK h2 x8 8) fun _ => bnd (f_Sta_givenCount F x8 h2) fun x10 => some (.inr x10, h2) else (if i1 = (2 : Int32) then bnd (gR h2 a0 9 0) fun x12 => bnd (gR h2 x12 8 0) fun x13 => bnd (gL h2 x13 1 1) fun x14 => bnd (f_Lng_bitCount x14) fun x15 => some (.inr x15, h2) else (if i1 = (3 : Int32) then bnd (gR h2 a0 9 0) fun x17 => bnd (gR h2 x17 8 0) fun x18 => bnd (cK h2 x18 1) fun _ => bnd (f_Pos_candidateCount F x18 h2) fun x20 => some (.inr x20, h2) else (if i1 = (4 : Int32) then bnd (gR h2 a0 9 0) fun x22 => bnd (gR h2 x22 8 0) fun x23 => bnd (cK h2 x23 1) fun _ => bnd (f_Pos_isDead x23 h2) fun x25 => (if x25 = (0 : Int32) then some (.inr (0 : Int32), h2) else some (.inr (1 : Int32), h2)) else bnd (gR h2 a0 9 0) fun x27 => bnd (gR h2 x27 8 0) fun x28 => bnd (cK h2 x28 1) fun _ => bnd (f_Pos_isFinished x28 h2) fun x30 => (if x30 = (0 : Int32) then some (.inr (0 : Int32), h2) else some (.inr (1 : Int32), h2)))))))
theorem g_Np_count_0 {l : Launch} {E : ET} {d : Nat} (hd : 7 ≤ d) {F : Nat} {r : Int32} {h9 : PH} {x : Nat}  (a0 : Nat) (i1 : Int32) (h : PH) (hf : f_Np_count F a0 i1 h = some (.inr r, h9)) : Go l E m_Np_count (rm d 0 0) (KM E 0 0 (PoE (some (.int r)) h9 x)) 0 0 h x 0 [(0, .ref a0), (1, .int i1)] [] := by
  unfold f_Np_count at hf
  refine go_iload_n 1 d_Np_count_0 rfl ?_
  refine go_iconst (5 : Int32) d_Np_count_1 (by decide) ?_
  obtain ⟨x1, h2, e_x1, hf⟩ := bndT_r hf
  refine go_callS_N (As := [.int i1, .int (5 : Int32)]) (st := []) (c_Np_checkWhat (d := d - 1) (by omega) e_x1) lk_Np_199 rfl rfl (rm_ok (by omega)) (Nat.le_of_ble_eq_true rfl) rm_c d_Np_count_2 ?_
  refine go_iload_n 1 d_Np_count_5 rfl ?_
  by_cases q3 : i1 = (0 : Int32)
  · rw [if_pos q3] at hf
    refine go_tableIn 40 d_Np_count_6 (by rw [q3]; decide) (by rw [q3]; decide) (by rw [q3]; rfl) (by decide) ?_
    refine go_aload_n 0 d_Np_count_40 rfl ?_
    obtain ⟨x4, e_x4, hf⟩ := bnd_x hf
    refine go_get d_Np_count_41 (gR_x e_x4) fl_Np_10 ?_
    obtain ⟨x5, e_x5, hf⟩ := bnd_x hf
    refine go_get d_Np_count_44 (gR_x e_x5) fl_Np_129 ?_
    obtain ⟨x6, e_x6, hf⟩ := bnd_x hf
    refine go_get d_Np_count_47 (gI_x e_x6) fl_Np_133 ?_
    obtain ⟨e8, e9⟩ := Prod.mk.inj (Option.some.inj hf)
    have e7 := Sum.inr.inj e8; subst e7; subst e9
    exact go_iret d_Np_count_50 rfl ⟨rfl, rfl, rfl⟩
  · rw [if_neg q3] at hf
    by_cases q7 : i1 = (1 : Int32)
    · rw [if_pos q7] at hf
      refine go_tableIn 51 d_Np_count_6 (by rw [q7]; decide) (by rw [q7]; decide) (by rw [q7]; rfl) (by decide) ?_
      refine go_aload_n 0 d_Np_count_51 rfl ?_
      obtain ⟨x8, e_x8, hf⟩ := bnd_x hf
      refine go_get d_Np_count_52 (gR_x e_x8) fl_Np_10 ?_
      obtain ⟨_, e9, hf⟩ := bnd_x hf
      obtain ⟨x10, e_x10, hf⟩ := bnd_x hf
      refine go_callV_I (As := []) (st := []) (c_Sta_givenCount (d := d - 1) (by omega) e_x10) lk_Np_176 rfl rfl e9 (by decide) rfl (rm_ok (by omega)) (Nat.le_of_ble_eq_true rfl) rm_c d_Np_count_55 ?_
      obtain ⟨e8, e9⟩ := Prod.mk.inj (Option.some.inj hf)
      have e7 := Sum.inr.inj e8; subst e7; subst e9
      exact go_iret d_Np_count_58 rfl ⟨rfl, rfl, rfl⟩
    · rw [if_neg q7] at hf
      by_cases q11 : i1 = (2 : Int32)
      · rw [if_pos q11] at hf
        refine go_tableIn 59 d_Np_count_6 (by rw [q11]; decide) (by rw [q11]; decide) (by rw [q11]; rfl) (by decide) ?_
        refine go_aload_n 0 d_Np_count_59 rfl ?_
        obtain ⟨x12, e_x12, hf⟩ := bnd_x hf
        refine go_get d_Np_count_60 (gR_x e_x12) fl_Np_10 ?_
        obtain ⟨x13, e_x13, hf⟩ := bnd_x hf
        refine go_get d_Np_count_63 (gR_x e_x13) fl_Np_68 ?_
        obtain ⟨x14, e_x14, hf⟩ := bnd_x hf
        refine go_get d_Np_count_66 (gL_x e_x14) fl_Np_71 ?_
        obtain ⟨x15, e_x15, hf⟩ := bnd_x hf
        refine go_callS_I (As := [.long x14]) (st := []) (c_Lng_bitCount (d := d - 1) (by omega) e_x15) lk_Np_75 rfl rfl (rm_ok (by omega)) (Nat.le_of_ble_eq_true rfl) rm_c d_Np_count_69 ?_
        obtain ⟨e8, e9⟩ := Prod.mk.inj (Option.some.inj hf)
        have e7 := Sum.inr.inj e8; subst e7; subst e9
        exact go_iret d_Np_count_72 rfl ⟨rfl, rfl, rfl⟩
      · rw [if_neg q11] at hf
        by_cases q16 : i1 = (3 : Int32)
        · rw [if_pos q16] at hf
          refine go_tableIn 73 d_Np_count_6 (by rw [q16]; decide) (by rw [q16]; decide) (by rw [q16]; rfl) (by decide) ?_
          refine go_aload_n 0 d_Np_count_73 rfl ?_
          obtain ⟨x17, e_x17, hf⟩ := bnd_x hf
          refine go_get d_Np_count_74 (gR_x e_x17) fl_Np_10 ?_
          obtain ⟨x18, e_x18, hf⟩ := bnd_x hf
          refine go_get d_Np_count_77 (gR_x e_x18) fl_Np_68 ?_
          obtain ⟨_, e19, hf⟩ := bnd_x hf
          obtain ⟨x20, e_x20, hf⟩ := bnd_x hf
          refine go_callV_I (As := []) (st := []) (c_Pos_candidateCount (d := d - 1) (by omega) e_x20) lk_Np_216 rfl rfl e19 (by decide) rfl (rm_ok (by omega)) (Nat.le_of_ble_eq_true rfl) rm_c d_Np_count_80 ?_
          obtain ⟨e8, e9⟩ := Prod.mk.inj (Option.some.inj hf)
          have e7 := Sum.inr.inj e8; subst e7; subst e9
          exact go_iret d_Np_count_83 rfl ⟨rfl, rfl, rfl⟩
        · rw [if_neg q16] at hf
          by_cases q21 : i1 = (4 : Int32)
          · rw [if_pos q21] at hf
            refine go_tableIn 84 d_Np_count_6 (by rw [q21]; decide) (by rw [q21]; decide) (by rw [q21]; rfl) (by decide) ?_
            refine go_aload_n 0 d_Np_count_84 rfl ?_
            obtain ⟨x22, e_x22, hf⟩ := bnd_x hf
            refine go_get d_Np_count_85 (gR_x e_x22) fl_Np_10 ?_
            obtain ⟨x23, e_x23, hf⟩ := bnd_x hf
            refine go_get d_Np_count_88 (gR_x e_x23) fl_Np_68 ?_
            obtain ⟨_, e24, hf⟩ := bnd_x hf
            obtain ⟨x25, e_x25, hf⟩ := bnd_x hf
            refine go_callV_I (As := []) (st := []) (c_Pos_isDead (d := d - 1) (by omega) e_x25) lk_Np_219 rfl rfl e24 (by decide) rfl (rm_ok (by omega)) (Nat.le_of_ble_eq_true rfl) rm_c d_Np_count_91 ?_
            refine go_if_eq 101 d_Np_count_94 (by decide) (fun q26 => ?_) (fun q26 => ?_)
            · rw [if_pos q26] at hf
              refine go_iconst (0 : Int32) d_Np_count_101 (by decide) ?_
              obtain ⟨e8, e9⟩ := Prod.mk.inj (Option.some.inj hf)
              have e7 := Sum.inr.inj e8; subst e7; subst e9
              exact go_iret d_Np_count_102 rfl ⟨rfl, rfl, rfl⟩
            · rw [if_neg q26] at hf
              refine go_iconst (1 : Int32) d_Np_count_97 (by decide) ?_
              refine go_goto 102 d_Np_count_98 (by decide) ?_
              obtain ⟨e8, e9⟩ := Prod.mk.inj (Option.some.inj hf)
              have e7 := Sum.inr.inj e8; subst e7; subst e9
              exact go_iret d_Np_count_102 rfl ⟨rfl, rfl, rfl⟩
          · rw [if_neg q21] at hf
            refine go_tableOut 103 d_Np_count_6 (by have g0 := ne_ti (0) (0 : Int32) (by decide) q3; have g1 := ne_ti (1) (1 : Int32) (by decide) q7; have g2 := ne_ti (2) (2 : Int32) (by decide) q11; have g3 := ne_ti (3) (3 : Int32) (by decide) q16; have g4 := ne_ti (4) (4 : Int32) (by decide) q21; omega) (by decide) ?_
            refine go_aload_n 0 d_Np_count_103 rfl ?_
            obtain ⟨x27, e_x27, hf⟩ := bnd_x hf
            refine go_get d_Np_count_104 (gR_x e_x27) fl_Np_10 ?_
            obtain ⟨x28, e_x28, hf⟩ := bnd_x hf
            refine go_get d_Np_count_107 (gR_x e_x28) fl_Np_68 ?_
            obtain ⟨_, e29, hf⟩ := bnd_x hf
            obtain ⟨x30, e_x30, hf⟩ := bnd_x hf
            refine go_callV_I (As := []) (st := []) (c_Pos_isFinished (d := d - 1) (by omega) e_x30) lk_Np_223 rfl rfl e29 (by decide) rfl (rm_ok (by omega)) (Nat.le_of_ble_eq_true rfl) rm_c d_Np_count_110 ?_
            refine go_if_eq 120 d_Np_count_113 (by decide) (fun q31 => ?_) (fun q31 => ?_)
            · rw [if_pos q31] at hf
              refine go_iconst (0 : Int32) d_Np_count_120 (by decide) ?_
              obtain ⟨e8, e9⟩ := Prod.mk.inj (Option.some.inj hf)
              have e7 := Sum.inr.inj e8; subst e7; subst e9
              exact go_iret d_Np_count_121 rfl ⟨rfl, rfl, rfl⟩
            · rw [if_neg q31] at hf
              refine go_iconst (1 : Int32) d_Np_count_116 (by decide) ?_
              refine go_goto 121 d_Np_count_117 (by decide) ?_
              obtain ⟨e8, e9⟩ := Prod.mk.inj (Option.some.inj hf)
              have e7 := Sum.inr.inj e8; subst e7; subst e9
              exact go_iret d_Np_count_121 rfl ⟨rfl, rfl, rfl⟩
theorem c_Np_count {l : Launch} {E : ET} {d : Nat} (hd : 7 ≤ d) {F : Nat} {r : Int32} {h9 : PH} {x : Nat} {a0 : Nat} {i1 : Int32} {h : PH} (hf : f_Np_count F a0 i1 h = some (.inr r, h9)) : Fn l E m_Np_count d 0 0 [.ref a0, .int i1] h x (PoE (some (.int r)) h9 x) :=
  Fn.of (by decide +kernel) (Nat.le_of_ble_eq_true rfl) (g_Np_count_0 hd a0 i1 h hf)
theorem gx_Np_count_0 {l : Launch} {E : ET} (hl : l.stackTraces = false) {d : Nat} (hd : 7 ≤ d) {F : Nat} {j : Nat} {h9 : PH} {x : Nat}  (a0 : Nat) (i1 : Int32) (h : PH) (hf : f_Np_count F a0 i1 h = some (.inl j, h9)) : Go l E m_Np_count (rm d 1 6) (KX l E 1 6 (PXk j h9)) 0 0 h x 0 [(0, .ref a0), (1, .int i1)] [] := by
  unfold f_Np_count at hf
  refine go_iload_n 1 d_Np_count_0 rfl ?_
  refine go_iconst (5 : Int32) d_Np_count_1 (by decide) ?_
  rcases bndT_l hf with e_x1 | ⟨x1, h2, e_x1, hf⟩
  · exact go_tcallS (As := [.int i1, .int (5 : Int32)]) (st := []) (x_Np_checkWhat hl (d := d - 1) (by omega) e_x1) lk_Np_199 rfl rfl (rm_ok1 (by omega)) (Nat.le_of_ble_eq_true rfl) d_Np_count_2
  refine go_callS_N (As := [.int i1, .int (5 : Int32)]) (st := []) (c_Np_checkWhat (d := d - 1) (by omega) e_x1) lk_Np_199 rfl rfl (rm_ok1 (by omega)) (Nat.le_of_ble_eq_true rfl) rm_c1 d_Np_count_2 ?_
  refine go_iload_n 1 d_Np_count_5 rfl ?_
  by_cases q3 : i1 = (0 : Int32)
  · rw [if_pos q3] at hf
    refine go_tableIn 40 d_Np_count_6 (by rw [q3]; decide) (by rw [q3]; decide) (by rw [q3]; rfl) (by decide) ?_
    refine go_aload_n 0 d_Np_count_40 rfl ?_
    obtain ⟨x4, e_x4, hf⟩ := bnd_x hf
    refine go_get d_Np_count_41 (gR_x e_x4) fl_Np_10 ?_
    obtain ⟨x5, e_x5, hf⟩ := bnd_x hf
    refine go_get d_Np_count_44 (gR_x e_x5) fl_Np_129 ?_
    obtain ⟨x6, e_x6, hf⟩ := bnd_x hf
    refine go_get d_Np_count_47 (gI_x e_x6) fl_Np_133 ?_
    cases (Prod.mk.inj (Option.some.inj hf)).1
  · rw [if_neg q3] at hf
    by_cases q7 : i1 = (1 : Int32)
    · rw [if_pos q7] at hf
      refine go_tableIn 51 d_Np_count_6 (by rw [q7]; decide) (by rw [q7]; decide) (by rw [q7]; rfl) (by decide) ?_
      refine go_aload_n 0 d_Np_count_51 rfl ?_
      obtain ⟨x8, e_x8, hf⟩ := bnd_x hf
      refine go_get d_Np_count_52 (gR_x e_x8) fl_Np_10 ?_
      obtain ⟨_, e9, hf⟩ := bnd_x hf
      obtain ⟨x10, e_x10, hf⟩ := bnd_x hf
      refine go_callV_I (As := []) (st := []) (c_Sta_givenCount (d := d - 1) (by omega) e_x10) lk_Np_176 rfl rfl e9 (by decide) rfl (rm_ok1 (by omega)) (Nat.le_of_ble_eq_true rfl) rm_c1 d_Np_count_55 ?_
      cases (Prod.mk.inj (Option.some.inj hf)).1
    · rw [if_neg q7] at hf
      by_cases q11 : i1 = (2 : Int32)
      · rw [if_pos q11] at hf
        refine go_tableIn 59 d_Np_count_6 (by rw [q11]; decide) (by rw [q11]; decide) (by rw [q11]; rfl) (by decide) ?_
        refine go_aload_n 0 d_Np_count_59 rfl ?_
        obtain ⟨x12, e_x12, hf⟩ := bnd_x hf
        refine go_get d_Np_count_60 (gR_x e_x12) fl_Np_10 ?_
        obtain ⟨x13, e_x13, hf⟩ := bnd_x hf
        refine go_get d_Np_count_63 (gR_x e_x13) fl_Np_68 ?_
        obtain ⟨x14, e_x14, hf⟩ := bnd_x hf
        refine go_get d_Np_count_66 (gL_x e_x14) fl_Np_71 ?_
        obtain ⟨x15, e_x15, hf⟩ := bnd_x hf
        refine go_callS_I (As := [.long x14]) (st := []) (c_Lng_bitCount (d := d - 1) (by omega) e_x15) lk_Np_75 rfl rfl (rm_ok1 (by omega)) (Nat.le_of_ble_eq_true rfl) rm_c1 d_Np_count_69 ?_
        cases (Prod.mk.inj (Option.some.inj hf)).1
      · rw [if_neg q11] at hf
        by_cases q16 : i1 = (3 : Int32)
        · rw [if_pos q16] at hf
          refine go_tableIn 73 d_Np_count_6 (by rw [q16]; decide) (by rw [q16]; decide) (by rw [q16]; rfl) (by decide) ?_
          refine go_aload_n 0 d_Np_count_73 rfl ?_
          obtain ⟨x17, e_x17, hf⟩ := bnd_x hf
          refine go_get d_Np_count_74 (gR_x e_x17) fl_Np_10 ?_
          obtain ⟨x18, e_x18, hf⟩ := bnd_x hf
          refine go_get d_Np_count_77 (gR_x e_x18) fl_Np_68 ?_
          obtain ⟨_, e19, hf⟩ := bnd_x hf
          obtain ⟨x20, e_x20, hf⟩ := bnd_x hf
          refine go_callV_I (As := []) (st := []) (c_Pos_candidateCount (d := d - 1) (by omega) e_x20) lk_Np_216 rfl rfl e19 (by decide) rfl (rm_ok1 (by omega)) (Nat.le_of_ble_eq_true rfl) rm_c1 d_Np_count_80 ?_
          cases (Prod.mk.inj (Option.some.inj hf)).1
        · rw [if_neg q16] at hf
          by_cases q21 : i1 = (4 : Int32)
          · rw [if_pos q21] at hf
            refine go_tableIn 84 d_Np_count_6 (by rw [q21]; decide) (by rw [q21]; decide) (by rw [q21]; rfl) (by decide) ?_
            refine go_aload_n 0 d_Np_count_84 rfl ?_
            obtain ⟨x22, e_x22, hf⟩ := bnd_x hf
            refine go_get d_Np_count_85 (gR_x e_x22) fl_Np_10 ?_
            obtain ⟨x23, e_x23, hf⟩ := bnd_x hf
            refine go_get d_Np_count_88 (gR_x e_x23) fl_Np_68 ?_
            obtain ⟨_, e24, hf⟩ := bnd_x hf
            obtain ⟨x25, e_x25, hf⟩ := bnd_x hf
            refine go_callV_I (As := []) (st := []) (c_Pos_isDead (d := d - 1) (by omega) e_x25) lk_Np_219 rfl rfl e24 (by decide) rfl (rm_ok1 (by omega)) (Nat.le_of_ble_eq_true rfl) rm_c1 d_Np_count_91 ?_
            refine go_if_eq 101 d_Np_count_94 (by decide) (fun q26 => ?_) (fun q26 => ?_)
            · rw [if_pos q26] at hf
              refine go_iconst (0 : Int32) d_Np_count_101 (by decide) ?_
              cases (Prod.mk.inj (Option.some.inj hf)).1
            · rw [if_neg q26] at hf
              refine go_iconst (1 : Int32) d_Np_count_97 (by decide) ?_
              refine go_goto 102 d_Np_count_98 (by decide) ?_
              cases (Prod.mk.inj (Option.some.inj hf)).1
          · rw [if_neg q21] at hf
            refine go_tableOut 103 d_Np_count_6 (by have g0 := ne_ti (0) (0 : Int32) (by decide) q3; have g1 := ne_ti (1) (1 : Int32) (by decide) q7; have g2 := ne_ti (2) (2 : Int32) (by decide) q11; have g3 := ne_ti (3) (3 : Int32) (by decide) q16; have g4 := ne_ti (4) (4 : Int32) (by decide) q21; omega) (by decide) ?_
            refine go_aload_n 0 d_Np_count_103 rfl ?_
            obtain ⟨x27, e_x27, hf⟩ := bnd_x hf
            refine go_get d_Np_count_104 (gR_x e_x27) fl_Np_10 ?_
            obtain ⟨x28, e_x28, hf⟩ := bnd_x hf
            refine go_get d_Np_count_107 (gR_x e_x28) fl_Np_68 ?_
            obtain ⟨_, e29, hf⟩ := bnd_x hf
            obtain ⟨x30, e_x30, hf⟩ := bnd_x hf
            refine go_callV_I (As := []) (st := []) (c_Pos_isFinished (d := d - 1) (by omega) e_x30) lk_Np_223 rfl rfl e29 (by decide) rfl (rm_ok1 (by omega)) (Nat.le_of_ble_eq_true rfl) rm_c1 d_Np_count_110 ?_
            refine go_if_eq 120 d_Np_count_113 (by decide) (fun q31 => ?_) (fun q31 => ?_)
            · rw [if_pos q31] at hf
              refine go_iconst (0 : Int32) d_Np_count_120 (by decide) ?_
              cases (Prod.mk.inj (Option.some.inj hf)).1
            · rw [if_neg q31] at hf
              refine go_iconst (1 : Int32) d_Np_count_116 (by decide) ?_
              refine go_goto 121 d_Np_count_117 (by decide) ?_
              cases (Prod.mk.inj (Option.some.inj hf)).1
theorem x_Np_count {l : Launch} {E : ET} (hl : l.stackTraces = false) {d : Nat} (hd : 7 ≤ d) {F : Nat} {j : Nat} {h9 : PH} {x : Nat} {a0 : Nat} {i1 : Int32} {h : PH} (hf : f_Np_count F a0 i1 h = some (.inl j, h9)) : FnT l E m_Np_count d [.ref a0, .int i1] h x (PXk j h9) :=
  FnT.of hl (by decide +kernel) (Nat.le_of_ble_eq_true rfl) (gx_Np_count_0 hl hd a0 i1 h hf)
theorem d_Np_candidates_0 : decode prog_1_method_12_code 0 = .ok (.iload_n 1, 1) := by decide +kernel
theorem d_Np_candidates_1 : decode prog_1_method_12_code 1 = .ok (.invokestatic 87, 3) := by decide +kernel
theorem d_Np_candidates_4 : decode prog_1_method_12_code 4 = .ok (.aload_n 0, 1) := by decide +kernel
theorem d_Np_candidates_5 : decode prog_1_method_12_code 5 = .ok (.getfield 10, 3) := by decide +kernel
theorem d_Np_candidates_8 : decode prog_1_method_12_code 8 = .ok (.getfield 68, 3) := by decide +kernel
theorem d_Np_candidates_11 : decode prog_1_method_12_code 11 = .ok (.iload_n 1, 1) := by decide +kernel
theorem d_Np_candidates_12 : decode prog_1_method_12_code 12 = .ok (.invokevirtual 94, 3) := by decide +kernel
theorem d_Np_candidates_15 : decode prog_1_method_12_code 15 = .ok (.ireturn, 1) := by decide +kernel
def f_Np_candidates (F : Nat) (a0 : Nat) (i1 : Int32) (h : PH) : Option ((Nat ⊕ Int32) × PH) :=
  bndT (f_Np_checkCell i1 h) fun x1 h2 => bnd (gR h2 a0 9 0) fun x3 => bnd (gR h2 x3 8 0) fun x4 => bnd (cK h2 x4 1) fun _ => bnd (f_Pos_digitsOf F x4 i1 h2) fun x6 => some (.inr x6, h2)
theorem g_Np_candidates_0 {l : Launch} {E : ET} {d : Nat} (hd : 7 ≤ d) {F : Nat} {r : Int32} {h9 : PH} {x : Nat}  (a0 : Nat) (i1 : Int32) (h : PH) (hf : f_Np_candidates F a0 i1 h = some (.inr r, h9)) : Go l E m_Np_candidates (rm d 0 0) (KM E 0 0 (PoE (some (.int r)) h9 x)) 0 0 h x 0 [(0, .ref a0), (1, .int i1)] [] := by
  unfold f_Np_candidates at hf
  refine go_iload_n 1 d_Np_candidates_0 rfl ?_
  obtain ⟨x1, h2, e_x1, hf⟩ := bndT_r hf
  refine go_callS_N (As := [.int i1]) (st := []) (c_Np_checkCell (d := d - 1) (by omega) e_x1) lk_Np_87 rfl rfl (rm_ok (by omega)) (Nat.le_of_ble_eq_true rfl) rm_c d_Np_candidates_1 ?_
  refine go_aload_n 0 d_Np_candidates_4 rfl ?_
  obtain ⟨x3, e_x3, hf⟩ := bnd_x hf
  refine go_get d_Np_candidates_5 (gR_x e_x3) fl_Np_10 ?_
  obtain ⟨x4, e_x4, hf⟩ := bnd_x hf
  refine go_get d_Np_candidates_8 (gR_x e_x4) fl_Np_68 ?_
  refine go_iload_n 1 d_Np_candidates_11 rfl ?_
  obtain ⟨_, e5, hf⟩ := bnd_x hf
  obtain ⟨x6, e_x6, hf⟩ := bnd_x hf
  refine go_callV_I (As := [.int i1]) (st := []) (c_Pos_digitsOf (d := d - 1) (by omega) e_x6) lk_Np_94 rfl rfl e5 (by decide) rfl (rm_ok (by omega)) (Nat.le_of_ble_eq_true rfl) rm_c d_Np_candidates_12 ?_
  obtain ⟨e8, e9⟩ := Prod.mk.inj (Option.some.inj hf)
  have e7 := Sum.inr.inj e8; subst e7; subst e9
  exact go_iret d_Np_candidates_15 rfl ⟨rfl, rfl, rfl⟩
theorem c_Np_candidates {l : Launch} {E : ET} {d : Nat} (hd : 7 ≤ d) {F : Nat} {r : Int32} {h9 : PH} {x : Nat} {a0 : Nat} {i1 : Int32} {h : PH} (hf : f_Np_candidates F a0 i1 h = some (.inr r, h9)) : Fn l E m_Np_candidates d 0 0 [.ref a0, .int i1] h x (PoE (some (.int r)) h9 x) :=
  Fn.of (by decide +kernel) (Nat.le_of_ble_eq_true rfl) (g_Np_candidates_0 hd a0 i1 h hf)
theorem gx_Np_candidates_0 {l : Launch} {E : ET} (hl : l.stackTraces = false) {d : Nat} (hd : 7 ≤ d) {F : Nat} {j : Nat} {h9 : PH} {x : Nat}  (a0 : Nat) (i1 : Int32) (h : PH) (hf : f_Np_candidates F a0 i1 h = some (.inl j, h9)) : Go l E m_Np_candidates (rm d 1 6) (KX l E 1 6 (PXk j h9)) 0 0 h x 0 [(0, .ref a0), (1, .int i1)] [] := by
  unfold f_Np_candidates at hf
  refine go_iload_n 1 d_Np_candidates_0 rfl ?_
  rcases bndT_l hf with e_x1 | ⟨x1, h2, e_x1, hf⟩
  · exact go_tcallS (As := [.int i1]) (st := []) (x_Np_checkCell hl (d := d - 1) (by omega) e_x1) lk_Np_87 rfl rfl (rm_ok1 (by omega)) (Nat.le_of_ble_eq_true rfl) d_Np_candidates_1
  refine go_callS_N (As := [.int i1]) (st := []) (c_Np_checkCell (d := d - 1) (by omega) e_x1) lk_Np_87 rfl rfl (rm_ok1 (by omega)) (Nat.le_of_ble_eq_true rfl) rm_c1 d_Np_candidates_1 ?_
  refine go_aload_n 0 d_Np_candidates_4 rfl ?_
  obtain ⟨x3, e_x3, hf⟩ := bnd_x hf
  refine go_get d_Np_candidates_5 (gR_x e_x3) fl_Np_10 ?_
  obtain ⟨x4, e_x4, hf⟩ := bnd_x hf
  refine go_get d_Np_candidates_8 (gR_x e_x4) fl_Np_68 ?_
  refine go_iload_n 1 d_Np_candidates_11 rfl ?_
  obtain ⟨_, e5, hf⟩ := bnd_x hf
  obtain ⟨x6, e_x6, hf⟩ := bnd_x hf
  refine go_callV_I (As := [.int i1]) (st := []) (c_Pos_digitsOf (d := d - 1) (by omega) e_x6) lk_Np_94 rfl rfl e5 (by decide) rfl (rm_ok1 (by omega)) (Nat.le_of_ble_eq_true rfl) rm_c1 d_Np_candidates_12 ?_
  cases (Prod.mk.inj (Option.some.inj hf)).1
theorem x_Np_candidates {l : Launch} {E : ET} (hl : l.stackTraces = false) {d : Nat} (hd : 7 ≤ d) {F : Nat} {j : Nat} {h9 : PH} {x : Nat} {a0 : Nat} {i1 : Int32} {h : PH} (hf : f_Np_candidates F a0 i1 h = some (.inl j, h9)) : FnT l E m_Np_candidates d [.ref a0, .int i1] h x (PXk j h9) :=
  FnT.of hl (by decide +kernel) (Nat.le_of_ble_eq_true rfl) (gx_Np_candidates_0 hl hd a0 i1 h hf)
theorem d_Np_cell_0 : decode prog_1_method_13_code 0 = .ok (.iload_n 1, 1) := by decide +kernel
theorem d_Np_cell_1 : decode prog_1_method_13_code 1 = .ok (.invokestatic 87, 3) := by decide +kernel
theorem d_Np_cell_4 : decode prog_1_method_13_code 4 = .ok (.iload_n 2, 1) := by decide +kernel
theorem d_Np_cell_5 : decode prog_1_method_13_code 5 = .ok (.iconst 2, 1) := by decide +kernel
theorem d_Np_cell_6 : decode prog_1_method_13_code 6 = .ok (.invokestatic 199, 3) := by decide +kernel
theorem d_Np_cell_9 : decode prog_1_method_13_code 9 = .ok (.iload_n 2, 1) := by decide +kernel
theorem d_Np_cell_10 : decode prog_1_method_13_code 10 = .ok (.ifCond .ne 38, 3) := by decide +kernel
theorem d_Np_cell_13 : decode prog_1_method_13_code 13 = .ok (.aload_n 0, 1) := by decide +kernel
theorem d_Np_cell_14 : decode prog_1_method_13_code 14 = .ok (.getfield 10, 3) := by decide +kernel
theorem d_Np_cell_17 : decode prog_1_method_13_code 17 = .ok (.getfield 68, 3) := by decide +kernel
theorem d_Np_cell_20 : decode prog_1_method_13_code 20 = .ok (.getfield 71, 3) := by decide +kernel
theorem d_Np_cell_23 : decode prog_1_method_13_code 23 = .ok (.iload_n 1, 1) := by decide +kernel
theorem d_Np_cell_24 : decode prog_1_method_13_code 24 = .ok (.lshr, 1) := by decide +kernel
theorem d_Np_cell_25 : decode prog_1_method_13_code 25 = .ok (.lconst 1, 1) := by decide +kernel
theorem d_Np_cell_26 : decode prog_1_method_13_code 26 = .ok (.land, 1) := by decide +kernel
theorem d_Np_cell_27 : decode prog_1_method_13_code 27 = .ok (.lconst 0, 1) := by decide +kernel
theorem d_Np_cell_28 : decode prog_1_method_13_code 28 = .ok (.lcmp, 1) := by decide +kernel
theorem d_Np_cell_29 : decode prog_1_method_13_code 29 = .ok (.ifCond .ne 7, 3) := by decide +kernel
theorem d_Np_cell_32 : decode prog_1_method_13_code 32 = .ok (.iconst 0, 1) := by decide +kernel
theorem d_Np_cell_33 : decode prog_1_method_13_code 33 = .ok (.goto 14, 3) := by decide +kernel
theorem d_Np_cell_36 : decode prog_1_method_13_code 36 = .ok (.aload_n 0, 1) := by decide +kernel
theorem d_Np_cell_37 : decode prog_1_method_13_code 37 = .ok (.getfield 10, 3) := by decide +kernel
theorem d_Np_cell_40 : decode prog_1_method_13_code 40 = .ok (.getfield 68, 3) := by decide +kernel
theorem d_Np_cell_43 : decode prog_1_method_13_code 43 = .ok (.iload_n 1, 1) := by decide +kernel
theorem d_Np_cell_44 : decode prog_1_method_13_code 44 = .ok (.invokevirtual 226, 3) := by decide +kernel
theorem d_Np_cell_47 : decode prog_1_method_13_code 47 = .ok (.ireturn, 1) := by decide +kernel
theorem d_Np_cell_48 : decode prog_1_method_13_code 48 = .ok (.iload_n 2, 1) := by decide +kernel
theorem d_Np_cell_49 : decode prog_1_method_13_code 49 = .ok (.iconst 1, 1) := by decide +kernel
theorem d_Np_cell_50 : decode prog_1_method_13_code 50 = .ok (.if_icmp .ne 15, 3) := by decide +kernel
theorem d_Np_cell_53 : decode prog_1_method_13_code 53 = .ok (.aload_n 0, 1) := by decide +kernel
theorem d_Np_cell_54 : decode prog_1_method_13_code 54 = .ok (.getfield 10, 3) := by decide +kernel
theorem d_Np_cell_57 : decode prog_1_method_13_code 57 = .ok (.getfield 102, 3) := by decide +kernel
theorem d_Np_cell_60 : decode prog_1_method_13_code 60 = .ok (.iload_n 1, 1) := by decide +kernel
theorem d_Np_cell_61 : decode prog_1_method_13_code 61 = .ok (.iaload, 1) := by decide +kernel
theorem d_Np_cell_62 : decode prog_1_method_13_code 62 = .ok (.goto 18, 3) := by decide +kernel
theorem d_Np_cell_65 : decode prog_1_method_13_code 65 = .ok (.aload_n 0, 1) := by decide +kernel
theorem d_Np_cell_66 : decode prog_1_method_13_code 66 = .ok (.getfield 10, 3) := by decide +kernel
theorem d_Np_cell_69 : decode prog_1_method_13_code 69 = .ok (.getfield 129, 3) := by decide +kernel
theorem d_Np_cell_72 : decode prog_1_method_13_code 72 = .ok (.getfield 229, 3) := by decide +kernel
theorem d_Np_cell_75 : decode prog_1_method_13_code 75 = .ok (.iload_n 1, 1) := by decide +kernel
theorem d_Np_cell_76 : decode prog_1_method_13_code 76 = .ok (.laload, 1) := by decide +kernel
theorem d_Np_cell_77 : decode prog_1_method_13_code 77 = .ok (.invokestatic 75, 3) := by decide +kernel
theorem d_Np_cell_80 : decode prog_1_method_13_code 80 = .ok (.ireturn, 1) := by decide +kernel
def f_Np_cell (F : Nat) (a0 : Nat) (i1 : Int32) (i2 : Int32) (h : PH) : Option ((Nat ⊕ Int32) × PH) :=
  bndT (f_Np_checkCell i1 h) fun x1 h2 => bndT (f_Np_checkWhat i2 (2 : Int32) h2) fun x3 h4 => (if i2 = (0 : Int32) then bnd (gR h4 a0 9 0) fun x14 => bnd (gR h4 x14 8 0) fun x15 => bnd (gL h4 x15 1 1) fun x16 => (if (lg_cmp ((x16 >>> ((i1).toInt64 &&& 63)) &&& (1 : Int64)) (0 : Int64)) = (0 : Int32) then some (.inr (0 : Int32), h4) else bnd (gR h4 a0 9 0) fun x17 => bnd (gR h4 x17 8 0) fun x18 => bnd (cK h4 x18 1) fun _ => bnd (f_Pos_lowestDigitOf F x18 i1 h4) fun x20 => some (.inr x20, h4)) else (if i2 = (1 : Int32) then bnd (gR h4 a0 9 0) fun x10 => bnd (gR h4 x10 8 2) fun x11 => bnd (aI h4 x11 i1) fun x12 => some (.inr x12, h4) else bnd (gR h4 a0 9 0) fun x5 => bnd (gR h4 x5 8 1) fun x6 => bnd (gR h4 x6 4 5) fun x7 => bnd (aL h4 x7 i1) fun x8 => bnd (f_Lng_bitCount x8) fun x9 => some (.inr x9, h4)))
theorem g_Np_cell_0 {l : Launch} {E : ET} {d : Nat} (hd : 7 ≤ d) {F : Nat} {r : Int32} {h9 : PH} {x : Nat}  (a0 : Nat) (i1 : Int32) (i2 : Int32) (h : PH) (hf : f_Np_cell F a0 i1 i2 h = some (.inr r, h9)) : Go l E m_Np_cell (rm d 0 0) (KM E 0 0 (PoE (some (.int r)) h9 x)) 0 0 h x 0 [(0, .ref a0), (1, .int i1), (2, .int i2)] [] := by
  unfold f_Np_cell at hf
  refine go_iload_n 1 d_Np_cell_0 rfl ?_
  obtain ⟨x1, h2, e_x1, hf⟩ := bndT_r hf
  refine go_callS_N (As := [.int i1]) (st := []) (c_Np_checkCell (d := d - 1) (by omega) e_x1) lk_Np_87 rfl rfl (rm_ok (by omega)) (Nat.le_of_ble_eq_true rfl) rm_c d_Np_cell_1 ?_
  refine go_iload_n 2 d_Np_cell_4 rfl ?_
  refine go_iconst (2 : Int32) d_Np_cell_5 (by decide) ?_
  obtain ⟨x3, h4, e_x3, hf⟩ := bndT_r hf
  refine go_callS_N (As := [.int i2, .int (2 : Int32)]) (st := []) (c_Np_checkWhat (d := d - 1) (by omega) e_x3) lk_Np_199 rfl rfl (rm_ok (by omega)) (Nat.le_of_ble_eq_true rfl) rm_c d_Np_cell_6 ?_
  refine go_iload_n 2 d_Np_cell_9 rfl ?_
  refine go_if_ne 48 d_Np_cell_10 (by decide) (fun q22 => ?_) (fun q22 => ?_)
  · rw [if_neg q22] at hf
    refine go_iload_n 2 d_Np_cell_48 rfl ?_
    refine go_iconst (1 : Int32) d_Np_cell_49 (by decide) ?_
    refine go_icmp_ne 65 d_Np_cell_50 (by decide) (fun q13 => ?_) (fun q13 => ?_)
    · rw [if_neg q13] at hf
      refine go_aload_n 0 d_Np_cell_65 rfl ?_
      obtain ⟨x5, e_x5, hf⟩ := bnd_x hf
      refine go_get d_Np_cell_66 (gR_x e_x5) fl_Np_10 ?_
      obtain ⟨x6, e_x6, hf⟩ := bnd_x hf
      refine go_get d_Np_cell_69 (gR_x e_x6) fl_Np_129 ?_
      obtain ⟨x7, e_x7, hf⟩ := bnd_x hf
      refine go_get d_Np_cell_72 (gR_x e_x7) fl_Np_229 ?_
      refine go_iload_n 1 d_Np_cell_75 rfl ?_
      obtain ⟨x8, e_x8, hf⟩ := bnd_x hf
      refine go_laload d_Np_cell_76 e_x8 ?_
      obtain ⟨x9, e_x9, hf⟩ := bnd_x hf
      refine go_callS_I (As := [.long x8]) (st := []) (c_Lng_bitCount (d := d - 1) (by omega) e_x9) lk_Np_75 rfl rfl (rm_ok (by omega)) (Nat.le_of_ble_eq_true rfl) rm_c d_Np_cell_77 ?_
      obtain ⟨e8, e9⟩ := Prod.mk.inj (Option.some.inj hf)
      have e7 := Sum.inr.inj e8; subst e7; subst e9
      exact go_iret d_Np_cell_80 rfl ⟨rfl, rfl, rfl⟩
    · rw [if_pos q13] at hf
      refine go_aload_n 0 d_Np_cell_53 rfl ?_
      obtain ⟨x10, e_x10, hf⟩ := bnd_x hf
      refine go_get d_Np_cell_54 (gR_x e_x10) fl_Np_10 ?_
      obtain ⟨x11, e_x11, hf⟩ := bnd_x hf
      refine go_get d_Np_cell_57 (gR_x e_x11) fl_Np_102 ?_
      refine go_iload_n 1 d_Np_cell_60 rfl ?_
      obtain ⟨x12, e_x12, hf⟩ := bnd_x hf
      refine go_iaload d_Np_cell_61 e_x12 ?_
      refine go_goto 80 d_Np_cell_62 (by decide) ?_
      obtain ⟨e8, e9⟩ := Prod.mk.inj (Option.some.inj hf)
      have e7 := Sum.inr.inj e8; subst e7; subst e9
      exact go_iret d_Np_cell_80 rfl ⟨rfl, rfl, rfl⟩
  · rw [if_pos q22] at hf
    refine go_aload_n 0 d_Np_cell_13 rfl ?_
    obtain ⟨x14, e_x14, hf⟩ := bnd_x hf
    refine go_get d_Np_cell_14 (gR_x e_x14) fl_Np_10 ?_
    obtain ⟨x15, e_x15, hf⟩ := bnd_x hf
    refine go_get d_Np_cell_17 (gR_x e_x15) fl_Np_68 ?_
    obtain ⟨x16, e_x16, hf⟩ := bnd_x hf
    refine go_get d_Np_cell_20 (gL_x e_x16) fl_Np_71 ?_
    refine go_iload_n 1 d_Np_cell_23 rfl ?_
    refine go_lshr d_Np_cell_24 ?_
    refine go_lconst (1 : Int64) d_Np_cell_25 (by decide) ?_
    refine go_land d_Np_cell_26 ?_
    refine go_lconst (0 : Int64) d_Np_cell_27 (by decide) ?_
    refine go_lcmp d_Np_cell_28 ?_
    refine go_if_ne 36 d_Np_cell_29 (by decide) (fun q21 => ?_) (fun q21 => ?_)
    · rw [if_neg q21] at hf
      refine go_aload_n 0 d_Np_cell_36 rfl ?_
      obtain ⟨x17, e_x17, hf⟩ := bnd_x hf
      refine go_get d_Np_cell_37 (gR_x e_x17) fl_Np_10 ?_
      obtain ⟨x18, e_x18, hf⟩ := bnd_x hf
      refine go_get d_Np_cell_40 (gR_x e_x18) fl_Np_68 ?_
      refine go_iload_n 1 d_Np_cell_43 rfl ?_
      obtain ⟨_, e19, hf⟩ := bnd_x hf
      obtain ⟨x20, e_x20, hf⟩ := bnd_x hf
      refine go_callV_I (As := [.int i1]) (st := []) (c_Pos_lowestDigitOf (d := d - 1) (by omega) e_x20) lk_Np_226 rfl rfl e19 (by decide) rfl (rm_ok (by omega)) (Nat.le_of_ble_eq_true rfl) rm_c d_Np_cell_44 ?_
      obtain ⟨e8, e9⟩ := Prod.mk.inj (Option.some.inj hf)
      have e7 := Sum.inr.inj e8; subst e7; subst e9
      exact go_iret d_Np_cell_47 rfl ⟨rfl, rfl, rfl⟩
    · rw [if_pos q21] at hf
      refine go_iconst (0 : Int32) d_Np_cell_32 (by decide) ?_
      refine go_goto 47 d_Np_cell_33 (by decide) ?_
      obtain ⟨e8, e9⟩ := Prod.mk.inj (Option.some.inj hf)
      have e7 := Sum.inr.inj e8; subst e7; subst e9
      exact go_iret d_Np_cell_47 rfl ⟨rfl, rfl, rfl⟩
theorem c_Np_cell {l : Launch} {E : ET} {d : Nat} (hd : 7 ≤ d) {F : Nat} {r : Int32} {h9 : PH} {x : Nat} {a0 : Nat} {i1 : Int32} {i2 : Int32} {h : PH} (hf : f_Np_cell F a0 i1 i2 h = some (.inr r, h9)) : Fn l E m_Np_cell d 0 0 [.ref a0, .int i1, .int i2] h x (PoE (some (.int r)) h9 x) :=
  Fn.of (by decide +kernel) (Nat.le_of_ble_eq_true rfl) (g_Np_cell_0 hd a0 i1 i2 h hf)
theorem gx_Np_cell_0 {l : Launch} {E : ET} (hl : l.stackTraces = false) {d : Nat} (hd : 7 ≤ d) {F : Nat} {j : Nat} {h9 : PH} {x : Nat}  (a0 : Nat) (i1 : Int32) (i2 : Int32) (h : PH) (hf : f_Np_cell F a0 i1 i2 h = some (.inl j, h9)) : Go l E m_Np_cell (rm d 1 6) (KX l E 1 6 (PXk j h9)) 0 0 h x 0 [(0, .ref a0), (1, .int i1), (2, .int i2)] [] := by
  unfold f_Np_cell at hf
  refine go_iload_n 1 d_Np_cell_0 rfl ?_
  rcases bndT_l hf with e_x1 | ⟨x1, h2, e_x1, hf⟩
  · exact go_tcallS (As := [.int i1]) (st := []) (x_Np_checkCell hl (d := d - 1) (by omega) e_x1) lk_Np_87 rfl rfl (rm_ok1 (by omega)) (Nat.le_of_ble_eq_true rfl) d_Np_cell_1
  refine go_callS_N (As := [.int i1]) (st := []) (c_Np_checkCell (d := d - 1) (by omega) e_x1) lk_Np_87 rfl rfl (rm_ok1 (by omega)) (Nat.le_of_ble_eq_true rfl) rm_c1 d_Np_cell_1 ?_
  refine go_iload_n 2 d_Np_cell_4 rfl ?_
  refine go_iconst (2 : Int32) d_Np_cell_5 (by decide) ?_
  rcases bndT_l hf with e_x3 | ⟨x3, h4, e_x3, hf⟩
  · exact go_tcallS (As := [.int i2, .int (2 : Int32)]) (st := []) (x_Np_checkWhat hl (d := d - 1) (by omega) e_x3) lk_Np_199 rfl rfl (rm_ok1 (by omega)) (Nat.le_of_ble_eq_true rfl) d_Np_cell_6
  refine go_callS_N (As := [.int i2, .int (2 : Int32)]) (st := []) (c_Np_checkWhat (d := d - 1) (by omega) e_x3) lk_Np_199 rfl rfl (rm_ok1 (by omega)) (Nat.le_of_ble_eq_true rfl) rm_c1 d_Np_cell_6 ?_
  refine go_iload_n 2 d_Np_cell_9 rfl ?_
  refine go_if_ne 48 d_Np_cell_10 (by decide) (fun q22 => ?_) (fun q22 => ?_)
  · rw [if_neg q22] at hf
    refine go_iload_n 2 d_Np_cell_48 rfl ?_
    refine go_iconst (1 : Int32) d_Np_cell_49 (by decide) ?_
    refine go_icmp_ne 65 d_Np_cell_50 (by decide) (fun q13 => ?_) (fun q13 => ?_)
    · rw [if_neg q13] at hf
      refine go_aload_n 0 d_Np_cell_65 rfl ?_
      obtain ⟨x5, e_x5, hf⟩ := bnd_x hf
      refine go_get d_Np_cell_66 (gR_x e_x5) fl_Np_10 ?_
      obtain ⟨x6, e_x6, hf⟩ := bnd_x hf
      refine go_get d_Np_cell_69 (gR_x e_x6) fl_Np_129 ?_
      obtain ⟨x7, e_x7, hf⟩ := bnd_x hf
      refine go_get d_Np_cell_72 (gR_x e_x7) fl_Np_229 ?_
      refine go_iload_n 1 d_Np_cell_75 rfl ?_
      obtain ⟨x8, e_x8, hf⟩ := bnd_x hf
      refine go_laload d_Np_cell_76 e_x8 ?_
      obtain ⟨x9, e_x9, hf⟩ := bnd_x hf
      refine go_callS_I (As := [.long x8]) (st := []) (c_Lng_bitCount (d := d - 1) (by omega) e_x9) lk_Np_75 rfl rfl (rm_ok1 (by omega)) (Nat.le_of_ble_eq_true rfl) rm_c1 d_Np_cell_77 ?_
      cases (Prod.mk.inj (Option.some.inj hf)).1
    · rw [if_pos q13] at hf
      refine go_aload_n 0 d_Np_cell_53 rfl ?_
      obtain ⟨x10, e_x10, hf⟩ := bnd_x hf
      refine go_get d_Np_cell_54 (gR_x e_x10) fl_Np_10 ?_
      obtain ⟨x11, e_x11, hf⟩ := bnd_x hf
      refine go_get d_Np_cell_57 (gR_x e_x11) fl_Np_102 ?_
      refine go_iload_n 1 d_Np_cell_60 rfl ?_
      obtain ⟨x12, e_x12, hf⟩ := bnd_x hf
      refine go_iaload d_Np_cell_61 e_x12 ?_
      refine go_goto 80 d_Np_cell_62 (by decide) ?_
      cases (Prod.mk.inj (Option.some.inj hf)).1
  · rw [if_pos q22] at hf
    refine go_aload_n 0 d_Np_cell_13 rfl ?_
    obtain ⟨x14, e_x14, hf⟩ := bnd_x hf
    refine go_get d_Np_cell_14 (gR_x e_x14) fl_Np_10 ?_
    obtain ⟨x15, e_x15, hf⟩ := bnd_x hf
    refine go_get d_Np_cell_17 (gR_x e_x15) fl_Np_68 ?_
    obtain ⟨x16, e_x16, hf⟩ := bnd_x hf
    refine go_get d_Np_cell_20 (gL_x e_x16) fl_Np_71 ?_
    refine go_iload_n 1 d_Np_cell_23 rfl ?_
    refine go_lshr d_Np_cell_24 ?_
    refine go_lconst (1 : Int64) d_Np_cell_25 (by decide) ?_
    refine go_land d_Np_cell_26 ?_
    refine go_lconst (0 : Int64) d_Np_cell_27 (by decide) ?_
    refine go_lcmp d_Np_cell_28 ?_
    refine go_if_ne 36 d_Np_cell_29 (by decide) (fun q21 => ?_) (fun q21 => ?_)
    · rw [if_neg q21] at hf
      refine go_aload_n 0 d_Np_cell_36 rfl ?_
      obtain ⟨x17, e_x17, hf⟩ := bnd_x hf
      refine go_get d_Np_cell_37 (gR_x e_x17) fl_Np_10 ?_
      obtain ⟨x18, e_x18, hf⟩ := bnd_x hf
      refine go_get d_Np_cell_40 (gR_x e_x18) fl_Np_68 ?_
      refine go_iload_n 1 d_Np_cell_43 rfl ?_
      obtain ⟨_, e19, hf⟩ := bnd_x hf
      obtain ⟨x20, e_x20, hf⟩ := bnd_x hf
      refine go_callV_I (As := [.int i1]) (st := []) (c_Pos_lowestDigitOf (d := d - 1) (by omega) e_x20) lk_Np_226 rfl rfl e19 (by decide) rfl (rm_ok1 (by omega)) (Nat.le_of_ble_eq_true rfl) rm_c1 d_Np_cell_44 ?_
      cases (Prod.mk.inj (Option.some.inj hf)).1
    · rw [if_pos q21] at hf
      refine go_iconst (0 : Int32) d_Np_cell_32 (by decide) ?_
      refine go_goto 47 d_Np_cell_33 (by decide) ?_
      cases (Prod.mk.inj (Option.some.inj hf)).1
theorem x_Np_cell {l : Launch} {E : ET} (hl : l.stackTraces = false) {d : Nat} (hd : 7 ≤ d) {F : Nat} {j : Nat} {h9 : PH} {x : Nat} {a0 : Nat} {i1 : Int32} {i2 : Int32} {h : PH} (hf : f_Np_cell F a0 i1 i2 h = some (.inl j, h9)) : FnT l E m_Np_cell d [.ref a0, .int i1, .int i2] h x (PXk j h9) :=
  FnT.of hl (by decide +kernel) (Nat.le_of_ble_eq_true rfl) (gx_Np_cell_0 hl hd a0 i1 i2 h hf)
theorem d_Np_deduce_0 : decode prog_1_method_14_code 0 = .ok (.iload_n 1, 1) := by decide +kernel
theorem d_Np_deduce_1 : decode prog_1_method_14_code 1 = .ok (.ifCond .lt 10, 3) := by decide +kernel
theorem d_Np_deduce_4 : decode prog_1_method_14_code 4 = .ok (.iload_n 1, 1) := by decide +kernel
theorem d_Np_deduce_5 : decode prog_1_method_14_code 5 = .ok (.sipush 500, 3) := by decide +kernel
theorem d_Np_deduce_8 : decode prog_1_method_14_code 8 = .ok (.if_icmp .le 13, 3) := by decide +kernel
theorem d_Np_deduce_11 : decode prog_1_method_14_code 11 = .ok (.new 122, 3) := by decide +kernel
theorem d_Np_deduce_14 : decode prog_1_method_14_code 14 = .ok (.dup, 1) := by decide +kernel
theorem d_Np_deduce_15 : decode prog_1_method_14_code 15 = .ok (.ldc 233, 2) := by decide +kernel
theorem d_Np_deduce_17 : decode prog_1_method_14_code 17 = .ok (.invokespecial 126, 3) := by decide +kernel
theorem d_Np_deduce_20 : decode prog_1_method_14_code 20 = .ok (.athrow, 1) := by decide +kernel
theorem d_Np_deduce_21 : decode prog_1_method_14_code 21 = .ok (.aload_n 0, 1) := by decide +kernel
theorem d_Np_deduce_22 : decode prog_1_method_14_code 22 = .ok (.invokevirtual 81, 3) := by decide +kernel
theorem d_Np_deduce_25 : decode prog_1_method_14_code 25 = .ok (.iconst 0, 1) := by decide +kernel
theorem d_Np_deduce_26 : decode prog_1_method_14_code 26 = .ok (.istore_n 2, 1) := by decide +kernel
theorem d_Np_deduce_27 : decode prog_1_method_14_code 27 = .ok (.iload_n 2, 1) := by decide +kernel
theorem d_Np_deduce_28 : decode prog_1_method_14_code 28 = .ok (.iload_n 1, 1) := by decide +kernel
theorem d_Np_deduce_29 : decode prog_1_method_14_code 29 = .ok (.if_icmp .ge 64, 3) := by decide +kernel
theorem d_Np_deduce_32 : decode prog_1_method_14_code 32 = .ok (.aload_n 0, 1) := by decide +kernel
theorem d_Np_deduce_33 : decode prog_1_method_14_code 33 = .ok (.getfield 40, 3) := by decide +kernel
theorem d_Np_deduce_36 : decode prog_1_method_14_code 36 = .ok (.aload_n 0, 1) := by decide +kernel
theorem d_Np_deduce_37 : decode prog_1_method_14_code 37 = .ok (.getfield 10, 3) := by decide +kernel
theorem d_Np_deduce_40 : decode prog_1_method_14_code 40 = .ok (.getfield 68, 3) := by decide +kernel
theorem d_Np_deduce_43 : decode prog_1_method_14_code 43 = .ok (.aload_n 0, 1) := by decide +kernel
theorem d_Np_deduce_44 : decode prog_1_method_14_code 44 = .ok (.getfield 10, 3) := by decide +kernel
theorem d_Np_deduce_47 : decode prog_1_method_14_code 47 = .ok (.getfield 129, 3) := by decide +kernel
theorem d_Np_deduce_50 : decode prog_1_method_14_code 50 = .ok (.invokevirtual 235, 3) := by decide +kernel
theorem d_Np_deduce_53 : decode prog_1_method_14_code 53 = .ok (.ifCond .eq 40, 3) := by decide +kernel
theorem d_Np_deduce_56 : decode prog_1_method_14_code 56 = .ok (.aload_n 0, 1) := by decide +kernel
theorem d_Np_deduce_57 : decode prog_1_method_14_code 57 = .ok (.getfield 10, 3) := by decide +kernel
theorem d_Np_deduce_60 : decode prog_1_method_14_code 60 = .ok (.getfield 105, 3) := by decide +kernel
theorem d_Np_deduce_63 : decode prog_1_method_14_code 63 = .ok (.aload_n 0, 1) := by decide +kernel
theorem d_Np_deduce_64 : decode prog_1_method_14_code 64 = .ok (.getfield 40, 3) := by decide +kernel
theorem d_Np_deduce_67 : decode prog_1_method_14_code 67 = .ok (.getfield 239, 3) := by decide +kernel
theorem d_Np_deduce_70 : decode prog_1_method_14_code 70 = .ok (.aload_n 0, 1) := by decide +kernel
theorem d_Np_deduce_71 : decode prog_1_method_14_code 71 = .ok (.getfield 40, 3) := by decide +kernel
theorem d_Np_deduce_74 : decode prog_1_method_14_code 74 = .ok (.getfield 242, 3) := by decide +kernel
theorem d_Np_deduce_77 : decode prog_1_method_14_code 77 = .ok (.aload_n 0, 1) := by decide +kernel
theorem d_Np_deduce_78 : decode prog_1_method_14_code 78 = .ok (.getfield 40, 3) := by decide +kernel
theorem d_Np_deduce_81 : decode prog_1_method_14_code 81 = .ok (.getfield 245, 3) := by decide +kernel
theorem d_Np_deduce_84 : decode prog_1_method_14_code 84 = .ok (.invokevirtual 248, 3) := by decide +kernel
theorem d_Np_deduce_87 : decode prog_1_method_14_code 87 = .ok (.iinc 2 1, 3) := by decide +kernel
theorem d_Np_deduce_90 : decode prog_1_method_14_code 90 = .ok (.goto (-63), 3) := by decide +kernel
theorem d_Np_deduce_93 : decode prog_1_method_14_code 93 = .ok (.iload_n 2, 1) := by decide +kernel
theorem d_Np_deduce_94 : decode prog_1_method_14_code 94 = .ok (.ireturn, 1) := by decide +kernel
def b_Np_deduce_11 (F : Nat) (h : PH) : Option ((Nat ⊕ Int32) × PH) :=
  some (.inl 1, h)
theorem g_Np_deduce_11 {l : Launch} {E : ET} {d : Nat} (hd : 66 ≤ d) {F : Nat} {r : Int32} {h9 : PH} {x : Nat}   (h : PH) (hf : b_Np_deduce_11 F h = some (.inr r, h9)) : Go l E m_Np_deduce (rm d 0 0) (KM E 0 0 (PoE (some (.int r)) h9 x)) 0 0 h x 11 [] [] := by
  unfold b_Np_deduce_11 at hf
  cases (Prod.mk.inj (Option.some.inj hf)).1
def b_Np_deduce_27 (F : Nat) (k27 : Nat → Int32 → Int32 → PH → Option ((Nat ⊕ Int32) × PH)) (a0 : Nat) (i1 : Int32) (i2 : Int32) (h : PH) : Option ((Nat ⊕ Int32) × PH) :=
  (if i1 ≤ i2 then some (.inr i2, h) else bnd (gR h a0 9 7) fun x1 => bnd (gR h a0 9 0) fun x2 => bnd (gR h x2 8 0) fun x3 => bnd (gR h a0 9 0) fun x4 => bnd (gR h x4 8 1) fun x5 => bnd (cK h x1 3) fun _ => bnd2 (f_Rea_next F x1 x3 x5 h) fun x7 h8 => (if x7 = (0 : Int32) then some (.inr i2, h8) else bnd (gR h8 a0 9 0) fun x9 => bnd (gR h8 x9 8 3) fun x10 => bnd (gR h8 a0 9 7) fun x11 => bnd (gI h8 x11 3 1) fun x12 => bnd (gR h8 a0 9 7) fun x13 => bnd (gI h8 x13 3 2) fun x14 => bnd (gR h8 a0 9 7) fun x15 => bnd (gI h8 x15 3 3) fun x16 => bnd (cK h8 x10 0) fun _ => bnd (f_Log_add x10 x12 x14 x16 h8) fun h18 => k27 a0 i1 (i2 + (1 : Int32)) h18))
def f_Np_deduce_27 (F : Nat) : Nat → Nat → Int32 → Int32 → PH → Option ((Nat ⊕ Int32) × PH)
  | 0 => fun _ _ _ _ => none
  | n + 1 => b_Np_deduce_27 F (f_Np_deduce_27 F n)
theorem g_Np_deduce_27 {l : Launch} {E : ET} {d : Nat} (hd : 66 ≤ d) {F : Nat} {r : Int32} {h9 : PH} {x : Nat} {k27 : Nat → Int32 → Int32 → PH → Option ((Nat ⊕ Int32) × PH)} (hk27 : ∀ (a0 : Nat) (i1 : Int32) (i2 : Int32) (hh : PH), k27 a0 i1 i2 hh = some (.inr r, h9) → Go l E m_Np_deduce (rm d 0 0) (KM E 0 0 (PoE (some (.int r)) h9 x)) 0 0 hh x 27 [(0, .ref a0), (1, .int i1), (2, .int i2)] []) (a0 : Nat) (i1 : Int32) (i2 : Int32) (h : PH) (hf : b_Np_deduce_27 F k27 a0 i1 i2 h = some (.inr r, h9)) : Go l E m_Np_deduce (rm d 0 0) (KM E 0 0 (PoE (some (.int r)) h9 x)) 0 0 h x 27 [(0, .ref a0), (1, .int i1), (2, .int i2)] [] := by
  unfold b_Np_deduce_27 at hf
  refine go_iload_n 2 d_Np_deduce_27 rfl ?_
  refine go_iload_n 1 d_Np_deduce_28 rfl ?_
  refine go_icmp_ge 93 d_Np_deduce_29 (by decide) (fun q20 => ?_) (fun q20 => ?_)
  · rw [if_pos q20] at hf
    refine go_iload_n 2 d_Np_deduce_93 rfl ?_
    obtain ⟨e8, e9⟩ := Prod.mk.inj (Option.some.inj hf)
    have e7 := Sum.inr.inj e8; subst e7; subst e9
    exact go_iret d_Np_deduce_94 rfl ⟨rfl, rfl, rfl⟩
  · rw [if_neg q20] at hf
    refine go_aload_n 0 d_Np_deduce_32 rfl ?_
    obtain ⟨x1, e_x1, hf⟩ := bnd_x hf
    refine go_get d_Np_deduce_33 (gR_x e_x1) fl_Np_40 ?_
    refine go_aload_n 0 d_Np_deduce_36 rfl ?_
    obtain ⟨x2, e_x2, hf⟩ := bnd_x hf
    refine go_get d_Np_deduce_37 (gR_x e_x2) fl_Np_10 ?_
    obtain ⟨x3, e_x3, hf⟩ := bnd_x hf
    refine go_get d_Np_deduce_40 (gR_x e_x3) fl_Np_68 ?_
    refine go_aload_n 0 d_Np_deduce_43 rfl ?_
    obtain ⟨x4, e_x4, hf⟩ := bnd_x hf
    refine go_get d_Np_deduce_44 (gR_x e_x4) fl_Np_10 ?_
    obtain ⟨x5, e_x5, hf⟩ := bnd_x hf
    refine go_get d_Np_deduce_47 (gR_x e_x5) fl_Np_129 ?_
    obtain ⟨_, e6, hf⟩ := bnd_x hf
    obtain ⟨x7, h8, e_x7, hf⟩ := bnd2_x hf
    refine go_callV_I (As := [.ref x3, .ref x5]) (st := []) (c_Rea_next (d := d - 1) (by omega) e_x7) lk_Np_235 rfl rfl e6 (by decide) rfl (rm_ok (by omega)) (Nat.le_of_ble_eq_true rfl) rm_c d_Np_deduce_50 ?_
    refine go_if_eq 93 d_Np_deduce_53 (by decide) (fun q19 => ?_) (fun q19 => ?_)
    · rw [if_pos q19] at hf
      refine go_iload_n 2 d_Np_deduce_93 rfl ?_
      obtain ⟨e8, e9⟩ := Prod.mk.inj (Option.some.inj hf)
      have e7 := Sum.inr.inj e8; subst e7; subst e9
      exact go_iret d_Np_deduce_94 rfl ⟨rfl, rfl, rfl⟩
    · rw [if_neg q19] at hf
      refine go_aload_n 0 d_Np_deduce_56 rfl ?_
      obtain ⟨x9, e_x9, hf⟩ := bnd_x hf
      refine go_get d_Np_deduce_57 (gR_x e_x9) fl_Np_10 ?_
      obtain ⟨x10, e_x10, hf⟩ := bnd_x hf
      refine go_get d_Np_deduce_60 (gR_x e_x10) fl_Np_105 ?_
      refine go_aload_n 0 d_Np_deduce_63 rfl ?_
      obtain ⟨x11, e_x11, hf⟩ := bnd_x hf
      refine go_get d_Np_deduce_64 (gR_x e_x11) fl_Np_40 ?_
      obtain ⟨x12, e_x12, hf⟩ := bnd_x hf
      refine go_get d_Np_deduce_67 (gI_x e_x12) fl_Np_239 ?_
      refine go_aload_n 0 d_Np_deduce_70 rfl ?_
      obtain ⟨x13, e_x13, hf⟩ := bnd_x hf
      refine go_get d_Np_deduce_71 (gR_x e_x13) fl_Np_40 ?_
      obtain ⟨x14, e_x14, hf⟩ := bnd_x hf
      refine go_get d_Np_deduce_74 (gI_x e_x14) fl_Np_242 ?_
      refine go_aload_n 0 d_Np_deduce_77 rfl ?_
      obtain ⟨x15, e_x15, hf⟩ := bnd_x hf
      refine go_get d_Np_deduce_78 (gR_x e_x15) fl_Np_40 ?_
      obtain ⟨x16, e_x16, hf⟩ := bnd_x hf
      refine go_get d_Np_deduce_81 (gI_x e_x16) fl_Np_245 ?_
      obtain ⟨_, e17, hf⟩ := bnd_x hf
      obtain ⟨h18, e_x18, hf⟩ := bnd_x hf
      refine go_callV_N (As := [.int x12, .int x14, .int x16]) (st := []) (c_Log_add (d := d - 1) (by omega) e_x18) lk_Np_248 rfl rfl e17 (by decide) rfl (rm_ok (by omega)) (Nat.le_of_ble_eq_true rfl) rm_c d_Np_deduce_84 ?_
      refine go_iinc (lv' := [(2, .int (i2 + (1 : Int32))), (0, .ref a0), (1, .int i1)]) 2 (i2 + (1 : Int32)) d_Np_deduce_87 rfl rfl rfl (by decide) ?_
      refine go_goto 27 d_Np_deduce_90 (by decide) ?_
      refine go_sub (lv' := [(0, .ref a0), (1, .int i1), (2, .int (i2 + (1 : Int32)))]) [1, 2, 0] rfl ?_
      exact hk27 a0 i1 (i2 + (1 : Int32)) h18 hf
theorem t_Np_deduce_27 {l : Launch} {E : ET} {d : Nat} (hd : 66 ≤ d) {F : Nat} {r : Int32} {h9 : PH} {x : Nat}  : ∀ (n : Nat) (a0 : Nat) (i1 : Int32) (i2 : Int32) (hh : PH), f_Np_deduce_27 F n a0 i1 i2 hh = some (.inr r, h9) → Go l E m_Np_deduce (rm d 0 0) (KM E 0 0 (PoE (some (.int r)) h9 x)) 0 0 hh x 27 [(0, .ref a0), (1, .int i1), (2, .int i2)] [] := by
  intro n
  induction n with
  | zero => intro v0 v1 v2 v3 hf; cases hf
  | succ n ih => intro v0 v1 v2 v3 hf; exact g_Np_deduce_27 hd ih v0 v1 v2 v3 hf
def f_Np_deduce (F : Nat) (a0 : Nat) (i1 : Int32) (h : PH) : Option ((Nat ⊕ Int32) × PH) :=
  (if i1 < (0 : Int32) then b_Np_deduce_11 F h else (if i1 ≤ (500 : Int32) then bnd (cK h a0 9) fun _ => bnd (f_Np_save a0 h) fun h2 => f_Np_deduce_27 F F a0 i1 (0 : Int32) h2 else b_Np_deduce_11 F h))
theorem g_Np_deduce_0 {l : Launch} {E : ET} {d : Nat} (hd : 66 ≤ d) {F : Nat} {r : Int32} {h9 : PH} {x : Nat}  (a0 : Nat) (i1 : Int32) (h : PH) (hf : f_Np_deduce F a0 i1 h = some (.inr r, h9)) : Go l E m_Np_deduce (rm d 0 0) (KM E 0 0 (PoE (some (.int r)) h9 x)) 0 0 h x 0 [(0, .ref a0), (1, .int i1)] [] := by
  unfold f_Np_deduce at hf
  refine go_iload_n 1 d_Np_deduce_0 rfl ?_
  refine go_if_lt 11 d_Np_deduce_1 (by decide) (fun q4 => ?_) (fun q4 => ?_)
  · rw [if_pos q4] at hf
    refine go_sub (lv' := []) [] rfl ?_
    exact g_Np_deduce_11 hd   h hf
  · rw [if_neg q4] at hf
    refine go_iload_n 1 d_Np_deduce_4 rfl ?_
    refine go_sipush (500 : Int32) d_Np_deduce_5 (by decide) ?_
    refine go_icmp_le 21 d_Np_deduce_8 (by decide) (fun q3 => ?_) (fun q3 => ?_)
    · rw [if_pos q3] at hf
      refine go_aload_n 0 d_Np_deduce_21 rfl ?_
      obtain ⟨_, e1, hf⟩ := bnd_x hf
      obtain ⟨h2, e_x2, hf⟩ := bnd_x hf
      refine go_callV_N (As := []) (st := []) (c_Np_save (d := d - 1) (by omega) e_x2) lk_Np_81 rfl rfl e1 (by decide) rfl (rm_ok (by omega)) (Nat.le_of_ble_eq_true rfl) rm_c d_Np_deduce_22 ?_
      refine go_iconst (0 : Int32) d_Np_deduce_25 (by decide) ?_
      refine go_istore_n (lv' := [(2, .int (0 : Int32)), (0, .ref a0), (1, .int i1)]) d_Np_deduce_26 rfl (by decide) ?_
      refine go_sub (lv' := [(0, .ref a0), (1, .int i1), (2, .int (0 : Int32))]) [1, 2, 0] rfl ?_
      exact t_Np_deduce_27 hd  _ a0 i1 (0 : Int32) h2 hf
    · rw [if_neg q3] at hf
      refine go_sub (lv' := []) [] rfl ?_
      exact g_Np_deduce_11 hd   h hf
theorem c_Np_deduce {l : Launch} {E : ET} {d : Nat} (hd : 66 ≤ d) {F : Nat} {r : Int32} {h9 : PH} {x : Nat} {a0 : Nat} {i1 : Int32} {h : PH} (hf : f_Np_deduce F a0 i1 h = some (.inr r, h9)) : Fn l E m_Np_deduce d 0 0 [.ref a0, .int i1] h x (PoE (some (.int r)) h9 x) :=
  Fn.of (by decide +kernel) (Nat.le_of_ble_eq_true rfl) (g_Np_deduce_0 hd a0 i1 h hf)
theorem gx_Np_deduce_11 {l : Launch} {E : ET} (hl : l.stackTraces = false) {d : Nat} (hd : 66 ≤ d) {F : Nat} {j : Nat} {h9 : PH} {x : Nat}   (h : PH) (hf : b_Np_deduce_11 F h = some (.inl j, h9)) : Go l E m_Np_deduce (rm d 1 6) (KX l E 1 6 (PXk j h9)) 0 0 h x 11 [] [] := by
  unfold b_Np_deduce_11 at hf
  obtain ⟨e8, e9⟩ := Prod.mk.inj (Option.some.inj hf)
  cases e8; subst e9
  exact go_throwS tw_122_126 (List.mem_of_getElem? (i := 9) rfl) d_Np_deduce_11 d_Np_deduce_14 d_Np_deduce_15 d_Np_deduce_17 d_Np_deduce_20 ⟨rfl, rfl⟩ (by omega) (Nat.le_of_ble_eq_true rfl)
theorem gx_Np_deduce_27 {l : Launch} {E : ET} (hl : l.stackTraces = false) {d : Nat} (hd : 66 ≤ d) {F : Nat} {j : Nat} {h9 : PH} {x : Nat} {k27 : Nat → Int32 → Int32 → PH → Option ((Nat ⊕ Int32) × PH)} (hk27 : ∀ (a0 : Nat) (i1 : Int32) (i2 : Int32) (hh : PH), k27 a0 i1 i2 hh = some (.inl j, h9) → Go l E m_Np_deduce (rm d 1 6) (KX l E 1 6 (PXk j h9)) 0 0 hh x 27 [(0, .ref a0), (1, .int i1), (2, .int i2)] []) (a0 : Nat) (i1 : Int32) (i2 : Int32) (h : PH) (hf : b_Np_deduce_27 F k27 a0 i1 i2 h = some (.inl j, h9)) : Go l E m_Np_deduce (rm d 1 6) (KX l E 1 6 (PXk j h9)) 0 0 h x 27 [(0, .ref a0), (1, .int i1), (2, .int i2)] [] := by
  unfold b_Np_deduce_27 at hf
  refine go_iload_n 2 d_Np_deduce_27 rfl ?_
  refine go_iload_n 1 d_Np_deduce_28 rfl ?_
  refine go_icmp_ge 93 d_Np_deduce_29 (by decide) (fun q20 => ?_) (fun q20 => ?_)
  · rw [if_pos q20] at hf
    refine go_iload_n 2 d_Np_deduce_93 rfl ?_
    cases (Prod.mk.inj (Option.some.inj hf)).1
  · rw [if_neg q20] at hf
    refine go_aload_n 0 d_Np_deduce_32 rfl ?_
    obtain ⟨x1, e_x1, hf⟩ := bnd_x hf
    refine go_get d_Np_deduce_33 (gR_x e_x1) fl_Np_40 ?_
    refine go_aload_n 0 d_Np_deduce_36 rfl ?_
    obtain ⟨x2, e_x2, hf⟩ := bnd_x hf
    refine go_get d_Np_deduce_37 (gR_x e_x2) fl_Np_10 ?_
    obtain ⟨x3, e_x3, hf⟩ := bnd_x hf
    refine go_get d_Np_deduce_40 (gR_x e_x3) fl_Np_68 ?_
    refine go_aload_n 0 d_Np_deduce_43 rfl ?_
    obtain ⟨x4, e_x4, hf⟩ := bnd_x hf
    refine go_get d_Np_deduce_44 (gR_x e_x4) fl_Np_10 ?_
    obtain ⟨x5, e_x5, hf⟩ := bnd_x hf
    refine go_get d_Np_deduce_47 (gR_x e_x5) fl_Np_129 ?_
    obtain ⟨_, e6, hf⟩ := bnd_x hf
    obtain ⟨x7, h8, e_x7, hf⟩ := bnd2_x hf
    refine go_callV_I (As := [.ref x3, .ref x5]) (st := []) (c_Rea_next (d := d - 1) (by omega) e_x7) lk_Np_235 rfl rfl e6 (by decide) rfl (rm_ok1 (by omega)) (Nat.le_of_ble_eq_true rfl) rm_c1 d_Np_deduce_50 ?_
    refine go_if_eq 93 d_Np_deduce_53 (by decide) (fun q19 => ?_) (fun q19 => ?_)
    · rw [if_pos q19] at hf
      refine go_iload_n 2 d_Np_deduce_93 rfl ?_
      cases (Prod.mk.inj (Option.some.inj hf)).1
    · rw [if_neg q19] at hf
      refine go_aload_n 0 d_Np_deduce_56 rfl ?_
      obtain ⟨x9, e_x9, hf⟩ := bnd_x hf
      refine go_get d_Np_deduce_57 (gR_x e_x9) fl_Np_10 ?_
      obtain ⟨x10, e_x10, hf⟩ := bnd_x hf
      refine go_get d_Np_deduce_60 (gR_x e_x10) fl_Np_105 ?_
      refine go_aload_n 0 d_Np_deduce_63 rfl ?_
      obtain ⟨x11, e_x11, hf⟩ := bnd_x hf
      refine go_get d_Np_deduce_64 (gR_x e_x11) fl_Np_40 ?_
      obtain ⟨x12, e_x12, hf⟩ := bnd_x hf
      refine go_get d_Np_deduce_67 (gI_x e_x12) fl_Np_239 ?_
      refine go_aload_n 0 d_Np_deduce_70 rfl ?_
      obtain ⟨x13, e_x13, hf⟩ := bnd_x hf
      refine go_get d_Np_deduce_71 (gR_x e_x13) fl_Np_40 ?_
      obtain ⟨x14, e_x14, hf⟩ := bnd_x hf
      refine go_get d_Np_deduce_74 (gI_x e_x14) fl_Np_242 ?_
      refine go_aload_n 0 d_Np_deduce_77 rfl ?_
      obtain ⟨x15, e_x15, hf⟩ := bnd_x hf
      refine go_get d_Np_deduce_78 (gR_x e_x15) fl_Np_40 ?_
      obtain ⟨x16, e_x16, hf⟩ := bnd_x hf
      refine go_get d_Np_deduce_81 (gI_x e_x16) fl_Np_245 ?_
      obtain ⟨_, e17, hf⟩ := bnd_x hf
      obtain ⟨h18, e_x18, hf⟩ := bnd_x hf
      refine go_callV_N (As := [.int x12, .int x14, .int x16]) (st := []) (c_Log_add (d := d - 1) (by omega) e_x18) lk_Np_248 rfl rfl e17 (by decide) rfl (rm_ok1 (by omega)) (Nat.le_of_ble_eq_true rfl) rm_c1 d_Np_deduce_84 ?_
      refine go_iinc (lv' := [(2, .int (i2 + (1 : Int32))), (0, .ref a0), (1, .int i1)]) 2 (i2 + (1 : Int32)) d_Np_deduce_87 rfl rfl rfl (by decide) ?_
      refine go_goto 27 d_Np_deduce_90 (by decide) ?_
      refine go_sub (lv' := [(0, .ref a0), (1, .int i1), (2, .int (i2 + (1 : Int32)))]) [1, 2, 0] rfl ?_
      exact hk27 a0 i1 (i2 + (1 : Int32)) h18 hf
theorem tx_Np_deduce_27 {l : Launch} {E : ET} (hl : l.stackTraces = false) {d : Nat} (hd : 66 ≤ d) {F : Nat} {j : Nat} {h9 : PH} {x : Nat}  : ∀ (n : Nat) (a0 : Nat) (i1 : Int32) (i2 : Int32) (hh : PH), f_Np_deduce_27 F n a0 i1 i2 hh = some (.inl j, h9) → Go l E m_Np_deduce (rm d 1 6) (KX l E 1 6 (PXk j h9)) 0 0 hh x 27 [(0, .ref a0), (1, .int i1), (2, .int i2)] [] := by
  intro n
  induction n with
  | zero => intro v0 v1 v2 v3 hf; cases hf
  | succ n ih => intro v0 v1 v2 v3 hf; exact gx_Np_deduce_27 hl hd ih v0 v1 v2 v3 hf
theorem gx_Np_deduce_0 {l : Launch} {E : ET} (hl : l.stackTraces = false) {d : Nat} (hd : 66 ≤ d) {F : Nat} {j : Nat} {h9 : PH} {x : Nat}  (a0 : Nat) (i1 : Int32) (h : PH) (hf : f_Np_deduce F a0 i1 h = some (.inl j, h9)) : Go l E m_Np_deduce (rm d 1 6) (KX l E 1 6 (PXk j h9)) 0 0 h x 0 [(0, .ref a0), (1, .int i1)] [] := by
  unfold f_Np_deduce at hf
  refine go_iload_n 1 d_Np_deduce_0 rfl ?_
  refine go_if_lt 11 d_Np_deduce_1 (by decide) (fun q4 => ?_) (fun q4 => ?_)
  · rw [if_pos q4] at hf
    refine go_sub (lv' := []) [] rfl ?_
    exact gx_Np_deduce_11 hl hd   h hf
  · rw [if_neg q4] at hf
    refine go_iload_n 1 d_Np_deduce_4 rfl ?_
    refine go_sipush (500 : Int32) d_Np_deduce_5 (by decide) ?_
    refine go_icmp_le 21 d_Np_deduce_8 (by decide) (fun q3 => ?_) (fun q3 => ?_)
    · rw [if_pos q3] at hf
      refine go_aload_n 0 d_Np_deduce_21 rfl ?_
      obtain ⟨_, e1, hf⟩ := bnd_x hf
      obtain ⟨h2, e_x2, hf⟩ := bnd_x hf
      refine go_callV_N (As := []) (st := []) (c_Np_save (d := d - 1) (by omega) e_x2) lk_Np_81 rfl rfl e1 (by decide) rfl (rm_ok1 (by omega)) (Nat.le_of_ble_eq_true rfl) rm_c1 d_Np_deduce_22 ?_
      refine go_iconst (0 : Int32) d_Np_deduce_25 (by decide) ?_
      refine go_istore_n (lv' := [(2, .int (0 : Int32)), (0, .ref a0), (1, .int i1)]) d_Np_deduce_26 rfl (by decide) ?_
      refine go_sub (lv' := [(0, .ref a0), (1, .int i1), (2, .int (0 : Int32))]) [1, 2, 0] rfl ?_
      exact tx_Np_deduce_27 hl hd  _ a0 i1 (0 : Int32) h2 hf
    · rw [if_neg q3] at hf
      refine go_sub (lv' := []) [] rfl ?_
      exact gx_Np_deduce_11 hl hd   h hf
theorem x_Np_deduce {l : Launch} {E : ET} (hl : l.stackTraces = false) {d : Nat} (hd : 66 ≤ d) {F : Nat} {j : Nat} {h9 : PH} {x : Nat} {a0 : Nat} {i1 : Int32} {h : PH} (hf : f_Np_deduce F a0 i1 h = some (.inl j, h9)) : FnT l E m_Np_deduce d [.ref a0, .int i1] h x (PXk j h9) :=
  FnT.of hl (by decide +kernel) (Nat.le_of_ble_eq_true rfl) (gx_Np_deduce_0 hl hd a0 i1 h hf)
theorem d_Np_step_0 : decode prog_1_method_18_code 0 = .ok (.iload_n 1, 1) := by decide +kernel
theorem d_Np_step_1 : decode prog_1_method_18_code 1 = .ok (.ifCond .lt 17, 3) := by decide +kernel
theorem d_Np_step_4 : decode prog_1_method_18_code 4 = .ok (.iload_n 1, 1) := by decide +kernel
theorem d_Np_step_5 : decode prog_1_method_18_code 5 = .ok (.aload_n 0, 1) := by decide +kernel
theorem d_Np_step_6 : decode prog_1_method_18_code 6 = .ok (.getfield 10, 3) := by decide +kernel
theorem d_Np_step_9 : decode prog_1_method_18_code 9 = .ok (.getfield 105, 3) := by decide +kernel
theorem d_Np_step_12 : decode prog_1_method_18_code 12 = .ok (.getfield 255, 3) := by decide +kernel
theorem d_Np_step_15 : decode prog_1_method_18_code 15 = .ok (.if_icmp .lt 14, 3) := by decide +kernel
theorem d_Np_step_18 : decode prog_1_method_18_code 18 = .ok (.new 208, 3) := by decide +kernel
theorem d_Np_step_21 : decode prog_1_method_18_code 21 = .ok (.dup, 1) := by decide +kernel
theorem d_Np_step_22 : decode prog_1_method_18_code 22 = .ok (.ldc_w 256, 3) := by decide +kernel
theorem d_Np_step_25 : decode prog_1_method_18_code 25 = .ok (.invokespecial 212, 3) := by decide +kernel
theorem d_Np_step_28 : decode prog_1_method_18_code 28 = .ok (.athrow, 1) := by decide +kernel
theorem d_Np_step_29 : decode prog_1_method_18_code 29 = .ok (.iload_n 2, 1) := by decide +kernel
theorem d_Np_step_30 : decode prog_1_method_18_code 30 = .ok (.iconst 2, 1) := by decide +kernel
theorem d_Np_step_31 : decode prog_1_method_18_code 31 = .ok (.invokestatic 199, 3) := by decide +kernel
theorem d_Np_step_34 : decode prog_1_method_18_code 34 = .ok (.aload_n 0, 1) := by decide +kernel
theorem d_Np_step_35 : decode prog_1_method_18_code 35 = .ok (.getfield 10, 3) := by decide +kernel
theorem d_Np_step_38 : decode prog_1_method_18_code 38 = .ok (.getfield 105, 3) := by decide +kernel
theorem d_Np_step_41 : decode prog_1_method_18_code 41 = .ok (.iload_n 1, 1) := by decide +kernel
theorem d_Np_step_42 : decode prog_1_method_18_code 42 = .ok (.iload_n 2, 1) := by decide +kernel
theorem d_Np_step_43 : decode prog_1_method_18_code 43 = .ok (.invokevirtual 258, 3) := by decide +kernel
theorem d_Np_step_46 : decode prog_1_method_18_code 46 = .ok (.ireturn, 1) := by decide +kernel
def b_Np_step_18 (h : PH) : Option ((Nat ⊕ Int32) × PH) :=
  some (.inl 0, h)
theorem g_Np_step_18 {l : Launch} {E : ET} {d : Nat} (hd : 7 ≤ d) {r : Int32} {h9 : PH} {x : Nat}   (h : PH) (hf : b_Np_step_18 h = some (.inr r, h9)) : Go l E m_Np_step (rm d 0 0) (KM E 0 0 (PoE (some (.int r)) h9 x)) 0 0 h x 18 [] [] := by
  unfold b_Np_step_18 at hf
  cases (Prod.mk.inj (Option.some.inj hf)).1
def f_Np_step (a0 : Nat) (i1 : Int32) (i2 : Int32) (h : PH) : Option ((Nat ⊕ Int32) × PH) :=
  (if i1 < (0 : Int32) then b_Np_step_18 h else bnd (gR h a0 9 0) fun x1 => bnd (gR h x1 8 3) fun x2 => bnd (gI h x2 0 2) fun x3 => (if i1 < x3 then bndT (f_Np_checkWhat i2 (2 : Int32) h) fun x4 h5 => bnd (gR h5 a0 9 0) fun x6 => bnd (gR h5 x6 8 3) fun x7 => bnd (cK h5 x7 0) fun _ => bnd (f_Log_valueAt x7 i1 i2 h5) fun x9 => some (.inr x9, h5) else b_Np_step_18 h))
theorem g_Np_step_0 {l : Launch} {E : ET} {d : Nat} (hd : 7 ≤ d) {r : Int32} {h9 : PH} {x : Nat}  (a0 : Nat) (i1 : Int32) (i2 : Int32) (h : PH) (hf : f_Np_step a0 i1 i2 h = some (.inr r, h9)) : Go l E m_Np_step (rm d 0 0) (KM E 0 0 (PoE (some (.int r)) h9 x)) 0 0 h x 0 [(0, .ref a0), (1, .int i1), (2, .int i2)] [] := by
  unfold f_Np_step at hf
  refine go_iload_n 1 d_Np_step_0 rfl ?_
  refine go_if_lt 18 d_Np_step_1 (by decide) (fun q11 => ?_) (fun q11 => ?_)
  · rw [if_pos q11] at hf
    refine go_sub (lv' := []) [] rfl ?_
    exact g_Np_step_18 hd   h hf
  · rw [if_neg q11] at hf
    refine go_iload_n 1 d_Np_step_4 rfl ?_
    refine go_aload_n 0 d_Np_step_5 rfl ?_
    obtain ⟨x1, e_x1, hf⟩ := bnd_x hf
    refine go_get d_Np_step_6 (gR_x e_x1) fl_Np_10 ?_
    obtain ⟨x2, e_x2, hf⟩ := bnd_x hf
    refine go_get d_Np_step_9 (gR_x e_x2) fl_Np_105 ?_
    obtain ⟨x3, e_x3, hf⟩ := bnd_x hf
    refine go_get d_Np_step_12 (gI_x e_x3) fl_Np_255 ?_
    refine go_icmp_lt 29 d_Np_step_15 (by decide) (fun q10 => ?_) (fun q10 => ?_)
    · rw [if_pos q10] at hf
      refine go_iload_n 2 d_Np_step_29 rfl ?_
      refine go_iconst (2 : Int32) d_Np_step_30 (by decide) ?_
      obtain ⟨x4, h5, e_x4, hf⟩ := bndT_r hf
      refine go_callS_N (As := [.int i2, .int (2 : Int32)]) (st := []) (c_Np_checkWhat (d := d - 1) (by omega) e_x4) lk_Np_199 rfl rfl (rm_ok (by omega)) (Nat.le_of_ble_eq_true rfl) rm_c d_Np_step_31 ?_
      refine go_aload_n 0 d_Np_step_34 rfl ?_
      obtain ⟨x6, e_x6, hf⟩ := bnd_x hf
      refine go_get d_Np_step_35 (gR_x e_x6) fl_Np_10 ?_
      obtain ⟨x7, e_x7, hf⟩ := bnd_x hf
      refine go_get d_Np_step_38 (gR_x e_x7) fl_Np_105 ?_
      refine go_iload_n 1 d_Np_step_41 rfl ?_
      refine go_iload_n 2 d_Np_step_42 rfl ?_
      obtain ⟨_, e8, hf⟩ := bnd_x hf
      obtain ⟨x9, e_x9, hf⟩ := bnd_x hf
      refine go_callV_I (As := [.int i1, .int i2]) (st := []) (c_Log_valueAt (d := d - 1) (by omega) e_x9) lk_Np_258 rfl rfl e8 (by decide) rfl (rm_ok (by omega)) (Nat.le_of_ble_eq_true rfl) rm_c d_Np_step_43 ?_
      obtain ⟨e8, e9⟩ := Prod.mk.inj (Option.some.inj hf)
      have e7 := Sum.inr.inj e8; subst e7; subst e9
      exact go_iret d_Np_step_46 rfl ⟨rfl, rfl, rfl⟩
    · rw [if_neg q10] at hf
      refine go_sub (lv' := []) [] rfl ?_
      exact g_Np_step_18 hd   h hf
theorem c_Np_step {l : Launch} {E : ET} {d : Nat} (hd : 7 ≤ d) {r : Int32} {h9 : PH} {x : Nat} {a0 : Nat} {i1 : Int32} {i2 : Int32} {h : PH} (hf : f_Np_step a0 i1 i2 h = some (.inr r, h9)) : Fn l E m_Np_step d 0 0 [.ref a0, .int i1, .int i2] h x (PoE (some (.int r)) h9 x) :=
  Fn.of (by decide +kernel) (Nat.le_of_ble_eq_true rfl) (g_Np_step_0 hd a0 i1 i2 h hf)
theorem gx_Np_step_18 {l : Launch} {E : ET} (hl : l.stackTraces = false) {d : Nat} (hd : 7 ≤ d) {j : Nat} {h9 : PH} {x : Nat}   (h : PH) (hf : b_Np_step_18 h = some (.inl j, h9)) : Go l E m_Np_step (rm d 1 6) (KX l E 1 6 (PXk j h9)) 0 0 h x 18 [] [] := by
  unfold b_Np_step_18 at hf
  obtain ⟨e8, e9⟩ := Prod.mk.inj (Option.some.inj hf)
  cases e8; subst e9
  exact go_throwSW tw_208_212 (List.mem_of_getElem? (i := 10) rfl) d_Np_step_18 d_Np_step_21 d_Np_step_22 d_Np_step_25 d_Np_step_28 ⟨rfl, rfl⟩ (by omega) (Nat.le_of_ble_eq_true rfl)
theorem gx_Np_step_0 {l : Launch} {E : ET} (hl : l.stackTraces = false) {d : Nat} (hd : 7 ≤ d) {j : Nat} {h9 : PH} {x : Nat}  (a0 : Nat) (i1 : Int32) (i2 : Int32) (h : PH) (hf : f_Np_step a0 i1 i2 h = some (.inl j, h9)) : Go l E m_Np_step (rm d 1 6) (KX l E 1 6 (PXk j h9)) 0 0 h x 0 [(0, .ref a0), (1, .int i1), (2, .int i2)] [] := by
  unfold f_Np_step at hf
  refine go_iload_n 1 d_Np_step_0 rfl ?_
  refine go_if_lt 18 d_Np_step_1 (by decide) (fun q11 => ?_) (fun q11 => ?_)
  · rw [if_pos q11] at hf
    refine go_sub (lv' := []) [] rfl ?_
    exact gx_Np_step_18 hl hd   h hf
  · rw [if_neg q11] at hf
    refine go_iload_n 1 d_Np_step_4 rfl ?_
    refine go_aload_n 0 d_Np_step_5 rfl ?_
    obtain ⟨x1, e_x1, hf⟩ := bnd_x hf
    refine go_get d_Np_step_6 (gR_x e_x1) fl_Np_10 ?_
    obtain ⟨x2, e_x2, hf⟩ := bnd_x hf
    refine go_get d_Np_step_9 (gR_x e_x2) fl_Np_105 ?_
    obtain ⟨x3, e_x3, hf⟩ := bnd_x hf
    refine go_get d_Np_step_12 (gI_x e_x3) fl_Np_255 ?_
    refine go_icmp_lt 29 d_Np_step_15 (by decide) (fun q10 => ?_) (fun q10 => ?_)
    · rw [if_pos q10] at hf
      refine go_iload_n 2 d_Np_step_29 rfl ?_
      refine go_iconst (2 : Int32) d_Np_step_30 (by decide) ?_
      rcases bndT_l hf with e_x4 | ⟨x4, h5, e_x4, hf⟩
      · exact go_tcallS (As := [.int i2, .int (2 : Int32)]) (st := []) (x_Np_checkWhat hl (d := d - 1) (by omega) e_x4) lk_Np_199 rfl rfl (rm_ok1 (by omega)) (Nat.le_of_ble_eq_true rfl) d_Np_step_31
      refine go_callS_N (As := [.int i2, .int (2 : Int32)]) (st := []) (c_Np_checkWhat (d := d - 1) (by omega) e_x4) lk_Np_199 rfl rfl (rm_ok1 (by omega)) (Nat.le_of_ble_eq_true rfl) rm_c1 d_Np_step_31 ?_
      refine go_aload_n 0 d_Np_step_34 rfl ?_
      obtain ⟨x6, e_x6, hf⟩ := bnd_x hf
      refine go_get d_Np_step_35 (gR_x e_x6) fl_Np_10 ?_
      obtain ⟨x7, e_x7, hf⟩ := bnd_x hf
      refine go_get d_Np_step_38 (gR_x e_x7) fl_Np_105 ?_
      refine go_iload_n 1 d_Np_step_41 rfl ?_
      refine go_iload_n 2 d_Np_step_42 rfl ?_
      obtain ⟨_, e8, hf⟩ := bnd_x hf
      obtain ⟨x9, e_x9, hf⟩ := bnd_x hf
      refine go_callV_I (As := [.int i1, .int i2]) (st := []) (c_Log_valueAt (d := d - 1) (by omega) e_x9) lk_Np_258 rfl rfl e8 (by decide) rfl (rm_ok1 (by omega)) (Nat.le_of_ble_eq_true rfl) rm_c1 d_Np_step_43 ?_
      cases (Prod.mk.inj (Option.some.inj hf)).1
    · rw [if_neg q10] at hf
      refine go_sub (lv' := []) [] rfl ?_
      exact gx_Np_step_18 hl hd   h hf
theorem x_Np_step {l : Launch} {E : ET} (hl : l.stackTraces = false) {d : Nat} (hd : 7 ≤ d) {j : Nat} {h9 : PH} {x : Nat} {a0 : Nat} {i1 : Int32} {i2 : Int32} {h : PH} (hf : f_Np_step a0 i1 i2 h = some (.inl j, h9)) : FnT l E m_Np_step d [.ref a0, .int i1, .int i2] h x (PXk j h9) :=
  FnT.of hl (by decide +kernel) (Nat.le_of_ble_eq_true rfl) (gx_Np_step_0 hl hd a0 i1 i2 h hf)
theorem d_Np_needs_0 : decode prog_1_method_19_code 0 = .ok (.iload_n 1, 1) := by decide +kernel
theorem d_Np_needs_1 : decode prog_1_method_19_code 1 = .ok (.iconst 1, 1) := by decide +kernel
theorem d_Np_needs_2 : decode prog_1_method_19_code 2 = .ok (.if_icmp .lt 9, 3) := by decide +kernel
theorem d_Np_needs_5 : decode prog_1_method_19_code 5 = .ok (.iload_n 1, 1) := by decide +kernel
theorem d_Np_needs_6 : decode prog_1_method_19_code 6 = .ok (.bipush 7, 2) := by decide +kernel
theorem d_Np_needs_8 : decode prog_1_method_19_code 8 = .ok (.if_icmp .le 14, 3) := by decide +kernel
theorem d_Np_needs_11 : decode prog_1_method_19_code 11 = .ok (.new 122, 3) := by decide +kernel
theorem d_Np_needs_14 : decode prog_1_method_19_code 14 = .ok (.dup, 1) := by decide +kernel
theorem d_Np_needs_15 : decode prog_1_method_19_code 15 = .ok (.ldc_w 261, 3) := by decide +kernel
theorem d_Np_needs_18 : decode prog_1_method_19_code 18 = .ok (.invokespecial 126, 3) := by decide +kernel
theorem d_Np_needs_21 : decode prog_1_method_19_code 21 = .ok (.athrow, 1) := by decide +kernel
theorem d_Np_needs_22 : decode prog_1_method_19_code 22 = .ok (.aload_n 0, 1) := by decide +kernel
theorem d_Np_needs_23 : decode prog_1_method_19_code 23 = .ok (.getfield 33, 3) := by decide +kernel
theorem d_Np_needs_26 : decode prog_1_method_19_code 26 = .ok (.aload_n 0, 1) := by decide +kernel
theorem d_Np_needs_27 : decode prog_1_method_19_code 27 = .ok (.getfield 10, 3) := by decide +kernel
theorem d_Np_needs_30 : decode prog_1_method_19_code 30 = .ok (.getfield 68, 3) := by decide +kernel
theorem d_Np_needs_33 : decode prog_1_method_19_code 33 = .ok (.invokevirtual 251, 3) := by decide +kernel
theorem d_Np_needs_36 : decode prog_1_method_19_code 36 = .ok (.iconst 0, 1) := by decide +kernel
theorem d_Np_needs_37 : decode prog_1_method_19_code 37 = .ok (.istore_n 2, 1) := by decide +kernel
theorem d_Np_needs_38 : decode prog_1_method_19_code 38 = .ok (.iconst 0, 1) := by decide +kernel
theorem d_Np_needs_39 : decode prog_1_method_19_code 39 = .ok (.istore_n 3, 1) := by decide +kernel
theorem d_Np_needs_40 : decode prog_1_method_19_code 40 = .ok (.iload_n 3, 1) := by decide +kernel
theorem d_Np_needs_41 : decode prog_1_method_19_code 41 = .ok (.sipush 500, 3) := by decide +kernel
theorem d_Np_needs_44 : decode prog_1_method_19_code 44 = .ok (.if_icmp .ge 51, 3) := by decide +kernel
theorem d_Np_needs_47 : decode prog_1_method_19_code 47 = .ok (.aload_n 0, 1) := by decide +kernel
theorem d_Np_needs_48 : decode prog_1_method_19_code 48 = .ok (.getfield 40, 3) := by decide +kernel
theorem d_Np_needs_51 : decode prog_1_method_19_code 51 = .ok (.aload_n 0, 1) := by decide +kernel
theorem d_Np_needs_52 : decode prog_1_method_19_code 52 = .ok (.getfield 33, 3) := by decide +kernel
theorem d_Np_needs_55 : decode prog_1_method_19_code 55 = .ok (.aload_n 0, 1) := by decide +kernel
theorem d_Np_needs_56 : decode prog_1_method_19_code 56 = .ok (.getfield 10, 3) := by decide +kernel
theorem d_Np_needs_59 : decode prog_1_method_19_code 59 = .ok (.getfield 129, 3) := by decide +kernel
theorem d_Np_needs_62 : decode prog_1_method_19_code 62 = .ok (.invokevirtual 235, 3) := by decide +kernel
theorem d_Np_needs_65 : decode prog_1_method_19_code 65 = .ok (.istore 4, 2) := by decide +kernel
theorem d_Np_needs_67 : decode prog_1_method_19_code 67 = .ok (.iload 4, 2) := by decide +kernel
theorem d_Np_needs_69 : decode prog_1_method_19_code 69 = .ok (.ifCond .ne 6, 3) := by decide +kernel
theorem d_Np_needs_72 : decode prog_1_method_19_code 72 = .ok (.goto 23, 3) := by decide +kernel
theorem d_Np_needs_75 : decode prog_1_method_19_code 75 = .ok (.iload_n 2, 1) := by decide +kernel
theorem d_Np_needs_76 : decode prog_1_method_19_code 76 = .ok (.iload 4, 2) := by decide +kernel
theorem d_Np_needs_78 : decode prog_1_method_19_code 78 = .ok (.iload_n 1, 1) := by decide +kernel
theorem d_Np_needs_79 : decode prog_1_method_19_code 79 = .ok (.if_icmp .ne 7, 3) := by decide +kernel
theorem d_Np_needs_82 : decode prog_1_method_19_code 82 = .ok (.iconst 1, 1) := by decide +kernel
theorem d_Np_needs_83 : decode prog_1_method_19_code 83 = .ok (.goto 4, 3) := by decide +kernel
theorem d_Np_needs_86 : decode prog_1_method_19_code 86 = .ok (.iconst 0, 1) := by decide +kernel
theorem d_Np_needs_87 : decode prog_1_method_19_code 87 = .ok (.iadd, 1) := by decide +kernel
theorem d_Np_needs_88 : decode prog_1_method_19_code 88 = .ok (.istore_n 2, 1) := by decide +kernel
theorem d_Np_needs_89 : decode prog_1_method_19_code 89 = .ok (.iinc 3 1, 3) := by decide +kernel
theorem d_Np_needs_92 : decode prog_1_method_19_code 92 = .ok (.goto (-52), 3) := by decide +kernel
theorem d_Np_needs_95 : decode prog_1_method_19_code 95 = .ok (.iload_n 2, 1) := by decide +kernel
theorem d_Np_needs_96 : decode prog_1_method_19_code 96 = .ok (.ireturn, 1) := by decide +kernel
def b_Np_needs_11 (F : Nat) (h : PH) : Option ((Nat ⊕ Int32) × PH) :=
  some (.inl 1, h)
theorem g_Np_needs_11 {l : Launch} {E : ET} {d : Nat} (hd : 66 ≤ d) {F : Nat} {r : Int32} {h9 : PH} {x : Nat}   (h : PH) (hf : b_Np_needs_11 F h = some (.inr r, h9)) : Go l E m_Np_needs (rm d 0 0) (KM E 0 0 (PoE (some (.int r)) h9 x)) 0 0 h x 11 [] [] := by
  unfold b_Np_needs_11 at hf
  cases (Prod.mk.inj (Option.some.inj hf)).1
def b_Np_needs_87 (F : Nat) (k40 : Nat → Int32 → Int32 → Int32 → PH → Option ((Nat ⊕ Int32) × PH)) (a0 : Nat) (i1 : Int32) (i3 : Int32) (s0 : Int32) (s1 : Int32) (h : PH) : Option ((Nat ⊕ Int32) × PH) :=
  k40 a0 i1 (s1 + s0) (i3 + (1 : Int32)) h
theorem g_Np_needs_87 {l : Launch} {E : ET} {d : Nat} (hd : 66 ≤ d) {F : Nat} {r : Int32} {h9 : PH} {x : Nat} {k40 : Nat → Int32 → Int32 → Int32 → PH → Option ((Nat ⊕ Int32) × PH)} (hk40 : ∀ (a0 : Nat) (i1 : Int32) (i2 : Int32) (i3 : Int32) (hh : PH), k40 a0 i1 i2 i3 hh = some (.inr r, h9) → Go l E m_Np_needs (rm d 0 0) (KM E 0 0 (PoE (some (.int r)) h9 x)) 0 0 hh x 40 [(0, .ref a0), (1, .int i1), (2, .int i2), (3, .int i3)] []) (a0 : Nat) (i1 : Int32) (i3 : Int32) (s0 : Int32) (s1 : Int32) (h : PH) (hf : b_Np_needs_87 F k40 a0 i1 i3 s0 s1 h = some (.inr r, h9)) : Go l E m_Np_needs (rm d 0 0) (KM E 0 0 (PoE (some (.int r)) h9 x)) 0 0 h x 87 [(0, .ref a0), (1, .int i1), (3, .int i3)] [.int s0, .int s1] := by
  unfold b_Np_needs_87 at hf
  refine go_iadd d_Np_needs_87 ?_
  refine go_istore_n (lv' := [(2, .int (s1 + s0)), (0, .ref a0), (1, .int i1), (3, .int i3)]) d_Np_needs_88 rfl (by decide) ?_
  refine go_iinc (lv' := [(3, .int (i3 + (1 : Int32))), (2, .int (s1 + s0)), (0, .ref a0), (1, .int i1)]) 3 (i3 + (1 : Int32)) d_Np_needs_89 rfl rfl rfl (by decide) ?_
  refine go_goto 40 d_Np_needs_92 (by decide) ?_
  refine go_sub (lv' := [(0, .ref a0), (1, .int i1), (2, .int (s1 + s0)), (3, .int (i3 + (1 : Int32)))]) [2, 3, 1, 0] rfl ?_
  exact hk40 a0 i1 (s1 + s0) (i3 + (1 : Int32)) h hf
def b_Np_needs_40 (F : Nat) (k40 : Nat → Int32 → Int32 → Int32 → PH → Option ((Nat ⊕ Int32) × PH)) (a0 : Nat) (i1 : Int32) (i2 : Int32) (i3 : Int32) (h : PH) : Option ((Nat ⊕ Int32) × PH) :=
  (if (500 : Int32) ≤ i3 then some (.inr i2, h) else bnd (gR h a0 9 7) fun x1 => bnd (gR h a0 9 6) fun x2 => bnd (gR h a0 9 0) fun x3 => bnd (gR h x3 8 1) fun x4 => bnd (cK h x1 3) fun _ => bnd2 (f_Rea_next F x1 x2 x4 h) fun x6 h7 => (if x6 = (0 : Int32) then some (.inr i2, h7) else (if x6 = i1 then b_Np_needs_87 F k40 a0 i1 i3 (1 : Int32) i2 h7 else b_Np_needs_87 F k40 a0 i1 i3 (0 : Int32) i2 h7)))
def f_Np_needs_40 (F : Nat) : Nat → Nat → Int32 → Int32 → Int32 → PH → Option ((Nat ⊕ Int32) × PH)
  | 0 => fun _ _ _ _ _ => none
  | n + 1 => b_Np_needs_40 F (f_Np_needs_40 F n)
theorem g_Np_needs_40 {l : Launch} {E : ET} {d : Nat} (hd : 66 ≤ d) {F : Nat} {r : Int32} {h9 : PH} {x : Nat} {k40 : Nat → Int32 → Int32 → Int32 → PH → Option ((Nat ⊕ Int32) × PH)} (hk40 : ∀ (a0 : Nat) (i1 : Int32) (i2 : Int32) (i3 : Int32) (hh : PH), k40 a0 i1 i2 i3 hh = some (.inr r, h9) → Go l E m_Np_needs (rm d 0 0) (KM E 0 0 (PoE (some (.int r)) h9 x)) 0 0 hh x 40 [(0, .ref a0), (1, .int i1), (2, .int i2), (3, .int i3)] []) (a0 : Nat) (i1 : Int32) (i2 : Int32) (i3 : Int32) (h : PH) (hf : b_Np_needs_40 F k40 a0 i1 i2 i3 h = some (.inr r, h9)) : Go l E m_Np_needs (rm d 0 0) (KM E 0 0 (PoE (some (.int r)) h9 x)) 0 0 h x 40 [(0, .ref a0), (1, .int i1), (2, .int i2), (3, .int i3)] [] := by
  unfold b_Np_needs_40 at hf
  refine go_iload_n 3 d_Np_needs_40 rfl ?_
  refine go_sipush (500 : Int32) d_Np_needs_41 (by decide) ?_
  refine go_icmp_ge 95 d_Np_needs_44 (by decide) (fun q10 => ?_) (fun q10 => ?_)
  · rw [if_pos q10] at hf
    refine go_iload_n 2 d_Np_needs_95 rfl ?_
    obtain ⟨e8, e9⟩ := Prod.mk.inj (Option.some.inj hf)
    have e7 := Sum.inr.inj e8; subst e7; subst e9
    exact go_iret d_Np_needs_96 rfl ⟨rfl, rfl, rfl⟩
  · rw [if_neg q10] at hf
    refine go_aload_n 0 d_Np_needs_47 rfl ?_
    obtain ⟨x1, e_x1, hf⟩ := bnd_x hf
    refine go_get d_Np_needs_48 (gR_x e_x1) fl_Np_40 ?_
    refine go_aload_n 0 d_Np_needs_51 rfl ?_
    obtain ⟨x2, e_x2, hf⟩ := bnd_x hf
    refine go_get d_Np_needs_52 (gR_x e_x2) fl_Np_33 ?_
    refine go_aload_n 0 d_Np_needs_55 rfl ?_
    obtain ⟨x3, e_x3, hf⟩ := bnd_x hf
    refine go_get d_Np_needs_56 (gR_x e_x3) fl_Np_10 ?_
    obtain ⟨x4, e_x4, hf⟩ := bnd_x hf
    refine go_get d_Np_needs_59 (gR_x e_x4) fl_Np_129 ?_
    obtain ⟨_, e5, hf⟩ := bnd_x hf
    obtain ⟨x6, h7, e_x6, hf⟩ := bnd2_x hf
    refine go_callV_I (As := [.ref x2, .ref x4]) (st := []) (c_Rea_next (d := d - 1) (by omega) e_x6) lk_Np_235 rfl rfl e5 (by decide) rfl (rm_ok (by omega)) (Nat.le_of_ble_eq_true rfl) rm_c d_Np_needs_62 ?_
    refine go_istore (lv' := [(4, .int x6), (0, .ref a0), (1, .int i1), (2, .int i2), (3, .int i3)]) d_Np_needs_65 rfl (by decide) ?_
    refine go_iload 0 d_Np_needs_67 rfl ?_
    refine go_if_ne 75 d_Np_needs_69 (by decide) (fun q9 => ?_) (fun q9 => ?_)
    · rw [if_neg q9] at hf
      refine go_iload_n 3 d_Np_needs_75 rfl ?_
      refine go_iload 0 d_Np_needs_76 rfl ?_
      refine go_iload_n 2 d_Np_needs_78 rfl ?_
      refine go_icmp_ne 86 d_Np_needs_79 (by decide) (fun q8 => ?_) (fun q8 => ?_)
      · rw [if_neg q8] at hf
        refine go_iconst (0 : Int32) d_Np_needs_86 (by decide) ?_
        refine go_sub (lv' := [(0, .ref a0), (1, .int i1), (3, .int i3)]) [1, 2, 4] rfl ?_
        exact g_Np_needs_87 hd hk40 a0 i1 i3 (0 : Int32) i2 h7 hf
      · rw [if_pos q8] at hf
        refine go_iconst (1 : Int32) d_Np_needs_82 (by decide) ?_
        refine go_goto 87 d_Np_needs_83 (by decide) ?_
        refine go_sub (lv' := [(0, .ref a0), (1, .int i1), (3, .int i3)]) [1, 2, 4] rfl ?_
        exact g_Np_needs_87 hd hk40 a0 i1 i3 (1 : Int32) i2 h7 hf
    · rw [if_pos q9] at hf
      refine go_goto 95 d_Np_needs_72 (by decide) ?_
      refine go_iload_n 3 d_Np_needs_95 rfl ?_
      obtain ⟨e8, e9⟩ := Prod.mk.inj (Option.some.inj hf)
      have e7 := Sum.inr.inj e8; subst e7; subst e9
      exact go_iret d_Np_needs_96 rfl ⟨rfl, rfl, rfl⟩
theorem t_Np_needs_40 {l : Launch} {E : ET} {d : Nat} (hd : 66 ≤ d) {F : Nat} {r : Int32} {h9 : PH} {x : Nat}  : ∀ (n : Nat) (a0 : Nat) (i1 : Int32) (i2 : Int32) (i3 : Int32) (hh : PH), f_Np_needs_40 F n a0 i1 i2 i3 hh = some (.inr r, h9) → Go l E m_Np_needs (rm d 0 0) (KM E 0 0 (PoE (some (.int r)) h9 x)) 0 0 hh x 40 [(0, .ref a0), (1, .int i1), (2, .int i2), (3, .int i3)] [] := by
  intro n
  induction n with
  | zero => intro v0 v1 v2 v3 v4 hf; cases hf
  | succ n ih => intro v0 v1 v2 v3 v4 hf; exact g_Np_needs_40 hd ih v0 v1 v2 v3 v4 hf
def f_Np_needs (F : Nat) (a0 : Nat) (i1 : Int32) (h : PH) : Option ((Nat ⊕ Int32) × PH) :=
  (if i1 < (1 : Int32) then b_Np_needs_11 F h else (if i1 ≤ (7 : Int32) then bnd (gR h a0 9 6) fun x1 => bnd (gR h a0 9 0) fun x2 => bnd (gR h x2 8 0) fun x3 => bnd (cK h x1 1) fun _ => bnd (f_Pos_copyFrom x1 x3 h) fun h5 => f_Np_needs_40 F F a0 i1 (0 : Int32) (0 : Int32) h5 else b_Np_needs_11 F h))
theorem g_Np_needs_0 {l : Launch} {E : ET} {d : Nat} (hd : 66 ≤ d) {F : Nat} {r : Int32} {h9 : PH} {x : Nat}  (a0 : Nat) (i1 : Int32) (h : PH) (hf : f_Np_needs F a0 i1 h = some (.inr r, h9)) : Go l E m_Np_needs (rm d 0 0) (KM E 0 0 (PoE (some (.int r)) h9 x)) 0 0 h x 0 [(0, .ref a0), (1, .int i1)] [] := by
  unfold f_Np_needs at hf
  refine go_iload_n 1 d_Np_needs_0 rfl ?_
  refine go_iconst (1 : Int32) d_Np_needs_1 (by decide) ?_
  refine go_icmp_lt 11 d_Np_needs_2 (by decide) (fun q7 => ?_) (fun q7 => ?_)
  · rw [if_pos q7] at hf
    refine go_sub (lv' := []) [] rfl ?_
    exact g_Np_needs_11 hd   h hf
  · rw [if_neg q7] at hf
    refine go_iload_n 1 d_Np_needs_5 rfl ?_
    refine go_bipush (7 : Int32) d_Np_needs_6 (by decide) ?_
    refine go_icmp_le 22 d_Np_needs_8 (by decide) (fun q6 => ?_) (fun q6 => ?_)
    · rw [if_pos q6] at hf
      refine go_aload_n 0 d_Np_needs_22 rfl ?_
      obtain ⟨x1, e_x1, hf⟩ := bnd_x hf
      refine go_get d_Np_needs_23 (gR_x e_x1) fl_Np_33 ?_
      refine go_aload_n 0 d_Np_needs_26 rfl ?_
      obtain ⟨x2, e_x2, hf⟩ := bnd_x hf
      refine go_get d_Np_needs_27 (gR_x e_x2) fl_Np_10 ?_
      obtain ⟨x3, e_x3, hf⟩ := bnd_x hf
      refine go_get d_Np_needs_30 (gR_x e_x3) fl_Np_68 ?_
      obtain ⟨_, e4, hf⟩ := bnd_x hf
      obtain ⟨h5, e_x5, hf⟩ := bnd_x hf
      refine go_callV_N (As := [.ref x3]) (st := []) (c_Pos_copyFrom (d := d - 1) (by omega) e_x5) lk_Np_251 rfl rfl e4 (by decide) rfl (rm_ok (by omega)) (Nat.le_of_ble_eq_true rfl) rm_c d_Np_needs_33 ?_
      refine go_iconst (0 : Int32) d_Np_needs_36 (by decide) ?_
      refine go_istore_n (lv' := [(2, .int (0 : Int32)), (0, .ref a0), (1, .int i1)]) d_Np_needs_37 rfl (by decide) ?_
      refine go_iconst (0 : Int32) d_Np_needs_38 (by decide) ?_
      refine go_istore_n (lv' := [(3, .int (0 : Int32)), (2, .int (0 : Int32)), (0, .ref a0), (1, .int i1)]) d_Np_needs_39 rfl (by decide) ?_
      refine go_sub (lv' := [(0, .ref a0), (1, .int i1), (2, .int (0 : Int32)), (3, .int (0 : Int32))]) [2, 3, 1, 0] rfl ?_
      exact t_Np_needs_40 hd  _ a0 i1 (0 : Int32) (0 : Int32) h5 hf
    · rw [if_neg q6] at hf
      refine go_sub (lv' := []) [] rfl ?_
      exact g_Np_needs_11 hd   h hf
theorem c_Np_needs {l : Launch} {E : ET} {d : Nat} (hd : 66 ≤ d) {F : Nat} {r : Int32} {h9 : PH} {x : Nat} {a0 : Nat} {i1 : Int32} {h : PH} (hf : f_Np_needs F a0 i1 h = some (.inr r, h9)) : Fn l E m_Np_needs d 0 0 [.ref a0, .int i1] h x (PoE (some (.int r)) h9 x) :=
  Fn.of (by decide +kernel) (Nat.le_of_ble_eq_true rfl) (g_Np_needs_0 hd a0 i1 h hf)
theorem gx_Np_needs_11 {l : Launch} {E : ET} (hl : l.stackTraces = false) {d : Nat} (hd : 66 ≤ d) {F : Nat} {j : Nat} {h9 : PH} {x : Nat}   (h : PH) (hf : b_Np_needs_11 F h = some (.inl j, h9)) : Go l E m_Np_needs (rm d 1 6) (KX l E 1 6 (PXk j h9)) 0 0 h x 11 [] [] := by
  unfold b_Np_needs_11 at hf
  obtain ⟨e8, e9⟩ := Prod.mk.inj (Option.some.inj hf)
  cases e8; subst e9
  exact go_throwSW tw_122_126 (List.mem_of_getElem? (i := 11) rfl) d_Np_needs_11 d_Np_needs_14 d_Np_needs_15 d_Np_needs_18 d_Np_needs_21 ⟨rfl, rfl⟩ (by omega) (Nat.le_of_ble_eq_true rfl)
theorem gx_Np_needs_87 {l : Launch} {E : ET} (hl : l.stackTraces = false) {d : Nat} (hd : 66 ≤ d) {F : Nat} {j : Nat} {h9 : PH} {x : Nat} {k40 : Nat → Int32 → Int32 → Int32 → PH → Option ((Nat ⊕ Int32) × PH)} (hk40 : ∀ (a0 : Nat) (i1 : Int32) (i2 : Int32) (i3 : Int32) (hh : PH), k40 a0 i1 i2 i3 hh = some (.inl j, h9) → Go l E m_Np_needs (rm d 1 6) (KX l E 1 6 (PXk j h9)) 0 0 hh x 40 [(0, .ref a0), (1, .int i1), (2, .int i2), (3, .int i3)] []) (a0 : Nat) (i1 : Int32) (i3 : Int32) (s0 : Int32) (s1 : Int32) (h : PH) (hf : b_Np_needs_87 F k40 a0 i1 i3 s0 s1 h = some (.inl j, h9)) : Go l E m_Np_needs (rm d 1 6) (KX l E 1 6 (PXk j h9)) 0 0 h x 87 [(0, .ref a0), (1, .int i1), (3, .int i3)] [.int s0, .int s1] := by
  unfold b_Np_needs_87 at hf
  refine go_iadd d_Np_needs_87 ?_
  refine go_istore_n (lv' := [(2, .int (s1 + s0)), (0, .ref a0), (1, .int i1), (3, .int i3)]) d_Np_needs_88 rfl (by decide) ?_
  refine go_iinc (lv' := [(3, .int (i3 + (1 : Int32))), (2, .int (s1 + s0)), (0, .ref a0), (1, .int i1)]) 3 (i3 + (1 : Int32)) d_Np_needs_89 rfl rfl rfl (by decide) ?_
  refine go_goto 40 d_Np_needs_92 (by decide) ?_
  refine go_sub (lv' := [(0, .ref a0), (1, .int i1), (2, .int (s1 + s0)), (3, .int (i3 + (1 : Int32)))]) [2, 3, 1, 0] rfl ?_
  exact hk40 a0 i1 (s1 + s0) (i3 + (1 : Int32)) h hf
theorem gx_Np_needs_40 {l : Launch} {E : ET} (hl : l.stackTraces = false) {d : Nat} (hd : 66 ≤ d) {F : Nat} {j : Nat} {h9 : PH} {x : Nat} {k40 : Nat → Int32 → Int32 → Int32 → PH → Option ((Nat ⊕ Int32) × PH)} (hk40 : ∀ (a0 : Nat) (i1 : Int32) (i2 : Int32) (i3 : Int32) (hh : PH), k40 a0 i1 i2 i3 hh = some (.inl j, h9) → Go l E m_Np_needs (rm d 1 6) (KX l E 1 6 (PXk j h9)) 0 0 hh x 40 [(0, .ref a0), (1, .int i1), (2, .int i2), (3, .int i3)] []) (a0 : Nat) (i1 : Int32) (i2 : Int32) (i3 : Int32) (h : PH) (hf : b_Np_needs_40 F k40 a0 i1 i2 i3 h = some (.inl j, h9)) : Go l E m_Np_needs (rm d 1 6) (KX l E 1 6 (PXk j h9)) 0 0 h x 40 [(0, .ref a0), (1, .int i1), (2, .int i2), (3, .int i3)] [] := by
  unfold b_Np_needs_40 at hf
  refine go_iload_n 3 d_Np_needs_40 rfl ?_
  refine go_sipush (500 : Int32) d_Np_needs_41 (by decide) ?_
  refine go_icmp_ge 95 d_Np_needs_44 (by decide) (fun q10 => ?_) (fun q10 => ?_)
  · rw [if_pos q10] at hf
    refine go_iload_n 2 d_Np_needs_95 rfl ?_
    cases (Prod.mk.inj (Option.some.inj hf)).1
  · rw [if_neg q10] at hf
    refine go_aload_n 0 d_Np_needs_47 rfl ?_
    obtain ⟨x1, e_x1, hf⟩ := bnd_x hf
    refine go_get d_Np_needs_48 (gR_x e_x1) fl_Np_40 ?_
    refine go_aload_n 0 d_Np_needs_51 rfl ?_
    obtain ⟨x2, e_x2, hf⟩ := bnd_x hf
    refine go_get d_Np_needs_52 (gR_x e_x2) fl_Np_33 ?_
    refine go_aload_n 0 d_Np_needs_55 rfl ?_
    obtain ⟨x3, e_x3, hf⟩ := bnd_x hf
    refine go_get d_Np_needs_56 (gR_x e_x3) fl_Np_10 ?_
    obtain ⟨x4, e_x4, hf⟩ := bnd_x hf
    refine go_get d_Np_needs_59 (gR_x e_x4) fl_Np_129 ?_
    obtain ⟨_, e5, hf⟩ := bnd_x hf
    obtain ⟨x6, h7, e_x6, hf⟩ := bnd2_x hf
    refine go_callV_I (As := [.ref x2, .ref x4]) (st := []) (c_Rea_next (d := d - 1) (by omega) e_x6) lk_Np_235 rfl rfl e5 (by decide) rfl (rm_ok1 (by omega)) (Nat.le_of_ble_eq_true rfl) rm_c1 d_Np_needs_62 ?_
    refine go_istore (lv' := [(4, .int x6), (0, .ref a0), (1, .int i1), (2, .int i2), (3, .int i3)]) d_Np_needs_65 rfl (by decide) ?_
    refine go_iload 0 d_Np_needs_67 rfl ?_
    refine go_if_ne 75 d_Np_needs_69 (by decide) (fun q9 => ?_) (fun q9 => ?_)
    · rw [if_neg q9] at hf
      refine go_iload_n 3 d_Np_needs_75 rfl ?_
      refine go_iload 0 d_Np_needs_76 rfl ?_
      refine go_iload_n 2 d_Np_needs_78 rfl ?_
      refine go_icmp_ne 86 d_Np_needs_79 (by decide) (fun q8 => ?_) (fun q8 => ?_)
      · rw [if_neg q8] at hf
        refine go_iconst (0 : Int32) d_Np_needs_86 (by decide) ?_
        refine go_sub (lv' := [(0, .ref a0), (1, .int i1), (3, .int i3)]) [1, 2, 4] rfl ?_
        exact gx_Np_needs_87 hl hd hk40 a0 i1 i3 (0 : Int32) i2 h7 hf
      · rw [if_pos q8] at hf
        refine go_iconst (1 : Int32) d_Np_needs_82 (by decide) ?_
        refine go_goto 87 d_Np_needs_83 (by decide) ?_
        refine go_sub (lv' := [(0, .ref a0), (1, .int i1), (3, .int i3)]) [1, 2, 4] rfl ?_
        exact gx_Np_needs_87 hl hd hk40 a0 i1 i3 (1 : Int32) i2 h7 hf
    · rw [if_pos q9] at hf
      refine go_goto 95 d_Np_needs_72 (by decide) ?_
      refine go_iload_n 3 d_Np_needs_95 rfl ?_
      cases (Prod.mk.inj (Option.some.inj hf)).1
theorem tx_Np_needs_40 {l : Launch} {E : ET} (hl : l.stackTraces = false) {d : Nat} (hd : 66 ≤ d) {F : Nat} {j : Nat} {h9 : PH} {x : Nat}  : ∀ (n : Nat) (a0 : Nat) (i1 : Int32) (i2 : Int32) (i3 : Int32) (hh : PH), f_Np_needs_40 F n a0 i1 i2 i3 hh = some (.inl j, h9) → Go l E m_Np_needs (rm d 1 6) (KX l E 1 6 (PXk j h9)) 0 0 hh x 40 [(0, .ref a0), (1, .int i1), (2, .int i2), (3, .int i3)] [] := by
  intro n
  induction n with
  | zero => intro v0 v1 v2 v3 v4 hf; cases hf
  | succ n ih => intro v0 v1 v2 v3 v4 hf; exact gx_Np_needs_40 hl hd ih v0 v1 v2 v3 v4 hf
theorem gx_Np_needs_0 {l : Launch} {E : ET} (hl : l.stackTraces = false) {d : Nat} (hd : 66 ≤ d) {F : Nat} {j : Nat} {h9 : PH} {x : Nat}  (a0 : Nat) (i1 : Int32) (h : PH) (hf : f_Np_needs F a0 i1 h = some (.inl j, h9)) : Go l E m_Np_needs (rm d 1 6) (KX l E 1 6 (PXk j h9)) 0 0 h x 0 [(0, .ref a0), (1, .int i1)] [] := by
  unfold f_Np_needs at hf
  refine go_iload_n 1 d_Np_needs_0 rfl ?_
  refine go_iconst (1 : Int32) d_Np_needs_1 (by decide) ?_
  refine go_icmp_lt 11 d_Np_needs_2 (by decide) (fun q7 => ?_) (fun q7 => ?_)
  · rw [if_pos q7] at hf
    refine go_sub (lv' := []) [] rfl ?_
    exact gx_Np_needs_11 hl hd   h hf
  · rw [if_neg q7] at hf
    refine go_iload_n 1 d_Np_needs_5 rfl ?_
    refine go_bipush (7 : Int32) d_Np_needs_6 (by decide) ?_
    refine go_icmp_le 22 d_Np_needs_8 (by decide) (fun q6 => ?_) (fun q6 => ?_)
    · rw [if_pos q6] at hf
      refine go_aload_n 0 d_Np_needs_22 rfl ?_
      obtain ⟨x1, e_x1, hf⟩ := bnd_x hf
      refine go_get d_Np_needs_23 (gR_x e_x1) fl_Np_33 ?_
      refine go_aload_n 0 d_Np_needs_26 rfl ?_
      obtain ⟨x2, e_x2, hf⟩ := bnd_x hf
      refine go_get d_Np_needs_27 (gR_x e_x2) fl_Np_10 ?_
      obtain ⟨x3, e_x3, hf⟩ := bnd_x hf
      refine go_get d_Np_needs_30 (gR_x e_x3) fl_Np_68 ?_
      obtain ⟨_, e4, hf⟩ := bnd_x hf
      obtain ⟨h5, e_x5, hf⟩ := bnd_x hf
      refine go_callV_N (As := [.ref x3]) (st := []) (c_Pos_copyFrom (d := d - 1) (by omega) e_x5) lk_Np_251 rfl rfl e4 (by decide) rfl (rm_ok1 (by omega)) (Nat.le_of_ble_eq_true rfl) rm_c1 d_Np_needs_33 ?_
      refine go_iconst (0 : Int32) d_Np_needs_36 (by decide) ?_
      refine go_istore_n (lv' := [(2, .int (0 : Int32)), (0, .ref a0), (1, .int i1)]) d_Np_needs_37 rfl (by decide) ?_
      refine go_iconst (0 : Int32) d_Np_needs_38 (by decide) ?_
      refine go_istore_n (lv' := [(3, .int (0 : Int32)), (2, .int (0 : Int32)), (0, .ref a0), (1, .int i1)]) d_Np_needs_39 rfl (by decide) ?_
      refine go_sub (lv' := [(0, .ref a0), (1, .int i1), (2, .int (0 : Int32)), (3, .int (0 : Int32))]) [2, 3, 1, 0] rfl ?_
      exact tx_Np_needs_40 hl hd  _ a0 i1 (0 : Int32) (0 : Int32) h5 hf
    · rw [if_neg q6] at hf
      refine go_sub (lv' := []) [] rfl ?_
      exact gx_Np_needs_11 hl hd   h hf
theorem x_Np_needs {l : Launch} {E : ET} (hl : l.stackTraces = false) {d : Nat} (hd : 66 ≤ d) {F : Nat} {j : Nat} {h9 : PH} {x : Nat} {a0 : Nat} {i1 : Int32} {h : PH} (hf : f_Np_needs F a0 i1 h = some (.inl j, h9)) : FnT l E m_Np_needs d [.ref a0, .int i1] h x (PXk j h9) :=
  FnT.of hl (by decide +kernel) (Nat.le_of_ble_eq_true rfl) (gx_Np_needs_0 hl hd a0 i1 h hf)
theorem d_Np_solutions_0 : decode prog_1_method_20_code 0 = .ok (.iload_n 1, 1) := by decide +kernel
theorem d_Np_solutions_1 : decode prog_1_method_20_code 1 = .ok (.iconst 1, 1) := by decide +kernel
theorem d_Np_solutions_2 : decode prog_1_method_20_code 2 = .ok (.if_icmp .lt 9, 3) := by decide +kernel
theorem d_Np_solutions_5 : decode prog_1_method_20_code 5 = .ok (.iload_n 1, 1) := by decide +kernel
theorem d_Np_solutions_6 : decode prog_1_method_20_code 6 = .ok (.bipush 20, 2) := by decide +kernel
theorem d_Np_solutions_8 : decode prog_1_method_20_code 8 = .ok (.if_icmp .le 14, 3) := by decide +kernel
theorem d_Np_solutions_11 : decode prog_1_method_20_code 11 = .ok (.new 122, 3) := by decide +kernel
theorem d_Np_solutions_14 : decode prog_1_method_20_code 14 = .ok (.dup, 1) := by decide +kernel
theorem d_Np_solutions_15 : decode prog_1_method_20_code 15 = .ok (.ldc_w 263, 3) := by decide +kernel
theorem d_Np_solutions_18 : decode prog_1_method_20_code 18 = .ok (.invokespecial 126, 3) := by decide +kernel
theorem d_Np_solutions_21 : decode prog_1_method_20_code 21 = .ok (.athrow, 1) := by decide +kernel
theorem d_Np_solutions_22 : decode prog_1_method_20_code 22 = .ok (.aload_n 0, 1) := by decide +kernel
theorem d_Np_solutions_23 : decode prog_1_method_20_code 23 = .ok (.getfield 47, 3) := by decide +kernel
theorem d_Np_solutions_26 : decode prog_1_method_20_code 26 = .ok (.aload_n 0, 1) := by decide +kernel
theorem d_Np_solutions_27 : decode prog_1_method_20_code 27 = .ok (.getfield 10, 3) := by decide +kernel
theorem d_Np_solutions_30 : decode prog_1_method_20_code 30 = .ok (.getfield 68, 3) := by decide +kernel
theorem d_Np_solutions_33 : decode prog_1_method_20_code 33 = .ok (.aload_n 0, 1) := by decide +kernel
theorem d_Np_solutions_34 : decode prog_1_method_20_code 34 = .ok (.getfield 10, 3) := by decide +kernel
theorem d_Np_solutions_37 : decode prog_1_method_20_code 37 = .ok (.getfield 129, 3) := by decide +kernel
theorem d_Np_solutions_40 : decode prog_1_method_20_code 40 = .ok (.iload_n 1, 1) := by decide +kernel
theorem d_Np_solutions_41 : decode prog_1_method_20_code 41 = .ok (.invokevirtual 195, 3) := by decide +kernel
theorem d_Np_solutions_44 : decode prog_1_method_20_code 44 = .ok (.ireturn, 1) := by decide +kernel
def b_Np_solutions_11 (F : Nat) (h : PH) : Option ((Nat ⊕ Int32) × PH) :=
  some (.inl 1, h)
theorem g_Np_solutions_11 {l : Launch} {E : ET} {d : Nat} (hd : 128 ≤ d) {F : Nat} {r : Int32} {h9 : PH} {x : Nat}   (h : PH) (hf : b_Np_solutions_11 F h = some (.inr r, h9)) : Go l E m_Np_solutions (rm d 0 0) (KM E 0 0 (PoE (some (.int r)) h9 x)) 0 0 h x 11 [] [] := by
  unfold b_Np_solutions_11 at hf
  cases (Prod.mk.inj (Option.some.inj hf)).1
def f_Np_solutions (F : Nat) (a0 : Nat) (i1 : Int32) (h : PH) : Option ((Nat ⊕ Int32) × PH) :=
  (if i1 < (1 : Int32) then b_Np_solutions_11 F h else (if i1 ≤ (20 : Int32) then bnd (gR h a0 9 8) fun x1 => bnd (gR h a0 9 0) fun x2 => bnd (gR h x2 8 0) fun x3 => bnd (gR h a0 9 0) fun x4 => bnd (gR h x4 8 1) fun x5 => bnd (cK h x1 7) fun _ => bnd2 (f_Sol_countSolutions F x1 x3 x5 i1 h) fun x7 h8 => some (.inr x7, h8) else b_Np_solutions_11 F h))
theorem g_Np_solutions_0 {l : Launch} {E : ET} {d : Nat} (hd : 128 ≤ d) {F : Nat} {r : Int32} {h9 : PH} {x : Nat}  (a0 : Nat) (i1 : Int32) (h : PH) (hf : f_Np_solutions F a0 i1 h = some (.inr r, h9)) : Go l E m_Np_solutions (rm d 0 0) (KM E 0 0 (PoE (some (.int r)) h9 x)) 0 0 h x 0 [(0, .ref a0), (1, .int i1)] [] := by
  unfold f_Np_solutions at hf
  refine go_iload_n 1 d_Np_solutions_0 rfl ?_
  refine go_iconst (1 : Int32) d_Np_solutions_1 (by decide) ?_
  refine go_icmp_lt 11 d_Np_solutions_2 (by decide) (fun q10 => ?_) (fun q10 => ?_)
  · rw [if_pos q10] at hf
    refine go_sub (lv' := []) [] rfl ?_
    exact g_Np_solutions_11 hd   h hf
  · rw [if_neg q10] at hf
    refine go_iload_n 1 d_Np_solutions_5 rfl ?_
    refine go_bipush (20 : Int32) d_Np_solutions_6 (by decide) ?_
    refine go_icmp_le 22 d_Np_solutions_8 (by decide) (fun q9 => ?_) (fun q9 => ?_)
    · rw [if_pos q9] at hf
      refine go_aload_n 0 d_Np_solutions_22 rfl ?_
      obtain ⟨x1, e_x1, hf⟩ := bnd_x hf
      refine go_get d_Np_solutions_23 (gR_x e_x1) fl_Np_47 ?_
      refine go_aload_n 0 d_Np_solutions_26 rfl ?_
      obtain ⟨x2, e_x2, hf⟩ := bnd_x hf
      refine go_get d_Np_solutions_27 (gR_x e_x2) fl_Np_10 ?_
      obtain ⟨x3, e_x3, hf⟩ := bnd_x hf
      refine go_get d_Np_solutions_30 (gR_x e_x3) fl_Np_68 ?_
      refine go_aload_n 0 d_Np_solutions_33 rfl ?_
      obtain ⟨x4, e_x4, hf⟩ := bnd_x hf
      refine go_get d_Np_solutions_34 (gR_x e_x4) fl_Np_10 ?_
      obtain ⟨x5, e_x5, hf⟩ := bnd_x hf
      refine go_get d_Np_solutions_37 (gR_x e_x5) fl_Np_129 ?_
      refine go_iload_n 1 d_Np_solutions_40 rfl ?_
      obtain ⟨_, e6, hf⟩ := bnd_x hf
      obtain ⟨x7, h8, e_x7, hf⟩ := bnd2_x hf
      refine go_callV_I (As := [.ref x3, .ref x5, .int i1]) (st := []) (c_Sol_countSolutions (d := d - 1) (by omega) e_x7) lk_Np_195 rfl rfl e6 (by decide) rfl (rm_ok (by omega)) (Nat.le_of_ble_eq_true rfl) rm_c d_Np_solutions_41 ?_
      obtain ⟨e8, e9⟩ := Prod.mk.inj (Option.some.inj hf)
      have e7 := Sum.inr.inj e8; subst e7; subst e9
      exact go_iret d_Np_solutions_44 rfl ⟨rfl, rfl, rfl⟩
    · rw [if_neg q9] at hf
      refine go_sub (lv' := []) [] rfl ?_
      exact g_Np_solutions_11 hd   h hf
theorem c_Np_solutions {l : Launch} {E : ET} {d : Nat} (hd : 128 ≤ d) {F : Nat} {r : Int32} {h9 : PH} {x : Nat} {a0 : Nat} {i1 : Int32} {h : PH} (hf : f_Np_solutions F a0 i1 h = some (.inr r, h9)) : Fn l E m_Np_solutions d 0 0 [.ref a0, .int i1] h x (PoE (some (.int r)) h9 x) :=
  Fn.of (by decide +kernel) (Nat.le_of_ble_eq_true rfl) (g_Np_solutions_0 hd a0 i1 h hf)
theorem gx_Np_solutions_11 {l : Launch} {E : ET} (hl : l.stackTraces = false) {d : Nat} (hd : 128 ≤ d) {F : Nat} {j : Nat} {h9 : PH} {x : Nat}   (h : PH) (hf : b_Np_solutions_11 F h = some (.inl j, h9)) : Go l E m_Np_solutions (rm d 1 6) (KX l E 1 6 (PXk j h9)) 0 0 h x 11 [] [] := by
  unfold b_Np_solutions_11 at hf
  obtain ⟨e8, e9⟩ := Prod.mk.inj (Option.some.inj hf)
  cases e8; subst e9
  exact go_throwSW tw_122_126 (List.mem_of_getElem? (i := 12) rfl) d_Np_solutions_11 d_Np_solutions_14 d_Np_solutions_15 d_Np_solutions_18 d_Np_solutions_21 ⟨rfl, rfl⟩ (by omega) (Nat.le_of_ble_eq_true rfl)
theorem gx_Np_solutions_0 {l : Launch} {E : ET} (hl : l.stackTraces = false) {d : Nat} (hd : 128 ≤ d) {F : Nat} {j : Nat} {h9 : PH} {x : Nat}  (a0 : Nat) (i1 : Int32) (h : PH) (hf : f_Np_solutions F a0 i1 h = some (.inl j, h9)) : Go l E m_Np_solutions (rm d 1 6) (KX l E 1 6 (PXk j h9)) 0 0 h x 0 [(0, .ref a0), (1, .int i1)] [] := by
  unfold f_Np_solutions at hf
  refine go_iload_n 1 d_Np_solutions_0 rfl ?_
  refine go_iconst (1 : Int32) d_Np_solutions_1 (by decide) ?_
  refine go_icmp_lt 11 d_Np_solutions_2 (by decide) (fun q10 => ?_) (fun q10 => ?_)
  · rw [if_pos q10] at hf
    refine go_sub (lv' := []) [] rfl ?_
    exact gx_Np_solutions_11 hl hd   h hf
  · rw [if_neg q10] at hf
    refine go_iload_n 1 d_Np_solutions_5 rfl ?_
    refine go_bipush (20 : Int32) d_Np_solutions_6 (by decide) ?_
    refine go_icmp_le 22 d_Np_solutions_8 (by decide) (fun q9 => ?_) (fun q9 => ?_)
    · rw [if_pos q9] at hf
      refine go_aload_n 0 d_Np_solutions_22 rfl ?_
      obtain ⟨x1, e_x1, hf⟩ := bnd_x hf
      refine go_get d_Np_solutions_23 (gR_x e_x1) fl_Np_47 ?_
      refine go_aload_n 0 d_Np_solutions_26 rfl ?_
      obtain ⟨x2, e_x2, hf⟩ := bnd_x hf
      refine go_get d_Np_solutions_27 (gR_x e_x2) fl_Np_10 ?_
      obtain ⟨x3, e_x3, hf⟩ := bnd_x hf
      refine go_get d_Np_solutions_30 (gR_x e_x3) fl_Np_68 ?_
      refine go_aload_n 0 d_Np_solutions_33 rfl ?_
      obtain ⟨x4, e_x4, hf⟩ := bnd_x hf
      refine go_get d_Np_solutions_34 (gR_x e_x4) fl_Np_10 ?_
      obtain ⟨x5, e_x5, hf⟩ := bnd_x hf
      refine go_get d_Np_solutions_37 (gR_x e_x5) fl_Np_129 ?_
      refine go_iload_n 1 d_Np_solutions_40 rfl ?_
      obtain ⟨_, e6, hf⟩ := bnd_x hf
      obtain ⟨x7, h8, e_x7, hf⟩ := bnd2_x hf
      refine go_callV_I (As := [.ref x3, .ref x5, .int i1]) (st := []) (c_Sol_countSolutions (d := d - 1) (by omega) e_x7) lk_Np_195 rfl rfl e6 (by decide) rfl (rm_ok1 (by omega)) (Nat.le_of_ble_eq_true rfl) rm_c1 d_Np_solutions_41 ?_
      cases (Prod.mk.inj (Option.some.inj hf)).1
    · rw [if_neg q9] at hf
      refine go_sub (lv' := []) [] rfl ?_
      exact gx_Np_solutions_11 hl hd   h hf
theorem x_Np_solutions {l : Launch} {E : ET} (hl : l.stackTraces = false) {d : Nat} (hd : 128 ≤ d) {F : Nat} {j : Nat} {h9 : PH} {x : Nat} {a0 : Nat} {i1 : Int32} {h : PH} (hf : f_Np_solutions F a0 i1 h = some (.inl j, h9)) : FnT l E m_Np_solutions d [.ref a0, .int i1] h x (PXk j h9) :=
  FnT.of hl (by decide +kernel) (Nat.le_of_ble_eq_true rfl) (gx_Np_solutions_0 hl hd a0 i1 h hf)
theorem d_Np_solved_0 : decode prog_1_method_22_code 0 = .ok (.iload_n 1, 1) := by decide +kernel
theorem d_Np_solved_1 : decode prog_1_method_22_code 1 = .ok (.invokestatic 87, 3) := by decide +kernel
theorem d_Np_solved_4 : decode prog_1_method_22_code 4 = .ok (.aload_n 0, 1) := by decide +kernel
theorem d_Np_solved_5 : decode prog_1_method_22_code 5 = .ok (.getfield 47, 3) := by decide +kernel
theorem d_Np_solved_8 : decode prog_1_method_22_code 8 = .ok (.aload_n 0, 1) := by decide +kernel
theorem d_Np_solved_9 : decode prog_1_method_22_code 9 = .ok (.getfield 10, 3) := by decide +kernel
theorem d_Np_solved_12 : decode prog_1_method_22_code 12 = .ok (.getfield 68, 3) := by decide +kernel
theorem d_Np_solved_15 : decode prog_1_method_22_code 15 = .ok (.aload_n 0, 1) := by decide +kernel
theorem d_Np_solved_16 : decode prog_1_method_22_code 16 = .ok (.getfield 10, 3) := by decide +kernel
theorem d_Np_solved_19 : decode prog_1_method_22_code 19 = .ok (.getfield 129, 3) := by decide +kernel
theorem d_Np_solved_22 : decode prog_1_method_22_code 22 = .ok (.iconst 1, 1) := by decide +kernel
theorem d_Np_solved_23 : decode prog_1_method_22_code 23 = .ok (.invokevirtual 195, 3) := by decide +kernel
theorem d_Np_solved_26 : decode prog_1_method_22_code 26 = .ok (.ifCond .ne 5, 3) := by decide +kernel
theorem d_Np_solved_29 : decode prog_1_method_22_code 29 = .ok (.iconst 0, 1) := by decide +kernel
theorem d_Np_solved_30 : decode prog_1_method_22_code 30 = .ok (.ireturn, 1) := by decide +kernel
theorem d_Np_solved_31 : decode prog_1_method_22_code 31 = .ok (.aload_n 0, 1) := by decide +kernel
theorem d_Np_solved_32 : decode prog_1_method_22_code 32 = .ok (.getfield 47, 3) := by decide +kernel
theorem d_Np_solved_35 : decode prog_1_method_22_code 35 = .ok (.aload_n 0, 1) := by decide +kernel
theorem d_Np_solved_36 : decode prog_1_method_22_code 36 = .ok (.getfield 10, 3) := by decide +kernel
theorem d_Np_solved_39 : decode prog_1_method_22_code 39 = .ok (.getfield 68, 3) := by decide +kernel
theorem d_Np_solved_42 : decode prog_1_method_22_code 42 = .ok (.aload_n 0, 1) := by decide +kernel
theorem d_Np_solved_43 : decode prog_1_method_22_code 43 = .ok (.getfield 10, 3) := by decide +kernel
theorem d_Np_solved_46 : decode prog_1_method_22_code 46 = .ok (.getfield 129, 3) := by decide +kernel
theorem d_Np_solved_49 : decode prog_1_method_22_code 49 = .ok (.invokevirtual 265, 3) := by decide +kernel
theorem d_Np_solved_52 : decode prog_1_method_22_code 52 = .ok (.pop, 1) := by decide +kernel
theorem d_Np_solved_53 : decode prog_1_method_22_code 53 = .ok (.aload_n 0, 1) := by decide +kernel
theorem d_Np_solved_54 : decode prog_1_method_22_code 54 = .ok (.getfield 47, 3) := by decide +kernel
theorem d_Np_solved_57 : decode prog_1_method_22_code 57 = .ok (.getfield 268, 3) := by decide +kernel
theorem d_Np_solved_60 : decode prog_1_method_22_code 60 = .ok (.iload_n 1, 1) := by decide +kernel
theorem d_Np_solved_61 : decode prog_1_method_22_code 61 = .ok (.invokevirtual 226, 3) := by decide +kernel
theorem d_Np_solved_64 : decode prog_1_method_22_code 64 = .ok (.ireturn, 1) := by decide +kernel
def f_Np_solved (F : Nat) (a0 : Nat) (i1 : Int32) (h : PH) : Option ((Nat ⊕ Int32) × PH) :=
  bndT (f_Np_checkCell i1 h) fun x1 h2 => bnd (gR h2 a0 9 8) fun x3 => bnd (gR h2 a0 9 0) fun x4 => bnd (gR h2 x4 8 0) fun x5 => bnd (gR h2 a0 9 0) fun x6 => bnd (gR h2 x6 8 1) fun x7 => bnd (cK h2 x3 7) fun _ => bnd2 (f_Sol_countSolutions F x3 x5 x7 (1 : Int32) h2) fun x9 h10 => (if x9 = (0 : Int32) then some (.inr (0 : Int32), h10) else bnd (gR h10 a0 9 8) fun x11 => bnd (gR h10 a0 9 0) fun x12 => bnd (gR h10 x12 8 0) fun x13 => bnd (gR h10 a0 9 0) fun x14 => bnd (gR h10 x14 8 1) fun x15 => bnd (cK h10 x11 7) fun _ => bnd2 (f_Sol_countGuesses F x11 x13 x15 h10) fun x17 h18 => bnd (gR h18 a0 9 8) fun x19 => bnd (gR h18 x19 7 3) fun x20 => bnd (cK h18 x20 1) fun _ => bnd (f_Pos_lowestDigitOf F x20 i1 h18) fun x22 => some (.inr x22, h18))
theorem g_Np_solved_0 {l : Launch} {E : ET} {d : Nat} (hd : 128 ≤ d) {F : Nat} {r : Int32} {h9 : PH} {x : Nat}  (a0 : Nat) (i1 : Int32) (h : PH) (hf : f_Np_solved F a0 i1 h = some (.inr r, h9)) : Go l E m_Np_solved (rm d 0 0) (KM E 0 0 (PoE (some (.int r)) h9 x)) 0 0 h x 0 [(0, .ref a0), (1, .int i1)] [] := by
  unfold f_Np_solved at hf
  refine go_iload_n 1 d_Np_solved_0 rfl ?_
  obtain ⟨x1, h2, e_x1, hf⟩ := bndT_r hf
  refine go_callS_N (As := [.int i1]) (st := []) (c_Np_checkCell (d := d - 1) (by omega) e_x1) lk_Np_87 rfl rfl (rm_ok (by omega)) (Nat.le_of_ble_eq_true rfl) rm_c d_Np_solved_1 ?_
  refine go_aload_n 0 d_Np_solved_4 rfl ?_
  obtain ⟨x3, e_x3, hf⟩ := bnd_x hf
  refine go_get d_Np_solved_5 (gR_x e_x3) fl_Np_47 ?_
  refine go_aload_n 0 d_Np_solved_8 rfl ?_
  obtain ⟨x4, e_x4, hf⟩ := bnd_x hf
  refine go_get d_Np_solved_9 (gR_x e_x4) fl_Np_10 ?_
  obtain ⟨x5, e_x5, hf⟩ := bnd_x hf
  refine go_get d_Np_solved_12 (gR_x e_x5) fl_Np_68 ?_
  refine go_aload_n 0 d_Np_solved_15 rfl ?_
  obtain ⟨x6, e_x6, hf⟩ := bnd_x hf
  refine go_get d_Np_solved_16 (gR_x e_x6) fl_Np_10 ?_
  obtain ⟨x7, e_x7, hf⟩ := bnd_x hf
  refine go_get d_Np_solved_19 (gR_x e_x7) fl_Np_129 ?_
  refine go_iconst (1 : Int32) d_Np_solved_22 (by decide) ?_
  obtain ⟨_, e8, hf⟩ := bnd_x hf
  obtain ⟨x9, h10, e_x9, hf⟩ := bnd2_x hf
  refine go_callV_I (As := [.ref x5, .ref x7, .int (1 : Int32)]) (st := []) (c_Sol_countSolutions (d := d - 1) (by omega) e_x9) lk_Np_195 rfl rfl e8 (by decide) rfl (rm_ok (by omega)) (Nat.le_of_ble_eq_true rfl) rm_c d_Np_solved_23 ?_
  refine go_if_ne 31 d_Np_solved_26 (by decide) (fun q23 => ?_) (fun q23 => ?_)
  · rw [if_neg q23] at hf
    refine go_aload_n 0 d_Np_solved_31 rfl ?_
    obtain ⟨x11, e_x11, hf⟩ := bnd_x hf
    refine go_get d_Np_solved_32 (gR_x e_x11) fl_Np_47 ?_
    refine go_aload_n 0 d_Np_solved_35 rfl ?_
    obtain ⟨x12, e_x12, hf⟩ := bnd_x hf
    refine go_get d_Np_solved_36 (gR_x e_x12) fl_Np_10 ?_
    obtain ⟨x13, e_x13, hf⟩ := bnd_x hf
    refine go_get d_Np_solved_39 (gR_x e_x13) fl_Np_68 ?_
    refine go_aload_n 0 d_Np_solved_42 rfl ?_
    obtain ⟨x14, e_x14, hf⟩ := bnd_x hf
    refine go_get d_Np_solved_43 (gR_x e_x14) fl_Np_10 ?_
    obtain ⟨x15, e_x15, hf⟩ := bnd_x hf
    refine go_get d_Np_solved_46 (gR_x e_x15) fl_Np_129 ?_
    obtain ⟨_, e16, hf⟩ := bnd_x hf
    obtain ⟨x17, h18, e_x17, hf⟩ := bnd2_x hf
    refine go_callV_I (As := [.ref x13, .ref x15]) (st := []) (c_Sol_countGuesses (d := d - 1) (by omega) e_x17) lk_Np_265 rfl rfl e16 (by decide) rfl (rm_ok (by omega)) (Nat.le_of_ble_eq_true rfl) rm_c d_Np_solved_49 ?_
    refine go_pop d_Np_solved_52 rfl ?_
    refine go_aload_n 0 d_Np_solved_53 rfl ?_
    obtain ⟨x19, e_x19, hf⟩ := bnd_x hf
    refine go_get d_Np_solved_54 (gR_x e_x19) fl_Np_47 ?_
    obtain ⟨x20, e_x20, hf⟩ := bnd_x hf
    refine go_get d_Np_solved_57 (gR_x e_x20) fl_Np_268 ?_
    refine go_iload_n 1 d_Np_solved_60 rfl ?_
    obtain ⟨_, e21, hf⟩ := bnd_x hf
    obtain ⟨x22, e_x22, hf⟩ := bnd_x hf
    refine go_callV_I (As := [.int i1]) (st := []) (c_Pos_lowestDigitOf (d := d - 1) (by omega) e_x22) lk_Np_226 rfl rfl e21 (by decide) rfl (rm_ok (by omega)) (Nat.le_of_ble_eq_true rfl) rm_c d_Np_solved_61 ?_
    obtain ⟨e8, e9⟩ := Prod.mk.inj (Option.some.inj hf)
    have e7 := Sum.inr.inj e8; subst e7; subst e9
    exact go_iret d_Np_solved_64 rfl ⟨rfl, rfl, rfl⟩
  · rw [if_pos q23] at hf
    refine go_iconst (0 : Int32) d_Np_solved_29 (by decide) ?_
    obtain ⟨e8, e9⟩ := Prod.mk.inj (Option.some.inj hf)
    have e7 := Sum.inr.inj e8; subst e7; subst e9
    exact go_iret d_Np_solved_30 rfl ⟨rfl, rfl, rfl⟩
theorem c_Np_solved {l : Launch} {E : ET} {d : Nat} (hd : 128 ≤ d) {F : Nat} {r : Int32} {h9 : PH} {x : Nat} {a0 : Nat} {i1 : Int32} {h : PH} (hf : f_Np_solved F a0 i1 h = some (.inr r, h9)) : Fn l E m_Np_solved d 0 0 [.ref a0, .int i1] h x (PoE (some (.int r)) h9 x) :=
  Fn.of (by decide +kernel) (Nat.le_of_ble_eq_true rfl) (g_Np_solved_0 hd a0 i1 h hf)
theorem gx_Np_solved_0 {l : Launch} {E : ET} (hl : l.stackTraces = false) {d : Nat} (hd : 128 ≤ d) {F : Nat} {j : Nat} {h9 : PH} {x : Nat}  (a0 : Nat) (i1 : Int32) (h : PH) (hf : f_Np_solved F a0 i1 h = some (.inl j, h9)) : Go l E m_Np_solved (rm d 1 6) (KX l E 1 6 (PXk j h9)) 0 0 h x 0 [(0, .ref a0), (1, .int i1)] [] := by
  unfold f_Np_solved at hf
  refine go_iload_n 1 d_Np_solved_0 rfl ?_
  rcases bndT_l hf with e_x1 | ⟨x1, h2, e_x1, hf⟩
  · exact go_tcallS (As := [.int i1]) (st := []) (x_Np_checkCell hl (d := d - 1) (by omega) e_x1) lk_Np_87 rfl rfl (rm_ok1 (by omega)) (Nat.le_of_ble_eq_true rfl) d_Np_solved_1
  refine go_callS_N (As := [.int i1]) (st := []) (c_Np_checkCell (d := d - 1) (by omega) e_x1) lk_Np_87 rfl rfl (rm_ok1 (by omega)) (Nat.le_of_ble_eq_true rfl) rm_c1 d_Np_solved_1 ?_
  refine go_aload_n 0 d_Np_solved_4 rfl ?_
  obtain ⟨x3, e_x3, hf⟩ := bnd_x hf
  refine go_get d_Np_solved_5 (gR_x e_x3) fl_Np_47 ?_
  refine go_aload_n 0 d_Np_solved_8 rfl ?_
  obtain ⟨x4, e_x4, hf⟩ := bnd_x hf
  refine go_get d_Np_solved_9 (gR_x e_x4) fl_Np_10 ?_
  obtain ⟨x5, e_x5, hf⟩ := bnd_x hf
  refine go_get d_Np_solved_12 (gR_x e_x5) fl_Np_68 ?_
  refine go_aload_n 0 d_Np_solved_15 rfl ?_
  obtain ⟨x6, e_x6, hf⟩ := bnd_x hf
  refine go_get d_Np_solved_16 (gR_x e_x6) fl_Np_10 ?_
  obtain ⟨x7, e_x7, hf⟩ := bnd_x hf
  refine go_get d_Np_solved_19 (gR_x e_x7) fl_Np_129 ?_
  refine go_iconst (1 : Int32) d_Np_solved_22 (by decide) ?_
  obtain ⟨_, e8, hf⟩ := bnd_x hf
  obtain ⟨x9, h10, e_x9, hf⟩ := bnd2_x hf
  refine go_callV_I (As := [.ref x5, .ref x7, .int (1 : Int32)]) (st := []) (c_Sol_countSolutions (d := d - 1) (by omega) e_x9) lk_Np_195 rfl rfl e8 (by decide) rfl (rm_ok1 (by omega)) (Nat.le_of_ble_eq_true rfl) rm_c1 d_Np_solved_23 ?_
  refine go_if_ne 31 d_Np_solved_26 (by decide) (fun q23 => ?_) (fun q23 => ?_)
  · rw [if_neg q23] at hf
    refine go_aload_n 0 d_Np_solved_31 rfl ?_
    obtain ⟨x11, e_x11, hf⟩ := bnd_x hf
    refine go_get d_Np_solved_32 (gR_x e_x11) fl_Np_47 ?_
    refine go_aload_n 0 d_Np_solved_35 rfl ?_
    obtain ⟨x12, e_x12, hf⟩ := bnd_x hf
    refine go_get d_Np_solved_36 (gR_x e_x12) fl_Np_10 ?_
    obtain ⟨x13, e_x13, hf⟩ := bnd_x hf
    refine go_get d_Np_solved_39 (gR_x e_x13) fl_Np_68 ?_
    refine go_aload_n 0 d_Np_solved_42 rfl ?_
    obtain ⟨x14, e_x14, hf⟩ := bnd_x hf
    refine go_get d_Np_solved_43 (gR_x e_x14) fl_Np_10 ?_
    obtain ⟨x15, e_x15, hf⟩ := bnd_x hf
    refine go_get d_Np_solved_46 (gR_x e_x15) fl_Np_129 ?_
    obtain ⟨_, e16, hf⟩ := bnd_x hf
    obtain ⟨x17, h18, e_x17, hf⟩ := bnd2_x hf
    refine go_callV_I (As := [.ref x13, .ref x15]) (st := []) (c_Sol_countGuesses (d := d - 1) (by omega) e_x17) lk_Np_265 rfl rfl e16 (by decide) rfl (rm_ok1 (by omega)) (Nat.le_of_ble_eq_true rfl) rm_c1 d_Np_solved_49 ?_
    refine go_pop d_Np_solved_52 rfl ?_
    refine go_aload_n 0 d_Np_solved_53 rfl ?_
    obtain ⟨x19, e_x19, hf⟩ := bnd_x hf
    refine go_get d_Np_solved_54 (gR_x e_x19) fl_Np_47 ?_
    obtain ⟨x20, e_x20, hf⟩ := bnd_x hf
    refine go_get d_Np_solved_57 (gR_x e_x20) fl_Np_268 ?_
    refine go_iload_n 1 d_Np_solved_60 rfl ?_
    obtain ⟨_, e21, hf⟩ := bnd_x hf
    obtain ⟨x22, e_x22, hf⟩ := bnd_x hf
    refine go_callV_I (As := [.int i1]) (st := []) (c_Pos_lowestDigitOf (d := d - 1) (by omega) e_x22) lk_Np_226 rfl rfl e21 (by decide) rfl (rm_ok1 (by omega)) (Nat.le_of_ble_eq_true rfl) rm_c1 d_Np_solved_61 ?_
    cases (Prod.mk.inj (Option.some.inj hf)).1
  · rw [if_pos q23] at hf
    refine go_iconst (0 : Int32) d_Np_solved_29 (by decide) ?_
    cases (Prod.mk.inj (Option.some.inj hf)).1
theorem x_Np_solved {l : Launch} {E : ET} (hl : l.stackTraces = false) {d : Nat} (hd : 128 ≤ d) {F : Nat} {j : Nat} {h9 : PH} {x : Nat} {a0 : Nat} {i1 : Int32} {h : PH} (hf : f_Np_solved F a0 i1 h = some (.inl j, h9)) : FnT l E m_Np_solved d [.ref a0, .int i1] h x (PXk j h9) :=
  FnT.of hl (by decide +kernel) (Nat.le_of_ble_eq_true rfl) (gx_Np_solved_0 hl hd a0 i1 h hf)
theorem d_Np_possible_0 : decode prog_1_method_24_code 0 = .ok (.iload_n 1, 1) := by decide +kernel
theorem d_Np_possible_1 : decode prog_1_method_24_code 1 = .ok (.invokestatic 87, 3) := by decide +kernel
theorem d_Np_possible_4 : decode prog_1_method_24_code 4 = .ok (.iload_n 2, 1) := by decide +kernel
theorem d_Np_possible_5 : decode prog_1_method_24_code 5 = .ok (.invokestatic 91, 3) := by decide +kernel
theorem d_Np_possible_8 : decode prog_1_method_24_code 8 = .ok (.aload_n 0, 1) := by decide +kernel
theorem d_Np_possible_9 : decode prog_1_method_24_code 9 = .ok (.getfield 33, 3) := by decide +kernel
theorem d_Np_possible_12 : decode prog_1_method_24_code 12 = .ok (.aload_n 0, 1) := by decide +kernel
theorem d_Np_possible_13 : decode prog_1_method_24_code 13 = .ok (.getfield 10, 3) := by decide +kernel
theorem d_Np_possible_16 : decode prog_1_method_24_code 16 = .ok (.getfield 68, 3) := by decide +kernel
theorem d_Np_possible_19 : decode prog_1_method_24_code 19 = .ok (.invokevirtual 251, 3) := by decide +kernel
theorem d_Np_possible_22 : decode prog_1_method_24_code 22 = .ok (.aload_n 0, 1) := by decide +kernel
theorem d_Np_possible_23 : decode prog_1_method_24_code 23 = .ok (.getfield 33, 3) := by decide +kernel
theorem d_Np_possible_26 : decode prog_1_method_24_code 26 = .ok (.iload_n 1, 1) := by decide +kernel
theorem d_Np_possible_27 : decode prog_1_method_24_code 27 = .ok (.iload_n 2, 1) := by decide +kernel
theorem d_Np_possible_28 : decode prog_1_method_24_code 28 = .ok (.invokevirtual 98, 3) := by decide +kernel
theorem d_Np_possible_31 : decode prog_1_method_24_code 31 = .ok (.pop, 1) := by decide +kernel
theorem d_Np_possible_32 : decode prog_1_method_24_code 32 = .ok (.aload_n 0, 1) := by decide +kernel
theorem d_Np_possible_33 : decode prog_1_method_24_code 33 = .ok (.getfield 51, 3) := by decide +kernel
theorem d_Np_possible_36 : decode prog_1_method_24_code 36 = .ok (.invokevirtual 275, 3) := by decide +kernel
theorem d_Np_possible_39 : decode prog_1_method_24_code 39 = .ok (.aload_n 0, 1) := by decide +kernel
theorem d_Np_possible_40 : decode prog_1_method_24_code 40 = .ok (.getfield 51, 3) := by decide +kernel
theorem d_Np_possible_43 : decode prog_1_method_24_code 43 = .ok (.aload_n 0, 1) := by decide +kernel
theorem d_Np_possible_44 : decode prog_1_method_24_code 44 = .ok (.getfield 33, 3) := by decide +kernel
theorem d_Np_possible_47 : decode prog_1_method_24_code 47 = .ok (.aload_n 0, 1) := by decide +kernel
theorem d_Np_possible_48 : decode prog_1_method_24_code 48 = .ok (.getfield 10, 3) := by decide +kernel
theorem d_Np_possible_51 : decode prog_1_method_24_code 51 = .ok (.getfield 129, 3) := by decide +kernel
theorem d_Np_possible_54 : decode prog_1_method_24_code 54 = .ok (.iconst 1, 1) := by decide +kernel
theorem d_Np_possible_55 : decode prog_1_method_24_code 55 = .ok (.invokevirtual 195, 3) := by decide +kernel
theorem d_Np_possible_58 : decode prog_1_method_24_code 58 = .ok (.ifCond .le 7, 3) := by decide +kernel
theorem d_Np_possible_61 : decode prog_1_method_24_code 61 = .ok (.iconst 1, 1) := by decide +kernel
theorem d_Np_possible_62 : decode prog_1_method_24_code 62 = .ok (.goto 4, 3) := by decide +kernel
theorem d_Np_possible_65 : decode prog_1_method_24_code 65 = .ok (.iconst 0, 1) := by decide +kernel
theorem d_Np_possible_66 : decode prog_1_method_24_code 66 = .ok (.ireturn, 1) := by decide +kernel
def f_Np_possible (F : Nat) (a0 : Nat) (i1 : Int32) (i2 : Int32) (h : PH) : Option ((Nat ⊕ Int32) × PH) :=
  bndT (f_Np_checkCell i1 h) fun x1 h2 => bndT (f_Np_checkDigit i2 h2) fun x3 h4 => bnd (gR h4 a0 9 6) fun x5 => bnd (gR h4 a0 9 0) fun x6 => bnd (gR h4 x6 8 0) fun x7 => bnd (cK h4 x5 1) fun _ => bnd (f_Pos_copyFrom x5 x7 h4) fun h9 => bnd (gR h9 a0 9 6) fun x10 => bnd (cK h9 x10 1) fun _ => bnd2 (f_Pos_keepOnly F x10 i1 i2 h9) fun x12 h13 => bnd (gR h13 a0 9 9) fun x14 => bnd (cK h13 x14 7) fun _ => bnd (f_Sol_forget x14 h13) fun h16 => bnd (gR h16 a0 9 9) fun x17 => bnd (gR h16 a0 9 6) fun x18 => bnd (gR h16 a0 9 0) fun x19 => bnd (gR h16 x19 8 1) fun x20 => bnd (cK h16 x17 7) fun _ => bnd2 (f_Sol_countSolutions F x17 x18 x20 (1 : Int32) h16) fun x22 h23 => (if x22 ≤ (0 : Int32) then some (.inr (0 : Int32), h23) else some (.inr (1 : Int32), h23))
theorem g_Np_possible_0 {l : Launch} {E : ET} {d : Nat} (hd : 128 ≤ d) {F : Nat} {r : Int32} {h9 : PH} {x : Nat}  (a0 : Nat) (i1 : Int32) (i2 : Int32) (h : PH) (hf : f_Np_possible F a0 i1 i2 h = some (.inr r, h9)) : Go l E m_Np_possible (rm d 0 0) (KM E 0 0 (PoE (some (.int r)) h9 x)) 0 0 h x 0 [(0, .ref a0), (1, .int i1), (2, .int i2)] [] := by
  unfold f_Np_possible at hf
  refine go_iload_n 1 d_Np_possible_0 rfl ?_
  obtain ⟨x1, h2, e_x1, hf⟩ := bndT_r hf
  refine go_callS_N (As := [.int i1]) (st := []) (c_Np_checkCell (d := d - 1) (by omega) e_x1) lk_Np_87 rfl rfl (rm_ok (by omega)) (Nat.le_of_ble_eq_true rfl) rm_c d_Np_possible_1 ?_
  refine go_iload_n 2 d_Np_possible_4 rfl ?_
  obtain ⟨x3, h4, e_x3, hf⟩ := bndT_r hf
  refine go_callS_N (As := [.int i2]) (st := []) (c_Np_checkDigit (d := d - 1) (by omega) e_x3) lk_Np_91 rfl rfl (rm_ok (by omega)) (Nat.le_of_ble_eq_true rfl) rm_c d_Np_possible_5 ?_
  refine go_aload_n 0 d_Np_possible_8 rfl ?_
  obtain ⟨x5, e_x5, hf⟩ := bnd_x hf
  refine go_get d_Np_possible_9 (gR_x e_x5) fl_Np_33 ?_
  refine go_aload_n 0 d_Np_possible_12 rfl ?_
  obtain ⟨x6, e_x6, hf⟩ := bnd_x hf
  refine go_get d_Np_possible_13 (gR_x e_x6) fl_Np_10 ?_
  obtain ⟨x7, e_x7, hf⟩ := bnd_x hf
  refine go_get d_Np_possible_16 (gR_x e_x7) fl_Np_68 ?_
  obtain ⟨_, e8, hf⟩ := bnd_x hf
  obtain ⟨h9, e_x9, hf⟩ := bnd_x hf
  refine go_callV_N (As := [.ref x7]) (st := []) (c_Pos_copyFrom (d := d - 1) (by omega) e_x9) lk_Np_251 rfl rfl e8 (by decide) rfl (rm_ok (by omega)) (Nat.le_of_ble_eq_true rfl) rm_c d_Np_possible_19 ?_
  refine go_aload_n 0 d_Np_possible_22 rfl ?_
  obtain ⟨x10, e_x10, hf⟩ := bnd_x hf
  refine go_get d_Np_possible_23 (gR_x e_x10) fl_Np_33 ?_
  refine go_iload_n 1 d_Np_possible_26 rfl ?_
  refine go_iload_n 2 d_Np_possible_27 rfl ?_
  obtain ⟨_, e11, hf⟩ := bnd_x hf
  obtain ⟨x12, h13, e_x12, hf⟩ := bnd2_x hf
  refine go_callV_I (As := [.int i1, .int i2]) (st := []) (c_Pos_keepOnly (d := d - 1) (by omega) e_x12) lk_Np_98 rfl rfl e11 (by decide) rfl (rm_ok (by omega)) (Nat.le_of_ble_eq_true rfl) rm_c d_Np_possible_28 ?_
  refine go_pop d_Np_possible_31 rfl ?_
  refine go_aload_n 0 d_Np_possible_32 rfl ?_
  obtain ⟨x14, e_x14, hf⟩ := bnd_x hf
  refine go_get d_Np_possible_33 (gR_x e_x14) fl_Np_51 ?_
  obtain ⟨_, e15, hf⟩ := bnd_x hf
  obtain ⟨h16, e_x16, hf⟩ := bnd_x hf
  refine go_callV_N (As := []) (st := []) (c_Sol_forget (d := d - 1) (by omega) e_x16) lk_Np_275 rfl rfl e15 (by decide) rfl (rm_ok (by omega)) (Nat.le_of_ble_eq_true rfl) rm_c d_Np_possible_36 ?_
  refine go_aload_n 0 d_Np_possible_39 rfl ?_
  obtain ⟨x17, e_x17, hf⟩ := bnd_x hf
  refine go_get d_Np_possible_40 (gR_x e_x17) fl_Np_51 ?_
  refine go_aload_n 0 d_Np_possible_43 rfl ?_
  obtain ⟨x18, e_x18, hf⟩ := bnd_x hf
  refine go_get d_Np_possible_44 (gR_x e_x18) fl_Np_33 ?_
  refine go_aload_n 0 d_Np_possible_47 rfl ?_
  obtain ⟨x19, e_x19, hf⟩ := bnd_x hf
  refine go_get d_Np_possible_48 (gR_x e_x19) fl_Np_10 ?_
  obtain ⟨x20, e_x20, hf⟩ := bnd_x hf
  refine go_get d_Np_possible_51 (gR_x e_x20) fl_Np_129 ?_
  refine go_iconst (1 : Int32) d_Np_possible_54 (by decide) ?_
  obtain ⟨_, e21, hf⟩ := bnd_x hf
  obtain ⟨x22, h23, e_x22, hf⟩ := bnd2_x hf
  refine go_callV_I (As := [.ref x18, .ref x20, .int (1 : Int32)]) (st := []) (c_Sol_countSolutions (d := d - 1) (by omega) e_x22) lk_Np_195 rfl rfl e21 (by decide) rfl (rm_ok (by omega)) (Nat.le_of_ble_eq_true rfl) rm_c d_Np_possible_55 ?_
  refine go_if_le 65 d_Np_possible_58 (by decide) (fun q24 => ?_) (fun q24 => ?_)
  · rw [if_pos q24] at hf
    refine go_iconst (0 : Int32) d_Np_possible_65 (by decide) ?_
    obtain ⟨e8, e9⟩ := Prod.mk.inj (Option.some.inj hf)
    have e7 := Sum.inr.inj e8; subst e7; subst e9
    exact go_zret d_Np_possible_66 rfl rfl ⟨rfl, rfl, rfl⟩
  · rw [if_neg q24] at hf
    refine go_iconst (1 : Int32) d_Np_possible_61 (by decide) ?_
    refine go_goto 66 d_Np_possible_62 (by decide) ?_
    obtain ⟨e8, e9⟩ := Prod.mk.inj (Option.some.inj hf)
    have e7 := Sum.inr.inj e8; subst e7; subst e9
    exact go_zret d_Np_possible_66 rfl rfl ⟨rfl, rfl, rfl⟩
theorem c_Np_possible {l : Launch} {E : ET} {d : Nat} (hd : 128 ≤ d) {F : Nat} {r : Int32} {h9 : PH} {x : Nat} {a0 : Nat} {i1 : Int32} {i2 : Int32} {h : PH} (hf : f_Np_possible F a0 i1 i2 h = some (.inr r, h9)) : Fn l E m_Np_possible d 0 0 [.ref a0, .int i1, .int i2] h x (PoE (some (.int r)) h9 x) :=
  Fn.of (by decide +kernel) (Nat.le_of_ble_eq_true rfl) (g_Np_possible_0 hd a0 i1 i2 h hf)
theorem gx_Np_possible_0 {l : Launch} {E : ET} (hl : l.stackTraces = false) {d : Nat} (hd : 128 ≤ d) {F : Nat} {j : Nat} {h9 : PH} {x : Nat}  (a0 : Nat) (i1 : Int32) (i2 : Int32) (h : PH) (hf : f_Np_possible F a0 i1 i2 h = some (.inl j, h9)) : Go l E m_Np_possible (rm d 1 6) (KX l E 1 6 (PXk j h9)) 0 0 h x 0 [(0, .ref a0), (1, .int i1), (2, .int i2)] [] := by
  unfold f_Np_possible at hf
  refine go_iload_n 1 d_Np_possible_0 rfl ?_
  rcases bndT_l hf with e_x1 | ⟨x1, h2, e_x1, hf⟩
  · exact go_tcallS (As := [.int i1]) (st := []) (x_Np_checkCell hl (d := d - 1) (by omega) e_x1) lk_Np_87 rfl rfl (rm_ok1 (by omega)) (Nat.le_of_ble_eq_true rfl) d_Np_possible_1
  refine go_callS_N (As := [.int i1]) (st := []) (c_Np_checkCell (d := d - 1) (by omega) e_x1) lk_Np_87 rfl rfl (rm_ok1 (by omega)) (Nat.le_of_ble_eq_true rfl) rm_c1 d_Np_possible_1 ?_
  refine go_iload_n 2 d_Np_possible_4 rfl ?_
  rcases bndT_l hf with e_x3 | ⟨x3, h4, e_x3, hf⟩
  · exact go_tcallS (As := [.int i2]) (st := []) (x_Np_checkDigit hl (d := d - 1) (by omega) e_x3) lk_Np_91 rfl rfl (rm_ok1 (by omega)) (Nat.le_of_ble_eq_true rfl) d_Np_possible_5
  refine go_callS_N (As := [.int i2]) (st := []) (c_Np_checkDigit (d := d - 1) (by omega) e_x3) lk_Np_91 rfl rfl (rm_ok1 (by omega)) (Nat.le_of_ble_eq_true rfl) rm_c1 d_Np_possible_5 ?_
  refine go_aload_n 0 d_Np_possible_8 rfl ?_
  obtain ⟨x5, e_x5, hf⟩ := bnd_x hf
  refine go_get d_Np_possible_9 (gR_x e_x5) fl_Np_33 ?_
  refine go_aload_n 0 d_Np_possible_12 rfl ?_
  obtain ⟨x6, e_x6, hf⟩ := bnd_x hf
  refine go_get d_Np_possible_13 (gR_x e_x6) fl_Np_10 ?_
  obtain ⟨x7, e_x7, hf⟩ := bnd_x hf
  refine go_get d_Np_possible_16 (gR_x e_x7) fl_Np_68 ?_
  obtain ⟨_, e8, hf⟩ := bnd_x hf
  obtain ⟨h9, e_x9, hf⟩ := bnd_x hf
  refine go_callV_N (As := [.ref x7]) (st := []) (c_Pos_copyFrom (d := d - 1) (by omega) e_x9) lk_Np_251 rfl rfl e8 (by decide) rfl (rm_ok1 (by omega)) (Nat.le_of_ble_eq_true rfl) rm_c1 d_Np_possible_19 ?_
  refine go_aload_n 0 d_Np_possible_22 rfl ?_
  obtain ⟨x10, e_x10, hf⟩ := bnd_x hf
  refine go_get d_Np_possible_23 (gR_x e_x10) fl_Np_33 ?_
  refine go_iload_n 1 d_Np_possible_26 rfl ?_
  refine go_iload_n 2 d_Np_possible_27 rfl ?_
  obtain ⟨_, e11, hf⟩ := bnd_x hf
  obtain ⟨x12, h13, e_x12, hf⟩ := bnd2_x hf
  refine go_callV_I (As := [.int i1, .int i2]) (st := []) (c_Pos_keepOnly (d := d - 1) (by omega) e_x12) lk_Np_98 rfl rfl e11 (by decide) rfl (rm_ok1 (by omega)) (Nat.le_of_ble_eq_true rfl) rm_c1 d_Np_possible_28 ?_
  refine go_pop d_Np_possible_31 rfl ?_
  refine go_aload_n 0 d_Np_possible_32 rfl ?_
  obtain ⟨x14, e_x14, hf⟩ := bnd_x hf
  refine go_get d_Np_possible_33 (gR_x e_x14) fl_Np_51 ?_
  obtain ⟨_, e15, hf⟩ := bnd_x hf
  obtain ⟨h16, e_x16, hf⟩ := bnd_x hf
  refine go_callV_N (As := []) (st := []) (c_Sol_forget (d := d - 1) (by omega) e_x16) lk_Np_275 rfl rfl e15 (by decide) rfl (rm_ok1 (by omega)) (Nat.le_of_ble_eq_true rfl) rm_c1 d_Np_possible_36 ?_
  refine go_aload_n 0 d_Np_possible_39 rfl ?_
  obtain ⟨x17, e_x17, hf⟩ := bnd_x hf
  refine go_get d_Np_possible_40 (gR_x e_x17) fl_Np_51 ?_
  refine go_aload_n 0 d_Np_possible_43 rfl ?_
  obtain ⟨x18, e_x18, hf⟩ := bnd_x hf
  refine go_get d_Np_possible_44 (gR_x e_x18) fl_Np_33 ?_
  refine go_aload_n 0 d_Np_possible_47 rfl ?_
  obtain ⟨x19, e_x19, hf⟩ := bnd_x hf
  refine go_get d_Np_possible_48 (gR_x e_x19) fl_Np_10 ?_
  obtain ⟨x20, e_x20, hf⟩ := bnd_x hf
  refine go_get d_Np_possible_51 (gR_x e_x20) fl_Np_129 ?_
  refine go_iconst (1 : Int32) d_Np_possible_54 (by decide) ?_
  obtain ⟨_, e21, hf⟩ := bnd_x hf
  obtain ⟨x22, h23, e_x22, hf⟩ := bnd2_x hf
  refine go_callV_I (As := [.ref x18, .ref x20, .int (1 : Int32)]) (st := []) (c_Sol_countSolutions (d := d - 1) (by omega) e_x22) lk_Np_195 rfl rfl e21 (by decide) rfl (rm_ok1 (by omega)) (Nat.le_of_ble_eq_true rfl) rm_c1 d_Np_possible_55 ?_
  refine go_if_le 65 d_Np_possible_58 (by decide) (fun q24 => ?_) (fun q24 => ?_)
  · rw [if_pos q24] at hf
    refine go_iconst (0 : Int32) d_Np_possible_65 (by decide) ?_
    cases (Prod.mk.inj (Option.some.inj hf)).1
  · rw [if_neg q24] at hf
    refine go_iconst (1 : Int32) d_Np_possible_61 (by decide) ?_
    refine go_goto 66 d_Np_possible_62 (by decide) ?_
    cases (Prod.mk.inj (Option.some.inj hf)).1
theorem x_Np_possible {l : Launch} {E : ET} (hl : l.stackTraces = false) {d : Nat} (hd : 128 ≤ d) {F : Nat} {j : Nat} {h9 : PH} {x : Nat} {a0 : Nat} {i1 : Int32} {i2 : Int32} {h : PH} (hf : f_Np_possible F a0 i1 i2 h = some (.inl j, h9)) : FnT l E m_Np_possible d [.ref a0, .int i1, .int i2] h x (PXk j h9) :=
  FnT.of hl (by decide +kernel) (Nat.le_of_ble_eq_true rfl) (gx_Np_possible_0 hl hd a0 i1 i2 h hf)
theorem d_Np_append_0 : decode prog_1_method_26_code 0 = .ok (.iload_n 1, 1) := by decide +kernel
theorem d_Np_append_1 : decode prog_1_method_26_code 1 = .ok (.ifCond .lt 9, 3) := by decide +kernel
theorem d_Np_append_4 : decode prog_1_method_26_code 4 = .ok (.iload_n 1, 1) := by decide +kernel
theorem d_Np_append_5 : decode prog_1_method_26_code 5 = .ok (.bipush 127, 2) := by decide +kernel
theorem d_Np_append_7 : decode prog_1_method_26_code 7 = .ok (.if_icmp .le 14, 3) := by decide +kernel
theorem d_Np_append_10 : decode prog_1_method_26_code 10 = .ok (.new 122, 3) := by decide +kernel
theorem d_Np_append_13 : decode prog_1_method_26_code 13 = .ok (.dup, 1) := by decide +kernel
theorem d_Np_append_14 : decode prog_1_method_26_code 14 = .ok (.ldc_w 278, 3) := by decide +kernel
theorem d_Np_append_17 : decode prog_1_method_26_code 17 = .ok (.invokespecial 126, 3) := by decide +kernel
theorem d_Np_append_20 : decode prog_1_method_26_code 20 = .ok (.athrow, 1) := by decide +kernel
theorem d_Np_append_21 : decode prog_1_method_26_code 21 = .ok (.aload_n 0, 1) := by decide +kernel
theorem d_Np_append_22 : decode prog_1_method_26_code 22 = .ok (.getfield 26, 3) := by decide +kernel
theorem d_Np_append_25 : decode prog_1_method_26_code 25 = .ok (.getfield 280, 3) := by decide +kernel
theorem d_Np_append_28 : decode prog_1_method_26_code 28 = .ok (.sipush 150, 3) := by decide +kernel
theorem d_Np_append_31 : decode prog_1_method_26_code 31 = .ok (.if_icmp .lt 14, 3) := by decide +kernel
theorem d_Np_append_34 : decode prog_1_method_26_code 34 = .ok (.new 139, 3) := by decide +kernel
theorem d_Np_append_37 : decode prog_1_method_26_code 37 = .ok (.dup, 1) := by decide +kernel
theorem d_Np_append_38 : decode prog_1_method_26_code 38 = .ok (.ldc_w 283, 3) := by decide +kernel
theorem d_Np_append_41 : decode prog_1_method_26_code 41 = .ok (.invokespecial 143, 3) := by decide +kernel
theorem d_Np_append_44 : decode prog_1_method_26_code 44 = .ok (.athrow, 1) := by decide +kernel
theorem d_Np_append_45 : decode prog_1_method_26_code 45 = .ok (.aload_n 0, 1) := by decide +kernel
theorem d_Np_append_46 : decode prog_1_method_26_code 46 = .ok (.getfield 26, 3) := by decide +kernel
theorem d_Np_append_49 : decode prog_1_method_26_code 49 = .ok (.iload_n 1, 1) := by decide +kernel
theorem d_Np_append_50 : decode prog_1_method_26_code 50 = .ok (.invokevirtual 285, 3) := by decide +kernel
theorem d_Np_append_53 : decode prog_1_method_26_code 53 = .ok (.aload_n 0, 1) := by decide +kernel
theorem d_Np_append_54 : decode prog_1_method_26_code 54 = .ok (.getfield 26, 3) := by decide +kernel
theorem d_Np_append_57 : decode prog_1_method_26_code 57 = .ok (.getfield 280, 3) := by decide +kernel
theorem d_Np_append_60 : decode prog_1_method_26_code 60 = .ok (.ireturn, 1) := by decide +kernel
def b_Np_append_10 (h : PH) : Option ((Nat ⊕ Int32) × PH) :=
  some (.inl 1, h)
theorem g_Np_append_10 {l : Launch} {E : ET} {d : Nat} (hd : 6 ≤ d) {r : Int32} {h9 : PH} {x : Nat}   (h : PH) (hf : b_Np_append_10 h = some (.inr r, h9)) : Go l E m_Np_append (rm d 0 0) (KM E 0 0 (PoE (some (.int r)) h9 x)) 0 0 h x 10 [] [] := by
  unfold b_Np_append_10 at hf
  cases (Prod.mk.inj (Option.some.inj hf)).1
def f_Np_append (a0 : Nat) (i1 : Int32) (h : PH) : Option ((Nat ⊕ Int32) × PH) :=
  (if i1 < (0 : Int32) then b_Np_append_10 h else (if i1 ≤ (127 : Int32) then bnd (gR h a0 9 5) fun x1 => bnd (gI h x1 2 1) fun x2 => (if x2 < (150 : Int32) then bnd (gR h a0 9 5) fun x3 => bnd (cK h x3 2) fun _ => bnd (f_Txt_add x3 i1 h) fun h5 => bnd (gR h5 a0 9 5) fun x6 => bnd (gI h5 x6 2 1) fun x7 => some (.inr x7, h5) else some (.inl 2, h)) else b_Np_append_10 h))
theorem g_Np_append_0 {l : Launch} {E : ET} {d : Nat} (hd : 6 ≤ d) {r : Int32} {h9 : PH} {x : Nat}  (a0 : Nat) (i1 : Int32) (h : PH) (hf : f_Np_append a0 i1 h = some (.inr r, h9)) : Go l E m_Np_append (rm d 0 0) (KM E 0 0 (PoE (some (.int r)) h9 x)) 0 0 h x 0 [(0, .ref a0), (1, .int i1)] [] := by
  unfold f_Np_append at hf
  refine go_iload_n 1 d_Np_append_0 rfl ?_
  refine go_if_lt 10 d_Np_append_1 (by decide) (fun q10 => ?_) (fun q10 => ?_)
  · rw [if_pos q10] at hf
    refine go_sub (lv' := []) [] rfl ?_
    exact g_Np_append_10 hd   h hf
  · rw [if_neg q10] at hf
    refine go_iload_n 1 d_Np_append_4 rfl ?_
    refine go_bipush (127 : Int32) d_Np_append_5 (by decide) ?_
    refine go_icmp_le 21 d_Np_append_7 (by decide) (fun q9 => ?_) (fun q9 => ?_)
    · rw [if_pos q9] at hf
      refine go_aload_n 0 d_Np_append_21 rfl ?_
      obtain ⟨x1, e_x1, hf⟩ := bnd_x hf
      refine go_get d_Np_append_22 (gR_x e_x1) fl_Np_26 ?_
      obtain ⟨x2, e_x2, hf⟩ := bnd_x hf
      refine go_get d_Np_append_25 (gI_x e_x2) fl_Np_280 ?_
      refine go_sipush (150 : Int32) d_Np_append_28 (by decide) ?_
      refine go_icmp_lt 45 d_Np_append_31 (by decide) (fun q8 => ?_) (fun q8 => ?_)
      · rw [if_pos q8] at hf
        refine go_aload_n 0 d_Np_append_45 rfl ?_
        obtain ⟨x3, e_x3, hf⟩ := bnd_x hf
        refine go_get d_Np_append_46 (gR_x e_x3) fl_Np_26 ?_
        refine go_iload_n 1 d_Np_append_49 rfl ?_
        obtain ⟨_, e4, hf⟩ := bnd_x hf
        obtain ⟨h5, e_x5, hf⟩ := bnd_x hf
        refine go_callV_N (As := [.int i1]) (st := []) (c_Txt_add (d := d - 1) (by omega) e_x5) lk_Np_285 rfl rfl e4 (by decide) rfl (rm_ok (by omega)) (Nat.le_of_ble_eq_true rfl) rm_c d_Np_append_50 ?_
        refine go_aload_n 0 d_Np_append_53 rfl ?_
        obtain ⟨x6, e_x6, hf⟩ := bnd_x hf
        refine go_get d_Np_append_54 (gR_x e_x6) fl_Np_26 ?_
        obtain ⟨x7, e_x7, hf⟩ := bnd_x hf
        refine go_get d_Np_append_57 (gI_x e_x7) fl_Np_280 ?_
        obtain ⟨e8, e9⟩ := Prod.mk.inj (Option.some.inj hf)
        have e7 := Sum.inr.inj e8; subst e7; subst e9
        exact go_iret d_Np_append_60 rfl ⟨rfl, rfl, rfl⟩
      · rw [if_neg q8] at hf
        cases (Prod.mk.inj (Option.some.inj hf)).1
    · rw [if_neg q9] at hf
      refine go_sub (lv' := []) [] rfl ?_
      exact g_Np_append_10 hd   h hf
theorem c_Np_append {l : Launch} {E : ET} {d : Nat} (hd : 6 ≤ d) {r : Int32} {h9 : PH} {x : Nat} {a0 : Nat} {i1 : Int32} {h : PH} (hf : f_Np_append a0 i1 h = some (.inr r, h9)) : Fn l E m_Np_append d 0 0 [.ref a0, .int i1] h x (PoE (some (.int r)) h9 x) :=
  Fn.of (by decide +kernel) (Nat.le_of_ble_eq_true rfl) (g_Np_append_0 hd a0 i1 h hf)
theorem gx_Np_append_10 {l : Launch} {E : ET} (hl : l.stackTraces = false) {d : Nat} (hd : 6 ≤ d) {j : Nat} {h9 : PH} {x : Nat}   (h : PH) (hf : b_Np_append_10 h = some (.inl j, h9)) : Go l E m_Np_append (rm d 1 6) (KX l E 1 6 (PXk j h9)) 0 0 h x 10 [] [] := by
  unfold b_Np_append_10 at hf
  obtain ⟨e8, e9⟩ := Prod.mk.inj (Option.some.inj hf)
  cases e8; subst e9
  exact go_throwSW tw_122_126 (List.mem_of_getElem? (i := 13) rfl) d_Np_append_10 d_Np_append_13 d_Np_append_14 d_Np_append_17 d_Np_append_20 ⟨rfl, rfl⟩ (by omega) (Nat.le_of_ble_eq_true rfl)
theorem gx_Np_append_0 {l : Launch} {E : ET} (hl : l.stackTraces = false) {d : Nat} (hd : 6 ≤ d) {j : Nat} {h9 : PH} {x : Nat}  (a0 : Nat) (i1 : Int32) (h : PH) (hf : f_Np_append a0 i1 h = some (.inl j, h9)) : Go l E m_Np_append (rm d 1 6) (KX l E 1 6 (PXk j h9)) 0 0 h x 0 [(0, .ref a0), (1, .int i1)] [] := by
  unfold f_Np_append at hf
  refine go_iload_n 1 d_Np_append_0 rfl ?_
  refine go_if_lt 10 d_Np_append_1 (by decide) (fun q10 => ?_) (fun q10 => ?_)
  · rw [if_pos q10] at hf
    refine go_sub (lv' := []) [] rfl ?_
    exact gx_Np_append_10 hl hd   h hf
  · rw [if_neg q10] at hf
    refine go_iload_n 1 d_Np_append_4 rfl ?_
    refine go_bipush (127 : Int32) d_Np_append_5 (by decide) ?_
    refine go_icmp_le 21 d_Np_append_7 (by decide) (fun q9 => ?_) (fun q9 => ?_)
    · rw [if_pos q9] at hf
      refine go_aload_n 0 d_Np_append_21 rfl ?_
      obtain ⟨x1, e_x1, hf⟩ := bnd_x hf
      refine go_get d_Np_append_22 (gR_x e_x1) fl_Np_26 ?_
      obtain ⟨x2, e_x2, hf⟩ := bnd_x hf
      refine go_get d_Np_append_25 (gI_x e_x2) fl_Np_280 ?_
      refine go_sipush (150 : Int32) d_Np_append_28 (by decide) ?_
      refine go_icmp_lt 45 d_Np_append_31 (by decide) (fun q8 => ?_) (fun q8 => ?_)
      · rw [if_pos q8] at hf
        refine go_aload_n 0 d_Np_append_45 rfl ?_
        obtain ⟨x3, e_x3, hf⟩ := bnd_x hf
        refine go_get d_Np_append_46 (gR_x e_x3) fl_Np_26 ?_
        refine go_iload_n 1 d_Np_append_49 rfl ?_
        obtain ⟨_, e4, hf⟩ := bnd_x hf
        obtain ⟨h5, e_x5, hf⟩ := bnd_x hf
        refine go_callV_N (As := [.int i1]) (st := []) (c_Txt_add (d := d - 1) (by omega) e_x5) lk_Np_285 rfl rfl e4 (by decide) rfl (rm_ok1 (by omega)) (Nat.le_of_ble_eq_true rfl) rm_c1 d_Np_append_50 ?_
        refine go_aload_n 0 d_Np_append_53 rfl ?_
        obtain ⟨x6, e_x6, hf⟩ := bnd_x hf
        refine go_get d_Np_append_54 (gR_x e_x6) fl_Np_26 ?_
        obtain ⟨x7, e_x7, hf⟩ := bnd_x hf
        refine go_get d_Np_append_57 (gI_x e_x7) fl_Np_280 ?_
        cases (Prod.mk.inj (Option.some.inj hf)).1
      · rw [if_neg q8] at hf
        obtain ⟨e8, e9⟩ := Prod.mk.inj (Option.some.inj hf)
        cases e8; subst e9
        exact go_throwSW tw_139_143 (List.mem_of_getElem? (i := 14) rfl) d_Np_append_34 d_Np_append_37 d_Np_append_38 d_Np_append_41 d_Np_append_44 ⟨rfl, rfl⟩ (by omega) (Nat.le_of_ble_eq_true rfl)
    · rw [if_neg q9] at hf
      refine go_sub (lv' := []) [] rfl ?_
      exact gx_Np_append_10 hl hd   h hf
theorem x_Np_append {l : Launch} {E : ET} (hl : l.stackTraces = false) {d : Nat} (hd : 6 ≤ d) {j : Nat} {h9 : PH} {x : Nat} {a0 : Nat} {i1 : Int32} {h : PH} (hf : f_Np_append a0 i1 h = some (.inl j, h9)) : FnT l E m_Np_append d [.ref a0, .int i1] h x (PXk j h9) :=
  FnT.of hl (by decide +kernel) (Nat.le_of_ble_eq_true rfl) (gx_Np_append_0 hl hd a0 i1 h hf)
theorem d_Np_undo_0 : decode prog_1_method_29_code 0 = .ok (.aload_n 0, 1) := by decide +kernel
theorem d_Np_undo_1 : decode prog_1_method_29_code 1 = .ok (.getfield 294, 3) := by decide +kernel
theorem d_Np_undo_4 : decode prog_1_method_29_code 4 = .ok (.ifCond .ne 14, 3) := by decide +kernel
theorem d_Np_undo_7 : decode prog_1_method_29_code 7 = .ok (.new 139, 3) := by decide +kernel
theorem d_Np_undo_10 : decode prog_1_method_29_code 10 = .ok (.dup, 1) := by decide +kernel
theorem d_Np_undo_11 : decode prog_1_method_29_code 11 = .ok (.ldc_w 297, 3) := by decide +kernel
theorem d_Np_undo_14 : decode prog_1_method_29_code 14 = .ok (.invokespecial 143, 3) := by decide +kernel
theorem d_Np_undo_17 : decode prog_1_method_29_code 17 = .ok (.athrow, 1) := by decide +kernel
theorem d_Np_undo_18 : decode prog_1_method_29_code 18 = .ok (.aload_n 0, 1) := by decide +kernel
theorem d_Np_undo_19 : decode prog_1_method_29_code 19 = .ok (.dup, 1) := by decide +kernel
theorem d_Np_undo_20 : decode prog_1_method_29_code 20 = .ok (.getfield 294, 3) := by decide +kernel
theorem d_Np_undo_23 : decode prog_1_method_29_code 23 = .ok (.iconst 1, 1) := by decide +kernel
theorem d_Np_undo_24 : decode prog_1_method_29_code 24 = .ok (.isub, 1) := by decide +kernel
theorem d_Np_undo_25 : decode prog_1_method_29_code 25 = .ok (.putfield 294, 3) := by decide +kernel
theorem d_Np_undo_28 : decode prog_1_method_29_code 28 = .ok (.aload_n 0, 1) := by decide +kernel
theorem d_Np_undo_29 : decode prog_1_method_29_code 29 = .ok (.getfield 10, 3) := by decide +kernel
theorem d_Np_undo_32 : decode prog_1_method_29_code 32 = .ok (.aload_n 0, 1) := by decide +kernel
theorem d_Np_undo_33 : decode prog_1_method_29_code 33 = .ok (.getfield 19, 3) := by decide +kernel
theorem d_Np_undo_36 : decode prog_1_method_29_code 36 = .ok (.aload_n 0, 1) := by decide +kernel
theorem d_Np_undo_37 : decode prog_1_method_29_code 37 = .ok (.getfield 299, 3) := by decide +kernel
theorem d_Np_undo_40 : decode prog_1_method_29_code 40 = .ok (.aload_n 0, 1) := by decide +kernel
theorem d_Np_undo_41 : decode prog_1_method_29_code 41 = .ok (.getfield 294, 3) := by decide +kernel
theorem d_Np_undo_44 : decode prog_1_method_29_code 44 = .ok (.iadd, 1) := by decide +kernel
theorem d_Np_undo_45 : decode prog_1_method_29_code 45 = .ok (.iconst 4, 1) := by decide +kernel
theorem d_Np_undo_46 : decode prog_1_method_29_code 46 = .ok (.irem, 1) := by decide +kernel
theorem d_Np_undo_47 : decode prog_1_method_29_code 47 = .ok (.aaload, 1) := by decide +kernel
theorem d_Np_undo_48 : decode prog_1_method_29_code 48 = .ok (.invokevirtual 291, 3) := by decide +kernel
theorem d_Np_undo_51 : decode prog_1_method_29_code 51 = .ok (.aload_n 0, 1) := by decide +kernel
theorem d_Np_undo_52 : decode prog_1_method_29_code 52 = .ok (.getfield 47, 3) := by decide +kernel
theorem d_Np_undo_55 : decode prog_1_method_29_code 55 = .ok (.invokevirtual 275, 3) := by decide +kernel
theorem d_Np_undo_58 : decode prog_1_method_29_code 58 = .ok (.aload_n 0, 1) := by decide +kernel
theorem d_Np_undo_59 : decode prog_1_method_29_code 59 = .ok (.getfield 294, 3) := by decide +kernel
theorem d_Np_undo_62 : decode prog_1_method_29_code 62 = .ok (.ireturn, 1) := by decide +kernel
def f_Np_undo (a0 : Nat) (h : PH) : Option ((Nat ⊕ Int32) × PH) :=
  bnd (gI h a0 9 4) fun x1 => (if x1 = (0 : Int32) then some (.inl 2, h) else bnd (gI h a0 9 4) fun x2 => bnd (pV h a0 9 4 (.int (x2 - (1 : Int32)))) fun h3 => bnd (gR h3 a0 9 0) fun x4 => bnd (gR h3 a0 9 2) fun x5 => bnd (gI h3 a0 9 3) fun x6 => bnd (gI h3 a0 9 4) fun x7 => bnd (aR h3 x5 ((x6 + x7) - (x6 + x7) / (4 : Int32) * (4 : Int32))) fun x8 => bnd (cK h3 x4 8) fun _ => bnd (f_Sta_copyFrom x4 x8 h3) fun h10 => bnd (gR h10 a0 9 8) fun x11 => bnd (cK h10 x11 7) fun _ => bnd (f_Sol_forget x11 h10) fun h13 => bnd (gI h13 a0 9 4) fun x14 => some (.inr x14, h13))
theorem g_Np_undo_0 {l : Launch} {E : ET} {d : Nat} (hd : 6 ≤ d) {r : Int32} {h9 : PH} {x : Nat}  (a0 : Nat) (h : PH) (hf : f_Np_undo a0 h = some (.inr r, h9)) : Go l E m_Np_undo (rm d 0 0) (KM E 0 0 (PoE (some (.int r)) h9 x)) 0 0 h x 0 [(0, .ref a0)] [] := by
  unfold f_Np_undo at hf
  refine go_aload_n 0 d_Np_undo_0 rfl ?_
  obtain ⟨x1, e_x1, hf⟩ := bnd_x hf
  refine go_get d_Np_undo_1 (gI_x e_x1) fl_Np_294 ?_
  refine go_if_ne 18 d_Np_undo_4 (by decide) (fun q15 => ?_) (fun q15 => ?_)
  · rw [if_neg q15] at hf
    refine go_aload_n 0 d_Np_undo_18 rfl ?_
    refine go_dup d_Np_undo_19 rfl ?_
    obtain ⟨x2, e_x2, hf⟩ := bnd_x hf
    refine go_get d_Np_undo_20 (gI_x e_x2) fl_Np_294 ?_
    refine go_iconst (1 : Int32) d_Np_undo_23 (by decide) ?_
    refine go_isub d_Np_undo_24 ?_
    obtain ⟨h3, e_h3, hf⟩ := bnd_x hf
    refine go_putI d_Np_undo_25 e_h3 fl_Np_294 rfl rfl ?_
    refine go_aload_n 0 d_Np_undo_28 rfl ?_
    obtain ⟨x4, e_x4, hf⟩ := bnd_x hf
    refine go_get d_Np_undo_29 (gR_x e_x4) fl_Np_10 ?_
    refine go_aload_n 0 d_Np_undo_32 rfl ?_
    obtain ⟨x5, e_x5, hf⟩ := bnd_x hf
    refine go_get d_Np_undo_33 (gR_x e_x5) fl_Np_19 ?_
    refine go_aload_n 0 d_Np_undo_36 rfl ?_
    obtain ⟨x6, e_x6, hf⟩ := bnd_x hf
    refine go_get d_Np_undo_37 (gI_x e_x6) fl_Np_299 ?_
    refine go_aload_n 0 d_Np_undo_40 rfl ?_
    obtain ⟨x7, e_x7, hf⟩ := bnd_x hf
    refine go_get d_Np_undo_41 (gI_x e_x7) fl_Np_294 ?_
    refine go_iadd d_Np_undo_44 ?_
    refine go_iconst (4 : Int32) d_Np_undo_45 (by decide) ?_
    refine go_irem d_Np_undo_46 (by decide) ?_
    obtain ⟨x8, e_x8, hf⟩ := bnd_x hf
    refine go_aaload d_Np_undo_47 e_x8 ?_
    obtain ⟨_, e9, hf⟩ := bnd_x hf
    obtain ⟨h10, e_x10, hf⟩ := bnd_x hf
    refine go_callV_N (As := [.ref x8]) (st := []) (c_Sta_copyFrom (d := d - 1) (by omega) e_x10) lk_Np_291 rfl rfl e9 (by decide) rfl (rm_ok (by omega)) (Nat.le_of_ble_eq_true rfl) rm_c d_Np_undo_48 ?_
    refine go_aload_n 0 d_Np_undo_51 rfl ?_
    obtain ⟨x11, e_x11, hf⟩ := bnd_x hf
    refine go_get d_Np_undo_52 (gR_x e_x11) fl_Np_47 ?_
    obtain ⟨_, e12, hf⟩ := bnd_x hf
    obtain ⟨h13, e_x13, hf⟩ := bnd_x hf
    refine go_callV_N (As := []) (st := []) (c_Sol_forget (d := d - 1) (by omega) e_x13) lk_Np_275 rfl rfl e12 (by decide) rfl (rm_ok (by omega)) (Nat.le_of_ble_eq_true rfl) rm_c d_Np_undo_55 ?_
    refine go_aload_n 0 d_Np_undo_58 rfl ?_
    obtain ⟨x14, e_x14, hf⟩ := bnd_x hf
    refine go_get d_Np_undo_59 (gI_x e_x14) fl_Np_294 ?_
    obtain ⟨e8, e9⟩ := Prod.mk.inj (Option.some.inj hf)
    have e7 := Sum.inr.inj e8; subst e7; subst e9
    exact go_iret d_Np_undo_62 rfl ⟨rfl, rfl, rfl⟩
  · rw [if_pos q15] at hf
    cases (Prod.mk.inj (Option.some.inj hf)).1
theorem c_Np_undo {l : Launch} {E : ET} {d : Nat} (hd : 6 ≤ d) {r : Int32} {h9 : PH} {x : Nat} {a0 : Nat} {h : PH} (hf : f_Np_undo a0 h = some (.inr r, h9)) : Fn l E m_Np_undo d 0 0 [.ref a0] h x (PoE (some (.int r)) h9 x) :=
  Fn.of (by decide +kernel) (Nat.le_of_ble_eq_true rfl) (g_Np_undo_0 hd a0 h hf)
theorem gx_Np_undo_0 {l : Launch} {E : ET} (hl : l.stackTraces = false) {d : Nat} (hd : 6 ≤ d) {j : Nat} {h9 : PH} {x : Nat}  (a0 : Nat) (h : PH) (hf : f_Np_undo a0 h = some (.inl j, h9)) : Go l E m_Np_undo (rm d 1 6) (KX l E 1 6 (PXk j h9)) 0 0 h x 0 [(0, .ref a0)] [] := by
  unfold f_Np_undo at hf
  refine go_aload_n 0 d_Np_undo_0 rfl ?_
  obtain ⟨x1, e_x1, hf⟩ := bnd_x hf
  refine go_get d_Np_undo_1 (gI_x e_x1) fl_Np_294 ?_
  refine go_if_ne 18 d_Np_undo_4 (by decide) (fun q15 => ?_) (fun q15 => ?_)
  · rw [if_neg q15] at hf
    refine go_aload_n 0 d_Np_undo_18 rfl ?_
    refine go_dup d_Np_undo_19 rfl ?_
    obtain ⟨x2, e_x2, hf⟩ := bnd_x hf
    refine go_get d_Np_undo_20 (gI_x e_x2) fl_Np_294 ?_
    refine go_iconst (1 : Int32) d_Np_undo_23 (by decide) ?_
    refine go_isub d_Np_undo_24 ?_
    obtain ⟨h3, e_h3, hf⟩ := bnd_x hf
    refine go_putI d_Np_undo_25 e_h3 fl_Np_294 rfl rfl ?_
    refine go_aload_n 0 d_Np_undo_28 rfl ?_
    obtain ⟨x4, e_x4, hf⟩ := bnd_x hf
    refine go_get d_Np_undo_29 (gR_x e_x4) fl_Np_10 ?_
    refine go_aload_n 0 d_Np_undo_32 rfl ?_
    obtain ⟨x5, e_x5, hf⟩ := bnd_x hf
    refine go_get d_Np_undo_33 (gR_x e_x5) fl_Np_19 ?_
    refine go_aload_n 0 d_Np_undo_36 rfl ?_
    obtain ⟨x6, e_x6, hf⟩ := bnd_x hf
    refine go_get d_Np_undo_37 (gI_x e_x6) fl_Np_299 ?_
    refine go_aload_n 0 d_Np_undo_40 rfl ?_
    obtain ⟨x7, e_x7, hf⟩ := bnd_x hf
    refine go_get d_Np_undo_41 (gI_x e_x7) fl_Np_294 ?_
    refine go_iadd d_Np_undo_44 ?_
    refine go_iconst (4 : Int32) d_Np_undo_45 (by decide) ?_
    refine go_irem d_Np_undo_46 (by decide) ?_
    obtain ⟨x8, e_x8, hf⟩ := bnd_x hf
    refine go_aaload d_Np_undo_47 e_x8 ?_
    obtain ⟨_, e9, hf⟩ := bnd_x hf
    obtain ⟨h10, e_x10, hf⟩ := bnd_x hf
    refine go_callV_N (As := [.ref x8]) (st := []) (c_Sta_copyFrom (d := d - 1) (by omega) e_x10) lk_Np_291 rfl rfl e9 (by decide) rfl (rm_ok1 (by omega)) (Nat.le_of_ble_eq_true rfl) rm_c1 d_Np_undo_48 ?_
    refine go_aload_n 0 d_Np_undo_51 rfl ?_
    obtain ⟨x11, e_x11, hf⟩ := bnd_x hf
    refine go_get d_Np_undo_52 (gR_x e_x11) fl_Np_47 ?_
    obtain ⟨_, e12, hf⟩ := bnd_x hf
    obtain ⟨h13, e_x13, hf⟩ := bnd_x hf
    refine go_callV_N (As := []) (st := []) (c_Sol_forget (d := d - 1) (by omega) e_x13) lk_Np_275 rfl rfl e12 (by decide) rfl (rm_ok1 (by omega)) (Nat.le_of_ble_eq_true rfl) rm_c1 d_Np_undo_55 ?_
    refine go_aload_n 0 d_Np_undo_58 rfl ?_
    obtain ⟨x14, e_x14, hf⟩ := bnd_x hf
    refine go_get d_Np_undo_59 (gI_x e_x14) fl_Np_294 ?_
    cases (Prod.mk.inj (Option.some.inj hf)).1
  · rw [if_pos q15] at hf
    obtain ⟨e8, e9⟩ := Prod.mk.inj (Option.some.inj hf)
    cases e8; subst e9
    exact go_throwSW tw_139_143 (List.mem_of_getElem? (i := 15) rfl) d_Np_undo_7 d_Np_undo_10 d_Np_undo_11 d_Np_undo_14 d_Np_undo_17 ⟨rfl, rfl⟩ (by omega) (Nat.le_of_ble_eq_true rfl)
theorem x_Np_undo {l : Launch} {E : ET} (hl : l.stackTraces = false) {d : Nat} (hd : 6 ≤ d) {j : Nat} {h9 : PH} {x : Nat} {a0 : Nat} {h : PH} (hf : f_Np_undo a0 h = some (.inl j, h9)) : FnT l E m_Np_undo d [.ref a0] h x (PXk j h9) :=
  FnT.of hl (by decide +kernel) (Nat.le_of_ble_eq_true rfl) (gx_Np_undo_0 hl hd a0 h hf)
theorem d_Np_digest_0 : decode prog_1_method_30_code 0 = .ok (.ldc2_w 302, 3) := by decide +kernel
theorem d_Np_digest_3 : decode prog_1_method_30_code 3 = .ok (.aload_n 0, 1) := by decide +kernel
theorem d_Np_digest_4 : decode prog_1_method_30_code 4 = .ok (.getfield 26, 3) := by decide +kernel
theorem d_Np_digest_7 : decode prog_1_method_30_code 7 = .ok (.getfield 280, 3) := by decide +kernel
theorem d_Np_digest_10 : decode prog_1_method_30_code 10 = .ok (.i2l, 1) := by decide +kernel
theorem d_Np_digest_11 : decode prog_1_method_30_code 11 = .ok (.ladd, 1) := by decide +kernel
theorem d_Np_digest_12 : decode prog_1_method_30_code 12 = .ok (.lstore_n 1, 1) := by decide +kernel
theorem d_Np_digest_13 : decode prog_1_method_30_code 13 = .ok (.iconst 0, 1) := by decide +kernel
theorem d_Np_digest_14 : decode prog_1_method_30_code 14 = .ok (.istore_n 3, 1) := by decide +kernel
theorem d_Np_digest_15 : decode prog_1_method_30_code 15 = .ok (.iload_n 3, 1) := by decide +kernel
theorem d_Np_digest_16 : decode prog_1_method_30_code 16 = .ok (.iconst 5, 1) := by decide +kernel
theorem d_Np_digest_17 : decode prog_1_method_30_code 17 = .ok (.if_icmp .gt 22, 3) := by decide +kernel
theorem d_Np_digest_20 : decode prog_1_method_30_code 20 = .ok (.ldc2_w 304, 3) := by decide +kernel
theorem d_Np_digest_23 : decode prog_1_method_30_code 23 = .ok (.lload_n 1, 1) := by decide +kernel
theorem d_Np_digest_24 : decode prog_1_method_30_code 24 = .ok (.lmul, 1) := by decide +kernel
theorem d_Np_digest_25 : decode prog_1_method_30_code 25 = .ok (.aload_n 0, 1) := by decide +kernel
theorem d_Np_digest_26 : decode prog_1_method_30_code 26 = .ok (.iload_n 3, 1) := by decide +kernel
theorem d_Np_digest_27 : decode prog_1_method_30_code 27 = .ok (.invokevirtual 306, 3) := by decide +kernel
theorem d_Np_digest_30 : decode prog_1_method_30_code 30 = .ok (.i2l, 1) := by decide +kernel
theorem d_Np_digest_31 : decode prog_1_method_30_code 31 = .ok (.ladd, 1) := by decide +kernel
theorem d_Np_digest_32 : decode prog_1_method_30_code 32 = .ok (.lstore_n 1, 1) := by decide +kernel
theorem d_Np_digest_33 : decode prog_1_method_30_code 33 = .ok (.iinc 3 1, 3) := by decide +kernel
theorem d_Np_digest_36 : decode prog_1_method_30_code 36 = .ok (.goto (-21), 3) := by decide +kernel
theorem d_Np_digest_39 : decode prog_1_method_30_code 39 = .ok (.iconst 0, 1) := by decide +kernel
theorem d_Np_digest_40 : decode prog_1_method_30_code 40 = .ok (.istore_n 3, 1) := by decide +kernel
theorem d_Np_digest_41 : decode prog_1_method_30_code 41 = .ok (.iload_n 3, 1) := by decide +kernel
theorem d_Np_digest_42 : decode prog_1_method_30_code 42 = .ok (.bipush 36, 2) := by decide +kernel
theorem d_Np_digest_44 : decode prog_1_method_30_code 44 = .ok (.if_icmp .ge 50, 3) := by decide +kernel
theorem d_Np_digest_47 : decode prog_1_method_30_code 47 = .ok (.ldc2_w 304, 3) := by decide +kernel
theorem d_Np_digest_50 : decode prog_1_method_30_code 50 = .ok (.lload_n 1, 1) := by decide +kernel
theorem d_Np_digest_51 : decode prog_1_method_30_code 51 = .ok (.lmul, 1) := by decide +kernel
theorem d_Np_digest_52 : decode prog_1_method_30_code 52 = .ok (.aload_n 0, 1) := by decide +kernel
theorem d_Np_digest_53 : decode prog_1_method_30_code 53 = .ok (.iload_n 3, 1) := by decide +kernel
theorem d_Np_digest_54 : decode prog_1_method_30_code 54 = .ok (.invokevirtual 309, 3) := by decide +kernel
theorem d_Np_digest_57 : decode prog_1_method_30_code 57 = .ok (.i2l, 1) := by decide +kernel
theorem d_Np_digest_58 : decode prog_1_method_30_code 58 = .ok (.ladd, 1) := by decide +kernel
theorem d_Np_digest_59 : decode prog_1_method_30_code 59 = .ok (.lstore_n 1, 1) := by decide +kernel
theorem d_Np_digest_60 : decode prog_1_method_30_code 60 = .ok (.ldc2_w 304, 3) := by decide +kernel
theorem d_Np_digest_63 : decode prog_1_method_30_code 63 = .ok (.lload_n 1, 1) := by decide +kernel
theorem d_Np_digest_64 : decode prog_1_method_30_code 64 = .ok (.lmul, 1) := by decide +kernel
theorem d_Np_digest_65 : decode prog_1_method_30_code 65 = .ok (.aload_n 0, 1) := by decide +kernel
theorem d_Np_digest_66 : decode prog_1_method_30_code 66 = .ok (.iload_n 3, 1) := by decide +kernel
theorem d_Np_digest_67 : decode prog_1_method_30_code 67 = .ok (.iconst 0, 1) := by decide +kernel
theorem d_Np_digest_68 : decode prog_1_method_30_code 68 = .ok (.invokevirtual 312, 3) := by decide +kernel
theorem d_Np_digest_71 : decode prog_1_method_30_code 71 = .ok (.i2l, 1) := by decide +kernel
theorem d_Np_digest_72 : decode prog_1_method_30_code 72 = .ok (.ladd, 1) := by decide +kernel
theorem d_Np_digest_73 : decode prog_1_method_30_code 73 = .ok (.lstore_n 1, 1) := by decide +kernel
theorem d_Np_digest_74 : decode prog_1_method_30_code 74 = .ok (.ldc2_w 304, 3) := by decide +kernel
theorem d_Np_digest_77 : decode prog_1_method_30_code 77 = .ok (.lload_n 1, 1) := by decide +kernel
theorem d_Np_digest_78 : decode prog_1_method_30_code 78 = .ok (.lmul, 1) := by decide +kernel
theorem d_Np_digest_79 : decode prog_1_method_30_code 79 = .ok (.aload_n 0, 1) := by decide +kernel
theorem d_Np_digest_80 : decode prog_1_method_30_code 80 = .ok (.iload_n 3, 1) := by decide +kernel
theorem d_Np_digest_81 : decode prog_1_method_30_code 81 = .ok (.iconst 1, 1) := by decide +kernel
theorem d_Np_digest_82 : decode prog_1_method_30_code 82 = .ok (.invokevirtual 312, 3) := by decide +kernel
theorem d_Np_digest_85 : decode prog_1_method_30_code 85 = .ok (.i2l, 1) := by decide +kernel
theorem d_Np_digest_86 : decode prog_1_method_30_code 86 = .ok (.ladd, 1) := by decide +kernel
theorem d_Np_digest_87 : decode prog_1_method_30_code 87 = .ok (.lstore_n 1, 1) := by decide +kernel
theorem d_Np_digest_88 : decode prog_1_method_30_code 88 = .ok (.iinc 3 1, 3) := by decide +kernel
theorem d_Np_digest_91 : decode prog_1_method_30_code 91 = .ok (.goto (-50), 3) := by decide +kernel
theorem d_Np_digest_94 : decode prog_1_method_30_code 94 = .ok (.aload_n 0, 1) := by decide +kernel
theorem d_Np_digest_95 : decode prog_1_method_30_code 95 = .ok (.getfield 10, 3) := by decide +kernel
theorem d_Np_digest_98 : decode prog_1_method_30_code 98 = .ok (.getfield 105, 3) := by decide +kernel
theorem d_Np_digest_101 : decode prog_1_method_30_code 101 = .ok (.aload_n 0, 1) := by decide +kernel
theorem d_Np_digest_102 : decode prog_1_method_30_code 102 = .ok (.getfield 10, 3) := by decide +kernel
theorem d_Np_digest_105 : decode prog_1_method_30_code 105 = .ok (.getfield 129, 3) := by decide +kernel
theorem d_Np_digest_108 : decode prog_1_method_30_code 108 = .ok (.lload_n 1, 1) := by decide +kernel
theorem d_Np_digest_109 : decode prog_1_method_30_code 109 = .ok (.invokevirtual 315, 3) := by decide +kernel
theorem d_Np_digest_112 : decode prog_1_method_30_code 112 = .ok (.invokevirtual 319, 3) := by decide +kernel
theorem d_Np_digest_115 : decode prog_1_method_30_code 115 = .ok (.lstore_n 1, 1) := by decide +kernel
theorem d_Np_digest_116 : decode prog_1_method_30_code 116 = .ok (.ldc2_w 304, 3) := by decide +kernel
theorem d_Np_digest_119 : decode prog_1_method_30_code 119 = .ok (.lload_n 1, 1) := by decide +kernel
theorem d_Np_digest_120 : decode prog_1_method_30_code 120 = .ok (.lmul, 1) := by decide +kernel
theorem d_Np_digest_121 : decode prog_1_method_30_code 121 = .ok (.aload_n 0, 1) := by decide +kernel
theorem d_Np_digest_122 : decode prog_1_method_30_code 122 = .ok (.invokevirtual 320, 3) := by decide +kernel
theorem d_Np_digest_125 : decode prog_1_method_30_code 125 = .ok (.i2l, 1) := by decide +kernel
theorem d_Np_digest_126 : decode prog_1_method_30_code 126 = .ok (.ladd, 1) := by decide +kernel
theorem d_Np_digest_127 : decode prog_1_method_30_code 127 = .ok (.lstore_n 1, 1) := by decide +kernel
theorem d_Np_digest_128 : decode prog_1_method_30_code 128 = .ok (.ldc2_w 304, 3) := by decide +kernel
theorem d_Np_digest_131 : decode prog_1_method_30_code 131 = .ok (.lload_n 1, 1) := by decide +kernel
theorem d_Np_digest_132 : decode prog_1_method_30_code 132 = .ok (.lmul, 1) := by decide +kernel
theorem d_Np_digest_133 : decode prog_1_method_30_code 133 = .ok (.aload_n 0, 1) := by decide +kernel
theorem d_Np_digest_134 : decode prog_1_method_30_code 134 = .ok (.getfield 294, 3) := by decide +kernel
theorem d_Np_digest_137 : decode prog_1_method_30_code 137 = .ok (.i2l, 1) := by decide +kernel
theorem d_Np_digest_138 : decode prog_1_method_30_code 138 = .ok (.ladd, 1) := by decide +kernel
theorem d_Np_digest_139 : decode prog_1_method_30_code 139 = .ok (.lreturn, 1) := by decide +kernel
def b_Np_digest_41 (F : Nat) (k41 : Nat → Int64 → Int32 → PH → Option ((Nat ⊕ Int64) × PH)) (a0 : Nat) (i1 : Int64) (i3 : Int32) (h : PH) : Option ((Nat ⊕ Int64) × PH) :=
  (if (36 : Int32) ≤ i3 then bnd (gR h a0 9 0) fun x1 => bnd (gR h x1 8 3) fun x2 => bnd (gR h a0 9 0) fun x3 => bnd (gR h x3 8 1) fun x4 => bnd (cK h x4 4) fun _ => bnd (f_Rul_hash F x4 i1 h) fun x6 => bnd (cK h x2 0) fun _ => bnd (f_Log_hash F x2 x6 h) fun x8 => bnd (cK h a0 9) fun _ => bnd2 (f_Np_hint F a0 h) fun x10 h11 => bnd (some (((31 : Int64) * x8) + (x10.toInt64))) fun y12 => bnd (gI h11 a0 9 4) fun x13 => some (.inr (((31 : Int64) * y12) + (x13.toInt64)), h11) else bnd (cK h a0 9) fun _ => bndT (f_Np_candidates F a0 i3 h) fun x15 h16 => bnd (some (((31 : Int64) * i1) + (x15.toInt64))) fun y17 => bnd (cK h16 a0 9) fun _ => bndT (f_Np_cell F a0 i3 (0 : Int32) h16) fun x19 h20 => bnd (some (((31 : Int64) * y17) + (x19.toInt64))) fun y21 => bnd (cK h20 a0 9) fun _ => bndT (f_Np_cell F a0 i3 (1 : Int32) h20) fun x23 h24 => bnd (some (((31 : Int64) * y21) + (x23.toInt64))) fun y25 => k41 a0 y25 (i3 + (1 : Int32)) h24)
def f_Np_digest_41 (F : Nat) : Nat → Nat → Int64 → Int32 → PH → Option ((Nat ⊕ Int64) × PH)
  | 0 => fun _ _ _ _ => none
  | n + 1 => b_Np_digest_41 F (f_Np_digest_41 F n)
theorem g_Np_digest_41 {l : Launch} {E : ET} {d : Nat} (hd : 67 ≤ d) {F : Nat} {r : Int64} {h9 : PH} {x : Nat} {k41 : Nat → Int64 → Int32 → PH → Option ((Nat ⊕ Int64) × PH)} (hk41 : ∀ (a0 : Nat) (i1 : Int64) (i3 : Int32) (hh : PH), k41 a0 i1 i3 hh = some (.inr r, h9) → Go l E m_Np_digest (rm d 0 0) (KM E 0 0 (PoE (some (.long r)) h9 x)) 0 0 hh x 41 [(0, .ref a0), (1, .long i1), (3, .int i3)] []) (a0 : Nat) (i1 : Int64) (i3 : Int32) (h : PH) (hf : b_Np_digest_41 F k41 a0 i1 i3 h = some (.inr r, h9)) : Go l E m_Np_digest (rm d 0 0) (KM E 0 0 (PoE (some (.long r)) h9 x)) 0 0 h x 41 [(0, .ref a0), (1, .long i1), (3, .int i3)] [] := by
  unfold b_Np_digest_41 at hf
  refine go_iload_n 2 d_Np_digest_41 rfl ?_
  refine go_bipush (36 : Int32) d_Np_digest_42 (by decide) ?_
  refine go_icmp_ge 94 d_Np_digest_44 (by decide) (fun q26 => ?_) (fun q26 => ?_)
  · rw [if_pos q26] at hf
    refine go_aload_n 0 d_Np_digest_94 rfl ?_
    obtain ⟨x1, e_x1, hf⟩ := bnd_x hf
    refine go_get d_Np_digest_95 (gR_x e_x1) fl_Np_10 ?_
    obtain ⟨x2, e_x2, hf⟩ := bnd_x hf
    refine go_get d_Np_digest_98 (gR_x e_x2) fl_Np_105 ?_
    refine go_aload_n 0 d_Np_digest_101 rfl ?_
    obtain ⟨x3, e_x3, hf⟩ := bnd_x hf
    refine go_get d_Np_digest_102 (gR_x e_x3) fl_Np_10 ?_
    obtain ⟨x4, e_x4, hf⟩ := bnd_x hf
    refine go_get d_Np_digest_105 (gR_x e_x4) fl_Np_129 ?_
    refine go_lload_n 1 d_Np_digest_108 rfl ?_
    obtain ⟨_, e5, hf⟩ := bnd_x hf
    obtain ⟨x6, e_x6, hf⟩ := bnd_x hf
    refine go_callV_L (As := [.long i1]) (st := [.ref x2]) (c_Rul_hash (d := d - 1) (by omega) e_x6) lk_Np_315 rfl rfl e5 (by decide) rfl (rm_ok (by omega)) (Nat.le_of_ble_eq_true rfl) rm_c d_Np_digest_109 ?_
    obtain ⟨_, e7, hf⟩ := bnd_x hf
    obtain ⟨x8, e_x8, hf⟩ := bnd_x hf
    refine go_callV_L (As := [.long x6]) (st := []) (c_Log_hash (d := d - 1) (by omega) e_x8) lk_Np_319 rfl rfl e7 (by decide) rfl (rm_ok (by omega)) (Nat.le_of_ble_eq_true rfl) rm_c d_Np_digest_112 ?_
    refine go_lstore_n (lv' := [(1, .long x8), (0, .ref a0), (3, .int i3)]) d_Np_digest_115 rfl (by decide) ?_
    refine go_ldc2 (31 : Int64) d_Np_digest_116 kl_Np_304 ?_
    refine go_lload_n 0 d_Np_digest_119 rfl ?_
    refine go_lmul d_Np_digest_120 ?_
    refine go_aload_n 1 d_Np_digest_121 rfl ?_
    obtain ⟨_, e9, hf⟩ := bnd_x hf
    obtain ⟨x10, h11, e_x10, hf⟩ := bnd2_x hf
    refine go_callV_I (As := []) (st := [.long ((31 : Int64) * x8)]) (c_Np_hint (d := d - 1) (by omega) e_x10) lk_Np_320 rfl rfl e9 (by decide) rfl (rm_ok (by omega)) (Nat.le_of_ble_eq_true rfl) rm_c d_Np_digest_122 ?_
    refine go_i2l d_Np_digest_125 ?_
    refine go_ladd d_Np_digest_126 ?_
    obtain ⟨y12, e_y12, hf⟩ := bnd_x hf
    refine go_nmL e_y12 ?_
    refine go_lstore_n (lv' := [(1, .long y12), (0, .ref a0), (3, .int i3)]) d_Np_digest_127 rfl (by decide) ?_
    refine go_ldc2 (31 : Int64) d_Np_digest_128 kl_Np_304 ?_
    refine go_lload_n 0 d_Np_digest_131 rfl ?_
    refine go_lmul d_Np_digest_132 ?_
    refine go_aload_n 1 d_Np_digest_133 rfl ?_
    obtain ⟨x13, e_x13, hf⟩ := bnd_x hf
    refine go_get d_Np_digest_134 (gI_x e_x13) fl_Np_294 ?_
    refine go_i2l d_Np_digest_137 ?_
    refine go_ladd d_Np_digest_138 ?_
    obtain ⟨e8, e9⟩ := Prod.mk.inj (Option.some.inj hf)
    have e7 := Sum.inr.inj e8; subst e7; subst e9
    exact go_lret d_Np_digest_139 rfl ⟨rfl, rfl, rfl⟩
  · rw [if_neg q26] at hf
    refine go_ldc2 (31 : Int64) d_Np_digest_47 kl_Np_304 ?_
    refine go_lload_n 1 d_Np_digest_50 rfl ?_
    refine go_lmul d_Np_digest_51 ?_
    refine go_aload_n 0 d_Np_digest_52 rfl ?_
    refine go_iload_n 2 d_Np_digest_53 rfl ?_
    obtain ⟨_, e14, hf⟩ := bnd_x hf
    obtain ⟨x15, h16, e_x15, hf⟩ := bndT_r hf
    refine go_callV_I (As := [.int i3]) (st := [.long ((31 : Int64) * i1)]) (c_Np_candidates (d := d - 1) (by omega) e_x15) lk_Np_309 rfl rfl e14 (by decide) rfl (rm_ok (by omega)) (Nat.le_of_ble_eq_true rfl) rm_c d_Np_digest_54 ?_
    refine go_i2l d_Np_digest_57 ?_
    refine go_ladd d_Np_digest_58 ?_
    obtain ⟨y17, e_y17, hf⟩ := bnd_x hf
    refine go_nmL e_y17 ?_
    refine go_lstore_n (lv' := [(1, .long y17), (0, .ref a0), (3, .int i3)]) d_Np_digest_59 rfl (by decide) ?_
    refine go_ldc2 (31 : Int64) d_Np_digest_60 kl_Np_304 ?_
    refine go_lload_n 0 d_Np_digest_63 rfl ?_
    refine go_lmul d_Np_digest_64 ?_
    refine go_aload_n 1 d_Np_digest_65 rfl ?_
    refine go_iload_n 2 d_Np_digest_66 rfl ?_
    refine go_iconst (0 : Int32) d_Np_digest_67 (by decide) ?_
    obtain ⟨_, e18, hf⟩ := bnd_x hf
    obtain ⟨x19, h20, e_x19, hf⟩ := bndT_r hf
    refine go_callV_I (As := [.int i3, .int (0 : Int32)]) (st := [.long ((31 : Int64) * y17)]) (c_Np_cell (d := d - 1) (by omega) e_x19) lk_Np_312 rfl rfl e18 (by decide) rfl (rm_ok (by omega)) (Nat.le_of_ble_eq_true rfl) rm_c d_Np_digest_68 ?_
    refine go_i2l d_Np_digest_71 ?_
    refine go_ladd d_Np_digest_72 ?_
    obtain ⟨y21, e_y21, hf⟩ := bnd_x hf
    refine go_nmL e_y21 ?_
    refine go_lstore_n (lv' := [(1, .long y21), (0, .ref a0), (3, .int i3)]) d_Np_digest_73 rfl (by decide) ?_
    refine go_ldc2 (31 : Int64) d_Np_digest_74 kl_Np_304 ?_
    refine go_lload_n 0 d_Np_digest_77 rfl ?_
    refine go_lmul d_Np_digest_78 ?_
    refine go_aload_n 1 d_Np_digest_79 rfl ?_
    refine go_iload_n 2 d_Np_digest_80 rfl ?_
    refine go_iconst (1 : Int32) d_Np_digest_81 (by decide) ?_
    obtain ⟨_, e22, hf⟩ := bnd_x hf
    obtain ⟨x23, h24, e_x23, hf⟩ := bndT_r hf
    refine go_callV_I (As := [.int i3, .int (1 : Int32)]) (st := [.long ((31 : Int64) * y21)]) (c_Np_cell (d := d - 1) (by omega) e_x23) lk_Np_312 rfl rfl e22 (by decide) rfl (rm_ok (by omega)) (Nat.le_of_ble_eq_true rfl) rm_c d_Np_digest_82 ?_
    refine go_i2l d_Np_digest_85 ?_
    refine go_ladd d_Np_digest_86 ?_
    obtain ⟨y25, e_y25, hf⟩ := bnd_x hf
    refine go_nmL e_y25 ?_
    refine go_lstore_n (lv' := [(1, .long y25), (0, .ref a0), (3, .int i3)]) d_Np_digest_87 rfl (by decide) ?_
    refine go_iinc (lv' := [(3, .int (i3 + (1 : Int32))), (1, .long y25), (0, .ref a0)]) 2 (i3 + (1 : Int32)) d_Np_digest_88 rfl rfl rfl (by decide) ?_
    refine go_goto 41 d_Np_digest_91 (by decide) ?_
    refine go_sub (lv' := [(0, .ref a0), (1, .long y25), (3, .int (i3 + (1 : Int32)))]) [2, 1, 0] rfl ?_
    exact hk41 a0 y25 (i3 + (1 : Int32)) h24 hf
theorem t_Np_digest_41 {l : Launch} {E : ET} {d : Nat} (hd : 67 ≤ d) {F : Nat} {r : Int64} {h9 : PH} {x : Nat}  : ∀ (n : Nat) (a0 : Nat) (i1 : Int64) (i3 : Int32) (hh : PH), f_Np_digest_41 F n a0 i1 i3 hh = some (.inr r, h9) → Go l E m_Np_digest (rm d 0 0) (KM E 0 0 (PoE (some (.long r)) h9 x)) 0 0 hh x 41 [(0, .ref a0), (1, .long i1), (3, .int i3)] [] := by
  intro n
  induction n with
  | zero => intro v0 v1 v2 v3 hf; cases hf
  | succ n ih => intro v0 v1 v2 v3 hf; exact g_Np_digest_41 hd ih v0 v1 v2 v3 hf
def b_Np_digest_15 (F : Nat) (k15 : Nat → Int64 → Int32 → PH → Option ((Nat ⊕ Int64) × PH)) (a0 : Nat) (i1 : Int64) (i3 : Int32) (h : PH) : Option ((Nat ⊕ Int64) × PH) :=
  (if (5 : Int32) < i3 then f_Np_digest_41 F F a0 i1 (0 : Int32) h else bnd (cK h a0 9) fun _ => bndT (f_Np_count F a0 i3 h) fun x2 h3 => bnd (some (((31 : Int64) * i1) + (x2.toInt64))) fun y4 => k15 a0 y4 (i3 + (1 : Int32)) h3)
def f_Np_digest_15 (F : Nat) : Nat → Nat → Int64 → Int32 → PH → Option ((Nat ⊕ Int64) × PH)
  | 0 => fun _ _ _ _ => none
  | n + 1 => b_Np_digest_15 F (f_Np_digest_15 F n)
theorem g_Np_digest_15 {l : Launch} {E : ET} {d : Nat} (hd : 67 ≤ d) {F : Nat} {r : Int64} {h9 : PH} {x : Nat} {k15 : Nat → Int64 → Int32 → PH → Option ((Nat ⊕ Int64) × PH)} (hk15 : ∀ (a0 : Nat) (i1 : Int64) (i3 : Int32) (hh : PH), k15 a0 i1 i3 hh = some (.inr r, h9) → Go l E m_Np_digest (rm d 0 0) (KM E 0 0 (PoE (some (.long r)) h9 x)) 0 0 hh x 15 [(0, .ref a0), (1, .long i1), (3, .int i3)] []) (a0 : Nat) (i1 : Int64) (i3 : Int32) (h : PH) (hf : b_Np_digest_15 F k15 a0 i1 i3 h = some (.inr r, h9)) : Go l E m_Np_digest (rm d 0 0) (KM E 0 0 (PoE (some (.long r)) h9 x)) 0 0 h x 15 [(0, .ref a0), (1, .long i1), (3, .int i3)] [] := by
  unfold b_Np_digest_15 at hf
  refine go_iload_n 2 d_Np_digest_15 rfl ?_
  refine go_iconst (5 : Int32) d_Np_digest_16 (by decide) ?_
  refine go_icmp_gt 39 d_Np_digest_17 (by decide) (fun q5 => ?_) (fun q5 => ?_)
  · rw [if_pos q5] at hf
    refine go_iconst (0 : Int32) d_Np_digest_39 (by decide) ?_
    refine go_istore_n (lv' := [(3, .int (0 : Int32)), (0, .ref a0), (1, .long i1)]) d_Np_digest_40 rfl (by decide) ?_
    refine go_sub (lv' := [(0, .ref a0), (1, .long i1), (3, .int (0 : Int32))]) [1, 2, 0] rfl ?_
    exact t_Np_digest_41 hd  _ a0 i1 (0 : Int32) h hf
  · rw [if_neg q5] at hf
    refine go_ldc2 (31 : Int64) d_Np_digest_20 kl_Np_304 ?_
    refine go_lload_n 1 d_Np_digest_23 rfl ?_
    refine go_lmul d_Np_digest_24 ?_
    refine go_aload_n 0 d_Np_digest_25 rfl ?_
    refine go_iload_n 2 d_Np_digest_26 rfl ?_
    obtain ⟨_, e1, hf⟩ := bnd_x hf
    obtain ⟨x2, h3, e_x2, hf⟩ := bndT_r hf
    refine go_callV_I (As := [.int i3]) (st := [.long ((31 : Int64) * i1)]) (c_Np_count (d := d - 1) (by omega) e_x2) lk_Np_306 rfl rfl e1 (by decide) rfl (rm_ok (by omega)) (Nat.le_of_ble_eq_true rfl) rm_c d_Np_digest_27 ?_
    refine go_i2l d_Np_digest_30 ?_
    refine go_ladd d_Np_digest_31 ?_
    obtain ⟨y4, e_y4, hf⟩ := bnd_x hf
    refine go_nmL e_y4 ?_
    refine go_lstore_n (lv' := [(1, .long y4), (0, .ref a0), (3, .int i3)]) d_Np_digest_32 rfl (by decide) ?_
    refine go_iinc (lv' := [(3, .int (i3 + (1 : Int32))), (1, .long y4), (0, .ref a0)]) 2 (i3 + (1 : Int32)) d_Np_digest_33 rfl rfl rfl (by decide) ?_
    refine go_goto 15 d_Np_digest_36 (by decide) ?_
    refine go_sub (lv' := [(0, .ref a0), (1, .long y4), (3, .int (i3 + (1 : Int32)))]) [2, 1, 0] rfl ?_
    exact hk15 a0 y4 (i3 + (1 : Int32)) h3 hf
theorem t_Np_digest_15 {l : Launch} {E : ET} {d : Nat} (hd : 67 ≤ d) {F : Nat} {r : Int64} {h9 : PH} {x : Nat}  : ∀ (n : Nat) (a0 : Nat) (i1 : Int64) (i3 : Int32) (hh : PH), f_Np_digest_15 F n a0 i1 i3 hh = some (.inr r, h9) → Go l E m_Np_digest (rm d 0 0) (KM E 0 0 (PoE (some (.long r)) h9 x)) 0 0 hh x 15 [(0, .ref a0), (1, .long i1), (3, .int i3)] [] := by
  intro n
  induction n with
  | zero => intro v0 v1 v2 v3 hf; cases hf
  | succ n ih => intro v0 v1 v2 v3 hf; exact g_Np_digest_15 hd ih v0 v1 v2 v3 hf
def f_Np_digest (F : Nat) (a0 : Nat) (h : PH) : Option ((Nat ⊕ Int64) × PH) :=
  bnd (gR h a0 9 5) fun x1 => bnd (gI h x1 2 1) fun x2 => bnd (some ((94271 : Int64) + (x2.toInt64))) fun y3 => f_Np_digest_15 F F a0 y3 (0 : Int32) h
theorem g_Np_digest_0 {l : Launch} {E : ET} {d : Nat} (hd : 67 ≤ d) {F : Nat} {r : Int64} {h9 : PH} {x : Nat}  (a0 : Nat) (h : PH) (hf : f_Np_digest F a0 h = some (.inr r, h9)) : Go l E m_Np_digest (rm d 0 0) (KM E 0 0 (PoE (some (.long r)) h9 x)) 0 0 h x 0 [(0, .ref a0)] [] := by
  unfold f_Np_digest at hf
  refine go_ldc2 (94271 : Int64) d_Np_digest_0 kl_Np_302 ?_
  refine go_aload_n 0 d_Np_digest_3 rfl ?_
  obtain ⟨x1, e_x1, hf⟩ := bnd_x hf
  refine go_get d_Np_digest_4 (gR_x e_x1) fl_Np_26 ?_
  obtain ⟨x2, e_x2, hf⟩ := bnd_x hf
  refine go_get d_Np_digest_7 (gI_x e_x2) fl_Np_280 ?_
  refine go_i2l d_Np_digest_10 ?_
  refine go_ladd d_Np_digest_11 ?_
  obtain ⟨y3, e_y3, hf⟩ := bnd_x hf
  refine go_nmL e_y3 ?_
  refine go_lstore_n (lv' := [(1, .long y3), (0, .ref a0)]) d_Np_digest_12 rfl (by decide) ?_
  refine go_iconst (0 : Int32) d_Np_digest_13 (by decide) ?_
  refine go_istore_n (lv' := [(3, .int (0 : Int32)), (1, .long y3), (0, .ref a0)]) d_Np_digest_14 rfl (by decide) ?_
  refine go_sub (lv' := [(0, .ref a0), (1, .long y3), (3, .int (0 : Int32))]) [2, 1, 0] rfl ?_
  exact t_Np_digest_15 hd  _ a0 y3 (0 : Int32) h hf
theorem c_Np_digest {l : Launch} {E : ET} {d : Nat} (hd : 67 ≤ d) {F : Nat} {r : Int64} {h9 : PH} {x : Nat} {a0 : Nat} {h : PH} (hf : f_Np_digest F a0 h = some (.inr r, h9)) : Fn l E m_Np_digest d 0 0 [.ref a0] h x (PoE (some (.long r)) h9 x) :=
  Fn.of (by decide +kernel) (Nat.le_of_ble_eq_true rfl) (g_Np_digest_0 hd a0 h hf)
