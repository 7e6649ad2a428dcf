/-! 10.sieve: methods as functions, by program. -/
/-- how deep a method may call itself -/
def RD : Nat := 60
theorem ne_ti {x : Int32} (n : Int) (c : Int32) (hc : c.toInt = n) (h : ¬ x = c) : x.toInt ≠ n := fun q => h (Int32.toInt_inj.mp (q.trans hc.symm))
theorem d_Siv_smallest_0 : decode prog_9_method_6_code 0 = .ok (.iconst 1, 1) := by decide +kernel
theorem d_Siv_smallest_1 : decode prog_9_method_6_code 1 = .ok (.istore_n 1, 1) := by decide +kernel
theorem d_Siv_smallest_2 : decode prog_9_method_6_code 2 = .ok (.iload_n 1, 1) := by decide +kernel
theorem d_Siv_smallest_3 : decode prog_9_method_6_code 3 = .ok (.bipush 6, 2) := by decide +kernel
theorem d_Siv_smallest_5 : decode prog_9_method_6_code 5 = .ok (.if_icmp .gt 19, 3) := by decide +kernel
theorem d_Siv_smallest_8 : decode prog_9_method_6_code 8 = .ok (.iload_n 0, 1) := by decide +kernel
theorem d_Siv_smallest_9 : decode prog_9_method_6_code 9 = .ok (.iload_n 1, 1) := by decide +kernel
theorem d_Siv_smallest_10 : decode prog_9_method_6_code 10 = .ok (.ishr, 1) := by decide +kernel
theorem d_Siv_smallest_11 : decode prog_9_method_6_code 11 = .ok (.iconst 1, 1) := by decide +kernel
theorem d_Siv_smallest_12 : decode prog_9_method_6_code 12 = .ok (.iand, 1) := by decide +kernel
theorem d_Siv_smallest_13 : decode prog_9_method_6_code 13 = .ok (.ifCond .eq 5, 3) := by decide +kernel
theorem d_Siv_smallest_16 : decode prog_9_method_6_code 16 = .ok (.iload_n 1, 1) := by decide +kernel
theorem d_Siv_smallest_17 : decode prog_9_method_6_code 17 = .ok (.ireturn, 1) := by decide +kernel
theorem d_Siv_smallest_18 : decode prog_9_method_6_code 18 = .ok (.iinc 1 1, 3) := by decide +kernel
theorem d_Siv_smallest_21 : decode prog_9_method_6_code 21 = .ok (.goto (-19), 3) := by decide +kernel
theorem d_Siv_smallest_24 : decode prog_9_method_6_code 24 = .ok (.bipush 7, 2) := by decide +kernel
theorem d_Siv_smallest_26 : decode prog_9_method_6_code 26 = .ok (.ireturn, 1) := by decide +kernel
def b_Siv_smallest_2 (F : Nat) (k2 : Int32 → Int32 → Option Int32) (i0 : Int32) (i1 : Int32) : Option Int32 :=
  (if (6 : Int32) < i1 then some (7 : Int32) else (if ((i0 >>> (i1 &&& 31)) &&& (1 : Int32)) = (0 : Int32) then k2 i0 (i1 + (1 : Int32)) else some i1))
def f_Siv_smallest_2 (F : Nat) : Nat → Int32 → Int32 → Option Int32
  | 0 => fun _ _ => none
  | n + 1 => b_Siv_smallest_2 F (f_Siv_smallest_2 F n)
theorem g_Siv_smallest_2 {l : Launch} {E : ET} {d : Nat} (hd : 1 ≤ d) {F : Nat} {r : Int32} {h : PH} {x : Nat} {k2 : Int32 → Int32 → Option Int32} (hk2 : ∀ (i0 : Int32) (i1 : Int32), k2 i0 i1 = some r → Go l E m_Siv_smallest (rm d 0 0) (KM E 0 0 (PoE (some (.int r)) h x)) 0 0 h x 2 [(0, .int i0), (1, .int i1)] []) (i0 : Int32) (i1 : Int32) (hf : b_Siv_smallest_2 F k2 i0 i1 = some r) : Go l E m_Siv_smallest (rm d 0 0) (KM E 0 0 (PoE (some (.int r)) h x)) 0 0 h x 2 [(0, .int i0), (1, .int i1)] [] := by
  unfold b_Siv_smallest_2 at hf
  refine go_iload_n 1 d_Siv_smallest_2 rfl ?_
  refine go_bipush (6 : Int32) d_Siv_smallest_3 (by decide) ?_
  refine go_icmp_gt 24 d_Siv_smallest_5 (by decide) (fun q2 => ?_) (fun q2 => ?_)
  · rw [if_pos q2] at hf
    refine go_bipush (7 : Int32) d_Siv_smallest_24 (by decide) ?_
    have e9 := Option.some.inj hf
    subst e9
    exact go_iret d_Siv_smallest_26 rfl ⟨rfl, rfl, rfl⟩
  · rw [if_neg q2] at hf
    refine go_iload_n 0 d_Siv_smallest_8 rfl ?_
    refine go_iload_n 1 d_Siv_smallest_9 rfl ?_
    refine go_ishr d_Siv_smallest_10 ?_
    refine go_iconst (1 : Int32) d_Siv_smallest_11 (by decide) ?_
    refine go_iand d_Siv_smallest_12 ?_
    refine go_if_eq 18 d_Siv_smallest_13 (by decide) (fun q1 => ?_) (fun q1 => ?_)
    · rw [if_pos q1] at hf
      refine go_iinc (lv' := [(1, .int (i1 + (1 : Int32))), (0, .int i0)]) 1 (i1 + (1 : Int32)) d_Siv_smallest_18 rfl rfl rfl (by decide) ?_
      refine go_goto 2 d_Siv_smallest_21 (by decide) ?_
      refine go_sub (lv' := [(0, .int i0), (1, .int (i1 + (1 : Int32)))]) [1, 0] rfl ?_
      exact hk2 i0 (i1 + (1 : Int32)) hf
    · rw [if_neg q1] at hf
      refine go_iload_n 1 d_Siv_smallest_16 rfl ?_
      have e9 := Option.some.inj hf
      subst e9
      exact go_iret d_Siv_smallest_17 rfl ⟨rfl, rfl, rfl⟩
theorem t_Siv_smallest_2 {l : Launch} {E : ET} {d : Nat} (hd : 1 ≤ d) {F : Nat} {r : Int32} {h : PH} {x : Nat}  : ∀ (n : Nat) (i0 : Int32) (i1 : Int32), f_Siv_smallest_2 F n i0 i1 = some r → Go l E m_Siv_smallest (rm d 0 0) (KM E 0 0 (PoE (some (.int r)) h x)) 0 0 h x 2 [(0, .int i0), (1, .int i1)] [] := by
  intro n
  induction n with
  | zero => intro v0 v1 hf; cases hf
  | succ n ih => intro v0 v1 hf; exact g_Siv_smallest_2 hd ih v0 v1 hf
def f_Siv_smallest (F : Nat) (i0 : Int32) : Option Int32 :=
  f_Siv_smallest_2 F F i0 (1 : Int32)
theorem g_Siv_smallest_0 {l : Launch} {E : ET} {d : Nat} (hd : 1 ≤ d) {F : Nat} {r : Int32} {h : PH} {x : Nat}  (i0 : Int32) (hf : f_Siv_smallest F i0 = some r) : Go l E m_Siv_smallest (rm d 0 0) (KM E 0 0 (PoE (some (.int r)) h x)) 0 0 h x 0 [(0, .int i0)] [] := by
  unfold f_Siv_smallest at hf
  refine go_iconst (1 : Int32) d_Siv_smallest_0 (by decide) ?_
  refine go_istore_n (lv' := [(1, .int (1 : Int32)), (0, .int i0)]) d_Siv_smallest_1 rfl (by decide) ?_
  refine go_sub (lv' := [(0, .int i0), (1, .int (1 : Int32))]) [1, 0] rfl ?_
  exact t_Siv_smallest_2 hd  _ i0 (1 : Int32)  hf
theorem c_Siv_smallest {l : Launch} {E : ET} {d : Nat} (hd : 1 ≤ d) {F : Nat} {r : Int32} {h : PH} {x : Nat} {i0 : Int32} (hf : f_Siv_smallest F i0 = some r) : Fn l E m_Siv_smallest d 0 0 [.int i0] h x (PoE (some (.int r)) h x) :=
  Fn.of (by decide +kernel) (Nat.le_of_ble_eq_true rfl) (g_Siv_smallest_0 hd i0 hf)
theorem d_Siv_greatest_0 : decode prog_9_method_7_code 0 = .ok (.bipush 6, 2) := by decide +kernel
theorem d_Siv_greatest_2 : decode prog_9_method_7_code 2 = .ok (.istore_n 1, 1) := by decide +kernel
theorem d_Siv_greatest_3 : decode prog_9_method_7_code 3 = .ok (.iload_n 1, 1) := by decide +kernel
theorem d_Siv_greatest_4 : decode prog_9_method_7_code 4 = .ok (.iconst 1, 1) := by decide +kernel
theorem d_Siv_greatest_5 : decode prog_9_method_7_code 5 = .ok (.if_icmp .lt 19, 3) := by decide +kernel
theorem d_Siv_greatest_8 : decode prog_9_method_7_code 8 = .ok (.iload_n 0, 1) := by decide +kernel
theorem d_Siv_greatest_9 : decode prog_9_method_7_code 9 = .ok (.iload_n 1, 1) := by decide +kernel
theorem d_Siv_greatest_10 : decode prog_9_method_7_code 10 = .ok (.ishr, 1) := by decide +kernel
theorem d_Siv_greatest_11 : decode prog_9_method_7_code 11 = .ok (.iconst 1, 1) := by decide +kernel
theorem d_Siv_greatest_12 : decode prog_9_method_7_code 12 = .ok (.iand, 1) := by decide +kernel
theorem d_Siv_greatest_13 : decode prog_9_method_7_code 13 = .ok (.ifCond .eq 5, 3) := by decide +kernel
theorem d_Siv_greatest_16 : decode prog_9_method_7_code 16 = .ok (.iload_n 1, 1) := by decide +kernel
theorem d_Siv_greatest_17 : decode prog_9_method_7_code 17 = .ok (.ireturn, 1) := by decide +kernel
theorem d_Siv_greatest_18 : decode prog_9_method_7_code 18 = .ok (.iinc 1 (-1), 3) := by decide +kernel
theorem d_Siv_greatest_21 : decode prog_9_method_7_code 21 = .ok (.goto (-18), 3) := by decide +kernel
theorem d_Siv_greatest_24 : decode prog_9_method_7_code 24 = .ok (.iconst 0, 1) := by decide +kernel
theorem d_Siv_greatest_25 : decode prog_9_method_7_code 25 = .ok (.ireturn, 1) := by decide +kernel
def b_Siv_greatest_3 (F : Nat) (k3 : Int32 → Int32 → Option Int32) (i0 : Int32) (i1 : Int32) : Option Int32 :=
  (if i1 < (1 : Int32) then some (0 : Int32) else (if ((i0 >>> (i1 &&& 31)) &&& (1 : Int32)) = (0 : Int32) then k3 i0 (i1 + (-1 : Int32)) else some i1))
def f_Siv_greatest_3 (F : Nat) : Nat → Int32 → Int32 → Option Int32
  | 0 => fun _ _ => none
  | n + 1 => b_Siv_greatest_3 F (f_Siv_greatest_3 F n)
theorem g_Siv_greatest_3 {l : Launch} {E : ET} {d : Nat} (hd : 1 ≤ d) {F : Nat} {r : Int32} {h : PH} {x : Nat} {k3 : Int32 → Int32 → Option Int32} (hk3 : ∀ (i0 : Int32) (i1 : Int32), k3 i0 i1 = some r → Go l E m_Siv_greatest (rm d 0 0) (KM E 0 0 (PoE (some (.int r)) h x)) 0 0 h x 3 [(0, .int i0), (1, .int i1)] []) (i0 : Int32) (i1 : Int32) (hf : b_Siv_greatest_3 F k3 i0 i1 = some r) : Go l E m_Siv_greatest (rm d 0 0) (KM E 0 0 (PoE (some (.int r)) h x)) 0 0 h x 3 [(0, .int i0), (1, .int i1)] [] := by
  unfold b_Siv_greatest_3 at hf
  refine go_iload_n 1 d_Siv_greatest_3 rfl ?_
  refine go_iconst (1 : Int32) d_Siv_greatest_4 (by decide) ?_
  refine go_icmp_lt 24 d_Siv_greatest_5 (by decide) (fun q2 => ?_) (fun q2 => ?_)
  · rw [if_pos q2] at hf
    refine go_iconst (0 : Int32) d_Siv_greatest_24 (by decide) ?_
    have e9 := Option.some.inj hf
    subst e9
    exact go_iret d_Siv_greatest_25 rfl ⟨rfl, rfl, rfl⟩
  · rw [if_neg q2] at hf
    refine go_iload_n 0 d_Siv_greatest_8 rfl ?_
    refine go_iload_n 1 d_Siv_greatest_9 rfl ?_
    refine go_ishr d_Siv_greatest_10 ?_
    refine go_iconst (1 : Int32) d_Siv_greatest_11 (by decide) ?_
    refine go_iand d_Siv_greatest_12 ?_
    refine go_if_eq 18 d_Siv_greatest_13 (by decide) (fun q1 => ?_) (fun q1 => ?_)
    · rw [if_pos q1] at hf
      refine go_iinc (lv' := [(1, .int (i1 + (-1 : Int32))), (0, .int i0)]) 1 (i1 + (-1 : Int32)) d_Siv_greatest_18 rfl rfl rfl (by decide) ?_
      refine go_goto 3 d_Siv_greatest_21 (by decide) ?_
      refine go_sub (lv' := [(0, .int i0), (1, .int (i1 + (-1 : Int32)))]) [1, 0] rfl ?_
      exact hk3 i0 (i1 + (-1 : Int32)) hf
    · rw [if_neg q1] at hf
      refine go_iload_n 1 d_Siv_greatest_16 rfl ?_
      have e9 := Option.some.inj hf
      subst e9
      exact go_iret d_Siv_greatest_17 rfl ⟨rfl, rfl, rfl⟩
theorem t_Siv_greatest_3 {l : Launch} {E : ET} {d : Nat} (hd : 1 ≤ d) {F : Nat} {r : Int32} {h : PH} {x : Nat}  : ∀ (n : Nat) (i0 : Int32) (i1 : Int32), f_Siv_greatest_3 F n i0 i1 = some r → Go l E m_Siv_greatest (rm d 0 0) (KM E 0 0 (PoE (some (.int r)) h x)) 0 0 h x 3 [(0, .int i0), (1, .int i1)] [] := by
  intro n
  induction n with
  | zero => intro v0 v1 hf; cases hf
  | succ n ih => intro v0 v1 hf; exact g_Siv_greatest_3 hd ih v0 v1 hf
def f_Siv_greatest (F : Nat) (i0 : Int32) : Option Int32 :=
  f_Siv_greatest_3 F F i0 (6 : Int32)
theorem g_Siv_greatest_0 {l : Launch} {E : ET} {d : Nat} (hd : 1 ≤ d) {F : Nat} {r : Int32} {h : PH} {x : Nat}  (i0 : Int32) (hf : f_Siv_greatest F i0 = some r) : Go l E m_Siv_greatest (rm d 0 0) (KM E 0 0 (PoE (some (.int r)) h x)) 0 0 h x 0 [(0, .int i0)] [] := by
  unfold f_Siv_greatest at hf
  refine go_bipush (6 : Int32) d_Siv_greatest_0 (by decide) ?_
  refine go_istore_n (lv' := [(1, .int (6 : Int32)), (0, .int i0)]) d_Siv_greatest_2 rfl (by decide) ?_
  refine go_sub (lv' := [(0, .int i0), (1, .int (6 : Int32))]) [1, 0] rfl ?_
  exact t_Siv_greatest_3 hd  _ i0 (6 : Int32)  hf
theorem c_Siv_greatest {l : Launch} {E : ET} {d : Nat} (hd : 1 ≤ d) {F : Nat} {r : Int32} {h : PH} {x : Nat} {i0 : Int32} (hf : f_Siv_greatest F i0 = some r) : Fn l E m_Siv_greatest d 0 0 [.int i0] h x (PoE (some (.int r)) h x) :=
  Fn.of (by decide +kernel) (Nat.le_of_ble_eq_true rfl) (g_Siv_greatest_0 hd i0 hf)
theorem d_Siv_between_0 : decode prog_9_method_8_code 0 = .ok (.iconst 1, 1) := by decide +kernel
theorem d_Siv_between_1 : decode prog_9_method_8_code 1 = .ok (.iload_n 1, 1) := by decide +kernel
theorem d_Siv_between_2 : decode prog_9_method_8_code 2 = .ok (.ishl, 1) := by decide +kernel
theorem d_Siv_between_3 : decode prog_9_method_8_code 3 = .ok (.iconst 1, 1) := by decide +kernel
theorem d_Siv_between_4 : decode prog_9_method_8_code 4 = .ok (.isub, 1) := by decide +kernel
theorem d_Siv_between_5 : decode prog_9_method_8_code 5 = .ok (.iconst 2, 1) := by decide +kernel
theorem d_Siv_between_6 : decode prog_9_method_8_code 6 = .ok (.iload_n 0, 1) := by decide +kernel
theorem d_Siv_between_7 : decode prog_9_method_8_code 7 = .ok (.ishl, 1) := by decide +kernel
theorem d_Siv_between_8 : decode prog_9_method_8_code 8 = .ok (.iconst 1, 1) := by decide +kernel
theorem d_Siv_between_9 : decode prog_9_method_8_code 9 = .ok (.isub, 1) := by decide +kernel
theorem d_Siv_between_10 : decode prog_9_method_8_code 10 = .ok (.iconst (-1), 1) := by decide +kernel
theorem d_Siv_between_11 : decode prog_9_method_8_code 11 = .ok (.ixor, 1) := by decide +kernel
theorem d_Siv_between_12 : decode prog_9_method_8_code 12 = .ok (.iand, 1) := by decide +kernel
theorem d_Siv_between_13 : decode prog_9_method_8_code 13 = .ok (.ireturn, 1) := by decide +kernel
def f_Siv_between (i0 : Int32) (i1 : Int32) : Option Int32 :=
  some ((((1 : Int32) <<< (i1 &&& 31)) - (1 : Int32)) &&& ((((2 : Int32) <<< (i0 &&& 31)) - (1 : Int32)) ^^^ (-1 : Int32)))
theorem g_Siv_between_0 {l : Launch} {E : ET} {d : Nat} (hd : 1 ≤ d) {r : Int32} {h : PH} {x : Nat}  (i0 : Int32) (i1 : Int32) (hf : f_Siv_between i0 i1 = some r) : Go l E m_Siv_between (rm d 0 0) (KM E 0 0 (PoE (some (.int r)) h x)) 0 0 h x 0 [(0, .int i0), (1, .int i1)] [] := by
  unfold f_Siv_between at hf
  refine go_iconst (1 : Int32) d_Siv_between_0 (by decide) ?_
  refine go_iload_n 1 d_Siv_between_1 rfl ?_
  refine go_ishl d_Siv_between_2 ?_
  refine go_iconst (1 : Int32) d_Siv_between_3 (by decide) ?_
  refine go_isub d_Siv_between_4 ?_
  refine go_iconst (2 : Int32) d_Siv_between_5 (by decide) ?_
  refine go_iload_n 0 d_Siv_between_6 rfl ?_
  refine go_ishl d_Siv_between_7 ?_
  refine go_iconst (1 : Int32) d_Siv_between_8 (by decide) ?_
  refine go_isub d_Siv_between_9 ?_
  refine go_iconst (-1 : Int32) d_Siv_between_10 (by decide) ?_
  refine go_ixor d_Siv_between_11 ?_
  refine go_iand d_Siv_between_12 ?_
  have e9 := Option.some.inj hf
  subst e9
  exact go_iret d_Siv_between_13 rfl ⟨rfl, rfl, rfl⟩
theorem c_Siv_between {l : Launch} {E : ET} {d : Nat} (hd : 1 ≤ d) {r : Int32} {h : PH} {x : Nat} {i0 : Int32} {i1 : Int32} (hf : f_Siv_between i0 i1 = some r) : Fn l E m_Siv_between d 0 0 [.int i0, .int i1] h x (PoE (some (.int r)) h x) :=
  Fn.of (by decide +kernel) (Nat.le_of_ble_eq_true rfl) (g_Siv_between_0 hd i0 i1 hf)
theorem d_Siv_ascend_0 : decode prog_9_method_3_code 0 = .ok (.iconst 0, 1) := by decide +kernel
theorem d_Siv_ascend_1 : decode prog_9_method_3_code 1 = .ok (.istore_n 1, 1) := by decide +kernel
theorem d_Siv_ascend_2 : decode prog_9_method_3_code 2 = .ok (.iload_n 1, 1) := by decide +kernel
theorem d_Siv_ascend_3 : decode prog_9_method_3_code 3 = .ok (.aload_n 0, 1) := by decide +kernel
theorem d_Siv_ascend_4 : decode prog_9_method_3_code 4 = .ok (.getfield 29, 3) := by decide +kernel
theorem d_Siv_ascend_7 : decode prog_9_method_3_code 7 = .ok (.if_icmp .ge 21, 3) := by decide +kernel
theorem d_Siv_ascend_10 : decode prog_9_method_3_code 10 = .ok (.aload_n 0, 1) := by decide +kernel
theorem d_Siv_ascend_11 : decode prog_9_method_3_code 11 = .ok (.getfield 15, 3) := by decide +kernel
theorem d_Siv_ascend_14 : decode prog_9_method_3_code 14 = .ok (.iload_n 1, 1) := by decide +kernel
theorem d_Siv_ascend_15 : decode prog_9_method_3_code 15 = .ok (.aload_n 0, 1) := by decide +kernel
theorem d_Siv_ascend_16 : decode prog_9_method_3_code 16 = .ok (.getfield 11, 3) := by decide +kernel
theorem d_Siv_ascend_19 : decode prog_9_method_3_code 19 = .ok (.iload_n 1, 1) := by decide +kernel
theorem d_Siv_ascend_20 : decode prog_9_method_3_code 20 = .ok (.iaload, 1) := by decide +kernel
theorem d_Siv_ascend_21 : decode prog_9_method_3_code 21 = .ok (.iastore, 1) := by decide +kernel
theorem d_Siv_ascend_22 : decode prog_9_method_3_code 22 = .ok (.iinc 1 1, 3) := by decide +kernel
theorem d_Siv_ascend_25 : decode prog_9_method_3_code 25 = .ok (.goto (-23), 3) := by decide +kernel
theorem d_Siv_ascend_28 : decode prog_9_method_3_code 28 = .ok (.iconst 1, 1) := by decide +kernel
theorem d_Siv_ascend_29 : decode prog_9_method_3_code 29 = .ok (.istore_n 1, 1) := by decide +kernel
theorem d_Siv_ascend_30 : decode prog_9_method_3_code 30 = .ok (.iconst 0, 1) := by decide +kernel
theorem d_Siv_ascend_31 : decode prog_9_method_3_code 31 = .ok (.istore_n 2, 1) := by decide +kernel
theorem d_Siv_ascend_32 : decode prog_9_method_3_code 32 = .ok (.iload_n 1, 1) := by decide +kernel
theorem d_Siv_ascend_33 : decode prog_9_method_3_code 33 = .ok (.ifCond .eq 127, 3) := by decide +kernel
theorem d_Siv_ascend_36 : decode prog_9_method_3_code 36 = .ok (.iload_n 2, 1) := by decide +kernel
theorem d_Siv_ascend_37 : decode prog_9_method_3_code 37 = .ok (.bipush 36, 2) := by decide +kernel
theorem d_Siv_ascend_39 : decode prog_9_method_3_code 39 = .ok (.if_icmp .gt 121, 3) := by decide +kernel
theorem d_Siv_ascend_42 : decode prog_9_method_3_code 42 = .ok (.iconst 0, 1) := by decide +kernel
theorem d_Siv_ascend_43 : decode prog_9_method_3_code 43 = .ok (.istore_n 1, 1) := by decide +kernel
theorem d_Siv_ascend_44 : decode prog_9_method_3_code 44 = .ok (.iconst 0, 1) := by decide +kernel
theorem d_Siv_ascend_45 : decode prog_9_method_3_code 45 = .ok (.istore_n 3, 1) := by decide +kernel
theorem d_Siv_ascend_46 : decode prog_9_method_3_code 46 = .ok (.iload_n 3, 1) := by decide +kernel
theorem d_Siv_ascend_47 : decode prog_9_method_3_code 47 = .ok (.aload_n 0, 1) := by decide +kernel
theorem d_Siv_ascend_48 : decode prog_9_method_3_code 48 = .ok (.getfield 29, 3) := by decide +kernel
theorem d_Siv_ascend_51 : decode prog_9_method_3_code 51 = .ok (.if_icmp .ge 103, 3) := by decide +kernel
theorem d_Siv_ascend_54 : decode prog_9_method_3_code 54 = .ok (.iload_n 3, 1) := by decide +kernel
theorem d_Siv_ascend_55 : decode prog_9_method_3_code 55 = .ok (.ifCond .le 17, 3) := by decide +kernel
theorem d_Siv_ascend_58 : decode prog_9_method_3_code 58 = .ok (.aload_n 0, 1) := by decide +kernel
theorem d_Siv_ascend_59 : decode prog_9_method_3_code 59 = .ok (.getfield 15, 3) := by decide +kernel
theorem d_Siv_ascend_62 : decode prog_9_method_3_code 62 = .ok (.iload_n 3, 1) := by decide +kernel
theorem d_Siv_ascend_63 : decode prog_9_method_3_code 63 = .ok (.iconst 1, 1) := by decide +kernel
theorem d_Siv_ascend_64 : decode prog_9_method_3_code 64 = .ok (.isub, 1) := by decide +kernel
theorem d_Siv_ascend_65 : decode prog_9_method_3_code 65 = .ok (.iaload, 1) := by decide +kernel
theorem d_Siv_ascend_66 : decode prog_9_method_3_code 66 = .ok (.invokestatic 66, 3) := by decide +kernel
theorem d_Siv_ascend_69 : decode prog_9_method_3_code 69 = .ok (.goto 4, 3) := by decide +kernel
theorem d_Siv_ascend_72 : decode prog_9_method_3_code 72 = .ok (.iconst 0, 1) := by decide +kernel
theorem d_Siv_ascend_73 : decode prog_9_method_3_code 73 = .ok (.istore 4, 2) := by decide +kernel
theorem d_Siv_ascend_75 : decode prog_9_method_3_code 75 = .ok (.iload_n 3, 1) := by decide +kernel
theorem d_Siv_ascend_76 : decode prog_9_method_3_code 76 = .ok (.aload_n 0, 1) := by decide +kernel
theorem d_Siv_ascend_77 : decode prog_9_method_3_code 77 = .ok (.getfield 29, 3) := by decide +kernel
theorem d_Siv_ascend_80 : decode prog_9_method_3_code 80 = .ok (.iconst 1, 1) := by decide +kernel
theorem d_Siv_ascend_81 : decode prog_9_method_3_code 81 = .ok (.isub, 1) := by decide +kernel
theorem d_Siv_ascend_82 : decode prog_9_method_3_code 82 = .ok (.if_icmp .ge 17, 3) := by decide +kernel
theorem d_Siv_ascend_85 : decode prog_9_method_3_code 85 = .ok (.aload_n 0, 1) := by decide +kernel
theorem d_Siv_ascend_86 : decode prog_9_method_3_code 86 = .ok (.getfield 15, 3) := by decide +kernel
theorem d_Siv_ascend_89 : decode prog_9_method_3_code 89 = .ok (.iload_n 3, 1) := by decide +kernel
theorem d_Siv_ascend_90 : decode prog_9_method_3_code 90 = .ok (.iconst 1, 1) := by decide +kernel
theorem d_Siv_ascend_91 : decode prog_9_method_3_code 91 = .ok (.iadd, 1) := by decide +kernel
theorem d_Siv_ascend_92 : decode prog_9_method_3_code 92 = .ok (.iaload, 1) := by decide +kernel
theorem d_Siv_ascend_93 : decode prog_9_method_3_code 93 = .ok (.invokestatic 69, 3) := by decide +kernel
theorem d_Siv_ascend_96 : decode prog_9_method_3_code 96 = .ok (.goto 5, 3) := by decide +kernel
theorem d_Siv_ascend_99 : decode prog_9_method_3_code 99 = .ok (.bipush 7, 2) := by decide +kernel
theorem d_Siv_ascend_101 : decode prog_9_method_3_code 101 = .ok (.istore 5, 2) := by decide +kernel
theorem d_Siv_ascend_103 : decode prog_9_method_3_code 103 = .ok (.aload_n 0, 1) := by decide +kernel
theorem d_Siv_ascend_104 : decode prog_9_method_3_code 104 = .ok (.getfield 15, 3) := by decide +kernel
theorem d_Siv_ascend_107 : decode prog_9_method_3_code 107 = .ok (.iload_n 3, 1) := by decide +kernel
theorem d_Siv_ascend_108 : decode prog_9_method_3_code 108 = .ok (.iaload, 1) := by decide +kernel
theorem d_Siv_ascend_109 : decode prog_9_method_3_code 109 = .ok (.iload 4, 2) := by decide +kernel
theorem d_Siv_ascend_111 : decode prog_9_method_3_code 111 = .ok (.iload 5, 2) := by decide +kernel
theorem d_Siv_ascend_113 : decode prog_9_method_3_code 113 = .ok (.invokestatic 72, 3) := by decide +kernel
theorem d_Siv_ascend_116 : decode prog_9_method_3_code 116 = .ok (.iand, 1) := by decide +kernel
theorem d_Siv_ascend_117 : decode prog_9_method_3_code 117 = .ok (.istore 6, 2) := by decide +kernel
theorem d_Siv_ascend_119 : decode prog_9_method_3_code 119 = .ok (.iload_n 1, 1) := by decide +kernel
theorem d_Siv_ascend_120 : decode prog_9_method_3_code 120 = .ok (.ifCond .ne 14, 3) := by decide +kernel
theorem d_Siv_ascend_123 : decode prog_9_method_3_code 123 = .ok (.iload 6, 2) := by decide +kernel
theorem d_Siv_ascend_125 : decode prog_9_method_3_code 125 = .ok (.aload_n 0, 1) := by decide +kernel
theorem d_Siv_ascend_126 : decode prog_9_method_3_code 126 = .ok (.getfield 15, 3) := by decide +kernel
theorem d_Siv_ascend_129 : decode prog_9_method_3_code 129 = .ok (.iload_n 3, 1) := by decide +kernel
theorem d_Siv_ascend_130 : decode prog_9_method_3_code 130 = .ok (.iaload, 1) := by decide +kernel
theorem d_Siv_ascend_131 : decode prog_9_method_3_code 131 = .ok (.if_icmp .eq 7, 3) := by decide +kernel
theorem d_Siv_ascend_134 : decode prog_9_method_3_code 134 = .ok (.iconst 1, 1) := by decide +kernel
theorem d_Siv_ascend_135 : decode prog_9_method_3_code 135 = .ok (.goto 4, 3) := by decide +kernel
theorem d_Siv_ascend_138 : decode prog_9_method_3_code 138 = .ok (.iconst 0, 1) := by decide +kernel
theorem d_Siv_ascend_139 : decode prog_9_method_3_code 139 = .ok (.istore_n 1, 1) := by decide +kernel
theorem d_Siv_ascend_140 : decode prog_9_method_3_code 140 = .ok (.aload_n 0, 1) := by decide +kernel
theorem d_Siv_ascend_141 : decode prog_9_method_3_code 141 = .ok (.getfield 15, 3) := by decide +kernel
theorem d_Siv_ascend_144 : decode prog_9_method_3_code 144 = .ok (.iload_n 3, 1) := by decide +kernel
theorem d_Siv_ascend_145 : decode prog_9_method_3_code 145 = .ok (.iload 6, 2) := by decide +kernel
theorem d_Siv_ascend_147 : decode prog_9_method_3_code 147 = .ok (.iastore, 1) := by decide +kernel
theorem d_Siv_ascend_148 : decode prog_9_method_3_code 148 = .ok (.iinc 3 1, 3) := by decide +kernel
theorem d_Siv_ascend_151 : decode prog_9_method_3_code 151 = .ok (.goto (-105), 3) := by decide +kernel
theorem d_Siv_ascend_154 : decode prog_9_method_3_code 154 = .ok (.iinc 2 1, 3) := by decide +kernel
theorem d_Siv_ascend_157 : decode prog_9_method_3_code 157 = .ok (.goto (-125), 3) := by decide +kernel
theorem d_Siv_ascend_160 : decode prog_9_method_3_code 160 = .ok (.return_, 1) := by decide +kernel
def b_Siv_ascend_139 (F : Nat) (k46 : Nat → Int32 → Int32 → Int32 → PH → Option PH) (a0 : Nat) (i2 : Int32) (i3 : Int32) (i6 : Int32) (s0 : Int32) (h : PH) : Option PH :=
  bnd (gR h a0 6 1) fun x1 => bnd (sI h x1 i3 i6) fun h2 => k46 a0 s0 i2 (i3 + (1 : Int32)) h2
theorem g_Siv_ascend_139 {l : Launch} {E : ET} {d : Nat} (hd : 2 ≤ d) {F : Nat} {h9 : PH} {x : Nat} {k46 : Nat → Int32 → Int32 → Int32 → PH → Option PH} (hk46 : ∀ (a0 : Nat) (i1 : Int32) (i2 : Int32) (i3 : Int32) (hh : PH), k46 a0 i1 i2 i3 hh = some h9 → Go l E m_Siv_ascend (rm d 0 0) (KM E 0 0 (PoE none h9 x)) 0 0 hh x 46 [(0, .ref a0), (1, .int i1), (2, .int i2), (3, .int i3)] []) (a0 : Nat) (i2 : Int32) (i3 : Int32) (i6 : Int32) (s0 : Int32) (h : PH) (hf : b_Siv_ascend_139 F k46 a0 i2 i3 i6 s0 h = some h9) : Go l E m_Siv_ascend (rm d 0 0) (KM E 0 0 (PoE none h9 x)) 0 0 h x 139 [(0, .ref a0), (2, .int i2), (3, .int i3), (6, .int i6)] [.int s0] := by
  unfold b_Siv_ascend_139 at hf
  refine go_istore_n (lv' := [(1, .int s0), (0, .ref a0), (2, .int i2), (3, .int i3), (6, .int i6)]) d_Siv_ascend_139 rfl (by decide) ?_
  refine go_aload_n 1 d_Siv_ascend_140 rfl ?_
  obtain ⟨x1, e_x1, hf⟩ := bnd_x hf
  refine go_get d_Siv_ascend_141 (gR_x e_x1) fl_Siv_15 ?_
  refine go_iload_n 3 d_Siv_ascend_144 rfl ?_
  refine go_iload 4 d_Siv_ascend_145 rfl ?_
  obtain ⟨h2, e_h2, hf⟩ := bnd_x hf
  refine go_iastore d_Siv_ascend_147 e_h2 ?_
  refine go_iinc (lv' := [(3, .int (i3 + (1 : Int32))), (1, .int s0), (0, .ref a0), (2, .int i2), (6, .int i6)]) 3 (i3 + (1 : Int32)) d_Siv_ascend_148 rfl rfl rfl (by decide) ?_
  refine go_goto 46 d_Siv_ascend_151 (by decide) ?_
  refine go_sub (lv' := [(0, .ref a0), (1, .int s0), (2, .int i2), (3, .int (i3 + (1 : Int32)))]) [2, 1, 3, 0] rfl ?_
  exact hk46 a0 s0 i2 (i3 + (1 : Int32)) h2 hf
def b_Siv_ascend_134 (F : Nat) (k46 : Nat → Int32 → Int32 → Int32 → PH → Option PH) (a0 : Nat) (i2 : Int32) (i3 : Int32) (i6 : Int32) (h : PH) : Option PH :=
  b_Siv_ascend_139 F k46 a0 i2 i3 i6 (1 : Int32) h
theorem g_Siv_ascend_134 {l : Launch} {E : ET} {d : Nat} (hd : 2 ≤ d) {F : Nat} {h9 : PH} {x : Nat} {k46 : Nat → Int32 → Int32 → Int32 → PH → Option PH} (hk46 : ∀ (a0 : Nat) (i1 : Int32) (i2 : Int32) (i3 : Int32) (hh : PH), k46 a0 i1 i2 i3 hh = some h9 → Go l E m_Siv_ascend (rm d 0 0) (KM E 0 0 (PoE none h9 x)) 0 0 hh x 46 [(0, .ref a0), (1, .int i1), (2, .int i2), (3, .int i3)] []) (a0 : Nat) (i2 : Int32) (i3 : Int32) (i6 : Int32) (h : PH) (hf : b_Siv_ascend_134 F k46 a0 i2 i3 i6 h = some h9) : Go l E m_Siv_ascend (rm d 0 0) (KM E 0 0 (PoE none h9 x)) 0 0 h x 134 [(0, .ref a0), (2, .int i2), (3, .int i3), (6, .int i6)] [] := by
  unfold b_Siv_ascend_134 at hf
  refine go_iconst (1 : Int32) d_Siv_ascend_134 (by decide) ?_
  refine go_goto 139 d_Siv_ascend_135 (by decide) ?_
  refine go_sub (lv' := [(0, .ref a0), (2, .int i2), (3, .int i3), (6, .int i6)]) [0, 1, 2, 3] rfl ?_
  exact g_Siv_ascend_139 hd hk46 a0 i2 i3 i6 (1 : Int32) h hf
def b_Siv_ascend_101 (F : Nat) (k46 : Nat → Int32 → Int32 → Int32 → PH → Option PH) (a0 : Nat) (i1 : Int32) (i2 : Int32) (i3 : Int32) (i4 : Int32) (s0 : Int32) (h : PH) : Option PH :=
  bnd (gR h a0 6 1) fun x1 => bnd (aI h x1 i3) fun x2 => bnd (f_Siv_between i4 s0) fun x3 => (if i1 = (0 : Int32) then bnd (gR h a0 6 1) fun x4 => bnd (aI h x4 i3) fun x5 => (if (x2 &&& x3) = x5 then b_Siv_ascend_139 F k46 a0 i2 i3 (x2 &&& x3) (0 : Int32) h else b_Siv_ascend_134 F k46 a0 i2 i3 (x2 &&& x3) h) else b_Siv_ascend_134 F k46 a0 i2 i3 (x2 &&& x3) h)
theorem g_Siv_ascend_101 {l : Launch} {E : ET} {d : Nat} (hd : 2 ≤ d) {F : Nat} {h9 : PH} {x : Nat} {k46 : Nat → Int32 → Int32 → Int32 → PH → Option PH} (hk46 : ∀ (a0 : Nat) (i1 : Int32) (i2 : Int32) (i3 : Int32) (hh : PH), k46 a0 i1 i2 i3 hh = some h9 → Go l E m_Siv_ascend (rm d 0 0) (KM E 0 0 (PoE none h9 x)) 0 0 hh x 46 [(0, .ref a0), (1, .int i1), (2, .int i2), (3, .int i3)] []) (a0 : Nat) (i1 : Int32) (i2 : Int32) (i3 : Int32) (i4 : Int32) (s0 : Int32) (h : PH) (hf : b_Siv_ascend_101 F k46 a0 i1 i2 i3 i4 s0 h = some h9) : Go l E m_Siv_ascend (rm d 0 0) (KM E 0 0 (PoE none h9 x)) 0 0 h x 101 [(0, .ref a0), (1, .int i1), (2, .int i2), (3, .int i3), (4, .int i4)] [.int s0] := by
  unfold b_Siv_ascend_101 at hf
  refine go_istore (lv' := [(5, .int s0), (0, .ref a0), (1, .int i1), (2, .int i2), (3, .int i3), (4, .int i4)]) d_Siv_ascend_101 rfl (by decide) ?_
  refine go_aload_n 1 d_Siv_ascend_103 rfl ?_
  obtain ⟨x1, e_x1, hf⟩ := bnd_x hf
  refine go_get d_Siv_ascend_104 (gR_x e_x1) fl_Siv_15 ?_
  refine go_iload_n 4 d_Siv_ascend_107 rfl ?_
  obtain ⟨x2, e_x2, hf⟩ := bnd_x hf
  refine go_iaload d_Siv_ascend_108 e_x2 ?_
  refine go_iload 5 d_Siv_ascend_109 rfl ?_
  refine go_iload 0 d_Siv_ascend_111 rfl ?_
  obtain ⟨x3, e_x3, hf⟩ := bnd_x hf
  refine go_callS_I (As := [.int i4, .int s0]) (st := [.int x2]) (c_Siv_between (d := d - 1) (by omega) e_x3) lk_Siv_72 rfl rfl (rm_ok (by omega)) (Nat.le_of_ble_eq_true rfl) rm_c d_Siv_ascend_113 ?_
  refine go_iand d_Siv_ascend_116 ?_
  refine go_istore (lv' := [(6, .int (x2 &&& x3)), (5, .int s0), (0, .ref a0), (1, .int i1), (2, .int i2), (3, .int i3), (4, .int i4)]) d_Siv_ascend_117 rfl (by decide) ?_
  refine go_iload_n 3 d_Siv_ascend_119 rfl ?_
  refine go_if_ne 134 d_Siv_ascend_120 (by decide) (fun q7 => ?_) (fun q7 => ?_)
  · rw [if_neg q7] at hf
    refine go_sub (lv' := [(0, .ref a0), (2, .int i2), (3, .int i3), (6, .int (x2 &&& x3))]) [2, 4, 5, 0] rfl ?_
    exact g_Siv_ascend_134 hd hk46 a0 i2 i3 (x2 &&& x3) h hf
  · rw [if_pos q7] at hf
    refine go_iload 0 d_Siv_ascend_123 rfl ?_
    refine go_aload_n 2 d_Siv_ascend_125 rfl ?_
    obtain ⟨x4, e_x4, hf⟩ := bnd_x hf
    refine go_get d_Siv_ascend_126 (gR_x e_x4) fl_Siv_15 ?_
    refine go_iload_n 5 d_Siv_ascend_129 rfl ?_
    obtain ⟨x5, e_x5, hf⟩ := bnd_x hf
    refine go_iaload d_Siv_ascend_130 e_x5 ?_
    refine go_icmp_eq 138 d_Siv_ascend_131 (by decide) (fun q6 => ?_) (fun q6 => ?_)
    · rw [if_pos q6] at hf
      refine go_iconst (0 : Int32) d_Siv_ascend_138 (by decide) ?_
      refine go_sub (lv' := [(0, .ref a0), (2, .int i2), (3, .int i3), (6, .int (x2 &&& x3))]) [2, 4, 5, 0] rfl ?_
      exact g_Siv_ascend_139 hd hk46 a0 i2 i3 (x2 &&& x3) (0 : Int32) h hf
    · rw [if_neg q6] at hf
      refine go_sub (lv' := [(0, .ref a0), (2, .int i2), (3, .int i3), (6, .int (x2 &&& x3))]) [2, 4, 5, 0] rfl ?_
      exact g_Siv_ascend_134 hd hk46 a0 i2 i3 (x2 &&& x3) h hf
def b_Siv_ascend_73 (F : Nat) (k46 : Nat → Int32 → Int32 → Int32 → PH → Option PH) (a0 : Nat) (i1 : Int32) (i2 : Int32) (i3 : Int32) (s0 : Int32) (h : PH) : Option PH :=
  bnd (gI h a0 6 2) fun x1 => (if (x1 - (1 : Int32)) ≤ i3 then b_Siv_ascend_101 F k46 a0 i1 i2 i3 s0 (7 : Int32) h else bnd (gR h a0 6 1) fun x2 => bnd (aI h x2 (i3 + (1 : Int32))) fun x3 => bnd (f_Siv_greatest F x3) fun x4 => b_Siv_ascend_101 F k46 a0 i1 i2 i3 s0 x4 h)
theorem g_Siv_ascend_73 {l : Launch} {E : ET} {d : Nat} (hd : 2 ≤ d) {F : Nat} {h9 : PH} {x : Nat} {k46 : Nat → Int32 → Int32 → Int32 → PH → Option PH} (hk46 : ∀ (a0 : Nat) (i1 : Int32) (i2 : Int32) (i3 : Int32) (hh : PH), k46 a0 i1 i2 i3 hh = some h9 → Go l E m_Siv_ascend (rm d 0 0) (KM E 0 0 (PoE none h9 x)) 0 0 hh x 46 [(0, .ref a0), (1, .int i1), (2, .int i2), (3, .int i3)] []) (a0 : Nat) (i1 : Int32) (i2 : Int32) (i3 : Int32) (s0 : Int32) (h : PH) (hf : b_Siv_ascend_73 F k46 a0 i1 i2 i3 s0 h = some h9) : Go l E m_Siv_ascend (rm d 0 0) (KM E 0 0 (PoE none h9 x)) 0 0 h x 73 [(0, .ref a0), (1, .int i1), (2, .int i2), (3, .int i3)] [.int s0] := by
  unfold b_Siv_ascend_73 at hf
  refine go_istore (lv' := [(4, .int s0), (0, .ref a0), (1, .int i1), (2, .int i2), (3, .int i3)]) d_Siv_ascend_73 rfl (by decide) ?_
  refine go_iload_n 4 d_Siv_ascend_75 rfl ?_
  refine go_aload_n 1 d_Siv_ascend_76 rfl ?_
  obtain ⟨x1, e_x1, hf⟩ := bnd_x hf
  refine go_get d_Siv_ascend_77 (gI_x e_x1) fl_Siv_29 ?_
  refine go_iconst (1 : Int32) d_Siv_ascend_80 (by decide) ?_
  refine go_isub d_Siv_ascend_81 ?_
  refine go_icmp_ge 99 d_Siv_ascend_82 (by decide) (fun q5 => ?_) (fun q5 => ?_)
  · rw [if_pos q5] at hf
    refine go_bipush (7 : Int32) d_Siv_ascend_99 (by decide) ?_
    refine go_sub (lv' := [(0, .ref a0), (1, .int i1), (2, .int i2), (3, .int i3), (4, .int s0)]) [1, 2, 3, 4, 0] rfl ?_
    exact g_Siv_ascend_101 hd hk46 a0 i1 i2 i3 s0 (7 : Int32) h hf
  · rw [if_neg q5] at hf
    refine go_aload_n 1 d_Siv_ascend_85 rfl ?_
    obtain ⟨x2, e_x2, hf⟩ := bnd_x hf
    refine go_get d_Siv_ascend_86 (gR_x e_x2) fl_Siv_15 ?_
    refine go_iload_n 4 d_Siv_ascend_89 rfl ?_
    refine go_iconst (1 : Int32) d_Siv_ascend_90 (by decide) ?_
    refine go_iadd d_Siv_ascend_91 ?_
    obtain ⟨x3, e_x3, hf⟩ := bnd_x hf
    refine go_iaload d_Siv_ascend_92 e_x3 ?_
    obtain ⟨x4, e_x4, hf⟩ := bnd_x hf
    refine go_callS_I (As := [.int x3]) (st := []) (c_Siv_greatest (d := d - 1) (by omega) e_x4) lk_Siv_69 rfl rfl (rm_ok (by omega)) (Nat.le_of_ble_eq_true rfl) rm_c d_Siv_ascend_93 ?_
    refine go_goto 101 d_Siv_ascend_96 (by decide) ?_
    refine go_sub (lv' := [(0, .ref a0), (1, .int i1), (2, .int i2), (3, .int i3), (4, .int s0)]) [1, 2, 3, 4, 0] rfl ?_
    exact g_Siv_ascend_101 hd hk46 a0 i1 i2 i3 s0 x4 h hf
def b_Siv_ascend_46 (F : Nat) (k32 : Nat → Int32 → Int32 → PH → Option PH) (k46 : Nat → Int32 → Int32 → Int32 → PH → Option PH) (a0 : Nat) (i1 : Int32) (i2 : Int32) (i3 : Int32) (h : PH) : Option PH :=
  bnd (gI h a0 6 2) fun x1 => (if x1 ≤ i3 then k32 a0 i1 (i2 + (1 : Int32)) h else (if i3 ≤ (0 : Int32) then b_Siv_ascend_73 F k46 a0 i1 i2 i3 (0 : Int32) h else bnd (gR h a0 6 1) fun x2 => bnd (aI h x2 (i3 - (1 : Int32))) fun x3 => bnd (f_Siv_smallest F x3) fun x4 => b_Siv_ascend_73 F k46 a0 i1 i2 i3 x4 h))
def f_Siv_ascend_46 (F : Nat) (k32 : Nat → Int32 → Int32 → PH → Option PH) : Nat → Nat → Int32 → Int32 → Int32 → PH → Option PH
  | 0 => fun _ _ _ _ _ => none
  | n + 1 => b_Siv_ascend_46 F k32 (f_Siv_ascend_46 F k32 n)
theorem g_Siv_ascend_46 {l : Launch} {E : ET} {d : Nat} (hd : 2 ≤ d) {F : Nat} {h9 : PH} {x : Nat} {k32 : Nat → Int32 → Int32 → PH → Option PH} (hk32 : ∀ (a0 : Nat) (i1 : Int32) (i2 : Int32) (hh : PH), k32 a0 i1 i2 hh = some h9 → Go l E m_Siv_ascend (rm d 0 0) (KM E 0 0 (PoE none h9 x)) 0 0 hh x 32 [(0, .ref a0), (1, .int i1), (2, .int i2)] []) {k46 : Nat → Int32 → Int32 → Int32 → PH → Option PH} (hk46 : ∀ (a0 : Nat) (i1 : Int32) (i2 : Int32) (i3 : Int32) (hh : PH), k46 a0 i1 i2 i3 hh = some h9 → Go l E m_Siv_ascend (rm d 0 0) (KM E 0 0 (PoE none h9 x)) 0 0 hh x 46 [(0, .ref a0), (1, .int i1), (2, .int i2), (3, .int i3)] []) (a0 : Nat) (i1 : Int32) (i2 : Int32) (i3 : Int32) (h : PH) (hf : b_Siv_ascend_46 F k32 k46 a0 i1 i2 i3 h = some h9) : Go l E m_Siv_ascend (rm d 0 0) (KM E 0 0 (PoE none h9 x)) 0 0 h x 46 [(0, .ref a0), (1, .int i1), (2, .int i2), (3, .int i3)] [] := by
  unfold b_Siv_ascend_46 at hf
  refine go_iload_n 3 d_Siv_ascend_46 rfl ?_
  refine go_aload_n 0 d_Siv_ascend_47 rfl ?_
  obtain ⟨x1, e_x1, hf⟩ := bnd_x hf
  refine go_get d_Siv_ascend_48 (gI_x e_x1) fl_Siv_29 ?_
  refine go_icmp_ge 154 d_Siv_ascend_51 (by decide) (fun q6 => ?_) (fun q6 => ?_)
  · rw [if_pos q6] at hf
    refine go_iinc (lv' := [(2, .int (i2 + (1 : Int32))), (0, .ref a0), (1, .int i1), (3, .int i3)]) 2 (i2 + (1 : Int32)) d_Siv_ascend_154 rfl rfl rfl (by decide) ?_
    refine go_goto 32 d_Siv_ascend_157 (by decide) ?_
    refine go_sub (lv' := [(0, .ref a0), (1, .int i1), (2, .int (i2 + (1 : Int32)))]) [1, 2, 0] rfl ?_
    exact hk32 a0 i1 (i2 + (1 : Int32)) h hf
  · rw [if_neg q6] at hf
    refine go_iload_n 3 d_Siv_ascend_54 rfl ?_
    refine go_if_le 72 d_Siv_ascend_55 (by decide) (fun q5 => ?_) (fun q5 => ?_)
    · rw [if_pos q5] at hf
      refine go_iconst (0 : Int32) d_Siv_ascend_72 (by decide) ?_
      refine go_sub (lv' := [(0, .ref a0), (1, .int i1), (2, .int i2), (3, .int i3)]) [0, 1, 2, 3] rfl ?_
      exact g_Siv_ascend_73 hd hk46 a0 i1 i2 i3 (0 : Int32) h hf
    · rw [if_neg q5] at hf
      refine go_aload_n 0 d_Siv_ascend_58 rfl ?_
      obtain ⟨x2, e_x2, hf⟩ := bnd_x hf
      refine go_get d_Siv_ascend_59 (gR_x e_x2) fl_Siv_15 ?_
      refine go_iload_n 3 d_Siv_ascend_62 rfl ?_
      refine go_iconst (1 : Int32) d_Siv_ascend_63 (by decide) ?_
      refine go_isub d_Siv_ascend_64 ?_
      obtain ⟨x3, e_x3, hf⟩ := bnd_x hf
      refine go_iaload d_Siv_ascend_65 e_x3 ?_
      obtain ⟨x4, e_x4, hf⟩ := bnd_x hf
      refine go_callS_I (As := [.int x3]) (st := []) (c_Siv_smallest (d := d - 1) (by omega) e_x4) lk_Siv_66 rfl rfl (rm_ok (by omega)) (Nat.le_of_ble_eq_true rfl) rm_c d_Siv_ascend_66 ?_
      refine go_goto 73 d_Siv_ascend_69 (by decide) ?_
      refine go_sub (lv' := [(0, .ref a0), (1, .int i1), (2, .int i2), (3, .int i3)]) [0, 1, 2, 3] rfl ?_
      exact g_Siv_ascend_73 hd hk46 a0 i1 i2 i3 x4 h hf
theorem t_Siv_ascend_46 {l : Launch} {E : ET} {d : Nat} (hd : 2 ≤ d) {F : Nat} {h9 : PH} {x : Nat} {k32 : Nat → Int32 → Int32 → PH → Option PH} (hk32 : ∀ (a0 : Nat) (i1 : Int32) (i2 : Int32) (hh : PH), k32 a0 i1 i2 hh = some h9 → Go l E m_Siv_ascend (rm d 0 0) (KM E 0 0 (PoE none h9 x)) 0 0 hh x 32 [(0, .ref a0), (1, .int i1), (2, .int i2)] []) : ∀ (n : Nat) (a0 : Nat) (i1 : Int32) (i2 : Int32) (i3 : Int32) (hh : PH), f_Siv_ascend_46 F k32 n a0 i1 i2 i3 hh = some h9 → Go l E m_Siv_ascend (rm d 0 0) (KM E 0 0 (PoE none h9 x)) 0 0 hh x 46 [(0, .ref a0), (1, .int i1), (2, .int i2), (3, .int i3)] [] := by
  intro n
  induction n with
  | zero => intro v0 v1 v2 v3 v4 hf; cases hf
  | succ n ih => intro v0 v1 v2 v3 v4 hf; exact g_Siv_ascend_46 hd hk32 ih v0 v1 v2 v3 v4 hf
def b_Siv_ascend_32 (F : Nat) (k32 : Nat → Int32 → Int32 → PH → Option PH) (a0 : Nat) (i1 : Int32) (i2 : Int32) (h : PH) : Option PH :=
  (if i1 = (0 : Int32) then some h else (if (36 : Int32) < i2 then some h else f_Siv_ascend_46 F k32 F a0 (0 : Int32) i2 (0 : Int32) h))
def f_Siv_ascend_32 (F : Nat) : Nat → Nat → Int32 → Int32 → PH → Option PH
  | 0 => fun _ _ _ _ => none
  | n + 1 => b_Siv_ascend_32 F (f_Siv_ascend_32 F n)
theorem g_Siv_ascend_32 {l : Launch} {E : ET} {d : Nat} (hd : 2 ≤ d) {F : Nat} {h9 : PH} {x : Nat} {k32 : Nat → Int32 → Int32 → PH → Option PH} (hk32 : ∀ (a0 : Nat) (i1 : Int32) (i2 : Int32) (hh : PH), k32 a0 i1 i2 hh = some h9 → Go l E m_Siv_ascend (rm d 0 0) (KM E 0 0 (PoE none h9 x)) 0 0 hh x 32 [(0, .ref a0), (1, .int i1), (2, .int i2)] []) (a0 : Nat) (i1 : Int32) (i2 : Int32) (h : PH) (hf : b_Siv_ascend_32 F k32 a0 i1 i2 h = some h9) : Go l E m_Siv_ascend (rm d 0 0) (KM E 0 0 (PoE none h9 x)) 0 0 h x 32 [(0, .ref a0), (1, .int i1), (2, .int i2)] [] := by
  unfold b_Siv_ascend_32 at hf
  refine go_iload_n 1 d_Siv_ascend_32 rfl ?_
  refine go_if_eq 160 d_Siv_ascend_33 (by decide) (fun q2 => ?_) (fun q2 => ?_)
  · rw [if_pos q2] at hf
    have e9 := Option.some.inj hf
    subst e9
    exact go_vret d_Siv_ascend_160 rfl ⟨rfl, rfl, rfl⟩
  · rw [if_neg q2] at hf
    refine go_iload_n 2 d_Siv_ascend_36 rfl ?_
    refine go_bipush (36 : Int32) d_Siv_ascend_37 (by decide) ?_
    refine go_icmp_gt 160 d_Siv_ascend_39 (by decide) (fun q1 => ?_) (fun q1 => ?_)
    · rw [if_pos q1] at hf
      have e9 := Option.some.inj hf
      subst e9
      exact go_vret d_Siv_ascend_160 rfl ⟨rfl, rfl, rfl⟩
    · rw [if_neg q1] at hf
      refine go_iconst (0 : Int32) d_Siv_ascend_42 (by decide) ?_
      refine go_istore_n (lv' := [(1, .int (0 : Int32)), (0, .ref a0), (2, .int i2)]) d_Siv_ascend_43 rfl (by decide) ?_
      refine go_iconst (0 : Int32) d_Siv_ascend_44 (by decide) ?_
      refine go_istore_n (lv' := [(3, .int (0 : Int32)), (1, .int (0 : Int32)), (0, .ref a0), (2, .int i2)]) d_Siv_ascend_45 rfl (by decide) ?_
      refine go_sub (lv' := [(0, .ref a0), (1, .int (0 : Int32)), (2, .int i2), (3, .int (0 : Int32))]) [2, 1, 3, 0] rfl ?_
      exact t_Siv_ascend_46 hd hk32 _ a0 (0 : Int32) i2 (0 : Int32) h hf
theorem t_Siv_ascend_32 {l : Launch} {E : ET} {d : Nat} (hd : 2 ≤ d) {F : Nat} {h9 : PH} {x : Nat}  : ∀ (n : Nat) (a0 : Nat) (i1 : Int32) (i2 : Int32) (hh : PH), f_Siv_ascend_32 F n a0 i1 i2 hh = some h9 → Go l E m_Siv_ascend (rm d 0 0) (KM E 0 0 (PoE none h9 x)) 0 0 hh x 32 [(0, .ref a0), (1, .int i1), (2, .int i2)] [] := by
  intro n
  induction n with
  | zero => intro v0 v1 v2 v3 hf; cases hf
  | succ n ih => intro v0 v1 v2 v3 hf; exact g_Siv_ascend_32 hd ih v0 v1 v2 v3 hf
def b_Siv_ascend_2 (F : Nat) (k2 : Nat → Int32 → PH → Option PH) (a0 : Nat) (i1 : Int32) (h : PH) : Option PH :=
  bnd (gI h a0 6 2) fun x1 => (if x1 ≤ i1 then f_Siv_ascend_32 F F a0 (1 : Int32) (0 : Int32) h else bnd (gR h a0 6 1) fun x2 => bnd (gR h a0 6 0) fun x3 => bnd (aI h x3 i1) fun x4 => bnd (sI h x2 i1 x4) fun h5 => k2 a0 (i1 + (1 : Int32)) h5)
def f_Siv_ascend_2 (F : Nat) : Nat → Nat → Int32 → PH → Option PH
  | 0 => fun _ _ _ => none
  | n + 1 => b_Siv_ascend_2 F (f_Siv_ascend_2 F n)
theorem g_Siv_ascend_2 {l : Launch} {E : ET} {d : Nat} (hd : 2 ≤ d) {F : Nat} {h9 : PH} {x : Nat} {k2 : Nat → Int32 → PH → Option PH} (hk2 : ∀ (a0 : Nat) (i1 : Int32) (hh : PH), k2 a0 i1 hh = some h9 → Go l E m_Siv_ascend (rm d 0 0) (KM E 0 0 (PoE none h9 x)) 0 0 hh x 2 [(0, .ref a0), (1, .int i1)] []) (a0 : Nat) (i1 : Int32) (h : PH) (hf : b_Siv_ascend_2 F k2 a0 i1 h = some h9) : Go l E m_Siv_ascend (rm d 0 0) (KM E 0 0 (PoE none h9 x)) 0 0 h x 2 [(0, .ref a0), (1, .int i1)] [] := by
  unfold b_Siv_ascend_2 at hf
  refine go_iload_n 1 d_Siv_ascend_2 rfl ?_
  refine go_aload_n 0 d_Siv_ascend_3 rfl ?_
  obtain ⟨x1, e_x1, hf⟩ := bnd_x hf
  refine go_get d_Siv_ascend_4 (gI_x e_x1) fl_Siv_29 ?_
  refine go_icmp_ge 28 d_Siv_ascend_7 (by decide) (fun q6 => ?_) (fun q6 => ?_)
  · rw [if_pos q6] at hf
    refine go_iconst (1 : Int32) d_Siv_ascend_28 (by decide) ?_
    refine go_istore_n (lv' := [(1, .int (1 : Int32)), (0, .ref a0)]) d_Siv_ascend_29 rfl (by decide) ?_
    refine go_iconst (0 : Int32) d_Siv_ascend_30 (by decide) ?_
    refine go_istore_n (lv' := [(2, .int (0 : Int32)), (1, .int (1 : Int32)), (0, .ref a0)]) d_Siv_ascend_31 rfl (by decide) ?_
    refine go_sub (lv' := [(0, .ref a0), (1, .int (1 : Int32)), (2, .int (0 : Int32))]) [2, 1, 0] rfl ?_
    exact t_Siv_ascend_32 hd  _ a0 (1 : Int32) (0 : Int32) h hf
  · rw [if_neg q6] at hf
    refine go_aload_n 0 d_Siv_ascend_10 rfl ?_
    obtain ⟨x2, e_x2, hf⟩ := bnd_x hf
    refine go_get d_Siv_ascend_11 (gR_x e_x2) fl_Siv_15 ?_
    refine go_iload_n 1 d_Siv_ascend_14 rfl ?_
    refine go_aload_n 0 d_Siv_ascend_15 rfl ?_
    obtain ⟨x3, e_x3, hf⟩ := bnd_x hf
    refine go_get d_Siv_ascend_16 (gR_x e_x3) fl_Siv_11 ?_
    refine go_iload_n 1 d_Siv_ascend_19 rfl ?_
    obtain ⟨x4, e_x4, hf⟩ := bnd_x hf
    refine go_iaload d_Siv_ascend_20 e_x4 ?_
    obtain ⟨h5, e_h5, hf⟩ := bnd_x hf
    refine go_iastore d_Siv_ascend_21 e_h5 ?_
    refine go_iinc (lv' := [(1, .int (i1 + (1 : Int32))), (0, .ref a0)]) 1 (i1 + (1 : Int32)) d_Siv_ascend_22 rfl rfl rfl (by decide) ?_
    refine go_goto 2 d_Siv_ascend_25 (by decide) ?_
    refine go_sub (lv' := [(0, .ref a0), (1, .int (i1 + (1 : Int32)))]) [1, 0] rfl ?_
    exact hk2 a0 (i1 + (1 : Int32)) h5 hf
theorem t_Siv_ascend_2 {l : Launch} {E : ET} {d : Nat} (hd : 2 ≤ d) {F : Nat} {h9 : PH} {x : Nat}  : ∀ (n : Nat) (a0 : Nat) (i1 : Int32) (hh : PH), f_Siv_ascend_2 F n a0 i1 hh = some h9 → Go l E m_Siv_ascend (rm d 0 0) (KM E 0 0 (PoE none h9 x)) 0 0 hh x 2 [(0, .ref a0), (1, .int i1)] [] := by
  intro n
  induction n with
  | zero => intro v0 v1 v2 hf; cases hf
  | succ n ih => intro v0 v1 v2 hf; exact g_Siv_ascend_2 hd ih v0 v1 v2 hf
def f_Siv_ascend (F : Nat) (a0 : Nat) (h : PH) : Option PH :=
  f_Siv_ascend_2 F F a0 (0 : Int32) h
theorem g_Siv_ascend_0 {l : Launch} {E : ET} {d : Nat} (hd : 2 ≤ d) {F : Nat} {h9 : PH} {x : Nat}  (a0 : Nat) (h : PH) (hf : f_Siv_ascend F a0 h = some h9) : Go l E m_Siv_ascend (rm d 0 0) (KM E 0 0 (PoE none h9 x)) 0 0 h x 0 [(0, .ref a0)] [] := by
  unfold f_Siv_ascend at hf
  refine go_iconst (0 : Int32) d_Siv_ascend_0 (by decide) ?_
  refine go_istore_n (lv' := [(1, .int (0 : Int32)), (0, .ref a0)]) d_Siv_ascend_1 rfl (by decide) ?_
  refine go_sub (lv' := [(0, .ref a0), (1, .int (0 : Int32))]) [1, 0] rfl ?_
  exact t_Siv_ascend_2 hd  _ a0 (0 : Int32) h hf
theorem c_Siv_ascend {l : Launch} {E : ET} {d : Nat} (hd : 2 ≤ d) {F : Nat} {h9 : PH} {x : Nat} {a0 : Nat} {h : PH} (hf : f_Siv_ascend F a0 h = some h9) : Fn l E m_Siv_ascend d 0 0 [.ref a0] h x (PoE none h9 x) :=
  Fn.of (by decide +kernel) (Nat.le_of_ble_eq_true rfl) (g_Siv_ascend_0 hd a0 h hf)
theorem d_Siv_fits_0 : decode prog_9_method_5_code 0 = .ok (.iload_n 1, 1) := by decide +kernel
theorem d_Siv_fits_1 : decode prog_9_method_5_code 1 = .ok (.aload_n 0, 1) := by decide +kernel
theorem d_Siv_fits_2 : decode prog_9_method_5_code 2 = .ok (.getfield 29, 3) := by decide +kernel
theorem d_Siv_fits_5 : decode prog_9_method_5_code 5 = .ok (.if_icmp .ge 21, 3) := by decide +kernel
theorem d_Siv_fits_8 : decode prog_9_method_5_code 8 = .ok (.iload_n 2, 1) := by decide +kernel
theorem d_Siv_fits_9 : decode prog_9_method_5_code 9 = .ok (.iconst 1, 1) := by decide +kernel
theorem d_Siv_fits_10 : decode prog_9_method_5_code 10 = .ok (.if_icmp .lt 16, 3) := by decide +kernel
theorem d_Siv_fits_13 : decode prog_9_method_5_code 13 = .ok (.iload_n 2, 1) := by decide +kernel
theorem d_Siv_fits_14 : decode prog_9_method_5_code 14 = .ok (.bipush 6, 2) := by decide +kernel
theorem d_Siv_fits_16 : decode prog_9_method_5_code 16 = .ok (.aload_n 0, 1) := by decide +kernel
theorem d_Siv_fits_17 : decode prog_9_method_5_code 17 = .ok (.getfield 29, 3) := by decide +kernel
theorem d_Siv_fits_20 : decode prog_9_method_5_code 20 = .ok (.iload_n 1, 1) := by decide +kernel
theorem d_Siv_fits_21 : decode prog_9_method_5_code 21 = .ok (.isub, 1) := by decide +kernel
theorem d_Siv_fits_22 : decode prog_9_method_5_code 22 = .ok (.imul, 1) := by decide +kernel
theorem d_Siv_fits_23 : decode prog_9_method_5_code 23 = .ok (.if_icmp .le 5, 3) := by decide +kernel
theorem d_Siv_fits_26 : decode prog_9_method_5_code 26 = .ok (.iconst 0, 1) := by decide +kernel
theorem d_Siv_fits_27 : decode prog_9_method_5_code 27 = .ok (.ireturn, 1) := by decide +kernel
theorem d_Siv_fits_28 : decode prog_9_method_5_code 28 = .ok (.aload_n 0, 1) := by decide +kernel
theorem d_Siv_fits_29 : decode prog_9_method_5_code 29 = .ok (.getfield 11, 3) := by decide +kernel
theorem d_Siv_fits_32 : decode prog_9_method_5_code 32 = .ok (.iload_n 1, 1) := by decide +kernel
theorem d_Siv_fits_33 : decode prog_9_method_5_code 33 = .ok (.iaload, 1) := by decide +kernel
theorem d_Siv_fits_34 : decode prog_9_method_5_code 34 = .ok (.iload_n 3, 1) := by decide +kernel
theorem d_Siv_fits_35 : decode prog_9_method_5_code 35 = .ok (.iconst (-1), 1) := by decide +kernel
theorem d_Siv_fits_36 : decode prog_9_method_5_code 36 = .ok (.ixor, 1) := by decide +kernel
theorem d_Siv_fits_37 : decode prog_9_method_5_code 37 = .ok (.iand, 1) := by decide +kernel
theorem d_Siv_fits_38 : decode prog_9_method_5_code 38 = .ok (.istore 4, 2) := by decide +kernel
theorem d_Siv_fits_40 : decode prog_9_method_5_code 40 = .ok (.iload_n 1, 1) := by decide +kernel
theorem d_Siv_fits_41 : decode prog_9_method_5_code 41 = .ok (.aload_n 0, 1) := by decide +kernel
theorem d_Siv_fits_42 : decode prog_9_method_5_code 42 = .ok (.getfield 29, 3) := by decide +kernel
theorem d_Siv_fits_45 : decode prog_9_method_5_code 45 = .ok (.iconst 1, 1) := by decide +kernel
theorem d_Siv_fits_46 : decode prog_9_method_5_code 46 = .ok (.isub, 1) := by decide +kernel
theorem d_Siv_fits_47 : decode prog_9_method_5_code 47 = .ok (.if_icmp .ne 33, 3) := by decide +kernel
theorem d_Siv_fits_50 : decode prog_9_method_5_code 50 = .ok (.iload 4, 2) := by decide +kernel
theorem d_Siv_fits_52 : decode prog_9_method_5_code 52 = .ok (.iconst 1, 1) := by decide +kernel
theorem d_Siv_fits_53 : decode prog_9_method_5_code 53 = .ok (.iload_n 2, 1) := by decide +kernel
theorem d_Siv_fits_54 : decode prog_9_method_5_code 54 = .ok (.ishl, 1) := by decide +kernel
theorem d_Siv_fits_55 : decode prog_9_method_5_code 55 = .ok (.iand, 1) := by decide +kernel
theorem d_Siv_fits_56 : decode prog_9_method_5_code 56 = .ok (.istore 5, 2) := by decide +kernel
theorem d_Siv_fits_58 : decode prog_9_method_5_code 58 = .ok (.aload_n 0, 1) := by decide +kernel
theorem d_Siv_fits_59 : decode prog_9_method_5_code 59 = .ok (.getfield 15, 3) := by decide +kernel
theorem d_Siv_fits_62 : decode prog_9_method_5_code 62 = .ok (.iload_n 1, 1) := by decide +kernel
theorem d_Siv_fits_63 : decode prog_9_method_5_code 63 = .ok (.dup2, 1) := by decide +kernel
theorem d_Siv_fits_64 : decode prog_9_method_5_code 64 = .ok (.iaload, 1) := by decide +kernel
theorem d_Siv_fits_65 : decode prog_9_method_5_code 65 = .ok (.iload 5, 2) := by decide +kernel
theorem d_Siv_fits_67 : decode prog_9_method_5_code 67 = .ok (.ior, 1) := by decide +kernel
theorem d_Siv_fits_68 : decode prog_9_method_5_code 68 = .ok (.iastore, 1) := by decide +kernel
theorem d_Siv_fits_69 : decode prog_9_method_5_code 69 = .ok (.iload 5, 2) := by decide +kernel
theorem d_Siv_fits_71 : decode prog_9_method_5_code 71 = .ok (.ifCond .eq 7, 3) := by decide +kernel
theorem d_Siv_fits_74 : decode prog_9_method_5_code 74 = .ok (.iconst 1, 1) := by decide +kernel
theorem d_Siv_fits_75 : decode prog_9_method_5_code 75 = .ok (.goto 4, 3) := by decide +kernel
theorem d_Siv_fits_78 : decode prog_9_method_5_code 78 = .ok (.iconst 0, 1) := by decide +kernel
theorem d_Siv_fits_79 : decode prog_9_method_5_code 79 = .ok (.ireturn, 1) := by decide +kernel
theorem d_Siv_fits_80 : decode prog_9_method_5_code 80 = .ok (.iconst 0, 1) := by decide +kernel
theorem d_Siv_fits_81 : decode prog_9_method_5_code 81 = .ok (.istore 5, 2) := by decide +kernel
theorem d_Siv_fits_83 : decode prog_9_method_5_code 83 = .ok (.iconst 1, 1) := by decide +kernel
theorem d_Siv_fits_84 : decode prog_9_method_5_code 84 = .ok (.istore 6, 2) := by decide +kernel
theorem d_Siv_fits_86 : decode prog_9_method_5_code 86 = .ok (.iload 6, 2) := by decide +kernel
theorem d_Siv_fits_88 : decode prog_9_method_5_code 88 = .ok (.bipush 6, 2) := by decide +kernel
theorem d_Siv_fits_90 : decode prog_9_method_5_code 90 = .ok (.if_icmp .gt 72, 3) := by decide +kernel
theorem d_Siv_fits_93 : decode prog_9_method_5_code 93 = .ok (.iload 6, 2) := by decide +kernel
theorem d_Siv_fits_95 : decode prog_9_method_5_code 95 = .ok (.iload_n 2, 1) := by decide +kernel
theorem d_Siv_fits_96 : decode prog_9_method_5_code 96 = .ok (.if_icmp .ge 66, 3) := by decide +kernel
theorem d_Siv_fits_99 : decode prog_9_method_5_code 99 = .ok (.iconst 1, 1) := by decide +kernel
theorem d_Siv_fits_100 : decode prog_9_method_5_code 100 = .ok (.iload 6, 2) := by decide +kernel
theorem d_Siv_fits_102 : decode prog_9_method_5_code 102 = .ok (.ishl, 1) := by decide +kernel
theorem d_Siv_fits_103 : decode prog_9_method_5_code 103 = .ok (.istore 7, 2) := by decide +kernel
theorem d_Siv_fits_105 : decode prog_9_method_5_code 105 = .ok (.iload 4, 2) := by decide +kernel
theorem d_Siv_fits_107 : decode prog_9_method_5_code 107 = .ok (.iload 7, 2) := by decide +kernel
theorem d_Siv_fits_109 : decode prog_9_method_5_code 109 = .ok (.iand, 1) := by decide +kernel
theorem d_Siv_fits_110 : decode prog_9_method_5_code 110 = .ok (.ifCond .eq 46, 3) := by decide +kernel
theorem d_Siv_fits_113 : decode prog_9_method_5_code 113 = .ok (.aload_n 0, 1) := by decide +kernel
theorem d_Siv_fits_114 : decode prog_9_method_5_code 114 = .ok (.iload_n 1, 1) := by decide +kernel
theorem d_Siv_fits_115 : decode prog_9_method_5_code 115 = .ok (.iconst 1, 1) := by decide +kernel
theorem d_Siv_fits_116 : decode prog_9_method_5_code 116 = .ok (.iadd, 1) := by decide +kernel
theorem d_Siv_fits_117 : decode prog_9_method_5_code 117 = .ok (.iload_n 2, 1) := by decide +kernel
theorem d_Siv_fits_118 : decode prog_9_method_5_code 118 = .ok (.iload 6, 2) := by decide +kernel
theorem d_Siv_fits_120 : decode prog_9_method_5_code 120 = .ok (.isub, 1) := by decide +kernel
theorem d_Siv_fits_121 : decode prog_9_method_5_code 121 = .ok (.aload_n 0, 1) := by decide +kernel
theorem d_Siv_fits_122 : decode prog_9_method_5_code 122 = .ok (.getfield 48, 3) := by decide +kernel
theorem d_Siv_fits_125 : decode prog_9_method_5_code 125 = .ok (.ifCond .eq 10, 3) := by decide +kernel
theorem d_Siv_fits_128 : decode prog_9_method_5_code 128 = .ok (.iload_n 3, 1) := by decide +kernel
theorem d_Siv_fits_129 : decode prog_9_method_5_code 129 = .ok (.iload 7, 2) := by decide +kernel
theorem d_Siv_fits_131 : decode prog_9_method_5_code 131 = .ok (.ior, 1) := by decide +kernel
theorem d_Siv_fits_132 : decode prog_9_method_5_code 132 = .ok (.goto 4, 3) := by decide +kernel
theorem d_Siv_fits_135 : decode prog_9_method_5_code 135 = .ok (.iconst 0, 1) := by decide +kernel
theorem d_Siv_fits_136 : decode prog_9_method_5_code 136 = .ok (.invokestatic 55, 3) := by decide +kernel
theorem d_Siv_fits_139 : decode prog_9_method_5_code 139 = .ok (.ifCond .eq 17, 3) := by decide +kernel
theorem d_Siv_fits_142 : decode prog_9_method_5_code 142 = .ok (.aload_n 0, 1) := by decide +kernel
theorem d_Siv_fits_143 : decode prog_9_method_5_code 143 = .ok (.getfield 15, 3) := by decide +kernel
theorem d_Siv_fits_146 : decode prog_9_method_5_code 146 = .ok (.iload_n 1, 1) := by decide +kernel
theorem d_Siv_fits_147 : decode prog_9_method_5_code 147 = .ok (.dup2, 1) := by decide +kernel
theorem d_Siv_fits_148 : decode prog_9_method_5_code 148 = .ok (.iaload, 1) := by decide +kernel
theorem d_Siv_fits_149 : decode prog_9_method_5_code 149 = .ok (.iload 7, 2) := by decide +kernel
theorem d_Siv_fits_151 : decode prog_9_method_5_code 151 = .ok (.ior, 1) := by decide +kernel
theorem d_Siv_fits_152 : decode prog_9_method_5_code 152 = .ok (.iastore, 1) := by decide +kernel
theorem d_Siv_fits_153 : decode prog_9_method_5_code 153 = .ok (.iconst 1, 1) := by decide +kernel
theorem d_Siv_fits_154 : decode prog_9_method_5_code 154 = .ok (.istore 5, 2) := by decide +kernel
theorem d_Siv_fits_156 : decode prog_9_method_5_code 156 = .ok (.iinc 6 1, 3) := by decide +kernel
theorem d_Siv_fits_159 : decode prog_9_method_5_code 159 = .ok (.goto (-73), 3) := by decide +kernel
theorem d_Siv_fits_162 : decode prog_9_method_5_code 162 = .ok (.iload 5, 2) := by decide +kernel
theorem d_Siv_fits_164 : decode prog_9_method_5_code 164 = .ok (.ireturn, 1) := by decide +kernel
def b_Siv_fits_156 (F : Nat) (kr : Nat → Int32 → Int32 → Int32 → PH → Option (Int32 × PH)) (k86 : Nat → Int32 → Int32 → Int32 → Int32 → Int32 → Int32 → PH → Option (Int32 × PH)) (a0 : Nat) (i1 : Int32) (i2 : Int32) (i3 : Int32) (i4 : Int32) (i5 : Int32) (i6 : Int32) (h : PH) : Option (Int32 × PH) :=
  k86 a0 i1 i2 i3 i4 i5 (i6 + (1 : Int32)) h
theorem g_Siv_fits_156 {l : Launch} {E : ET} {d : Nat} (hd : 1 ≤ d) {F : Nat} {r : Int32} {h9 : PH} {x : Nat} {kr : Nat → Int32 → Int32 → Int32 → PH → Option (Int32 × PH)} (hkr : ∀ (a0 : Nat) (a1 : Int32) (a2 : Int32) (a3 : Int32) (ha : PH) (rr : Int32) (hb : PH), kr a0 a1 a2 a3 ha = some (rr, hb) → Fn l E m_Siv_fits (d - 1) 0 0 [.ref a0, .int a1, .int a2, .int a3] ha x (PoE (some (.int rr)) hb x)) {k86 : Nat → Int32 → Int32 → Int32 → Int32 → Int32 → Int32 → PH → Option (Int32 × PH)} (hk86 : ∀ (a0 : Nat) (i1 : Int32) (i2 : Int32) (i3 : Int32) (i4 : Int32) (i5 : Int32) (i6 : Int32) (hh : PH), k86 a0 i1 i2 i3 i4 i5 i6 hh = some (r, h9) → Go l E m_Siv_fits (rm d 0 0) (KM E 0 0 (PoE (some (.int r)) h9 x)) 0 0 hh x 86 [(0, .ref a0), (1, .int i1), (2, .int i2), (3, .int i3), (4, .int i4), (5, .int i5), (6, .int i6)] []) (a0 : Nat) (i1 : Int32) (i2 : Int32) (i3 : Int32) (i4 : Int32) (i5 : Int32) (i6 : Int32) (h : PH) (hf : b_Siv_fits_156 F kr k86 a0 i1 i2 i3 i4 i5 i6 h = some (r, h9)) : Go l E m_Siv_fits (rm d 0 0) (KM E 0 0 (PoE (some (.int r)) h9 x)) 0 0 h x 156 [(0, .ref a0), (1, .int i1), (2, .int i2), (3, .int i3), (4, .int i4), (5, .int i5), (6, .int i6)] [] := by
  unfold b_Siv_fits_156 at hf
  refine go_iinc (lv' := [(6, .int (i6 + (1 : Int32))), (0, .ref a0), (1, .int i1), (2, .int i2), (3, .int i3), (4, .int i4), (5, .int i5)]) 6 (i6 + (1 : Int32)) d_Siv_fits_156 rfl rfl rfl (by decide) ?_
  refine go_goto 86 d_Siv_fits_159 (by decide) ?_
  refine go_sub (lv' := [(0, .ref a0), (1, .int i1), (2, .int i2), (3, .int i3), (4, .int i4), (5, .int i5), (6, .int (i6 + (1 : Int32)))]) [1, 2, 3, 4, 5, 6, 0] rfl ?_
  exact hk86 a0 i1 i2 i3 i4 i5 (i6 + (1 : Int32)) h hf
def b_Siv_fits_136 (F : Nat) (kr : Nat → Int32 → Int32 → Int32 → PH → Option (Int32 × PH)) (k86 : Nat → Int32 → Int32 → Int32 → Int32 → Int32 → Int32 → PH → Option (Int32 × PH)) (a0 : Nat) (i1 : Int32) (i2 : Int32) (i3 : Int32) (i4 : Int32) (i5 : Int32) (i6 : Int32) (i7 : Int32) (s0 : Int32) (s1 : Int32) (s2 : Int32) (s3 : Nat) (h : PH) : Option (Int32 × PH) :=
  bnd2 (kr s3 s2 s1 s0 h) fun x1 h2 => (if x1 = (0 : Int32) then b_Siv_fits_156 F kr k86 a0 i1 i2 i3 i4 i5 i6 h2 else bnd (gR h2 a0 6 1) fun x3 => bnd (aI h2 x3 i1) fun x4 => bnd (sI h2 x3 i1 (x4 ||| i7)) fun h5 => b_Siv_fits_156 F kr k86 a0 i1 i2 i3 i4 (1 : Int32) i6 h5)
theorem g_Siv_fits_136 {l : Launch} {E : ET} {d : Nat} (hd : 1 ≤ d) {F : Nat} {r : Int32} {h9 : PH} {x : Nat} {kr : Nat → Int32 → Int32 → Int32 → PH → Option (Int32 × PH)} (hkr : ∀ (a0 : Nat) (a1 : Int32) (a2 : Int32) (a3 : Int32) (ha : PH) (rr : Int32) (hb : PH), kr a0 a1 a2 a3 ha = some (rr, hb) → Fn l E m_Siv_fits (d - 1) 0 0 [.ref a0, .int a1, .int a2, .int a3] ha x (PoE (some (.int rr)) hb x)) {k86 : Nat → Int32 → Int32 → Int32 → Int32 → Int32 → Int32 → PH → Option (Int32 × PH)} (hk86 : ∀ (a0 : Nat) (i1 : Int32) (i2 : Int32) (i3 : Int32) (i4 : Int32) (i5 : Int32) (i6 : Int32) (hh : PH), k86 a0 i1 i2 i3 i4 i5 i6 hh = some (r, h9) → Go l E m_Siv_fits (rm d 0 0) (KM E 0 0 (PoE (some (.int r)) h9 x)) 0 0 hh x 86 [(0, .ref a0), (1, .int i1), (2, .int i2), (3, .int i3), (4, .int i4), (5, .int i5), (6, .int i6)] []) (a0 : Nat) (i1 : Int32) (i2 : Int32) (i3 : Int32) (i4 : Int32) (i5 : Int32) (i6 : Int32) (i7 : Int32) (s0 : Int32) (s1 : Int32) (s2 : Int32) (s3 : Nat) (h : PH) (hf : b_Siv_fits_136 F kr k86 a0 i1 i2 i3 i4 i5 i6 i7 s0 s1 s2 s3 h = some (r, h9)) : Go l E m_Siv_fits (rm d 0 0) (KM E 0 0 (PoE (some (.int r)) h9 x)) 0 0 h x 136 [(0, .ref a0), (1, .int i1), (2, .int i2), (3, .int i3), (4, .int i4), (5, .int i5), (6, .int i6), (7, .int i7)] [.int s0, .int s1, .int s2, .ref s3] := by
  unfold b_Siv_fits_136 at hf
  obtain ⟨x1, h2, e_x1, hf⟩ := bnd2_x hf
  refine go_callS_I (As := [.ref s3, .int s2, .int s1, .int s0]) (st := []) (hkr _ _ _ _ _ _ _ e_x1) lk_Siv_55 rfl rfl (rm_ok (by omega)) (Nat.le_of_ble_eq_true rfl) rm_c d_Siv_fits_136 ?_
  refine go_if_eq 156 d_Siv_fits_139 (by decide) (fun q6 => ?_) (fun q6 => ?_)
  · rw [if_pos q6] at hf
    refine go_sub (lv' := [(0, .ref a0), (1, .int i1), (2, .int i2), (3, .int i3), (4, .int i4), (5, .int i5), (6, .int i6)]) [0, 1, 2, 3, 4, 5, 6] rfl ?_
    exact g_Siv_fits_156 hd hkr hk86 a0 i1 i2 i3 i4 i5 i6 h2 hf
  · rw [if_neg q6] at hf
    refine go_aload_n 0 d_Siv_fits_142 rfl ?_
    obtain ⟨x3, e_x3, hf⟩ := bnd_x hf
    refine go_get d_Siv_fits_143 (gR_x e_x3) fl_Siv_15 ?_
    refine go_iload_n 1 d_Siv_fits_146 rfl ?_
    refine go_dup2 d_Siv_fits_147 rfl rfl ?_
    obtain ⟨x4, e_x4, hf⟩ := bnd_x hf
    refine go_iaload d_Siv_fits_148 e_x4 ?_
    refine go_iload 7 d_Siv_fits_149 rfl ?_
    refine go_ior d_Siv_fits_151 ?_
    obtain ⟨h5, e_h5, hf⟩ := bnd_x hf
    refine go_iastore d_Siv_fits_152 e_h5 ?_
    refine go_iconst (1 : Int32) d_Siv_fits_153 (by decide) ?_
    refine go_istore (lv' := [(5, .int (1 : Int32)), (0, .ref a0), (1, .int i1), (2, .int i2), (3, .int i3), (4, .int i4), (6, .int i6), (7, .int i7)]) d_Siv_fits_154 rfl (by decide) ?_
    refine go_sub (lv' := [(0, .ref a0), (1, .int i1), (2, .int i2), (3, .int i3), (4, .int i4), (5, .int (1 : Int32)), (6, .int i6)]) [1, 2, 3, 4, 5, 0, 6] rfl ?_
    exact g_Siv_fits_156 hd hkr hk86 a0 i1 i2 i3 i4 (1 : Int32) i6 h5 hf
def b_Siv_fits_86 (F : Nat) (kr : Nat → Int32 → Int32 → Int32 → PH → Option (Int32 × PH)) (k86 : Nat → Int32 → Int32 → Int32 → Int32 → Int32 → Int32 → PH → Option (Int32 × PH)) (a0 : Nat) (i1 : Int32) (i2 : Int32) (i3 : Int32) (i4 : Int32) (i5 : Int32) (i6 : Int32) (h : PH) : Option (Int32 × PH) :=
  (if (6 : Int32) < i6 then bnd (cZ i5) fun _ => some (i5, h) else (if i2 ≤ i6 then bnd (cZ i5) fun _ => some (i5, h) else bnd (some ((1 : Int32) <<< (i6 &&& 31))) fun y3 => (if (i4 &&& y3) = (0 : Int32) then b_Siv_fits_156 F kr k86 a0 i1 i2 i3 i4 i5 i6 h else bnd (gI h a0 6 3) fun x4 => (if x4 = (0 : Int32) then b_Siv_fits_136 F kr k86 a0 i1 i2 i3 i4 i5 i6 y3 (0 : Int32) (i2 - i6) (i1 + (1 : Int32)) a0 h else b_Siv_fits_136 F kr k86 a0 i1 i2 i3 i4 i5 i6 y3 (i3 ||| y3) (i2 - i6) (i1 + (1 : Int32)) a0 h))))
def f_Siv_fits_86 (F : Nat) (kr : Nat → Int32 → Int32 → Int32 → PH → Option (Int32 × PH)) : Nat → Nat → Int32 → Int32 → Int32 → Int32 → Int32 → Int32 → PH → Option (Int32 × PH)
  | 0 => fun _ _ _ _ _ _ _ _ => none
  | n + 1 => b_Siv_fits_86 F kr (f_Siv_fits_86 F kr n)
theorem g_Siv_fits_86 {l : Launch} {E : ET} {d : Nat} (hd : 1 ≤ d) {F : Nat} {r : Int32} {h9 : PH} {x : Nat} {kr : Nat → Int32 → Int32 → Int32 → PH → Option (Int32 × PH)} (hkr : ∀ (a0 : Nat) (a1 : Int32) (a2 : Int32) (a3 : Int32) (ha : PH) (rr : Int32) (hb : PH), kr a0 a1 a2 a3 ha = some (rr, hb) → Fn l E m_Siv_fits (d - 1) 0 0 [.ref a0, .int a1, .int a2, .int a3] ha x (PoE (some (.int rr)) hb x)) {k86 : Nat → Int32 → Int32 → Int32 → Int32 → Int32 → Int32 → PH → Option (Int32 × PH)} (hk86 : ∀ (a0 : Nat) (i1 : Int32) (i2 : Int32) (i3 : Int32) (i4 : Int32) (i5 : Int32) (i6 : Int32) (hh : PH), k86 a0 i1 i2 i3 i4 i5 i6 hh = some (r, h9) → Go l E m_Siv_fits (rm d 0 0) (KM E 0 0 (PoE (some (.int r)) h9 x)) 0 0 hh x 86 [(0, .ref a0), (1, .int i1), (2, .int i2), (3, .int i3), (4, .int i4), (5, .int i5), (6, .int i6)] []) (a0 : Nat) (i1 : Int32) (i2 : Int32) (i3 : Int32) (i4 : Int32) (i5 : Int32) (i6 : Int32) (h : PH) (hf : b_Siv_fits_86 F kr k86 a0 i1 i2 i3 i4 i5 i6 h = some (r, h9)) : Go l E m_Siv_fits (rm d 0 0) (KM E 0 0 (PoE (some (.int r)) h9 x)) 0 0 h x 86 [(0, .ref a0), (1, .int i1), (2, .int i2), (3, .int i3), (4, .int i4), (5, .int i5), (6, .int i6)] [] := by
  unfold b_Siv_fits_86 at hf
  refine go_iload 6 d_Siv_fits_86 rfl ?_
  refine go_bipush (6 : Int32) d_Siv_fits_88 (by decide) ?_
  refine go_icmp_gt 162 d_Siv_fits_90 (by decide) (fun q8 => ?_) (fun q8 => ?_)
  · rw [if_pos q8] at hf
    refine go_iload 5 d_Siv_fits_162 rfl ?_
    obtain ⟨_, e1, hf⟩ := bnd_x hf
    obtain ⟨e8, e9⟩ := Prod.mk.inj (Option.some.inj hf)
    subst e8; subst e9
    exact go_zret d_Siv_fits_164 e1 rfl ⟨rfl, rfl, rfl⟩
  · rw [if_neg q8] at hf
    refine go_iload 6 d_Siv_fits_93 rfl ?_
    refine go_iload_n 2 d_Siv_fits_95 rfl ?_
    refine go_icmp_ge 162 d_Siv_fits_96 (by decide) (fun q7 => ?_) (fun q7 => ?_)
    · rw [if_pos q7] at hf
      refine go_iload 5 d_Siv_fits_162 rfl ?_
      obtain ⟨_, e2, hf⟩ := bnd_x hf
      obtain ⟨e8, e9⟩ := Prod.mk.inj (Option.some.inj hf)
      subst e8; subst e9
      exact go_zret d_Siv_fits_164 e2 rfl ⟨rfl, rfl, rfl⟩
    · rw [if_neg q7] at hf
      refine go_iconst (1 : Int32) d_Siv_fits_99 (by decide) ?_
      refine go_iload 6 d_Siv_fits_100 rfl ?_
      refine go_ishl d_Siv_fits_102 ?_
      obtain ⟨y3, e_y3, hf⟩ := bnd_x hf
      refine go_nmI e_y3 ?_
      refine go_istore (lv' := [(7, .int y3), (0, .ref a0), (1, .int i1), (2, .int i2), (3, .int i3), (4, .int i4), (5, .int i5), (6, .int i6)]) d_Siv_fits_103 rfl (by decide) ?_
      refine go_iload 5 d_Siv_fits_105 rfl ?_
      refine go_iload 0 d_Siv_fits_107 rfl ?_
      refine go_iand d_Siv_fits_109 ?_
      refine go_if_eq 156 d_Siv_fits_110 (by decide) (fun q6 => ?_) (fun q6 => ?_)
      · rw [if_pos q6] at hf
        refine go_sub (lv' := [(0, .ref a0), (1, .int i1), (2, .int i2), (3, .int i3), (4, .int i4), (5, .int i5), (6, .int i6)]) [1, 2, 3, 4, 5, 6, 7] rfl ?_
        exact g_Siv_fits_156 hd hkr hk86 a0 i1 i2 i3 i4 i5 i6 h hf
      · rw [if_neg q6] at hf
        refine go_aload_n 1 d_Siv_fits_113 rfl ?_
        refine go_iload_n 2 d_Siv_fits_114 rfl ?_
        refine go_iconst (1 : Int32) d_Siv_fits_115 (by decide) ?_
        refine go_iadd d_Siv_fits_116 ?_
        refine go_iload_n 3 d_Siv_fits_117 rfl ?_
        refine go_iload 7 d_Siv_fits_118 rfl ?_
        refine go_isub d_Siv_fits_120 ?_
        refine go_aload_n 1 d_Siv_fits_121 rfl ?_
        obtain ⟨x4, e_x4, hf⟩ := bnd_x hf
        refine go_get d_Siv_fits_122 (gI_x e_x4) fl_Siv_48 ?_
        refine go_if_eq 135 d_Siv_fits_125 (by decide) (fun q5 => ?_) (fun q5 => ?_)
        · rw [if_pos q5] at hf
          refine go_iconst (0 : Int32) d_Siv_fits_135 (by decide) ?_
          refine go_sub (lv' := [(0, .ref a0), (1, .int i1), (2, .int i2), (3, .int i3), (4, .int i4), (5, .int i5), (6, .int i6), (7, .int y3)]) [1, 2, 3, 4, 5, 6, 7, 0] rfl ?_
          exact g_Siv_fits_136 hd hkr hk86 a0 i1 i2 i3 i4 i5 i6 y3 (0 : Int32) (i2 - i6) (i1 + (1 : Int32)) a0 h hf
        · rw [if_neg q5] at hf
          refine go_iload_n 4 d_Siv_fits_128 rfl ?_
          refine go_iload 0 d_Siv_fits_129 rfl ?_
          refine go_ior d_Siv_fits_131 ?_
          refine go_goto 136 d_Siv_fits_132 (by decide) ?_
          refine go_sub (lv' := [(0, .ref a0), (1, .int i1), (2, .int i2), (3, .int i3), (4, .int i4), (5, .int i5), (6, .int i6), (7, .int y3)]) [1, 2, 3, 4, 5, 6, 7, 0] rfl ?_
          exact g_Siv_fits_136 hd hkr hk86 a0 i1 i2 i3 i4 i5 i6 y3 (i3 ||| y3) (i2 - i6) (i1 + (1 : Int32)) a0 h hf
theorem t_Siv_fits_86 {l : Launch} {E : ET} {d : Nat} (hd : 1 ≤ d) {F : Nat} {r : Int32} {h9 : PH} {x : Nat} {kr : Nat → Int32 → Int32 → Int32 → PH → Option (Int32 × PH)} (hkr : ∀ (a0 : Nat) (a1 : Int32) (a2 : Int32) (a3 : Int32) (ha : PH) (rr : Int32) (hb : PH), kr a0 a1 a2 a3 ha = some (rr, hb) → Fn l E m_Siv_fits (d - 1) 0 0 [.ref a0, .int a1, .int a2, .int a3] ha x (PoE (some (.int rr)) hb x))  : ∀ (n : Nat) (a0 : Nat) (i1 : Int32) (i2 : Int32) (i3 : Int32) (i4 : Int32) (i5 : Int32) (i6 : Int32) (hh : PH), f_Siv_fits_86 F kr n a0 i1 i2 i3 i4 i5 i6 hh = some (r, h9) → Go l E m_Siv_fits (rm d 0 0) (KM E 0 0 (PoE (some (.int r)) h9 x)) 0 0 hh x 86 [(0, .ref a0), (1, .int i1), (2, .int i2), (3, .int i3), (4, .int i4), (5, .int i5), (6, .int i6)] [] := by
  intro n
  induction n with
  | zero => intro v0 v1 v2 v3 v4 v5 v6 v7 hf; cases hf
  | succ n ih => intro v0 v1 v2 v3 v4 v5 v6 v7 hf; exact g_Siv_fits_86 hd hkr ih v0 v1 v2 v3 v4 v5 v6 v7 hf
def b_Siv_fits_0 (F : Nat) (kr : Nat → Int32 → Int32 → Int32 → PH → Option (Int32 × PH)) (a0 : Nat) (i1 : Int32) (i2 : Int32) (i3 : Int32) (h : PH) : Option (Int32 × PH) :=
  bnd (gI h a0 6 2) fun x1 => (if x1 ≤ i1 then some ((0 : Int32), h) else (if i2 < (1 : Int32) then some ((0 : Int32), h) else bnd (gI h a0 6 2) fun x2 => (if i2 ≤ ((6 : Int32) * (x2 - i1)) then bnd (gR h a0 6 0) fun x3 => bnd (aI h x3 i1) fun x4 => bnd (some (x4 &&& (i3 ^^^ (-1 : Int32)))) fun y5 => bnd (gI h a0 6 2) fun x6 => (if i1 = (x6 - (1 : Int32)) then bnd (some (y5 &&& ((1 : Int32) <<< (i2 &&& 31)))) fun y7 => bnd (gR h a0 6 1) fun x8 => bnd (aI h x8 i1) fun x9 => bnd (sI h x8 i1 (x9 ||| y7)) fun h10 => (if y7 = (0 : Int32) then some ((0 : Int32), h10) else some ((1 : Int32), h10)) else f_Siv_fits_86 F kr F a0 i1 i2 i3 y5 (0 : Int32) (1 : Int32) h) else some ((0 : Int32), h))))
theorem g_Siv_fits_0 {l : Launch} {E : ET} {d : Nat} (hd : 1 ≤ d) {F : Nat} {r : Int32} {h9 : PH} {x : Nat} {kr : Nat → Int32 → Int32 → Int32 → PH → Option (Int32 × PH)} (hkr : ∀ (a0 : Nat) (a1 : Int32) (a2 : Int32) (a3 : Int32) (ha : PH) (rr : Int32) (hb : PH), kr a0 a1 a2 a3 ha = some (rr, hb) → Fn l E m_Siv_fits (d - 1) 0 0 [.ref a0, .int a1, .int a2, .int a3] ha x (PoE (some (.int rr)) hb x))  (a0 : Nat) (i1 : Int32) (i2 : Int32) (i3 : Int32) (h : PH) (hf : b_Siv_fits_0 F kr a0 i1 i2 i3 h = some (r, h9)) : Go l E m_Siv_fits (rm d 0 0) (KM E 0 0 (PoE (some (.int r)) h9 x)) 0 0 h x 0 [(0, .ref a0), (1, .int i1), (2, .int i2), (3, .int i3)] [] := by
  unfold b_Siv_fits_0 at hf
  refine go_iload_n 1 d_Siv_fits_0 rfl ?_
  refine go_aload_n 0 d_Siv_fits_1 rfl ?_
  obtain ⟨x1, e_x1, hf⟩ := bnd_x hf
  refine go_get d_Siv_fits_2 (gI_x e_x1) fl_Siv_29 ?_
  refine go_icmp_ge 26 d_Siv_fits_5 (by decide) (fun q15 => ?_) (fun q15 => ?_)
  · rw [if_pos q15] at hf
    refine go_iconst (0 : Int32) d_Siv_fits_26 (by decide) ?_
    obtain ⟨e8, e9⟩ := Prod.mk.inj (Option.some.inj hf)
    subst e8; subst e9
    exact go_zret d_Siv_fits_27 rfl rfl ⟨rfl, rfl, rfl⟩
  · rw [if_neg q15] at hf
    refine go_iload_n 2 d_Siv_fits_8 rfl ?_
    refine go_iconst (1 : Int32) d_Siv_fits_9 (by decide) ?_
    refine go_icmp_lt 26 d_Siv_fits_10 (by decide) (fun q14 => ?_) (fun q14 => ?_)
    · rw [if_pos q14] at hf
      refine go_iconst (0 : Int32) d_Siv_fits_26 (by decide) ?_
      obtain ⟨e8, e9⟩ := Prod.mk.inj (Option.some.inj hf)
      subst e8; subst e9
      exact go_zret d_Siv_fits_27 rfl rfl ⟨rfl, rfl, rfl⟩
    · rw [if_neg q14] at hf
      refine go_iload_n 2 d_Siv_fits_13 rfl ?_
      refine go_bipush (6 : Int32) d_Siv_fits_14 (by decide) ?_
      refine go_aload_n 0 d_Siv_fits_16 rfl ?_
      obtain ⟨x2, e_x2, hf⟩ := bnd_x hf
      refine go_get d_Siv_fits_17 (gI_x e_x2) fl_Siv_29 ?_
      refine go_iload_n 1 d_Siv_fits_20 rfl ?_
      refine go_isub d_Siv_fits_21 ?_
      refine go_imul d_Siv_fits_22 ?_
      refine go_icmp_le 28 d_Siv_fits_23 (by decide) (fun q13 => ?_) (fun q13 => ?_)
      · rw [if_pos q13] at hf
        refine go_aload_n 0 d_Siv_fits_28 rfl ?_
        obtain ⟨x3, e_x3, hf⟩ := bnd_x hf
        refine go_get d_Siv_fits_29 (gR_x e_x3) fl_Siv_11 ?_
        refine go_iload_n 1 d_Siv_fits_32 rfl ?_
        obtain ⟨x4, e_x4, hf⟩ := bnd_x hf
        refine go_iaload d_Siv_fits_33 e_x4 ?_
        refine go_iload_n 3 d_Siv_fits_34 rfl ?_
        refine go_iconst (-1 : Int32) d_Siv_fits_35 (by decide) ?_
        refine go_ixor d_Siv_fits_36 ?_
        refine go_iand d_Siv_fits_37 ?_
        obtain ⟨y5, e_y5, hf⟩ := bnd_x hf
        refine go_nmI e_y5 ?_
        refine go_istore (lv' := [(4, .int y5), (0, .ref a0), (1, .int i1), (2, .int i2), (3, .int i3)]) d_Siv_fits_38 rfl (by decide) ?_
        refine go_iload_n 2 d_Siv_fits_40 rfl ?_
        refine go_aload_n 1 d_Siv_fits_41 rfl ?_
        obtain ⟨x6, e_x6, hf⟩ := bnd_x hf
        refine go_get d_Siv_fits_42 (gI_x e_x6) fl_Siv_29 ?_
        refine go_iconst (1 : Int32) d_Siv_fits_45 (by decide) ?_
        refine go_isub d_Siv_fits_46 ?_
        refine go_icmp_ne 80 d_Siv_fits_47 (by decide) (fun q12 => ?_) (fun q12 => ?_)
        · rw [if_neg q12] at hf
          refine go_iconst (0 : Int32) d_Siv_fits_80 (by decide) ?_
          refine go_istore (lv' := [(5, .int (0 : Int32)), (4, .int y5), (0, .ref a0), (1, .int i1), (2, .int i2), (3, .int i3)]) d_Siv_fits_81 rfl (by decide) ?_
          refine go_iconst (1 : Int32) d_Siv_fits_83 (by decide) ?_
          refine go_istore (lv' := [(6, .int (1 : Int32)), (5, .int (0 : Int32)), (4, .int y5), (0, .ref a0), (1, .int i1), (2, .int i2), (3, .int i3)]) d_Siv_fits_84 rfl (by decide) ?_
          refine go_sub (lv' := [(0, .ref a0), (1, .int i1), (2, .int i2), (3, .int i3), (4, .int y5), (5, .int (0 : Int32)), (6, .int (1 : Int32))]) [3, 4, 5, 6, 2, 1, 0] rfl ?_
          exact t_Siv_fits_86 hd hkr  _ a0 i1 i2 i3 y5 (0 : Int32) (1 : Int32) h hf
        · rw [if_pos q12] at hf
          refine go_iload 0 d_Siv_fits_50 rfl ?_
          refine go_iconst (1 : Int32) d_Siv_fits_52 (by decide) ?_
          refine go_iload_n 3 d_Siv_fits_53 rfl ?_
          refine go_ishl d_Siv_fits_54 ?_
          refine go_iand d_Siv_fits_55 ?_
          obtain ⟨y7, e_y7, hf⟩ := bnd_x hf
          refine go_nmI e_y7 ?_
          refine go_istore (lv' := [(5, .int y7), (4, .int y5), (0, .ref a0), (1, .int i1), (2, .int i2), (3, .int i3)]) d_Siv_fits_56 rfl (by decide) ?_
          refine go_aload_n 2 d_Siv_fits_58 rfl ?_
          obtain ⟨x8, e_x8, hf⟩ := bnd_x hf
          refine go_get d_Siv_fits_59 (gR_x e_x8) fl_Siv_15 ?_
          refine go_iload_n 3 d_Siv_fits_62 rfl ?_
          refine go_dup2 d_Siv_fits_63 rfl rfl ?_
          obtain ⟨x9, e_x9, hf⟩ := bnd_x hf
          refine go_iaload d_Siv_fits_64 e_x9 ?_
          refine go_iload 0 d_Siv_fits_65 rfl ?_
          refine go_ior d_Siv_fits_67 ?_
          obtain ⟨h10, e_h10, hf⟩ := bnd_x hf
          refine go_iastore d_Siv_fits_68 e_h10 ?_
          refine go_iload 0 d_Siv_fits_69 rfl ?_
          refine go_if_eq 78 d_Siv_fits_71 (by decide) (fun q11 => ?_) (fun q11 => ?_)
          · rw [if_pos q11] at hf
            refine go_iconst (0 : Int32) d_Siv_fits_78 (by decide) ?_
            obtain ⟨e8, e9⟩ := Prod.mk.inj (Option.some.inj hf)
            subst e8; subst e9
            exact go_zret d_Siv_fits_79 rfl rfl ⟨rfl, rfl, rfl⟩
          · rw [if_neg q11] at hf
            refine go_iconst (1 : Int32) d_Siv_fits_74 (by decide) ?_
            refine go_goto 79 d_Siv_fits_75 (by decide) ?_
            obtain ⟨e8, e9⟩ := Prod.mk.inj (Option.some.inj hf)
            subst e8; subst e9
            exact go_zret d_Siv_fits_79 rfl rfl ⟨rfl, rfl, rfl⟩
      · rw [if_neg q13] at hf
        refine go_iconst (0 : Int32) d_Siv_fits_26 (by decide) ?_
        obtain ⟨e8, e9⟩ := Prod.mk.inj (Option.some.inj hf)
        subst e8; subst e9
        exact go_zret d_Siv_fits_27 rfl rfl ⟨rfl, rfl, rfl⟩
def f_Siv_fits (F : Nat) : Nat → Nat → Int32 → Int32 → Int32 → PH → Option (Int32 × PH)
  | 0 => fun _ _ _ _ _ => none
  | n + 1 => b_Siv_fits_0 F (f_Siv_fits F n)
theorem cr_Siv_fits {l : Launch} {E : ET} {F : Nat} {x : Nat} : ∀ (n d : Nat), 1 + n ≤ d → ∀ (a0 : Nat) (i1 : Int32) (i2 : Int32) (i3 : Int32) (h : PH) (r : Int32) (h9 : PH), f_Siv_fits F n a0 i1 i2 i3 h = some (r, h9) → Fn l E m_Siv_fits d 0 0 [.ref a0, .int i1, .int i2, .int i3] h x (PoE (some (.int r)) h9 x) := by
  intro n
  induction n with
  | zero => intro d hd _ _ _ _ _ _ _ hf; cases hf
  | succ n ih =>
    intro d hd a0 i1 i2 i3 h r h9 hf
    exact Fn.of (by decide +kernel) (Nat.le_of_ble_eq_true rfl) (g_Siv_fits_0 (by omega) (fun b0 b1 b2 b3 ha rr hb q => ih (d - 1) (by omega) b0 b1 b2 b3 ha rr hb q) a0 i1 i2 i3 h hf)
theorem c_Siv_fits {l : Launch} {E : ET} {d : Nat} (hd : 61 ≤ d) {F : Nat} {r : Int32} {h9 : PH} {x : Nat} {a0 : Nat} {i1 : Int32} {i2 : Int32} {i3 : Int32} {h : PH} (hf : f_Siv_fits F RD a0 i1 i2 i3 h = some (r, h9)) : Fn l E m_Siv_fits d 0 0 [.ref a0, .int i1, .int i2, .int i3] h x (PoE (some (.int r)) h9 x) :=
  cr_Siv_fits RD d (by show 1 + 60 ≤ d; omega) _ _ _ _ _ _ _ hf
theorem d_Siv_addUp_0 : decode prog_9_method_4_code 0 = .ok (.aload_n 0, 1) := by decide +kernel
theorem d_Siv_addUp_1 : decode prog_9_method_4_code 1 = .ok (.iconst 0, 1) := by decide +kernel
theorem d_Siv_addUp_2 : decode prog_9_method_4_code 2 = .ok (.putfield 48, 3) := by decide +kernel
theorem d_Siv_addUp_5 : decode prog_9_method_4_code 5 = .ok (.iconst 1, 1) := by decide +kernel
theorem d_Siv_addUp_6 : decode prog_9_method_4_code 6 = .ok (.istore_n 1, 1) := by decide +kernel
theorem d_Siv_addUp_7 : decode prog_9_method_4_code 7 = .ok (.iload_n 1, 1) := by decide +kernel
theorem d_Siv_addUp_8 : decode prog_9_method_4_code 8 = .ok (.bipush 6, 2) := by decide +kernel
theorem d_Siv_addUp_10 : decode prog_9_method_4_code 10 = .ok (.if_icmp .gt 44, 3) := by decide +kernel
theorem d_Siv_addUp_13 : decode prog_9_method_4_code 13 = .ok (.aload_n 0, 1) := by decide +kernel
theorem d_Siv_addUp_14 : decode prog_9_method_4_code 14 = .ok (.getfield 11, 3) := by decide +kernel
theorem d_Siv_addUp_17 : decode prog_9_method_4_code 17 = .ok (.iconst 0, 1) := by decide +kernel
theorem d_Siv_addUp_18 : decode prog_9_method_4_code 18 = .ok (.iaload, 1) := by decide +kernel
theorem d_Siv_addUp_19 : decode prog_9_method_4_code 19 = .ok (.iload_n 1, 1) := by decide +kernel
theorem d_Siv_addUp_20 : decode prog_9_method_4_code 20 = .ok (.ishr, 1) := by decide +kernel
theorem d_Siv_addUp_21 : decode prog_9_method_4_code 21 = .ok (.iconst 1, 1) := by decide +kernel
theorem d_Siv_addUp_22 : decode prog_9_method_4_code 22 = .ok (.iand, 1) := by decide +kernel
theorem d_Siv_addUp_23 : decode prog_9_method_4_code 23 = .ok (.ifCond .eq 25, 3) := by decide +kernel
theorem d_Siv_addUp_26 : decode prog_9_method_4_code 26 = .ok (.aload_n 0, 1) := by decide +kernel
theorem d_Siv_addUp_27 : decode prog_9_method_4_code 27 = .ok (.iconst 1, 1) := by decide +kernel
theorem d_Siv_addUp_28 : decode prog_9_method_4_code 28 = .ok (.iload_n 1, 1) := by decide +kernel
theorem d_Siv_addUp_29 : decode prog_9_method_4_code 29 = .ok (.iconst 0, 1) := by decide +kernel
theorem d_Siv_addUp_30 : decode prog_9_method_4_code 30 = .ok (.invokestatic 55, 3) := by decide +kernel
theorem d_Siv_addUp_33 : decode prog_9_method_4_code 33 = .ok (.ifCond .eq 15, 3) := by decide +kernel
theorem d_Siv_addUp_36 : decode prog_9_method_4_code 36 = .ok (.aload_n 0, 1) := by decide +kernel
theorem d_Siv_addUp_37 : decode prog_9_method_4_code 37 = .ok (.getfield 15, 3) := by decide +kernel
theorem d_Siv_addUp_40 : decode prog_9_method_4_code 40 = .ok (.iconst 0, 1) := by decide +kernel
theorem d_Siv_addUp_41 : decode prog_9_method_4_code 41 = .ok (.dup2, 1) := by decide +kernel
theorem d_Siv_addUp_42 : decode prog_9_method_4_code 42 = .ok (.iaload, 1) := by decide +kernel
theorem d_Siv_addUp_43 : decode prog_9_method_4_code 43 = .ok (.iconst 1, 1) := by decide +kernel
theorem d_Siv_addUp_44 : decode prog_9_method_4_code 44 = .ok (.iload_n 1, 1) := by decide +kernel
theorem d_Siv_addUp_45 : decode prog_9_method_4_code 45 = .ok (.ishl, 1) := by decide +kernel
theorem d_Siv_addUp_46 : decode prog_9_method_4_code 46 = .ok (.ior, 1) := by decide +kernel
theorem d_Siv_addUp_47 : decode prog_9_method_4_code 47 = .ok (.iastore, 1) := by decide +kernel
theorem d_Siv_addUp_48 : decode prog_9_method_4_code 48 = .ok (.iinc 1 1, 3) := by decide +kernel
theorem d_Siv_addUp_51 : decode prog_9_method_4_code 51 = .ok (.goto (-44), 3) := by decide +kernel
theorem d_Siv_addUp_54 : decode prog_9_method_4_code 54 = .ok (.return_, 1) := by decide +kernel
def b_Siv_addUp_48 (F : Nat) (k7 : Nat → Int32 → PH → Option PH) (a0 : Nat) (i1 : Int32) (h : PH) : Option PH :=
  k7 a0 (i1 + (1 : Int32)) h
theorem g_Siv_addUp_48 {l : Launch} {E : ET} {d : Nat} (hd : 62 ≤ d) {F : Nat} {h9 : PH} {x : Nat} {k7 : Nat → Int32 → PH → Option PH} (hk7 : ∀ (a0 : Nat) (i1 : Int32) (hh : PH), k7 a0 i1 hh = some h9 → Go l E m_Siv_addUp (rm d 0 0) (KM E 0 0 (PoE none h9 x)) 0 0 hh x 7 [(0, .ref a0), (1, .int i1)] []) (a0 : Nat) (i1 : Int32) (h : PH) (hf : b_Siv_addUp_48 F k7 a0 i1 h = some h9) : Go l E m_Siv_addUp (rm d 0 0) (KM E 0 0 (PoE none h9 x)) 0 0 h x 48 [(0, .ref a0), (1, .int i1)] [] := by
  unfold b_Siv_addUp_48 at hf
  refine go_iinc (lv' := [(1, .int (i1 + (1 : Int32))), (0, .ref a0)]) 1 (i1 + (1 : Int32)) d_Siv_addUp_48 rfl rfl rfl (by decide) ?_
  refine go_goto 7 d_Siv_addUp_51 (by decide) ?_
  refine go_sub (lv' := [(0, .ref a0), (1, .int (i1 + (1 : Int32)))]) [1, 0] rfl ?_
  exact hk7 a0 (i1 + (1 : Int32)) h hf
def b_Siv_addUp_7 (F : Nat) (k7 : Nat → Int32 → PH → Option PH) (a0 : Nat) (i1 : Int32) (h : PH) : Option PH :=
  (if (6 : Int32) < i1 then some h else bnd (gR h a0 6 0) fun x1 => bnd (aI h x1 (0 : Int32)) fun x2 => (if ((x2 >>> (i1 &&& 31)) &&& (1 : Int32)) = (0 : Int32) then b_Siv_addUp_48 F k7 a0 i1 h else bnd2 (f_Siv_fits F RD a0 (1 : Int32) i1 (0 : Int32) h) fun x3 h4 => (if x3 = (0 : Int32) then b_Siv_addUp_48 F k7 a0 i1 h4 else bnd (gR h4 a0 6 1) fun x5 => bnd (aI h4 x5 (0 : Int32)) fun x6 => bnd (sI h4 x5 (0 : Int32) (x6 ||| ((1 : Int32) <<< (i1 &&& 31)))) fun h7 => b_Siv_addUp_48 F k7 a0 i1 h7)))
def f_Siv_addUp_7 (F : Nat) : Nat → Nat → Int32 → PH → Option PH
  | 0 => fun _ _ _ => none
  | n + 1 => b_Siv_addUp_7 F (f_Siv_addUp_7 F n)
theorem g_Siv_addUp_7 {l : Launch} {E : ET} {d : Nat} (hd : 62 ≤ d) {F : Nat} {h9 : PH} {x : Nat} {k7 : Nat → Int32 → PH → Option PH} (hk7 : ∀ (a0 : Nat) (i1 : Int32) (hh : PH), k7 a0 i1 hh = some h9 → Go l E m_Siv_addUp (rm d 0 0) (KM E 0 0 (PoE none h9 x)) 0 0 hh x 7 [(0, .ref a0), (1, .int i1)] []) (a0 : Nat) (i1 : Int32) (h : PH) (hf : b_Siv_addUp_7 F k7 a0 i1 h = some h9) : Go l E m_Siv_addUp (rm d 0 0) (KM E 0 0 (PoE none h9 x)) 0 0 h x 7 [(0, .ref a0), (1, .int i1)] [] := by
  unfold b_Siv_addUp_7 at hf
  refine go_iload_n 1 d_Siv_addUp_7 rfl ?_
  refine go_bipush (6 : Int32) d_Siv_addUp_8 (by decide) ?_
  refine go_icmp_gt 54 d_Siv_addUp_10 (by decide) (fun q10 => ?_) (fun q10 => ?_)
  · rw [if_pos q10] at hf
    have e9 := Option.some.inj hf
    subst e9
    exact go_vret d_Siv_addUp_54 rfl ⟨rfl, rfl, rfl⟩
  · rw [if_neg q10] at hf
    refine go_aload_n 0 d_Siv_addUp_13 rfl ?_
    obtain ⟨x1, e_x1, hf⟩ := bnd_x hf
    refine go_get d_Siv_addUp_14 (gR_x e_x1) fl_Siv_11 ?_
    refine go_iconst (0 : Int32) d_Siv_addUp_17 (by decide) ?_
    obtain ⟨x2, e_x2, hf⟩ := bnd_x hf
    refine go_iaload d_Siv_addUp_18 e_x2 ?_
    refine go_iload_n 1 d_Siv_addUp_19 rfl ?_
    refine go_ishr d_Siv_addUp_20 ?_
    refine go_iconst (1 : Int32) d_Siv_addUp_21 (by decide) ?_
    refine go_iand d_Siv_addUp_22 ?_
    refine go_if_eq 48 d_Siv_addUp_23 (by decide) (fun q9 => ?_) (fun q9 => ?_)
    · rw [if_pos q9] at hf
      refine go_sub (lv' := [(0, .ref a0), (1, .int i1)]) [0, 1] rfl ?_
      exact g_Siv_addUp_48 hd hk7 a0 i1 h hf
    · rw [if_neg q9] at hf
      refine go_aload_n 0 d_Siv_addUp_26 rfl ?_
      refine go_iconst (1 : Int32) d_Siv_addUp_27 (by decide) ?_
      refine go_iload_n 1 d_Siv_addUp_28 rfl ?_
      refine go_iconst (0 : Int32) d_Siv_addUp_29 (by decide) ?_
      obtain ⟨x3, h4, e_x3, hf⟩ := bnd2_x hf
      refine go_callS_I (As := [.ref a0, .int (1 : Int32), .int i1, .int (0 : Int32)]) (st := []) (c_Siv_fits (d := d - 1) (by omega) e_x3) lk_Siv_55 rfl rfl (rm_ok (by omega)) (Nat.le_of_ble_eq_true rfl) rm_c d_Siv_addUp_30 ?_
      refine go_if_eq 48 d_Siv_addUp_33 (by decide) (fun q8 => ?_) (fun q8 => ?_)
      · rw [if_pos q8] at hf
        refine go_sub (lv' := [(0, .ref a0), (1, .int i1)]) [0, 1] rfl ?_
        exact g_Siv_addUp_48 hd hk7 a0 i1 h4 hf
      · rw [if_neg q8] at hf
        refine go_aload_n 0 d_Siv_addUp_36 rfl ?_
        obtain ⟨x5, e_x5, hf⟩ := bnd_x hf
        refine go_get d_Siv_addUp_37 (gR_x e_x5) fl_Siv_15 ?_
        refine go_iconst (0 : Int32) d_Siv_addUp_40 (by decide) ?_
        refine go_dup2 d_Siv_addUp_41 rfl rfl ?_
        obtain ⟨x6, e_x6, hf⟩ := bnd_x hf
        refine go_iaload d_Siv_addUp_42 e_x6 ?_
        refine go_iconst (1 : Int32) d_Siv_addUp_43 (by decide) ?_
        refine go_iload_n 1 d_Siv_addUp_44 rfl ?_
        refine go_ishl d_Siv_addUp_45 ?_
        refine go_ior d_Siv_addUp_46 ?_
        obtain ⟨h7, e_h7, hf⟩ := bnd_x hf
        refine go_iastore d_Siv_addUp_47 e_h7 ?_
        refine go_sub (lv' := [(0, .ref a0), (1, .int i1)]) [0, 1] rfl ?_
        exact g_Siv_addUp_48 hd hk7 a0 i1 h7 hf
theorem t_Siv_addUp_7 {l : Launch} {E : ET} {d : Nat} (hd : 62 ≤ d) {F : Nat} {h9 : PH} {x : Nat}  : ∀ (n : Nat) (a0 : Nat) (i1 : Int32) (hh : PH), f_Siv_addUp_7 F n a0 i1 hh = some h9 → Go l E m_Siv_addUp (rm d 0 0) (KM E 0 0 (PoE none h9 x)) 0 0 hh x 7 [(0, .ref a0), (1, .int i1)] [] := by
  intro n
  induction n with
  | zero => intro v0 v1 v2 hf; cases hf
  | succ n ih => intro v0 v1 v2 hf; exact g_Siv_addUp_7 hd ih v0 v1 v2 hf
def f_Siv_addUp (F : Nat) (a0 : Nat) (h : PH) : Option PH :=
  bnd (pV h a0 6 3 (.int (0 : Int32))) fun h1 => f_Siv_addUp_7 F F a0 (1 : Int32) h1
theorem g_Siv_addUp_0 {l : Launch} {E : ET} {d : Nat} (hd : 62 ≤ d) {F : Nat} {h9 : PH} {x : Nat}  (a0 : Nat) (h : PH) (hf : f_Siv_addUp F a0 h = some h9) : Go l E m_Siv_addUp (rm d 0 0) (KM E 0 0 (PoE none h9 x)) 0 0 h x 0 [(0, .ref a0)] [] := by
  unfold f_Siv_addUp at hf
  refine go_aload_n 0 d_Siv_addUp_0 rfl ?_
  refine go_iconst (0 : Int32) d_Siv_addUp_1 (by decide) ?_
  obtain ⟨h1, e_h1, hf⟩ := bnd_x hf
  refine go_putZ d_Siv_addUp_2 rfl e_h1 fl_Siv_48 rfl rfl ?_
  refine go_iconst (1 : Int32) d_Siv_addUp_5 (by decide) ?_
  refine go_istore_n (lv' := [(1, .int (1 : Int32)), (0, .ref a0)]) d_Siv_addUp_6 rfl (by decide) ?_
  refine go_sub (lv' := [(0, .ref a0), (1, .int (1 : Int32))]) [1, 0] rfl ?_
  exact t_Siv_addUp_7 hd  _ a0 (1 : Int32) h1 hf
theorem c_Siv_addUp {l : Launch} {E : ET} {d : Nat} (hd : 62 ≤ d) {F : Nat} {h9 : PH} {x : Nat} {a0 : Nat} {h : PH} (hf : f_Siv_addUp F a0 h = some h9) : Fn l E m_Siv_addUp d 0 0 [.ref a0] h x (PoE none h9 x) :=
  Fn.of (by decide +kernel) (Nat.le_of_ble_eq_true rfl) (g_Siv_addUp_0 hd a0 h hf)
theorem d_Siv_sift_0 : decode prog_9_method_2_code 0 = .ok (.aload_n 0, 1) := by decide +kernel
theorem d_Siv_sift_1 : decode prog_9_method_2_code 1 = .ok (.aload_n 2, 1) := by decide +kernel
theorem d_Siv_sift_2 : decode prog_9_method_2_code 2 = .ok (.getfield 18, 3) := by decide +kernel
theorem d_Siv_sift_5 : decode prog_9_method_2_code 5 = .ok (.iload_n 3, 1) := by decide +kernel
theorem d_Siv_sift_6 : decode prog_9_method_2_code 6 = .ok (.iaload, 1) := by decide +kernel
theorem d_Siv_sift_7 : decode prog_9_method_2_code 7 = .ok (.bipush 6, 2) := by decide +kernel
theorem d_Siv_sift_9 : decode prog_9_method_2_code 9 = .ok (.invokestatic 23, 3) := by decide +kernel
theorem d_Siv_sift_12 : decode prog_9_method_2_code 12 = .ok (.putfield 29, 3) := by decide +kernel
theorem d_Siv_sift_15 : decode prog_9_method_2_code 15 = .ok (.iconst 0, 1) := by decide +kernel
theorem d_Siv_sift_16 : decode prog_9_method_2_code 16 = .ok (.istore 4, 2) := by decide +kernel
theorem d_Siv_sift_18 : decode prog_9_method_2_code 18 = .ok (.iload 4, 2) := by decide +kernel
theorem d_Siv_sift_20 : decode prog_9_method_2_code 20 = .ok (.aload_n 0, 1) := by decide +kernel
theorem d_Siv_sift_21 : decode prog_9_method_2_code 21 = .ok (.getfield 29, 3) := by decide +kernel
theorem d_Siv_sift_24 : decode prog_9_method_2_code 24 = .ok (.if_icmp .ge 35, 3) := by decide +kernel
theorem d_Siv_sift_27 : decode prog_9_method_2_code 27 = .ok (.aload_n 0, 1) := by decide +kernel
theorem d_Siv_sift_28 : decode prog_9_method_2_code 28 = .ok (.getfield 11, 3) := by decide +kernel
theorem d_Siv_sift_31 : decode prog_9_method_2_code 31 = .ok (.iload 4, 2) := by decide +kernel
theorem d_Siv_sift_33 : decode prog_9_method_2_code 33 = .ok (.aload_n 1, 1) := by decide +kernel
theorem d_Siv_sift_34 : decode prog_9_method_2_code 34 = .ok (.aload_n 2, 1) := by decide +kernel
theorem d_Siv_sift_35 : decode prog_9_method_2_code 35 = .ok (.iload_n 3, 1) := by decide +kernel
theorem d_Siv_sift_36 : decode prog_9_method_2_code 36 = .ok (.iload 4, 2) := by decide +kernel
theorem d_Siv_sift_38 : decode prog_9_method_2_code 38 = .ok (.invokevirtual 33, 3) := by decide +kernel
theorem d_Siv_sift_41 : decode prog_9_method_2_code 41 = .ok (.invokevirtual 36, 3) := by decide +kernel
theorem d_Siv_sift_44 : decode prog_9_method_2_code 44 = .ok (.iastore, 1) := by decide +kernel
theorem d_Siv_sift_45 : decode prog_9_method_2_code 45 = .ok (.aload_n 0, 1) := by decide +kernel
theorem d_Siv_sift_46 : decode prog_9_method_2_code 46 = .ok (.getfield 15, 3) := by decide +kernel
theorem d_Siv_sift_49 : decode prog_9_method_2_code 49 = .ok (.iload 4, 2) := by decide +kernel
theorem d_Siv_sift_51 : decode prog_9_method_2_code 51 = .ok (.iconst 0, 1) := by decide +kernel
theorem d_Siv_sift_52 : decode prog_9_method_2_code 52 = .ok (.iastore, 1) := by decide +kernel
theorem d_Siv_sift_53 : decode prog_9_method_2_code 53 = .ok (.iinc 4 1, 3) := by decide +kernel
theorem d_Siv_sift_56 : decode prog_9_method_2_code 56 = .ok (.goto (-38), 3) := by decide +kernel
theorem d_Siv_sift_59 : decode prog_9_method_2_code 59 = .ok (.aload_n 2, 1) := by decide +kernel
theorem d_Siv_sift_60 : decode prog_9_method_2_code 60 = .ok (.getfield 42, 3) := by decide +kernel
theorem d_Siv_sift_63 : decode prog_9_method_2_code 63 = .ok (.iload_n 3, 1) := by decide +kernel
theorem d_Siv_sift_64 : decode prog_9_method_2_code 64 = .ok (.iaload, 1) := by decide +kernel
theorem d_Siv_sift_65 : decode prog_9_method_2_code 65 = .ok (.iconst 2, 1) := by decide +kernel
theorem d_Siv_sift_66 : decode prog_9_method_2_code 66 = .ok (.if_icmp .ne 10, 3) := by decide +kernel
theorem d_Siv_sift_69 : decode prog_9_method_2_code 69 = .ok (.aload_n 0, 1) := by decide +kernel
theorem d_Siv_sift_70 : decode prog_9_method_2_code 70 = .ok (.invokevirtual 45, 3) := by decide +kernel
theorem d_Siv_sift_73 : decode prog_9_method_2_code 73 = .ok (.goto 37, 3) := by decide +kernel
theorem d_Siv_sift_76 : decode prog_9_method_2_code 76 = .ok (.aload_n 2, 1) := by decide +kernel
theorem d_Siv_sift_77 : decode prog_9_method_2_code 77 = .ok (.getfield 42, 3) := by decide +kernel
theorem d_Siv_sift_80 : decode prog_9_method_2_code 80 = .ok (.iload_n 3, 1) := by decide +kernel
theorem d_Siv_sift_81 : decode prog_9_method_2_code 81 = .ok (.iaload, 1) := by decide +kernel
theorem d_Siv_sift_82 : decode prog_9_method_2_code 82 = .ok (.ifCond .ne 24, 3) := by decide +kernel
theorem d_Siv_sift_85 : decode prog_9_method_2_code 85 = .ok (.aload_n 0, 1) := by decide +kernel
theorem d_Siv_sift_86 : decode prog_9_method_2_code 86 = .ok (.iconst 1, 1) := by decide +kernel
theorem d_Siv_sift_87 : decode prog_9_method_2_code 87 = .ok (.putfield 48, 3) := by decide +kernel
theorem d_Siv_sift_90 : decode prog_9_method_2_code 90 = .ok (.aload_n 0, 1) := by decide +kernel
theorem d_Siv_sift_91 : decode prog_9_method_2_code 91 = .ok (.iconst 0, 1) := by decide +kernel
theorem d_Siv_sift_92 : decode prog_9_method_2_code 92 = .ok (.aload_n 2, 1) := by decide +kernel
theorem d_Siv_sift_93 : decode prog_9_method_2_code 93 = .ok (.getfield 52, 3) := by decide +kernel
theorem d_Siv_sift_96 : decode prog_9_method_2_code 96 = .ok (.iload_n 3, 1) := by decide +kernel
theorem d_Siv_sift_97 : decode prog_9_method_2_code 97 = .ok (.iaload, 1) := by decide +kernel
theorem d_Siv_sift_98 : decode prog_9_method_2_code 98 = .ok (.iconst 0, 1) := by decide +kernel
theorem d_Siv_sift_99 : decode prog_9_method_2_code 99 = .ok (.invokestatic 55, 3) := by decide +kernel
theorem d_Siv_sift_102 : decode prog_9_method_2_code 102 = .ok (.pop, 1) := by decide +kernel
theorem d_Siv_sift_103 : decode prog_9_method_2_code 103 = .ok (.goto 7, 3) := by decide +kernel
theorem d_Siv_sift_106 : decode prog_9_method_2_code 106 = .ok (.aload_n 0, 1) := by decide +kernel
theorem d_Siv_sift_107 : decode prog_9_method_2_code 107 = .ok (.invokevirtual 59, 3) := by decide +kernel
theorem d_Siv_sift_110 : decode prog_9_method_2_code 110 = .ok (.iconst 0, 1) := by decide +kernel
theorem d_Siv_sift_111 : decode prog_9_method_2_code 111 = .ok (.istore 4, 2) := by decide +kernel
theorem d_Siv_sift_113 : decode prog_9_method_2_code 113 = .ok (.iconst 0, 1) := by decide +kernel
theorem d_Siv_sift_114 : decode prog_9_method_2_code 114 = .ok (.istore 5, 2) := by decide +kernel
theorem d_Siv_sift_116 : decode prog_9_method_2_code 116 = .ok (.iload 5, 2) := by decide +kernel
theorem d_Siv_sift_118 : decode prog_9_method_2_code 118 = .ok (.aload_n 0, 1) := by decide +kernel
theorem d_Siv_sift_119 : decode prog_9_method_2_code 119 = .ok (.getfield 29, 3) := by decide +kernel
theorem d_Siv_sift_122 : decode prog_9_method_2_code 122 = .ok (.if_icmp .ge 44, 3) := by decide +kernel
theorem d_Siv_sift_125 : decode prog_9_method_2_code 125 = .ok (.iload 4, 2) := by decide +kernel
theorem d_Siv_sift_127 : decode prog_9_method_2_code 127 = .ok (.aload_n 1, 1) := by decide +kernel
theorem d_Siv_sift_128 : decode prog_9_method_2_code 128 = .ok (.aload_n 0, 1) := by decide +kernel
theorem d_Siv_sift_129 : decode prog_9_method_2_code 129 = .ok (.getfield 11, 3) := by decide +kernel
theorem d_Siv_sift_132 : decode prog_9_method_2_code 132 = .ok (.iload 5, 2) := by decide +kernel
theorem d_Siv_sift_134 : decode prog_9_method_2_code 134 = .ok (.iaload, 1) := by decide +kernel
theorem d_Siv_sift_135 : decode prog_9_method_2_code 135 = .ok (.aload_n 0, 1) := by decide +kernel
theorem d_Siv_sift_136 : decode prog_9_method_2_code 136 = .ok (.getfield 15, 3) := by decide +kernel
theorem d_Siv_sift_139 : decode prog_9_method_2_code 139 = .ok (.iload 5, 2) := by decide +kernel
theorem d_Siv_sift_141 : decode prog_9_method_2_code 141 = .ok (.iaload, 1) := by decide +kernel
theorem d_Siv_sift_142 : decode prog_9_method_2_code 142 = .ok (.iconst (-1), 1) := by decide +kernel
theorem d_Siv_sift_143 : decode prog_9_method_2_code 143 = .ok (.ixor, 1) := by decide +kernel
theorem d_Siv_sift_144 : decode prog_9_method_2_code 144 = .ok (.iand, 1) := by decide +kernel
theorem d_Siv_sift_145 : decode prog_9_method_2_code 145 = .ok (.lconst 1, 1) := by decide +kernel
theorem d_Siv_sift_146 : decode prog_9_method_2_code 146 = .ok (.aload_n 2, 1) := by decide +kernel
theorem d_Siv_sift_147 : decode prog_9_method_2_code 147 = .ok (.iload_n 3, 1) := by decide +kernel
theorem d_Siv_sift_148 : decode prog_9_method_2_code 148 = .ok (.iload 5, 2) := by decide +kernel
theorem d_Siv_sift_150 : decode prog_9_method_2_code 150 = .ok (.invokevirtual 33, 3) := by decide +kernel
theorem d_Siv_sift_153 : decode prog_9_method_2_code 153 = .ok (.lshl, 1) := by decide +kernel
theorem d_Siv_sift_154 : decode prog_9_method_2_code 154 = .ok (.invokevirtual 62, 3) := by decide +kernel
theorem d_Siv_sift_157 : decode prog_9_method_2_code 157 = .ok (.iadd, 1) := by decide +kernel
theorem d_Siv_sift_158 : decode prog_9_method_2_code 158 = .ok (.istore 4, 2) := by decide +kernel
theorem d_Siv_sift_160 : decode prog_9_method_2_code 160 = .ok (.iinc 5 1, 3) := by decide +kernel
theorem d_Siv_sift_163 : decode prog_9_method_2_code 163 = .ok (.goto (-47), 3) := by decide +kernel
theorem d_Siv_sift_166 : decode prog_9_method_2_code 166 = .ok (.iload 4, 2) := by decide +kernel
theorem d_Siv_sift_168 : decode prog_9_method_2_code 168 = .ok (.ireturn, 1) := by decide +kernel
def b_Siv_sift_116 (F : Nat) (k116 : Nat → Nat → Nat → Int32 → Int32 → Int32 → PH → Option (Int32 × PH)) (a0 : Nat) (a1 : Nat) (a2 : Nat) (i3 : Int32) (i4 : Int32) (i5 : Int32) (h : PH) : Option (Int32 × PH) :=
  bnd (gI h a0 6 2) fun x1 => (if x1 ≤ i5 then some (i4, h) else bnd (gR h a0 6 0) fun x2 => bnd (aI h x2 i5) fun x3 => bnd (gR h a0 6 1) fun x4 => bnd (aI h x4 i5) fun x5 => bnd (cK h a2 4) fun _ => bnd (f_Rul_cellAt a2 i3 i5 h) fun x7 => bnd (cK h a1 1) fun _ => bnd2 (f_Pos_removeDigits F a1 (x3 &&& (x5 ^^^ (-1 : Int32))) ((1 : Int64) <<< ((x7).toInt64 &&& 63)) h) fun x9 h10 => k116 a0 a1 a2 i3 (i4 + x9) (i5 + (1 : Int32)) h10)
def f_Siv_sift_116 (F : Nat) : Nat → Nat → Nat → Nat → Int32 → Int32 → Int32 → PH → Option (Int32 × PH)
  | 0 => fun _ _ _ _ _ _ _ => none
  | n + 1 => b_Siv_sift_116 F (f_Siv_sift_116 F n)
theorem g_Siv_sift_116 {l : Launch} {E : ET} {d : Nat} (hd : 63 ≤ d) {F : Nat} {r : Int32} {h9 : PH} {x : Nat} {k116 : Nat → Nat → Nat → Int32 → Int32 → Int32 → PH → Option (Int32 × PH)} (hk116 : ∀ (a0 : Nat) (a1 : Nat) (a2 : Nat) (i3 : Int32) (i4 : Int32) (i5 : Int32) (hh : PH), k116 a0 a1 a2 i3 i4 i5 hh = some (r, h9) → Go l E m_Siv_sift (rm d 0 0) (KM E 0 0 (PoE (some (.int r)) h9 x)) 0 0 hh x 116 [(0, .ref a0), (1, .ref a1), (2, .ref a2), (3, .int i3), (4, .int i4), (5, .int i5)] []) (a0 : Nat) (a1 : Nat) (a2 : Nat) (i3 : Int32) (i4 : Int32) (i5 : Int32) (h : PH) (hf : b_Siv_sift_116 F k116 a0 a1 a2 i3 i4 i5 h = some (r, h9)) : Go l E m_Siv_sift (rm d 0 0) (KM E 0 0 (PoE (some (.int r)) h9 x)) 0 0 h x 116 [(0, .ref a0), (1, .ref a1), (2, .ref a2), (3, .int i3), (4, .int i4), (5, .int i5)] [] := by
  unfold b_Siv_sift_116 at hf
  refine go_iload 5 d_Siv_sift_116 rfl ?_
  refine go_aload_n 0 d_Siv_sift_118 rfl ?_
  obtain ⟨x1, e_x1, hf⟩ := bnd_x hf
  refine go_get d_Siv_sift_119 (gI_x e_x1) fl_Siv_29 ?_
  refine go_icmp_ge 166 d_Siv_sift_122 (by decide) (fun q11 => ?_) (fun q11 => ?_)
  · rw [if_pos q11] at hf
    refine go_iload 4 d_Siv_sift_166 rfl ?_
    obtain ⟨e8, e9⟩ := Prod.mk.inj (Option.some.inj hf)
    subst e8; subst e9
    exact go_iret d_Siv_sift_168 rfl ⟨rfl, rfl, rfl⟩
  · rw [if_neg q11] at hf
    refine go_iload 4 d_Siv_sift_125 rfl ?_
    refine go_aload_n 1 d_Siv_sift_127 rfl ?_
    refine go_aload_n 0 d_Siv_sift_128 rfl ?_
    obtain ⟨x2, e_x2, hf⟩ := bnd_x hf
    refine go_get d_Siv_sift_129 (gR_x e_x2) fl_Siv_11 ?_
    refine go_iload 5 d_Siv_sift_132 rfl ?_
    obtain ⟨x3, e_x3, hf⟩ := bnd_x hf
    refine go_iaload d_Siv_sift_134 e_x3 ?_
    refine go_aload_n 0 d_Siv_sift_135 rfl ?_
    obtain ⟨x4, e_x4, hf⟩ := bnd_x hf
    refine go_get d_Siv_sift_136 (gR_x e_x4) fl_Siv_15 ?_
    refine go_iload 5 d_Siv_sift_139 rfl ?_
    obtain ⟨x5, e_x5, hf⟩ := bnd_x hf
    refine go_iaload d_Siv_sift_141 e_x5 ?_
    refine go_iconst (-1 : Int32) d_Siv_sift_142 (by decide) ?_
    refine go_ixor d_Siv_sift_143 ?_
    refine go_iand d_Siv_sift_144 ?_
    refine go_lconst (1 : Int64) d_Siv_sift_145 (by decide) ?_
    refine go_aload_n 2 d_Siv_sift_146 rfl ?_
    refine go_iload_n 3 d_Siv_sift_147 rfl ?_
    refine go_iload 5 d_Siv_sift_148 rfl ?_
    obtain ⟨_, e6, hf⟩ := bnd_x hf
    obtain ⟨x7, e_x7, hf⟩ := bnd_x hf
    refine go_callV_I (As := [.int i3, .int i5]) (st := [.long (1 : Int64), .int (x3 &&& (x5 ^^^ (-1 : Int32))), .ref a1, .int i4]) (c_Rul_cellAt (d := d - 1) (by omega) e_x7) lk_Siv_33 rfl rfl e6 (by decide) rfl (rm_ok (by omega)) (Nat.le_of_ble_eq_true rfl) rm_c d_Siv_sift_150 ?_
    refine go_lshl d_Siv_sift_153 ?_
    obtain ⟨_, e8, hf⟩ := bnd_x hf
    obtain ⟨x9, h10, e_x9, hf⟩ := bnd2_x hf
    refine go_callV_I (As := [.int (x3 &&& (x5 ^^^ (-1 : Int32))), .long ((1 : Int64) <<< ((x7).toInt64 &&& 63))]) (st := [.int i4]) (c_Pos_removeDigits (d := d - 1) (by omega) e_x9) lk_Siv_62 rfl rfl e8 (by decide) rfl (rm_ok (by omega)) (Nat.le_of_ble_eq_true rfl) rm_c d_Siv_sift_154 ?_
    refine go_iadd d_Siv_sift_157 ?_
    refine go_istore (lv' := [(4, .int (i4 + x9)), (0, .ref a0), (1, .ref a1), (2, .ref a2), (3, .int i3), (5, .int i5)]) d_Siv_sift_158 rfl (by decide) ?_
    refine go_iinc (lv' := [(5, .int (i5 + (1 : Int32))), (4, .int (i4 + x9)), (0, .ref a0), (1, .ref a1), (2, .ref a2), (3, .int i3)]) 5 (i5 + (1 : Int32)) d_Siv_sift_160 rfl rfl rfl (by decide) ?_
    refine go_goto 116 d_Siv_sift_163 (by decide) ?_
    refine go_sub (lv' := [(0, .ref a0), (1, .ref a1), (2, .ref a2), (3, .int i3), (4, .int (i4 + x9)), (5, .int (i5 + (1 : Int32)))]) [2, 3, 4, 5, 1, 0] rfl ?_
    exact hk116 a0 a1 a2 i3 (i4 + x9) (i5 + (1 : Int32)) h10 hf
theorem t_Siv_sift_116 {l : Launch} {E : ET} {d : Nat} (hd : 63 ≤ d) {F : Nat} {r : Int32} {h9 : PH} {x : Nat}  : ∀ (n : Nat) (a0 : Nat) (a1 : Nat) (a2 : Nat) (i3 : Int32) (i4 : Int32) (i5 : Int32) (hh : PH), f_Siv_sift_116 F n a0 a1 a2 i3 i4 i5 hh = some (r, h9) → Go l E m_Siv_sift (rm d 0 0) (KM E 0 0 (PoE (some (.int r)) h9 x)) 0 0 hh x 116 [(0, .ref a0), (1, .ref a1), (2, .ref a2), (3, .int i3), (4, .int i4), (5, .int i5)] [] := by
  intro n
  induction n with
  | zero => intro v0 v1 v2 v3 v4 v5 v6 hf; cases hf
  | succ n ih => intro v0 v1 v2 v3 v4 v5 v6 hf; exact g_Siv_sift_116 hd ih v0 v1 v2 v3 v4 v5 v6 hf
def b_Siv_sift_110 (F : Nat) (a0 : Nat) (a1 : Nat) (a2 : Nat) (i3 : Int32) (h : PH) : Option (Int32 × PH) :=
  f_Siv_sift_116 F F a0 a1 a2 i3 (0 : Int32) (0 : Int32) h
theorem g_Siv_sift_110 {l : Launch} {E : ET} {d : Nat} (hd : 63 ≤ d) {F : Nat} {r : Int32} {h9 : PH} {x : Nat}  (a0 : Nat) (a1 : Nat) (a2 : Nat) (i3 : Int32) (h : PH) (hf : b_Siv_sift_110 F a0 a1 a2 i3 h = some (r, h9)) : Go l E m_Siv_sift (rm d 0 0) (KM E 0 0 (PoE (some (.int r)) h9 x)) 0 0 h x 110 [(0, .ref a0), (1, .ref a1), (2, .ref a2), (3, .int i3)] [] := by
  unfold b_Siv_sift_110 at hf
  refine go_iconst (0 : Int32) d_Siv_sift_110 (by decide) ?_
  refine go_istore (lv' := [(4, .int (0 : Int32)), (0, .ref a0), (1, .ref a1), (2, .ref a2), (3, .int i3)]) d_Siv_sift_111 rfl (by decide) ?_
  refine go_iconst (0 : Int32) d_Siv_sift_113 (by decide) ?_
  refine go_istore (lv' := [(5, .int (0 : Int32)), (4, .int (0 : Int32)), (0, .ref a0), (1, .ref a1), (2, .ref a2), (3, .int i3)]) d_Siv_sift_114 rfl (by decide) ?_
  refine go_sub (lv' := [(0, .ref a0), (1, .ref a1), (2, .ref a2), (3, .int i3), (4, .int (0 : Int32)), (5, .int (0 : Int32))]) [2, 3, 4, 5, 1, 0] rfl ?_
  exact t_Siv_sift_116 hd  _ a0 a1 a2 i3 (0 : Int32) (0 : Int32) h hf
def b_Siv_sift_18 (F : Nat) (k18 : Nat → Nat → Nat → Int32 → Int32 → PH → Option (Int32 × PH)) (a0 : Nat) (a1 : Nat) (a2 : Nat) (i3 : Int32) (i4 : Int32) (h : PH) : Option (Int32 × PH) :=
  bnd (gI h a0 6 2) fun x1 => (if x1 ≤ i4 then bnd (gR h a2 4 0) fun x2 => bnd (aI h x2 i3) fun x3 => (if x3 = (2 : Int32) then bnd (cK h a0 6) fun _ => bnd (f_Siv_ascend F a0 h) fun h15 => b_Siv_sift_110 F a0 a1 a2 i3 h15 else bnd (gR h a2 4 0) fun x4 => bnd (aI h x4 i3) fun x5 => (if x5 = (0 : Int32) then bnd (pV h a0 6 3 (.int (1 : Int32))) fun h8 => bnd (gR h8 a2 4 1) fun x9 => bnd (aI h8 x9 i3) fun x10 => bnd2 (f_Siv_fits F RD a0 (0 : Int32) x10 (0 : Int32) h8) fun x11 h12 => b_Siv_sift_110 F a0 a1 a2 i3 h12 else bnd (cK h a0 6) fun _ => bnd (f_Siv_addUp F a0 h) fun h7 => b_Siv_sift_110 F a0 a1 a2 i3 h7)) else bnd (gR h a0 6 0) fun x17 => bnd (cK h a2 4) fun _ => bnd (f_Rul_cellAt a2 i3 i4 h) fun x19 => bnd (cK h a1 1) fun _ => bnd (f_Pos_digitsOf F a1 x19 h) fun x21 => bnd (sI h x17 i4 x21) fun h22 => bnd (gR h22 a0 6 1) fun x23 => bnd (sI h22 x23 i4 (0 : Int32)) fun h24 => k18 a0 a1 a2 i3 (i4 + (1 : Int32)) h24)
def f_Siv_sift_18 (F : Nat) : Nat → Nat → Nat → Nat → Int32 → Int32 → PH → Option (Int32 × PH)
  | 0 => fun _ _ _ _ _ _ => none
  | n + 1 => b_Siv_sift_18 F (f_Siv_sift_18 F n)
theorem g_Siv_sift_18 {l : Launch} {E : ET} {d : Nat} (hd : 63 ≤ d) {F : Nat} {r : Int32} {h9 : PH} {x : Nat} {k18 : Nat → Nat → Nat → Int32 → Int32 → PH → Option (Int32 × PH)} (hk18 : ∀ (a0 : Nat) (a1 : Nat) (a2 : Nat) (i3 : Int32) (i4 : Int32) (hh : PH), k18 a0 a1 a2 i3 i4 hh = some (r, h9) → Go l E m_Siv_sift (rm d 0 0) (KM E 0 0 (PoE (some (.int r)) h9 x)) 0 0 hh x 18 [(0, .ref a0), (1, .ref a1), (2, .ref a2), (3, .int i3), (4, .int i4)] []) (a0 : Nat) (a1 : Nat) (a2 : Nat) (i3 : Int32) (i4 : Int32) (h : PH) (hf : b_Siv_sift_18 F k18 a0 a1 a2 i3 i4 h = some (r, h9)) : Go l E m_Siv_sift (rm d 0 0) (KM E 0 0 (PoE (some (.int r)) h9 x)) 0 0 h x 18 [(0, .ref a0), (1, .ref a1), (2, .ref a2), (3, .int i3), (4, .int i4)] [] := by
  unfold b_Siv_sift_18 at hf
  refine go_iload 4 d_Siv_sift_18 rfl ?_
  refine go_aload_n 0 d_Siv_sift_20 rfl ?_
  obtain ⟨x1, e_x1, hf⟩ := bnd_x hf
  refine go_get d_Siv_sift_21 (gI_x e_x1) fl_Siv_29 ?_
  refine go_icmp_ge 59 d_Siv_sift_24 (by decide) (fun q25 => ?_) (fun q25 => ?_)
  · rw [if_pos q25] at hf
    refine go_aload_n 2 d_Siv_sift_59 rfl ?_
    obtain ⟨x2, e_x2, hf⟩ := bnd_x hf
    refine go_get d_Siv_sift_60 (gR_x e_x2) fl_Siv_42 ?_
    refine go_iload_n 3 d_Siv_sift_63 rfl ?_
    obtain ⟨x3, e_x3, hf⟩ := bnd_x hf
    refine go_iaload d_Siv_sift_64 e_x3 ?_
    refine go_iconst (2 : Int32) d_Siv_sift_65 (by decide) ?_
    refine go_icmp_ne 76 d_Siv_sift_66 (by decide) (fun q16 => ?_) (fun q16 => ?_)
    · rw [if_neg q16] at hf
      refine go_aload_n 2 d_Siv_sift_76 rfl ?_
      obtain ⟨x4, e_x4, hf⟩ := bnd_x hf
      refine go_get d_Siv_sift_77 (gR_x e_x4) fl_Siv_42 ?_
      refine go_iload_n 3 d_Siv_sift_80 rfl ?_
      obtain ⟨x5, e_x5, hf⟩ := bnd_x hf
      refine go_iaload d_Siv_sift_81 e_x5 ?_
      refine go_if_ne 106 d_Siv_sift_82 (by decide) (fun q13 => ?_) (fun q13 => ?_)
      · rw [if_neg q13] at hf
        refine go_aload_n 0 d_Siv_sift_106 rfl ?_
        obtain ⟨_, e6, hf⟩ := bnd_x hf
        obtain ⟨h7, e_x7, hf⟩ := bnd_x hf
        refine go_callV_N (As := []) (st := []) (c_Siv_addUp (d := d - 1) (by omega) e_x7) lk_Siv_59 rfl rfl e6 (by decide) rfl (rm_ok (by omega)) (Nat.le_of_ble_eq_true rfl) rm_c d_Siv_sift_107 ?_
        refine go_sub (lv' := [(0, .ref a0), (1, .ref a1), (2, .ref a2), (3, .int i3)]) [0, 1, 2, 3] rfl ?_
        exact g_Siv_sift_110 hd  a0 a1 a2 i3 h7 hf
      · rw [if_pos q13] at hf
        refine go_aload_n 0 d_Siv_sift_85 rfl ?_
        refine go_iconst (1 : Int32) d_Siv_sift_86 (by decide) ?_
        obtain ⟨h8, e_h8, hf⟩ := bnd_x hf
        refine go_putZ d_Siv_sift_87 rfl e_h8 fl_Siv_48 rfl rfl ?_
        refine go_aload_n 0 d_Siv_sift_90 rfl ?_
        refine go_iconst (0 : Int32) d_Siv_sift_91 (by decide) ?_
        refine go_aload_n 2 d_Siv_sift_92 rfl ?_
        obtain ⟨x9, e_x9, hf⟩ := bnd_x hf
        refine go_get d_Siv_sift_93 (gR_x e_x9) fl_Siv_52 ?_
        refine go_iload_n 3 d_Siv_sift_96 rfl ?_
        obtain ⟨x10, e_x10, hf⟩ := bnd_x hf
        refine go_iaload d_Siv_sift_97 e_x10 ?_
        refine go_iconst (0 : Int32) d_Siv_sift_98 (by decide) ?_
        obtain ⟨x11, h12, e_x11, hf⟩ := bnd2_x hf
        refine go_callS_I (As := [.ref a0, .int (0 : Int32), .int x10, .int (0 : Int32)]) (st := []) (c_Siv_fits (d := d - 1) (by omega) e_x11) lk_Siv_55 rfl rfl (rm_ok (by omega)) (Nat.le_of_ble_eq_true rfl) rm_c d_Siv_sift_99 ?_
        refine go_pop d_Siv_sift_102 rfl ?_
        refine go_goto 110 d_Siv_sift_103 (by decide) ?_
        refine go_sub (lv' := [(0, .ref a0), (1, .ref a1), (2, .ref a2), (3, .int i3)]) [0, 1, 2, 3] rfl ?_
        exact g_Siv_sift_110 hd  a0 a1 a2 i3 h12 hf
    · rw [if_pos q16] at hf
      refine go_aload_n 0 d_Siv_sift_69 rfl ?_
      obtain ⟨_, e14, hf⟩ := bnd_x hf
      obtain ⟨h15, e_x15, hf⟩ := bnd_x hf
      refine go_callV_N (As := []) (st := []) (c_Siv_ascend (d := d - 1) (by omega) e_x15) lk_Siv_45 rfl rfl e14 (by decide) rfl (rm_ok (by omega)) (Nat.le_of_ble_eq_true rfl) rm_c d_Siv_sift_70 ?_
      refine go_goto 110 d_Siv_sift_73 (by decide) ?_
      refine go_sub (lv' := [(0, .ref a0), (1, .ref a1), (2, .ref a2), (3, .int i3)]) [0, 1, 2, 3] rfl ?_
      exact g_Siv_sift_110 hd  a0 a1 a2 i3 h15 hf
  · rw [if_neg q25] at hf
    refine go_aload_n 0 d_Siv_sift_27 rfl ?_
    obtain ⟨x17, e_x17, hf⟩ := bnd_x hf
    refine go_get d_Siv_sift_28 (gR_x e_x17) fl_Siv_11 ?_
    refine go_iload 4 d_Siv_sift_31 rfl ?_
    refine go_aload_n 1 d_Siv_sift_33 rfl ?_
    refine go_aload_n 2 d_Siv_sift_34 rfl ?_
    refine go_iload_n 3 d_Siv_sift_35 rfl ?_
    refine go_iload 4 d_Siv_sift_36 rfl ?_
    obtain ⟨_, e18, hf⟩ := bnd_x hf
    obtain ⟨x19, e_x19, hf⟩ := bnd_x hf
    refine go_callV_I (As := [.int i3, .int i4]) (st := [.ref a1, .int i4, .ref x17]) (c_Rul_cellAt (d := d - 1) (by omega) e_x19) lk_Siv_33 rfl rfl e18 (by decide) rfl (rm_ok (by omega)) (Nat.le_of_ble_eq_true rfl) rm_c d_Siv_sift_38 ?_
    obtain ⟨_, e20, hf⟩ := bnd_x hf
    obtain ⟨x21, e_x21, hf⟩ := bnd_x hf
    refine go_callV_I (As := [.int x19]) (st := [.int i4, .ref x17]) (c_Pos_digitsOf (d := d - 1) (by omega) e_x21) lk_Siv_36 rfl rfl e20 (by decide) rfl (rm_ok (by omega)) (Nat.le_of_ble_eq_true rfl) rm_c d_Siv_sift_41 ?_
    obtain ⟨h22, e_h22, hf⟩ := bnd_x hf
    refine go_iastore d_Siv_sift_44 e_h22 ?_
    refine go_aload_n 0 d_Siv_sift_45 rfl ?_
    obtain ⟨x23, e_x23, hf⟩ := bnd_x hf
    refine go_get d_Siv_sift_46 (gR_x e_x23) fl_Siv_15 ?_
    refine go_iload 4 d_Siv_sift_49 rfl ?_
    refine go_iconst (0 : Int32) d_Siv_sift_51 (by decide) ?_
    obtain ⟨h24, e_h24, hf⟩ := bnd_x hf
    refine go_iastore d_Siv_sift_52 e_h24 ?_
    refine go_iinc (lv' := [(4, .int (i4 + (1 : Int32))), (0, .ref a0), (1, .ref a1), (2, .ref a2), (3, .int i3)]) 4 (i4 + (1 : Int32)) d_Siv_sift_53 rfl rfl rfl (by decide) ?_
    refine go_goto 18 d_Siv_sift_56 (by decide) ?_
    refine go_sub (lv' := [(0, .ref a0), (1, .ref a1), (2, .ref a2), (3, .int i3), (4, .int (i4 + (1 : Int32)))]) [1, 2, 3, 4, 0] rfl ?_
    exact hk18 a0 a1 a2 i3 (i4 + (1 : Int32)) h24 hf
theorem t_Siv_sift_18 {l : Launch} {E : ET} {d : Nat} (hd : 63 ≤ d) {F : Nat} {r : Int32} {h9 : PH} {x : Nat}  : ∀ (n : Nat) (a0 : Nat) (a1 : Nat) (a2 : Nat) (i3 : Int32) (i4 : Int32) (hh : PH), f_Siv_sift_18 F n a0 a1 a2 i3 i4 hh = some (r, h9) → Go l E m_Siv_sift (rm d 0 0) (KM E 0 0 (PoE (some (.int r)) h9 x)) 0 0 hh x 18 [(0, .ref a0), (1, .ref a1), (2, .ref a2), (3, .int i3), (4, .int i4)] [] := by
  intro n
  induction n with
  | zero => intro v0 v1 v2 v3 v4 v5 hf; cases hf
  | succ n ih => intro v0 v1 v2 v3 v4 v5 hf; exact g_Siv_sift_18 hd ih v0 v1 v2 v3 v4 v5 hf
def f_Siv_sift (F : Nat) (a0 : Nat) (a1 : Nat) (a2 : Nat) (i3 : Int32) (h : PH) : Option (Int32 × PH) :=
  bnd (gR h a2 4 2) fun x1 => bnd (aI h x1 i3) fun x2 => bnd (some (if (6 : Int32) < x2 then (6 : Int32) else x2)) fun y3 => bnd (pV h a0 6 2 (.int y3)) fun h4 => f_Siv_sift_18 F F a0 a1 a2 i3 (0 : Int32) h4
theorem g_Siv_sift_0 {l : Launch} {E : ET} {d : Nat} (hd : 63 ≤ d) {F : Nat} {r : Int32} {h9 : PH} {x : Nat}  (a0 : Nat) (a1 : Nat) (a2 : Nat) (i3 : Int32) (h : PH) (hf : f_Siv_sift F a0 a1 a2 i3 h = some (r, h9)) : Go l E m_Siv_sift (rm d 0 0) (KM E 0 0 (PoE (some (.int r)) h9 x)) 0 0 h x 0 [(0, .ref a0), (1, .ref a1), (2, .ref a2), (3, .int i3)] [] := by
  unfold f_Siv_sift at hf
  refine go_aload_n 0 d_Siv_sift_0 rfl ?_
  refine go_aload_n 2 d_Siv_sift_1 rfl ?_
  obtain ⟨x1, e_x1, hf⟩ := bnd_x hf
  refine go_get d_Siv_sift_2 (gR_x e_x1) fl_Siv_18 ?_
  refine go_iload_n 3 d_Siv_sift_5 rfl ?_
  obtain ⟨x2, e_x2, hf⟩ := bnd_x hf
  refine go_iaload d_Siv_sift_6 e_x2 ?_
  refine go_bipush (6 : Int32) d_Siv_sift_7 (by decide) ?_
  obtain ⟨y3, e_y3, hf⟩ := bnd_x hf
  refine go_min d_Siv_sift_9 ml_Siv_23 (rm_n (by omega)) (Nat.le_of_ble_eq_true rfl) ?_
  refine go_nmI e_y3 ?_
  obtain ⟨h4, e_h4, hf⟩ := bnd_x hf
  refine go_putI d_Siv_sift_12 e_h4 fl_Siv_29 rfl rfl ?_
  refine go_iconst (0 : Int32) d_Siv_sift_15 (by decide) ?_
  refine go_istore (lv' := [(4, .int (0 : Int32)), (0, .ref a0), (1, .ref a1), (2, .ref a2), (3, .int i3)]) d_Siv_sift_16 rfl (by decide) ?_
  refine go_sub (lv' := [(0, .ref a0), (1, .ref a1), (2, .ref a2), (3, .int i3), (4, .int (0 : Int32))]) [1, 2, 3, 4, 0] rfl ?_
  exact t_Siv_sift_18 hd  _ a0 a1 a2 i3 (0 : Int32) h4 hf
theorem c_Siv_sift {l : Launch} {E : ET} {d : Nat} (hd : 63 ≤ d) {F : Nat} {r : Int32} {h9 : PH} {x : Nat} {a0 : Nat} {a1 : Nat} {a2 : Nat} {i3 : Int32} {h : PH} (hf : f_Siv_sift F a0 a1 a2 i3 h = some (r, h9)) : Fn l E m_Siv_sift d 0 0 [.ref a0, .ref a1, .ref a2, .int i3] h x (PoE (some (.int r)) h9 x) :=
  Fn.of (by decide +kernel) (Nat.le_of_ble_eq_true rfl) (g_Siv_sift_0 hd a0 a1 a2 i3 h hf)
