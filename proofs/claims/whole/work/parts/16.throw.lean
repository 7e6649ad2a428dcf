/-! Throwing: what a throw needs of the tables; contracts of methods that throw. -/
def w_decl (w : Cond) : Bool := match w with
  | .declares _ => true
  | .castable .. => true
  | _ => false
def w_D : List Cond := tables_1.filter w_decl
def nmL : List String := ["java/lang/RuntimeException", "java/lang/Exception"]
def xN (k : Nat) : String := if k = 0 then "java/lang/IndexOutOfBoundsException" else if k = 1 then "java/lang/IllegalArgumentException" else "java/lang/IllegalStateException"
def strL : List (String × Nat × String) := [("NumberPlace", 329, "what is out of range"), ("NumberPlace", 323, "no such cell"), ("NumberPlace", 325, "digit is out of range"), ("NumberPlace", 124, "kind or sum is out of range"), ("NumberPlace", 141, "there are 8 constraints"), ("NumberPlace", 327, "no such constraint"), ("NumberPlace", 162, "the constraint can't take the cell"), ("NumberPlace", 181, "seed or givens is out of range"), ("NumberPlace", 210, "no such place"), ("NumberPlace", 233, "steps is out of range"), ("NumberPlace", 256, "no such deduction"), ("NumberPlace", 261, "kind is out of range"), ("NumberPlace", 263, "most is out of range"), ("NumberPlace", 278, "value is out of range"), ("NumberPlace", 283, "the text has 150 bytes"), ("NumberPlace", 297, "there is no saved state")]
def ncL : List (String × String) := [(xN 1, xN 0), (xN 2, xN 0), (xN 2, xN 1)]
/-- what of the tables is no good word, but stays -/
def XF (U : State) : Prop := (∀ q ∈ strL, ∃ sa, vk_R q.1 q.2.1 q.2.2 sa U) ∧ (va_AO "NumberPlace$State" U ∧ va_AO "NumberPlace$Position" U) ∧ (∀ q ∈ ncL, va_Nc q.1 q.2 U) ∧ ∀ w ∈ w_D, va_Nw w U
theorem w_D_warm {s U : State} (hW : s.WarmedH U.vm) : ∀ w ∈ w_D, va_Nw w s → va_Nw w U := by
  intro w hw h
  have h1 := (List.mem_filter.mp hw).2
  cases w <;> first | exact va_Nw.warmD hW h | exact va_Nw.warmC hW h | (simp [w_decl] at h1)
theorem w_D_same {s U : State} (e : s.vm = U.vm) : ∀ w ∈ w_D, va_Nw w s → va_Nw w U := by
  intro w hw h
  have h1 := (List.mem_filter.mp hw).2
  cases w <;> first | exact va_Nw.same rfl e h | (simp [w_decl] at h1)
theorem XF.warm {s U : State} (hW : s.WarmedH U.vm) (h : XF s) : XF U :=
  ⟨fun q hq => by obtain ⟨sa, h9⟩ := h.1 q hq; exact ⟨sa, vk_R.warm hW h9⟩, ⟨va_AO.moved hW.alike h.2.1.1, va_AO.moved hW.alike h.2.1.2⟩, fun q hq => va_Nc.moved hW.alike (h.2.2.1 q hq), fun w hw => w_D_warm hW w hw (h.2.2.2 w hw)⟩
theorem XF.same {s U : State} (e : U.vm = s.vm) (h : XF s) : XF U :=
  ⟨fun q hq => by obtain ⟨sa, h9⟩ := h.1 q hq; exact ⟨sa, vk_R.same e h9⟩, ⟨va_AO.moved (by rw [e]; exact Vm.Alike.refl _) h.2.1.1, va_AO.moved (by rw [e]; exact Vm.Alike.refl _) h.2.1.2⟩, fun q hq => va_Nc.moved (by rw [e]; exact Vm.Alike.refl _) (h.2.2.1 q hq), fun w hw => w_D_same e.symm w hw (h.2.2.2 w hw)⟩
def XCp (E : ET) (PX : String → PH → Prop) : String → State → State → Prop := fun Ex st t => (∃ (h' : PH) (x' : Nat), PX Ex h' ∧ Wd E h' t.heap ∧ t.heap.size = eB E + h'.1 + x') ∧ va_F (eA E) st t
def KX (l : Launch) (E : ET) (mc ms : Nat) (PX : String → PH → Prop) : KT := fun _ _ s _ args below _ c => fun t => ((∀ z ∈ c.exceptionTable.toList, False) ∧ XF s ∧ l.stackTraces = false) → vx_MQ below (fun _ _ _ _ => False) (XCp E PX) args s mc ms (eA E) t
/-- a method that throws at these arguments -/
def FnT (l : Launch) (E : ET) (M : MT) (d : Nat) (As : List Value) (h : PH) (x : Nat) (PX : String → PH → Prop) : Prop :=
  vx_Met l M.1 (wsM M) (rm d 1 6) (va_Pc (As.map (mv E)) (fun U => World E h x U ∧ XF U)) (fun _ _ _ _ => False) (XCp E PX) 1 6 (eA E)
def PXk (k : Nat) (h9 : PH) : String → PH → Prop := fun Ex h' => Ex = xN k ∧ h' = h9
def bndT {α β : Type} (o : Option ((Nat ⊕ α) × PH)) (k : α → PH → Option ((Nat ⊕ β) × PH)) : Option ((Nat ⊕ β) × PH) := match o with
  | none => none
  | some (.inl j, h) => some (.inl j, h)
  | some (.inr a, h) => k a h
theorem bndT_r {α β : Type} {o : Option ((Nat ⊕ α) × PH)} {k : α → PH → Option ((Nat ⊕ β) × PH)} {r : β} {h9 : PH} (e : bndT o k = some (.inr r, h9)) : ∃ a h1, o = some (.inr a, h1) ∧ k a h1 = some (.inr r, h9) := by
  match o, e with
  | some (.inr a, h1), e => exact ⟨a, h1, rfl, e⟩
  | some (.inl j, h1), e => cases e
theorem bndT_l {α β : Type} {o : Option ((Nat ⊕ α) × PH)} {k : α → PH → Option ((Nat ⊕ β) × PH)} {j : Nat} {h9 : PH} (e : bndT o k = some (.inl j, h9)) : o = some (.inl j, h9) ∨ ∃ a h1, o = some (.inr a, h1) ∧ k a h1 = some (.inl j, h9) := by
  match o, e with
  | some (.inr a, h1), e => exact Or.inr ⟨a, h1, rfl, e⟩
  | some (.inl j', h1), e => cases e; exact Or.inl rfl
theorem WorldX.blind {E : ET} {h : PH} {x : Nat} {av : List Value} : FrameBlind (va_Pc av (fun U => World E h x U ∧ XF U)) := fun a U g mk q => by
  obtain ⟨q0, q1, q2⟩ := q
  obtain ⟨_, q3⟩ := World.blind (av := av) a U g mk ⟨q0, q1⟩
  exact ⟨q0, q3, XF.same (s := U) (U := U.calling g mk a) rfl q2⟩
theorem rm_ok1 {d : Nat} (h : 1 ≤ d) : (d - 1) + 1 ≤ (rm d 1 6).frames ∧ 60 * (d - 1) + 60 ≤ (rm d 1 6).locals := ⟨by show d - 1 + 1 ≤ d; omega, by show 60 * (d - 1) + 60 ≤ 60 * d; omega⟩
theorem rm_c1 {d : Nat} : 0 + 0 ≤ (rm d 1 6).cells ∧ 0 + 0 ≤ (rm d 1 6).slots := ⟨Nat.zero_le _, Nat.zero_le _⟩
theorem rm_n1 {d : Nat} (h : 1 ≤ d) : 1 ≤ (rm d 1 6).frames ∧ 60 ≤ (rm d 1 6).locals := ⟨h, by show 60 ≤ 60 * d; omega⟩
def TwL (own : String) (ik ic : Nat) (cls : String) : Prop := (Bundle.fit cls = true ∧ ∀ n ∈ nmL, Bundle.fit n = true) ∧ Cond.classLink own ik cls ∈ w_S ∧ Cond.initialized cls ∈ w_S ∧ (∀ w ∈ vx_atS own ic cls nmL, w ∈ w_S ∨ w ∈ w_D) ∧ ∀ w ∈ Cond.classLink own ik cls :: Cond.initialized cls :: vx_atS own ic cls nmL, vx_ot w = true
section GOX
variable {l : Launch} {E : ET} {M Mc : MT} {R : Room} {K : KT} {kc ks : Nat} {h h1 : PH} {x : Nat} {pc : Nat} {lv lv' : List (Nat × Value)} {st st0 : List Value} {d d' n idx b : Nat} {As : List Value} {bn : Bool} {PX : String → PH → Prop}
theorem W_imp {p : Program} {e : Env} {s : State} {m : MethodId} {args : Array Value} {below : List Frame} {meth : Method} {c : Code} {H : Heap} {locs : List Loc} {P : Prop} {Q : State → Prop} {g : JFrame} (k : P → W p l e R s m args below meth c H locs kc ks Q g) : W p l e R s m args below meth c H locs kc ks (fun t => P → Q t) g := by
  intro T hT X
  by_cases q : P
  · obtain ⟨t, a1, b1⟩ := k q T hT X
    exact ⟨t, a1, fun _ => b1⟩
  · exact ⟨_, Steps.refl _, fun z => absurd z q⟩
theorem FnT.of (hl : l.stackTraces = false) (hcl : plainName M.1.cls = true) (hlen : (lg_sl As).length ≤ M.2.2.1) (hGo : Go l E M (rm d 1 6) (KX l E 1 6 PX) 0 0 h x 0 (lv_args 0 As) []) : FnT l E M d As h x PX := by
  refine vx_ofW (cc := M.2.1) (maxL := M.2.2.1) (ret := M.2.2.2) hcl rfl ?_
  intro p e s m args below meth c s₁ B hml htb hv
  obtain ⟨rfl, ⟨hW, hz, hF⟩, hX⟩ := hv
  have hts := atoms_spec (ws := wsM M) B.pre
  have hlo := lv_entry (As.map (mv E)) (n := M.2.2.1) (by rw [lg_len]; exact hlen)
  rw [lg_entry_eq]
  rw [lv_argm] at hlo
  have h9 := hGo p e s m _ below meth c ⟨B.exec, B.bytes, B.returns, hml, findClass_of_methodNamed B.named, fun w hw => hts w (List.mem_cons_of_mem _ hw), B.notSynchronized, hF, (name_of_methodNamed B.named B.method).1⟩ s.heap [] hW hz va_S.rf _ hlo
  intro T hT X
  obtain ⟨t, a1, b1⟩ := h9 T hT X
  exact ⟨t, a1, b1 ⟨htb, hX, hl⟩⟩
theorem Wd.grown {H H1 : Heap} (hW : Wd E h H) (hq : ∀ q : Nat, q < H.size → H1[q]? = H[q]?) : Wd E h H1 := ⟨fun k hk => (hW.1 k hk).kept (hq _ (hW.1 k hk).lt), hW.2⟩
theorem go_throwS {ik is ic : Nat} {cls text : String} (tw : TwL M.1.cls ik ic cls) (hstr : (M.1.cls, is, text) ∈ strL) (d0 : decode M.2.1 pc = .ok (.new ik, 3)) (d3 : decode M.2.1 (pc + 3) = .ok (.dup, 1)) (d4 : decode M.2.1 (pc + 4) = .ok (.ldc is, 2)) (d6 : decode M.2.1 (pc + 6) = .ok (.invokespecial ic, 3)) (d9 : decode M.2.1 (pc + 9) = .ok (.athrow, 1))
    (hp : PX cls h) (hd : 6 ≤ d) (hst : (st.map fun v => v.category).sum ≤ 8) : Go l E M (rm d 1 6) (KX l E 1 6 PX) 0 0 h x pc lv st := by
  intro p e s m args below meth c C H locs hW hz hS ls hls
  refine W_imp fun hh => ?_
  obtain ⟨htb, hX, hl⟩ := hh
  obtain ⟨⟨t0, t1⟩, t2, t3, t4, t5⟩ := tw
  have hts := C.2.2.2.2.2.1
  obtain ⟨_, _, _, _, _, ⟨hU, hN⟩, _, _, _⟩ := C.2.2.2.2.2.2.2.1
  obtain ⟨sa, hsa⟩ := hX.1 _ hstr
  have hst' := stc (E := E) hst
  exact vx_throwS C.1 C.2.1 hl (own := M.1.cls) (cls := cls) (text := text) (names := nmL) (sa := sa) (A := eA E) C.2.2.2.2.1 t0 t1 (hts _ t2) (hts _ t3) hsa
    (fun w hw => (t4 w hw).elim (hts w) (fun q => va_Nw.use (by have h9 := (List.mem_filter.mp q).2; cases w <;> first | rfl | (simp [w_decl] at h9)) (hX.2.2.2 w q))) t5 hU hN hS (hls.1.trans C.2.2.2.1.symm) d0 d3 d4 d6 d9 (fun z hz9 => (htb z hz9).elim)
    (by show 2 + 3 < d; omega) (by show _ + (13 * (2 + 1) + 43) ≤ 60 * d; omega) (Nat.le_refl 1) (Nat.le_refl 6) C.2.2.2.2.2.2.1
    (fun t _ hz1 hq1 => ⟨⟨h, t.heap.size - eB E - h.1, hp, hW.grown hq1, by omega⟩, ⟨Nat.le_trans hS.1 hz1, fun q g1 g2 => (hq1 q (Nat.lt_of_lt_of_le g1 hS.1)).trans (hS.2.1 q g1 g2)⟩⟩)
    (fun q hq => hS.2.2 q hq) (Nat.le_refl 1) (Nat.le_refl 6)
theorem go_throwSW {ik is ic : Nat} {cls text : String} (tw : TwL M.1.cls ik ic cls) (hstr : (M.1.cls, is, text) ∈ strL) (d0 : decode M.2.1 pc = .ok (.new ik, 3)) (d3 : decode M.2.1 (pc + 3) = .ok (.dup, 1)) (d4 : decode M.2.1 (pc + 4) = .ok (.ldc_w is, 3)) (d6 : decode M.2.1 (pc + 7) = .ok (.invokespecial ic, 3)) (d9 : decode M.2.1 (pc + 10) = .ok (.athrow, 1))
    (hp : PX cls h) (hd : 6 ≤ d) (hst : (st.map fun v => v.category).sum ≤ 8) : Go l E M (rm d 1 6) (KX l E 1 6 PX) 0 0 h x pc lv st := by
  intro p e s m args below meth c C H locs hW hz hS ls hls
  refine W_imp fun hh => ?_
  obtain ⟨htb, hX, hl⟩ := hh
  obtain ⟨⟨t0, t1⟩, t2, t3, t4, t5⟩ := tw
  have hts := C.2.2.2.2.2.1
  obtain ⟨_, _, _, _, _, ⟨hU, hN⟩, _, _, _⟩ := C.2.2.2.2.2.2.2.1
  obtain ⟨sa, hsa⟩ := hX.1 _ hstr
  have hst' := stc (E := E) hst
  exact vx_throwSW C.1 C.2.1 hl (own := M.1.cls) (cls := cls) (text := text) (names := nmL) (sa := sa) (A := eA E) C.2.2.2.2.1 t0 t1 (hts _ t2) (hts _ t3) hsa
    (fun w hw => (t4 w hw).elim (hts w) (fun q => va_Nw.use (by have h9 := (List.mem_filter.mp q).2; cases w <;> first | rfl | (simp [w_decl] at h9)) (hX.2.2.2 w q))) t5 hU hN hS (hls.1.trans C.2.2.2.1.symm) d0 d3 d4 d6 d9 (fun z hz9 => (htb z hz9).elim)
    (by show 2 + 3 < d; omega) (by show _ + (13 * (2 + 1) + 43) ≤ 60 * d; omega) (Nat.le_refl 1) (Nat.le_refl 6) C.2.2.2.2.2.2.1
    (fun t _ hz1 hq1 => ⟨⟨h, t.heap.size - eB E - h.1, hp, hW.grown hq1, by omega⟩, ⟨Nat.le_trans hS.1 hz1, fun q g1 g2 => (hq1 q (Nat.lt_of_lt_of_le g1 hS.1)).trans (hS.2.1 q g1 g2)⟩⟩)
    (fun q hq => hS.2.2 q hq) (Nat.le_refl 1) (Nat.le_refl 6)
theorem go_xafter {p : Program} {e : Env} {s : State} {m : MethodId} {args : Array Value} {below : List Frame} {meth : Method} {c : Code} {H : Heap} {locs : List Loc} {ls : Array Slot} {stx rest : List Value} {a : Array Value}
    (hr : vx_Run p l e R s m args below meth c H locs 0 0 1 6 (F0 m pc ls stx) rest ((fun _ _ _ _ => False : Array Value → State → Outcome → State → Prop) a) (XCp E PX) (eA E)) (hS : va_S (eA E) s.heap H locs) (htb : ∀ z ∈ c.exceptionTable.toList, False) (hlk : meth.locks = false) :
    W p l e R s m args below meth c H locs 0 0 (vx_MQ below (fun _ _ _ _ => False) (XCp E PX) args s 1 6 (eA E)) (F0 m pc ls stx) := by
  intro T hT X
  rcases hr T hT X with ⟨v, st₀, t, T', L, h0, X', hL, e1, e2, hf, st⟩ | ⟨q, st₀, t, T', L, Ex, ce, h0, X', hL, e1, e2, ⟨⟨h', x', hp, hWd, hz⟩, hz2, hk⟩, hce, hcv, hcl, st⟩
  · exact hf.elim
  · rw [h0] at hz2 hk
    obtain ⟨t2, a1, b1⟩ := vx_out (p := p) (l := l) (e := e) (R := R) (s := s) (m := m) (args := args) (below := below) (meth := meth) (c := c) (H := T'.heap) (locs := locs ++ L) (cells := 0 + 1) (slots := 0 + 6) (Qc := fun _ _ _ _ => False) (XC := XCp E PX) (free := eA E) (mc := 1) (ms := 6) (ls := ls) (rest := rest) (pc := pc) (E := Ex) (ce := ce) (q := q) (fun z hz9 => (htb z hz9).elim) hlk (by rw [e1]; exact hce) hcv hcl
      (fun u hu _ => ⟨⟨h', x', hp, by rw [hu, e1]; exact hWd, by rw [hu, e1]; exact hz⟩, ⟨by rw [hu, e1]; exact Nat.le_trans hS.1 hz2, fun q g1 g2 => by rw [hu, e1, hk q (Nat.lt_of_lt_of_le g1 hS.1) g2]; exact hS.2.1 q g1 g2⟩⟩)
      (fun z hz9 => by
        rcases List.mem_append.mp hz9 with h | h
        · exact hS.2.2 z h
        · exact hL z h) (Nat.le_refl _) (Nat.le_refl _) T' rfl X'
    exact ⟨t2, st.trans a1, b1⟩
theorem go_tcallS (hf : FnT l E Mc d' As h x PX) (lk : LkS false M.1.cls idx Mc n) (hs : st0 = As.reverse ++ st) (hn : As.length = n) (hR : d' + 1 ≤ (rm d 1 6).frames ∧ 60 * d' + 60 ≤ (rm d 1 6).locals) (hst : (st.map fun v => v.category).sum ≤ 8) (hd : decode M.2.1 pc = .ok (.invokestatic idx, 3)) : Go l E M (rm d 1 6) (KX l E 1 6 PX) 0 0 h x pc lv st0 := by
  intro p e s m args below meth c C H locs hW hz hS ls hls
  refine W_imp fun hh => ?_
  obtain ⟨htb, hX, hl⟩ := hh
  subst hs
  obtain ⟨l1, l2, hM⟩ := lk
  have hSF := C.2.2.2.2.2.2.2.1
  have hts := C.2.2.2.2.2.1
  have hpre : PreS s H (va_Pc (As.map (mv E)) (fun U => World E h x U ∧ XF U)) (As.map (mv E)) := ⟨WorldX.blind, fun U hU hw => ⟨rfl, World.start hW hz hS hSF hU hw, XF.warm hw hX⟩⟩
  have hstack : ((As.reverse ++ st).map (mv E)) = (As.map (mv E)).reverse ++ st.map (mv E) := by
    rw [List.map_append, List.map_reverse]
  have hR9 : (rm d' 1 6).frames + 1 ≤ (rm d 1 6).frames ∧ 8 + (Mc.2.2.1 + 11) + (rm d' 1 6).locals ≤ (rm d 1 6).locals := ⟨hR.1, by show 8 + (Mc.2.2.1 + 11) + 60 * d' ≤ _; have := hM.2.2.2; have := hR.2; omega⟩
  exact go_xafter (a := (As.map (mv E)).toArray) (vx_runS ⟨C.1, C.2.1, C.2.2.2.1, C.2.2.2.2.1, hts⟩ hf (va_cwS n hts (good_pre (ps := [.methodLink M.1.cls idx Mc.1, .static Mc.1, .initialized Mc.1.cls]) hM.good (fun w hw => by
          rcases List.mem_cons.mp hw with rfl | hw
          · exact l1
          rcases List.mem_cons.mp hw with rfl | hw
          · exact l2
          rcases List.mem_cons.mp hw with rfl | hw
          · exact hM.2.1
          cases hw)) rfl rfl rfl hM.2.2.1 hR9) hpre rfl ((List.length_map _).trans hn) hls.1 hstack (lv_room (stc hst)) hd ⟨Nat.le_refl 1, Nat.le_refl 6⟩) hS htb C.2.2.2.2.2.2.1
theorem go_tcallV {ci : Nat} (hf : FnT l E Mc d' (.ref b :: As) h x PX) (lk : LkV false M.1.cls idx Mc n) (hs : st0 = As.reverse ++ .ref b :: st) (hn : As.length = n) (hb : cK h b ci = some ()) (hci : ci < cls_L.length) (hcc : (cT ci).1 = Mc.1.cls) (hR : d' + 1 ≤ (rm d 1 6).frames ∧ 60 * d' + 60 ≤ (rm d 1 6).locals) (hst : (st.map fun v => v.category).sum ≤ 8) (hd : decode M.2.1 pc = .ok (.invokevirtual idx, 3)) : Go l E M (rm d 1 6) (KX l E 1 6 PX) 0 0 h x pc lv st0 := by
  intro p e s m args below meth c C H locs hW hz hS ls hls
  refine W_imp fun hh => ?_
  obtain ⟨htb, hX, hl⟩ := hh
  subst hs
  obtain ⟨fs, hb⟩ := cK_x hb
  obtain ⟨l1, l2, l3, hM⟩ := lk
  have hSF := C.2.2.2.2.2.2.2.1
  have hts := C.2.2.2.2.2.1
  have hP := one_P (hW.at hb (ci_lt2 hci))
  have hrecv : ∃ cell : Cell, H[eB E + b]? = some cell ∧ cell.vm.isStatics = false ∧ s.vm.findClass Mc.1.cls = some cell.cls := by
    rw [← hcc]
    exact va_recv hSF.1 hP (w_cls hci) (q0 := 0) rfl
  have hpre : PreV s H Mc.1.cls (eB E + b) (va_Pc ((Value.ref b :: As).map (mv E)) (fun U => World E h x U ∧ XF U)) (As.map (mv E)) := ⟨WorldX.blind, hrecv, fun U hU hw => ⟨rfl, World.start hW hz hS hSF hU hw, XF.warm hw hX⟩⟩
  have hstack : ((As.reverse ++ Value.ref b :: st).map (mv E)) = (As.map (mv E)).reverse ++ .ref (eB E + b) :: st.map (mv E) := by
    rw [List.map_append, List.map_reverse]
    rfl
  have hR9 : (rm d' 1 6).frames + 1 ≤ (rm d 1 6).frames ∧ 8 + (Mc.2.2.1 + 11) + (rm d' 1 6).locals ≤ (rm d 1 6).locals := ⟨hR.1, by show 8 + (Mc.2.2.1 + 11) + 60 * d' ≤ _; have := hM.2.2.2; have := hR.2; omega⟩
  exact go_xafter (a := (Value.ref (eB E + b) :: As.map (mv E)).toArray) (vx_runV ⟨C.1, C.2.1, C.2.2.2.1, C.2.2.2.2.1, hts⟩ hf (cwV n hts (good_pre (ps := [.methodLink M.1.cls idx Mc.1, .instanceMethod Mc.1, .selects Mc.1.cls Mc.1 Mc.1, .initialized Mc.1.cls]) hM.good (fun w hw => by
          rcases List.mem_cons.mp hw with rfl | hw
          · exact l1
          rcases List.mem_cons.mp hw with rfl | hw
          · exact l2
          rcases List.mem_cons.mp hw with rfl | hw
          · exact l3
          rcases List.mem_cons.mp hw with rfl | hw
          · exact hM.2.1
          cases hw)) rfl rfl rfl ⟨rfl, hM.2.2.1⟩ hR9) hpre rfl ((List.length_map _).trans hn) hls.1 hstack (lv_room (stc hst)) hd ⟨Nat.le_refl 1, Nat.le_refl 6⟩) hS htb C.2.2.2.2.2.2.1
end GOX
theorem tw_122_126 : TwL "NumberPlace" 122 126 "java/lang/IllegalArgumentException" := by
  refine ⟨by decide +kernel, w_in 677 (by decide +kernel) (by decide +kernel), w_in 19 (by decide +kernel) (by decide +kernel), ?_, ?_⟩
  · have h : (vx_atS "NumberPlace" 126 "java/lang/IllegalArgumentException" nmL).all (fun w => decide (w ∈ w_S) || decide (w ∈ w_D)) = true := by decide +kernel
    intro w hw
    have h1 := List.all_eq_true.mp h w hw
    rw [Bool.or_eq_true, decide_eq_true_eq, decide_eq_true_eq] at h1
    exact h1
  · have h : (Cond.classLink "NumberPlace" 122 "java/lang/IllegalArgumentException" :: Cond.initialized "java/lang/IllegalArgumentException" :: vx_atS "NumberPlace" 126 "java/lang/IllegalArgumentException" nmL).all vx_ot = true := by decide +kernel
    exact fun w hw => List.all_eq_true.mp h w hw
theorem tw_139_143 : TwL "NumberPlace" 139 143 "java/lang/IllegalStateException" := by
  refine ⟨by decide +kernel, w_in 832 (by decide +kernel) (by decide +kernel), w_in 20 (by decide +kernel) (by decide +kernel), ?_, ?_⟩
  · have h : (vx_atS "NumberPlace" 143 "java/lang/IllegalStateException" nmL).all (fun w => decide (w ∈ w_S) || decide (w ∈ w_D)) = true := by decide +kernel
    intro w hw
    have h1 := List.all_eq_true.mp h w hw
    rw [Bool.or_eq_true, decide_eq_true_eq, decide_eq_true_eq] at h1
    exact h1
  · have h : (Cond.classLink "NumberPlace" 139 "java/lang/IllegalStateException" :: Cond.initialized "java/lang/IllegalStateException" :: vx_atS "NumberPlace" 143 "java/lang/IllegalStateException" nmL).all vx_ot = true := by decide +kernel
    exact fun w hw => List.all_eq_true.mp h w hw
theorem tw_208_212 : TwL "NumberPlace" 208 212 "java/lang/IndexOutOfBoundsException" := by
  refine ⟨by decide +kernel, w_in 758 (by decide +kernel) (by decide +kernel), w_in 18 (by decide +kernel) (by decide +kernel), ?_, ?_⟩
  · have h : (vx_atS "NumberPlace" 212 "java/lang/IndexOutOfBoundsException" nmL).all (fun w => decide (w ∈ w_S) || decide (w ∈ w_D)) = true := by decide +kernel
    intro w hw
    have h1 := List.all_eq_true.mp h w hw
    rw [Bool.or_eq_true, decide_eq_true_eq, decide_eq_true_eq] at h1
    exact h1
  · have h : (Cond.classLink "NumberPlace" 208 "java/lang/IndexOutOfBoundsException" :: Cond.initialized "java/lang/IndexOutOfBoundsException" :: vx_atS "NumberPlace" 212 "java/lang/IndexOutOfBoundsException" nmL).all vx_ot = true := by decide +kernel
    exact fun w hw => List.all_eq_true.mp h w hw
