/-! The law's own small methods: they call and catch. -/
def PoX (r : Int32) (h9 : PH) : Option Value → PH → Nat → Prop := fun v' h' _ => v' = some (.int r) ∧ h' = h9
def wsW (M : MT) (hh : List (Nat × Nat × Nat × Nat)) : List Cond := Cond.codeWith M.1 M.2.1 M.2.2.1 M.2.2.2 hh :: w_S
def KW (l : Launch) (E : ET) (hh : List (Nat × Nat × Nat × Nat)) (Po : Option Value → PH → Nat → Prop) : KT := fun _ _ s _ args below _ c => fun t => (c.exceptionTable.toList = tableOf hh ∧ XF s ∧ l.stackTraces = false) → MQ below (Qp E Po) args s 1 6 (eA E) t
def FnW (l : Launch) (E : ET) (M : MT) (hh : List (Nat × Nat × Nat × Nat)) (d : Nat) (As : List Value) (h : PH) (x : Nat) (Po : Option Value → PH → Nat → Prop) : Prop :=
  Met l M.1 (wsW M hh) (rm d 1 6) (va_Pc (As.map (mv E)) (fun U => World E h x U ∧ XF U)) (Qp E Po) 1 6 (eA E)
def bndC {α : Type} (o : Option ((Nat ⊕ α) × PH)) (k : α → PH → Option (Int32 × PH)) (hd : Nat → Option Int32) : Option (Int32 × PH) := match o with
  | none => none
  | some (.inl j, h) => (match hd j with | none => none | some c => some (c, h))
  | some (.inr a, h) => k a h
theorem bndC_x {α : Type} {o : Option ((Nat ⊕ α) × PH)} {k : α → PH → Option (Int32 × PH)} {hd : Nat → Option Int32} {r : Int32} {h9 : PH} (e : bndC o k hd = some (r, h9)) : (∃ j, o = some (.inl j, h9) ∧ hd j = some r) ∨ ∃ a h1, o = some (.inr a, h1) ∧ k a h1 = some (r, h9) := by
  match o, e with
  | some (.inr a, h1), e => exact Or.inr ⟨a, h1, rfl, e⟩
  | some (.inl j, h1), e =>
    unfold bndC at e
    dsimp only at e
    split at e
    · cases e
    · rename_i c hc
      cases e
      exact Or.inl ⟨j, rfl, hc⟩
def hd1 (a : Nat) : Nat → Option Int32 := fun j => if j = a then some 1 else none
def hd2 (a b : Nat) : Nat → Option Int32 := fun j => if j = a then some 1 else if j = b then some 2 else none
def hd3 (a b c : Nat) : Nat → Option Int32 := fun j => if j = a then some 1 else if j = b then some 2 else if j = c then some 3 else none
theorem hd1_x {a j : Nat} {r : Int32} (e : hd1 a j = some r) : j = a ∧ r = 1 := by
  unfold hd1 at e
  split at e
  · rename_i q; cases e; exact ⟨q, rfl⟩
  · cases e
theorem hd2_x {a b j : Nat} {r : Int32} (e : hd2 a b j = some r) : (j = a ∧ r = 1) ∨ (j = b ∧ r = 2) := by
  unfold hd2 at e
  split at e
  · rename_i q; cases e; exact Or.inl ⟨q, rfl⟩
  · split at e
    · rename_i q; cases e; exact Or.inr ⟨q, rfl⟩
    · cases e
theorem hd3_x {a b c j : Nat} {r : Int32} (e : hd3 a b c j = some r) : (j = a ∧ r = 1) ∨ (j = b ∧ r = 2) ∨ (j = c ∧ r = 3) := by
  unfold hd3 at e
  split at e
  · rename_i q; cases e; exact Or.inl ⟨q, rfl⟩
  · split at e
    · rename_i q; cases e; exact Or.inr (Or.inl ⟨q, rfl⟩)
    · split at e
      · rename_i q; cases e; exact Or.inr (Or.inr ⟨q, rfl⟩)
      · cases e
def LkW (own : String) (idx : Nat) (M : MT) (hh : List (Nat × Nat × Nat × Nat)) (n : Nat) : Prop := Cond.methodLink own idx M.1 ∈ w_S ∧ Cond.static M.1 ∈ w_S ∧ Cond.codeWith M.1 M.2.1 M.2.2.1 M.2.2.2 hh ∈ w_S ∧ Cond.initialized M.1.cls ∈ w_S ∧ (M.1.cls ≠ "java/lang/invoke/MethodHandle" ∧ M.1.cls ≠ "java/lang/invoke/VarHandle" ∧ (parseMethodDescriptor M.1.desc).map (fun d => d.parameters.length) = some n) ∧ M.2.2.1 ≤ 41
/-- what a handler does with what it caught -/
def HWd (E : ET) (M : MT) (l : Launch) (R : Room) (Po : Option Value → PH → Nat → Prop) (hpc : Nat) (h9 : PH) (lv : List (Nat × Value)) : Prop :=
  ∀ (p : Program) (e : Env) (s : State) (m : MethodId) (args : Array Value) (below : List Frame) (meth : Method) (c : Code), Cx E M p s m args meth c →
  ∀ (q : Nat) (H : Heap) (locs : List Loc) (x' : Nat), Wd E h9 H → H.size = eB E + h9.1 + x' → va_S (eA E) s.heap H locs → ∀ ls : Array Slot, lv_has ls M.2.2.1 (lv.map (mvl E)) →
  W p l e R s m args below meth c H locs (0 + 1) (0 + 6) (MQ below (Qp E Po) args s 1 6 (eA E)) (F0 m hpc ls [.ref q])
section GOW
variable {l : Launch} {E : ET} {M Mc : MT} {R : Room} {K : KT} {kc ks : Nat} {h h1 h9 : PH} {x : Nat} {pc : Nat} {lv lv' : List (Nat × Value)} {st st0 : List Value} {d d' mc ms n idx b : Nat} {As : List Value} {bn : Bool} {Po Po' : Option Value → PH → Nat → Prop} {hh : List (Nat × Nat × Nat × Nat)}
theorem FnW.of (hl : l.stackTraces = false) (hcl : plainName M.1.cls = true) (hlen : (lg_sl As).length ≤ M.2.2.1) (hGo : Go l E M (rm d 1 6) (KW l E hh Po) 0 0 h x 0 (lv_args 0 As) []) : FnW l E M hh d As h x Po := by
  refine va_MetW (cc := M.2.1) (maxL := M.2.2.1) (ret := M.2.2.2) (hh := hh) hcl rfl ?_
  intro p e s m args below meth c s₁ B hml hv
  obtain ⟨rfl, ⟨hW, hz, hF⟩, hX⟩ := hv
  have hts := atoms_spec (ws := wsW M hh) B.pre
  have hlo := lv_entry (As.map (mv E)) (n := M.2.2.1) (by rw [lg_len]; exact hlen)
  rw [lg_entry_eq]
  rw [lv_argm] at hlo
  have htb : c.exceptionTable.toList = tableOf hh := vx_table (x := M.1) B (hts _ List.mem_cons_self)
  have h9 := hGo p e s m _ below meth c ⟨B.exec, B.bytes, B.returns, hml, findClass_of_methodNamed B.named, fun w hw => hts w (List.mem_cons_of_mem _ hw), B.notSynchronized, hF, (name_of_methodNamed B.named B.method).1⟩ s.heap [] hW hz va_S.rf _ hlo
  intro T hT X
  obtain ⟨t, a1, b1⟩ := h9 T hT X
  exact ⟨t, a1, b1 ⟨htb, hX, hl⟩⟩
theorem go_iretW {v : Int32} (hd : decode M.2.1 pc = .ok (.ireturn, 1)) (hr : M.2.2.2 = some .int) (hp : Po (some (.int v)) h x) (hk : kc ≤ 1 ∧ ks ≤ 6) : Go l E M R (KW l E hh Po) kc ks h x pc lv [.int v] := by
  intro p e s m args below meth c C H locs hW hz hS ls hls
  refine W_imp fun _ => ?_
  exact (go_widen hk.1 hk.2 (go_iret hd hr hp)) p e s m args below meth c C H locs hW hz hS ls hls
theorem HWd_n {n : Fin 4} {v : Int32} {k : Int} (d0 : decode M.2.1 pc = .ok (.astore_n n, 1)) (d1 : decode M.2.1 (pc + 1) = .ok (.iconst k, 1)) (d2 : decode M.2.1 (pc + 2) = .ok (.ireturn, 1)) (hv : Int32.ofInt k = v) (hr : M.2.2.2 = some .int) (hn : (n : Nat) < M.2.2.1) (hp : ∀ x', Po (some (.int v)) h9 x') : HWd E M l R Po pc h9 lv := by
  intro p e s m args below meth c C q H locs x' hW hz hS ls hls
  refine lv_astore_n C.1 C.2.1 d0 rfl hls hn rfl fun ls' hls' => ?_
  refine lv_iconst C.1 C.2.1 d1 hv ?_
  exact W.iret C.1 C.2.1 (C.2.2.1.trans hr) (fun t ht hw => ⟨⟨some (.int v), h9, x', rfl, hp x', by rw [ht]; exact hW, by rw [ht]; exact hz⟩, hS.F ht⟩) (fun q hq => hS.2.2 q hq) d2 C.2.2.2.2.2.2.1
theorem HWd_w {n : Nat} {v : Int32} {k : Int} (d0 : decode M.2.1 pc = .ok (.astore n, 2)) (d1 : decode M.2.1 (pc + 2) = .ok (.iconst k, 1)) (d2 : decode M.2.1 (pc + 3) = .ok (.ireturn, 1)) (hv : Int32.ofInt k = v) (hr : M.2.2.2 = some .int) (hn : n < M.2.2.1) (hp : ∀ x', Po (some (.int v)) h9 x') : HWd E M l R Po pc h9 lv := by
  intro p e s m args below meth c C q H locs x' hW hz hS ls hls
  refine lv_astore C.1 C.2.1 d0 hls hn rfl fun ls' hls' => ?_
  refine lv_iconst C.1 C.2.1 d1 hv ?_
  exact W.iret C.1 C.2.1 (C.2.2.1.trans hr) (fun t ht hw => ⟨⟨some (.int v), h9, x', rfl, hp x', by rw [ht]; exact hW, by rw [ht]; exact hz⟩, hS.F ht⟩) (fun q hq => hS.2.2 q hq) d2 C.2.2.2.2.2.2.1
theorem go_catchV {ci j : Nat} (pre : List (Nat × Nat × Nat × Nat)) (row : Nat × Nat × Nat × Nat) (suf : List (Nat × Nat × Nat × Nat)) (hsp : hh = pre ++ row :: suf)
    (hpass : ∀ z ∈ pre, z.2.2.2 ≠ 0 ∧ ∃ nm, Cond.classLink M.1.cls z.2.2.2 nm ∈ w_S ∧ (xN j, nm) ∈ ncL) (hcov : row.1 ≤ pc ∧ pc < row.2.1) (hcp : row.2.2.2 ≠ 0) (hrow : Cond.classLink M.1.cls row.2.2.2 (xN j) ∈ w_S) (hcast : Cond.castable (xN j) (xN j) ∈ w_D) (hH : HWd E M l (rm d 1 6) Po row.2.2.1 h9 lv)
    (hf : FnT l E Mc d' (.ref b :: As) h x (PXk j h9)) (lk : LkV false M.1.cls idx Mc n) (hs : st0 = As.reverse ++ .ref b :: st) (hn : As.length = n) (hb : cK h b ci = some ()) (hci : ci < cls_L.length) (hcc : (cT ci).1 = Mc.1.cls) (hR : d' + 1 ≤ (rm d 1 6).frames ∧ 60 * d' + 60 ≤ (rm d 1 6).locals) (hst : (st.map fun v => v.category).sum ≤ 8) (hd : decode M.2.1 pc = .ok (.invokevirtual idx, 3)) : Go l E M (rm d 1 6) (KW l E hh Po) 0 0 h x pc lv st0 := by
  intro p e s m args below meth c C H locs hW hz hS ls hls
  refine W_imp fun hh9 => ?_
  obtain ⟨htb, hX, hl⟩ := hh9
  subst hs
  obtain ⟨fs, hb⟩ := cK_x hb
  obtain ⟨l1, l2, l3, hM⟩ := lk
  have hSF := C.2.2.2.2.2.2.2.1
  have hts := C.2.2.2.2.2.1
  have hP := one_P (hW.at hb (ci_lt2 hci))
  have hrecv : ∃ cell : Cell, H[eB E + b]? = some cell ∧ cell.vm.isStatics = false ∧ s.vm.findClass Mc.1.cls = some cell.cls := by
    rw [← hcc]
    exact va_recv hSF.1 hP (w_cls hci) (q0 := 0) rfl
  have hpre : PreV s H Mc.1.cls (eB E + b) (va_Pc ((Value.ref b :: As).map (mv E)) (fun U => World E h x U ∧ XF U)) (As.map (mv E)) := ⟨WorldX.blind, hrecv, fun U hU hw => ⟨rfl, World.start hW hz hS hSF hU hw, XF.warm hw hX⟩⟩
  have hstack : ((As.reverse ++ Value.ref b :: st).map (mv E)) = (As.map (mv E)).reverse ++ .ref (eB E + b) :: st.map (mv E) := by
    rw [List.map_append, List.map_reverse]
    rfl
  have hR9 : (rm d' 1 6).frames + 1 ≤ (rm d 1 6).frames ∧ 8 + (Mc.2.2.1 + 11) + (rm d' 1 6).locals ≤ (rm d 1 6).locals := ⟨hR.1, by show 8 + (Mc.2.2.1 + 11) + 60 * d' ≤ _; have := hM.2.2.2; have := hR.2; omega⟩
  have run := vx_runV (p := p) (l := l) (e := e) (R := rm d 1 6) (s := s) (m := m) (args := args) (below := below) (meth := meth) (c := c) (H := H) (locs := locs) (cells := 0) (slots := 0) (g := F0 m pc ls ((As.reverse ++ Value.ref b :: st).map (mv E))) (rest := st.map (mv E)) (As := As.map (mv E)) (b := eB E + b) ⟨C.1, C.2.1, C.2.2.2.1, C.2.2.2.2.1, hts⟩ hf (cwV n hts (good_pre (ps := [.methodLink M.1.cls idx Mc.1, .instanceMethod Mc.1, .selects Mc.1.cls Mc.1 Mc.1, .initialized Mc.1.cls]) hM.good (fun w hw => by
          rcases List.mem_cons.mp hw with rfl | hw
          · exact l1
          rcases List.mem_cons.mp hw with rfl | hw
          · exact l2
          rcases List.mem_cons.mp hw with rfl | hw
          · exact l3
          rcases List.mem_cons.mp hw with rfl | hw
          · exact hM.2.1
          cases hw)) rfl rfl rfl ⟨rfl, hM.2.2.1⟩ hR9) hpre rfl ((List.length_map _).trans hn) hls.1 hstack (lv_room (stc hst)) hd ⟨Nat.le_refl 1, Nat.le_refl 6⟩
  intro T hT X
  rcases run T hT X with ⟨v, st₀, t, T', L, h0, X', hL, e1, e2, hf, st⟩ | ⟨q, st₀, t, T', L, Ex, ce, h0, X', hL, e1, e2, ⟨⟨h', x', ⟨rfl, rfl⟩, hWd, hz3⟩, hz2, hk⟩, hce, hcv, hcl, st9⟩
  · exact hf.elim
  · rw [h0] at hz2 hk
    have hS1 : va_S (eA E) s.heap T'.heap (locs ++ L) := ⟨by rw [e1]; exact Nat.le_trans hS.1 hz2, fun q g1 g2 => by rw [e1, hk q (Nat.lt_of_lt_of_le g1 hS.1) g2]; exact hS.2.1 q g1 g2, fun z hz9 => by
        rcases List.mem_append.mp hz9 with h | h
        · exact hS.2.2 z h
        · exact hL z h⟩
    have hcat := vx_catch (p := p) (l := l) (e := e) (R := rm d 1 6) (s := s) (m := m) (args := args) (below := below) (meth := meth) (c := c) (H := T'.heap) (locs := locs ++ L) (cells := 0 + 1) (slots := 0 + 6) (Q := MQ below (Qp E Po) args s 1 6 (eA E)) (pc := pc) (ls := ls) (rest := st.map (mv E)) (own := M.1.cls) (name := xN j) (E := xN j) (ce := ce) (q := q) C.2.2.2.2.1 (tableOf pre) ⟨row.1, row.2.1, row.2.2.1, row.2.2.2⟩ (tableOf suf)
      (by rw [htb, hsp]; unfold tableOf; rw [List.map_append, List.map_cons])
      (fun z hz9 => by
        unfold tableOf at hz9
        obtain ⟨z0, hz0, rfl⟩ := List.mem_map.mp hz9
        obtain ⟨a1, nm, a2, a3⟩ := hpass z0 hz0
        exact Or.inr ⟨a1, nm, hts _ a2, hX.2.2.1 _ a3⟩)
      (by simp [covers, hcov.1, hcov.2]) hcp (hts _ hrow) (va_Nw.use rfl (hX.2.2.2 _ hcast)) (by rw [e1]; exact hce) hcv hcl
      (hH p e s m args below meth c C q T'.heap (locs ++ L) x' (by rw [e1]; exact hWd) (by rw [e1]; exact hz3) hS1 ls hls)
    obtain ⟨t2, a1, b1⟩ := hcat T' rfl X'
    exact ⟨t2, st9.trans a1, b1⟩
end GOW
theorem cs_1 : Cond.castable (xN 1) (xN 1) ∈ w_D := List.mem_filter.mpr ⟨List.mem_of_getElem? (i := 679) (by decide +kernel), rfl⟩
theorem cs_0 : Cond.castable (xN 0) (xN 0) ∈ w_D := List.mem_filter.mpr ⟨List.mem_of_getElem? (i := 760) (by decide +kernel), rfl⟩
theorem cs_2 : Cond.castable (xN 2) (xN 2) ∈ w_D := List.mem_filter.mpr ⟨List.mem_of_getElem? (i := 834) (by decide +kernel), rfl⟩
theorem lc_0 : Cond.classLink "NumberPlaceLaw" 13 (xN 0) ∈ w_S := w_in 798 (by decide +kernel) (by decide +kernel)
theorem lc_1 : Cond.classLink "NumberPlaceLaw" 15 (xN 1) ∈ w_S := w_in 799 (by decide +kernel) (by decide +kernel)
theorem lc_2 : Cond.classLink "NumberPlaceLaw" 25 (xN 2) ∈ w_S := w_in 820 (by decide +kernel) (by decide +kernel)
