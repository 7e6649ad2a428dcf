/-! Contracts, ends and calls over the judgement Go. -/
def rm (d mc ms : Nat) : Room := { frames := d, cells := mc, slots := ms, locals := 60 * d }
def Qp (E : ET) (Po : Option Value → PH → Nat → Prop) : Array Value → State → Outcome → State → Prop := fun _ st o t =>
  (∃ (v : Option Value) (h' : PH) (x' : Nat), o = .returned (v.map (mv E)) ∧ Po v h' x' ∧ Wd E h' t.heap ∧ t.heap.size = eB E + h'.1 + x') ∧ va_F (eA E) st t
def KM (E : ET) (mc ms : Nat) (Po : Option Value → PH → Nat → Prop) : KT := fun _ _ s _ args below _ _ => MQ below (Qp E Po) args s mc ms (eA E)
def wsM (M : MT) : List Cond := Cond.code M.1 M.2.1 M.2.2.1 M.2.2.2 :: w_S
/-- THE CONTRACT of a method at arguments and a heap: it returns, and Po holds of the answer and the heap behind it -/
def Fn (l : Launch) (E : ET) (M : MT) (d mc ms : Nat) (As : List Value) (h : PH) (x : Nat) (Po : Option Value → PH → Nat → Prop) : Prop :=
  Met l M.1 (wsM M) (rm d mc ms) (va_Pc (As.map (mv E)) (World E h x)) (Qp E Po) mc ms (eA E)
/-- an answer and a heap told exactly -/
def PoE (v : Option Value) (h1 : PH) (x : Nat) : Option Value → PH → Nat → Prop := fun v' h' x' => v' = v ∧ h' = h1 ∧ x' = x
theorem lg_len (E : ET) (As : List Value) : (lg_sl (As.map (mv E))).length = (lg_sl As).length := by
  induction As with
  | nil => rfl
  | cons a As ih =>
    have h1 : ∀ (v : Value) (vs : List Value), (lg_sl (v :: vs)).length = (if v.category = 2 then 2 else 1) + (lg_sl vs).length := by
      intro v vs
      unfold lg_sl
      rw [List.flatMap_cons, List.length_append]
      congr 1
      split <;> rfl
    rw [List.map_cons, h1, h1, mv_cat, ih]
theorem lv_argm (E : ET) : ∀ (As : List Value) (i : Nat), lv_args i (As.map (mv E)) = (lv_args i As).map (mvl E) := by
  intro As
  induction As with
  | nil => intro i; rfl
  | cons a As ih =>
    intro i
    rw [List.map_cons, lv_args, lv_args, List.map_cons, ih, mv_cat]
    rfl
theorem World.blind {E : ET} {h : PH} {x : Nat} {av : List Value} : FrameBlind (va_Pc av (World E h x)) := fun a U g mk q => by
  obtain ⟨q0, q1, q2, q3⟩ := q
  exact ⟨q0, q1, q2, SF.move (s := U) (U := U.calling g mk a) (Vm.Alike.refl U.vm) (w_N_same rfl) (Nat.le_refl _) (fun _ _ _ => rfl) q3⟩
theorem World.start {E : ET} {h : PH} {x : Nat} {s U : State} {H : Heap} {locs : List Loc} (hW : Wd E h H) (hz : H.size = eB E + h.1 + x) (hS : va_S (eA E) s.heap H locs) (hF : SF E s s.heap) (hU : U.heap = H) (hw : s.WarmedH U.vm) : World E h x U := by
  subst hU
  exact ⟨hW, hz, SF.move hw.alike (w_N_warm hw) hS.1 hS.2.1 hF⟩
theorem Fn.of {l : Launch} {E : ET} {M : MT} {d mc ms : Nat} {As : List Value} {h : PH} {x : Nat} {Po : Option Value → PH → Nat → Prop} (hcl : plainName M.1.cls = true) (hlen : (lg_sl As).length ≤ M.2.2.1) (hGo : Go l E M (rm d mc ms) (KM E mc ms Po) 0 0 h x 0 (lv_args 0 As) []) : Fn l E M d mc ms As h x Po := by
  refine Met.ofW (cc := M.2.1) (maxL := M.2.2.1) (ret := M.2.2.2) hcl rfl ?_
  intro p e s m args below meth c s₁ B hml hv
  obtain ⟨rfl, hW, hz, hF⟩ := hv
  have hts := atoms_spec (ws := wsM M) B.pre
  have hl := lv_entry (As.map (mv E)) (n := M.2.2.1) (by rw [lg_len]; exact hlen)
  rw [lg_entry_eq]
  rw [lv_argm] at hl
  exact hGo p e s m _ below meth c ⟨B.exec, B.bytes, B.returns, hml, findClass_of_methodNamed B.named, fun w hw => hts w (List.mem_cons_of_mem _ hw), B.notSynchronized, hF, (name_of_methodNamed B.named B.method).1⟩ s.heap [] hW hz va_S.rf _ hl
/-- the callee: its code, its class, how many arguments -/
def MOK (M : MT) (n : Nat) : Prop := Cond.code M.1 M.2.1 M.2.2.1 M.2.2.2 ∈ w_S ∧ Cond.initialized M.1.cls ∈ w_S ∧ (M.1.cls ≠ "java/lang/invoke/MethodHandle" ∧ M.1.cls ≠ "java/lang/invoke/VarHandle" ∧ (parseMethodDescriptor M.1.desc).map (fun d => d.parameters.length) = some n) ∧ M.2.2.1 ≤ 41
theorem w_gd {w : Cond} (h : w ∈ w_S) : w ∈ w_S ∧ ((w.onTables && w.keeps) = true ∨ ∃ ty, w = .arrayClass ty) := ⟨h, w_S_good w h⟩
theorem MOK.good {M : MT} {n : Nat} (h : MOK M n) : GoodIn w_S (wsM M) := fun w hw => by
  rcases List.mem_cons.mp hw with rfl | hw
  · exact w_gd h.1
  · exact w_gd hw
theorem good_pre {ws ps : List Cond} (h : GoodIn w_S ws) (hp : ∀ w ∈ ps, w ∈ w_S) : GoodIn w_S (ps ++ ws) := fun w hw => (List.mem_append.mp hw).elim (fun q => w_gd (hp w q)) (h w)
/-- a call's words: by a class's pool: b: of a nest mate's private method -/
def LkV (b : Bool) (own : String) (idx : Nat) (M : MT) (n : Nat) : Prop := (match b with
  | false => Cond.methodLink own idx M.1 ∈ w_S
  | true => Cond.methodLinkNest own idx M.1 "NumberPlace" ∈ w_N) ∧ Cond.instanceMethod M.1 ∈ w_S ∧ Cond.selects M.1.cls M.1 M.1 ∈ w_S ∧ MOK M n
def LkS (b : Bool) (own : String) (idx : Nat) (M : MT) (n : Nat) : Prop := (match b with
  | false => Cond.methodLink own idx M.1 ∈ w_S
  | true => Cond.methodLinkNest own idx M.1 "NumberPlace" ∈ w_N) ∧ Cond.static M.1 ∈ w_S ∧ MOK M n
def LkI (b : Bool) (own : String) (idx : Nat) (M : MT) (n : Nat) : Prop := (match b with
  | false => Cond.methodLink own idx M.1 ∈ w_S
  | true => Cond.methodLinkNest own idx M.1 "NumberPlace" ∈ w_N) ∧ Cond.instanceMethod M.1 ∈ w_S ∧ (M.1.name = "<init>" ∧ M.2.2.2 = none) ∧ MOK M n
theorem rm_ok {d : Nat} (h : 1 ≤ d) : (d - 1) + 1 ≤ (rm d 0 0).frames ∧ 60 * (d - 1) + 60 ≤ (rm d 0 0).locals := ⟨by show d - 1 + 1 ≤ d; omega, by show 60 * (d - 1) + 60 ≤ 60 * d; omega⟩
theorem rm_c {d : Nat} : 0 + 0 ≤ (rm d 0 0).cells ∧ 0 + 0 ≤ (rm d 0 0).slots := ⟨Nat.le_refl _, Nat.le_refl _⟩
section GOC
variable {l : Launch} {E : ET} {M Mc : MT} {R : Room} {K : KT} {kc ks : Nat} {h h1 : PH} {x : Nat} {pc : Nat} {lv lv' : List (Nat × Value)} {st st0 : List Value} {Po Po' : Option Value → PH → Nat → Prop} {d d' mc ms n idx b : Nat} {As : List Value} {bn : Bool}
theorem go_widen {k n : Nat} (h1 : kc ≤ k) (h2 : ks ≤ n) (kk : Go l E M R K k n h x pc lv st) : Go l E M R K kc ks h x pc lv st := by
  intro p e s m args below meth c C H locs hW hz hS ls hls
  exact W.widen h1 h2 (kk p e s m args below meth c C H locs hW hz hS ls hls)
theorem go_nmI {y v : Int32} (e0 : some v = some y) (kk : Go l E M R K kc ks h x pc lv (.int y :: st)) : Go l E M R K kc ks h x pc lv (.int v :: st) := by
  cases e0
  exact kk
theorem go_nmL {y v : Int64} (e0 : some v = some y) (kk : Go l E M R K kc ks h x pc lv (.long y :: st)) : Go l E M R K kc ks h x pc lv (.long v :: st) := by
  cases e0
  exact kk
theorem go_iret {v : Int32} (hd : decode M.2.1 pc = .ok (.ireturn, 1)) (hr : M.2.2.2 = some .int) (hp : Po (some (.int v)) h x) : Go l E M R (KM E kc ks Po) kc ks h x pc lv [.int v] := by
  intro p e s m args below meth c C H locs hW hz hS ls hls
  exact W.iret C.1 C.2.1 (C.2.2.1.trans hr) (fun t ht hw => ⟨⟨some (.int v), h, x, rfl, hp, by rw [ht]; exact hW, by rw [ht]; exact hz⟩, hS.F ht⟩) (fun q hq => hS.2.2 q hq) hd C.2.2.2.2.2.2.1
theorem go_zret {v : Int32} (hd : decode M.2.1 pc = .ok (.ireturn, 1)) (hz0 : cZ v = some ()) (hr : M.2.2.2 = some .boolean) (hp : Po (some (.int v)) h x) : Go l E M R (KM E kc ks Po) kc ks h x pc lv [.int v] := by
  intro p e s m args below meth c C H locs hW hz hS ls hls
  have hn : narrow .boolean (.int v) = .int v := by rcases cZ_x hz0 with rfl | rfl <;> rfl
  exact W.zret C.1 C.2.1 (C.2.2.1.trans hr) hn (fun t ht hw => ⟨⟨some (.int v), h, x, rfl, hp, by rw [ht]; exact hW, by rw [ht]; exact hz⟩, hS.F ht⟩) (fun q hq => hS.2.2 q hq) hd C.2.2.2.2.2.2.1
theorem go_lret {v : Int64} (hd : decode M.2.1 pc = .ok (.lreturn, 1)) (hr : M.2.2.2 = some .long) (hp : Po (some (.long v)) h x) : Go l E M R (KM E kc ks Po) kc ks h x pc lv [.long v] := by
  intro p e s m args below meth c C H locs hW hz hS ls hls
  exact W.lret C.1 C.2.1 (C.2.2.1.trans hr) (fun t ht hw => ⟨⟨some (.long v), h, x, rfl, hp, by rw [ht]; exact hW, by rw [ht]; exact hz⟩, hS.F ht⟩) (fun q hq => hS.2.2 q hq) hd C.2.2.2.2.2.2.1
theorem go_vret (hd : decode M.2.1 pc = .ok (.return_, 1)) (hr : M.2.2.2 = none) (hp : Po none h x) : Go l E M R (KM E kc ks Po) kc ks h x pc lv [] := by
  intro p e s m args below meth c C H locs hW hz hS ls hls
  exact W.vret C.1 C.2.1 (C.2.2.1.trans hr) (fun t ht hw => ⟨⟨none, h, x, rfl, hp, by rw [ht]; exact hW, by rw [ht]; exact hz⟩, hS.F ht⟩) (fun q hq => hS.2.2 q hq) hd C.2.2.2.2.2.2.1
theorem go_after {p : Program} {e : Env} {s : State} {m : MethodId} {args : Array Value} {below : List Frame} {meth : Method} {c : Code} {H : Heap} {locs : List Loc} {Q : State → Prop} {ls : Array Slot} {stx rest : List Value} {a : Array Value} (hr : va_Run p l e R s m args below meth c H locs kc ks mc ms (F0 m pc ls stx) rest (Qp E Po a) (eA E)) (hS : va_S (eA E) s.heap H locs) (kk : ∀ (v : Option Value) (h' : PH) (x' : Nat), Po v h' x' → ∀ (H1 : Heap) (locs1 : List Loc), Wd E h' H1 → H1.size = eB E + h'.1 + x' → va_S (eA E) s.heap H1 locs1 → W p l e R s m args below meth c H1 locs1 (kc + mc) (ks + ms) Q (F0 m (pc + 3) ls ((v.map (mv E)).toList ++ rest))) :
    W p l e R s m args below meth c H locs kc ks Q (F0 m pc ls stx) := by
  intro T hT X
  obtain ⟨v, st₀, t, T', L, h0, X', hL, e1, e2, ⟨⟨v', h', x', hv, hp, hWd, hz⟩, hz2, hk⟩, st⟩ := hr T hT X
  cases hv
  rw [h0] at hz2 hk
  obtain ⟨t2, a1, b1⟩ := kk v' h' x' hp T'.heap (locs ++ L) (by rw [e1]; exact hWd) (by rw [e1]; exact hz)
    ⟨Nat.le_trans hS.1 (by rw [e1]; exact hz2), fun q h1 h2 => by rw [e1, hk q (Nat.lt_of_lt_of_le h1 hS.1) h2]; exact hS.2.1 q h1 h2, fun q hq => by
      rcases List.mem_append.mp hq with h | h
      · exact hS.2.2 q h
      · exact hL q h⟩ T' rfl X'
  exact ⟨t2, st t2 a1, b1⟩
theorem stc {st : List Value} (h : (st.map fun v => v.category).sum ≤ 8) : ((st.map (mv E)).map fun v => v.category).sum ≤ 8 := by
  rw [List.map_map]
  have e : (fun v : Value => v.category) ∘ mv E = fun v => v.category := funext fun v => mv_cat E v
  rw [e]
  exact h
theorem go_callV {ci : Nat} (hf : Fn l E Mc d' mc ms (.ref b :: As) h x Po') (lk : LkV bn M.1.cls idx Mc n) (hs : st0 = As.reverse ++ .ref b :: st) (hn : As.length = n) (hb : cK h b ci = some ()) (hci : ci < cls_L.length) (hcc : (cT ci).1 = Mc.1.cls) (hR : d' + 1 ≤ R.frames ∧ 60 * d' + 60 ≤ R.locals) (hst : (st.map fun v => v.category).sum ≤ 8) (hcell : kc + mc ≤ R.cells ∧ ks + ms ≤ R.slots) (hd : decode M.2.1 pc = .ok (.invokevirtual idx, 3))
    (kk : ∀ (v : Option Value) (h' : PH) (x' : Nat), Po' v h' x' → Go l E M R K (kc + mc) (ks + ms) h' x' (pc + 3) lv (v.toList ++ st)) : Go l E M R K kc ks h x pc lv st0 := by
  intro p e s m args below meth c C H locs hW hz hS ls hls
  subst hs
  obtain ⟨fs, hb⟩ := cK_x hb
  obtain ⟨l1, l2, l3, hM⟩ := lk
  have hSF := C.2.2.2.2.2.2.2.1
  have hts := C.2.2.2.2.2.1
  have hP := one_P (hW.at hb (ci_lt2 hci))
  have hrecv : ∃ cell : Cell, H[eB E + b]? = some cell ∧ cell.vm.isStatics = false ∧ s.vm.findClass Mc.1.cls = some cell.cls := by
    rw [← hcc]
    exact va_recv hSF.1 hP (w_cls hci) (q0 := 0) rfl
  have hpre : PreV s H Mc.1.cls (eB E + b) (va_Pc ((Value.ref b :: As).map (mv E)) (World E h x)) (As.map (mv E)) := ⟨World.blind, hrecv, fun U hU hw => ⟨rfl, World.start hW hz hS hSF hU hw⟩⟩
  have hstack : ((As.reverse ++ Value.ref b :: st).map (mv E)) = (As.map (mv E)).reverse ++ .ref (eB E + b) :: st.map (mv E) := by
    rw [List.map_append, List.map_reverse]
    rfl
  have hR9 : (rm d' mc ms).frames + 1 ≤ R.frames ∧ 8 + (Mc.2.2.1 + 11) + (rm d' mc ms).locals ≤ R.locals := ⟨hR.1, by show 8 + (Mc.2.2.1 + 11) + 60 * d' ≤ _; have := hM.2.2.2; have := hR.2; omega⟩
  have run : va_Run p l e R s m args below meth c H locs kc ks mc ms (F0 m pc ls ((As.reverse ++ Value.ref b :: st).map (mv E))) (st.map (mv E)) (Qp E Po' (Value.ref (eB E + b) :: As.map (mv E)).toArray) (eA E) := by
    cases bn with
    | false =>
      exact va_runV ⟨C.1, C.2.1, C.2.2.2.1, C.2.2.2.2.1, hts⟩ hf (cwV n hts (good_pre (ps := [.methodLink M.1.cls idx Mc.1, .instanceMethod Mc.1, .selects Mc.1.cls Mc.1 Mc.1, .initialized Mc.1.cls]) hM.good (fun w hw => by
          rcases List.mem_cons.mp hw with rfl | hw
          · exact l1
          rcases List.mem_cons.mp hw with rfl | hw
          · exact l2
          rcases List.mem_cons.mp hw with rfl | hw
          · exact l3
          rcases List.mem_cons.mp hw with rfl | hw
          · exact hM.2.1
          cases hw)) rfl rfl rfl ⟨rfl, hM.2.2.1⟩ hR9) hpre rfl ((List.length_map _).trans hn) hls.1 hstack (lv_room (stc hst)) hd hcell
    | true =>
      exact va_runVN ⟨C.1, C.2.1, C.2.2.2.1, C.2.2.2.2.1, hts⟩ hf ⟨va_cnB n hts hM.good rfl rfl rfl (hSF.2.1 _ l1) (hts _ hM.2.1) hM.2.2.1 hR9, hts _ l2, hts _ l3⟩ hpre rfl ((List.length_map _).trans hn) hls.1 hstack (lv_room (stc hst)) hd hcell
  refine go_after run hS fun v h' x' hp H1 locs1 hW1 hz1 hS1 => ?_
  have h9 := kk v h' x' hp p e s m args below meth c C H1 locs1 hW1 hz1 hS1 ls hls
  rw [List.map_append] at h9
  cases v <;> exact h9
theorem go_callS (hf : Fn l E Mc d' mc ms As h x Po') (lk : LkS bn M.1.cls idx Mc n) (hs : st0 = As.reverse ++ st) (hn : As.length = n) (hR : d' + 1 ≤ R.frames ∧ 60 * d' + 60 ≤ R.locals) (hst : (st.map fun v => v.category).sum ≤ 8) (hcell : kc + mc ≤ R.cells ∧ ks + ms ≤ R.slots) (hd : decode M.2.1 pc = .ok (.invokestatic idx, 3)) (kk : ∀ (v : Option Value) (h' : PH) (x' : Nat), Po' v h' x' → Go l E M R K (kc + mc) (ks + ms) h' x' (pc + 3) lv (v.toList ++ st)) : Go l E M R K kc ks h x pc lv st0 := by
  intro p e s m args below meth c C H locs hW hz hS ls hls
  subst hs
  obtain ⟨l1, l2, hM⟩ := lk
  have hSF := C.2.2.2.2.2.2.2.1
  have hts := C.2.2.2.2.2.1
  have hpre : PreS s H (va_Pc (As.map (mv E)) (World E h x)) (As.map (mv E)) := ⟨World.blind, fun U hU hw => ⟨rfl, World.start hW hz hS hSF hU hw⟩⟩
  have hstack : ((As.reverse ++ st).map (mv E)) = (As.map (mv E)).reverse ++ st.map (mv E) := by
    rw [List.map_append, List.map_reverse]
  have hR9 : (rm d' mc ms).frames + 1 ≤ R.frames ∧ 8 + (Mc.2.2.1 + 11) + (rm d' mc ms).locals ≤ R.locals := ⟨hR.1, by show 8 + (Mc.2.2.1 + 11) + 60 * d' ≤ _; have := hM.2.2.2; have := hR.2; omega⟩
  have run : va_Run p l e R s m args below meth c H locs kc ks mc ms (F0 m pc ls ((As.reverse ++ st).map (mv E))) (st.map (mv E)) (Qp E Po' (As.map (mv E)).toArray) (eA E) := by
    cases bn with
    | false =>
      exact va_runS ⟨C.1, C.2.1, C.2.2.2.1, C.2.2.2.2.1, hts⟩ hf (va_cwS n hts (good_pre (ps := [.methodLink M.1.cls idx Mc.1, .static Mc.1, .initialized Mc.1.cls]) hM.good (fun w hw => by
          rcases List.mem_cons.mp hw with rfl | hw
          · exact l1
          rcases List.mem_cons.mp hw with rfl | hw
          · exact l2
          rcases List.mem_cons.mp hw with rfl | hw
          · exact hM.2.1
          cases hw)) rfl rfl rfl hM.2.2.1 hR9) hpre rfl ((List.length_map _).trans hn) hls.1 hstack (lv_room (stc hst)) hd hcell
    | true =>
      exact va_runSN ⟨C.1, C.2.1, C.2.2.2.1, C.2.2.2.2.1, hts⟩ hf ⟨va_cnB n hts hM.good rfl rfl rfl (hSF.2.1 _ l1) (hts _ hM.2.1) hM.2.2.1 hR9, hts _ l2, trivial⟩ hpre rfl ((List.length_map _).trans hn) hls.1 hstack (lv_room (stc hst)) hd hcell
  refine go_after run hS fun v h' x' hp H1 locs1 hW1 hz1 hS1 => ?_
  have h9 := kk v h' x' hp p e s m args below meth c C H1 locs1 hW1 hz1 hS1 ls hls
  rw [List.map_append] at h9
  cases v <;> exact h9
theorem go_callI (hf : Fn l E Mc d' mc ms (.ref b :: As) h x Po') (lk : LkI bn M.1.cls idx Mc n) (hs : st0 = As.reverse ++ .ref b :: st) (hn : As.length = n) (hR : d' + 1 ≤ R.frames ∧ 60 * d' + 60 ≤ R.locals) (hst : (st.map fun v => v.category).sum ≤ 8) (hcell : kc + mc ≤ R.cells ∧ ks + ms ≤ R.slots) (hd : decode M.2.1 pc = .ok (.invokespecial idx, 3)) (kk : ∀ (v : Option Value) (h' : PH) (x' : Nat), Po' v h' x' → Go l E M R K (kc + mc) (ks + ms) h' x' (pc + 3) lv (v.toList ++ st)) : Go l E M R K kc ks h x pc lv st0 := by
  intro p e s m args below meth c C H locs hW hz hS ls hls
  subst hs
  obtain ⟨l1, l2, ⟨l3, l4⟩, hM⟩ := lk
  have hSF := C.2.2.2.2.2.2.2.1
  have hts := C.2.2.2.2.2.1
  have hpre : PreS s H (va_Pc ((Value.ref b :: As).map (mv E)) (World E h x)) (Value.ref (eB E + b) :: As.map (mv E)) := ⟨World.blind, fun U hU hw => ⟨rfl, World.start hW hz hS hSF hU hw⟩⟩
  have hstack : ((As.reverse ++ Value.ref b :: st).map (mv E)) = (As.map (mv E)).reverse ++ .ref (eB E + b) :: st.map (mv E) := by
    rw [List.map_append, List.map_reverse]
    rfl
  have hR9 : (rm d' mc ms).frames + 1 ≤ R.frames ∧ 8 + (Mc.2.2.1 + 11) + (rm d' mc ms).locals ≤ R.locals := ⟨hR.1, by show 8 + (Mc.2.2.1 + 11) + 60 * d' ≤ _; have := hM.2.2.2; have := hR.2; omega⟩
  have hws : wsM Mc = Cond.code Mc.1 Mc.2.1 Mc.2.2.1 none :: w_S := by rw [wsM, l4]
  have run : va_Run p l e R s m args below meth c H locs kc ks mc ms (F0 m pc ls ((As.reverse ++ Value.ref b :: st).map (mv E))) (st.map (mv E)) (Qp E Po' (Value.ref (eB E + b) :: As.map (mv E)).toArray) (eA E) := by
    cases bn with
    | false =>
      exact va_runI ⟨C.1, C.2.1, C.2.2.2.1, C.2.2.2.2.1, hts⟩ hf (cwI n hts hM.good hws rfl rfl (hts _ hM.2.1) (hts _ l1) (hts _ l2) l3 hM.2.2.1 hR9) hpre rfl ((List.length_map _).trans hn) hls.1 hstack (lv_room (stc hst)) hd hcell
    | true =>
      exact va_runIN ⟨C.1, C.2.1, C.2.2.2.1, C.2.2.2.2.1, hts⟩ hf ⟨va_cnB n hts hM.good hws rfl rfl (hSF.2.1 _ l1) (hts _ hM.2.1) hM.2.2.1 hR9, l3, hts _ l2⟩ hpre rfl ((List.length_map _).trans hn) hls.1 hstack (lv_room (stc hst)) hd hcell
  refine go_after run hS fun v h' x' hp H1 locs1 hW1 hz1 hS1 => ?_
  have h9 := kk v h' x' hp p e s m args below meth c C H1 locs1 hW1 hz1 hS1 ls hls
  rw [List.map_append] at h9
  cases v <;> exact h9
end GOC
