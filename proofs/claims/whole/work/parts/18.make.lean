/-! Making cells; constructors. -/
def newH (h : PH) (c : PC) : PH := (h.1 + 1, fun k => if k = h.1 then c else h.2 k)
theorem newH_s (h : PH) (c : PC) : (newH h c).2 h.1 = c := by simp [newH]
theorem newH_n (h : PH) (c : PC) {k : Nat} (n : k ≠ h.1) : (newH h c).2 k = h.2 k := by simp [newH, n]
def dfl (ci : Nat) : List Value := (List.range (cT ci).2.2).map (fun k => defaultValue (cTy ci k))
def nO (h : PH) (ci : Nat) : PH := newH h (oO ci (dfl ci))
def rcl (t : Nat) : Nat := if t = 0 then 8 else 1
def sR (h : PH) (a : Nat) (i : Int32) (v : Nat) : Option PH := match h.2 a, h.2 v with
  | .inr (.inr (.inr (t, n, f))), .inl (c, _) => if ¬ (i < 0 ∨ n ≤ i.toNatClampNeg) ∧ t < 2 ∧ c = rcl t then some (hset h a (oR t n (va_up f i.toNatClampNeg (some v)))) else none
  | _, _ => none
/-- a continuation that may suppose what stays of the tables -/
def KI (K : KT) : KT := fun p e s m args below meth c t => XF s → K p e s m args below meth c t
def FnC (l : Launch) (E : ET) (M : MT) (d mc ms : Nat) (As : List Value) (h : PH) (Po : Option Value → PH → Nat → Prop) : Prop :=
  Met l M.1 (wsM M) (rm d mc ms) (va_Pc (As.map (mv E)) (fun U => World E h 0 U ∧ XF U)) (Qp E Po) mc ms (eA E)
def NwL (own : String) (idx ci : Nat) : Prop := ci < cls_L.length ∧ Cond.classLink own idx (cT ci).1 ∈ w_S ∧ Cond.instantiable (cT ci).1 (cT ci).2.2 ∈ w_S ∧ Cond.initialized (cT ci).1 ∈ w_S
theorem mv_dfl (E : ET) (t : FieldType) : mv E (defaultValue t) = defaultValue t := by cases t <;> rfl
theorem dfl_map (E : ET) (ci : Nat) : (dfl ci).map (mv E) = dfl ci := by
  unfold dfl
  rw [List.map_map]
  apply List.map_congr_left
  intro k _
  exact mv_dfl E _
theorem W_use {p : Program} {l : Launch} {e : Env} {R : Room} {s : State} {m : MethodId} {args : Array Value} {below : List Frame} {meth : Method} {c : Code} {H : Heap} {locs : List Loc} {kc ks : Nat} {P : Prop} {Q : State → Prop} {g : JFrame} (hP : P) (k : W p l e R s m args below meth c H locs kc ks (fun t => P → Q t) g) : W p l e R s m args below meth c H locs kc ks Q g := by
  intro T hT X
  obtain ⟨t, a1, b1⟩ := k T hT X
  exact ⟨t, a1, b1 hP⟩
theorem Wd.new {E : ET} {h : PH} {H H1 : Heap} {c : PC} (hW : Wd E h H) (he : va_at (eD E) cls_L (eB E + h.1, upc E c) H1) (oq : ∀ q : Nat, q < H.size → H1[q]? = H[q]?) : Wd E (newH h c) H1 := by
  refine ⟨fun k hk => ?_, fun k hk => ?_⟩
  · by_cases q : k = h.1
    · subst q
      rw [newH_s]
      exact he
    · have hk' : k < h.1 := by have : k < h.1 + 1 := hk; omega
      rw [newH_n h c q]
      exact (hW.1 k hk').kept (oq _ (hW.1 k hk').lt)
  · have h9 : h.1 + 1 ≤ k := hk
    have q : k ≠ h.1 := by omega
    rw [newH_n h c q]
    exact hW.2 k (by omega)
theorem rcl_0 : (cT (rcl 0)).1 = "NumberPlace$State" := by decide +kernel
theorem rcl_1 : (cT (rcl 1)).1 = "NumberPlace$Position" := by decide +kernel
theorem SF_arr {E : ET} {s : State} {H : Heap} (hSF : SF E s H) : ∀ {t : Nat}, t < 2 → ∃ (kA : Class) (comp : ClassId), s.vm.classes[eC E (2 + t)]? = some kA ∧ kA.kind = .array comp (.object (cT (rcl t)).1) ∧ s.vm.findClass (cT (rcl t)).1 = some comp := by
  intro t ht
  rcases (show t = 0 ∨ t = 1 by omega) with rfl | rfl
  · rw [rcl_0]
    obtain ⟨kA, comp, k1, k2, k3, _⟩ := (hSF.1.2 2 (eC E 2, .object "NumberPlace$State") rfl).2
    exact ⟨kA, comp, k1, k2, k3⟩
  · rw [rcl_1]
    obtain ⟨kA, comp, k1, k2, k3, _⟩ := (hSF.1.2 3 (eC E 3, .object "NumberPlace$Position") rfl).2
    exact ⟨kA, comp, k1, k2, k3⟩
section GON
variable {l : Launch} {E : ET} {M Mc : MT} {R : Room} {K : KT} {kc ks : Nat} {h h1 : PH} {x : Nat} {pc : Nat} {lv lv' : List (Nat × Value)} {st st0 : List Value} {d d' mc ms n idx b : Nat} {As : List Value} {bn : Bool} {Po Po' : Option Value → PH → Nat → Prop}
theorem go_toI (k : Go l E M R K kc ks h x pc lv st) : Go l E M R (KI K) kc ks h x pc lv st := by
  intro p e s m args below meth c C H locs hW hz hS ls hls
  refine W_imp fun _ => ?_
  exact k p e s m args below meth c C H locs hW hz hS ls hls
theorem FnC.of (hcl : plainName M.1.cls = true) (hlen : (lg_sl As).length ≤ M.2.2.1) (hGo : Go l E M (rm d mc ms) (KI (KM E mc ms Po)) 0 0 h 0 0 (lv_args 0 As) []) : FnC l E M d mc ms As h Po := by
  refine Met.ofW (cc := M.2.1) (maxL := M.2.2.1) (ret := M.2.2.2) hcl rfl ?_
  intro p e s m args below meth c s₁ B hml hv
  obtain ⟨rfl, ⟨hW, hz, hF⟩, hX⟩ := hv
  have hts := atoms_spec (ws := wsM M) B.pre
  have hlo := lv_entry (As.map (mv E)) (n := M.2.2.1) (by rw [lg_len]; exact hlen)
  rw [lg_entry_eq]
  rw [lv_argm] at hlo
  exact W_use hX (hGo p e s m _ below meth c ⟨B.exec, B.bytes, B.returns, hml, findClass_of_methodNamed B.named, fun w hw => hts w (List.mem_cons_of_mem _ hw), B.notSynchronized, hF, (name_of_methodNamed B.named B.method).1⟩ s.heap [] hW hz va_S.rf _ hlo)
theorem go_new {ci : Nat} (hd : decode M.2.1 pc = .ok (.new idx, 3)) (lk : NwL M.1.cls idx ci) (hc : kc + 1 ≤ R.cells ∧ ks + (cT ci).2.2 ≤ R.slots) (k : Go l E M R K (kc + 1) (ks + (cT ci).2.2) (nO h ci) 0 (pc + 3) lv (.ref h.1 :: st)) : Go l E M R K kc ks h 0 pc lv st := by
  intro p e s m args below meth c C H locs hW hz hS ls hls
  obtain ⟨hci, l1, l2, l3⟩ := lk
  have hts := C.2.2.2.2.2.1
  have hSF := C.2.2.2.2.2.2.2.1
  have hKn := hSF.1.1 ci _ (w_cls hci)
  have hz' : H.size = eB E + h.1 := hz
  refine W.newcK C.1 C.2.1 C.2.2.2.2.1 (hts _ l1) (hts _ l2) (hts _ l3) rfl hd hc.1 hc.2 hKn.2.1 rfl fun H1 kC hkC e1 z1 o1 => ?_
  rw [hz'] at e1
  have hW1 : Wd E (nO h ci) H1 := by
    refine hW.new ⟨_, w_cls hci, ?_⟩ o1
    refine (u_born (cTy ci) hts (w_lays ci hci) hKn hkC e1 (w_tys ci hci)).to fun j hj => ?_
    rw [dfl_map]
    show _ = vp_V (dfl ci) j
    unfold vp_V dfl
    simp [List.getD_eq_getElem?_getD, hj]
  have h9 := k p e s m args below meth c C H1 locs hW1 (by show H1.size = eB E + (h.1 + 1) + 0; omega) ⟨Nat.le_trans hS.1 (by omega), fun q h1 h2 => (o1 q (Nat.lt_of_lt_of_le h1 hS.1)).trans (hS.2.1 q h1 h2), hS.2.2⟩ ls hls
  rw [List.map_cons] at h9
  rw [hz']
  exact h9
theorem go_newaI {v : Int32} (N : Nat) (hd : decode M.2.1 pc = .ok (.newarray .int, 2)) (ha : Cond.arrayClass .int ∈ w_S) (hn : ¬ v < 0 ∧ v.toNatClampNeg = N ∧ N * 8 ≤ 536870912) (hc : kc + 1 ≤ R.cells ∧ ks + N ≤ R.slots) (k : Go l E M R K (kc + 1) (ks + N) (newH h (oI N (fun _ => 0))) 0 (pc + 2) lv (.ref h.1 :: st)) : Go l E M R K kc ks h 0 pc lv (.int v :: st) := by
  intro p e s m args below meth c C H locs hW hz hS ls hls
  have hts := C.2.2.2.2.2.1
  have hSF := C.2.2.2.2.2.2.2.1
  have hz' : H.size = eB E + h.1 := hz
  refine va_newaK C.1 C.2.1 (atype := .int) (hts _ ha) rfl hd rfl hn.1 hn.2.1 (by show N * _ ≤ _; have := hn.2.2; simp [componentBytes, newarray.typeOf]; omega) hc.1 hc.2 hz' fun H1 cA e1 z1 o1 hAr hNm => ?_
  have hcA : cA = eC E 0 := by
    have h8 : s.vm.findClass ("[" ++ (newarray.typeOf .int).toString) = some (eC E 0) := (hSF.1.2 0 _ rfl).2
    exact Option.some.inj (hNm.symm.trans h8)
  subst hcA
  have hW1 : Wd E (newH h (oI N (fun _ => 0))) H1 := by
    refine hW.new ?_ (fun q hq => o1 q (by omega))
    show H1[eB E + h.1]? = some (vp_cell _ _)
    rw [e1]
    rfl
  have h9 := k p e s m args below meth c C H1 locs hW1 (by show H1.size = eB E + (h.1 + 1) + 0; omega) ⟨Nat.le_trans hS.1 (by omega), fun q h1 h2 => (o1 q (by have := hS.1; omega)).trans (hS.2.1 q h1 h2), hS.2.2⟩ ls hls
  rw [List.map_cons] at h9
  exact h9
theorem go_newaL {v : Int32} (N : Nat) (hd : decode M.2.1 pc = .ok (.newarray .long, 2)) (ha : Cond.arrayClass .long ∈ w_S) (hn : ¬ v < 0 ∧ v.toNatClampNeg = N ∧ N * 8 ≤ 536870912) (hc : kc + 1 ≤ R.cells ∧ ks + N ≤ R.slots) (k : Go l E M R K (kc + 1) (ks + N) (newH h (oL N (fun _ => 0))) 0 (pc + 2) lv (.ref h.1 :: st)) : Go l E M R K kc ks h 0 pc lv (.int v :: st) := by
  intro p e s m args below meth c C H locs hW hz hS ls hls
  have hts := C.2.2.2.2.2.1
  have hSF := C.2.2.2.2.2.2.2.1
  have hz' : H.size = eB E + h.1 := hz
  refine va_newaK C.1 C.2.1 (atype := .long) (hts _ ha) rfl hd rfl hn.1 hn.2.1 (by show N * _ ≤ _; have := hn.2.2; simp [componentBytes, newarray.typeOf]; omega) hc.1 hc.2 hz' fun H1 cA e1 z1 o1 hAr hNm => ?_
  have hcA : cA = eC E 1 := by
    have h8 : s.vm.findClass ("[" ++ (newarray.typeOf .long).toString) = some (eC E 1) := (hSF.1.2 1 _ rfl).2
    exact Option.some.inj (hNm.symm.trans h8)
  subst hcA
  have hW1 : Wd E (newH h (oL N (fun _ => 0))) H1 := by
    refine hW.new ?_ (fun q hq => o1 q (by omega))
    show H1[eB E + h.1]? = some (vp_cell _ _)
    rw [e1]
    rfl
  have h9 := k p e s m args below meth c C H1 locs hW1 (by show H1.size = eB E + (h.1 + 1) + 0; omega) ⟨Nat.le_trans hS.1 (by omega), fun q h1 h2 => (o1 q (by have := hS.1; omega)).trans (hS.2.1 q h1 h2), hS.2.2⟩ ls hls
  rw [List.map_cons] at h9
  exact h9
theorem go_newq0 {v : Int32} (N : Nat) (hd : decode M.2.1 pc = .ok (.anewarray idx, 3)) (lk : Cond.classLink M.1.cls idx "NumberPlace$State" ∈ w_S) (hn : ¬ v < 0 ∧ v.toNatClampNeg = N ∧ N * 8 ≤ 536870912) (hc : kc + 1 ≤ R.cells ∧ ks + N ≤ R.slots) (k : Go l E M R (KI K) (kc + 1) (ks + N) (newH h (oR 0 N (fun _ => none))) 0 (pc + 3) lv (.ref h.1 :: st)) : Go l E M R (KI K) kc ks h 0 pc lv (.int v :: st) := by
  intro p e s m args below meth c C H locs hW hz hS ls hls
  refine W_imp fun hX => ?_
  have hts := C.2.2.2.2.2.1
  have hSF := C.2.2.2.2.2.2.2.1
  have hz' : H.size = eB E + h.1 := hz
  obtain ⟨h0, hN, hb8⟩ := hn
  subst hN
  refine W.anew C.1 C.2.1 C.2.2.2.2.1 (hts _ lk) (va_AO.use hX.2.1.1) rfl hd rfl h0 (by omega) hc.1 hc.2 fun cA kA comp f1 f2 f3 f4 => ?_
  generalize hH1 : H.push ({ cls := cA, slots := Array.replicate v.toNatClampNeg .null, vm := .none } : Cell) = H1
  have z1 : H1.size = H.size + 1 := by rw [← hH1, Array.size_push]
  have e1 : H1[H.size]? = some (arrV cA v.toNatClampNeg (fun _ => .null)) := by rw [← hH1, Array.getElem?_push_size, ← arrV_new]
  have o1 : ∀ q : Nat, q < H.size → H1[q]? = H[q]? := fun q hq => by rw [← hH1, Array.getElem?_push, if_neg (Nat.ne_of_lt hq)]
  have hcA : cA = eC E 2 := by
    obtain ⟨_, _, _, _, _, h8⟩ := (hSF.1.2 2 _ rfl).2
    exact Option.some.inj (f1.symm.trans h8)
  subst hcA
  rw [hz'] at e1
  have hW1 : Wd E (newH h (oR 0 v.toNatClampNeg (fun _ => none))) H1 := by
    refine hW.new ?_ o1
    show H1[eB E + h.1]? = some (vp_cell _ _)
    rw [e1]
    rfl
  have h9 := W_use hX (k p e s m args below meth c C H1 locs hW1 (by show H1.size = eB E + (h.1 + 1) + 0; omega) ⟨Nat.le_trans hS.1 (by omega), fun q h1 h2 => (o1 q (Nat.lt_of_lt_of_le h1 hS.1)).trans (hS.2.1 q h1 h2), hS.2.2⟩ ls hls)
  rw [List.map_cons] at h9
  rw [hz']
  exact h9
theorem go_newq1 {v : Int32} (N : Nat) (hd : decode M.2.1 pc = .ok (.anewarray idx, 3)) (lk : Cond.classLink M.1.cls idx "NumberPlace$Position" ∈ w_S) (hn : ¬ v < 0 ∧ v.toNatClampNeg = N ∧ N * 8 ≤ 536870912) (hc : kc + 1 ≤ R.cells ∧ ks + N ≤ R.slots) (k : Go l E M R (KI K) (kc + 1) (ks + N) (newH h (oR 1 N (fun _ => none))) 0 (pc + 3) lv (.ref h.1 :: st)) : Go l E M R (KI K) kc ks h 0 pc lv (.int v :: st) := by
  intro p e s m args below meth c C H locs hW hz hS ls hls
  refine W_imp fun hX => ?_
  have hts := C.2.2.2.2.2.1
  have hSF := C.2.2.2.2.2.2.2.1
  have hz' : H.size = eB E + h.1 := hz
  obtain ⟨h0, hN, hb8⟩ := hn
  subst hN
  refine W.anew C.1 C.2.1 C.2.2.2.2.1 (hts _ lk) (va_AO.use hX.2.1.2) rfl hd rfl h0 (by omega) hc.1 hc.2 fun cA kA comp f1 f2 f3 f4 => ?_
  generalize hH1 : H.push ({ cls := cA, slots := Array.replicate v.toNatClampNeg .null, vm := .none } : Cell) = H1
  have z1 : H1.size = H.size + 1 := by rw [← hH1, Array.size_push]
  have e1 : H1[H.size]? = some (arrV cA v.toNatClampNeg (fun _ => .null)) := by rw [← hH1, Array.getElem?_push_size, ← arrV_new]
  have o1 : ∀ q : Nat, q < H.size → H1[q]? = H[q]? := fun q hq => by rw [← hH1, Array.getElem?_push, if_neg (Nat.ne_of_lt hq)]
  have hcA : cA = eC E 3 := by
    obtain ⟨_, _, _, _, _, h8⟩ := (hSF.1.2 3 _ rfl).2
    exact Option.some.inj (f1.symm.trans h8)
  subst hcA
  rw [hz'] at e1
  have hW1 : Wd E (newH h (oR 1 v.toNatClampNeg (fun _ => none))) H1 := by
    refine hW.new ?_ o1
    show H1[eB E + h.1]? = some (vp_cell _ _)
    rw [e1]
    rfl
  have h9 := W_use hX (k p e s m args below meth c C H1 locs hW1 (by show H1.size = eB E + (h.1 + 1) + 0; omega) ⟨Nat.le_trans hS.1 (by omega), fun q h1 h2 => (o1 q (Nat.lt_of_lt_of_le h1 hS.1)).trans (hS.2.1 q h1 h2), hS.2.2⟩ ls hls)
  rw [List.map_cons] at h9
  rw [hz']
  exact h9
theorem sR_x {a v : Nat} {i : Int32} (e : sR h a i v = some h1) : ∃ t n f fs, h.2 a = oR t n f ∧ h.2 v = .inl (rcl t, fs) ∧ vp_in i n ∧ t < 2 ∧ h1 = hset h a (oR t n (va_up f i.toNatClampNeg (some v))) := by
  unfold sR at e
  split at e
  · rename_i t n f c fs q1 q2
    split at e
    · rename_i q3
      obtain ⟨q3, q4, q5⟩ := q3
      subst q5
      cases e
      exact ⟨t, n, f, fs, q1, q2, q3, q4, rfl⟩
    · cases e
  · cases e
theorem go_aastore {a v : Nat} {i : Int32} (hv : sR h a i v = some h1) (hd : decode M.2.1 pc = .ok (.aastore, 1)) (k : Go l E M R K kc ks h1 x (pc + 1) lv st) : Go l E M R K kc ks h x pc lv (.ref v :: .int i :: .ref a :: st) := by
  intro p e s m args below meth c C H locs hW hz hS ls hls
  obtain ⟨t, n, f, fs, ha, hv2, hin, ht, rfl⟩ := sR_x hv
  have hSF := C.2.2.2.2.2.2.2.1
  have hci : rcl t < cls_L.length := by unfold rcl; split <;> decide
  have hd0 : oR t n f ≠ pdead := fun q => nomatch q
  have hca := hW.at ha hd0
  have hlt : i.toNatClampNeg < n := Nat.not_le.mp fun q => hin (Or.inr q)
  have h0 : ¬ i < 0 := fun q => hin (Or.inl q)
  obtain ⟨r', hr', cellV, g1, g2, g3, -⟩ := hW.at hv2 (ci_lt2 hci)
  have hcls := (hSF.1.1 (rcl t) _ (w_cls hci)).2
  obtain ⟨kA, comp, k1, k2, k3⟩ := SF_arr hSF ht
  have hcomp : comp = (eD E).1 (rcl t) := Option.some.inj (k3.symm.trans hcls.1)
  subst hcomp
  obtain ⟨kC, hkC, -⟩ := hcls.2
  refine W.aast C.1 C.2.1 hca (fun q h => by cases h) (fun h => by cases h) k1 k2 rfl hkC ⟨h0, by show _ < (arrV _ _ _).slots.size; rw [arrV_size]; exact hlt⟩ g1 (fun q h => by rw [g3] at h; cases h) (by rw [g2]; exact hkC) (by rw [g2]; exact va_assign hcls) rfl rfl hd fun H1 e1 e2 e3 => ?_
  refine k p e s m args below meth c C H1 _ (hW.put ha hd0 ?_ e3) (e2.trans hz) (hS.put e2 e3 (Nat.le_add_right _ _)) ls hls
  show H1[eB E + a]? = some (vp_cell _ _)
  rw [e1]
  show some ((vp_cell _ _).setSlot _ _) = some (vp_cell _ _)
  rw [vp_cell_q, vp_cell_q, arrV_store]
  congr 2
  funext q
  by_cases hq : q = i.toNatClampNeg
  · subst hq
    simp [updV, va_up, va_rf]
  · simp [updV, va_up, hq]
/-- a final field, in the class's own constructor -/
theorem go_putF {idx a ci k : Nat} {v : Nat} (hd : decode M.2.1 pc = .ok (.putfield idx, 3)) (hv : pV h a ci k (.ref v) = some h1) (hl : FL false M.1.cls idx ci k) (hfin : ((cT ci).2.1 k).2.2.2 = true) (hin : M.1.name = "<init>") (hown9 : ((cT ci).2.1 k).1 = M.1.cls) (ht : (∃ t, cTy ci k = .array t) ∨ ∃ t, cTy ci k = .object t) (kk : Go l E M R K kc ks h1 x (pc + 3) lv st) : Go l E M R K kc ks h x pc lv (.ref v :: .ref a :: st) := by
  intro p e s m args below meth c C H locs hW hz hS ls hls
  obtain ⟨fs, ha, hlen, rfl⟩ := pV_x hv
  obtain ⟨hci, hk, hw⟩ := hl
  have hnd := ci_lt2 (fs := fs) hci
  have hSF := C.2.2.2.2.2.2.2.1
  have hap := va_apart (own := M.1.cls) C.2.2.2.2.2.1 (w_lays ci hci) (cTy ci) (w_tys ci hci) (w_nms ci hci) hSF.1 (w_cls hci)
  obtain ⟨r, q0, cell, q1, q2, q3, q4⟩ := hW.at ha hnd
  have hr : r = cT ci := Option.some.inj (q0.symm.trans (w_cls hci))
  subst hr
  obtain ⟨hSl, hfc, kC, hkC, hkind⟩ := hSF.1.1 ci _ (w_cls hci)
  obtain ⟨cf, kf, fi, f, hi, hsl⟩ := hSl k hk
  have hlay := C.2.2.2.2.2.1 _ (w_lays ci hci _ (u_in_lay hk))
  unfold u_lay at hlay
  rw [if_pos hfin] at hlay
  have hst := (u_facts hfc hkC (u_lays C.2.2.2.2.2.1 (w_lays ci hci) hk) hi).1
  have hcf : m.cls = cf := by
    obtain ⟨_, _, c', _, _, _, -, -, hf', -, -, -, hown2, -⟩ := Cond.laysFinal_spec hlay
    have e1 : c' = cf := by have := hi.symm.trans hf'; simp at this; exact this.1.symm
    rw [hown9] at hown2
    rw [← e1]; exact Option.some.inj (C.2.2.2.2.1.symm.trans hown2)
  have hnf : narrow (cTy ci k) (.ref (eB E + v)) = .ref (eB E + v) ∧ fits (cTy ci k) (.ref (eB E + v)) = true := by
    rcases ht with ⟨t, ht⟩ | ⟨t, ht⟩ <;> rw [ht] <;> exact ⟨rfl, rfl⟩
  have h6 := u_fits hfc hkC hkind (Or.inr hlay) hi (w_tys ci hci k hk) hnf.1 hnf.2
  have hsame : ∀ y, s.fieldFound? ((cT ci).2.1 k).1 ((cT ci).2.1 k).2.1 ((cT ci).2.1 k).2.2.1 = some y → s.fieldFound? (cT ci).1 ((cT ci).2.1 k).2.1 ((cT ci).2.1 k).2.2.1 = some y := fun y q => by rw [w_own ci hci k hk] at q; exact q
  refine W.putFinK C.1 C.2.1 C.2.2.2.2.1 (C.2.2.2.2.2.1 _ hw) (hsame _ hi) hst hcf (C.2.2.2.2.2.2.2.2.trans hin) (by rw [q2]; exact h6) q1 q3 (by rw [hsl]; exact k2_hasslot (q4 k hk)) rfl rfl hd fun H' e1 e2 e3 => ?_
  rw [hsl] at e1 ⊢
  refine kk p e s m args below meth c C H' _ (hW.put ha hnd ⟨_, w_cls hci, t_OB.to (V := updV (vp_V (fs.map (mv E))) k (mv E (.ref v))) ⟨_, e1, q2, q3, t_set q4 hap hk (mv E (.ref v))⟩ (fun j _ => ?_)⟩ e3) (e2.trans hz) (hS.put e2 e3 (Nat.le_add_right _ _)) ls hls
  rw [vp_updV_set (by rw [List.length_map]; exact hlen), List.map_set]
/-- Object's constructor -/
theorem go_obj {a : Nat} (hd : decode M.2.1 pc = .ok (.invokespecial idx, 3)) (hw : Cond.methodLink M.1.cls idx objectInit ∈ w_S ∧ Cond.instanceMethod objectInit ∈ w_S ∧ Cond.code objectInit ⟨#[0xb1]⟩ 1 none ∈ w_S) (hR : 1 ≤ R.frames ∧ 60 ≤ R.locals) (hst : (st.map fun v => v.category).sum ≤ 8) (k : Go l E M R K kc ks h x (pc + 3) lv st) : Go l E M R K kc ks h x pc lv (.ref a :: st) := by
  intro p e s m args below meth c C H locs hW hz hS ls hls
  have hts := C.2.2.2.2.2.1
  have hst' := stc (E := E) hst
  refine W.objInit C.1 C.2.1 C.2.2.2.2.1 (hts _ hw.1) (hts _ hw.2.1) (hts _ hw.2.2) rfl (by rw [C.2.2.2.1]; exact hls.1) rfl hd hR.1 ?_ (k p e s m args below meth c C H locs hW hz hS ls hls)
  have := lv_room (m := m) (pc := pc) (ls := ls) (rest := (Value.ref a :: st).map (mv E)) hst'
  omega
theorem go_callC (hf : FnC l E Mc d' mc ms (.ref b :: As) h (PoE none h1 0)) (lk : LkI bn M.1.cls idx Mc n) (hs : st0 = As.reverse ++ .ref b :: st) (hn : As.length = n) (hR : d' + 1 ≤ R.frames ∧ 60 * d' + 60 ≤ R.locals) (hst : (st.map fun v => v.category).sum ≤ 8) (hcell : kc + mc ≤ R.cells ∧ ks + ms ≤ R.slots) (hd : decode M.2.1 pc = .ok (.invokespecial idx, 3))
    (kk : Go l E M R (KI K) (kc + mc) (ks + ms) h1 0 (pc + 3) lv st) : Go l E M R (KI K) kc ks h 0 pc lv st0 := by
  intro p e s m args below meth c C H locs hW hz hS ls hls
  refine W_imp fun hX => ?_
  subst hs
  obtain ⟨l1, l2, ⟨l3, l4⟩, hM⟩ := lk
  have hSF := C.2.2.2.2.2.2.2.1
  have hts := C.2.2.2.2.2.1
  have hpre : PreS s H (va_Pc ((Value.ref b :: As).map (mv E)) (fun U => World E h 0 U ∧ XF U)) (Value.ref (eB E + b) :: As.map (mv E)) := ⟨WorldX.blind, fun U hU hw => ⟨rfl, World.start hW hz hS hSF hU hw, XF.warm hw hX⟩⟩
  have hstack : ((As.reverse ++ Value.ref b :: st).map (mv E)) = (As.map (mv E)).reverse ++ .ref (eB E + b) :: st.map (mv E) := by
    rw [List.map_append, List.map_reverse]
    rfl
  have hR9 : (rm d' mc ms).frames + 1 ≤ R.frames ∧ 8 + (Mc.2.2.1 + 11) + (rm d' mc ms).locals ≤ R.locals := ⟨hR.1, by show 8 + (Mc.2.2.1 + 11) + 60 * d' ≤ _; have := hM.2.2.2; have := hR.2; omega⟩
  have hws : wsM Mc = Cond.code Mc.1 Mc.2.1 Mc.2.2.1 none :: w_S := by rw [wsM, l4]
  have run : va_Run p l e R s m args below meth c H locs kc ks mc ms (F0 m pc ls ((As.reverse ++ Value.ref b :: st).map (mv E))) (st.map (mv E)) (Qp E (PoE none h1 0) (Value.ref (eB E + b) :: As.map (mv E)).toArray) (eA E) := by
    cases bn with
    | false =>
      exact va_runI ⟨C.1, C.2.1, C.2.2.2.1, C.2.2.2.2.1, hts⟩ hf (cwI n hts hM.good hws rfl rfl (hts _ hM.2.1) (hts _ l1) (hts _ l2) l3 hM.2.2.1 hR9) hpre rfl ((List.length_map _).trans hn) hls.1 hstack (lv_room (stc hst)) hd hcell
    | true =>
      exact va_runIN ⟨C.1, C.2.1, C.2.2.2.1, C.2.2.2.2.1, hts⟩ hf ⟨va_cnB n hts hM.good hws rfl rfl (hSF.2.1 _ l1) (hts _ hM.2.1) hM.2.2.1 hR9, l3, hts _ l2⟩ hpre rfl ((List.length_map _).trans hn) hls.1 hstack (lv_room (stc hst)) hd hcell
  refine go_after run hS fun v h' x' hp H1 locs1 hW1 hz1 hS1 => ?_
  obtain ⟨rfl, rfl, rfl⟩ := hp
  exact W_use hX (kk p e s m args below meth c C H1 locs1 hW1 hz1 hS1 ls hls)
end GON
theorem ob_Np_1 : Cond.methodLink "NumberPlace" 1 objectInit ∈ w_S ∧ Cond.instanceMethod objectInit ∈ w_S ∧ Cond.code objectInit ⟨#[0xb1]⟩ 1 none ∈ w_S := ⟨w_in 27 (by decide +kernel) (by decide +kernel), w_in 28 (by decide +kernel) (by decide +kernel), w_in 29 (by decide +kernel) (by decide +kernel)⟩
theorem ob_Log_1 : Cond.methodLink "NumberPlace$Log" 1 objectInit ∈ w_S ∧ Cond.instanceMethod objectInit ∈ w_S ∧ Cond.code objectInit ⟨#[0xb1]⟩ 1 none ∈ w_S := ⟨w_in 123 (by decide +kernel) (by decide +kernel), w_in 28 (by decide +kernel) (by decide +kernel), w_in 29 (by decide +kernel) (by decide +kernel)⟩
theorem ob_Pos_3 : Cond.methodLink "NumberPlace$Position" 3 objectInit ∈ w_S ∧ Cond.instanceMethod objectInit ∈ w_S ∧ Cond.code objectInit ⟨#[0xb1]⟩ 1 none ∈ w_S := ⟨w_in 41 (by decide +kernel) (by decide +kernel), w_in 28 (by decide +kernel) (by decide +kernel), w_in 29 (by decide +kernel) (by decide +kernel)⟩
theorem ob_Txt_3 : Cond.methodLink "NumberPlace$PuzzleText" 3 objectInit ∈ w_S ∧ Cond.instanceMethod objectInit ∈ w_S ∧ Cond.code objectInit ⟨#[0xb1]⟩ 1 none ∈ w_S := ⟨w_in 160 (by decide +kernel) (by decide +kernel), w_in 28 (by decide +kernel) (by decide +kernel), w_in 29 (by decide +kernel) (by decide +kernel)⟩
theorem ob_Rea_3 : Cond.methodLink "NumberPlace$Reasoner" 3 objectInit ∈ w_S ∧ Cond.instanceMethod objectInit ∈ w_S ∧ Cond.code objectInit ⟨#[0xb1]⟩ 1 none ∈ w_S := ⟨w_in 182 (by decide +kernel) (by decide +kernel), w_in 28 (by decide +kernel) (by decide +kernel), w_in 29 (by decide +kernel) (by decide +kernel)⟩
theorem ob_Rul_3 : Cond.methodLink "NumberPlace$Rules" 3 objectInit ∈ w_S ∧ Cond.instanceMethod objectInit ∈ w_S ∧ Cond.code objectInit ⟨#[0xb1]⟩ 1 none ∈ w_S := ⟨w_in 73 (by decide +kernel) (by decide +kernel), w_in 28 (by decide +kernel) (by decide +kernel), w_in 29 (by decide +kernel) (by decide +kernel)⟩
theorem ob_Shu_1 : Cond.methodLink "NumberPlace$Shuffler" 1 objectInit ∈ w_S ∧ Cond.instanceMethod objectInit ∈ w_S ∧ Cond.code objectInit ⟨#[0xb1]⟩ 1 none ∈ w_S := ⟨w_in 281 (by decide +kernel) (by decide +kernel), w_in 28 (by decide +kernel) (by decide +kernel), w_in 29 (by decide +kernel) (by decide +kernel)⟩
theorem ob_Siv_3 : Cond.methodLink "NumberPlace$Sieve" 3 objectInit ∈ w_S ∧ Cond.instanceMethod objectInit ∈ w_S ∧ Cond.code objectInit ⟨#[0xb1]⟩ 1 none ∈ w_S := ⟨w_in 188 (by decide +kernel) (by decide +kernel), w_in 28 (by decide +kernel) (by decide +kernel), w_in 29 (by decide +kernel) (by decide +kernel)⟩
theorem ob_Sol_3 : Cond.methodLink "NumberPlace$Solver" 3 objectInit ∈ w_S ∧ Cond.instanceMethod objectInit ∈ w_S ∧ Cond.code objectInit ⟨#[0xb1]⟩ 1 none ∈ w_S := ⟨w_in 232 (by decide +kernel) (by decide +kernel), w_in 28 (by decide +kernel) (by decide +kernel), w_in 29 (by decide +kernel) (by decide +kernel)⟩
theorem ob_Sta_3 : Cond.methodLink "NumberPlace$State" 3 objectInit ∈ w_S ∧ Cond.instanceMethod objectInit ∈ w_S ∧ Cond.code objectInit ⟨#[0xb1]⟩ 1 none ∈ w_S := ⟨w_in 35 (by decide +kernel) (by decide +kernel), w_in 28 (by decide +kernel) (by decide +kernel), w_in 29 (by decide +kernel) (by decide +kernel)⟩
theorem ob_Mo_1 : Cond.methodLink "NumberPlaceModel" 1 objectInit ∈ w_S ∧ Cond.instanceMethod objectInit ∈ w_S ∧ Cond.code objectInit ⟨#[0xb1]⟩ 1 none ∈ w_S := ⟨w_in 1004 (by decide +kernel) (by decide +kernel), w_in 28 (by decide +kernel) (by decide +kernel), w_in 29 (by decide +kernel) (by decide +kernel)⟩
theorem nw_Np_7 : NwL "NumberPlace" 7 8 := ⟨by decide, w_in 30 (by decide +kernel) (by decide +kernel), w_in 31 (by decide +kernel) (by decide +kernel), w_in 2 (by decide +kernel) (by decide +kernel)⟩
theorem nq_Np_7 : Cond.classLink "NumberPlace" 7 "NumberPlace$State" ∈ w_S := w_in 30 (by decide +kernel) (by decide +kernel)
theorem nw_Np_23 : NwL "NumberPlace" 23 2 := ⟨by decide, w_in 155 (by decide +kernel) (by decide +kernel), w_in 156 (by decide +kernel) (by decide +kernel), w_in 7 (by decide +kernel) (by decide +kernel)⟩
theorem nw_Np_30 : NwL "NumberPlace" 30 1 := ⟨by decide, w_in 175 (by decide +kernel) (by decide +kernel), w_in 37 (by decide +kernel) (by decide +kernel), w_in 3 (by decide +kernel) (by decide +kernel)⟩
theorem nq_Np_30 : Cond.classLink "NumberPlace" 30 "NumberPlace$Position" ∈ w_S := w_in 175 (by decide +kernel) (by decide +kernel)
theorem nw_Np_37 : NwL "NumberPlace" 37 3 := ⟨by decide, w_in 177 (by decide +kernel) (by decide +kernel), w_in 178 (by decide +kernel) (by decide +kernel), w_in 8 (by decide +kernel) (by decide +kernel)⟩
theorem nw_Np_44 : NwL "NumberPlace" 44 7 := ⟨by decide, w_in 227 (by decide +kernel) (by decide +kernel), w_in 228 (by decide +kernel) (by decide +kernel), w_in 10 (by decide +kernel) (by decide +kernel)⟩
theorem nw_Np_54 : NwL "NumberPlace" 54 5 := ⟨by decide, w_in 276 (by decide +kernel) (by decide +kernel), w_in 277 (by decide +kernel) (by decide +kernel), w_in 11 (by decide +kernel) (by decide +kernel)⟩
theorem nw_Rea_9 : NwL "NumberPlace$Reasoner" 9 6 := ⟨by decide, w_in 183 (by decide +kernel) (by decide +kernel), w_in 184 (by decide +kernel) (by decide +kernel), w_in 9 (by decide +kernel) (by decide +kernel)⟩
theorem nw_Sol_9 : NwL "NumberPlace$Solver" 9 3 := ⟨by decide, w_in 233 (by decide +kernel) (by decide +kernel), w_in 178 (by decide +kernel) (by decide +kernel), w_in 8 (by decide +kernel) (by decide +kernel)⟩
theorem nw_Sol_18 : NwL "NumberPlace$Solver" 18 1 := ⟨by decide, w_in 235 (by decide +kernel) (by decide +kernel), w_in 37 (by decide +kernel) (by decide +kernel), w_in 3 (by decide +kernel) (by decide +kernel)⟩
theorem nq_Sol_18 : Cond.classLink "NumberPlace$Solver" 18 "NumberPlace$Position" ∈ w_S := w_in 235 (by decide +kernel) (by decide +kernel)
theorem nw_Sta_9 : NwL "NumberPlace$State" 9 1 := ⟨by decide, w_in 36 (by decide +kernel) (by decide +kernel), w_in 37 (by decide +kernel) (by decide +kernel), w_in 3 (by decide +kernel) (by decide +kernel)⟩
theorem nq_Sta_9 : Cond.classLink "NumberPlace$State" 9 "NumberPlace$Position" ∈ w_S := w_in 36 (by decide +kernel) (by decide +kernel)
theorem nw_Sta_18 : NwL "NumberPlace$State" 18 4 := ⟨by decide, w_in 68 (by decide +kernel) (by decide +kernel), w_in 69 (by decide +kernel) (by decide +kernel), w_in 4 (by decide +kernel) (by decide +kernel)⟩
theorem nw_Sta_29 : NwL "NumberPlace$State" 29 0 := ⟨by decide, w_in 118 (by decide +kernel) (by decide +kernel), w_in 119 (by decide +kernel) (by decide +kernel), w_in 6 (by decide +kernel) (by decide +kernel)⟩
theorem nw_Law_8 : NwL "NumberPlaceLaw" 8 9 := ⟨by decide, w_in 22 (by decide +kernel) (by decide +kernel), w_in 23 (by decide +kernel) (by decide +kernel), w_in 1 (by decide +kernel) (by decide +kernel)⟩
theorem nw_Law_75 : NwL "NumberPlaceLaw" 75 10 := ⟨by decide, w_in 999 (by decide +kernel) (by decide +kernel), w_in 1000 (by decide +kernel) (by decide +kernel), w_in 12 (by decide +kernel) (by decide +kernel)⟩
theorem ac_int : Cond.arrayClass .int ∈ w_S := w_in 117 (by decide +kernel) (by decide +kernel)
theorem ac_long : Cond.arrayClass .long ∈ w_S := w_in 67 (by decide +kernel) (by decide +kernel)
