/-! The pure heap: cells by number (the order in which they were made); a method's step over it, apart from the machine. -/
/-- an object (class, fields), a row of ints, a row of longs, a row of references (kind, length, entries) -/
abbrev PC : Type := (Nat × List Value) ⊕ ((Nat × (Nat → Int32)) ⊕ ((Nat × (Nat → Int64)) ⊕ (Nat × Nat × (Nat → Option Nat))))
abbrev oO (ci : Nat) (fs : List Value) : PC := .inl (ci, fs)
abbrev oI (n : Nat) (f : Nat → Int32) : PC := .inr (.inl (n, f))
abbrev oL (n : Nat) (f : Nat → Int64) : PC := .inr (.inr (.inl (n, f)))
abbrev oR (t n : Nat) (f : Nat → Option Nat) : PC := .inr (.inr (.inr (t, n, f)))
/-- how many cells, and what each is -/
abbrev PH : Type := Nat × (Nat → PC)
def pdead : PC := .inl (99, [])
def hset (h : PH) (a : Nat) (c : PC) : PH := (h.1, fun k => if k = a then c else h.2 k)
theorem hset_1 (h : PH) (a : Nat) (c : PC) : (hset h a c).1 = h.1 := rfl
theorem hset_s (h : PH) (a : Nat) (c : PC) : (hset h a c).2 a = c := by simp [hset]
theorem hset_n (h : PH) {a k : Nat} (c : PC) (n : k ≠ a) : (hset h a c).2 k = h.2 k := by simp [hset, n]
/-- the setting: numbers of classes and slots, classes of rows, first cell, what stands for the static row and the script, the script -/
abbrev ET : Type := (va_G × (Nat → ClassId)) × ((Nat × (Nat → Nat)) × (Nat × (Nat → Int32)))
def eD (E : ET) : va_G := E.1.1
def eC (E : ET) : Nat → ClassId := E.1.2
def eB (E : ET) : Nat := E.2.1.1
def eS (E : ET) : Nat → Nat := E.2.1.2
def eL (E : ET) : Nat := E.2.2.1
def eX (E : ET) : Nat → Int32 := E.2.2.2
def eA (E : ET) : Nat → Prop := fun q => eB E ≤ q
/-- a value as the machine has it: '.ref k' is the k-th cell, '.retAddr 0' the static row, '.retAddr 1' the script -/
def mv (E : ET) : Value → Value
  | .ref a => .ref (eB E + a)
  | .retAddr j => .ref (eS E j)
  | v => v
theorem mv_cat (E : ET) (v : Value) : (mv E v).category = v.category := by cases v <;> rfl
def mvl (E : ET) (q : Nat × Value) : Nat × Value := (q.1, mv E q.2)
def upc (E : ET) : PC → va_E
  | .inl (ci, fs) => .inr (ci, fs.map (mv E))
  | .inr (.inl (n, f)) => .inl (eC E 0, n, .inl f)
  | .inr (.inr (.inl (n, f))) => .inl (eC E 1, n, .inr (.inl f))
  | .inr (.inr (.inr (t, n, f))) => .inl (eC E (2 + t), n, .inr (.inr (.inr (.inr (fun j => (f j).map (fun k => eB E + k))))))
def eT (E : ET) : List (ClassId × FieldType) := [(eC E 0, .int), (eC E 1, .long), (eC E 2, .object "NumberPlace$State"), (eC E 3, .object "NumberPlace$Position")]
/-- the pure heap is there -/
def Wd (E : ET) (h : PH) (H : Heap) : Prop := (∀ k, k < h.1 → va_at (eD E) cls_L (eB E + k, upc E (h.2 k)) H) ∧ ∀ k, h.1 ≤ k → h.2 k = pdead
def uRow : List Int64 := [63, 4032, 258048, 16515072, 1056964608, 67645734912, 1090785345, 2181570690, 4363141380, 8726282760, 17452565520, 34905131040, 455, 3640, 1863680, 14909440, 7633633280, 61069066240]
def uVal (j : Nat) : Int64 := uRow.getD j 0
/-- the static row -/
def UA (E : ET) (U : State) (H : Heap) : Prop := ∃ c : Cell, H[eS E 0]? = some c ∧ U.isArrayOf c .long ∧ c.vm ≠ .unknown ∧ 18 ≤ c.slots.size ∧ ∀ j : Nat, j < 18 → c.slots[j]? = some (.long (uVal j))
/-- what stays as long as the law runs -/
def SF (E : ET) (U : State) (H : Heap) : Prop :=
  va_K (eD E) cls_L (eT E) U ∧ (∀ w ∈ w_N, va_Nw w U) ∧ va_Z "NumberPlace$Grid" "UNIT_CELLS" "[J" (.ref (eS E 0)) (eA E) U H ∧ UA E U H ∧ va_X (eS E 1) (eL E) (eX E) U H ∧
  (vx_Zq "java/lang/Throwable" "UNASSIGNED_STACK" "[Ljava/lang/StackTraceElement;" (eA E) U H ∧ vx_Zq "java/lang/Throwable" "SUPPRESSED_SENTINEL" "Ljava/util/List;" (eA E) U H) ∧ eS E 0 < eB E ∧ eS E 1 < eB E ∧ eB E ≤ H.size
theorem SF.move {E : ET} {s U : State} {H H1 : Heap} (hal : s.vm.Alike U.vm) (hnw : ∀ w ∈ w_N, va_Nw w s → va_Nw w U) (hz : H.size ≤ H1.size) (hq : ∀ q : Nat, q < H.size → ¬ eA E q → H1[q]? = H[q]?) (h : SF E s H) : SF E U H1 := by
  obtain ⟨h1, h2, h3, h4, h5, ⟨h6, h7⟩, h8, h9, h10⟩ := h
  have n0 : ¬ eA E (eS E 0) := Nat.not_le.mpr h8
  have n1 : ¬ eA E (eS E 1) := Nat.not_le.mpr h9
  refine ⟨h1.moved hal, fun w hw => hnw w hw (h2 w hw), (h3.moved hal).kept hq, ?_, (h5.moved hal).kept (hq _ (Nat.lt_of_lt_of_le h9 h10) n1), ⟨(h6.moved hal).kept hq, (h7.moved hal).kept hq⟩, h8, h9, Nat.le_trans h10 hz⟩
  obtain ⟨c, a1, a2, a3, a4, a5⟩ := h4
  exact ⟨c, by rw [hq _ (Nat.lt_of_lt_of_le h8 h10) n0]; exact a1, State.isArrayOf_alike hal a2, a3, a4, a5⟩
theorem w_N_warm {s U : State} (hW : s.WarmedH U.vm) : ∀ w ∈ w_N, va_Nw w s → va_Nw w U := by
  intro w hw h
  have h1 := (List.mem_filter.mp hw).2
  cases w <;> first | exact va_Nw.warmF hW h | exact va_Nw.warmM hW h | (simp [w_nest] at h1)
theorem w_N_same {s U : State} (e : s.vm = U.vm) : ∀ w ∈ w_N, va_Nw w s → va_Nw w U := by
  intro w hw h
  have h1 := (List.mem_filter.mp hw).2
  cases w <;> first | exact va_Nw.same rfl e h | (simp [w_nest] at h1)
/-- the world of a contract: x cells more than the pure heap knows lie above it -/
def World (E : ET) (h : PH) (x : Nat) (U : State) : Prop := Wd E h U.heap ∧ U.heap.size = eB E + h.1 + x ∧ SF E U U.heap
abbrev KT : Type := Program → Env → State → MethodId → Array Value → List Frame → Method → Code → State → Prop
/-- a method: its name, its bytes, its locals, its answer's type -/
abbrev MT : Type := MethodName × ByteArray × Nat × Option FieldType
def Cx (E : ET) (M : MT) (p : Program) (s : State) (m : MethodId) (args : Array Value) (meth : Method) (c : Code) : Prop :=
  p.tables.exec = Jvm.exec ∧ c.code = M.2.1 ∧ meth.sig.returnType = M.2.2.2 ∧ c.maxLocals = M.2.2.1 ∧ s.vm.findClass M.1.cls = some m.cls ∧ (∀ w ∈ w_S, w.before args s = true) ∧ meth.locks = false ∧ SF E s s.heap ∧ meth.name = M.1.name
/-- THE JUDGEMENT: from here the method comes to K -/
def Go (l : Launch) (E : ET) (M : MT) (R : Room) (K : KT) (kc ks : Nat) (h : PH) (x : Nat) (pc : Nat) (lv : List (Nat × Value)) (st : List Value) : Prop :=
  ∀ (p : Program) (e : Env) (s : State) (m : MethodId) (args : Array Value) (below : List Frame) (meth : Method) (c : Code), Cx E M p s m args meth c →
  ∀ (H : Heap) (locs : List Loc), Wd E h H → H.size = eB E + h.1 + x → va_S (eA E) s.heap H locs → ∀ ls : Array Slot, lv_has ls M.2.2.1 (lv.map (mvl E)) →
  W p l e R s m args below meth c H locs kc ks (K p e s m args below meth c) (F0 m pc ls (st.map (mv E)))
def stI (i : Nat) (v : Value) (lv : List (Nat × Value)) : List (Nat × Value) := (i, v) :: lv.filter (fun q => !(q.1 == i) && !(q.1 + 1 == i && q.2.category == 2))
def stJ (i : Nat) (v : Value) (lv : List (Nat × Value)) : List (Nat × Value) := (i, v) :: lv.filter (fun q => !(q.1 == i) && (!(q.1 == i + 1) && !(q.1 + 1 == i && q.2.category == 2)))
theorem stI_map (E : ET) (i : Nat) (v : Value) (lv : List (Nat × Value)) : (i, mv E v) :: (lv.map (mvl E)).filter (fun q => !(q.1 == i) && !(q.1 + 1 == i && q.2.category == 2)) = (stI i v lv).map (mvl E) := by
  rw [stI, List.map_cons, List.filter_map]
  congr 2
  apply List.filter_congr
  intro q _
  simp [mvl, mv_cat]
theorem stJ_map (E : ET) (i : Nat) (v : Value) (lv : List (Nat × Value)) : (i, mv E v) :: (lv.map (mvl E)).filter (fun q => !(q.1 == i) && (!(q.1 == i + 1) && !(q.1 + 1 == i && q.2.category == 2))) = (stJ i v lv).map (mvl E) := by
  rw [stJ, List.map_cons, List.filter_map]
  congr 2
  apply List.filter_congr
  intro q _
  simp [mvl, mv_cat]
theorem lvm {E : ET} {lv : List (Nat × Value)} {k i : Nat} {v : Value} (h : lv[k]? = some (i, v)) : (lv.map (mvl E))[k]? = some (i, mv E v) := by rw [List.getElem?_map, h]; rfl
section GOR
variable {l : Launch} {E : ET} {M : MT} {R : Room} {K : KT} {kc ks : Nat} {h : PH} {x : Nat} {pc : Nat} {lv lv' : List (Nat × Value)} {st : List Value}
theorem go_sub (ks' : List Nat) (hl : lv_pick lv ks' = lv') (k : Go l E M R K kc ks h x pc lv' st) : Go l E M R K kc ks h x pc lv st := by
  intro p e s m args below meth c C H locs hW hz hS ls hls
  refine k p e s m args below meth c C H locs hW hz hS ls (lv_sub hls ks' ?_)
  rw [← hl, lv_pick, lv_pick, List.map_filterMap]
  simp only [List.getElem?_map]
theorem go_iadd {y z : Int32} (hd : decode M.2.1 pc = .ok (.iadd, 1)) (k : Go l E M R K kc ks h x (pc + 1) lv (.int (y + z) :: st)) : Go l E M R K kc ks h x pc lv (.int z :: .int y :: st) := by
  intro p e s m args below meth c C H locs hW hz hS ls hls
  exact lv_iadd C.1 C.2.1 hd (k p e s m args below meth c C H locs hW hz hS ls hls)
theorem go_isub {y z : Int32} (hd : decode M.2.1 pc = .ok (.isub, 1)) (k : Go l E M R K kc ks h x (pc + 1) lv (.int (y - z) :: st)) : Go l E M R K kc ks h x pc lv (.int z :: .int y :: st) := by
  intro p e s m args below meth c C H locs hW hz hS ls hls
  exact lv_isub C.1 C.2.1 hd (k p e s m args below meth c C H locs hW hz hS ls hls)
theorem go_imul {y z : Int32} (hd : decode M.2.1 pc = .ok (.imul, 1)) (k : Go l E M R K kc ks h x (pc + 1) lv (.int (y * z) :: st)) : Go l E M R K kc ks h x pc lv (.int z :: .int y :: st) := by
  intro p e s m args below meth c C H locs hW hz hS ls hls
  exact lv_imul C.1 C.2.1 hd (k p e s m args below meth c C H locs hW hz hS ls hls)
theorem go_iand {y z : Int32} (hd : decode M.2.1 pc = .ok (.iand, 1)) (k : Go l E M R K kc ks h x (pc + 1) lv (.int (y &&& z) :: st)) : Go l E M R K kc ks h x pc lv (.int z :: .int y :: st) := by
  intro p e s m args below meth c C H locs hW hz hS ls hls
  exact lv_iand C.1 C.2.1 hd (k p e s m args below meth c C H locs hW hz hS ls hls)
theorem go_ior {y z : Int32} (hd : decode M.2.1 pc = .ok (.ior, 1)) (k : Go l E M R K kc ks h x (pc + 1) lv (.int (y ||| z) :: st)) : Go l E M R K kc ks h x pc lv (.int z :: .int y :: st) := by
  intro p e s m args below meth c C H locs hW hz hS ls hls
  exact lv_ior C.1 C.2.1 hd (k p e s m args below meth c C H locs hW hz hS ls hls)
theorem go_ixor {y z : Int32} (hd : decode M.2.1 pc = .ok (.ixor, 1)) (k : Go l E M R K kc ks h x (pc + 1) lv (.int (y ^^^ z) :: st)) : Go l E M R K kc ks h x pc lv (.int z :: .int y :: st) := by
  intro p e s m args below meth c C H locs hW hz hS ls hls
  exact lv_ixor C.1 C.2.1 hd (k p e s m args below meth c C H locs hW hz hS ls hls)
theorem go_ishl {y z : Int32} (hd : decode M.2.1 pc = .ok (.ishl, 1)) (k : Go l E M R K kc ks h x (pc + 1) lv (.int (y <<< (z &&& 31)) :: st)) : Go l E M R K kc ks h x pc lv (.int z :: .int y :: st) := by
  intro p e s m args below meth c C H locs hW hz hS ls hls
  exact lv_ishl C.1 C.2.1 hd (k p e s m args below meth c C H locs hW hz hS ls hls)
theorem go_ishr {y z : Int32} (hd : decode M.2.1 pc = .ok (.ishr, 1)) (k : Go l E M R K kc ks h x (pc + 1) lv (.int (y >>> (z &&& 31)) :: st)) : Go l E M R K kc ks h x pc lv (.int z :: .int y :: st) := by
  intro p e s m args below meth c C H locs hW hz hS ls hls
  exact lv_ishr C.1 C.2.1 hd (k p e s m args below meth c C H locs hW hz hS ls hls)
theorem go_idiv {y z : Int32} (hd : decode M.2.1 pc = .ok (.idiv, 1)) (hz0 : ¬ z = 0) (k : Go l E M R K kc ks h x (pc + 1) lv (.int (y / z) :: st)) : Go l E M R K kc ks h x pc lv (.int z :: .int y :: st) := by
  intro p e s m args below meth c C H locs hW hz hS ls hls
  exact lv_idiv C.1 C.2.1 hd hz0 (k p e s m args below meth c C H locs hW hz hS ls hls)
theorem go_irem {y z : Int32} (hd : decode M.2.1 pc = .ok (.irem, 1)) (hz0 : ¬ z = 0) (k : Go l E M R K kc ks h x (pc + 1) lv (.int (y - y / z * z) :: st)) : Go l E M R K kc ks h x pc lv (.int z :: .int y :: st) := by
  intro p e s m args below meth c C H locs hW hz hS ls hls
  exact lv_irem C.1 C.2.1 hd hz0 (k p e s m args below meth c C H locs hW hz hS ls hls)
theorem go_ladd {y z : Int64} (hd : decode M.2.1 pc = .ok (.ladd, 1)) (k : Go l E M R K kc ks h x (pc + 1) lv (.long (y + z) :: st)) : Go l E M R K kc ks h x pc lv (.long z :: .long y :: st) := by
  intro p e s m args below meth c C H locs hW hz hS ls hls
  exact lv_ladd C.1 C.2.1 hd (k p e s m args below meth c C H locs hW hz hS ls hls)
theorem go_lsub {y z : Int64} (hd : decode M.2.1 pc = .ok (.lsub, 1)) (k : Go l E M R K kc ks h x (pc + 1) lv (.long (y - z) :: st)) : Go l E M R K kc ks h x pc lv (.long z :: .long y :: st) := by
  intro p e s m args below meth c C H locs hW hz hS ls hls
  exact lv_lsub C.1 C.2.1 hd (k p e s m args below meth c C H locs hW hz hS ls hls)
theorem go_lmul {y z : Int64} (hd : decode M.2.1 pc = .ok (.lmul, 1)) (k : Go l E M R K kc ks h x (pc + 1) lv (.long (y * z) :: st)) : Go l E M R K kc ks h x pc lv (.long z :: .long y :: st) := by
  intro p e s m args below meth c C H locs hW hz hS ls hls
  exact lv_lmul C.1 C.2.1 hd (k p e s m args below meth c C H locs hW hz hS ls hls)
theorem go_land {y z : Int64} (hd : decode M.2.1 pc = .ok (.land, 1)) (k : Go l E M R K kc ks h x (pc + 1) lv (.long (y &&& z) :: st)) : Go l E M R K kc ks h x pc lv (.long z :: .long y :: st) := by
  intro p e s m args below meth c C H locs hW hz hS ls hls
  exact lv_land C.1 C.2.1 hd (k p e s m args below meth c C H locs hW hz hS ls hls)
theorem go_lor {y z : Int64} (hd : decode M.2.1 pc = .ok (.lor, 1)) (k : Go l E M R K kc ks h x (pc + 1) lv (.long (y ||| z) :: st)) : Go l E M R K kc ks h x pc lv (.long z :: .long y :: st) := by
  intro p e s m args below meth c C H locs hW hz hS ls hls
  exact lv_lor C.1 C.2.1 hd (k p e s m args below meth c C H locs hW hz hS ls hls)
theorem go_lxor {y z : Int64} (hd : decode M.2.1 pc = .ok (.lxor, 1)) (k : Go l E M R K kc ks h x (pc + 1) lv (.long (y ^^^ z) :: st)) : Go l E M R K kc ks h x pc lv (.long z :: .long y :: st) := by
  intro p e s m args below meth c C H locs hW hz hS ls hls
  exact lv_lxor C.1 C.2.1 hd (k p e s m args below meth c C H locs hW hz hS ls hls)
theorem go_ldiv {y z : Int64} (hd : decode M.2.1 pc = .ok (.ldiv, 1)) (hz0 : ¬ z = 0) (k : Go l E M R K kc ks h x (pc + 1) lv (.long (y / z) :: st)) : Go l E M R K kc ks h x pc lv (.long z :: .long y :: st) := by
  intro p e s m args below meth c C H locs hW hz hS ls hls
  exact lv_ldiv C.1 C.2.1 hd hz0 (k p e s m args below meth c C H locs hW hz hS ls hls)
theorem go_lrem {y z : Int64} (hd : decode M.2.1 pc = .ok (.lrem, 1)) (hz0 : ¬ z = 0) (k : Go l E M R K kc ks h x (pc + 1) lv (.long (y - y / z * z) :: st)) : Go l E M R K kc ks h x pc lv (.long z :: .long y :: st) := by
  intro p e s m args below meth c C H locs hW hz hS ls hls
  exact lv_lrem C.1 C.2.1 hd hz0 (k p e s m args below meth c C H locs hW hz hS ls hls)
theorem go_lshl {y : Int64} {z : Int32} (hd : decode M.2.1 pc = .ok (.lshl, 1)) (k : Go l E M R K kc ks h x (pc + 1) lv (.long (y <<< (z.toInt64 &&& 63)) :: st)) : Go l E M R K kc ks h x pc lv (.int z :: .long y :: st) := by
  intro p e s m args below meth c C H locs hW hz hS ls hls
  exact lv_lshl C.1 C.2.1 hd rfl (k p e s m args below meth c C H locs hW hz hS ls hls)
theorem go_lshr {y : Int64} {z : Int32} (hd : decode M.2.1 pc = .ok (.lshr, 1)) (k : Go l E M R K kc ks h x (pc + 1) lv (.long (y >>> (z.toInt64 &&& 63)) :: st)) : Go l E M R K kc ks h x pc lv (.int z :: .long y :: st) := by
  intro p e s m args below meth c C H locs hW hz hS ls hls
  exact lv_lshr C.1 C.2.1 hd rfl (k p e s m args below meth c C H locs hW hz hS ls hls)
theorem go_lushr {y : Int64} {z : Int32} (hd : decode M.2.1 pc = .ok (.lushr, 1)) (k : Go l E M R K kc ks h x (pc + 1) lv (.long ((y.toUInt64 >>> (z.toInt64.toUInt64 &&& Int64.toUInt64 63)).toInt64) :: st)) : Go l E M R K kc ks h x pc lv (.int z :: .long y :: st) := by
  intro p e s m args below meth c C H locs hW hz hS ls hls
  exact lv_lushr C.1 C.2.1 hd rfl (k p e s m args below meth c C H locs hW hz hS ls hls)
theorem go_lneg {y : Int64} (hd : decode M.2.1 pc = .ok (.lneg, 1)) (k : Go l E M R K kc ks h x (pc + 1) lv (.long (-y) :: st)) : Go l E M R K kc ks h x pc lv (.long y :: st) := by
  intro p e s m args below meth c C H locs hW hz hS ls hls
  exact lv_lneg C.1 C.2.1 hd (k p e s m args below meth c C H locs hW hz hS ls hls)
theorem go_ineg {y : Int32} (hd : decode M.2.1 pc = .ok (.ineg, 1)) (k : Go l E M R K kc ks h x (pc + 1) lv (.int (-y) :: st)) : Go l E M R K kc ks h x pc lv (.int y :: st) := by
  intro p e s m args below meth c C H locs hW hz hS ls hls
  exact lv_ineg C.1 C.2.1 hd (k p e s m args below meth c C H locs hW hz hS ls hls)
theorem go_i2l {y : Int32} (hd : decode M.2.1 pc = .ok (.i2l, 1)) (k : Go l E M R K kc ks h x (pc + 1) lv (.long y.toInt64 :: st)) : Go l E M R K kc ks h x pc lv (.int y :: st) := by
  intro p e s m args below meth c C H locs hW hz hS ls hls
  exact lv_i2l C.1 C.2.1 hd rfl (k p e s m args below meth c C H locs hW hz hS ls hls)
theorem go_l2i {y : Int64} (hd : decode M.2.1 pc = .ok (.l2i, 1)) (k : Go l E M R K kc ks h x (pc + 1) lv (.int y.toInt32 :: st)) : Go l E M R K kc ks h x pc lv (.long y :: st) := by
  intro p e s m args below meth c C H locs hW hz hS ls hls
  exact lv_l2i C.1 C.2.1 hd rfl (k p e s m args below meth c C H locs hW hz hS ls hls)
theorem go_lcmp {y z : Int64} (hd : decode M.2.1 pc = .ok (.lcmp, 1)) (k : Go l E M R K kc ks h x (pc + 1) lv (.int (lg_cmp y z) :: st)) : Go l E M R K kc ks h x pc lv (.long z :: .long y :: st) := by
  intro p e s m args below meth c C H locs hW hz hS ls hls
  exact W.lcmp C.1 C.2.1 hd (k p e s m args below meth c C H locs hW hz hS ls hls)
theorem go_iconst {n : Int} (v : Int32) (hd : decode M.2.1 pc = .ok (.iconst n, 1)) (hv : Int32.ofInt n = v) (k : Go l E M R K kc ks h x (pc + 1) lv (.int v :: st)) : Go l E M R K kc ks h x pc lv (st) := by
  intro p e s m args below meth c C H locs hW hz hS ls hls
  exact lv_iconst C.1 C.2.1 hd hv (k p e s m args below meth c C H locs hW hz hS ls hls)
theorem go_bipush {n : Int} (v : Int32) (hd : decode M.2.1 pc = .ok (.bipush n, 2)) (hv : (Int8.ofInt n).toInt32 = v) (k : Go l E M R K kc ks h x (pc + 2) lv (.int v :: st)) : Go l E M R K kc ks h x pc lv (st) := by
  intro p e s m args below meth c C H locs hW hz hS ls hls
  exact lv_bipush C.1 C.2.1 hd hv (k p e s m args below meth c C H locs hW hz hS ls hls)
theorem go_sipush {n : Int} (v : Int32) (hd : decode M.2.1 pc = .ok (.sipush n, 3)) (hv : (Int16.ofInt n).toInt32 = v) (k : Go l E M R K kc ks h x (pc + 3) lv (.int v :: st)) : Go l E M R K kc ks h x pc lv (st) := by
  intro p e s m args below meth c C H locs hW hz hS ls hls
  exact lv_sipush C.1 C.2.1 hd hv (k p e s m args below meth c C H locs hW hz hS ls hls)
theorem go_lconst {n : Fin 2} (v : Int64) (hd : decode M.2.1 pc = .ok (.lconst n, 1)) (hv : Int64.ofNat (n : Nat) = v) (k : Go l E M R K kc ks h x (pc + 1) lv (.long v :: st)) : Go l E M R K kc ks h x pc lv (st) := by
  intro p e s m args below meth c C H locs hW hz hS ls hls
  exact lv_lconst C.1 C.2.1 hd hv (k p e s m args below meth c C H locs hW hz hS ls hls)
theorem go_ldc2 {index : Nat} (v : Int64) (hd : decode M.2.1 pc = .ok (.ldc2_w index, 3)) (hw : Cond.constantLong M.1.cls index v ∈ w_S) (k : Go l E M R K kc ks h x (pc + 3) lv (.long v :: st)) : Go l E M R K kc ks h x pc lv (st) := by
  intro p e s m args below meth c C H locs hW hz hS ls hls
  exact lv_ldc2 C.1 C.2.1 C.2.2.2.2.1 (C.2.2.2.2.2.1 _ hw) hd (k p e s m args below meth c C H locs hW hz hS ls hls)
theorem go_dup {v : Value} (hd : decode M.2.1 pc = .ok (.dup, 1)) (hc : v.category = 1) (k : Go l E M R K kc ks h x (pc + 1) lv (v :: v :: st)) : Go l E M R K kc ks h x pc lv (v :: st) := by
  intro p e s m args below meth c C H locs hW hz hS ls hls
  exact lv_dup C.1 C.2.1 hd ((mv_cat E v).trans hc) (k p e s m args below meth c C H locs hW hz hS ls hls)
theorem go_pop {v : Value} (hd : decode M.2.1 pc = .ok (.pop, 1)) (hc : v.category = 1) (k : Go l E M R K kc ks h x (pc + 1) lv (st)) : Go l E M R K kc ks h x pc lv (v :: st) := by
  intro p e s m args below meth c C H locs hW hz hS ls hls
  exact lv_pop C.1 C.2.1 hd ((mv_cat E v).trans hc) (k p e s m args below meth c C H locs hW hz hS ls hls)
theorem go_dup2 {v w : Value} (hd : decode M.2.1 pc = .ok (.dup2, 1)) (hc : v.category = 1) (hc2 : w.category = 1) (k : Go l E M R K kc ks h x (pc + 1) lv (v :: w :: v :: w :: st)) : Go l E M R K kc ks h x pc lv (v :: w :: st) := by
  intro p e s m args below meth c C H locs hW hz hS ls hls
  exact lv_dup2_11 C.1 C.2.1 hd ((mv_cat E v).trans hc) ((mv_cat E w).trans hc2) (k p e s m args below meth c C H locs hW hz hS ls hls)
theorem go_dup2l {v : Value} (hd : decode M.2.1 pc = .ok (.dup2, 1)) (hc : v.category = 2) (k : Go l E M R K kc ks h x (pc + 1) lv (v :: v :: st)) : Go l E M R K kc ks h x pc lv (v :: st) := by
  intro p e s m args below meth c C H locs hW hz hS ls hls
  exact lv_dup2_2 C.1 C.2.1 hd ((mv_cat E v).trans hc) (k p e s m args below meth c C H locs hW hz hS ls hls)
theorem go_iload_n (k0 : Nat) {n : Fin 4} {y : Int32} (hd : decode M.2.1 pc = .ok (.iload_n n, 1)) (hk : lv[k0]? = some ((n : Nat), .int y)) (k : Go l E M R K kc ks h x (pc + 1) lv (.int y :: st)) : Go l E M R K kc ks h x pc lv st := by
  intro p e s m args below meth c C H locs hW hz hS ls hls
  exact lv_iload_n C.1 C.2.1 hd rfl (lv_at hls k0 (lvm hk)) (k p e s m args below meth c C H locs hW hz hS ls hls)
theorem go_iload (k0 : Nat) {n : Nat} {y : Int32} (hd : decode M.2.1 pc = .ok (.iload n, 2)) (hk : lv[k0]? = some (n, .int y)) (k : Go l E M R K kc ks h x (pc + 2) lv (.int y :: st)) : Go l E M R K kc ks h x pc lv st := by
  intro p e s m args below meth c C H locs hW hz hS ls hls
  exact lv_iload C.1 C.2.1 hd (lv_at hls k0 (lvm hk)) (k p e s m args below meth c C H locs hW hz hS ls hls)
theorem go_lload_n (k0 : Nat) {n : Fin 4} {y : Int64} (hd : decode M.2.1 pc = .ok (.lload_n n, 1)) (hk : lv[k0]? = some ((n : Nat), .long y)) (k : Go l E M R K kc ks h x (pc + 1) lv (.long y :: st)) : Go l E M R K kc ks h x pc lv st := by
  intro p e s m args below meth c C H locs hW hz hS ls hls
  exact lv_lload_n C.1 C.2.1 hd rfl (lv_at hls k0 (lvm hk)) (k p e s m args below meth c C H locs hW hz hS ls hls)
theorem go_lload (k0 : Nat) {n : Nat} {y : Int64} (hd : decode M.2.1 pc = .ok (.lload n, 2)) (hk : lv[k0]? = some (n, .long y)) (k : Go l E M R K kc ks h x (pc + 2) lv (.long y :: st)) : Go l E M R K kc ks h x pc lv st := by
  intro p e s m args below meth c C H locs hW hz hS ls hls
  exact lv_lload C.1 C.2.1 hd (lv_at hls k0 (lvm hk)) (k p e s m args below meth c C H locs hW hz hS ls hls)
theorem go_aload_n (k0 : Nat) {n : Fin 4} {y : Nat} (hd : decode M.2.1 pc = .ok (.aload_n n, 1)) (hk : lv[k0]? = some ((n : Nat), .ref y)) (k : Go l E M R K kc ks h x (pc + 1) lv (.ref y :: st)) : Go l E M R K kc ks h x pc lv st := by
  intro p e s m args below meth c C H locs hW hz hS ls hls
  exact lv_aload_n C.1 C.2.1 hd rfl (lv_at hls k0 (lvm hk)) (k p e s m args below meth c C H locs hW hz hS ls hls)
theorem go_aload (k0 : Nat) {n : Nat} {y : Nat} (hd : decode M.2.1 pc = .ok (.aload n, 2)) (hk : lv[k0]? = some (n, .ref y)) (k : Go l E M R K kc ks h x (pc + 2) lv (.ref y :: st)) : Go l E M R K kc ks h x pc lv st := by
  intro p e s m args below meth c C H locs hW hz hS ls hls
  exact lv_aload C.1 C.2.1 hd (lv_at hls k0 (lvm hk)) (k p e s m args below meth c C H locs hW hz hS ls hls)
theorem go_aloadS_n (k0 : Nat) {n : Fin 4} {y : Nat} (hd : decode M.2.1 pc = .ok (.aload_n n, 1)) (hk : lv[k0]? = some ((n : Nat), .retAddr y)) (k : Go l E M R K kc ks h x (pc + 1) lv (.retAddr y :: st)) : Go l E M R K kc ks h x pc lv st := by
  intro p e s m args below meth c C H locs hW hz hS ls hls
  exact lv_aload_n C.1 C.2.1 hd rfl (lv_at hls k0 (lvm hk)) (k p e s m args below meth c C H locs hW hz hS ls hls)
theorem go_istore_n {n : Fin 4} {y : Int32} (hd : decode M.2.1 pc = .ok (.istore_n n, 1)) (hl : stI (n : Nat) (.int y) lv = lv') (hn : (n : Nat) < M.2.2.1) (k : Go l E M R K kc ks h x (pc + 1) lv' st) : Go l E M R K kc ks h x pc lv (.int y :: st) := by
  intro p e s m args below meth c C H locs hW hz hS ls hls
  subst hl
  exact lv_istore_n C.1 C.2.1 hd rfl hls hn (stI_map E _ (.int y) lv) (fun ls' hls' => k p e s m args below meth c C H locs hW hz hS ls' hls')
theorem go_istore {n : Nat} {y : Int32} (hd : decode M.2.1 pc = .ok (.istore n, 2)) (hl : stI n (.int y) lv = lv') (hn : n < M.2.2.1) (k : Go l E M R K kc ks h x (pc + 2) lv' st) : Go l E M R K kc ks h x pc lv (.int y :: st) := by
  intro p e s m args below meth c C H locs hW hz hS ls hls
  subst hl
  exact lv_istore C.1 C.2.1 hd hls hn (stI_map E _ (.int y) lv) (fun ls' hls' => k p e s m args below meth c C H locs hW hz hS ls' hls')
theorem go_astore_n {n : Fin 4} {y : Nat} (hd : decode M.2.1 pc = .ok (.astore_n n, 1)) (hl : stI (n : Nat) (.ref y) lv = lv') (hn : (n : Nat) < M.2.2.1) (k : Go l E M R K kc ks h x (pc + 1) lv' st) : Go l E M R K kc ks h x pc lv (.ref y :: st) := by
  intro p e s m args below meth c C H locs hW hz hS ls hls
  subst hl
  exact lv_astore_n C.1 C.2.1 hd rfl hls hn (stI_map E _ (.ref y) lv) (fun ls' hls' => k p e s m args below meth c C H locs hW hz hS ls' hls')
theorem go_astore {n : Nat} {y : Nat} (hd : decode M.2.1 pc = .ok (.astore n, 2)) (hl : stI n (.ref y) lv = lv') (hn : n < M.2.2.1) (k : Go l E M R K kc ks h x (pc + 2) lv' st) : Go l E M R K kc ks h x pc lv (.ref y :: st) := by
  intro p e s m args below meth c C H locs hW hz hS ls hls
  subst hl
  exact lv_astore C.1 C.2.1 hd hls hn (stI_map E _ (.ref y) lv) (fun ls' hls' => k p e s m args below meth c C H locs hW hz hS ls' hls')
theorem go_lstore_n {n : Fin 4} {y : Int64} (hd : decode M.2.1 pc = .ok (.lstore_n n, 1)) (hl : stJ (n : Nat) (.long y) lv = lv') (hn : (n : Nat) + 1 < M.2.2.1) (k : Go l E M R K kc ks h x (pc + 1) lv' st) : Go l E M R K kc ks h x pc lv (.long y :: st) := by
  intro p e s m args below meth c C H locs hW hz hS ls hls
  subst hl
  exact lv_lstore_n C.1 C.2.1 hd rfl hls hn (stJ_map E _ (.long y) lv) (fun ls' hls' => k p e s m args below meth c C H locs hW hz hS ls' hls')
theorem go_lstore {n : Nat} {y : Int64} (hd : decode M.2.1 pc = .ok (.lstore n, 2)) (hl : stJ n (.long y) lv = lv') (hn : n + 1 < M.2.2.1) (k : Go l E M R K kc ks h x (pc + 2) lv' st) : Go l E M R K kc ks h x pc lv (.long y :: st) := by
  intro p e s m args below meth c C H locs hW hz hS ls hls
  subst hl
  exact lv_lstore C.1 C.2.1 hd hls hn (stJ_map E _ (.long y) lv) (fun ls' hls' => k p e s m args below meth c C H locs hW hz hS ls' hls')
theorem go_iinc (k0 : Nat) {i : Nat} {n : Int} {y : Int32} (v : Int32) (hd : decode M.2.1 pc = .ok (.iinc i n, 3)) (hk : lv[k0]? = some (i, .int y)) (hv : y + Int32.ofInt n = v) (hl : stI i (.int v) lv = lv') (hn : i < M.2.2.1) (k : Go l E M R K kc ks h x (pc + 3) lv' st) : Go l E M R K kc ks h x pc lv st := by
  intro p e s m args below meth c C H locs hW hz hS ls hls
  subst hl
  exact lv_iinc C.1 C.2.1 hd hls (lvm hk) hv hn (stI_map E i (.int v) lv) (fun ls' hls' => k p e s m args below meth c C H locs hW hz hS ls' hls')
theorem go_goto {off : Int} (tgt : Nat) (hd : decode M.2.1 pc = .ok (.goto off, 3)) (ht : (pc : Int) + off = (tgt : Int)) (k : Go l E M R K kc ks h x tgt lv st) : Go l E M R K kc ks h x pc lv st := by
  intro p e s m args below meth c C H locs hW hz hS ls hls
  exact lv_goto C.1 C.2.1 hd ht (k p e s m args below meth c C H locs hW hz hS ls hls)
theorem go_icmp_eq {y z : Int32} {off : Int} (tgt : Nat) (hd : decode M.2.1 pc = .ok (.if_icmp .eq off, 3)) (ht : (pc : Int) + off = (tgt : Int)) (kt : y = z → Go l E M R K kc ks h x tgt lv st) (kf : ¬ y = z → Go l E M R K kc ks h x (pc + 3) lv st) : Go l E M R K kc ks h x pc lv (.int z :: .int y :: st) := by
  intro p e s m args below meth c C H locs hW hz hS ls hls
  exact lv_icmp_eq C.1 C.2.1 hd ht (fun q => kt q p e s m args below meth c C H locs hW hz hS ls hls) (fun q => kf q p e s m args below meth c C H locs hW hz hS ls hls)
theorem go_if_eq {y : Int32} {off : Int} (tgt : Nat) (hd : decode M.2.1 pc = .ok (.ifCond .eq off, 3)) (ht : (pc : Int) + off = (tgt : Int)) (kt : y = 0 → Go l E M R K kc ks h x tgt lv st) (kf : ¬ y = 0 → Go l E M R K kc ks h x (pc + 3) lv st) : Go l E M R K kc ks h x pc lv (.int y :: st) := by
  intro p e s m args below meth c C H locs hW hz hS ls hls
  exact lv_if_eq C.1 C.2.1 hd ht (fun q => kt q p e s m args below meth c C H locs hW hz hS ls hls) (fun q => kf q p e s m args below meth c C H locs hW hz hS ls hls)
theorem go_icmp_ne {y z : Int32} {off : Int} (tgt : Nat) (hd : decode M.2.1 pc = .ok (.if_icmp .ne off, 3)) (ht : (pc : Int) + off = (tgt : Int)) (kt : ¬ y = z → Go l E M R K kc ks h x tgt lv st) (kf : y = z → Go l E M R K kc ks h x (pc + 3) lv st) : Go l E M R K kc ks h x pc lv (.int z :: .int y :: st) := by
  intro p e s m args below meth c C H locs hW hz hS ls hls
  exact lv_icmp_ne C.1 C.2.1 hd ht (fun q => kt q p e s m args below meth c C H locs hW hz hS ls hls) (fun q => kf q p e s m args below meth c C H locs hW hz hS ls hls)
theorem go_if_ne {y : Int32} {off : Int} (tgt : Nat) (hd : decode M.2.1 pc = .ok (.ifCond .ne off, 3)) (ht : (pc : Int) + off = (tgt : Int)) (kt : ¬ y = 0 → Go l E M R K kc ks h x tgt lv st) (kf : y = 0 → Go l E M R K kc ks h x (pc + 3) lv st) : Go l E M R K kc ks h x pc lv (.int y :: st) := by
  intro p e s m args below meth c C H locs hW hz hS ls hls
  exact lv_if_ne C.1 C.2.1 hd ht (fun q => kt q p e s m args below meth c C H locs hW hz hS ls hls) (fun q => kf q p e s m args below meth c C H locs hW hz hS ls hls)
theorem go_icmp_lt {y z : Int32} {off : Int} (tgt : Nat) (hd : decode M.2.1 pc = .ok (.if_icmp .lt off, 3)) (ht : (pc : Int) + off = (tgt : Int)) (kt : y < z → Go l E M R K kc ks h x tgt lv st) (kf : ¬ y < z → Go l E M R K kc ks h x (pc + 3) lv st) : Go l E M R K kc ks h x pc lv (.int z :: .int y :: st) := by
  intro p e s m args below meth c C H locs hW hz hS ls hls
  exact lv_icmp_lt C.1 C.2.1 hd ht (fun q => kt q p e s m args below meth c C H locs hW hz hS ls hls) (fun q => kf q p e s m args below meth c C H locs hW hz hS ls hls)
theorem go_if_lt {y : Int32} {off : Int} (tgt : Nat) (hd : decode M.2.1 pc = .ok (.ifCond .lt off, 3)) (ht : (pc : Int) + off = (tgt : Int)) (kt : y < 0 → Go l E M R K kc ks h x tgt lv st) (kf : ¬ y < 0 → Go l E M R K kc ks h x (pc + 3) lv st) : Go l E M R K kc ks h x pc lv (.int y :: st) := by
  intro p e s m args below meth c C H locs hW hz hS ls hls
  exact lv_if_lt C.1 C.2.1 hd ht (fun q => kt q p e s m args below meth c C H locs hW hz hS ls hls) (fun q => kf q p e s m args below meth c C H locs hW hz hS ls hls)
theorem go_icmp_ge {y z : Int32} {off : Int} (tgt : Nat) (hd : decode M.2.1 pc = .ok (.if_icmp .ge off, 3)) (ht : (pc : Int) + off = (tgt : Int)) (kt : z ≤ y → Go l E M R K kc ks h x tgt lv st) (kf : ¬ z ≤ y → Go l E M R K kc ks h x (pc + 3) lv st) : Go l E M R K kc ks h x pc lv (.int z :: .int y :: st) := by
  intro p e s m args below meth c C H locs hW hz hS ls hls
  exact lv_icmp_ge C.1 C.2.1 hd ht (fun q => kt q p e s m args below meth c C H locs hW hz hS ls hls) (fun q => kf q p e s m args below meth c C H locs hW hz hS ls hls)
theorem go_if_ge {y : Int32} {off : Int} (tgt : Nat) (hd : decode M.2.1 pc = .ok (.ifCond .ge off, 3)) (ht : (pc : Int) + off = (tgt : Int)) (kt : 0 ≤ y → Go l E M R K kc ks h x tgt lv st) (kf : ¬ 0 ≤ y → Go l E M R K kc ks h x (pc + 3) lv st) : Go l E M R K kc ks h x pc lv (.int y :: st) := by
  intro p e s m args below meth c C H locs hW hz hS ls hls
  exact lv_if_ge C.1 C.2.1 hd ht (fun q => kt q p e s m args below meth c C H locs hW hz hS ls hls) (fun q => kf q p e s m args below meth c C H locs hW hz hS ls hls)
theorem go_icmp_gt {y z : Int32} {off : Int} (tgt : Nat) (hd : decode M.2.1 pc = .ok (.if_icmp .gt off, 3)) (ht : (pc : Int) + off = (tgt : Int)) (kt : z < y → Go l E M R K kc ks h x tgt lv st) (kf : ¬ z < y → Go l E M R K kc ks h x (pc + 3) lv st) : Go l E M R K kc ks h x pc lv (.int z :: .int y :: st) := by
  intro p e s m args below meth c C H locs hW hz hS ls hls
  exact lv_icmp_gt C.1 C.2.1 hd ht (fun q => kt q p e s m args below meth c C H locs hW hz hS ls hls) (fun q => kf q p e s m args below meth c C H locs hW hz hS ls hls)
theorem go_if_gt {y : Int32} {off : Int} (tgt : Nat) (hd : decode M.2.1 pc = .ok (.ifCond .gt off, 3)) (ht : (pc : Int) + off = (tgt : Int)) (kt : 0 < y → Go l E M R K kc ks h x tgt lv st) (kf : ¬ 0 < y → Go l E M R K kc ks h x (pc + 3) lv st) : Go l E M R K kc ks h x pc lv (.int y :: st) := by
  intro p e s m args below meth c C H locs hW hz hS ls hls
  exact lv_if_gt C.1 C.2.1 hd ht (fun q => kt q p e s m args below meth c C H locs hW hz hS ls hls) (fun q => kf q p e s m args below meth c C H locs hW hz hS ls hls)
theorem go_icmp_le {y z : Int32} {off : Int} (tgt : Nat) (hd : decode M.2.1 pc = .ok (.if_icmp .le off, 3)) (ht : (pc : Int) + off = (tgt : Int)) (kt : y ≤ z → Go l E M R K kc ks h x tgt lv st) (kf : ¬ y ≤ z → Go l E M R K kc ks h x (pc + 3) lv st) : Go l E M R K kc ks h x pc lv (.int z :: .int y :: st) := by
  intro p e s m args below meth c C H locs hW hz hS ls hls
  exact lv_icmp_le C.1 C.2.1 hd ht (fun q => kt q p e s m args below meth c C H locs hW hz hS ls hls) (fun q => kf q p e s m args below meth c C H locs hW hz hS ls hls)
theorem go_if_le {y : Int32} {off : Int} (tgt : Nat) (hd : decode M.2.1 pc = .ok (.ifCond .le off, 3)) (ht : (pc : Int) + off = (tgt : Int)) (kt : y ≤ 0 → Go l E M R K kc ks h x tgt lv st) (kf : ¬ y ≤ 0 → Go l E M R K kc ks h x (pc + 3) lv st) : Go l E M R K kc ks h x pc lv (.int y :: st) := by
  intro p e s m args below meth c C H locs hW hz hS ls hls
  exact lv_if_le C.1 C.2.1 hd ht (fun q => kt q p e s m args below meth c C H locs hW hz hS ls hls) (fun q => kf q p e s m args below meth c C H locs hW hz hS ls hls)
theorem go_tableIn {dflt lo hi : Int} {offs : Array Int} {len : Nat} {y : Int32} {off : Int} (tgt : Nat) (hd : decode M.2.1 pc = .ok (.tableswitch dflt lo hi offs, len)) (h1 : ¬ y.toInt < lo) (h2 : ¬ hi < y.toInt) (ho : offs[(y.toInt - lo).toNat]? = some off) (ht : (pc : Int) + off = (tgt : Int)) (k : Go l E M R K kc ks h x tgt lv st) : Go l E M R K kc ks h x pc lv (.int y :: st) := by
  intro p e s m args below meth c C H locs hW hz hS ls hls
  exact lv_tableIn C.1 C.2.1 hd h1 h2 ho ht (k p e s m args below meth c C H locs hW hz hS ls hls)
theorem go_tableOut {dflt lo hi : Int} {offs : Array Int} {len : Nat} {y : Int32} (tgt : Nat) (hd : decode M.2.1 pc = .ok (.tableswitch dflt lo hi offs, len)) (h0 : y.toInt < lo ∨ hi < y.toInt) (ht : (pc : Int) + dflt = (tgt : Int)) (k : Go l E M R K kc ks h x tgt lv st) : Go l E M R K kc ks h x pc lv (.int y :: st) := by
  intro p e s m args below meth c C H locs hW hz hS ls hls
  exact lv_tableOut C.1 C.2.1 hd h0 ht (k p e s m args below meth c C H locs hW hz hS ls hls)
theorem go_lookup {dflt : Int} {ps : Array (Int × Int)} {len : Nat} {y : Int32} {off : Int} (tgt : Nat) (hd : decode M.2.1 pc = .ok (.lookupswitch dflt ps, len)) (hp : (ps.toList.zip (ps.toList.drop 1)).all (fun (a, next) => a.1 < next.1) = true) (ho : Op.lookupswitch.offset ps.toList dflt y.toInt = off) (ht : (pc : Int) + off = (tgt : Int)) (k : Go l E M R K kc ks h x tgt lv st) : Go l E M R K kc ks h x pc lv (.int y :: st) := by
  intro p e s m args below meth c C H locs hW hz hS ls hls
  exact lv_lookup C.1 C.2.1 hd hp ho ht (k p e s m args below meth c C H locs hW hz hS ls hls)
end GOR
