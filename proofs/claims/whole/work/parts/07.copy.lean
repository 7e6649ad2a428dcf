/-! System.arraycopy between rows of ints, of longs. -/
def cpI (h : PH) (a0 : Nat) (sp : Int32) (a1 : Nat) (dp n : Int32) : Option PH := match h.2 a0, h.2 a1 with
  | .inr (.inl (n0, f)), .inr (.inl (n1, g)) => if ¬ sp < 0 ∧ ¬ dp < 0 ∧ ¬ n < 0 ∧ sp.toNatClampNeg + n.toNatClampNeg ≤ n0 ∧ dp.toNatClampNeg + n.toNatClampNeg ≤ n1 then some (hset h a1 (oI n1 (va_cpy f g sp.toNatClampNeg dp.toNatClampNeg n.toNatClampNeg))) else none
  | _, _ => none
def cpL (h : PH) (a0 : Nat) (sp : Int32) (a1 : Nat) (dp n : Int32) : Option PH := match h.2 a0, h.2 a1 with
  | .inr (.inr (.inl (n0, f))), .inr (.inr (.inl (n1, g))) => if ¬ sp < 0 ∧ ¬ dp < 0 ∧ ¬ n < 0 ∧ sp.toNatClampNeg + n.toNatClampNeg ≤ n0 ∧ dp.toNatClampNeg + n.toNatClampNeg ≤ n1 then some (hset h a1 (oL n1 (va_cpy f g sp.toNatClampNeg dp.toNatClampNeg n.toNatClampNeg))) else none
  | _, _ => none
def CpL (own : String) (idx : Nat) : Prop := Cond.methodLink own idx arraycopyName ∈ w_S ∧ Cond.native arraycopyName ∈ w_S ∧ Cond.static arraycopyName ∈ w_S ∧ Cond.initialized "java/lang/System" ∈ w_S
theorem rm_n {d : Nat} (h : 1 ≤ d) : 1 ≤ (rm d 0 0).frames ∧ 60 ≤ (rm d 0 0).locals := ⟨h, by show 60 ≤ 60 * d; omega⟩
theorem nfw : nativeFrameWords "java/lang/System" "arraycopy" 5 ≤ 41 := by decide +kernel
section GOK
variable {l : Launch} {E : ET} {M : MT} {R : Room} {K : KT} {kc ks : Nat} {h h1 : PH} {x : Nat} {pc : Nat} {lv : List (Nat × Value)} {st : List Value}
theorem go_copyI {idx a0 a1 : Nat} {sp dp n : Int32} (hd : decode M.2.1 pc = .ok (.invokestatic idx, 3)) (hv : cpI h a0 sp a1 dp n = some h1) (lk : CpL M.1.cls idx) (hR : 1 ≤ R.frames ∧ 60 ≤ R.locals) (hst : (st.map fun v => v.category).sum ≤ 8) (kk : Go l E M R K kc ks h1 x (pc + 3) lv st) : Go l E M R K kc ks h x pc lv (.int n :: .int dp :: .ref a1 :: .int sp :: .ref a0 :: st) := by
  intro p e s m args below meth c C H locs hW hz hS ls hls
  obtain ⟨l1, l2, l3, l4⟩ := lk
  have hSF := C.2.2.2.2.2.2.2.1
  have hts := C.2.2.2.2.2.1
  unfold cpI at hv
  split at hv
  rotate_left
  · cases hv
  rename_i n0 f n1 g ha0 ha1
  split at hv
  rotate_left
  · cases hv
  rename_i hc
  obtain ⟨h1, h2, h3, h4, h5⟩ := hc
  cases hv
  have nn : ∀ z : Int32, ¬ z < 0 → z.toInt = (z.toNatClampNeg : Int) := by
    intro z hz
    have hz0 : (0 : Int) ≤ z.toInt := by
      have := Int32.not_lt.mp hz
      simpa using Int32.le_iff_toInt_le.mp this
    show z.toInt = ((z.toInt.toNat : Nat) : Int)
    omega
  have hd0 : oI n0 f ≠ pdead := fun q => nomatch q
  have hd1 : oI n1 g ≠ pdead := fun q => nomatch q
  intro T hT X
  have hc0 : H[eB E + a0]? = some (vp_cell (eC E 0) (n0, .inl f)) := hW.at ha0 hd0
  have hc1 : H[eB E + a1]? = some (vp_cell (eC E 0) (n1, .inl g)) := hW.at ha1 hd1
  obtain ⟨-, k0, hk0, cm0, hkk0⟩ := (hSF.1.2 0 _ rfl).1 n0 (fun j => .int (f j))
  obtain ⟨-, k1, hk1, cm1, hkk1⟩ := (hSF.1.2 0 _ rfl).1 n1 (fun j => .int (g j))
  have hst' := stc (E := E) hst
  have hn9 := nfw
  obtain ⟨vm', X', step⟩ := X.arraycopy C.1 C.2.2.2.2.1 (hts _ l1) (hts _ l2) (hts _ l3) (hts _ l4) (src := eB E + a0) (dst := eB E + a1) (cs := vp_cell (eC E 0) (n0, .inl f)) (cd := vp_cell (eC E 0) (n1, .inl g)) (srcPos := sp) (destPos := dp) (n := n) (by rw [hT]; exact hc0) (by rw [hT]; exact hc1)
    (fun _ h => by cases h) (fun _ h => by cases h) (fun h => by cases h) (fun h => by cases h) hk0 hk1 hkk0 hkk1 (by simp [refKind]) h1 h2 h3
    (by rw [nn sp h1, nn n h3]; show ¬ _ > ((arrV (eC E 0) n0 (fun j => .int (f j))).slots.size : Int); rw [arrV_size]; omega)
    (by rw [nn dp h2, nn n h3]; show ¬ _ > ((arrV (eC E 0) n1 (fun j => .int (g j))).slots.size : Int); rw [arrV_size]; omega)
    (fun vm₁ _ i hi => by
      have e : (vp_cell (eC E 0) (n0, .inl f)).slots.getD (sp.toNatClampNeg + i) .null = .int (f (sp.toNatClampNeg + i)) := by
        show (arrV (eC E 0) n0 (fun j => .int (f j))).slots.getD _ _ = _
        rw [Array.getD_eq_getD_getElem?, arrV_read _ _ (by omega)]
        rfl
      refine ⟨?_, ?_⟩
      · rw [e]
        rfl
      · rw [e]
        exact trivial)
    (g := F0 m pc ls ((Value.int n :: .int dp :: .ref a1 :: .int sp :: .ref a0 :: st).map (mv E))) rfl (by rw [C.2.2.2.1]; exact hls.1) (rest := st.map (mv E)) rfl (by rw [C.2.1]; exact hd) hR.1 (by show 2 * 0 + _ + _ ≤ _; omega)
  have e1 : copied (vp_cell (eC E 0) (n0, .inl f)) (vp_cell (eC E 0) (n1, .inl g)) sp dp n = vp_cell (eC E 0) (n1, .inl (va_cpy f g sp.toNatClampNeg dp.toNatClampNeg n.toNatClampNeg)) := va_copied (fun z => .int z) (eC E 0) (eC E 0) f g h4
  rw [e1] at X' step
  have hl : eB E + a1 < H.size := (Array.getElem?_eq_some_iff.mp hc1).1
  have hheap : ((T.setVm vm').setCell (eB E + a1) (vp_cell (eC E 0) (n1, .inl (va_cpy f g sp.toNatClampNeg dp.toNatClampNeg n.toNatClampNeg)))).heap = H.setIfInBounds (eB E + a1) (vp_cell (eC E 0) (n1, .inl (va_cpy f g sp.toNatClampNeg dp.toNatClampNeg n.toNatClampNeg))) := by rw [← hT]; rfl
  have oq : ∀ q : Nat, q ≠ eB E + a1 → (H.setIfInBounds (eB E + a1) (vp_cell (eC E 0) (n1, .inl (va_cpy f g sp.toNatClampNeg dp.toNatClampNeg n.toNatClampNeg))))[q]? = H[q]? := fun q hq => by simp [Array.getElem?_setIfInBounds, Ne.symm hq]
  have hW1 : Wd E (hset h a1 (oI n1 (va_cpy f g sp.toNatClampNeg dp.toNatClampNeg n.toNatClampNeg))) (H.setIfInBounds (eB E + a1) (vp_cell (eC E 0) (n1, .inl (va_cpy f g sp.toNatClampNeg dp.toNatClampNeg n.toNatClampNeg)))) := hW.put ha1 hd1 (show (H.setIfInBounds (eB E + a1) _)[eB E + a1]? = some _ by simp [Array.getElem?_setIfInBounds, hl]) oq
  obtain ⟨t, a1', b1⟩ := kk p e s m args below meth c C _ _ hW1 (by rw [Array.size_setIfInBounds]; exact hz) ⟨by rw [Array.size_setIfInBounds]; exact hS.1, fun q g1 g2 => by
      rw [oq q (fun e => g2 (by rw [e]; exact Nat.le_add_right _ _))]
      exact hS.2.1 q g1 g2, fun q hq => by
      rcases List.mem_append.mp hq with h | h
      · exact hS.2.2 q h
      · obtain ⟨z, -, hz⟩ := List.mem_map.mp h
        rw [← hz]
        exact Nat.le_add_right _ _⟩ ls hls _ hheap X'
  exact ⟨t, step t a1', b1⟩
theorem go_copyL {idx a0 a1 : Nat} {sp dp n : Int32} (hd : decode M.2.1 pc = .ok (.invokestatic idx, 3)) (hv : cpL h a0 sp a1 dp n = some h1) (lk : CpL M.1.cls idx) (hR : 1 ≤ R.frames ∧ 60 ≤ R.locals) (hst : (st.map fun v => v.category).sum ≤ 8) (kk : Go l E M R K kc ks h1 x (pc + 3) lv st) : Go l E M R K kc ks h x pc lv (.int n :: .int dp :: .ref a1 :: .int sp :: .ref a0 :: st) := by
  intro p e s m args below meth c C H locs hW hz hS ls hls
  obtain ⟨l1, l2, l3, l4⟩ := lk
  have hSF := C.2.2.2.2.2.2.2.1
  have hts := C.2.2.2.2.2.1
  unfold cpL at hv
  split at hv
  rotate_left
  · cases hv
  rename_i n0 f n1 g ha0 ha1
  split at hv
  rotate_left
  · cases hv
  rename_i hc
  obtain ⟨h1, h2, h3, h4, h5⟩ := hc
  cases hv
  have nn : ∀ z : Int32, ¬ z < 0 → z.toInt = (z.toNatClampNeg : Int) := by
    intro z hz
    have hz0 : (0 : Int) ≤ z.toInt := by
      have := Int32.not_lt.mp hz
      simpa using Int32.le_iff_toInt_le.mp this
    show z.toInt = ((z.toInt.toNat : Nat) : Int)
    omega
  have hd0 : oL n0 f ≠ pdead := fun q => nomatch q
  have hd1 : oL n1 g ≠ pdead := fun q => nomatch q
  intro T hT X
  have hc0 : H[eB E + a0]? = some (vp_cell (eC E 1) (n0, .inr (.inl f))) := hW.at ha0 hd0
  have hc1 : H[eB E + a1]? = some (vp_cell (eC E 1) (n1, .inr (.inl g))) := hW.at ha1 hd1
  obtain ⟨-, k0, hk0, cm0, hkk0⟩ := (hSF.1.2 1 _ rfl).1 n0 (fun j => .long (f j))
  obtain ⟨-, k1, hk1, cm1, hkk1⟩ := (hSF.1.2 1 _ rfl).1 n1 (fun j => .long (g j))
  have hst' := stc (E := E) hst
  have hn9 := nfw
  obtain ⟨vm', X', step⟩ := X.arraycopy C.1 C.2.2.2.2.1 (hts _ l1) (hts _ l2) (hts _ l3) (hts _ l4) (src := eB E + a0) (dst := eB E + a1) (cs := vp_cell (eC E 1) (n0, .inr (.inl f))) (cd := vp_cell (eC E 1) (n1, .inr (.inl g))) (srcPos := sp) (destPos := dp) (n := n) (by rw [hT]; exact hc0) (by rw [hT]; exact hc1)
    (fun _ h => by cases h) (fun _ h => by cases h) (fun h => by cases h) (fun h => by cases h) hk0 hk1 hkk0 hkk1 (by simp [refKind]) h1 h2 h3
    (by rw [nn sp h1, nn n h3]; show ¬ _ > ((arrV (eC E 1) n0 (fun j => .long (f j))).slots.size : Int); rw [arrV_size]; omega)
    (by rw [nn dp h2, nn n h3]; show ¬ _ > ((arrV (eC E 1) n1 (fun j => .long (g j))).slots.size : Int); rw [arrV_size]; omega)
    (fun vm₁ _ i hi => by
      have e : (vp_cell (eC E 1) (n0, .inr (.inl f))).slots.getD (sp.toNatClampNeg + i) .null = .long (f (sp.toNatClampNeg + i)) := by
        show (arrV (eC E 1) n0 (fun j => .long (f j))).slots.getD _ _ = _
        rw [Array.getD_eq_getD_getElem?, arrV_read _ _ (by omega)]
        rfl
      refine ⟨?_, ?_⟩
      · rw [e]
        rfl
      · rw [e]
        exact trivial)
    (g := F0 m pc ls ((Value.int n :: .int dp :: .ref a1 :: .int sp :: .ref a0 :: st).map (mv E))) rfl (by rw [C.2.2.2.1]; exact hls.1) (rest := st.map (mv E)) rfl (by rw [C.2.1]; exact hd) hR.1 (by show 2 * 0 + _ + _ ≤ _; omega)
  have e1 : copied (vp_cell (eC E 1) (n0, .inr (.inl f))) (vp_cell (eC E 1) (n1, .inr (.inl g))) sp dp n = vp_cell (eC E 1) (n1, .inr (.inl (va_cpy f g sp.toNatClampNeg dp.toNatClampNeg n.toNatClampNeg))) := va_copied (fun z => .long z) (eC E 1) (eC E 1) f g h4
  rw [e1] at X' step
  have hl : eB E + a1 < H.size := (Array.getElem?_eq_some_iff.mp hc1).1
  have hheap : ((T.setVm vm').setCell (eB E + a1) (vp_cell (eC E 1) (n1, .inr (.inl (va_cpy f g sp.toNatClampNeg dp.toNatClampNeg n.toNatClampNeg))))).heap = H.setIfInBounds (eB E + a1) (vp_cell (eC E 1) (n1, .inr (.inl (va_cpy f g sp.toNatClampNeg dp.toNatClampNeg n.toNatClampNeg)))) := by rw [← hT]; rfl
  have oq : ∀ q : Nat, q ≠ eB E + a1 → (H.setIfInBounds (eB E + a1) (vp_cell (eC E 1) (n1, .inr (.inl (va_cpy f g sp.toNatClampNeg dp.toNatClampNeg n.toNatClampNeg)))))[q]? = H[q]? := fun q hq => by simp [Array.getElem?_setIfInBounds, Ne.symm hq]
  have hW1 : Wd E (hset h a1 (oL n1 (va_cpy f g sp.toNatClampNeg dp.toNatClampNeg n.toNatClampNeg))) (H.setIfInBounds (eB E + a1) (vp_cell (eC E 1) (n1, .inr (.inl (va_cpy f g sp.toNatClampNeg dp.toNatClampNeg n.toNatClampNeg))))) := hW.put ha1 hd1 (show (H.setIfInBounds (eB E + a1) _)[eB E + a1]? = some _ by simp [Array.getElem?_setIfInBounds, hl]) oq
  obtain ⟨t, a1', b1⟩ := kk p e s m args below meth c C _ _ hW1 (by rw [Array.size_setIfInBounds]; exact hz) ⟨by rw [Array.size_setIfInBounds]; exact hS.1, fun q g1 g2 => by
      rw [oq q (fun e => g2 (by rw [e]; exact Nat.le_add_right _ _))]
      exact hS.2.1 q g1 g2, fun q hq => by
      rcases List.mem_append.mp hq with h | h
      · exact hS.2.2 q h
      · obtain ⟨z, -, hz⟩ := List.mem_map.mp h
        rw [← hz]
        exact Nat.le_add_right _ _⟩ ls hls _ hheap X'
  exact ⟨t, step t a1', b1⟩
end GOK
theorem cl_Log_20 : CpL "NumberPlace$Log" 20 := ⟨w_in 361 (by decide +kernel) (by decide +kernel), w_in 350 (by decide +kernel) (by decide +kernel), w_in 349 (by decide +kernel) (by decide +kernel), w_in 14 (by decide +kernel) (by decide +kernel)⟩
theorem cl_Pos_35 : CpL "NumberPlace$Position" 35 := ⟨w_in 348 (by decide +kernel) (by decide +kernel), w_in 350 (by decide +kernel) (by decide +kernel), w_in 349 (by decide +kernel) (by decide +kernel), w_in 14 (by decide +kernel) (by decide +kernel)⟩
theorem cl_Rul_41 : CpL "NumberPlace$Rules" 41 := ⟨w_in 355 (by decide +kernel) (by decide +kernel), w_in 350 (by decide +kernel) (by decide +kernel), w_in 349 (by decide +kernel) (by decide +kernel), w_in 14 (by decide +kernel) (by decide +kernel)⟩
theorem cl_Sta_50 : CpL "NumberPlace$State" 50 := ⟨w_in 356 (by decide +kernel) (by decide +kernel), w_in 350 (by decide +kernel) (by decide +kernel), w_in 349 (by decide +kernel) (by decide +kernel), w_in 14 (by decide +kernel) (by decide +kernel)⟩
