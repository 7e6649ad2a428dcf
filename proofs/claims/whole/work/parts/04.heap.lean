/-! Heap rows, calls and ends of the judgement Go. -/
def bnd {α γ : Type} (o : Option α) (k : α → Option γ) : Option γ := match o with
  | none => none
  | some a => k a
def bnd2 {α β γ : Type} (o : Option (α × β)) (k : α → β → Option γ) : Option γ := match o with
  | none => none
  | some (a, b) => k a b
theorem bnd_x {α γ : Type} {o : Option α} {k : α → Option γ} {c : γ} (e : bnd o k = some c) : ∃ a, o = some a ∧ k a = some c := by
  cases o with
  | none => cases e
  | some a => exact ⟨a, rfl, e⟩
theorem bnd2_x {α β γ : Type} {o : Option (α × β)} {k : α → β → Option γ} {c : γ} (e : bnd2 o k = some c) : ∃ a b, o = some (a, b) ∧ k a b = some c := by
  cases o with
  | none => cases e
  | some a => exact ⟨a.1, a.2, rfl, e⟩
theorem bnd_s {α γ : Type} (a : α) (k : α → Option γ) : bnd (some a) k = k a := rfl
theorem bnd_n {α γ : Type} (k : α → Option γ) : bnd none k = none := rfl
theorem bnd2_s {α β γ : Type} (a : α) (b : β) (k : α → β → Option γ) : bnd2 (some (a, b)) k = k a b := rfl
theorem bnd2_n {α β γ : Type} (k : α → β → Option γ) : bnd2 none k = none := rfl
def gV (h : PH) (a ci k : Nat) : Option Value := match h.2 a with
  | .inl (c, fs) => if c = ci then fs[k]? else none
  | _ => none
def gI (h : PH) (a ci k : Nat) : Option Int32 := match gV h a ci k with
  | some (.int v) => some v
  | _ => none
def gL (h : PH) (a ci k : Nat) : Option Int64 := match gV h a ci k with
  | some (.long v) => some v
  | _ => none
def gR (h : PH) (a ci k : Nat) : Option Nat := match gV h a ci k with
  | some (.ref v) => some v
  | _ => none
def pV (h : PH) (a ci k : Nat) (v : Value) : Option PH := match h.2 a with
  | .inl (c, fs) => if c = ci ∧ k < fs.length then some (hset h a (.inl (c, fs.set k v))) else none
  | _ => none
/-- the receiver is an object of the class -/
def cK (h : PH) (a ci : Nat) : Option Unit := match h.2 a with
  | .inl (c, _) => if c = ci then some () else none
  | _ => none
def aI (h : PH) (a : Nat) (i : Int32) : Option Int32 := match h.2 a with
  | .inr (.inl (n, f)) => if i < 0 ∨ n ≤ i.toNatClampNeg then none else some (f i.toNatClampNeg)
  | _ => none
def aL (h : PH) (a : Nat) (i : Int32) : Option Int64 := match h.2 a with
  | .inr (.inr (.inl (n, f))) => if i < 0 ∨ n ≤ i.toNatClampNeg then none else some (f i.toNatClampNeg)
  | _ => none
def aR (h : PH) (a : Nat) (i : Int32) : Option Nat := match h.2 a with
  | .inr (.inr (.inr (t, n, f))) => if i < 0 ∨ n ≤ i.toNatClampNeg ∨ 2 ≤ t then none else f i.toNatClampNeg
  | _ => none
def aN (h : PH) (a : Nat) : Option Int32 := match h.2 a with
  | .inr (.inl (n, _)) => some (Int32.ofNat n)
  | .inr (.inr (.inl (n, _))) => some (Int32.ofNat n)
  | _ => none
def sI (h : PH) (a : Nat) (i v : Int32) : Option PH := match h.2 a with
  | .inr (.inl (n, f)) => if i < 0 ∨ n ≤ i.toNatClampNeg then none else some (hset h a (oI n (upd f i.toNatClampNeg v)))
  | _ => none
def sL (h : PH) (a : Nat) (i : Int32) (v : Int64) : Option PH := match h.2 a with
  | .inr (.inr (.inl (n, f))) => if i < 0 ∨ n ≤ i.toNatClampNeg then none else some (hset h a (oL n (vp_updL f i.toNatClampNeg v)))
  | _ => none
/-- the static row -/
def uL (i : Int32) : Option Int64 := if i < 0 ∨ 18 ≤ i.toNatClampNeg then none else some (uVal i.toNatClampNeg)
/-- a truth value -/
def cZ (v : Int32) : Option Unit := if v = 0 ∨ v = 1 then some () else none
def cD (v : Int32) : Option Unit := if v = 0 then none else some ()
def cDL (v : Int64) : Option Unit := if v = 0 then none else some ()
theorem gV_x {h : PH} {a ci k : Nat} {v : Value} (e : gV h a ci k = some v) : ∃ fs, h.2 a = .inl (ci, fs) ∧ fs[k]? = some v := by
  unfold gV at e
  split at e
  · rename_i c fs q
    split at e
    · rename_i q2
      subst q2
      exact ⟨fs, q, e⟩
    · cases e
  · cases e
theorem gI_x {h : PH} {a ci k : Nat} {v : Int32} (e : gI h a ci k = some v) : gV h a ci k = some (.int v) := by
  unfold gI at e
  split at e
  · rename_i w q
    cases e
    exact q
  · cases e
theorem gL_x {h : PH} {a ci k : Nat} {v : Int64} (e : gL h a ci k = some v) : gV h a ci k = some (.long v) := by
  unfold gL at e
  split at e
  · rename_i w q
    cases e
    exact q
  · cases e
theorem gR_x {h : PH} {a ci k : Nat} {v : Nat} (e : gR h a ci k = some v) : gV h a ci k = some (.ref v) := by
  unfold gR at e
  split at e
  · rename_i w q
    cases e
    exact q
  · cases e
theorem pV_x {h h1 : PH} {a ci k : Nat} {v : Value} (e : pV h a ci k v = some h1) : ∃ fs, h.2 a = .inl (ci, fs) ∧ k < fs.length ∧ h1 = hset h a (.inl (ci, fs.set k v)) := by
  unfold pV at e
  split at e
  · rename_i c fs q
    split at e
    · rename_i q2
      obtain ⟨q2, q3⟩ := q2
      subst q2
      cases e
      exact ⟨fs, q, q3, rfl⟩
    · cases e
  · cases e
theorem cK_x {h : PH} {a ci : Nat} (e : cK h a ci = some ()) : ∃ fs, h.2 a = .inl (ci, fs) := by
  unfold cK at e
  split at e
  · rename_i c fs q
    split at e
    · rename_i q2
      subst q2
      exact ⟨fs, q⟩
    · cases e
  · cases e
theorem aI_x {h : PH} {a : Nat} {i v : Int32} (e : aI h a i = some v) : ∃ n f, h.2 a = oI n f ∧ vp_in i n ∧ v = f i.toNatClampNeg := by
  unfold aI at e
  split at e
  · rename_i n f q
    split at e
    · cases e
    · rename_i q2
      cases e
      exact ⟨n, f, q, q2, rfl⟩
  · cases e
theorem aL_x {h : PH} {a : Nat} {i : Int32} {v : Int64} (e : aL h a i = some v) : ∃ n f, h.2 a = oL n f ∧ vp_in i n ∧ v = f i.toNatClampNeg := by
  unfold aL at e
  split at e
  · rename_i n f q
    split at e
    · cases e
    · rename_i q2
      cases e
      exact ⟨n, f, q, q2, rfl⟩
  · cases e
theorem aR_x {h : PH} {a : Nat} {i : Int32} {v : Nat} (e : aR h a i = some v) : ∃ t n f, h.2 a = oR t n f ∧ vp_in i n ∧ t < 2 ∧ f i.toNatClampNeg = some v := by
  unfold aR at e
  split at e
  · rename_i t n f q
    split at e
    · cases e
    · rename_i q2
      exact ⟨t, n, f, q, fun z => q2 (z.elim Or.inl (fun z => Or.inr (Or.inl z))), Nat.not_le.mp fun z => q2 (Or.inr (Or.inr z)), e⟩
  · cases e
theorem sI_x {h h1 : PH} {a : Nat} {i v : Int32} (e : sI h a i v = some h1) : ∃ n f, h.2 a = oI n f ∧ vp_in i n ∧ h1 = hset h a (oI n (upd f i.toNatClampNeg v)) := by
  unfold sI at e
  split at e
  · rename_i n f q
    split at e
    · cases e
    · rename_i q2
      cases e
      exact ⟨n, f, q, q2, rfl⟩
  · cases e
theorem sL_x {h h1 : PH} {a : Nat} {i : Int32} {v : Int64} (e : sL h a i v = some h1) : ∃ n f, h.2 a = oL n f ∧ vp_in i n ∧ h1 = hset h a (oL n (vp_updL f i.toNatClampNeg v)) := by
  unfold sL at e
  split at e
  · rename_i n f q
    split at e
    · cases e
    · rename_i q2
      cases e
      exact ⟨n, f, q, q2, rfl⟩
  · cases e
theorem uL_x {i : Int32} {v : Int64} (e : uL i = some v) : vp_in i 18 ∧ v = uVal i.toNatClampNeg := by
  unfold uL at e
  split at e
  · cases e
  · rename_i q2
    cases e
    exact ⟨q2, rfl⟩
theorem cZ_x {v : Int32} (e : cZ v = some ()) : v = 0 ∨ v = 1 := by
  unfold cZ at e
  split at e
  · assumption
  · cases e
theorem cD_x {v : Int32} (e : cD v = some ()) : ¬ v = 0 := by
  unfold cD at e
  split at e
  · cases e
  · assumption
theorem cDL_x {v : Int64} (e : cDL v = some ()) : ¬ v = 0 := by
  unfold cDL at e
  split at e
  · cases e
  · assumption
theorem one_P {D : va_G} {a : Nat} {c : va_E} {H : Heap} (h : va_at D cls_L (a, c) H) : va_P D cls_L [(a, c)] H := by
  intro k q hk
  have hz : k < 1 := (List.getElem?_eq_some_iff.mp hk).1
  rw [show k = 0 by omega] at hk
  cases hk
  exact h
theorem Wd.lt {E : ET} {h : PH} {H : Heap} {a : Nat} {c : PC} (hW : Wd E h H) (ha : h.2 a = c) (hn : c ≠ pdead) : a < h.1 := by
  rcases Nat.lt_or_ge a h.1 with q | q
  · exact q
  · exact absurd ((hW.2 a q).symm.trans ha).symm hn
theorem Wd.at {E : ET} {h : PH} {H : Heap} {a : Nat} {c : PC} (hW : Wd E h H) (ha : h.2 a = c) (hn : c ≠ pdead) : va_at (eD E) cls_L (eB E + a, upc E c) H := by
  have h1 := hW.1 a (hW.lt ha hn)
  rwa [ha] at h1
theorem Wd.put {E : ET} {h : PH} {H H1 : Heap} {a : Nat} {c0 c : PC} (hW : Wd E h H) (ha : h.2 a = c0) (hn : c0 ≠ pdead) (he : va_at (eD E) cls_L (eB E + a, upc E c) H1) (oq : ∀ q : Nat, q ≠ eB E + a → H1[q]? = H[q]?) : Wd E (hset h a c) H1 := by
  have hlt := hW.lt ha hn
  refine ⟨fun k hk => ?_, fun k hk => ?_⟩
  · by_cases q : k = a
    · subst q
      rw [hset_s]
      exact he
    · rw [hset_n h c q]
      exact (hW.1 k hk).kept (oq _ (by show eB E + k ≠ eB E + a; omega))
  · have q : k ≠ a := fun q => by subst q; exact absurd hlt (Nat.not_lt.mpr hk)
    rw [hset_n h c q]
    exact hW.2 k hk
theorem ci_lt {ci k : Nat} {fs : List Value} {v : Value} (hf : fs[k]? = some v) : (Sum.inl (ci, fs) : PC) ≠ pdead := by
  intro q
  cases q
  simp at hf
theorem ci_lt2 {ci : Nat} {fs : List Value} (h : ci < cls_L.length) : (Sum.inl (ci, fs) : PC) ≠ pdead := by
  intro q
  cases q
  exact absurd h (by decide)
theorem w_own : ∀ ci, ci < cls_L.length → ∀ k, k < (cT ci).2.2 → ((cT ci).2.1 k).1 = (cT ci).1 := by decide +kernel
/-- a field by its place in a class's pool -/
def FL (b : Bool) (own : String) (idx ci k : Nat) : Prop := ci < cls_L.length ∧ k < (cT ci).2.2 ∧ (match b with
  | false => Cond.fieldLink own idx (cT ci).1 ((cT ci).2.1 k).2.1 ((cT ci).2.1 k).2.2.1 ∈ w_S
  | true => Cond.fieldLinkNest own idx (cT ci).1 ((cT ci).2.1 k).2.1 ((cT ci).2.1 k).2.2.1 "NumberPlace" ∈ w_N)
section GOH
variable {l : Launch} {E : ET} {M : MT} {R : Room} {K : KT} {kc ks : Nat} {h h1 : PH} {x : Nat} {pc : Nat} {lv lv' : List (Nat × Value)} {st : List Value}
theorem go_get {b : Bool} {idx a ci k : Nat} {v : Value} (hd : decode M.2.1 pc = .ok (.getfield idx, 3)) (hv : gV h a ci k = some v) (hl : FL b M.1.cls idx ci k) (kk : Go l E M R K kc ks h x (pc + 3) lv (v :: st)) : Go l E M R K kc ks h x pc lv (.ref a :: st) := by
  intro p e s m args below meth c C H locs hW hz hS ls hls
  obtain ⟨fs, ha, hf⟩ := gV_x hv
  obtain ⟨hci, hk, hw⟩ := hl
  have hP := one_P (hW.at ha (ci_lt hf))
  have hv' : (fs.map (mv E))[k]? = some (mv E v) := by rw [List.getElem?_map, hf]; rfl
  have hsame : ∀ y, s.fieldFound? ((cT ci).2.1 k).1 ((cT ci).2.1 k).2.1 ((cT ci).2.1 k).2.2.1 = some y → s.fieldFound? (cT ci).1 ((cT ci).2.1 k).2.1 ((cT ci).2.1 k).2.2.1 = some y := fun y q => by rw [w_own ci hci k hk] at q; exact q
  cases b with
  | false => exact va_get C.1 C.2.1 C.2.2.2.2.2.1 (w_lays ci hci) C.2.2.2.2.1 C.2.2.2.2.2.2.2.1.1 hP 0 rfl (w_cls hci) k hk (C.2.2.2.2.2.1 _ hw) hsame hv' hd (kk p e s m args below meth c C H locs hW hz hS ls hls)
  | true => exact va_getN C.1 C.2.1 C.2.2.2.2.2.1 (w_lays ci hci) C.2.2.2.2.1 C.2.2.2.2.2.2.2.1.1 hP 0 rfl (w_cls hci) k hk (va_Nw.use rfl (C.2.2.2.2.2.2.2.1.2.1 _ hw)) hsame hv' hd (kk p e s m args below meth c C H locs hW hz hS ls hls)
theorem go_put {b : Bool} {idx a ci k : Nat} {v : Value} (hd : decode M.2.1 pc = .ok (.putfield idx, 3)) (hv : pV h a ci k v = some h1) (hl : FL b M.1.cls idx ci k) (hfin : ((cT ci).2.1 k).2.2.2 = false) (hn : narrow (cTy ci k) (mv E v) = mv E v) (hfit : fits (cTy ci k) (mv E v) = true) (kk : Go l E M R K kc ks h1 x (pc + 3) lv st) : Go l E M R K kc ks h x pc lv (v :: .ref a :: st) := by
  intro p e s m args below meth c C H locs hW hz hS ls hls
  obtain ⟨fs, ha, hlen, rfl⟩ := pV_x hv
  obtain ⟨hci, hk, hw⟩ := hl
  have hnd := ci_lt2 (fs := fs) hci
  have hSF := C.2.2.2.2.2.2.2.1
  have hap := va_apart (own := M.1.cls) C.2.2.2.2.2.1 (w_lays ci hci) (cTy ci) (w_tys ci hci) (w_nms ci hci) hSF.1 (w_cls hci)
  obtain ⟨r, q0, cell, q1, q2, q3, q4⟩ := hW.at ha hnd
  have hr : r = cT ci := Option.some.inj (q0.symm.trans (w_cls hci))
  subst hr
  obtain ⟨hSl, hfc, kC, hkC, hkind⟩ := hSF.1.1 ci _ (w_cls hci)
  obtain ⟨cf, kf, fi, f, hi, hsl⟩ := hSl k hk
  have hlay := C.2.2.2.2.2.1 _ (w_lays ci hci _ (u_in_lay hk))
  unfold u_lay at hlay
  rw [if_neg (by rw [hfin]; decide)] at hlay
  have hst := (u_facts hfc hkC (u_lays C.2.2.2.2.2.1 (w_lays ci hci) hk) hi).1
  have h6 := u_store hfc hkC hkind hlay hi (w_tys ci hci k hk) hn hfit
  have hsame : ∀ y, s.fieldFound? ((cT ci).2.1 k).1 ((cT ci).2.1 k).2.1 ((cT ci).2.1 k).2.2.1 = some y → s.fieldFound? (cT ci).1 ((cT ci).2.1 k).2.1 ((cT ci).2.1 k).2.2.1 = some y := fun y q => by rw [w_own ci hci k hk] at q; exact q
  have go : ∀ H' : Heap, H'[eB E + a]? = some (cell.setSlot f.slot (mv E v)) → H'.size = H.size → (∀ q, q ≠ eB E + a → H'[q]? = H[q]?) → W p l e R s m args below meth c H' (locs ++ [⟨eB E + a, f.slot⟩]) kc ks (K p e s m args below meth c) (F0 m (pc + 3) ls (st.map (mv E))) := by
    intro H' e1 e2 e3
    rw [hsl] at e1 ⊢
    refine kk p e s m args below meth c C H' _ (hW.put ha hnd ⟨_, w_cls hci, t_OB.to (V := updV (vp_V (fs.map (mv E))) k (mv E v)) ⟨_, e1, q2, q3, t_set q4 hap hk (mv E v)⟩ (fun j _ => ?_)⟩ e3) (e2.trans hz) (hS.put e2 e3 (Nat.le_add_right _ _)) ls hls
    rw [vp_updV_set (by rw [List.length_map]; exact hlen), List.map_set]
  cases b with
  | false => exact W.putK C.1 C.2.1 (f := f) ⟨C.2.2.2.2.1, C.2.2.2.2.2.1 _ hw, ⟨_, _, _, hsame _ hi⟩, hst⟩ (by rw [q2]; exact h6) q1 q3 (by rw [hsl]; exact k2_hasslot (q4 k hk)) rfl rfl hd go
  | true => exact va_WputK C.1 C.2.1 (f := f) C.2.2.2.2.1 (va_Nw.use rfl (C.2.2.2.2.2.2.2.1.2.1 _ hw)) (hsame _ hi) hst (by rw [q2]; exact h6) q1 q3 (by rw [hsl]; exact k2_hasslot (q4 k hk)) rfl rfl hd go
theorem go_putI {b : Bool} {idx a ci k : Nat} {v : Int32} (hd : decode M.2.1 pc = .ok (.putfield idx, 3)) (hv : pV h a ci k (.int v) = some h1) (hl : FL b M.1.cls idx ci k) (hfin : ((cT ci).2.1 k).2.2.2 = false) (ht : cTy ci k = .int) (kk : Go l E M R K kc ks h1 x (pc + 3) lv st) : Go l E M R K kc ks h x pc lv (.int v :: .ref a :: st) :=
  go_put hd hv hl hfin (by rw [ht]; rfl) (by rw [ht]; rfl) kk
theorem go_putL {b : Bool} {idx a ci k : Nat} {v : Int64} (hd : decode M.2.1 pc = .ok (.putfield idx, 3)) (hv : pV h a ci k (.long v) = some h1) (hl : FL b M.1.cls idx ci k) (hfin : ((cT ci).2.1 k).2.2.2 = false) (ht : cTy ci k = .long) (kk : Go l E M R K kc ks h1 x (pc + 3) lv st) : Go l E M R K kc ks h x pc lv (.long v :: .ref a :: st) :=
  go_put hd hv hl hfin (by rw [ht]; rfl) (by rw [ht]; rfl) kk
theorem go_putZ {b : Bool} {idx a ci k : Nat} {v : Int32} (hd : decode M.2.1 pc = .ok (.putfield idx, 3)) (hz0 : cZ v = some ()) (hv : pV h a ci k (.int v) = some h1) (hl : FL b M.1.cls idx ci k) (hfin : ((cT ci).2.1 k).2.2.2 = false) (ht : cTy ci k = .boolean) (kk : Go l E M R K kc ks h1 x (pc + 3) lv st) : Go l E M R K kc ks h x pc lv (.int v :: .ref a :: st) := by
  refine go_put hd hv hl hfin ?_ ?_ kk
  · rw [ht]
    rcases cZ_x hz0 with rfl | rfl <;> rfl
  · rw [ht]
    rcases cZ_x hz0 with rfl | rfl <;> rfl
theorem go_iaload {a : Nat} {i v : Int32} (hd : decode M.2.1 pc = .ok (.iaload, 1)) (hv : aI h a i = some v) (kk : Go l E M R K kc ks h x (pc + 1) lv (.int v :: st)) : Go l E M R K kc ks h x pc lv (.int i :: .ref a :: st) := by
  intro p e s m args below meth c C H locs hW hz hS ls hls
  obtain ⟨n, f, ha, hin, rfl⟩ := aI_x hv
  exact va_iald C.1 C.2.1 C.2.2.2.2.2.2.2.1.1 (one_P (hW.at ha (fun q => nomatch q))) 0 0 rfl rfl hin hd (kk p e s m args below meth c C H locs hW hz hS ls hls)
theorem go_laload {a : Nat} {i : Int32} {v : Int64} (hd : decode M.2.1 pc = .ok (.laload, 1)) (hv : aL h a i = some v) (kk : Go l E M R K kc ks h x (pc + 1) lv (.long v :: st)) : Go l E M R K kc ks h x pc lv (.int i :: .ref a :: st) := by
  intro p e s m args below meth c C H locs hW hz hS ls hls
  obtain ⟨n, f, ha, hin, rfl⟩ := aL_x hv
  exact va_lald C.1 C.2.1 C.2.2.2.2.2.2.2.1.1 (one_P (hW.at ha (fun q => nomatch q))) 0 1 rfl rfl hin hd (kk p e s m args below meth c C H locs hW hz hS ls hls)
theorem go_aaload {a : Nat} {i : Int32} {v : Nat} (hd : decode M.2.1 pc = .ok (.aaload, 1)) (hv : aR h a i = some v) (kk : Go l E M R K kc ks h x (pc + 1) lv (.ref v :: st)) : Go l E M R K kc ks h x pc lv (.int i :: .ref a :: st) := by
  intro p e s m args below meth c C H locs hW hz hS ls hls
  obtain ⟨t, n, f, ha, hin, ht2, hf⟩ := aR_x hv
  have h9 := kk p e s m args below meth c C H locs hW hz hS ls hls
  have hP := one_P (hW.at ha (fun q => nomatch q))
  match t, ht2, hP with
  | 0, _, hP =>
    refine va_aldq C.1 C.2.1 C.2.2.2.2.2.2.2.1.1 hP 0 2 rfl rfl hin hd ?_
    rw [hf]
    exact h9
  | 1, _, hP =>
    refine va_aldq C.1 C.2.1 C.2.2.2.2.2.2.2.1.1 hP 0 3 rfl rfl hin hd ?_
    rw [hf]
    exact h9
theorem go_uload {i : Int32} {v : Int64} (hd : decode M.2.1 pc = .ok (.laload, 1)) (hv : uL i = some v) (kk : Go l E M R K kc ks h x (pc + 1) lv (.long v :: st)) : Go l E M R K kc ks h x pc lv (.int i :: .retAddr 0 :: st) := by
  intro p e s m args below meth c C H locs hW hz hS ls hls
  obtain ⟨hin, rfl⟩ := uL_x hv
  obtain ⟨_, _, _, ⟨c0, a1, a2, a3, a4, a5⟩, _, _, a8, _, a10⟩ := C.2.2.2.2.2.2.2.1
  have hlt : i.toNatClampNeg < 18 := Nat.not_le.mp fun q => hin (Or.inr q)
  have e0 : H[eS E 0]? = some c0 := (hS.2.1 _ (Nat.lt_of_lt_of_le a8 a10) (Nat.not_le.mpr a8)).trans a1
  exact W.lald (v := .long (uVal i.toNatClampNeg)) C.1 C.2.1 e0 a2 a3 (fun q => hin (q.elim Or.inl (fun z => Or.inr (Nat.le_trans a4 z)))) (a5 _ hlt) rfl rfl hd (kk p e s m args below meth c C H locs hW hz hS ls hls)
theorem go_sload {i : Int32} (hd : decode M.2.1 pc = .ok (.iaload, 1)) (hin : vp_in i (eL E)) (kk : Go l E M R K kc ks h x (pc + 1) lv (.int (eX E i.toNatClampNeg) :: st)) : Go l E M R K kc ks h x pc lv (.int i :: .retAddr 1 :: st) := by
  intro p e s m args below meth c C H locs hW hz hS ls hls
  obtain ⟨_, _, _, _, hX, _, _, a9, a10⟩ := C.2.2.2.2.2.2.2.1
  exact va_sld C.1 C.2.1 hX (Nat.lt_of_lt_of_le a9 a10) (Nat.not_le.mpr a9) hS hin hd (kk p e s m args below meth c C H locs hW hz hS ls hls)
theorem go_slen (hd : decode M.2.1 pc = .ok (.arraylength, 1)) (kk : Go l E M R K kc ks h x (pc + 1) lv (.int (Int32.ofNat (eL E)) :: st)) : Go l E M R K kc ks h x pc lv (.retAddr 1 :: st) := by
  intro p e s m args below meth c C H locs hW hz hS ls hls
  obtain ⟨_, _, _, _, hX, _, _, a9, a10⟩ := C.2.2.2.2.2.2.2.1
  exact va_slen C.1 C.2.1 hX (Nat.lt_of_lt_of_le a9 a10) (Nat.not_le.mpr a9) hS hd (kk p e s m args below meth c C H locs hW hz hS ls hls)
theorem go_static {idx : Nat} (hd : decode M.2.1 pc = .ok (.getstatic idx, 3)) (hw : Cond.fieldLink M.1.cls idx "NumberPlace$Grid" "UNIT_CELLS" "[J" ∈ w_S) (kk : Go l E M R K kc ks h x (pc + 3) lv (.retAddr 0 :: st)) : Go l E M R K kc ks h x pc lv st := by
  intro p e s m args below meth c C H locs hW hz hS ls hls
  exact va_gets C.1 C.2.1 C.2.2.2.2.2.2.2.1.2.2.1 hS C.2.2.2.2.1 (C.2.2.2.2.2.1 _ hw) (fun _ q => q) hd (kk p e s m args below meth c C H locs hW hz hS ls hls)
theorem go_alen {a : Nat} {v : Int32} (hd : decode M.2.1 pc = .ok (.arraylength, 1)) (hv : aN h a = some v) (kk : Go l E M R K kc ks h x (pc + 1) lv (.int v :: st)) : Go l E M R K kc ks h x pc lv (.ref a :: st) := by
  intro p e s m args below meth c C H locs hW hz hS ls hls
  have h9 := kk p e s m args below meth c C H locs hW hz hS ls hls
  unfold aN at hv
  split at hv
  · rename_i n f ha
    cases hv
    exact va_alen C.1 C.2.1 C.2.2.2.2.2.2.2.1.1 (one_P (hW.at ha (fun q => nomatch q))) 0 0 rfl rfl rfl hd h9
  · rename_i n f ha
    cases hv
    exact va_alen C.1 C.2.1 C.2.2.2.2.2.2.2.1.1 (one_P (hW.at ha (fun q => nomatch q))) 0 1 rfl rfl rfl hd h9
  · cases hv
theorem go_iastore {a : Nat} {i : Int32} {v : Int32} (hd : decode M.2.1 pc = .ok (.iastore, 1)) (hv : sI h a i v = some h1) (kk : Go l E M R K kc ks h1 x (pc + 1) lv st) : Go l E M R K kc ks h x pc lv (.int v :: .int i :: .ref a :: st) := by
  intro p e s m args below meth c C H locs hW hz hS ls hls
  obtain ⟨n, f, ha, hin, rfl⟩ := sI_x hv
  have hnd : oI n f ≠ pdead := fun q => nomatch q
  have hcell := hW.at ha hnd
  refine W.iast C.1 C.2.1 hcell ((C.2.2.2.2.2.2.2.1.1.2 0 _ rfl).1 n (fun j => .int (f j))) (fun q => by cases q) (by show ¬ (i < 0 ∨ (arrV _ _ _).slots.size ≤ _); rw [arrV_size]; exact hin) rfl rfl hd fun H' e1 e2 e3 => ?_
  refine kk p e s m args below meth c C H' _ (hW.put ha hnd ?_ e3) (e2.trans hz) (hS.put e2 e3 (Nat.le_add_right _ _)) ls hls
  show H'[eB E + a]? = some (vp_cell _ _)
  rw [e1]
  show some ((vp_cell _ _).setSlot _ _) = some (vp_cell _ _)
  rw [vp_cell_i, vp_cell_i, arrV_store]
  congr 2
  funext q
  by_cases hq : q = i.toNatClampNeg
  · subst hq
    simp [updV, upd]
  · simp [updV, upd, hq]
theorem go_lastore {a : Nat} {i : Int32} {v : Int64} (hd : decode M.2.1 pc = .ok (.lastore, 1)) (hv : sL h a i v = some h1) (kk : Go l E M R K kc ks h1 x (pc + 1) lv st) : Go l E M R K kc ks h x pc lv (.long v :: .int i :: .ref a :: st) := by
  intro p e s m args below meth c C H locs hW hz hS ls hls
  obtain ⟨n, f, ha, hin, rfl⟩ := sL_x hv
  have hnd : oL n f ≠ pdead := fun q => nomatch q
  have hcell := hW.at ha hnd
  refine W.last C.1 C.2.1 hcell ((C.2.2.2.2.2.2.2.1.1.2 1 _ rfl).1 n (fun j => .long (f j))) (fun q => by cases q) (by show ¬ (i < 0 ∨ (arrV _ _ _).slots.size ≤ _); rw [arrV_size]; exact hin) rfl rfl hd fun H' e1 e2 e3 => ?_
  refine kk p e s m args below meth c C H' _ (hW.put ha hnd ?_ e3) (e2.trans hz) (hS.put e2 e3 (Nat.le_add_right _ _)) ls hls
  show H'[eB E + a]? = some (vp_cell _ _)
  rw [e1]
  show some ((vp_cell _ _).setSlot _ _) = some (vp_cell _ _)
  rw [vp_cell_l, vp_cell_l, arrV_store]
  congr 2
  funext q
  by_cases hq : q = i.toNatClampNeg
  · subst hq
    simp [updV, vp_updL]
  · simp [updV, vp_updL, hq]
end GOH
