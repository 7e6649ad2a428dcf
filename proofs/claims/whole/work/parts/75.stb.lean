/-! The class's states: whole. -/
abbrev ST : Type := RT × (Nat → Nat → Bool) × (Nat → Bool) × (Nat → Nat) × Nat × (Nat → Nat → Int32)
def tR (x : ST) : RT := x.1
def tK (x : ST) : Nat → Nat → Bool := x.2.1
def tP (x : ST) : Nat → Bool := x.2.2.1
def tG (x : ST) : Nat → Nat := x.2.2.2.1
def tN (x : ST) : Nat := x.2.2.2.2.1
def tE (x : ST) : Nat → Nat → Int32 := x.2.2.2.2.2
def VAL (x : ST) : Prop := ROK (tR x) ∧ PI (tK x) (tP x) ∧ gvOK (tG x) ∧ tN x ≤ 100
def SV (s : Nat) (V : Nat → Value) : Prop := V 0 = .ref (s + 1) ∧ V 1 = .ref (s + 3) ∧ V 2 = .ref (s + 10) ∧ V 3 = .ref (s + 11)
def StaAt (h : PH) (s : Nat) (x : ST) (T S : Nat → Bool) : Prop := (∃ V, h.2 s = obj 8 4 V ∧ SV s V) ∧ PosAt h (s + 1) (tK x) (tP x) T S ∧ RulAt h (s + 3) (tR x) ∧ (∃ g, h.2 (s + 10) = oI 36 g ∧ ∀ c, c < 36 → g c = nI (tG x c)) ∧ LogAt h (s + 11) (tN x) (tE x)
def StaSh (h : PH) (s : Nat) : Prop := (∃ V, h.2 s = obj 8 4 V ∧ SV s V) ∧ PosSh h (s + 1) ∧ RulSh h (s + 3) ∧ (∃ g, h.2 (s + 10) = oI 36 g) ∧ LogSh h (s + 11)
def US (s : Nat) : Nat → Prop := fun k => s ≤ k ∧ k < s + 13
def CSt (h : PH) (s : Nat) (x : ST) : Prop := ∃ T S, StaAt h s x T S ∧ INV (tR x) (tK x) T S
theorem StaAt.sh {h : PH} {s : Nat} {x : ST} {T S : Nat → Bool} (H : StaAt h s x T S) : StaSh h s := by
  obtain ⟨a, b, c, ⟨g, d, _⟩, e⟩ := H
  exact ⟨a, b.sh, c.sh, ⟨g, d⟩, e.sh⟩
theorem CSt.sh {h : PH} {s : Nat} {x : ST} (H : CSt h s x) : StaSh h s := by
  obtain ⟨T, S, a, _⟩ := H
  exact a.sh
theorem RulAt.fe {h h' : PH} {r : Nat} {R : RT} (H : RulAt h r R) (q : ∀ j, j < 7 → h'.2 (r + j) = h.2 (r + j)) : RulAt h' r R := by
  obtain ⟨V, kd, sm, ln, cl, ar, pe, a0, a1, a2, a3, a4, a5, a6, a7, ⟨b1, b2, b3, b4, b5, b6⟩, c1⟩ := H
  exact ⟨V, kd, sm, ln, cl, ar, pe, (q 0 (by omega)).trans a0, a1, a2, a3, a4, a5, a6, a7, ⟨(q 1 (by omega)).trans b1, (q 2 (by omega)).trans b2, (q 3 (by omega)).trans b3, (q 4 (by omega)).trans b4, (q 5 (by omega)).trans b5, (q 6 (by omega)).trans b6⟩, c1⟩
theorem RulSh.fe {h h' : PH} {r : Nat} (H : RulSh h r) (q : ∀ j, j < 7 → h'.2 (r + j) = h.2 (r + j)) : RulSh h' r := by
  obtain ⟨V, kd, sm, ln, cl, ar, pe, a0, a1, b1, b2, b3, b4, b5, b6⟩ := H
  exact ⟨V, kd, sm, ln, cl, ar, pe, (q 0 (by omega)).trans a0, a1, (q 1 (by omega)).trans b1, (q 2 (by omega)).trans b2, (q 3 (by omega)).trans b3, (q 4 (by omega)).trans b4, (q 5 (by omega)).trans b5, (q 6 (by omega)).trans b6⟩
theorem StaAt.fr {h h' : PH} {s : Nat} {x : ST} {T S : Nat → Bool} (H : StaAt h s x T S) (e : ∀ k, US s k → h'.2 k = h.2 k) : StaAt h' s x T S := by
  simp only [US] at e
  obtain ⟨⟨V, a0, a1⟩, b, c, ⟨g, d, d'⟩, f⟩ := H
  exact ⟨⟨V, (e _ (by omega)).trans a0, a1⟩, b.fr (e _ (by omega)) (e _ (by omega)), c.fe fun j hj => e _ (by omega), ⟨g, (e _ (by omega)).trans d, d'⟩, f.fr (e _ (by omega)) (e _ (by omega))⟩
theorem StaSh.fr {h h' : PH} {s : Nat} (H : StaSh h s) (e : ∀ k, US s k → h'.2 k = h.2 k) : StaSh h' s := by
  simp only [US] at e
  obtain ⟨⟨V, a0, a1⟩, b, c, ⟨g, d⟩, f⟩ := H
  exact ⟨⟨V, (e _ (by omega)).trans a0, a1⟩, b.fr (e _ (by omega)) (e _ (by omega)), c.fe fun j hj => e _ (by omega), ⟨g, (e _ (by omega)).trans d⟩, f.fr (e _ (by omega)) (e _ (by omega))⟩
theorem CSt.fr {h h' : PH} {s : Nat} {x : ST} (H : CSt h s x) (e : ∀ k, US s k → h'.2 k = h.2 k) : CSt h' s x := by
  obtain ⟨T, S, a, b⟩ := H
  exact ⟨T, S, a.fr e, b⟩
theorem sta_copy {h : PH} {s t : Nat} {x : ST} {T S : Nat → Bool} (H : StaAt h t x T S) (hR : ROK (tR x)) (Hs : StaSh h s) (hne : s + 13 ≤ t ∨ t + 13 ≤ s) : ∃ h', f_Sta_copyFrom s t h = some h' ∧ StaAt h' s x T S ∧ Fr (US s) h h' := by
  obtain ⟨⟨V, a0, a1, a2, a3, a4⟩, b, c, ⟨g, d, d'⟩, f⟩ := H
  obtain ⟨⟨W, w0, w1, w2, w3, w4⟩, b', c', ⟨g', d2⟩, f'⟩ := Hs
  obtain ⟨h1, p1, q1, f1⟩ := p_copyFrom b b' (by omega)
  have e1 : ∀ k, k ≠ s + 1 → k ≠ s + 2 → h1.2 k = h.2 k := fun k z1 z2 => f1.2 k (by simp only [PS]; omega)
  obtain ⟨h2, p2, q2, f2⟩ := rul_copy (c.fe fun j hj => e1 _ (by omega) (by omega)) hR (c'.fe fun j hj => e1 _ (by omega) (by omega)) (by omega)
  have e2 : ∀ k, ¬ (s + 1 ≤ k ∧ k < s + 10) → h2.2 k = h.2 k := fun k z => (f2.2 k (by simp only [UR]; omega)).trans (e1 k (by omega) (by omega))
  obtain ⟨h3, p3, q3, f3⟩ := cpi (n := 36) ((e2 (t + 10) (by omega)).trans d) ((e2 (s + 10) (by omega)).trans d2) (by omega)
  have e3 : ∀ k, ¬ (s + 1 ≤ k ∧ k < s + 11) → h3.2 k = h.2 k := fun k z => (f3.2 k (by omega)).trans (e2 k (by omega))
  obtain ⟨h4, p4, q4, f4⟩ := log_copy (f.fr (e3 _ (by omega)) (e3 _ (by omega))) (f'.fr (e3 _ (by omega)) (e3 _ (by omega))) (by omega)
  have F : Fr (US s) h h4 := (f1.mo fun k hk => by simp only [PS, US] at hk ⊢; omega).tr ((f2.mo fun k hk => by simp only [UR, US] at hk ⊢; omega).tr ((f3.mo fun k hk => by simp only [US]; omega).tr (f4.mo fun k hk => by simp only [US]; omega)))
  have g4 : ∀ k, k ≠ s + 11 → k ≠ s + 12 → h4.2 k = h3.2 k := fun k z1 z2 => f4.2 k (by omega)
  refine ⟨h4, ?_, ⟨⟨W, (g4 _ (by omega) (by omega)).trans ((e3 _ (by omega)).trans w0), w1, w2, w3, w4⟩, ?_, ?_, ⟨_, (g4 _ (by omega) (by omega)).trans q3, fun c hc => by rw [cpy0 hc]; exact d' c hc⟩, q4⟩, F⟩
  · unfold f_Sta_copyFrom
    have hck : cK h (s + 1) 1 = some () := by obtain ⟨V9, sp, z, _⟩ := b'; exact ob_K z
    have hck2 : cK h1 (s + 3) 4 = some () := by obtain ⟨V9, _, _, _, _, _, _, z, _⟩ := c'; exact ob_K ((e1 _ (by omega) (by omega)).trans z)
    have hck3 : cK h3 (s + 11) 0 = some () := by obtain ⟨V9, _, z, _⟩ := f'; exact ob_K ((e3 _ (by omega)).trans z)
    rw [ob_R w0 (by omega) w1, bnd_s, ob_R a0 (by omega) a1, bnd_s, hck, bnd_s, p1, bnd_s, ob_R ((e1 _ (by omega) (by omega)).trans w0) (by omega) w2, bnd_s, ob_R ((e1 _ (by omega) (by omega)).trans a0) (by omega) a2, bnd_s, hck2, bnd_s, p2, bnd_s, ob_R ((e2 _ (by omega)).trans a0) (by omega) a3, bnd_s, ob_R ((e2 _ (by omega)).trans w0) (by omega) w3, bnd_s, show (36 : Int32) = nI 36 from rfl, p3, bnd_s, ob_R ((e3 _ (by omega)).trans w0) (by omega) w4, bnd_s, ob_R ((e3 _ (by omega)).trans a0) (by omega) a4, bnd_s, hck3, bnd_s, p4, bnd_s]
  · have z : ∀ k, k = s + 1 ∨ k = s + 1 + 1 → h4.2 k = h1.2 k := fun k hk => (g4 k (by omega) (by omega)).trans ((f3.2 k (by omega)).trans (f2.2 k (by simp only [UR]; omega)))
    exact q1.fr (z _ (Or.inl rfl)) (z _ (Or.inr rfl))
  · exact q2.fe fun j hj => (g4 _ (by omega) (by omega)).trans (f3.2 _ (by omega))
def x0 (e : Nat → Nat → Int32) : ST := (R0, fun _ _ => true, fun _ => false, fun _ => 0, 0, e)
theorem sta_wipe {h : PH} {s : Nat} (Hs : StaSh h s) (e : Nat → Nat → Int32) {F : Nat} (hF : 40 ≤ F) : ∃ h', f_Sta_wipe F s h = some h' ∧ StaAt h' s (x0 e) (fun _ => true) (fun _ => false) ∧ Fr (US s) h h' := by
  obtain ⟨⟨W, w0, w1, w2, w3, w4⟩, b', c', ⟨g', d2⟩, f'⟩ := Hs
  obtain ⟨h1, p1, q1, f1⟩ := p_openAll b' hF
  have e1 : ∀ k, k ≠ s + 1 → k ≠ s + 2 → h1.2 k = h.2 k := fun k z1 z2 => f1.2 k (by simp only [PS]; omega)
  obtain ⟨h2, p2, q2, f2⟩ := rul_wipe (c'.fe fun j hj => e1 _ (by omega) (by omega)) hF
  have e2 : ∀ k, ¬ (s + 1 ≤ k ∧ k < s + 10) → h2.2 k = h.2 k := fun k z => (f2.2 k (by simp only [UR]; omega)).trans (e1 k (by omega) (by omega))
  obtain ⟨h3, ⟨g, i1, i2, i3⟩, el⟩ := LC (fun n i t => f_Sta_wipe_16 F n s (nI i) t) (fun i t => ∃ g, t.2 (s + 10) = oI 36 g ∧ Fr (fun k => k = s + 10) h2 t ∧ ∀ c, c < i → g c = nI 0) 36
    (fun n i t hi ⟨g, i1, i2, i3⟩ => by
      refine ⟨hset t (s + 10) (oI 36 (upd g i 0)), ⟨_, hset_s _ _ _, i2.sq _, fun c hc => ?_⟩, ?_⟩
      · by_cases q : c = i
        · subst q; exact pk_us
        · rw [pk_un q]; exact i3 c (by omega)
      · show f_Sta_wipe_16 F (n + 1) s (nI i) t = _
        rw [f_Sta_wipe_16, b_Sta_wipe_16, if_neg (show ¬ (36 : Int32) ≤ nI i from nI_ge (a := (i)) (b := 36) (by omega) (by omega)), ob_R ((i2.2 _ (by omega)).trans ((e2 _ (by omega)).trans w0)) (by omega) w3, bnd_s, ar_sI _ i1 hi (by omega), bnd_s, nI_1]) 36 0 h2 F rfl (by omega) ⟨g', (e2 _ (by omega)).trans d2, Fr.rf _ _, fun c hc => by omega⟩
  have e3 : ∀ k, ¬ (s + 1 ≤ k ∧ k < s + 11) → h3.2 k = h.2 k := fun k z => (i2.2 k (by omega)).trans (e2 k (by omega))
  obtain ⟨h4, p4, q4, f4⟩ := log_wipe (f'.fr (e3 _ (by omega)) (e3 _ (by omega))) e
  obtain ⟨m, hm⟩ : ∃ m, F - 36 = m + 1 := ⟨F - 37, by omega⟩
  have g4 : ∀ k, k ≠ s + 11 → h4.2 k = h3.2 k := fun k z1 => f4.2 k z1
  refine ⟨h4, ?_, ⟨⟨W, (g4 _ (by omega)).trans ((e3 _ (by omega)).trans w0), w1, w2, w3, w4⟩, ?_, ?_, ⟨g, (g4 _ (by omega)).trans i1, fun c hc => i3 c hc⟩, q4⟩, (f1.mo fun k hk => by simp only [PS, US] at hk ⊢; omega).tr ((f2.mo fun k hk => by simp only [UR, US] at hk ⊢; omega).tr ((i2.mo fun k hk => by simp only [US]; omega).tr (f4.mo fun k hk => by simp only [US]; omega)))⟩
  · unfold f_Sta_wipe
    have hck : cK h (s + 1) 1 = some () := by obtain ⟨V9, sp, z, _⟩ := b'; exact ob_K z
    have hck2 : cK h1 (s + 3) 4 = some () := by obtain ⟨V9, _, _, _, _, _, _, z, _⟩ := c'; exact ob_K ((e1 _ (by omega) (by omega)).trans z)
    have hck3 : cK h3 (s + 11) 0 = some () := by obtain ⟨V9, _, z, _⟩ := f'; exact ob_K ((e3 _ (by omega)).trans z)
    rw [ob_R w0 (by omega) w1, bnd_s, hck, bnd_s, p1, bnd_s, ob_R ((e1 _ (by omega) (by omega)).trans w0) (by omega) w2, bnd_s, hck2, bnd_s, p2, bnd_s]
    refine Eq.trans el ?_
    show f_Sta_wipe_16 F (F - 36) s (nI 36) h3 = _
    rw [hm, f_Sta_wipe_16, b_Sta_wipe_16, if_pos (show (36 : Int32) ≤ nI 36 from nI_le (a := 36) (b := 36) (by omega) (by omega)), ob_R ((e3 _ (by omega)).trans w0) (by omega) w4, bnd_s, hck3, bnd_s, p4, bnd_s]
  · have z : ∀ k, k = s + 1 ∨ k = s + 1 + 1 → h4.2 k = h1.2 k := fun k hk => (g4 k (by omega)).trans ((i2.2 k (by omega)).trans (f2.2 k (by simp only [UR]; omega)))
    exact q1.fr (z _ (Or.inl rfl)) (z _ (Or.inr rfl))
  · exact q2.fe fun j hj => (g4 _ (by omega)).trans (i2.2 _ (by omega))
/-- how many givens -/
def gct (G : Nat → Nat) : Nat := cnt (fun c => decide (G c ≠ 0)) 36
theorem sta_gc {h : PH} {s : Nat} {x : ST} {T S : Nat → Bool} (H : StaAt h s x T S) (hG : gvOK (tG x)) {F : Nat} (hF : 40 ≤ F) : f_Sta_givenCount F s h = some (nI (gct (tG x))) := by
  obtain ⟨⟨V, a0, a1, a2, a3, a4⟩, b, c, ⟨g, d, d'⟩, f⟩ := H
  obtain ⟨t, e, h1⟩ := LC (fun n i (t : Int32) => f_Sta_givenCount_4 F n s t (nI i) h) (fun i t => t = nI (cnt (fun c => decide (tG x c ≠ 0)) i)) 36
    (fun n i t hi e => by
      subst e
      have hg := hG i hi
      refine ⟨_, rfl, ?_⟩
      show f_Sta_givenCount_4 F (n + 1) s _ (nI i) h = _
      rw [f_Sta_givenCount_4, b_Sta_givenCount_4, if_neg (show ¬ (36 : Int32) ≤ nI i from nI_ge (a := (i)) (b := 36) (by omega) (by omega)), ob_R a0 (by omega) a3, bnd_s, ar_I d hi (by omega), bnd_s, d' i hi, cnt_s]
      by_cases q : tG x i = 0
      · rw [if_pos (show nI (tG x i) = (0 : Int32) from congrArg nI q), b_Sta_givenCount_25, nI_1, decide_eq_false (show ¬ tG x i ≠ 0 from fun z => z q)]
        congr 1
        exact nI_add _ 0
      · rw [if_neg (show ¬ nI (tG x i) = (0 : Int32) from fun z => q ((nI_eq (a := tG x i) (b := 0) (by omega) (by omega)).mp z)), b_Sta_givenCount_25, nI_1, nI_1, decide_eq_true q]
        rfl) 36 0 0 F rfl (by omega) rfl
  obtain ⟨m, hm⟩ : ∃ m, F - 36 = m + 1 := ⟨F - 37, by omega⟩
  unfold f_Sta_givenCount
  refine Eq.trans h1 ?_
  show f_Sta_givenCount_4 F (F - 36) s t (nI 36) h = _
  rw [hm, f_Sta_givenCount_4, b_Sta_givenCount_4, if_pos (show (36 : Int32) ≤ nI 36 from nI_le (a := 36) (b := 36) (by omega) (by omega)), e]
  rfl
