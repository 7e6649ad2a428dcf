/-! The reference's search: its rows. -/
theorem m_copyRow {h : PH} {a b na nb o1 o2 : Nat} {f g : Nat → Int32} (ea : h.2 a = oI na f) (eb : h.2 b = oI nb g) (hab : a ≠ b) (h1 : o1 + 72 ≤ na) (h2 : o2 + 72 ≤ nb) (hna : na < 2 ^ 31) (hnb : nb < 2 ^ 31) {F : Nat} (hF : 100 ≤ F) :
    ∃ h', f_Mo_copyRow F a (nI o1) b (nI o2) h = some h' ∧ h'.2 b = oI nb (fun i => if o2 ≤ i ∧ i < o2 + 72 then f (o1 + (i - o2)) else g i) ∧ Fr (fun k => k = b) h h' := by
  obtain ⟨s, ⟨i1, i2⟩, h3⟩ := LC (fun n i s => f_Mo_copyRow_3 F n a (nI o1) b (nI o2) (nI i) s) (fun i s => s.2 b = oI nb (fun j => if o2 ≤ j ∧ j < o2 + i then f (o1 + (j - o2)) else g j) ∧ Fr (fun k => k = b) h s) 72
    (fun n i s hi ⟨i1, i2⟩ => by
      have ea' : s.2 a = oI na f := (i2.2 a hab).trans ea
      refine ⟨hset s b (oI nb (upd (fun j => if o2 ≤ j ∧ j < o2 + i then f (o1 + (j - o2)) else g j) (o2 + i) (f (o1 + i)))), ⟨(hset_s _ _ _).trans ?_, i2.sq _⟩, ?_⟩
      · congr 1
        funext j
        by_cases q : j = o2 + i
        · subst q
          rw [pk_us, if_pos (by omega), show o2 + i - o2 = i by omega]
        · rw [pk_un q]
          by_cases w : o2 ≤ j ∧ j < o2 + i
          · rw [if_pos w, if_pos (by omega)]
          · rw [if_neg w, if_neg (by omega)]
      · show f_Mo_copyRow_3 F (n + 1) a (nI o1) b (nI o2) (nI i) s = _
        rw [f_Mo_copyRow_3, b_Mo_copyRow_3, if_neg (show ¬ (72 : Int32) ≤ nI i from nI_ge (a := (i)) (b := 72) (by omega) (by omega)), nI_add, ar_I ea' (by omega) hna, bnd_s, nI_add, ar_sI _ i1 (by omega) hnb, bnd_s, nI_1]) 72 0 h F rfl (by omega) ⟨eb.trans (by congr 1; funext j; rw [if_neg (by omega)]), Fr.rf _ _⟩
  obtain ⟨m, hm⟩ : ∃ m, F - 72 = m + 1 := ⟨F - 73, by omega⟩
  refine ⟨s, ?_, i1, i2⟩
  unfold f_Mo_copyRow
  refine Eq.trans h3 ?_
  show f_Mo_copyRow_3 F (F - 72) a (nI o1) b (nI o2) (nI 72) s = _
  rw [hm, f_Mo_copyRow_3, b_Mo_copyRow_3, if_pos (show (72 : Int32) ≤ nI 72 from nI_le (a := 72) (b := 72) (by omega) (by omega))]
theorem nI_ne1 {b : Nat} (h : b < 2 ^ 31) : ¬ nI b = (-1 : Int32) := fun z => nI_pos h (by rw [z]; decide)
/-- the best cell of the first i -/
def FwI (K : Nat → Nat → Bool) (i b : Nat) : Prop := b < i ∧ 2 ≤ sz (K b) ∧ (∀ e, e < i → 2 ≤ sz (K e) → sz (K b) ≤ sz (K e)) ∧ ∀ e, e < b → 2 ≤ sz (K e) → sz (K b) < sz (K e)
theorem m_fewest {h : PH} {mo : Nat} {V : Nat → Value} {R : RT} {K : Nat → Nat → Bool} {P : Nat → Bool} (H : MN h mo (mo + 6) V R K P) {c : Nat} (hc : Few K c) {F : Nat} (hF : 40 ≤ F) : f_Mo_fewest F mo h = some (nI c) := by
  have hr : gR h mo 10 11 = some (mo + 6) := ob_R H.1 (by omega) H.2.1.2.2.2.2.2.1
  obtain ⟨s, hI, h1⟩ := LC (fun n i (s : Int32) => f_Mo_fewest_4 F n mo s (nI i) h) (fun i s => (s = -1 ∧ ∀ e, e < i → ¬ 2 ≤ sz (K e)) ∨ ∃ b, s = nI b ∧ FwI K i b) 36
    (fun n i s hi hI => by
      have hsz := sz_le (K i)
      show ∃ s', _ ∧ f_Mo_fewest_4 F (n + 1) mo s (nI i) h = _
      rw [f_Mo_fewest_4, b_Mo_fewest_4, if_neg (show ¬ (36 : Int32) ≤ nI i from nI_ge (a := (i)) (b := 36) (by omega) (by omega)), hr, bnd_s, (H.g hi).1, bnd_s, m_size _ hF, bnd_s]
      by_cases q : sz (K i) ≤ 1
      · refine ⟨s, ?_, by rw [if_pos (show nI (sz (K i)) ≤ (1 : Int32) from nI_le (a := (sz (K i))) (b := 1) (by omega) (by omega)), b_Mo_fewest_47, b_Mo_fewest_48, nI_1]⟩
        rcases hI with ⟨z1, z2⟩ | ⟨b, z1, z2, z3, z4, z5⟩
        · exact Or.inl ⟨z1, fun e he w => by
            by_cases t : e = i
            · subst t; omega
            · exact z2 e (by omega) w⟩
        · exact Or.inr ⟨b, z1, by omega, z3, fun e he w => by
            by_cases t : e = i
            · subst t; omega
            · exact z4 e (by omega) w, z5⟩
      · rw [if_neg (show ¬ nI (sz (K i)) ≤ (1 : Int32) from nI_ge (a := 1) (b := (sz (K i))) (by omega) (by omega))]
        rcases hI with ⟨z1, z2⟩ | ⟨b, z1, z2, z3, z4, z5⟩
        · refine ⟨nI i, Or.inr ⟨i, rfl, by omega, by omega, fun e he w => ?_, fun e he w => absurd w (z2 e he)⟩, ?_⟩
          · by_cases t : e = i
            · subst t; exact Nat.le_refl _
            · exact absurd w (z2 e (by omega))
          · rw [z1, if_pos rfl, b_Mo_fewest_43, b_Mo_fewest_48, nI_1]
        · have hb := sz_le (K b)
          rw [z1, if_neg (nI_ne1 (by omega)), bnd_s, (H.g (show b < 36 by omega)).1, bnd_s, m_size _ hF, bnd_s]
          by_cases w : sz (K b) ≤ sz (K i)
          · refine ⟨nI b, Or.inr ⟨b, rfl, by omega, z3, fun e he w2 => ?_, z5⟩, ?_⟩
            · by_cases t : e = i
              · subst t; exact w
              · exact z4 e (by omega) w2
            · rw [if_pos (show nI (sz (K b)) ≤ nI (sz (K i)) from nI_le (by omega) (by omega)), b_Mo_fewest_47, b_Mo_fewest_48, nI_1]
          · refine ⟨nI i, Or.inr ⟨i, rfl, by omega, by omega, fun e he w2 => ?_, fun e he w2 => ?_⟩, ?_⟩
            · by_cases t : e = i
              · subst t; exact Nat.le_refl _
              · have := z4 e (by omega) w2
                omega
            · have := z4 e he w2
              omega
            · rw [if_neg (show ¬ nI (sz (K b)) ≤ nI (sz (K i)) from nI_ge (by omega) (by omega)), b_Mo_fewest_43, b_Mo_fewest_48, nI_1]) 36 0 (-1) F rfl (by omega) (Or.inl ⟨rfl, fun e he => by omega⟩)
  obtain ⟨m, hm⟩ : ∃ m, F - 36 = m + 1 := ⟨F - 37, by omega⟩
  unfold f_Mo_fewest
  refine Eq.trans h1 ?_
  show f_Mo_fewest_4 F (F - 36) mo s (nI 36) h = _
  rw [hm, f_Mo_fewest_4, b_Mo_fewest_4, if_pos (show (36 : Int32) ≤ nI 36 from nI_le (a := 36) (b := 36) (by omega) (by omega))]
  rcases hI with ⟨z1, z2⟩ | ⟨b, z1, z2, z3, z4, z5⟩
  · exact absurd hc.2.1 (z2 c hc.1)
  · have : b = c := Few.u ⟨z2, z3, z4, z5⟩ hc
    rw [z1, this]
/-- a waiting guess: cell, digits left, position, its children's lists -/
abbrev EN : Type := Nat × (Nat → Bool) × (Nat → Nat → Bool) × (Nat → Bool) × Nat × (Nat → EL)
def STK (R : RT) (w wc ws : Nat → Int32) : List EN → Prop
  | [] => True
  | e :: l => (wc l.length = nI e.1 ∧ ws l.length = nI (mkd e.2.1) ∧ XA (fun i => w (72 * l.length + i)) e.2.2.1 e.2.2.2.1 ∧ e.1 < 36 ∧ (∀ d, isD d = true → e.2.1 d = true → e.2.2.1 e.1 d = true ∧ Ev R e.2.2.2.2.1 (kpO e.2.2.1 e.1 d) e.2.2.2.1 (e.2.2.2.2.2 d)) ∧ e.2.2.2.2.1 + l.length + 1 ≤ 36 ∧ PI e.2.2.1 e.2.2.2.1) ∧ STK R w wc ws l
def remS : List EN → EL
  | [] => []
  | e :: l => cat6 e.2.1 e.2.2.2.2.2 7 ++ remS l
theorem STK.x {R : RT} {w wc ws w' wc' ws' : Nat → Int32} : ∀ {l : List EN}, STK R w wc ws l → (∀ i, i < l.length → wc' i = wc i) → (∀ i, i < l.length → ws' i = ws i) → (∀ i, i < 72 * l.length → w' i = w i) → STK R w' wc' ws' l := by
  intro l
  induction l with
  | nil => intro _ _ _ _; trivial
  | cons e l ih =>
    rintro ⟨⟨h1, h2, h3, h4⟩, h5⟩ e1 e2 e3
    have hl : (e :: l).length = l.length + 1 := rfl
    refine ⟨⟨(e1 _ (by omega)).trans h1, (e2 _ (by omega)).trans h2, fun c hc => ?_, h4⟩, ih h5 (fun i hi => e1 i (by omega)) (fun i hi => e2 i (by omega)) (fun i hi => e3 i (by omega))⟩
    obtain ⟨x1, x2⟩ := h3 c hc
    exact ⟨(e3 (72 * l.length + c) (by omega)).trans x1, (e3 (72 * l.length + (36 + c)) (by omega)).trans x2⟩
/-- the rows of the search -/
def SO (h : PH) (mo : Nat) (R : RT) (s : RS) (st : List EN) (K : Nat → Nat → Bool) (P : Nat → Bool) : Prop :=
  ∃ V g u w wc ws, MN h mo (mo + 6) V R K P ∧ V 17 = .int (nI s.1) ∧ V 18 = .int (nI s.2.1) ∧ (s.1 ≠ 0 → V 19 = .int (nI s.2.2.1)) ∧ (h.2 (mo + 10) = oI 36 g ∧ (s.1 ≠ 0 → ∀ c, c < 36 → g c = nI (s.2.2.2.1 c))) ∧ (h.2 (mo + 11) = oI 36 u ∧ ∀ c, c < 36 → u c = nI (mkd (s.2.2.2.2 c))) ∧
    h.2 (mo + 7) = oI 2664 w ∧ h.2 (mo + 8) = oI 37 wc ∧ h.2 (mo + 9) = oI 37 ws ∧ STK R w wc ws st
/-- what the search leaves as it was -/
def SFm (mo : Nat) (h h' : PH) : Prop := h'.1 = h.1 ∧ (∀ k, k ≠ mo → ¬ (mo + 4 ≤ k ∧ k ≤ mo + 11) → h'.2 k = h.2 k) ∧
  ∀ V, h.2 mo = obj 10 28 V → ∃ V', h'.2 mo = obj 10 28 V' ∧ ∀ k, ¬ (6 ≤ k ∧ k ≤ 8) → ¬ (17 ≤ k ∧ k ≤ 19) → V' k = V k
theorem SFm.rf (mo : Nat) (h : PH) : SFm mo h h := ⟨rfl, fun _ _ _ => rfl, fun V e => ⟨V, e, fun _ _ _ => rfl⟩⟩
theorem SFm.tr {mo : Nat} {h h1 h2 : PH} (a : SFm mo h h1) (b : SFm mo h1 h2) : SFm mo h h2 := by
  refine ⟨b.1.trans a.1, fun k q1 q2 => (b.2.1 k q1 q2).trans (a.2.1 k q1 q2), fun V e => ?_⟩
  obtain ⟨V1, e1, g1⟩ := a.2.2 V e
  obtain ⟨V2, e2, g2⟩ := b.2.2 V1 e1
  exact ⟨V2, e2, fun k q1 q2 => (g2 k q1 q2).trans (g1 k q1 q2)⟩
theorem MF.sfm {mo : Nat} {h h' : PH} (a : MF mo (mo + 6) h h') : SFm mo h h' := ⟨a.1, fun k q1 q2 => a.2.1 k q1 (by omega) (by omega) (by omega), fun V e => by
  obtain ⟨V', e1, g1⟩ := a.2.2.2 V e
  exact ⟨V', e1, fun k q1 q2 => g1 k (by omega) (by omega) (by omega)⟩⟩
theorem Fr.sfm {mo : Nat} {h h' : PH} {S : Nat → Prop} (a : Fr S h h') (hs : ∀ k, S k → mo + 4 ≤ k ∧ k ≤ mo + 11) : SFm mo h h' := ⟨a.1, fun k _ q => a.2 k fun z => q (hs k z), fun V e => ⟨V, (a.2 mo fun z => by have := hs mo z; omega).trans e, fun _ _ _ => rfl⟩⟩
theorem obj_set {ci n k : Nat} {V W : Nat → Value} (v : Value) (h : obj ci n V = obj ci n W) : obj ci n (updV V k v) = obj ci n (updV W k v) := by
  rw [← ob_set, ← ob_set]
  unfold obj oO at h
  simp only [Sum.inl.injEq, Prod.mk.injEq, true_and] at h
  rw [h]
theorem sf_f {mo k : Nat} {h : PH} {V : Nat → Value} (e : h.2 mo = obj 10 28 V) (v : Value) (hk : (6 ≤ k ∧ k ≤ 8) ∨ (17 ≤ k ∧ k ≤ 19)) : SFm mo h (hset h mo (obj 10 28 (updV V k v))) := ⟨rfl, fun j q _ => hset_n _ _ q, fun W e' => ⟨updV W k v, (hset_s _ _ _).trans (obj_set v (e.symm.trans e')), fun j q1 q2 => vu_n _ _ (by omega)⟩⟩
theorem MN.fr {h h' : PH} {mo x : Nat} {V V' : Nat → Value} {R : RT} {K : Nat → Nat → Bool} {P : Nat → Bool} (H : MN h mo x V R K P) (e : h'.2 mo = obj 10 28 V') (hV : MV mo V') (e1 : h'.2 (mo + 1) = h.2 (mo + 1)) (ex : h'.2 x = h.2 x) (e4 : h'.2 (mo + 4) = h.2 (mo + 4)) (e5 : h'.2 (mo + 5) = h.2 (mo + 5)) : MN h' mo x V' R K P := by
  obtain ⟨a0, a1, a2, ⟨fm, a3, a4⟩, ⟨n, fx, b1, b2, b3, b4⟩, ⟨g4, c1⟩, g5, c2⟩ := H
  exact ⟨e, hV, a2, ⟨fm, e1.trans a3, a4⟩, ⟨n, fx, b1, b2, ex.trans b3, b4⟩, ⟨g4, e4.trans c1⟩, g5, e5.trans c2⟩
theorem SO.mf {h h' : PH} {mo : Nat} {R : RT} {s : RS} {st : List EN} {K K' : Nat → Nat → Bool} {P P' : Nat → Bool} {V' : Nat → Value} (H : SO h mo R s st K P) (g : MN h' mo (mo + 6) V' R K' P') (f : MF mo (mo + 6) h h') : SO h' mo R s st K' P' := by
  obtain ⟨V, g1, u, w, wc, ws, a0, a1, a2, a3, ⟨a4, a5⟩, ⟨a6, a7⟩, a8, a9, a10, a11⟩ := H
  obtain ⟨V2, e2, k2⟩ := f.2.2.2 V a0.1
  have hVV : ∀ k, k < 28 → V' k = V2 k := fun k hk => by
    have z1 := ob_g g.1 hk
    rw [ob_g e2 hk] at z1
    simpa using z1.symm
  have fr : ∀ j, 7 ≤ j → h'.2 (mo + j) = h.2 (mo + j) := fun j hj => f.2.1 _ (by omega) (by omega) (by omega) (by omega)
  refine ⟨V', g1, u, w, wc, ws, g, ?_, ?_, fun z => ?_, ⟨(fr 10 (by omega)).trans a4, a5⟩, ⟨(fr 11 (by omega)).trans a6, a7⟩, (fr 7 (by omega)).trans a8, (fr 8 (by omega)).trans a9, (fr 9 (by omega)).trans a10, a11⟩
  · rw [hVV 17 (by omega), k2 17 (by omega) (by omega) (by omega), a1]
  · rw [hVV 18 (by omega), k2 18 (by omega) (by omega) (by omega), a2]
  · rw [hVV 19 (by omega), k2 19 (by omega) (by omega) (by omega), a3 z]
