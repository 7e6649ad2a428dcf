/-! The reference's desk: what it holds, keeping, changing. -/
def RA (f : Nat → Int32) (x : ST) : Prop := MRu f (tR x) ∧ XA f (tK x) (tP x) ∧ (∀ c, c < 36 → f (72 + c) = nI (tG x c)) ∧ f 181 = nI (tN x) ∧ ∀ i j, i < tN x → j < 3 → f (182 + 3 * i + j) = tE x i j
def msz (k : Nat) : Nat := if k = 4 ∨ k = 5 then 4 else if k = 6 ∨ k = 13 then 72 else if k = 7 then 2664 else if k = 8 ∨ k = 9 then 37 else 36
def MXk (h : PH) (mo k : Nat) : Prop := ∃ n f, h.2 (mo + k) = oI n f ∧ msz k ≤ n ∧ n < 2 ^ 31 ∧ (k ≠ 6 → n = msz k)
theorem MXk.fr {h h' : PH} {mo k : Nat} (H : MXk h mo k) (e : h'.2 (mo + k) = h.2 (mo + k)) : MXk h' mo k := by
  obtain ⟨n, f, a, b⟩ := H
  exact ⟨n, f, e.trans a, b⟩
theorem MXk.g {h : PH} {mo k : Nat} (H : MXk h mo k) (h6 : k ≠ 6) : ∃ f, h.2 (mo + k) = oI (msz k) f := by
  obtain ⟨n, f, a, _, _, c⟩ := H
  exact ⟨f, by rw [← c h6]; exact a⟩
theorem mx_s {h : PH} {mo k : Nat} (H : ∃ f, h.2 (mo + k) = oI (msz k) f) : MXk h mo k := by
  obtain ⟨f, a⟩ := H
  refine ⟨_, f, a, Nat.le_refl _, ?_, fun _ => rfl⟩
  unfold msz
  repeat' split
  all_goals omega
def MX (h : PH) (mo : Nat) : Prop := ∀ k, 4 ≤ k → k ≤ 14 → MXk h mo k
def MW (h : PH) (mo : Nat) (x : ST) (m : Nat) (sv : Nat → ST) (tl : Nat) (tx : Nat → Int32) (t : Int32) : Prop :=
  (∃ V, h.2 mo = obj 10 28 V ∧ MV mo V ∧ V 2 = .int (nI m) ∧ V 4 = .int (nI tl) ∧ V 5 = .int t) ∧ (m ≤ 4 ∧ tl ≤ 150) ∧ (∃ f, h.2 (mo + 1) = oI 482 f ∧ RA f x) ∧ (∃ f, h.2 (mo + 2) = oI 1928 f ∧ ∀ i, i < m → RA (fun j => f (482 * i + j)) (sv i)) ∧ (∃ f, h.2 (mo + 3) = oI 150 f ∧ ∀ i, i < tl → f i = tx i) ∧ MX h mo
def DM (mo : Nat) : Nat → Prop := fun k => mo ≤ k ∧ k < mo + 15
theorem RA.x {f f' : Nat → Int32} {x : ST} (H : RA f x) (hv : VAL x) (e : ∀ j, j < 482 → f' j = f j) : RA f' x := by
  obtain ⟨⟨a1, a2⟩, b, c, d, g⟩ := H
  have h8 := hv.1.1
  have h100 := hv.2.2.2
  refine ⟨⟨(e _ (by omega)).trans a1, fun k hk => ?_⟩, fun c hc => ⟨(e _ (by omega)).trans (b c hc).1, (e _ (by omega)).trans (b c hc).2⟩, fun a ha => (e _ (by omega)).trans (c a ha), (e _ (by omega)).trans d, fun i j hi hj => (e _ (by omega)).trans (g i j hi hj)⟩
  obtain ⟨r1, r2, r3, r4⟩ := a2 k hk
  have hl := (hv.1.2 k hk).2.1
  have := mxl_le (rk (tR x) k)
  exact ⟨(e _ (by omega)).trans r1, (e _ (by omega)).trans r2, (e _ (by omega)).trans r3, fun j hj => (e _ (by omega)).trans (r4 j hj)⟩
theorem isF_lt {k : Nat} (h : isF k = true) : k < 28 := by
  unfold isF at h
  simp at h
  omega
theorem MW.f {h : PH} {mo : Nat} {x : ST} {m : Nat} {sv : Nat → ST} {tl : Nat} {tx : Nat → Int32} {t : Int32} (H : MW h mo x m sv tl tx t) {k : Nat} (hk : isF k = true) (h2 : k ≠ 2) (h4 : k ≠ 4) (h5 : k ≠ 5) (v : Value) :
    ∃ h', pV h mo 10 k v = some h' ∧ MW h' mo x m sv tl tx t ∧ Fr (fun j => j = mo) h h' ∧ ∃ V, h'.2 mo = obj 10 28 V ∧ V k = v := by
  obtain ⟨⟨V, a0, a1, a2, a3, a4⟩, b, ⟨f1, c1, c2⟩, ⟨f2, d1, d2⟩, ⟨f3, e1, e2⟩, g⟩ := H
  obtain ⟨h', p1, g1, q1⟩ := puti (k := k) v a0 (isF_lt hk)
  exact ⟨h', p1, ⟨⟨_, g1, a1.up _ hk, (vu_n _ _ (by omega)).trans a2, (vu_n _ _ (by omega)).trans a3, (vu_n _ _ (by omega)).trans a4⟩, b, ⟨f1, (q1.2 _ (by omega)).trans c1, c2⟩, ⟨f2, (q1.2 _ (by omega)).trans d1, d2⟩, ⟨f3, (q1.2 _ (by omega)).trans e1, e2⟩, fun j h1 h2 => by
    exact (g j h1 h2).fr (q1.2 _ (by omega))⟩, q1, _, g1, vu_s _ _ _⟩
theorem MW.mn {h : PH} {mo : Nat} {x : ST} {m : Nat} {sv : Nat → ST} {tl : Nat} {tx : Nat → Int32} {t : Int32} (H : MW h mo x m sv tl tx t) : ∃ V, MN h mo (mo + 1) V (tR x) (tK x) (tP x) := by
  obtain ⟨⟨V, a0, a1, a2, a3, a4⟩, b, ⟨f1, c1, c2⟩, ⟨f2, d1, d2⟩, ⟨f3, e1, e2⟩, g⟩ := H
  exact ⟨V, a0, a1, Or.inl rfl, ⟨f1, c1, c2.1⟩, ⟨482, f1, by omega, by omega, c1, c2.2.1⟩, (g 4 (by omega) (by omega)).g (by omega), (g 5 (by omega) (by omega)).g (by omega)⟩
theorem MW.r {h : PH} {mo : Nat} {x : ST} {m : Nat} {sv : Nat → ST} {tl : Nat} {tx : Nat → Int32} {t : Int32} (H : MW h mo x m sv tl tx t) : cK h mo 10 = some () ∧ gR h mo 10 0 = some (mo + 1) ∧ gR h mo 10 1 = some (mo + 2) ∧ gR h mo 10 3 = some (mo + 3) ∧ gR h mo 10 11 = some (mo + 6) ∧ gR h mo 10 15 = some (mo + 10) ∧ gR h mo 10 16 = some (mo + 11) ∧ gR h mo 10 21 = some (mo + 12) ∧ gR h mo 10 24 = some (mo + 13) ∧ gR h mo 10 25 = some (mo + 14) ∧ gI h mo 10 2 = some (nI m) ∧ gI h mo 10 4 = some (nI tl) ∧ gI h mo 10 5 = some t := by
  obtain ⟨⟨V, a0, ⟨h1, h2, h3, h4, h5, h6, h7, h8, h9, h10, h11, h12, h13, h14⟩, a2, a3, a4⟩, _⟩ := H
  exact ⟨ob_K a0, ob_R a0 (by omega) h1, ob_R a0 (by omega) h2, ob_R a0 (by omega) h3, ob_R a0 (by omega) h6, ob_R a0 (by omega) h10, ob_R a0 (by omega) h11, ob_R a0 (by omega) h12, ob_R a0 (by omega) h13, ob_R a0 (by omega) h14, ob_I a0 (by omega) a2, ob_I a0 (by omega) a3, ob_I a0 (by omega) a4⟩
theorem MW.t {h : PH} {mo : Nat} {x : ST} {m : Nat} {sv : Nat → ST} {tl : Nat} {tx : Nat → Int32} {t : Int32} (H : MW h mo x m sv tl tx t) (v : Int32) :
    ∃ h', pV h mo 10 5 (.int v) = some h' ∧ MW h' mo x m sv tl tx v ∧ Fr (fun j => j = mo) h h' := by
  obtain ⟨⟨V, a0, a1, a2, a3, a4⟩, b, ⟨f1, c1, c2⟩, ⟨f2, d1, d2⟩, ⟨f3, e1, e2⟩, g⟩ := H
  obtain ⟨h', p1, g1, q1⟩ := puti (k := 5) (.int v) a0 (by omega)
  exact ⟨h', p1, ⟨⟨_, g1, a1.up _ (by rfl), (vu_n _ _ (by omega)).trans a2, (vu_n _ _ (by omega)).trans a3, vu_s _ _ _⟩, b, ⟨f1, (q1.2 _ (by omega)).trans c1, c2⟩, ⟨f2, (q1.2 _ (by omega)).trans d1, d2⟩, ⟨f3, (q1.2 _ (by omega)).trans e1, e2⟩, fun j h1 h2 => by
    exact (g j h1 h2).fr (q1.2 _ (by omega))⟩, q1⟩
/-- the row is written -/
theorem MW.row {h h' : PH} {mo : Nat} {x x' : ST} {m : Nat} {sv : Nat → ST} {tl : Nat} {tx : Nat → Int32} {t : Int32} (H : MW h mo x m sv tl tx t) (f : Fr (fun j => j = mo + 1) h h') {g : Nat → Int32} (e : h'.2 (mo + 1) = oI 482 g) (r : RA g x') : MW h' mo x' m sv tl tx t := by
  obtain ⟨⟨V, a0, a1⟩, b, _, ⟨f2, d1, d2⟩, ⟨f3, e1, e2⟩, q⟩ := H
  exact ⟨⟨V, (f.2 _ (by omega)).trans a0, a1⟩, b, ⟨g, e, r⟩, ⟨f2, (f.2 _ (by omega)).trans d1, d2⟩, ⟨f3, (f.2 _ (by omega)).trans e1, e2⟩, fun j h1 h2 => by
    exact (q j h1 h2).fr (f.2 _ (by omega))⟩
theorem m_keep49 {h : PH} {mo m : Nat} {V : Nat → Value} {f1 g0 : Nat → Int32} (e0 : h.2 mo = obj 10 28 V) (hV : MV mo V) (h2 : V 2 = .int (nI m)) (hm : m < 4) (e1 : h.2 (mo + 1) = oI 482 f1) (e2 : h.2 (mo + 2) = oI 1928 g0) {F : Nat} (hF : 3000 ≤ F) :
    ∃ h' g, b_Mo_keep_49 F mo h = some h' ∧ h'.2 mo = obj 10 28 (updV V 2 (.int (nI (m + 1)))) ∧ h'.2 (mo + 2) = oI 1928 g ∧ (∀ j, g j = if 482 * m ≤ j ∧ j < 482 * m + 482 then f1 (j - 482 * m) else g0 j) ∧ Fr (fun k => k = mo ∨ k = mo + 2) h h' := by
  obtain ⟨s, ⟨g, i1, i2, i3⟩, el⟩ := LC (fun n i s => f_Mo_keep_51 F n mo (nI i) s) (fun i s => ∃ g, s.2 (mo + 2) = oI 1928 g ∧ (∀ j, g j = if 482 * m ≤ j ∧ j < 482 * m + i then f1 (j - 482 * m) else g0 j) ∧ Fr (fun k => k = mo + 2) h s) 482
    (fun n i s hi ⟨g, i1, i2, i3⟩ => by
      obtain ⟨s', p1, q1, r1⟩ := sti (i := 482 * m + i) (f1 i) i1 (by omega) (by omega)
      refine ⟨s', ⟨_, q1, fun j => ?_, i3.tr r1⟩, ?_⟩
      · by_cases w : j = 482 * m + i
        · subst w
          rw [pk_us, if_pos (by omega)]
          congr 1
          omega
        · rw [pk_un w, i2 j]
          by_cases z : 482 * m ≤ j ∧ j < 482 * m + i
          · rw [if_pos z, if_pos (by omega)]
          · rw [if_neg z, if_neg (by omega)]
      · show f_Mo_keep_51 F (n + 1) mo (nI i) s = _
        have z0 : s.2 mo = obj 10 28 V := (i3.2 _ (by omega)).trans e0
        rw [f_Mo_keep_51, b_Mo_keep_51, if_neg (show ¬ (482 : Int32) ≤ nI i from nI_ge (a := (i)) (b := 482) (by omega) (by omega)), ob_R z0 (by omega) hV.2.1, bnd_s, ob_I z0 (by omega) h2, bnd_s, ob_R z0 (by omega) hV.1, bnd_s, ar_I ((i3.2 _ (by omega)).trans e1) hi (by omega), bnd_s, show (482 : Int32) * nI m = nI (482 * m) from pk_mul 482 m, nI_add, p1, bnd_s, nI_1]) 482 0 h F rfl (by omega) ⟨g0, e2, fun j => by rw [if_neg (by omega)], Fr.rf _ _⟩
  have z0 : s.2 mo = obj 10 28 V := (i3.2 _ (by omega)).trans e0
  obtain ⟨h', p1, q1, r1⟩ := puti (k := 2) (.int (nI (m + 1))) z0 (by omega)
  refine ⟨h', g, ?_, q1, (r1.2 _ (by omega)).trans i1, i2, (i3.mo fun k hk => Or.inr hk).tr (r1.mo fun k hk => Or.inl hk)⟩
  obtain ⟨n, hn⟩ : ∃ n, F - 482 = n + 1 := ⟨F - 483, by omega⟩
  rw [b_Mo_keep_49]
  refine Eq.trans el ?_
  show f_Mo_keep_51 F (F - 482) mo (nI 482) s = _
  rw [hn, f_Mo_keep_51, b_Mo_keep_51, if_pos (show (482 : Int32) ≤ nI 482 by decide), ob_I z0 (by omega) h2, bnd_s, nI_1, p1, bnd_s]
theorem gI_ob {h : PH} {a ci n k : Nat} {V : Nat → Value} {v : Int32} (e : h.2 a = obj ci n V) (hk : k < n) (g : gI h a ci k = some v) : V k = .int v := by
  unfold gI at g
  rw [ob_g e hk] at g
  cases hq : V k <;> rw [hq] at g <;> first | (cases g; done) | (cases g; rfl)
theorem m_keep' {h : PH} {mo : Nat} {x : ST} {m : Nat} {sv : Nat → ST} {tl : Nat} {tx : Nat → Int32} {t : Int32} (H : MW h mo x m sv tl tx t) (hv : VAL x) (hs : ∀ i, i < m → VAL (sv i)) {F : Nat} (hF : 3000 ≤ F) :
    ∃ h', f_Mo_keep F mo h = some h' ∧ MW h' mo x (svN m) (svS m sv x) tl tx t ∧ Fr (fun k => k = mo ∨ k = mo + 2) h h' ∧ ∀ w, gI h mo 10 26 = some w → gI h' mo 10 26 = some w := by
  obtain ⟨⟨V, a0, a1, a2, a3, a4⟩, ⟨b1, b2⟩, ⟨f1, c1, c2⟩, ⟨f2, d1, d2⟩, ⟨f3, e1, e2⟩, q⟩ := H
  unfold f_Mo_keep
  rw [ob_I a0 (by omega) a2, bnd_s]
  by_cases w : m = 4
  · subst w
    rw [if_pos (show nI 4 = (4 : Int32) from rfl)]
    obtain ⟨s, ⟨g, i1, i2, i3⟩, el⟩ := LC (fun n i s => f_Mo_keep_10 F n mo (nI i) s) (fun i s => ∃ g, s.2 (mo + 2) = oI 1928 g ∧ (∀ j, g j = if j < i then f2 (j + 482) else f2 j) ∧ Fr (fun k => k = mo + 2) h s) 1446
      (fun n i s hi ⟨g, i1, i2, i3⟩ => by
        obtain ⟨s', p1, q1, r1⟩ := sti (i := i) (g (i + 482)) i1 (by omega) (by omega)
        refine ⟨s', ⟨_, q1, fun j => ?_, i3.tr r1⟩, ?_⟩
        · by_cases w : j = i
          · subst w
            rw [pk_us, if_pos (by omega), i2, if_neg (by omega)]
          · rw [pk_un w, i2 j]
            by_cases z : j < i
            · rw [if_pos z, if_pos (by omega)]
            · rw [if_neg z, if_neg (by omega)]
        · show f_Mo_keep_10 F (n + 1) mo (nI i) s = _
          have z0 : s.2 mo = obj 10 28 V := (i3.2 _ (by omega)).trans a0
          rw [f_Mo_keep_10, b_Mo_keep_10, if_neg (show ¬ (1446 : Int32) ≤ nI i from nI_ge (a := (i)) (b := 1446) (by omega) (by omega)), ob_R z0 (by omega) a1.2.1, bnd_s, bnd_s, show nI i + (482 : Int32) = nI (i + 482) from nI_add i 482, ar_I i1 (by omega) (by omega), bnd_s, p1, bnd_s, nI_1]) 1446 0 h F rfl (by omega) ⟨f2, d1, fun j => by rw [if_neg (by omega)], Fr.rf _ _⟩
    have z0 : s.2 mo = obj 10 28 V := (i3.2 _ (by omega)).trans a0
    obtain ⟨s2, p1, q1, r1⟩ := puti (k := 2) (.int (nI 3)) z0 (by omega)
    obtain ⟨h', g', p2, q2, q3, q4, r2⟩ := m_keep49 q1 (a1.up _ (by rfl)) (vu_s _ _ _) (by omega) ((r1.2 _ (by omega)).trans ((i3.2 _ (by omega)).trans c1)) ((r1.2 _ (by omega)).trans i1) hF
    have eh : ∀ k, k ≠ mo → k ≠ mo + 2 → h'.2 k = h.2 k := fun k k1 k2 => (r2.2 k (by omega)).trans ((r1.2 k (by omega)).trans (i3.2 k (by omega)))
    refine ⟨h', ?_, ⟨⟨_, q2, (a1.up _ (by rfl)).up _ (by rfl), vu_s _ _ _, (vu_n _ _ (by omega)).trans ((vu_n _ _ (by omega)).trans a3), (vu_n _ _ (by omega)).trans ((vu_n _ _ (by omega)).trans a4)⟩, ⟨Nat.le_refl 4, b2⟩, ⟨f1, (eh _ (by omega) (by omega)).trans c1, c2⟩, ⟨g', q3, fun i hi => ?_⟩, ⟨f3, (eh _ (by omega) (by omega)).trans e1, e2⟩, fun j h1 h2 => by
      exact (q j h1 h2).fr (eh _ (by omega) (by omega))⟩, ⟨r2.1.trans (r1.1.trans i3.1), fun k hk => eh k (by omega) (by omega)⟩, fun w hw => ob_I q2 (by omega) ((vu_n _ _ (by omega)).trans ((vu_n _ _ (by omega)).trans (gI_ob a0 (by omega) hw)))⟩
    · obtain ⟨n, hn⟩ : ∃ n, F - 1446 = n + 1 := ⟨F - 1447, by omega⟩
      refine Eq.trans el ?_
      show f_Mo_keep_10 F (F - 1446) mo (nI 1446) s = _
      rw [hn, f_Mo_keep_10, b_Mo_keep_10, if_pos (show (1446 : Int32) ≤ nI 1446 by decide), ob_I z0 (by omega) a2, bnd_s, show nI 4 - (1 : Int32) = nI 3 by decide, p1, bnd_s, p2]
    · have hi4 : i < 4 := hi
      show RA _ (if (4 : Nat) < 4 then _ else (if i = 3 then x else sv (i + 1)))
      rw [if_neg (by omega)]
      by_cases z : i = 3
      · subst z
        rw [if_pos rfl]
        exact c2.x hv fun j hj => by rw [q4, if_pos (by omega)]; exact congrArg f1 (by omega)
      · rw [if_neg z]
        exact (d2 (i + 1) (by omega)).x (hs _ (by omega)) fun j hj => by
          rw [q4, if_neg (by omega), i2, if_pos (by omega)]
          exact congrArg f2 (by omega)
  · rw [if_neg (show ¬ nI m = (4 : Int32) from fun z => w ((nI_eq (a := m) (b := 4) (by omega) (by omega)).mp z))]
    obtain ⟨h', g', p2, q2, q3, q4, r2⟩ := m_keep49 a0 a1 a2 (by omega) c1 d1 hF
    have hm : svN m = m + 1 := by unfold svN; rw [if_pos (by omega)]
    have eh : ∀ k, k ≠ mo → k ≠ mo + 2 → h'.2 k = h.2 k := fun k k1 k2 => r2.2 k (by omega)
    refine ⟨h', p2, ⟨⟨_, q2, a1.up _ (by rfl), (by rw [hm]; exact vu_s _ _ _), (vu_n _ _ (by omega)).trans a3, (vu_n _ _ (by omega)).trans a4⟩, ⟨by omega, b2⟩, ⟨f1, (eh _ (by omega) (by omega)).trans c1, c2⟩, ⟨g', q3, fun i hi => ?_⟩, ⟨f3, (eh _ (by omega) (by omega)).trans e1, e2⟩, fun j h1 h2 => by
      exact (q j h1 h2).fr (eh _ (by omega) (by omega))⟩, r2, fun w hw => ob_I q2 (by omega) ((vu_n _ _ (by omega)).trans (gI_ob a0 (by omega) hw))⟩
    show RA _ (if m < 4 then (if i = m then x else sv i) else _)
    rw [if_pos (show m < 4 by omega)]
    by_cases z : i = m
    · subst z
      rw [if_pos rfl]
      exact c2.x hv fun j hj => by rw [q4, if_pos (by omega)]; exact congrArg f1 (by omega)
    · rw [if_neg z]
      exact (d2 i (by omega)).x (hs _ (by omega)) fun j hj => by rw [q4, if_neg (by omega)]
theorem m_keep {h : PH} {mo : Nat} {x : ST} {m : Nat} {sv : Nat → ST} {tl : Nat} {tx : Nat → Int32} {t : Int32} (H : MW h mo x m sv tl tx t) (hv : VAL x) (hs : ∀ i, i < m → VAL (sv i)) {F : Nat} (hF : 3000 ≤ F) :
    ∃ h', f_Mo_keep F mo h = some h' ∧ MW h' mo x (svN m) (svS m sv x) tl tx t ∧ Fr (fun k => k = mo ∨ k = mo + 2) h h' := by
  obtain ⟨h', a, b, c, _⟩ := m_keep' H hv hs hF
  exact ⟨h', a, b, c⟩
/-- the log is forgotten -/
def wN (x : ST) : ST := (tR x, tK x, tP x, tG x, 0, tE x)
theorem wN_v {x : ST} (hv : VAL x) : VAL (wN x) := ⟨hv.1, hv.2.1, hv.2.2.1, by show 0 ≤ 100; omega⟩
theorem svS_v {m : Nat} {sv : Nat → ST} {x : ST} (hm : m ≤ 4) (hv : VAL x) (hs : ∀ i, i < m → VAL (sv i)) : ∀ i, i < svN m → VAL (svS m sv x i) := fun i hi => by
  unfold svN at hi
  unfold svS
  by_cases w : m < 4
  · rw [if_pos w] at hi ⊢
    by_cases z : i = m
    · rw [if_pos z]; exact hv
    · rw [if_neg z]; exact hs i (by omega)
  · rw [if_neg w] at hi ⊢
    by_cases z : i = 3
    · rw [if_pos z]; exact hv
    · rw [if_neg z]; exact hs (i + 1) (by omega)
theorem m_change' {h : PH} {mo : Nat} {x : ST} {m : Nat} {sv : Nat → ST} {tl : Nat} {tx : Nat → Int32} {t : Int32} (H : MW h mo x m sv tl tx t) (hv : VAL x) (hs : ∀ i, i < m → VAL (sv i)) {F : Nat} (hF : 3000 ≤ F) :
    ∃ h', f_Mo_change F mo h = some h' ∧ MW h' mo (wN x) (svN m) (svS m sv x) tl tx t ∧ Fr (fun k => k = mo ∨ k = mo + 1 ∨ k = mo + 2) h h' ∧ ∀ w, gI h mo 10 26 = some w → gI h' mo 10 26 = some w := by
  obtain ⟨h1, p1, H1, f1, n26⟩ := m_keep' H hv hs hF
  obtain ⟨f, c1, ⟨c2, c3, c4, c5, c6⟩⟩ := H1.2.2.1
  have h8 := hv.1.1
  obtain ⟨h2, p2, q2, r2⟩ := sti (i := 181) 0 c1 (by omega) (by omega)
  have eu : ∀ j, j ≠ 181 → upd f 181 0 j = f j := fun j hj => pk_un hj
  refine ⟨h2, ?_, H1.row r2 q2 ⟨⟨(eu _ (by omega)).trans c2.1, fun k hk => ?_⟩, fun c hc => ⟨(eu _ (by omega)).trans (c3 c hc).1, (eu _ (by omega)).trans (c3 c hc).2⟩, fun c hc => (eu _ (by omega)).trans (c4 c hc), pk_us, fun i j hi => absurd hi (Nat.not_lt_zero i)⟩, (f1.mo fun k hk => by omega).tr (r2.mo fun k hk => by omega), fun w hw => by
      have := n26 w hw
      unfold gI gV at this ⊢
      rw [r2.2 mo (by omega)]
      exact this⟩
  · unfold f_Mo_change
    rw [H.r.1, bnd_s, p1, bnd_s, H1.r.2.1, bnd_s, show (181 : Int32) = nI 181 from rfl, p2, bnd_s]
  · obtain ⟨r1, r2, r3, r4⟩ := c2.2 k hk
    have hk' : k < rn (tR x) := hk
    have hl := (hv.1.2 k hk).2.1
    have := mxl_le (rk (tR x) k)
    exact ⟨(eu _ (by omega)).trans r1, (eu _ (by omega)).trans r2, (eu _ (by omega)).trans r3, fun j hj => (eu _ (by
      have hj' : j < rl (tR x) k := hj
      omega)).trans (r4 j hj)⟩
theorem m_change {h : PH} {mo : Nat} {x : ST} {m : Nat} {sv : Nat → ST} {tl : Nat} {tx : Nat → Int32} {t : Int32} (H : MW h mo x m sv tl tx t) (hv : VAL x) (hs : ∀ i, i < m → VAL (sv i)) {F : Nat} (hF : 3000 ≤ F) :
    ∃ h', f_Mo_change F mo h = some h' ∧ MW h' mo (wN x) (svN m) (svS m sv x) tl tx t ∧ Fr (fun k => k = mo ∨ k = mo + 1 ∨ k = mo + 2) h h' := by
  obtain ⟨h', a, b, c, _⟩ := m_change' H hv hs hF
  exact ⟨h', a, b, c⟩
