/-! The class's calls: deductions, hints, what a kind is needed for. -/
abbrev DS : Type := (Nat → Nat → Bool) × (Nat → Bool) × Nat × (Nat → Nat → Int32)
def dkx (kd pl rm : Nat) : Nat → Int32 := fun j => if j = 0 then nI kd else if j = 1 then nI pl else nI rm
/-- up to n deductions, logged -/
def DD (R : RT) : Nat → DS → Nat → DS → Prop
  | 0, s, k, s' => k = 0 ∧ s' = s
  | n + 1, s, k, s' => (NX R s.1 s.2.1 0 0 s.1 s.2.1 ∧ k = 0 ∧ s' = s) ∨ ∃ kd pl rm K1 P1 k1, kd ≠ 0 ∧ NX R s.1 s.2.1 kd pl K1 P1 ∧ rm + tot K1 = tot s.1 ∧ DD R n (K1, P1, lgN s.2.2.1, lgE s.2.2.1 s.2.2.2 (dkx kd pl rm)) k1 s' ∧ k = k1 + 1
theorem DD_v {R : RT} : ∀ {n : Nat} {s : DS} {k : Nat} {s' : DS}, DD R n s k s' → PI s.1 s.2.1 → s.2.2.1 ≤ 100 → PI s'.1 s'.2.1 ∧ s'.2.2.1 ≤ 100 ∧ k ≤ n := by
  intro n
  induction n with
  | zero =>
    rintro s k s' ⟨h1, h2⟩ hp hl
    subst h1 h2
    exact ⟨hp, hl, Nat.le_refl _⟩
  | succ n ih =>
    rintro s k s' (⟨_, h1, h2⟩ | ⟨kd, pl, rm, K1, P1, k1, _, h2, _, h4, h5⟩) hp hl
    · subst h1 h2
      exact ⟨hp, hl, Nat.zero_le _⟩
    · obtain ⟨g1, g2, g3⟩ := ih h4 (NX_PI h2 hp) (by show lgN s.2.2.1 ≤ 100; unfold lgN; split <;> omega)
      exact ⟨g1, g2, by omega⟩
theorem c_next {h : PH} {p : Nat} {R : RT} {K : Nat → Nat → Bool} {P T S : Nat → Bool} (H : PosAt h p K P T S) (HR : RulAt h (1 + 3) R) (hR : ROK R) (hI : INV R K T S) (HQ : ReaOK h 32) (hp : p = 1 + 1 ∨ p = 30) {F : Nat} (hF : 3000 ≤ F) :
    ∃ kd pl K' P' h' T' S' V' rm, NX R K P kd pl K' P' ∧ kd < 8 ∧ f_Rea_next F 32 p (1 + 3) h = some (nI kd, h') ∧ PosAt h' p K' P' T' S' ∧ INV R K' T' S' ∧ h'.2 32 = obj 3 7 V' ∧ V' 1 = .int (nI kd) ∧ V' 2 = .int (if kd = 0 then -1 else nI pl) ∧ V' 3 = .int (nI rm) ∧ rm + tot K' = tot K ∧ ReaOK h' 32 ∧ Fr (WS p 32) h h' := by
  obtain ⟨kd, pl, K', P', h', T', S', V', rm, g1, g2, g3, g4, g5, g6, g7, g8, g9, g10, g11, g12⟩ := r_next H HR hR hI HQ (by omega) (by omega) (by omega) (F := F) (by omega)
  exact ⟨kd, pl, K', P', h', T', S', V', rm, g1, NX_7 g1, g2, g3, g4, g5, g7, g8, g9, g10, ⟨V', g5, g6, g11⟩, g12⟩
theorem CB.rea {h h' : PH} (H : CB h) (hr : ReaOK h' 32) (e : ∀ k, DB k → ¬ (32 ≤ k ∧ k < 36) → h'.2 k = h.2 k) : CB h' := by
  simp only [DB] at e
  obtain ⟨a, b, ⟨W, c⟩, ⟨W2, d⟩, ⟨f, g⟩, f2, g2⟩ := H
  exact ⟨a.fr (e _ (by omega) (by omega)) (e _ (by omega) (by omega)), hr, ⟨W, c.fr fun k h1 h2 => e k (by omega) (by omega)⟩, ⟨W2, (e _ (by omega) (by omega)).trans d⟩, ⟨f, (e _ (by omega) (by omega)).trans g⟩, f2, (e _ (by omega) (by omega)).trans g2⟩
/-- the addresses of the desk -/
theorem np_r {h : PH} {m : Nat} {sv : Nat → ST} {tl : Nat} {tx : Nat → Int32} (H : CA h m sv tl tx) : gR h 0 9 0 = some 1 ∧ gR h 0 9 6 = some 30 ∧ gR h 0 9 7 = some 32 ∧ gR h 0 9 8 = some 36 ∧ gR h 0 9 9 = some 122 ∧ gR h 0 9 5 = some 28 ∧ cK h 0 9 = some () ∧ gR h 0 9 1 = some 14 ∧ gR h 0 9 10 = some 208 ∧ gR h 0 9 11 = some 209 ∧ gR h 0 9 12 = some 210 ∧ gI h 0 9 4 = some (nI m) := by
  obtain ⟨V, q, f, a0, ⟨h1, h2, h3, h4, h5, h6, h7, h8, h9, h10, h11⟩, a2, a3, _⟩ := H
  exact ⟨ob_R a0 (by omega) h1, ob_R a0 (by omega) h5, ob_R a0 (by omega) h6, ob_R a0 (by omega) h7, ob_R a0 (by omega) h8, ob_R a0 (by omega) h4, ob_K a0, ob_R a0 (by omega) h2, ob_R a0 (by omega) h9, ob_R a0 (by omega) h10, ob_R a0 (by omega) h11, ob_I a0 (by omega) a3⟩
theorem sta_r {h : PH} {s : Nat} {x : ST} {T S : Nat → Bool} (H : StaAt h s x T S) : gR h s 8 0 = some (s + 1) ∧ gR h s 8 1 = some (s + 3) ∧ gR h s 8 2 = some (s + 10) ∧ gR h s 8 3 = some (s + 11) ∧ cK h s 8 = some () ∧ cK h (s + 11) 0 = some () := by
  obtain ⟨⟨V, a0, a1, a2, a3, a4⟩, _, _, _, l⟩ := H
  refine ⟨ob_R a0 (by omega) a1, ob_R a0 (by omega) a2, ob_R a0 (by omega) a3, ob_R a0 (by omega) a4, ob_K a0, ?_⟩
  obtain ⟨V9, _, _, z, _⟩ := l
  exact ob_K z
theorem c_ded {tl : Nat} {tx : Nat → Int32} {R : RT} {G : Nat → Nat} {m : Nat} {sv : Nat → ST} (hR : ROK R) {F : Nat} (hF : 3000 ≤ F) {N : Nat} (hN : N ≤ 500) : ∀ k i n h K P l e, i + k = N → k + 1 ≤ n → CSt h 1 (R, K, P, G, l, e) → SolF h → CA h m sv tl tx → CB h → l ≤ 100 →
    ∃ h' c K' P' l' e', f_Np_deduce_27 F n 0 (nI N) (nI i) h = some (.inr (nI (i + c)), h') ∧ DD R k (K, P, l, e) c (K', P', l', e') ∧ CSt h' 1 (R, K', P', G, l', e') ∧ SolF h' ∧ CA h' m sv tl tx ∧ CB h' ∧ Fr (fun k => k < 263) h h' := by
  intro k
  induction k with
  | zero =>
    intro i n h K P l e h1 h2 hC hS hA hB hl
    obtain ⟨n, rfl⟩ : ∃ k, n = k + 1 := ⟨n - 1, by omega⟩
    refine ⟨h, 0, K, P, l, e, ?_, ⟨rfl, rfl⟩, hC, hS, hA, hB, Fr.rf _ _⟩
    rw [f_Np_deduce_27, b_Np_deduce_27, if_pos (show nI N ≤ nI i from nI_le (by omega) (by omega)), Nat.add_zero]
  | succ k ih =>
    intro i n h K P l e h1 h2 hC hS hA hB hl
    obtain ⟨n, rfl⟩ : ∃ k, n = k + 1 := ⟨n - 1, by omega⟩
    obtain ⟨T, S, hC1, hC2⟩ := hC
    have hc := hC1
    obtain ⟨⟨V, a0, a1⟩, b, r, ⟨g, d, d'⟩, lg⟩ := hc
    obtain ⟨kd, pl, K', P', h', T', S', V', rm, g1, g7, g2, g3, g4, g5, g6, g8, g9, g10, g11, g12⟩ := c_next b r hR hC2 hB.2.1 (Or.inl rfl) hF
    have e12 : ∀ k, ¬ WS (1 + 1) 32 k → h'.2 k = h.2 k := g12.2
    simp only [WS] at e12
    have hA' : CA h' m sv tl tx := hA.fr fun k hk => e12 k (by simp only [DA] at hk; omega)
    have hB' : CB h' := hB.rea g11 fun k hk hn => e12 k (by simp only [DB] at hk; omega)
    have hS' : SolF h' := hS.fr fun k h1 h2 => e12 k (by omega)
    have z1 : h'.2 1 = obj 8 4 V := (e12 _ (by omega)).trans a0
    have hck : cK h 32 3 = some () := by obtain ⟨V9, z, _⟩ := hB.2.1; exact ob_K z
    have hsta : StaAt h' 1 (R, K', P', G, l, e) T' S' := ⟨⟨V, z1, a1⟩, g3, r.fe fun j hj => e12 _ (by omega), ⟨g, (e12 _ (by omega)).trans d, d'⟩, lg.fr (e12 _ (by omega)) (e12 _ (by omega))⟩
    rw [f_Np_deduce_27, b_Np_deduce_27, if_neg (show ¬ nI N ≤ nI i from nI_ge (by omega) (by omega)), (np_r hA).2.2.1, bnd_s, (np_r hA).1, bnd_s, (sta_r hC1).1, bnd_s, bnd_s, (sta_r hC1).2.1, bnd_s, hck, bnd_s, g2, bnd2_s]
    by_cases q : kd = 0
    · subst q
      obtain ⟨z2, z3, z4⟩ := NX_z g1
      subst z2 z3
      refine ⟨h', 0, _, _, l, e, ?_, Or.inl ⟨z4, rfl, rfl⟩, ⟨T', S', hsta, g4⟩, hS', hA', hB', g12.mo fun k hk => by simp only [WS] at hk; omega⟩
      rw [if_pos (show nI 0 = (0 : Int32) from rfl), Nat.add_zero]
    · rw [if_neg (show ¬ nI kd = (0 : Int32) from fun z => q ((nI_eq (a := kd) (b := 0) (by omega) (by omega)).mp z))]
      rw [if_neg q] at g8
      obtain ⟨h3, p3, l3, f3⟩ := log_add (lg.fr (h' := h') (e12 (1 + 11) (by omega)) (e12 (1 + 11 + 1) (by omega))) (dkx kd pl rm)
      have e3 : ∀ k, k ≠ 12 → k ≠ 13 → h3.2 k = h'.2 k := fun k h1 h2 => f3.2 k (by omega)
      have hsta3 : StaAt h3 1 (R, K', P', G, lgN l, lgE l e (dkx kd pl rm)) T' S' := ⟨⟨V, (e3 _ (by omega) (by omega)).trans z1, a1⟩, g3.fr (e3 _ (by omega) (by omega)) (e3 _ (by omega) (by omega)), hsta.2.2.1.fe fun j hj => e3 _ (by omega) (by omega), ⟨g, (e3 _ (by omega) (by omega)).trans ((e12 _ (by omega)).trans d), d'⟩, l3⟩
      obtain ⟨h4, c, K4, P4, l4, e4, y1, y2, y3, y4, y5, y6, y7⟩ := ih (i + 1) n h3 K' P' (lgN l) (lgE l e (dkx kd pl rm)) (by omega) (by omega) ⟨T', S', hsta3, g4⟩ (hS'.fr fun k h1 h2 => e3 k (by omega) (by omega)) (hA'.fr fun k hk => e3 k (by simp only [DA] at hk; omega) (by simp only [DA] at hk; omega)) (hB'.fr fun k hk => e3 k (by simp only [DB] at hk; omega) (by simp only [DB] at hk; omega)) (by unfold lgN; split <;> omega)
      refine ⟨h4, c + 1, K4, P4, l4, e4, ?_, Or.inr ⟨kd, pl, rm, K', P', c, q, g1, g10, y2, rfl⟩, y3, y4, y5, y6, (g12.mo fun k hk => by simp only [WS] at hk; omega).tr ((f3.mo fun k hk => by omega).tr y7)⟩
      rw [(np_r hA').1, bnd_s, (sta_r hsta).2.2.2.1, bnd_s, (np_r hA').2.2.1, bnd_s, ob_I g5 (by omega) g6, bnd_s, bnd_s, ob_I g5 (by omega) g8, bnd_s, bnd_s, ob_I g5 (by omega) g9, bnd_s, (sta_r hsta).2.2.2.2.2, bnd_s, show f_Log_add (1 + 11) (nI kd) (nI pl) (nI rm) h' = some h3 from p3, bnd_s, nI_1, y1]
      rw [show i + (c + 1) = i + 1 + c by omega]
theorem c_deduce {h : PH} {x : ST} {m : Nat} {sv : Nat → ST} {tl : Nat} {tx : Nat → Int32} (H : CW h x m sv tl tx) (hv : VAL x) {N : Nat} (hN : N ≤ 500) {F : Nat} (hF : 3000 ≤ F) : ∃ h' c K' P' l' e', f_Np_deduce F 0 (nI N) h = some (.inr (nI c), h') ∧ DD (tR x) N (tK x, tP x, tN x, tE x) c (K', P', l', e') ∧ CW h' (tR x, K', P', tG x, l', e') (svN m) (svS m sv x) tl tx ∧ VAL (tR x, K', P', tG x, l', e') ∧ Fr (fun k => k < 263) h h' := by
  obtain ⟨h1, p1, hC, hF1, hA1, hB1, f1⟩ := np_save H hv
  obtain ⟨h2, c, K', P', l', e', y1, y2, y3, y4, y5, y6, y7⟩ := c_ded (tl := tl) (tx := tx) (R := tR x) (G := tG x) (m := svN m) (sv := svS m sv x) hv.1 hF hN N 0 F h1 (tK x) (tP x) (tN x) (tE x) (by omega) (by omega) hC hF1 hA1 hB1 hv.2.2.2
  obtain ⟨v1, v2, _⟩ := DD_v y2 hv.2.1 hv.2.2.2
  have hv' : VAL (tR x, K', P', tG x, l', e') := ⟨hv.1, v1, hv.2.2.1, v2⟩
  refine ⟨h2, c, K', P', l', e', ?_, y2, ⟨y3, y4.c hv', y5, y6⟩, hv', (f1.mo fun k hk => by omega).tr y7⟩
  unfold f_Np_deduce
  rw [if_neg (nI_pos (by omega)), if_pos (show nI N ≤ (500 : Int32) from nI_le (a := N) (b := 500) (by omega) (by omega)), (np_r H.2.2.1).2.2.2.2.2.2.1, bnd_s, p1, bnd_s]
  rw [Nat.zero_add] at y1
  exact y1
/-- the trial position stands for the position -/
theorem c_trial {h : PH} {x : ST} {m : Nat} {sv : Nat → ST} {tl : Nat} {tx : Nat → Int32} (H : CW h x m sv tl tx) : ∃ h' T S, f_Pos_copyFrom 30 (1 + 1) h = some h' ∧ PosAt h' 30 (tK x) (tP x) T S ∧ INV (tR x) (tK x) T S ∧ CW h' x m sv tl tx ∧ StaAt h' 1 x T S ∧ Fr (PS 30) h h' := by
  obtain ⟨⟨T, S, hC1, hC2⟩, hS, hA, hB⟩ := H
  obtain ⟨h1, p1, g1, f1⟩ := p_copyFrom hC1.2.1 (p := 30) hB.1 (by omega)
  have e1 : ∀ k, ¬ PS 30 k → h1.2 k = h.2 k := f1.2
  simp only [PS] at e1
  have hs1 : StaAt h1 1 x T S := hC1.fr fun k hk => e1 k (by simp only [US] at hk; omega)
  refine ⟨h1, T, S, p1, g1, hC2, ⟨⟨T, S, hs1, hC2⟩, hS.fr fun k h1 h2 => e1 k (by omega), hA.fr fun k hk => e1 k (by simp only [DA] at hk; omega), ?_⟩, hs1, f1⟩
  obtain ⟨a, b, ⟨W, c⟩, ⟨W2, d⟩, ⟨f, g⟩, f2, g2⟩ := hB
  exact ⟨g1.sh, b.fr fun j hj => e1 _ (by omega), ⟨W, c.fr fun k h1 h2 => e1 k (by omega)⟩, ⟨W2, (e1 _ (by omega)).trans d⟩, ⟨f, (e1 _ (by omega)).trans g⟩, f2, (e1 _ (by omega)).trans g2⟩
theorem cw_tr {h h' : PH} {x : ST} {m : Nat} {sv : Nat → ST} {tl : Nat} {tx : Nat → Int32} (H : CW h x m sv tl tx) (f : Fr (WS 30 32) h h') (hp : PosSh h' 30) (hr : ReaOK h' 32) : CW h' x m sv tl tx := by
  have e : ∀ k, ¬ WS 30 32 k → h'.2 k = h.2 k := f.2
  simp only [WS] at e
  obtain ⟨a, b, c, d⟩ := H
  refine ⟨a.fr fun k hk => e k (by simp only [US] at hk; omega), b.fr fun k h1 h2 => e k (by omega), c.fr fun k hk => e k (by simp only [DA] at hk; omega), ?_⟩
  obtain ⟨a, b, ⟨W, c⟩, ⟨W2, d⟩, ⟨f, g⟩, f2, g2⟩ := d
  exact ⟨hp, hr, ⟨W, c.fr fun k h1 h2 => e k (by omega)⟩, ⟨W2, (e _ (by omega)).trans d⟩, ⟨f, (e _ (by omega)).trans g⟩, f2, (e _ (by omega)).trans g2⟩
theorem c_hint {h : PH} {x : ST} {m : Nat} {sv : Nat → ST} {tl : Nat} {tx : Nat → Int32} (H : CW h x m sv tl tx) (hv : VAL x) {F : Nat} (hF : 3000 ≤ F) : ∃ kd pl K' P' h', NX (tR x) (tK x) (tP x) kd pl K' P' ∧ f_Np_hint F 0 h = some (nI kd, h') ∧ f_Np_hintPlace F 0 h = some (if kd = 0 then -1 else nI pl, h') ∧ CW h' x m sv tl tx ∧ Fr (fun k => k < 263) h h' := by
  obtain ⟨h1, T, S, p1, g1, hI, H1, hs1, f1⟩ := c_trial H
  obtain ⟨kd, pl, K', P', h2, T', S', V', rm, y1, y7, y2, y3, y4, y5, y6, y8, y9, y10, y11, y12⟩ := c_next g1 hs1.2.2.1 hv.1 hI H1.2.2.2.2.1 (Or.inr rfl) hF
  have H2 := cw_tr H1 y12 y3.sh y11
  have hck : cK h 30 1 = some () := by obtain ⟨V9, sp, z, _⟩ := H.2.2.2.1; exact ob_K z
  have hck2 : cK h1 32 3 = some () := by obtain ⟨V9, z, _⟩ := H1.2.2.2.2.1; exact ob_K z
  obtain ⟨T0, S0, hc0, _⟩ := H.1
  have nr := np_r H.2.2.1
  have nr1 := np_r H1.2.2.1
  refine ⟨kd, pl, K', P', h2, y1, ?_, ?_, H2, (f1.mo fun k hk => by simp only [PS] at hk; omega).tr (y12.mo fun k hk => by simp only [WS] at hk; omega)⟩
  · unfold f_Np_hint
    rw [nr.2.1, bnd_s, nr.1, bnd_s, (sta_r hc0).1, bnd_s, hck, bnd_s, p1, bnd_s, nr1.2.2.1, bnd_s, nr1.2.1, bnd_s, nr1.1, bnd_s, (sta_r hs1).2.1, bnd_s, hck2, bnd_s, y2, bnd2_s]
  · unfold f_Np_hintPlace
    rw [nr.2.1, bnd_s, nr.1, bnd_s, (sta_r hc0).1, bnd_s, hck, bnd_s, p1, bnd_s, nr1.2.2.1, bnd_s, nr1.2.1, bnd_s, nr1.1, bnd_s, (sta_r hs1).2.1, bnd_s, hck2, bnd_s, y2, bnd2_s, (np_r H2.2.2.1).2.2.1, bnd_s, ob_I y5 (by omega) y8, bnd_s]
/-- how many deductions of a kind until there is none -/
def ND (R : RT) (w : Nat) : Nat → (Nat → Nat → Bool) → (Nat → Bool) → Nat → Prop
  | 0, K, P, c => c = 0 ∧ NX R K P 0 0 K P
  | m + 1, K, P, c => ∃ kd pl K1 P1 c1, kd ≠ 0 ∧ NX R K P kd pl K1 P1 ∧ ND R w m K1 P1 c1 ∧ c = c1 + if kd = w then 1 else 0
theorem c_need {R : RT} (hR : ROK R) {x : ST} (hx : tR x = R) {m : Nat} {sv : Nat → ST} {tl : Nat} {tx : Nat → Int32} {F : Nat} (hF : 3000 ≤ F) {w : Nat} (hw : w < 8) : ∀ M K P T S h n i a, mea K P ≤ M → i + M < 500 → M + 2 ≤ n → CW h x m sv tl tx → PosAt h 30 K P T S → INV R K T S →
    ∃ h' k c, k ≤ M ∧ ND R w k K P c ∧ f_Np_needs_40 F n 0 (nI w) (nI a) (nI i) h = some (.inr (nI (a + c)), h') ∧ CW h' x m sv tl tx ∧ Fr (WS 30 32) h h' := by
  have step : ∀ K P T S h n i a, i < 500 → CW h x m sv tl tx → PosAt h 30 K P T S → INV R K T S → ∃ kd pl K' P' T' S' h', NX R K P kd pl K' P' ∧ f_Np_needs_40 F (n + 1) 0 (nI w) (nI a) (nI i) h = (if kd = 0 then some (.inr (nI a), h') else f_Np_needs_40 F n 0 (nI w) (nI (a + if kd = w then 1 else 0)) (nI (i + 1)) h') ∧ CW h' x m sv tl tx ∧ PosAt h' 30 K' P' T' S' ∧ INV R K' T' S' ∧ Fr (WS 30 32) h h' := by
    intro K P T S h n i a hi H hP hI
    obtain ⟨T0, S0, hc0, _⟩ := H.1
    have hr := hc0.2.2.1
    rw [hx] at hr
    obtain ⟨kd, pl, K', P', h2, T', S', V', rm, y1, y7, y2, y3, y4, y5, y6, y8, y9, y10, y11, y12⟩ := c_next hP hr hR hI H.2.2.2.2.1 (Or.inr rfl) hF
    have hck2 : cK h 32 3 = some () := by obtain ⟨V9, z, _⟩ := H.2.2.2.2.1; exact ob_K z
    have nr := np_r H.2.2.1
    refine ⟨kd, pl, K', P', T', S', h2, y1, ?_, cw_tr H y12 y3.sh y11, y3, y4, y12⟩
    rw [f_Np_needs_40, b_Np_needs_40, if_neg (show ¬ (500 : Int32) ≤ nI i from nI_ge (a := (i)) (b := 500) (by omega) (by omega)), nr.2.2.1, bnd_s, nr.2.1, bnd_s, nr.1, bnd_s, (sta_r hc0).2.1, bnd_s, hck2, bnd_s, y2, bnd2_s]
    by_cases q : kd = 0
    · subst q
      rw [if_pos (show nI 0 = (0 : Int32) from rfl), if_pos rfl]
    · rw [if_neg (show ¬ nI kd = (0 : Int32) from fun z => q ((nI_eq (a := kd) (b := 0) (by omega) (by omega)).mp z)), if_neg q]
      by_cases q2 : kd = w
      · rw [if_pos (congrArg nI q2), if_pos q2, b_Np_needs_87, nI_1, nI_1]
      · rw [if_neg (fun z => q2 ((nI_eq (by omega) (by omega)).mp z)), if_neg q2, b_Np_needs_87, nI_1]
        congr 1
        exact nI_add _ 0
  intro M
  induction M with
  | zero =>
    intro K P T S h n i a hm hi hn H hP hI
    obtain ⟨n, rfl⟩ : ∃ k, n = k + 1 := ⟨n - 1, by omega⟩
    obtain ⟨kd, pl, K', P', T', S', h', y1, y2, y3, y4, y5, y6⟩ := step K P T S h n i a (by omega) H hP hI
    by_cases q : kd = 0
    · subst q
      refine ⟨h', 0, 0, Nat.le_refl _, ⟨rfl, (NX_z y1).2.2⟩, ?_, y3, y6⟩
      rw [y2, if_pos rfl]
      rfl
    · have := NX_mea y1 q
      omega
  | succ M ih =>
    intro K P T S h n i a hm hi hn H hP hI
    obtain ⟨n, rfl⟩ : ∃ k, n = k + 1 := ⟨n - 1, by omega⟩
    obtain ⟨kd, pl, K', P', T', S', h', y1, y2, y3, y4, y5, y6⟩ := step K P T S h n i a (by omega) H hP hI
    by_cases q : kd = 0
    · subst q
      refine ⟨h', 0, 0, Nat.zero_le _, ⟨rfl, (NX_z y1).2.2⟩, ?_, y3, y6⟩
      rw [y2, if_pos rfl]
      rfl
    · have := NX_mea y1 q
      obtain ⟨h2, k, c, z1, z2, z3, z4, z5⟩ := ih K' P' T' S' h' n (i + 1) (a + if kd = w then 1 else 0) (by omega) (by omega) (by omega) y3 y4 y5
      refine ⟨h2, k + 1, _, by omega, ⟨kd, pl, K', P', c, q, y1, z2, rfl⟩, ?_, z4, y6.tr z5⟩
      rw [y2, if_neg q, z3, show a + (if kd = w then 1 else 0) + c = a + (c + if kd = w then 1 else 0) by omega]
theorem c_needs {h : PH} {x : ST} {m : Nat} {sv : Nat → ST} {tl : Nat} {tx : Nat → Int32} (H : CW h x m sv tl tx) (hv : VAL x) {w : Nat} (h1 : 1 ≤ w) (h7 : w ≤ 7) {F : Nat} (hF : 3000 ≤ F) : ∃ h' k c, k ≤ 252 ∧ ND (tR x) w k (tK x) (tP x) c ∧ f_Np_needs F 0 (nI w) h = some (.inr (nI c), h') ∧ CW h' x m sv tl tx ∧ Fr (fun k => k < 263) h h' := by
  obtain ⟨h2, T, S, p1, g1, hI, H1, hs1, f1⟩ := c_trial H
  obtain ⟨h3, k, c, y1, y2, y3, y4, y5⟩ := c_need hv.1 (x := x) rfl hF (w := w) (by omega) 252 (tK x) (tP x) T S h2 F 0 0 (mea_le _ _) (by omega) (by omega) H1 g1 hI
  have hck : cK h 30 1 = some () := by obtain ⟨V9, sp, z, _⟩ := H.2.2.2.1; exact ob_K z
  obtain ⟨T0, S0, hc0, _⟩ := H.1
  have nr := np_r H.2.2.1
  refine ⟨h3, k, c, y1, y2, ?_, y4, (f1.mo fun k hk => by simp only [PS] at hk; omega).tr (y5.mo fun k hk => by simp only [WS] at hk; omega)⟩
  unfold f_Np_needs
  rw [if_neg (show ¬ nI w < (1 : Int32) from nI_nlt (a := w) (b := 1) (by omega) (by omega)), if_pos (show nI w ≤ (7 : Int32) from nI_le (a := w) (b := 7) (by omega) (by omega)), nr.2.1, bnd_s, nr.1, bnd_s, (sta_r hc0).1, bnd_s, hck, bnd_s, p1, bnd_s]
  rw [Nat.zero_add] at y3
  exact y3
