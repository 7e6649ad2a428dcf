/-! The class's calls that change the position or the constraints. -/
def svx (m : Nat) (sv : Nat → ST) (x : ST) : (Nat → ST) := svS m sv x
theorem cw_fin {h h' : PH} {x' : ST} {m : Nat} {sv : Nat → ST} {tl : Nat} {tx : Nat → Int32} (hF : SolF h) (hA : CA h m sv tl tx) (hB : CB h) (f : Fr (US 1) h h') (hC : CSt h' 1 x') (hv : VAL x') : CW h' x' m sv tl tx := by
  have e : ∀ k, ¬ US 1 k → h'.2 k = h.2 k := f.2
  simp only [US] at e
  exact ⟨hC, (hF.fr fun k k1 k2 => e k (by omega)).c hv, hA.fr fun k hk => e k (by simp only [DA] at hk; omega), hB.fr fun k hk => e k (by simp only [DB] at hk; omega)⟩
theorem np_ck {h : PH} {m : Nat} {sv : Nat → ST} {tl : Nat} {tx : Nat → Int32} (H : CA h m sv tl tx) : cK h 0 9 = some () ∧ gR h 0 9 0 = some 1 := by
  obtain ⟨V, q, f, a0, a1, _⟩ := H
  exact ⟨ob_K a0, ob_R a0 (by omega) a1.1⟩
theorem c_begin {h : PH} {x : ST} {m : Nat} {sv : Nat → ST} {tl : Nat} {tx : Nat → Int32} (H : CW h x m sv tl tx) (hv : VAL x) {F : Nat} (hF : 3000 ≤ F) : ∃ h', f_Np_begin F 0 h = some (nI (cnt (tP x) 36), h') ∧ CW h' (x0 (tE x)) (svN m) (svS m sv x) tl tx ∧ Fr (fun k => k < 263) h h' := by
  obtain ⟨h1, p1, hC, hF1, hA1, hB1, f1⟩ := np_save H hv
  obtain ⟨h2, p2, g2, f2⟩ := sta_wipe hC.sh (tE x) (F := F) (by omega)
  have hx0 : VAL (x0 (tE x)) := ⟨R0_ok, fun c _ z => (by cases z), fun c _ => (by show 0 < 7; omega), by show 0 ≤ 100; omega⟩
  refine ⟨h2, ?_, cw_fin hF1 hA1 hB1 f2 ⟨_, _, g2, ⟨fun k _ z => (by cases z), fun k hk => absurd hk (Nat.not_lt_zero k)⟩⟩ hx0, (f1.mo fun k hk => by omega).tr (f2.mo fun k hk => by simp only [US] at hk; omega)⟩
  obtain ⟨T, S, ⟨⟨V, a0, a1⟩, b, _⟩, _⟩ := H.1
  obtain ⟨W, sp, pl, to, st, c0, c1, c2, c3, c4, c5, c6, c7, _⟩ := b
  unfold f_Np_begin
  have hck1 : cK h1 1 8 = some () := by obtain ⟨⟨V9, z, _⟩, _⟩ := hC.sh; exact ob_K z
  rw [(np_ck H.2.2.1).2, bnd_s, ob_R a0 (by omega) a1.1, bnd_s, ob_L c0 (by omega) c2, bnd_s, c7.cnt, bnd_s, (np_ck H.2.2.1).1, bnd_s, p1, bnd_s, (np_ck hA1).2, bnd_s, hck1, bnd_s, p2, bnd_s]
theorem gv_val {x : ST} (hv : VAL x) (G : Nat → Nat) (hG : gvOK G) (e : Nat → Nat → Int32) : VAL (tR x, gvK G, fun _ => false, G, 0, e) := ⟨hv.1, fun c _ z => (by cases z), hG, by show 0 ≤ 100; omega⟩
theorem inv_new {R : RT} {K : Nat → Nat → Bool} : INV R K (fun _ => true) (fun _ => false) := ⟨fun k _ z => (by cases z), fun k _ h2 _ z => (by have := z 0 (by omega); cases this)⟩
theorem c_restart {h : PH} {x : ST} {m : Nat} {sv : Nat → ST} {tl : Nat} {tx : Nat → Int32} (H : CW h x m sv tl tx) (hv : VAL x) {F : Nat} (hF : 3000 ≤ F) : ∃ h', f_Np_restart F 0 h = some (nI (gct (tG x)), h') ∧ CW h' (tR x, gvK (tG x), fun _ => false, tG x, 0, tE x) (svN m) (svS m sv x) tl tx ∧ Fr (fun k => k < 263) h h' := by
  obtain ⟨h1, p1, hC, hF1, hA1, hB1, f1⟩ := np_save H hv
  obtain ⟨T, S, ⟨⟨V, a0, a1⟩, b, c, ⟨g, d, d'⟩, e⟩, i⟩ := hC
  obtain ⟨h2, p2, g2, f2⟩ := log_wipe e.sh (tE x)
  have hz : ∀ k, k ≠ 1 + 11 → h2.2 k = h1.2 k := fun k hk => f2.2 k hk
  obtain ⟨h3, p3, g3, f3⟩ := p_beginWith (p := 1 + 1) (a := 1 + 10) (G := tG x) (g := g) (b.sh.fr (hz _ (by omega)) (hz _ (by omega))) ((hz _ (by omega)).trans d) d' hv.2.2.1 (by omega) (F := F) (by omega)
  have hy : ∀ k, k ≠ 2 → k ≠ 3 → h3.2 k = h2.2 k := fun k h2 h3 => f3.2 k (by simp only [PS]; omega)
  have F13 : Fr (US 1) h1 h3 := (f2.mo fun k hk => by simp only [US]; omega).tr (f3.mo fun k hk => by simp only [PS, US] at hk ⊢; omega)
  have hS : StaAt h3 1 (tR x, gvK (tG x), fun _ => false, tG x, 0, tE x) (fun _ => true) (fun _ => false) := ⟨⟨V, (hy _ (by omega) (by omega)).trans ((hz _ (by omega)).trans a0), a1⟩, g3, c.fe fun j hj => (hy _ (by omega) (by omega)).trans (hz _ (by omega)), ⟨g, (hy _ (by omega) (by omega)).trans ((hz _ (by omega)).trans d), d'⟩, g2.fr (hy _ (by omega) (by omega)) (hy _ (by omega) (by omega))⟩
  have hA3 : CA h3 (svN m) (svS m sv x) tl tx := hA1.fr fun k hk => F13.2 k (by simp only [DA, US] at hk ⊢; omega)
  have hA2 : CA h2 (svN m) (svS m sv x) tl tx := hA1.fr fun k hk => hz k (by simp only [DA] at hk; omega)
  refine ⟨h3, ?_, cw_fin hF1 hA1 hB1 F13 ⟨_, _, hS, inv_new⟩ (gv_val hv _ hv.2.2.1 _), (f1.mo fun k hk => by omega).tr (F13.mo fun k hk => by simp only [US] at hk; omega)⟩
  unfold f_Np_restart
  have k2 : h2.2 1 = obj 8 4 V := (hz _ (by omega)).trans a0
  have hck : cK h1 (1 + 11) 0 = some () := by obtain ⟨V9, _, _, z, _⟩ := e; exact ob_K z
  have hck2 : cK h2 (1 + 1) 1 = some () := by obtain ⟨V9, _, z, _⟩ := b.sh; exact ob_K ((hz _ (by omega)).trans z)
  rw [(np_ck H.2.2.1).1, bnd_s, p1, bnd_s, (np_ck hA1).2, bnd_s, ob_R a0 (by omega) a1.2.2.2, bnd_s, hck, bnd_s, p2, bnd_s, (np_ck hA2).2, bnd_s, ob_R k2 (by omega) a1.1, bnd_s, bnd_s, ob_R k2 (by omega) a1.2.2.1, bnd_s, hck2, bnd_s, p3, bnd_s, (np_ck hA3).2, bnd_s, ob_K ((hy _ (by omega) (by omega)).trans k2), bnd_s, sta_gc hS hv.2.2.1 (by omega), bnd_s]
  rfl
def upG (G : Nat → Nat) (c d : Nat) : Nat → Nat := fun a => if a = c then d else G a
theorem c_give {h : PH} {x : ST} {m : Nat} {sv : Nat → ST} {tl : Nat} {tx : Nat → Int32} (H : CW h x m sv tl tx) (hv : VAL x) {c d : Nat} (hc : c < 36) (hd : isD d = true) {F : Nat} (hF : 3000 ≤ F) : ∃ h', f_Np_give F 0 (nI c) (nI d) h = some (.inr (nI (mkd (tK x c))), h') ∧ CW h' (tR x, kpO (tK x) c d, tP x, upG (tG x) c d, 0, tE x) (svN m) (svS m sv x) tl tx ∧ Fr (fun k => k < 263) h h' := by
  have hd' := isD_b hd
  obtain ⟨h1, p1, hC, hF1, hA1, hB1, f1⟩ := np_save H hv
  obtain ⟨T, S, ⟨⟨V, a0, a1⟩, b, r, ⟨g, e, e'⟩, l⟩, i⟩ := hC
  obtain ⟨rm, h2, T2, p2, g2, t2, f2, _⟩ := p_keepOnly b hc hd (F := F) (by omega)
  have hz : ∀ k, k ≠ 2 → k ≠ 3 → h2.2 k = h1.2 k := fun k h2 h3 => f2.2 k (by simp only [PS]; omega)
  obtain ⟨h3, p3, g3, f3⟩ := sti (i := c) (nI d) ((hz (1 + 10) (by omega) (by omega)).trans e) hc (by omega)
  have hy : ∀ k, k ≠ 2 → k ≠ 3 → k ≠ 11 → h3.2 k = h1.2 k := fun k h2 h3 h4 => (f3.2 k (by omega)).trans (hz k h2 h3)
  obtain ⟨h4, p4, g4, f4⟩ := log_wipe (l.sh.fr (hy (1 + 11) (by omega) (by omega) (by omega)) (hy (1 + 11 + 1) (by omega) (by omega) (by omega))) (tE x)
  have hw : ∀ k, k ≠ 2 → k ≠ 3 → k ≠ 11 → k ≠ 12 → h4.2 k = h1.2 k := fun k h2 h3 h4 h5 => (f4.2 k (by omega)).trans (hy k h2 h3 h4)
  have F14 : Fr (US 1) h1 h4 := (f2.mo fun k hk => by simp only [PS, US] at hk ⊢; omega).tr ((f3.mo fun k hk => by simp only [US]; omega).tr (f4.mo fun k hk => by simp only [US]; omega))
  have hS : StaAt h4 1 (tR x, kpO (tK x) c d, tP x, upG (tG x) c d, 0, tE x) T2 S := by
    refine ⟨⟨V, (hw _ (by omega) (by omega) (by omega) (by omega)).trans a0, a1⟩, g2.fr ((f4.2 _ (by omega)).trans (f3.2 _ (by omega))) ((f4.2 _ (by omega)).trans (f3.2 _ (by omega))), r.fe fun j hj => hw _ (by omega) (by omega) (by omega) (by omega), ⟨_, (f4.2 _ (by omega)).trans g3, fun a ha => ?_⟩, g4⟩
    show upd g c (nI d) a = nI (if a = c then d else tG x a)
    by_cases q : a = c
    · rw [if_pos q, q, pk_us]
    · rw [if_neg q, pk_un q]; exact e' a ha
  have hv' : VAL (tR x, kpO (tK x) c d, tP x, upG (tG x) c d, 0, tE x) := ⟨hv.1, hv.2.1.sub kpO_sub, fun a ha => by
    show (if a = c then d else tG x a) < 7
    split
    · exact hd'.2
    · exact hv.2.2.1 a ha, by show 0 ≤ 100; omega⟩
  refine ⟨h4, ?_, cw_fin hF1 hA1 hB1 F14 ⟨_, _, hS, i.tr hv.1 t2⟩ hv', (f1.mo fun k hk => by omega).tr (F14.mo fun k hk => by simp only [US] at hk; omega)⟩
  have hA2 : CA h2 (svN m) (svS m sv x) tl tx := hA1.fr fun k hk => hz k (by simp only [DA] at hk; omega) (by simp only [DA] at hk; omega)
  have hA3 : CA h3 (svN m) (svS m sv x) tl tx := hA1.fr fun k hk => hy k (by simp only [DA] at hk; omega) (by simp only [DA] at hk; omega) (by simp only [DA] at hk; omega)
  unfold f_Np_give
  have c1 : f_Np_checkCell (nI c) h = some (.inr (), h) := by
    unfold f_Np_checkCell
    rw [if_neg (nI_pos (by omega)), if_pos (show nI c < (36 : Int32) from nI_lt (a := c) (b := 36) hc (by omega))]
  have c2 : f_Np_checkDigit (nI d) h = some (.inr (), h) := by
    unfold f_Np_checkDigit
    rw [if_neg (show ¬ nI d < (1 : Int32) from nI_nlt (a := d) (b := 1) (by omega) (by omega)), if_pos (show nI d ≤ (6 : Int32) from nI_le (a := d) (b := 6) (by omega) (by omega))]
  have z2 : h2.2 1 = obj 8 4 V := (hz _ (by omega) (by omega)).trans a0
  have z3 : h3.2 1 = obj 8 4 V := (hy _ (by omega) (by omega) (by omega)).trans a0
  have hck : cK h3 (1 + 11) 0 = some () := by obtain ⟨V9, _, z, _⟩ := l.sh; exact ob_K ((hy _ (by omega) (by omega) (by omega)).trans z)
  rw [c1]
  show bndT (f_Np_checkDigit (nI d) h) _ = _
  rw [c2]
  show bnd (cK h 0 9) _ = _
  rw [(np_ck H.2.2.1).1, bnd_s, p1, bnd_s, (np_ck hA1).2, bnd_s, ob_R a0 (by omega) a1.1, bnd_s, b.ck, bnd_s, p_digitsOf b hc (by omega), bnd_s, bnd_s, ob_R a0 (by omega) a1.1, bnd_s, b.ck, bnd_s, p2, bnd2_s, (np_ck hA2).2, bnd_s, ob_R z2 (by omega) a1.2.2.1, bnd_s, p3, bnd_s, (np_ck hA3).2, bnd_s, ob_R z3 (by omega) a1.2.2.2, bnd_s, hck, bnd_s, p4, bnd_s]
def stK (K : Nat → Nat → Bool) (c d : Nat) : Nat → Nat → Bool := fun a e => K a e && !(decide (e = d) && decide (a = c))
theorem stK_sub {K : Nat → Nat → Bool} {c d : Nat} : ∀ a, a < 36 → ∀ e, isD e = true → stK K c d a e = true → K a e = true := fun a _ e _ z => by
  unfold stK at z
  rw [Bool.and_eq_true] at z
  exact z.1
theorem c_strike {h : PH} {x : ST} {m : Nat} {sv : Nat → ST} {tl : Nat} {tx : Nat → Int32} (H : CW h x m sv tl tx) (hv : VAL x) {c d : Nat} (hc : c < 36) (hd : isD d = true) : ∃ h', f_Np_strike 0 (nI c) (nI d) h = some (.inr (if tK x c d then 1 else 0), h') ∧ CW h' (tR x, stK (tK x) c d, tP x, tG x, 0, tE x) (svN m) (svS m sv x) tl tx ∧ Fr (fun k => k < 263) h h' := by
  have hd' := isD_b hd
  obtain ⟨h1, p1, hC, hF1, hA1, hB1, f1⟩ := np_save H hv
  obtain ⟨T, S, ⟨⟨V, a0, a1⟩, b, r, ⟨g, e, e'⟩, l⟩, i⟩ := hC
  obtain ⟨h2, p2, g2, f2⟩ := log_wipe l.sh (tE x)
  have hz : ∀ k, k ≠ 12 → h2.2 k = h1.2 k := fun k h2 => f2.2 k (by omega)
  obtain ⟨rm, h3, T3, p3, g3, t3, f3, hrm⟩ := p_remove (b.fr (hz (1 + 1) (by omega)) (hz (1 + 1 + 1) (by omega))) hd (CS.one hc)
  have hy : ∀ k, k ≠ 2 → k ≠ 3 → h3.2 k = h2.2 k := fun k h2 h3 => f3.2 k (by simp only [PS]; omega)
  have F13 : Fr (US 1) h1 h3 := (f2.mo fun k hk => by simp only [US]; omega).tr (f3.mo fun k hk => by simp only [PS, US] at hk ⊢; omega)
  have hS : StaAt h3 1 (tR x, stK (tK x) c d, tP x, tG x, 0, tE x) T3 S := ⟨⟨V, (hy _ (by omega) (by omega)).trans ((hz _ (by omega)).trans a0), a1⟩, g3, r.fe fun j hj => (hy _ (by omega) (by omega)).trans (hz _ (by omega)), ⟨g, (hy _ (by omega) (by omega)).trans ((hz _ (by omega)).trans e), e'⟩, g2.fr (hy _ (by omega) (by omega)) (hy _ (by omega) (by omega))⟩
  have hA2 : CA h2 (svN m) (svS m sv x) tl tx := hA1.fr fun k hk => hz k (by simp only [DA] at hk; omega)
  refine ⟨h3, ?_, cw_fin hF1 hA1 hB1 F13 ⟨_, _, hS, i.tr hv.1 t3⟩ ⟨hv.1, hv.2.1.sub stK_sub, hv.2.2.1, by show 0 ≤ 100; omega⟩, (f1.mo fun k hk => by omega).tr (F13.mo fun k hk => by simp only [US] at hk; omega)⟩
  unfold f_Np_strike
  have c1 : f_Np_checkCell (nI c) h = some (.inr (), h) := by
    unfold f_Np_checkCell
    rw [if_neg (nI_pos (by omega)), if_pos (show nI c < (36 : Int32) from nI_lt (a := c) (b := 36) hc (by omega))]
  have c2 : f_Np_checkDigit (nI d) h = some (.inr (), h) := by
    unfold f_Np_checkDigit
    rw [if_neg (show ¬ nI d < (1 : Int32) from nI_nlt (a := d) (b := 1) (by omega) (by omega)), if_pos (show nI d ≤ (6 : Int32) from nI_le (a := d) (b := 6) (by omega) (by omega))]
  have z2 : h2.2 1 = obj 8 4 V := (hz _ (by omega)).trans a0
  have hck : cK h1 (1 + 11) 0 = some () := by obtain ⟨V9, _, z, _⟩ := l.sh; exact ob_K z
  have hck2 : cK h2 (1 + 1) 1 = some () := by obtain ⟨V9, _, z, _⟩ := b.sh; exact ob_K ((hz _ (by omega)).trans z)
  rw [c1]
  show bndT (f_Np_checkDigit (nI d) h) _ = _
  rw [c2]
  show bnd (cK h 0 9) _ = _
  rw [(np_ck H.2.2.1).1, bnd_s, p1, bnd_s, (np_ck hA1).2, bnd_s, ob_R a0 (by omega) a1.2.2.2, bnd_s, hck, bnd_s, p2, bnd_s, (np_ck hA2).2, bnd_s, ob_R z2 (by omega) a1.1, bnd_s, hck2, bnd_s, p3, bnd2_s]
  have hb := tot_le (tK x)
  cases q : tK x c d
  · have h0 : rm = 0 := by
      have e1 : tot (fun c_1 e => tK x c_1 e && !(decide (e = d) && decide (c_1 = c))) = tot (tK x) := tot_ext fun a _ e _ => by
        by_cases w : e = d
        · by_cases w2 : a = c
          · subst w w2; simp [q]
          · simp [w2]
        · simp [w]
      omega
    rw [h0, if_pos (show nI 0 ≤ (0 : Int32) by decide)]
    rfl
  · have h1 : rm ≠ 0 := by
      have e1 : tot (fun c_1 e => tK x c_1 e && !(decide (e = d) && decide (c_1 = c))) < tot (tK x) := tot_lt (fun a ha e he z => by rw [Bool.and_eq_true] at z; exact z.1) hc hd q (by simp)
      omega
    rw [if_neg (show ¬ nI rm ≤ (0 : Int32) from nI_nle (n := rm) (by omega) (by omega))]
    rfl
