/-! The class's reader: givens, the whole, the call. -/
def gok (v : Int32) : Bool := decide (v = 46) || decide (¬ v < 49 ∧ ¬ 54 < v)
def gdv (v : Int32) : Nat := if v = 46 then 0 else v.toNatClampNeg - 48
theorem gok_e {v : Int32} (h : gok v = true) (h46 : v ≠ 46) : ¬ v < 49 ∧ ¬ 54 < v ∧ v - (48 : Int32) = nI (gdv v) ∧ gdv v < 7 := by
  unfold gok at h
  rw [Bool.or_eq_true] at h
  rcases h with h | h
  · exact absurd (of_decide_eq_true h) h46
  have h' := of_decide_eq_true h
  have h0 : ¬ v < 0 := fun z => h'.1 (Int32.lt_trans z (by decide))
  obtain ⟨j, hj, rfl⟩ := nI_of h0
  have h1 : ¬ j < 49 := fun z => h'.1 (nI_lt (a := j) (b := 49) z (by omega))
  have h2 : ¬ 54 < j := fun z => h'.2 (nI_lt (a := 54) (b := j) z hj)
  refine ⟨h'.1, h'.2, ?_, ?_⟩
  · unfold gdv
    rw [if_neg h46, nI_clamp hj]
    exact pk_sub (a := j) (b := 48) (by omega)
  · unfold gdv
    rw [if_neg h46, nI_clamp hj]
    omega
theorem gdv_lt {v : Int32} (h : gok v = true) : gdv v < 7 := by
  by_cases z : v = 46
  · unfold gdv; rw [if_pos z]; omega
  · exact (gok_e h z).2.2.2
/-- the first place that holds no given -/
def givR (tl : Nat) (tx : Nat → Int32) : Nat → Nat → Option Nat
  | 0, _ => none
  | n + 1, i => if gok (hr tl tx i) then givR tl tx n (i + 1) else some i
def parR (tl : Nat) (tx : Nat → Int32) : Nat ⊕ (RT × (Nat → Nat)) := match givR tl tx 36 0 with
  | some f => .inl f
  | none => match rulR tl tx 9 R0 36 with
    | .inl f => .inl f
    | .inr R => .inr (R, fun c => gdv (hr tl tx c))
def GA (h : PH) (G : Nat → Nat) : Prop := ∃ g, h.2 24 = oI 36 g ∧ ∀ c, c < 36 → g c = nI (G c)
theorem hr_gok {tl : Nat} {tx : Nat → Int32} {p : Nat} (h : gok (hr tl tx p) = true) : p < tl := by
  apply Classical.byContradiction
  intro z
  unfold hr at h
  rw [if_pos (by omega)] at h
  cases h
theorem givR_ok {tl : Nat} {tx : Nat → Int32} : ∀ n i, givR tl tx n i = none → ∀ c, i ≤ c → c < i + n → gok (hr tl tx c) = true := by
  intro n
  induction n with
  | zero => intro i _ c h1 h2; omega
  | succ n ih =>
    intro i h c h1 h2
    unfold givR at h
    by_cases w : gok (hr tl tx i) = true
    · rw [if_pos w] at h
      by_cases q : c = i
      · rw [q]; exact w
      · exact ih (i + 1) h c (by omega) (by omega)
    · rw [if_neg w] at h
      cases h
theorem t_givens {tl : Nat} {tx : Nat → Int32} {F : Nat} : ∀ m n i h, m + i = 36 → m + 1 ≤ n → TP h tl tx i (-1) → GA h (fun c => if c < i then gdv (hr tl tx c) else 0) →
    ∃ h', f_Txt_readGivens_2 F n 28 24 (nI i) h = some h' ∧ Fr (fun k => k = 28 ∨ k = 24) h h' ∧ match givR tl tx m i with
      | some f => f < 36 ∧ TP h' tl tx f (nI f) ∧ ∃ g, h'.2 24 = oI 36 g
      | none => TP h' tl tx 36 (-1) ∧ GA h' (fun c => if c < 36 then gdv (hr tl tx c) else 0) := by
  intro m
  induction m with
  | zero =>
    intro n i h hm hn H hg
    obtain ⟨n, rfl⟩ : ∃ k, n = k + 1 := ⟨n - 1, by omega⟩
    have hi : i = 36 := by omega
    subst hi
    refine ⟨h, ?_, Fr.rf _ _, H, hg⟩
    rw [f_Txt_readGivens_2, b_Txt_readGivens_2, if_pos (show (36 : Int32) ≤ nI 36 from nI_le (a := 36) (b := 36) (by omega) (by omega))]
  | succ m ih =>
    intro n i h hm hn H hg
    obtain ⟨n, rfl⟩ : ∃ k, n = k + 1 := ⟨n - 1, by omega⟩
    have hi : i < 36 := by omega
    show ∃ h', _ ∧ _ ∧ match (if gok (hr tl tx i) then givR tl tx m (i + 1) else some i) with
      | some f => f < 36 ∧ TP h' tl tx f (nI f) ∧ ∃ g, h'.2 24 = oI 36 g
      | none => TP h' tl tx 36 (-1) ∧ GA h' (fun c => if c < 36 then gdv (hr tl tx c) else 0)
    rw [f_Txt_readGivens_2, b_Txt_readGivens_2, if_neg (show ¬ (36 : Int32) ≤ nI i from nI_ge (a := (i)) (b := 36) (by omega) (by omega)), H.ck.1, bnd_s, H.here, bnd_s]
    have h50 : ∀ s, TP s tl tx i (-1) → GA s (fun c => if c < i + 1 then gdv (hr tl tx c) else 0) → Fr (fun k => k = 28 ∨ k = 24) h s → ∃ h', b_Txt_readGivens_50 F (f_Txt_readGivens_2 F n) 28 24 (nI i) s = some h' ∧ Fr (fun k => k = 28 ∨ k = 24) h h' ∧ match givR tl tx m (i + 1) with
      | some f => f < 36 ∧ TP h' tl tx f (nI f) ∧ ∃ g, h'.2 24 = oI 36 g
      | none => TP h' tl tx 36 (-1) ∧ GA h' (fun c => if c < 36 then gdv (hr tl tx c) else 0) := by
      intro s hs gs fs
      obtain ⟨s1, p1, g1, f1⟩ := hs.go (i + 1) (by omega)
      obtain ⟨s2, p2, f2, t2⟩ := ih n (i + 1) s1 (by omega) (by omega) g1 (by
        obtain ⟨g, a, b⟩ := gs
        exact ⟨g, (f1.2 24 (by omega)).trans a, b⟩)
      refine ⟨s2, ?_, fs.tr ((f1.mo fun k hk => Or.inl hk).tr f2), t2⟩
      rw [b_Txt_readGivens_50, hs.ck.2.1, bnd_s, nI_1, p1, bnd_s, p2]
    have h35 : gok (hr tl tx i) = false → ∃ h', (bnd (gI h 28 2 2) fun x1 => bnd (pV h 28 2 3 (.int x1)) fun h2 => some h2) = some h' ∧ Fr (fun k => k = 28 ∨ k = 24) h h' ∧ match (if gok (hr tl tx i) then givR tl tx m (i + 1) else some i) with
      | some f => f < 36 ∧ TP h' tl tx f (nI f) ∧ ∃ g, h'.2 24 = oI 36 g
      | none => TP h' tl tx 36 (-1) ∧ GA h' (fun c => if c < 36 then gdv (hr tl tx c) else 0) := by
      intro hn
      obtain ⟨s1, p1, g1, f1⟩ := H.bad i
      refine ⟨s1, by rw [H.ck.2.1, bnd_s, p1, bnd_s], f1.mo fun k hk => Or.inl hk, ?_⟩
      rw [hn, if_neg (by decide)]
      obtain ⟨g, a, _⟩ := hg
      exact ⟨hi, g1, g, (f1.2 24 (by omega)).trans a⟩
    by_cases w46 : hr tl tx i = 46
    · have hgo : gok (hr tl tx i) = true := by rw [w46]; decide
      rw [if_pos (show hr tl tx i < 49 by rw [w46]; decide), b_Txt_readGivens_35, if_pos w46, if_pos hgo]
      refine h50 h H ?_ (Fr.rf _ _)
      obtain ⟨g, a, b⟩ := hg
      refine ⟨g, a, fun c hc => ?_⟩
      rw [b c hc]
      congr 1
      by_cases q : c = i
      · subst q
        show (if c < c then _ else 0) = if c < c + 1 then gdv (hr tl tx c) else 0
        rw [if_neg (by omega), if_pos (by omega), w46]; rfl
      · show (if c < i then _ else 0) = if c < i + 1 then gdv (hr tl tx c) else 0
        by_cases q2 : c < i
        · rw [if_pos q2, if_pos (by omega)]
        · rw [if_neg q2, if_neg (by omega)]
    · cases hgo : gok (hr tl tx i)
      · have z := h35 hgo
        rw [hgo] at z
        by_cases w1 : hr tl tx i < 49
        · rw [if_pos w1, b_Txt_readGivens_35, if_neg w46]
          exact z
        · rw [if_neg w1]
          by_cases w2 : 54 < hr tl tx i
          · rw [if_pos w2, b_Txt_readGivens_35, if_neg w46]
            exact z
          · exfalso
            have : gok (hr tl tx i) = true := by
              unfold gok
              rw [Bool.or_eq_true]
              exact Or.inr (decide_eq_true ⟨w1, w2⟩)
            rw [this] at hgo
            cases hgo
      · obtain ⟨e1, e2, e3, e4⟩ := gok_e hgo w46
        rw [if_neg e1, if_neg e2, e3, if_pos rfl]
        obtain ⟨g, a, b⟩ := hg
        obtain ⟨s1, p1, g1, f1⟩ := sti (i := i) (nI (gdv (hr tl tx i))) a hi (by omega)
        rw [p1, bnd_s]
        refine h50 s1 (H.fr (f1.2 _ (by omega)) (f1.2 _ (by omega))) ⟨_, g1, fun c hc => ?_⟩ (f1.mo fun k hk => Or.inr hk)
        show upd g i (nI (gdv (hr tl tx i))) c = nI (if c < i + 1 then gdv (hr tl tx c) else 0)
        by_cases q : c = i
        · subst q
          rw [pk_us, if_pos (by omega)]
        · rw [pk_un q, b c hc]
          congr 1
          show (if c < i then _ else 0) = if c < i + 1 then gdv (hr tl tx c) else 0
          by_cases q2 : c < i
          · rw [if_pos q2, if_pos (by omega)]
          · rw [if_neg q2, if_neg (by omega)]
def DRF : Nat → Prop := fun k => (14 ≤ k ∧ k < 27) ∨ k = 28
theorem t_read {tl : Nat} {tx : Nat → Int32} {h : PH} (Hs : StaSh h 14) (Ht : TxAt h tl tx) (e : Nat → Nat → Int32) {F : Nat} (hF : 3000 ≤ F) :
    ∃ x h', f_Txt_readInto F 28 14 h = some (x, h') ∧ Fr DRF h h' ∧ TxAt h' tl tx ∧ StaSh h' 14 ∧ match parR tl tx with
      | .inl f => f < 1000 ∧ x = nI f
      | .inr y => x = -1 ∧ RulAt h' 17 y.1 ∧ ROK y.1 ∧ gvOK y.2 ∧ GA h' y.2 ∧ LogAt h' 25 0 e := by
  have htl : tl ≤ 150 := by obtain ⟨_, _, _, _, _, z, _⟩ := Ht; exact z
  obtain ⟨h1, p1, g1, f1⟩ := sta_wipe Hs e (F := F) (by omega)
  obtain ⟨V, f, b0, b1, b2, b3, b4, b5⟩ := Ht.fr (h' := h1) (f1.2 _ (by simp only [US]; omega)) (f1.2 _ (by simp only [US]; omega))
  obtain ⟨h2, p2, g2, f2⟩ := puti (k := 2) (.int (nI 0)) b0 (by omega)
  obtain ⟨h3, p3, g3, f3⟩ := puti (k := 3) (.int (nI 0 - 1)) g2 (by omega)
  have e3 : ∀ k, k ≠ 28 → h3.2 k = h1.2 k := fun k hk => (f3.2 k hk).trans (f2.2 k hk)
  have T3 : TP h3 tl tx 0 (-1) := ⟨_, f, g3, (vu_n _ _ (by omega)).trans ((vu_n _ _ (by omega)).trans b1), (vu_n _ _ (by omega)).trans ((vu_n _ _ (by omega)).trans b2), (vu_n _ _ (by omega)).trans (vu_s _ _ _), vu_s _ _ _, b3, by omega, (e3 _ (by omega)).trans b4, b5⟩
  obtain ⟨⟨W, w0, w1⟩, c1, c2, ⟨g, c3, c4⟩, c5⟩ := g1
  have G3 : GA h3 (fun c => if c < 0 then gdv (hr tl tx c) else 0) := ⟨g, (e3 _ (by omega)).trans c3, fun c hc => c4 c hc⟩
  obtain ⟨h4, p4, f4, t4⟩ := t_givens (F := F) 36 F 0 h3 rfl (by omega) T3 G3
  have F4 : Fr DRF h h4 := (f1.mo fun k hk => by simp only [US, DRF] at hk ⊢; omega).tr ((f2.mo fun k hk => Or.inr hk).tr ((f3.mo fun k hk => Or.inr hk).tr (f4.mo fun k hk => by rcases hk with hk | hk; exact Or.inr hk; exact Or.inl (by omega))))
  have e4 : ∀ k, k ≠ 28 → k ≠ 24 → h4.2 k = h1.2 k := fun k hk hk' => (f4.2 k (by omega)).trans (e3 k hk)
  have R4 : RulAt h4 17 R0 := c2.fe fun j hj => e4 _ (by omega) (by omega)
  have L4 : LogAt h4 25 0 e := c5.fr (e4 _ (by omega) (by omega)) (e4 _ (by omega) (by omega))
  have w4 : h4.2 14 = obj 8 4 W := (e4 _ (by omega) (by omega)).trans w0
  have P4 : PosSh h4 15 := c1.sh.fr (e4 _ (by omega) (by omega)) (e4 _ (by omega) (by omega))
  have hck : cK h 14 8 = some () := by obtain ⟨⟨V9, z, _⟩, _⟩ := Hs; exact ob_K z
  have hck3 : cK h3 28 2 = some () := T3.ck.1
  have pre : f_Txt_readInto F 28 14 h = f_Txt_readInto_24 F F 28 14 (0 : Int32) h4 := by
    unfold f_Txt_readInto f_Txt_readGivens
    rw [hck, bnd_s, p1, bnd_s, show (0 : Int32) = nI 0 from rfl, p2, bnd_s, show (-1 : Int32) = nI 0 - 1 from rfl, p3, bnd_s, ob_R ((e3 _ (by omega)).trans w0) (by omega) w1.2.2.1, bnd_s, hck3, bnd_s, p4, bnd_s]
  rw [pre]
  unfold parR
  cases hgv : givR tl tx 36 0 with
  | some f =>
    rw [hgv] at t4
    obtain ⟨t5, t6, g5, t7⟩ := t4
    obtain ⟨n, rfl⟩ : ∃ n, F = n + 1 := ⟨F - 1, by omega⟩
    refine ⟨nI f, h4, ?_, F4, t6.tx, ⟨⟨W, w4, w1⟩, P4, R4.sh, ⟨g5, t7⟩, L4.sh⟩, by omega, rfl⟩
    rw [f_Txt_readInto_24, b_Txt_readInto_24, if_neg (by decide), t6.ck.2.2.2, bnd_s, if_neg (nI_ne1 (by omega)), b_Txt_readInto_63, t6.ck.2.2.2, bnd_s]
  | none =>
    rw [hgv] at t4
    obtain ⟨t5, g5, t6, t7⟩ := t4
    have h36 : 36 ≤ tl := by
      have := hr_gok (givR_ok 36 0 hgv 35 (by omega) (by omega))
      omega
    obtain ⟨x, h5, p5, f5, t8⟩ := t_rules htl (F := F) (by omega) 9 F R0 36 h4 rfl (by omega) t5 h36 R4 R0_ok (ob_R w4 (by omega) w1.2.1) rfl
    have e5 : ∀ k, k ≠ 28 → ¬ (17 ≤ k ∧ k < 24) → h5.2 k = h4.2 k := fun k z1 z2 => f5.2 k (by simp only [RF]; omega)
    have sh : RulSh h5 17 → StaSh h5 14 := fun z => ⟨⟨W, (e5 _ (by omega) (by omega)).trans w4, w1⟩, P4.fr (e5 _ (by omega) (by omega)) (e5 _ (by omega) (by omega)), z, ⟨g5, (e5 _ (by omega) (by omega)).trans t6⟩, L4.sh.fr (e5 _ (by omega) (by omega)) (e5 _ (by omega) (by omega))⟩
    have F5 : Fr DRF h h5 := F4.tr (f5.mo fun k hk => by simp only [RF, DRF] at hk ⊢; omega)
    obtain ⟨u1, u2⟩ := t8
    cases hr9 : rulR tl tx 9 R0 36 with
    | inl f =>
      rw [hr9] at u2
      obtain ⟨u2, u3, u4⟩ := u2
      exact ⟨x, h5, p5, F5, u1, sh u4, u2, u3⟩
    | inr R =>
      rw [hr9] at u2
      obtain ⟨u2, u3, u4⟩ := u2
      refine ⟨x, h5, p5, F5, u1, sh u3.sh, u2, u3, u4, fun c hc => gdv_lt (givR_ok 36 0 hgv c (by omega) (by omega)), ⟨g5, (e5 _ (by omega) (by omega)).trans t6, fun c hc => ?_⟩, L4.fr (e5 _ (by omega) (by omega)) (e5 _ (by omega) (by omega))⟩
      rw [t7 c hc]
      show nI (if c < 36 then _ else 0) = _
      rw [if_pos hc]
theorem cw_dr {h h' : PH} {x : ST} {m : Nat} {sv : Nat → ST} {tl : Nat} {tx : Nat → Int32} (H : CW h x m sv tl tx) (f : Fr DRF h h') (T : TxAt h' tl tx) (S : StaSh h' 14) : CW h' x m sv tl tx := by
  have e : ∀ k, ¬ (14 ≤ k ∧ k < 27) → k ≠ 28 → h'.2 k = h.2 k := fun k z1 z2 => f.2 k (by simp only [DRF]; omega)
  obtain ⟨a, b, ⟨V, q, g, a0, a1, a2, a3, a4, a5, a6, ⟨a7, a8⟩, a9, a10, a11⟩, d⟩ := H
  exact ⟨a.fr fun k hk => e k (by simp only [US] at hk; omega) (by simp only [US] at hk; omega), b.fr fun k k1 k2 => e k (by omega) (by omega), ⟨V, q, g, (e _ (by omega) (by omega)).trans a0, a1, a2, a3, a4, a5, S, ⟨(e _ (by omega) (by omega)).trans a7, a8⟩, fun k hk => (a9 k hk).fr fun j hj => e j (by simp only [US] at hj; omega) (by simp only [US] at hj; omega), fun i hi => (a10 i hi).fr fun j hj => e j (by simp only [US] at hj; omega) (by simp only [US] at hj; omega), T⟩, d.fr fun k hk => e k (by simp only [DB] at hk; omega) (by simp only [DB] at hk; omega)⟩
def neT (y : RT × (Nat → Nat)) (e : Nat → Nat → Int32) : ST := (y.1, gvK y.2, fun _ => false, y.2, 0, e)
theorem neT_v {y : RT × (Nat → Nat)} {e : Nat → Nat → Int32} (hR : ROK y.1) (hG : gvOK y.2) : VAL (neT y e) := ⟨hR, fun c _ z => (by cases z), hG, by show 0 ≤ 100; omega⟩
theorem c_parse {h : PH} {x : ST} {m : Nat} {sv : Nat → ST} {tl : Nat} {tx : Nat → Int32} (H : CW h x m sv tl tx) (hv : VAL x) {F : Nat} (hF : 3000 ≤ F) : ∃ v h', f_Np_parse F 0 h = some (v, h') ∧ Fr (fun k => k < 263) h h' ∧ match parR tl tx with
      | .inl f => f < 1000 ∧ v = (-10 : Int32) - nI f ∧ CW h' x m sv tl tx
      | .inr y => ROK y.1 ∧ gvOK y.2 ∧ v = nI (gct y.2) ∧ CW h' (neT y (tE x)) (svN m) (svS m sv x) tl tx := by
  obtain ⟨_, _, ⟨V, q, g, a0, a1, _, _, _, _, a6, _, _, _, a11⟩, _⟩ := id H
  obtain ⟨v, h1, p1, f1, t1, s1, u1⟩ := t_read a6 a11 (tE x) hF
  have H1 := cw_dr H f1 t1 s1
  have hck : cK h 28 2 = some () := by obtain ⟨V9, _, z, _⟩ := a11; exact ob_K z
  have F1 : Fr (fun k => k < 263) h h1 := f1.mo fun k hk => by simp only [DRF] at hk; omega
  unfold f_Np_parse
  rw [ob_R a0 (by omega) a1.2.2.2.1, bnd_s, ob_R a0 (by omega) a1.2.1, bnd_s, hck, bnd_s, p1, bnd2_s]
  cases hp : parR tl tx with
  | inl f =>
    rw [hp] at u1
    obtain ⟨u1, rfl⟩ := u1
    rw [if_neg (nI_ne1 (by omega))]
    exact ⟨_, h1, rfl, F1, u1, rfl, H1⟩
  | inr y =>
    rw [hp] at u1
    obtain ⟨rfl, u2, u3, u4, ⟨gg, u5, u5'⟩, u6⟩ := u1
    rw [if_pos rfl]
    obtain ⟨h2, p2, hC, hF2, hA2, hB2, f2⟩ := np_save H1 hv
    obtain ⟨V2, q2, g2, b0, b1, _, _, _, _, b6, _⟩ := id hA2
    obtain ⟨⟨W, w0, w1⟩, s2, _, _, _⟩ := b6
    have e2 : ∀ k, 14 ≤ k → k < 27 → h2.2 k = h1.2 k := fun k z1 z2 => f2.2 k (by omega)
    obtain ⟨h3, p3, g3, f3⟩ := p_beginWith (p := 15) (a := 24) (G := y.2) (g := gg) s2 ((e2 _ (by omega) (by omega)).trans u5) u5' u4 (by omega) (F := F) (by omega)
    have e3 : ∀ k, k ≠ 15 → k ≠ 16 → h3.2 k = h2.2 k := fun k z1 z2 => f3.2 k (by simp only [PS]; omega)
    have D3 : StaAt h3 14 (neT y (tE x)) (fun _ => true) (fun _ => false) := ⟨⟨W, (e3 _ (by omega) (by omega)).trans w0, w1⟩, g3, u2.fe fun j hj => (e3 _ (by omega) (by omega)).trans (e2 _ (by omega) (by omega)), ⟨gg, (e3 _ (by omega) (by omega)).trans ((e2 _ (by omega) (by omega)).trans u5), u5'⟩, u6.fr ((e3 _ (by omega) (by omega)).trans (e2 _ (by omega) (by omega))) ((e3 _ (by omega) (by omega)).trans (e2 _ (by omega) (by omega)))⟩
    have S3 : StaSh h3 1 := hC.sh.fr fun k hk => e3 k (by simp only [US] at hk; omega) (by simp only [US] at hk; omega)
    obtain ⟨h4, p4, g4, f4⟩ := sta_copy D3 u3 S3 (by omega)
    have hv' := neT_v (e := tE x) u3 u4
    have z0 : h3.2 0 = obj 9 13 V2 := (e3 _ (by omega) (by omega)).trans b0
    have z4 : h4.2 0 = obj 9 13 V2 := (f4.2 0 (by simp only [US]; omega)).trans z0
    have hA3 : CA h3 (svN m) (svS m sv x) tl tx := by
      obtain ⟨V, q, g, a0, a1, a2, a3, a4, a5, a6, ⟨a7, a8⟩, a9, a10, a11⟩ := hA2
      exact ⟨V, q, g, (e3 _ (by omega) (by omega)).trans a0, a1, a2, a3, a4, a5, D3.sh, ⟨(e3 _ (by omega) (by omega)).trans a7, a8⟩, fun k hk => (a9 k hk).fr fun j hj => e3 j (by simp only [US] at hj; omega) (by simp only [US] at hj; omega), fun i hi => (a10 i hi).fr fun j hj => e3 j (by simp only [US] at hj; omega) (by simp only [US] at hj; omega), a11.fr (e3 _ (by omega) (by omega)) (e3 _ (by omega) (by omega))⟩
    have hF3 : SolF h3 := hF2.fr fun k k1 k2 => e3 k (by omega) (by omega)
    have hB3 : CB h3 := hB2.fr fun k hk => e3 k (by simp only [DB] at hk; omega) (by simp only [DB] at hk; omega)
    have C4 := cw_fin hF3 hA3 hB3 f4 ⟨_, _, g4, inv_new⟩ hv'
    refine ⟨_, h4, ?_, F1.tr ((f2.mo fun k hk => by omega).tr ((f3.mo fun k hk => by simp only [PS] at hk; omega).tr (f4.mo fun k hk => by simp only [US] at hk; omega))), u3, u4, rfl, C4⟩
    have hck1 : cK h2 15 1 = some () := by obtain ⟨V9, _, z, _⟩ := s2; exact ob_K z
    have hckS : cK h3 1 8 = some () := by obtain ⟨⟨V9, z, _⟩, _⟩ := S3; exact ob_K z
    have hck4 : cK h4 1 8 = some () := by obtain ⟨⟨V9, z, _⟩, _⟩ := g4.sh; exact ob_K z
    have w3 : h2.2 14 = obj 8 4 W := w0
    rw [(np_ck H1.2.2.1).1, bnd_s, p2, bnd_s, ob_R b0 (by omega) b1.2.1, bnd_s, ob_R w0 (by omega) w1.1, bnd_s, bnd_s, ob_R w0 (by omega) w1.2.2.1, bnd_s, hck1, bnd_s, p3, bnd_s, ob_R z0 (by omega) b1.1, bnd_s, ob_R z0 (by omega) b1.2.1, bnd_s, hckS, bnd_s, p4, bnd_s, ob_R z4 (by omega) b1.1, bnd_s, hck4, bnd_s, sta_gc g4 u4 (by omega), bnd_s]
    rfl
