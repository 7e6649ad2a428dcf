/-! The class's counting: a level. -/
def LG (v i : Nat) : Nat → Prop := fun k => k = v ∨ (v + 1 ≤ k ∧ k < v + 5) ∨ k = v + 6 ∨ k = v + 9 ∨ (v + 10 + 2 * i ≤ k ∧ k < v + 86)
theorem LG.mo {v i j : Nat} (h : i ≤ j) : ∀ k, LG v j k → LG v i k := fun k hk => by
  simp only [LG] at hk ⊢
  omega
theorem WS.lg {v i : Nat} (hi : i < 38) : ∀ k, WS (v + 10 + 2 * i) (v + 1) k → LG v i k := fun k hk => by
  simp only [WS, LG] at hk ⊢
  omega
theorem NX_7 {R : RT} {K : Nat → Nat → Bool} {P : Nat → Bool} {kd pl : Nat} {K' : Nat → Nat → Bool} {P' : Nat → Bool} (hx : NX R K P kd pl K' P') : kd < 8 := by
  rcases hx with ⟨e, _⟩ | ⟨_, z⟩
  · omega
  rcases z with ⟨e, _⟩ | ⟨_, _, z⟩
  · omega
  rcases z with ⟨e, _⟩ | ⟨_, z⟩
  · omega
  rcases z with ⟨e, _⟩ | ⟨_, z⟩
  · omega
  rcases z with ⟨e, _⟩ | ⟨_, z⟩
  · omega
  rcases z with ⟨e, _⟩ | ⟨_, z⟩
  · omega
  rcases z with ⟨e, _⟩ | ⟨_, e, _⟩
  · omega
  · omega
theorem c_clos {v r i : Nat} {R : RT} (hR : ROK R) (hi : i < 38) (hvr : r + 7 ≤ v ∨ v + 86 ≤ r) {F : Nat} (hF : 3000 ≤ F) (kr : Nat → Nat → Int32 → PH → Option PH) {V : Nat → Value} : ∀ m n t h K P T S K' P', SolSh h v V → RulAt h r R → PosAt h (v + 10 + 2 * i) K P T S → INV R K T S → Cln R m K P K' P' → t + m < 500 →
    ∃ h' T' S', f_Sol_countLevel_10 F kr (n + m + 1) v r (nI i) (v + 10 + 2 * i) (nI t) h = b_Sol_countLevel_36 F kr v r (nI i) (v + 10 + 2 * i) h' ∧ SolSh h' v V ∧ PosAt h' (v + 10 + 2 * i) K' P' T' S' ∧ INV R K' T' S' ∧ Fr (WS (v + 10 + 2 * i) (v + 1)) h h' := by
  intro m
  induction m with
  | zero =>
    rintro n t h K P T S K' P' H HR HP hI ⟨e1, e2, hx⟩ ht
    subst e1 e2
    obtain ⟨kd, pl, K1, P1, h1, T1, S1, V1, rm, g1, g2, g3, g4, g5, g6, _, _, _, _, g7, g8⟩ := r_next HP HR hR hI H.2.2.1 (by omega) (by omega) (by omega) (F := F) (by omega)
    obtain ⟨u1, u2, u3, u4⟩ := NX_u g1 hx
    subst u1 u3 u4
    refine ⟨h1, T1, S1, ?_, H.nx hi g8 ⟨V1, g5, g6, g7⟩ g3.sh, g3, g4, g8⟩
    rw [f_Sol_countLevel_10, b_Sol_countLevel_10, if_neg (show ¬ (500 : Int32) ≤ nI t from nI_ge (a := (t)) (b := 500) (by omega) (by omega)), ob_R H.1 (by omega) H.2.1.1, bnd_s, (show cK h (v + 1) 3 = some () by obtain ⟨V2, z, _⟩ := H.2.2.1; exact ob_K z), bnd_s, g2, bnd2_s, if_pos (show nI 0 = (0 : Int32) from rfl)]
  | succ m ih =>
    rintro n t h K P T S K' P' H HR HP hI ⟨kd, pl, K1, P1, hk, hx, hc⟩ ht
    obtain ⟨kd', pl', K2, P2, h1, T1, S1, V1, rm, g1, g2, g3, g4, g5, g6, _, _, _, _, g7, g8⟩ := r_next HP HR hR hI H.2.2.1 (by omega) (by omega) (by omega) (F := F) (by omega)
    obtain ⟨u1, u2, u3, u4⟩ := NX_u g1 hx
    subst u1 u3 u4
    have hk7 := NX_7 hx
    obtain ⟨h2, T2, S2, z1, z2, z3, z4, z5⟩ := ih n (t + 1) h1 _ _ T1 S1 K' P' (H.nx hi g8 ⟨V1, g5, g6, g7⟩ g3.sh) (HR.fr g8 fun k hk z => by simp only [UR, WS] at hk z; omega) g3 g4 hc (by omega)
    refine ⟨h2, T2, S2, ?_, z2, z3, z4, g8.tr z5⟩
    rw [show n + (m + 1) + 1 = (n + m + 1) + 1 by omega, f_Sol_countLevel_10, b_Sol_countLevel_10, if_neg (show ¬ (500 : Int32) ≤ nI t from nI_ge (a := (t)) (b := 500) (by omega) (by omega)), ob_R H.1 (by omega) H.2.1.1, bnd_s, (show cK h (v + 1) 3 = some () by obtain ⟨V2, z, _⟩ := H.2.2.1; exact ob_K z), bnd_s, g2, bnd2_s, if_neg (show ¬ nI kd' = (0 : Int32) from fun z => hk ((nI_eq (a := kd') (b := 0) (by omega) (by omega)).mp z)), nI_1]
    exact z1
theorem smN_0 {f : Nat → Nat} : ∀ {k : Nat}, smN f k = 0 → ∀ i, i < k → f i = 0 := by
  intro k
  induction k with
  | zero => intro _ i hi; omega
  | succ k ih =>
    intro h i hi
    have h' : smN f k + f k = 0 := h
    by_cases q : i = k
    · subst q; omega
    · exact ih (by omega) i (by omega)
theorem NS_pos {R : RT} (hR : ROK R) {K : Nat → Nat → Bool} {f : Nat → Nat} (h : Sol R K f) : NS R K ≠ 0 := by
  obtain ⟨N, h1, h2, _⟩ := Sol_code hR h
  intro z
  have := cnt_0.mp z N h1
  rw [h2] at this
  cases this
/-- the part of a digit's sum over the cells Z -/
noncomputable def zsm (R : RT) (K : Nat → Nat → Bool) (S M : Nat → Bool) (d : Nat) (Z : Nat → Bool) : Nat := smN (fun c => if isD d && M d && (S c && K c d) && Z c then NS R (kpO K c d) else 0) 36
theorem zsm_add {R : RT} {K : Nat → Nat → Bool} {S M : Nat → Bool} {d j : Nat} {q : Nat → Bool} (hj : j < 36) (hc : (isD d && M d && (S j && K j d)) = true) (hq : q j = true) : zsm R K S M d (fun c => !(q c && !decide (c = j))) = zsm R K S M d (fun c => !q c) + NS R (kpO K j d) := by
  unfold zsm
  have h1 : smN (fun c => if c = j then NS R (kpO K j d) else 0) 36 = NS R (kpO K j d) := by
    rw [smN_one (j := j) hj fun i _ hn => if_neg hn, if_pos rfl]
  rw [← h1, ← smN_add]
  apply smN_ext
  intro c _
  by_cases w : c = j
  · subst w
    simp [hc, hq]
  · simp [w]
theorem zsm_cut {R : RT} {K : Nat → Nat → Bool} {S M : Nat → Bool} {d : Nat} (q : Nat → Bool) : zsm R K S M d (fun c => !q c) + zsm R K S M d q = zsm R K S M d fun _ => true := by
  unfold zsm
  rw [← smN_add]
  apply smN_ext
  intro c _
  show (if (isD d && M d && (S c && K c d) && !q c) = true then NS R (kpO K c d) else 0) + (if (isD d && M d && (S c && K c d) && q c) = true then NS R (kpO K c d) else 0) = if (isD d && M d && (S c && K c d) && true) = true then NS R (kpO K c d) else 0
  cases q c <;> simp
/-- what was counted and seen -/
def CT (R : RT) (K : Nat → Nat → Bool) (lim a : Nat) (un : Nat → Nat → Bool) (A : Nat) (G : (Nat → Nat) → Prop) (V' : Nat → Value) (un' : Nat → Nat → Bool) : Prop :=
  V' 5 = .int (nI (min lim (a + A))) ∧ (a + A ≤ lim → ∀ c d, c < 36 → isD d = true → (un' c d = true ↔ un c d = true ∨ ∃ f, Sol R K f ∧ G f ∧ f c = d))
theorem CT.g {R : RT} {K : Nat → Nat → Bool} {lim a : Nat} {un : Nat → Nat → Bool} {A : Nat} {G G' : (Nat → Nat) → Prop} {V' : Nat → Value} {un' : Nat → Nat → Bool} (h : CT R K lim a un A G V' un') (e : ∀ f, Sol R K f → (G f ↔ G' f)) : CT R K lim a un A G' V' un' := ⟨h.1, fun z c d hc hd => by
  rw [h.2 z c d hc hd]
  constructor
  · rintro (x | ⟨f, x1, x2, x3⟩)
    · exact Or.inl x
    · exact Or.inr ⟨f, x1, (e f x1).mp x2, x3⟩
  · rintro (x | ⟨f, x1, x2, x3⟩)
    · exact Or.inl x
    · exact Or.inr ⟨f, x1, (e f x1).mpr x2, x3⟩⟩
def CS5 (V V' : Nat → Value) : Prop := ∀ k, k ≠ 5 → k ≠ 10 → k ≠ 11 → V' k = V k
def StL (h : PH) (v i : Nat) (V : Nat → Value) (K : Nat → Nat → Bool) (P T S : Nat → Bool) (un : Nat → Nat → Bool) (r : Nat) (R : RT) : Prop := SolSh h v V ∧ PosAt h (v + 10 + 2 * i) K P T S ∧ SEEN h v un ∧ RulAt h r R
/-- a level counts -/
def CLev (F : Nat) (R : RT) (v r lim : Nat) (n : Nat) : Prop := ∀ K P i h a un T S V rf, StL h v i V K P T S un r R → V 4 = .int (nI lim) → V 5 = .int (nI a) → a < lim → (∃ ar, V 9 = .long ar) → INV R K T S → PI K P → opn K ≤ n → n + i ≤ 36 → n + 1 ≤ rf →
  ∃ h' V' un', f_Sol_countLevel F rf v r (nI i) h = some h' ∧ SolSh h' v V' ∧ CS5 V V' ∧ SEEN h' v un' ∧ Fr (LG v i) h h' ∧ CT R K lim a un (NS R K) (fun _ => True) V' un'
theorem c_cells {F : Nat} (hF : 3000 ≤ F) {R : RT} (hR : ROK R) {v r lim n : Nat} (hl : lim ≤ 1000) (hvr : r + 7 ≤ v ∨ v + 86 ≤ r) (ih : CLev F R v r lim n) {i rf : Nat} (hn : n + i < 36) (hrf : n + 1 ≤ rf) {K : Nat → Nat → Bool} {P T S : Nat → Bool} (hI : INV R K T S) (hp : PI K P) (ho : opn K ≤ n + 1) {Sx M : Nat → Bool} {d : Nat} (hd : isD d = true) (hM : M d = true) (h2 : ∀ c, c < 36 → Sx c = true → K c d = true → 2 ≤ sz (K c)) {h0 : PH} {V0 : Nat → Value} (hlim : V0 4 = .int (nI lim)) (har : ∃ ar, V0 9 = .long ar) {a A : Nat} {un : Nat → Nat → Bool} {G : (Nat → Nat) → Prop}
    (k88 : Nat → Nat → Int32 → Nat → Int64 → Int32 → Int32 → PH → Option PH) (i5 : Int64) (i7 : Int32) : ∀ m n' s V un1 q x, cnt q 36 = m → m + 1 ≤ n' → (∀ c, c < 36 → q c = true → Sx c = true ∧ K c d = true) → CS x q → StL s v i V K P T S un1 r R → CS5 V0 V → Fr (LG v i) h0 s → CT R K lim a un (A + zsm R K Sx M d fun c => !q c) (fun f => G f ∨ ∃ c, c < 36 ∧ Sx c = true ∧ f c = d ∧ q c = false) V un1 →
    ∃ s' V' un', f_Sol_countLevel_128 F (f_Sol_countLevel F rf) k88 n' v r (nI i) (v + 10 + 2 * i) i5 i7 (nI d) x (nI m) s = k88 v r (nI i) (v + 10 + 2 * i) i5 i7 (nI (d + 1)) s' ∧ StL s' v i V' K P T S un' r R ∧ CS5 V0 V' ∧ Fr (LG v i) h0 s' ∧ CT R K lim a un (A + zsm R K Sx M d fun _ => true) (fun f => G f ∨ ∃ c, c < 36 ∧ Sx c = true ∧ f c = d) V' un' := by
  intro m
  induction m with
  | zero =>
    intro n' s V un1 q x hq hn' hqs hx hS h5 hf hC
    obtain ⟨n', rfl⟩ : ∃ k, n' = k + 1 := ⟨n' - 1, by omega⟩
    have hz := cnt_0.mp hq
    refine ⟨s, V, un1, ?_, hS, h5, hf, ?_⟩
    · rw [f_Sol_countLevel_128, b_Sol_countLevel_128, if_pos (show nI 0 ≤ (0 : Int32) by decide), b_Sol_countLevel_198, nI_1]
    · have e : (zsm R K Sx M d fun c => !q c) = zsm R K Sx M d fun _ => true := by
        unfold zsm
        exact smN_ext fun c hc => by simp [hz c hc]
      rw [e] at hC
      refine hC.g fun f _ => ?_
      constructor
      · rintro (z | ⟨c, z1, z2, z3, _⟩)
        · exact Or.inl z
        · exact Or.inr ⟨c, z1, z2, z3⟩
      · rintro (z | ⟨c, z1, z2, z3⟩)
        · exact Or.inl z
        · exact Or.inr ⟨c, z1, z2, z3, hz c z1⟩
  | succ m ihm =>
    intro n' s V un1 q x hq hn' hqs hx hS h5 hf hC
    obtain ⟨n', rfl⟩ : ∃ k, n' = k + 1 := ⟨n' - 1, by omega⟩
    obtain ⟨hS1, hS2, hS3, hS4⟩ := hS
    have hd' := isD_b hd
    have hm36 : m + 1 ≤ 36 := by have := cnt_neg q 36; omega
    rw [f_Sol_countLevel_128, b_Sol_countLevel_128, if_neg (show ¬ nI (m + 1) ≤ (0 : Int32) from nI_nle (n := m + 1) (by omega) (by omega)), ob_I hS1.1 (by omega) hC.1, bnd_s, ob_I hS1.1 (by omega) ((h5 4 (by omega) (by omega) (by omega)).trans hlim), bnd_s]
    by_cases w : lim ≤ min lim (a + (A + zsm R K Sx M d fun c => !q c))
    · rw [if_pos (show nI lim ≤ nI (min lim (a + (A + zsm R K Sx M d fun c => !q c))) from nI_le (by omega) (by omega)), b_Sol_countLevel_198, nI_1]
      refine ⟨s, V, un1, rfl, ⟨hS1, hS2, hS3, hS4⟩, h5, hf, ?_⟩
      have hcut := zsm_cut (R := R) (K := K) (S := Sx) (M := M) (d := d) q
      refine ⟨by rw [hC.1]; congr 2; omega, fun z c e hc he => ?_⟩
      have hz0 : zsm R K Sx M d q = 0 := by omega
      rw [hC.2 (by omega) c e hc he]
      have key : ∀ f, Sol R K f → ((G f ∨ ∃ c, c < 36 ∧ Sx c = true ∧ f c = d ∧ q c = false) ↔ (G f ∨ ∃ c, c < 36 ∧ Sx c = true ∧ f c = d)) := by
        intro f hs
        constructor
        · rintro (z | ⟨c, z1, z2, z3, _⟩)
          · exact Or.inl z
          · exact Or.inr ⟨c, z1, z2, z3⟩
        · rintro (z | ⟨c, z1, z2, z3⟩)
          · exact Or.inl z
          · refine Or.inr ⟨c, z1, z2, z3, ?_⟩
            cases hqc : q c
            · rfl
            · exfalso
              have hk := (hs.1 c z1).2
              rw [z3] at hk
              have := smN_0 (f := fun c => if isD d && M d && (Sx c && K c d) && q c then NS R (kpO K c d) else 0) hz0 c z1
              rw [hd, hM, z2, hk, hqc] at this
              exact NS_pos hR ((kpO_sol z1 f).mpr ⟨hs, z3⟩) this
      constructor
      · rintro (x | ⟨f, x1, x2, x3⟩)
        · exact Or.inl x
        · exact Or.inr ⟨f, x1, (key f x1).mp x2, x3⟩
      · rintro (x | ⟨f, x1, x2, x3⟩)
        · exact Or.inl x
        · exact Or.inr ⟨f, x1, (key f x1).mpr x2, x3⟩
    rw [if_neg (show ¬ nI lim ≤ nI (min lim (a + (A + zsm R K Sx M d fun c => !q c))) from nI_ge (by omega) (by omega)), (hS1.lv (show i + 1 < 38 by omega)).1, bnd_s, nI_1, (hS1.lv (show i + 1 < 38 by omega)).2, bnd_s]
    have hex : ∃ c, c < 36 ∧ q c = true := by
      apply Classical.byContradiction
      intro z
      have : cnt q 36 = 0 := cnt_0.mpr fun c hc => by
        cases hh : q c
        · rfl
        · exact absurd ⟨c, hc, hh⟩ z
      omega
    obtain ⟨j, hj, hjl⟩ := Lw.ex hex
    obtain ⟨hjS, hjK⟩ := hqs j hj hjl.1
    have hck : cK s (v + 10 + 2 * (i + 1)) 1 = some () := by obtain ⟨V9, sp, z, _⟩ := hS1.2.2.2.2.2.2.2 (i + 1) (by omega); exact ob_K z
    obtain ⟨h4, e4, HP4, F4⟩ := p_copyFrom hS2 (p := v + 10 + 2 * (i + 1)) (hS1.2.2.2.2.2.2.2 (i + 1) (by omega)) (by omega)
    have e4' : ∀ k, ¬ PS (v + 10 + 2 * (i + 1)) k → h4.2 k = s.2 k := F4.2
    simp only [PS] at e4'
    have lv4 : gR h4 v 7 1 = some (v + 5) ∧ aR h4 (v + 5) (nI (i + 1)) = some (v + 10 + 2 * (i + 1)) := by
      obtain ⟨c0, ⟨_, c1, _⟩, _, ⟨ff, c2, c3⟩, _⟩ := hS1
      exact ⟨ob_R ((e4' _ (by omega)).trans c0) (by omega) c1, ar_R ((e4' _ (by omega)).trans c2) (by omega) (by omega) (by omega) (c3 _ (by omega))⟩
    obtain ⟨rr, h6, T6, e6, HP6, ht6, F6, _⟩ := p_keepOnly HP4 hj hd (F := F) (by omega)
    have F46 : Fr (PS (v + 10 + 2 * (i + 1))) s h6 := F4.tr F6
    have H6 : SolSh h6 v V := by
      obtain ⟨c0, c1, c2, ⟨u1, c3, c4⟩, ⟨u2, c5⟩, c6, ⟨u3, c7, c8⟩, c9⟩ := hS1
      have e : ∀ k, ¬ PS (v + 10 + 2 * (i + 1)) k → h6.2 k = s.2 k := F46.2
      simp only [PS] at e
      refine ⟨(e _ (by omega)).trans c0, c1, c2.fr fun j hj => e _ (by omega), ⟨u1, (e _ (by omega)).trans c3, c4⟩, ⟨u2, (e _ (by omega)).trans c5⟩, c6.fr (e _ (by omega)) (e _ (by omega)), ⟨u3, (e _ (by omega)).trans c7, c8⟩, fun j hj => ?_⟩
      by_cases q : j = i + 1
      · subst q; exact HP6.sh
      · exact (c9 j hj).fr (e _ (by omega)) (e _ (by omega))
    have HR6 : RulAt h6 r R := hS4.fr F46 fun k hk z => by simp only [UR, PS] at hk z; omega
    have hSe6 : SEEN h6 v un1 := by
      obtain ⟨g, g1, g2⟩ := hS3
      have e : ∀ k, ¬ PS (v + 10 + 2 * (i + 1)) k → h6.2 k = s.2 k := F46.2
      simp only [PS] at e
      exact ⟨g, (e _ (by omega)).trans g1, g2⟩
    have hop := opn_lt hj hd hjK (h2 j hj hjS hjK)
    obtain ⟨h7, V7, un7, e7, H7, c57, S7, F7, C7⟩ := ih (kpO K j d) P (i + 1) h6 (min lim (a + (A + zsm R K Sx M d fun c => !q c))) un1 T6 S V rf ⟨H6, HP6, hSe6, HR6⟩ ((h5 4 (by omega) (by omega) (by omega)).trans hlim) hC.1 (by omega) (by obtain ⟨ar, har⟩ := har; exact ⟨ar, (h5 9 (by omega) (by omega) (by omega)).trans har⟩) (hI.tr hR ht6) (hp.sub kpO_sub) (by omega) (by omega) hrf
    rw [hck, bnd_s, e4, bnd_s, lv4.1, bnd_s, lv4.2, bnd_s, g_lowest hx hj hjl, bnd_s, HP4.ck, bnd_s, e6, bnd2_s, bnd_s, e7, bnd_s, pk_m1 m]
    have e7' : ∀ k, ¬ LG v (i + 1) k → h7.2 k = h6.2 k := F7.2
    have e46' : ∀ k, ¬ PS (v + 10 + 2 * (i + 1)) k → h6.2 k = s.2 k := F46.2
    simp only [LG] at e7'
    simp only [PS] at e46'
    have hcnt : cnt (fun c => q c && !decide (c = j)) 36 = m := by
      have h1 : cnt (fun c => q c && !decide (c = j)) 36 + cnt (fun c => decide (c = j)) 36 = cnt q 36 := by
        rw [← smN_cnt, ← smN_cnt, ← smN_cnt, ← smN_add]
        apply smN_ext
        intro c _
        by_cases z : c = j
        · subst z; simp [hjl.1]
        · simp [z]
      have h2 : cnt (fun c => decide (c = j)) 36 = 1 := cnt_1.mpr ⟨j, hj, by simp, fun e _ z => by simpa using z⟩
      omega
    have hcond : (isD d && M d && (Sx j && K j d)) = true := by rw [hd, hM, hjS, hjK]; rfl
    have hzs := zsm_add (R := R) (K := K) (S := Sx) (M := M) (d := d) (j := j) (q := q) hj hcond hjl.1
    refine ihm n' h7 V7 un7 (fun c => q c && !decide (c = j)) _ hcnt (by omega) (fun c hc z => hqs c hc (by rw [Bool.and_eq_true] at z; exact z.1)) (hx.dec hj hjl) ⟨H7, hS2.fr ((e7' _ (by omega)).trans (e46' _ (by omega))) ((e7' _ (by omega)).trans (e46' _ (by omega))), S7, HR6.fr F7 fun k hk z => by simp only [UR, LG] at hk z; omega⟩ (fun k h5' h10 h11 => (c57 k h5' h10 h11).trans (h5 k h5' h10 h11)) (hf.tr ((F46.mo fun k hk => by simp only [PS, LG] at hk ⊢; omega).tr (F7.mo (LG.mo (by omega))))) ⟨?_, fun z c e hc he => ?_⟩
    · rw [C7.1, hzs]
      congr 2
      omega
    · rw [hzs] at z
      have z1 := hC.2 (by omega) c e hc he
      have z2 := C7.2 (by omega) c e hc he
      rw [z2, z1]
      constructor
      · rintro ((y | ⟨f, y1, y2, y3⟩) | ⟨f, y1, _, y3⟩)
        · exact Or.inl y
        · refine Or.inr ⟨f, y1, ?_, y3⟩
          rcases y2 with y2 | ⟨b, b1, b2, b3, b4⟩
          · exact Or.inl y2
          · exact Or.inr ⟨b, b1, b2, b3, by rw [b4]; rfl⟩
        · obtain ⟨s1, s2⟩ := (kpO_sol hj f).mp y1
          exact Or.inr ⟨f, s1, Or.inr ⟨j, hj, hjS, s2, by simp⟩, y3⟩
      · rintro (y | ⟨f, y1, y2, y3⟩)
        · exact Or.inl (Or.inl y)
        · rcases y2 with y2 | ⟨b, b1, b2, b3, b4⟩
          · exact Or.inl (Or.inr ⟨f, y1, Or.inl y2, y3⟩)
          · by_cases hbj : b = j
            · subst hbj
              exact Or.inr ⟨f, (kpO_sol hj f).mpr ⟨y1, b3⟩, trivial, y3⟩
            · exact Or.inl (Or.inr ⟨f, y1, Or.inr ⟨b, b1, b2, b3, by simpa [hbj] using b4⟩, y3⟩)
