/-! The class's counting: where to branch, a solution noted. -/
theorem SolSh.up {h : PH} {v k : Nat} {V : Nat → Value} (H : SolSh h v V) (x : Value) (hk : 4 ≤ k ∧ k < 12 ∧ k ≠ 8) : pV h v 7 k x = some (hset h v (obj 7 12 (updV V k x))) ∧ SolSh (hset h v (obj 7 12 (updV V k x))) v (updV V k x) := by
  obtain ⟨b0, b1, b2, ⟨z1, b3, b4⟩, ⟨z2, b5⟩, b6, ⟨z3, b7, b8⟩, b9⟩ := H
  exact ⟨ob_P _ b0 hk.2.1, hset_s _ _ _, ⟨(vu_n _ _ (by omega)).trans b1.1, (vu_n _ _ (by omega)).trans b1.2.1, (vu_n _ _ (by omega)).trans b1.2.2.1, (vu_n _ _ (by omega)).trans b1.2.2.2.1, (vu_n _ _ (by omega)).trans b1.2.2.2.2⟩, b2.fr fun j hj => hset_n _ _ (by omega), ⟨z1, (hset_n _ _ (by omega)).trans b3, b4⟩, ⟨z2, (hset_n _ _ (by omega)).trans b5⟩, b6.fr (hset_n _ _ (by omega)) (hset_n _ _ (by omega)), ⟨z3, (hset_n _ _ (by omega)).trans b7, b8⟩, fun j hj => (b9 j hj).fr (hset_n _ _ (by omega)) (hset_n _ _ (by omega))⟩
theorem SolSh.r9 {h h' : PH} {v : Nat} {V : Nat → Value} (H : SolSh h v V) {g : Nat → Int64} (f : Fr (fun k => k = v + 9) h h') (e : h'.2 (v + 9) = oL 8 g) (g7 : g 7 = 0) : SolSh h' v V := by
  obtain ⟨a0, a1, a2, ⟨x1, a3, a4⟩, ⟨z1, a5⟩, a6, ⟨z2, a7, a8⟩, a9⟩ := H
  exact ⟨(f.2 _ (by omega)).trans a0, a1, a2.fr fun j hj => f.2 _ (by omega), ⟨x1, (f.2 _ (by omega)).trans a3, a4⟩, ⟨z1, (f.2 _ (by omega)).trans a5⟩, a6.fr (f.2 _ (by omega)) (f.2 _ (by omega)), ⟨g, e, g7⟩, fun j hj => (a9 j hj).fr (f.2 _ (by omega)) (f.2 _ (by omega))⟩
theorem s_rate {h : PH} {v : Nat} {V : Nat → Value} (H : SolSh h v V) {ar : Int64} (ha : V 9 = .long ar) (k : Nat) (x : Int64) : ∃ y, f_Sol_rate v (nI k) x h = some y ∧ (y = nI (2 * k) ∨ y = nI k) := by
  unfold f_Sol_rate
  rw [ob_L H.1 (by omega) ha, bnd_s]
  split
  · exact ⟨_, rfl, Or.inl (pk_mul 2 k)⟩
  · exact ⟨_, rfl, Or.inr rfl⟩
/-- a good branch -/
def BrG (R : RT) (K : Nat → Nat → Bool) (V : Nat → Value) : Prop := ∃ x S M, V 10 = .long x ∧ CS x S ∧ V 11 = .int (nI (mkd M)) ∧ Bra R K S M ∧ ∀ c, c < 36 → S c = true → ∀ d, isD d = true → M d = true → K c d = true → 2 ≤ sz (K c)
theorem BrG.x {R : RT} {K : Nat → Nat → Bool} {V V' : Nat → Value} (H : BrG R K V) (e : V' 10 = V 10) (e' : V' 11 = V 11) : BrG R K V' := by
  obtain ⟨x, S, M, a, b, c, d⟩ := H
  exact ⟨x, S, M, e.trans a, b, e'.trans c, d⟩
theorem s_chcell {h : PH} {v p : Nat} {V : Nat → Value} {R : RT} {K : Nat → Nat → Bool} {P T S : Nat → Bool} (H : SolSh h v V) {ar : Int64} (ha : V 9 = .long ar) (HP : PosAt h p K P T S) (hp : p ≠ v ∧ p + 1 ≠ v ∧ p ≠ v + 9 ∧ p + 1 ≠ v + 9) (hf : ∃ c, c < 36 ∧ 2 ≤ sz (K c)) {F : Nat} (hF : 40 ≤ F) :
    ∃ y h' V', f_Sol_chooseCell F v p h = some (y, h') ∧ SolSh h' v V' ∧ (∀ k, k ≠ 10 → k ≠ 11 → V' k = V k) ∧ BrG R K V' ∧ Fr (fun k => k = v ∨ k = v + 9) h h' := by
  obtain ⟨h1, g, e1, x1, x2, x3, x4⟩ := s_rank H HP (by omega) hF
  have H1 := H.r9 x4 x1 x2
  have hr : f_Sol_rate v (7 : Int32) (0 : Int64) h1 = some (nI 14) := by
    unfold f_Sol_rate
    rw [ob_L H1.1 (by omega) ha, bnd_s, if_pos (lgc.mpr (t_ext fun i hi => by rw [t_and, t_0]; simp))]
    rfl
  obtain ⟨⟨y, s⟩, ⟨j0, V1, i1, i2, i3, i4, i5⟩, h2⟩ := LC (fun n i (s : Int32 × PH) => f_Sol_chooseCell_15 F n v s.1 (nI i) s.2)
    (fun i s => 2 ≤ i ∧ ∃ V', SolSh s.2 v V' ∧ (∀ k, k ≠ 10 → k ≠ 11 → V' k = V k) ∧ Fr (fun k => k = v) h1 s.2 ∧ s.2.2 (v + 9) = oL 8 g ∧ ((s.1 = nI 14 ∧ ∀ c, c < 36 → 2 ≤ sz (K c) → i ≤ sz (K c)) ∨ BrG R K V')) 7
    (fun n i s hi ⟨j0, V', i1, i2, i3, i4, i5⟩ => by
      have hC := rk_k x2 x3 (k := i) (by omega) hi
      have r8 : gR s.2 v 7 8 = some (v + 9) := ob_R i1.1 (by omega) i1.2.1.2.2.2.2
      have ha' : V' 9 = .long ar := (i2 9 (by omega) (by omega)).trans ha
      obtain ⟨y, q1, q2⟩ := s_rate i1 ha' i ((g i &&& (g (i + 1) ^^^ (-1 : Int64))) &&& ar)
      have hC2 : CS ((g i &&& (g (i + 1) ^^^ (-1 : Int64))) &&& ar) fun c => decide (sz (K c) = i) && tb ar c := fun c hc => by
        rw [t_and, hC c hc, Bool.and_assoc]
      show ∃ s', _ ∧ f_Sol_chooseCell_15 F (n + 1) v s.1 (nI i) s.2 = _
      rw [f_Sol_chooseCell_15, b_Sol_chooseCell_15, if_neg (show ¬ (6 : Int32) < nI i from nI_nlt (a := 6) (b := (i)) (by omega) (by omega)), r8, bnd_s, ar_L i4 (by omega) (by omega), bnd_s, bnd_s, nI_1, ar_L i4 (by omega) (by omega), bnd_s, bnd_s, ob_L i1.1 (by omega) ha', bnd_s, i1.ck, bnd_s, q1, bnd_s]
      have h99 : ∀ (f : Nat → Bool) (x : Int64), CS x f → (∀ c, c < 36 → f c = true → sz (K c) = i) → (∃ c, c < 36 ∧ f c = true) → ∃ s' : Int32 × PH, (2 ≤ i + 1 ∧ ∃ V', SolSh s'.2 v V' ∧ (∀ k, k ≠ 10 → k ≠ 11 → V' k = V k) ∧ Fr (fun k => k = v) h1 s'.2 ∧ s'.2.2 (v + 9) = oL 8 g ∧ ((s'.1 = nI 14 ∧ ∀ c, c < 36 → 2 ≤ sz (K c) → i + 1 ≤ sz (K c)) ∨ BrG R K V')) ∧ b_Sol_chooseCell_99 F (f_Sol_chooseCell_15 F n) v y (nI i) (x &&& -x) v s.2 = f_Sol_chooseCell_15 F n v s'.1 (nI (i + 1)) s'.2 := by
        intro f x hx hs hex
        obtain ⟨c, hc, hl⟩ := Lw.ex hex
        obtain ⟨p1, p2⟩ := i1.up (.long (x &&& -x)) (k := 10) (by omega)
        obtain ⟨p3, p4⟩ := p2.up (.int (126 : Int32)) (k := 11) (by omega)
        refine ⟨(y, hset (hset s.2 v (obj 7 12 (updV V' 10 (.long (x &&& -x))))) v (obj 7 12 (updV (updV V' 10 (.long (x &&& -x))) 11 (.int 126)))), ⟨by omega, _, p4, fun k h10 h11 => (vu_n _ _ h11).trans ((vu_n _ _ h10).trans (i2 k h10 h11)), (i3.sq _).sq _, (hset_n _ _ (by omega)).trans ((hset_n _ _ (by omega)).trans i4), Or.inr ⟨x &&& -x, fun e => decide (e = c), fun _ => true, (vu_n _ _ (by omega)).trans (vu_s _ _ _), hx.low hc hl, vu_s _ _ _, bra_cell hc, fun e he he2 d _ _ _ => ?_⟩⟩, ?_⟩
        · have : e = c := by simpa using he2
          subst this
          have := hs e hc hl.1
          omega
        · rw [b_Sol_chooseCell_99, p1, bnd_s, p3, bnd_s, b_Sol_chooseCell_108, nI_1]
      by_cases w1 : lg_cmp (g i &&& (g (i + 1) ^^^ (-1 : Int64))) 0 = 0
      · rw [if_pos w1]
        refine ⟨s, ⟨by omega, V', i1, i2, i3, i4, ?_⟩, by rw [b_Sol_chooseCell_108, nI_1]⟩
        rcases i5 with ⟨z1, z2⟩ | z
        · refine Or.inl ⟨z1, fun c hc h2 => ?_⟩
          have := z2 c hc h2
          have := of_decide_eq_false (hC.lg0.mp w1 c hc)
          omega
        · exact Or.inr z
      · rw [if_neg w1]
        by_cases w2 : s.1 ≤ y
        · rw [if_pos w2]
          refine ⟨s, ⟨by omega, V', i1, i2, i3, i4, ?_⟩, by rw [b_Sol_chooseCell_108, nI_1]⟩
          rcases i5 with ⟨z1, z2⟩ | z
          · exfalso
            rw [z1] at w2
            rcases q2 with q2 | q2
            · rw [q2] at w2
              exact nI_ge (a := 2 * i) (b := 14) (by omega) (by omega) w2
            · rw [q2] at w2
              exact nI_ge (a := i) (b := 14) (by omega) (by omega) w2
          · exact Or.inr z
        · rw [if_neg w2]
          by_cases w3 : lg_cmp ((g i &&& (g (i + 1) ^^^ (-1 : Int64))) &&& ar) 0 = 0
          · rw [if_pos w3]
            refine h99 _ _ hC (fun c _ z => of_decide_eq_true z) ?_
            apply Classical.byContradiction
            intro z
            apply w1
            exact hC.lg0.mpr fun c hc => by
              cases q : decide (sz (K c) = i)
              · rfl
              · exact absurd ⟨c, hc, q⟩ z
          · rw [if_neg w3]
            refine h99 _ _ hC2 (fun c _ z => by rw [Bool.and_eq_true] at z; exact of_decide_eq_true z.1) ?_
            apply Classical.byContradiction
            intro z
            apply w3
            exact hC2.lg0.mpr fun c hc => by
              cases q : (decide (sz (K c) = i) && tb ar c)
              · rfl
              · exact absurd ⟨c, hc, q⟩ z) 5 2 (nI 14, h1) F rfl (by omega) ⟨Nat.le_refl 2, V, H1, fun _ _ _ => rfl, Fr.rf _ _, x1, Or.inl ⟨rfl, fun c _ z => z⟩⟩
  obtain ⟨m, hm⟩ : ∃ m, F - 5 = m + 1 := ⟨F - 6, by omega⟩
  refine ⟨y, s, V1, ?_, i1, i2, ?_, (x4.mo fun k hk => Or.inr hk).tr (i3.mo fun k hk => Or.inl hk)⟩
  · unfold f_Sol_chooseCell
    rw [H.ck, bnd_s, e1, bnd_s, H1.ck, bnd_s, hr, bnd_s]
    refine Eq.trans h2 ?_
    show f_Sol_chooseCell_15 F (F - 5) v y (nI 7) s = _
    rw [hm, f_Sol_chooseCell_15, b_Sol_chooseCell_15, if_pos (show (6 : Int32) < nI 7 from nI_lt (a := 6) (b := 7) (by omega) (by omega))]
  · rcases i5 with ⟨_, z⟩ | z
    · obtain ⟨c, hc, h2⟩ := hf
      have := z c hc h2
      have := sz_le (K c)
      omega
    · exact z
theorem s_branch {h : PH} {v p : Nat} {V : Nat → Value} {R : RT} {K : Nat → Nat → Bool} {P T S : Nat → Bool} (H : SolSh h v V) {ar : Int64} (ha : V 9 = .long ar) (HP : PosAt h p K P T S) (hp : p ≠ v ∧ p + 1 ≠ v ∧ p ≠ v + 9 ∧ p + 1 ≠ v + 9) (hf : ∃ c, c < 36 ∧ 2 ≤ sz (K c)) (hPI : PI K P) (hn : no1 K P) {F : Nat} (hF : 40 ≤ F) :
    ∃ h' V', SolSh h' v V' ∧ (∀ k, k ≠ 10 → k ≠ 11 → V' k = V k) ∧ Fr (fun k => k = v ∨ k = v + 9) h h' ∧ ((f_Sol_chooseBranch F v p h = some (0, h') ∧ NS R K = 0) ∨ (f_Sol_chooseBranch F v p h = some (1, h') ∧ BrG R K V')) := by
  obtain ⟨y1, h1, V1, e1, H1, hV1, B1, F1⟩ := s_chcell (R := R) H ha HP hp hf hF
  have HP1 : PosAt h1 p K P T S := HP.fr (F1.2 _ (by omega)) (F1.2 _ (by omega))
  obtain ⟨W, sp, pl, to, st, c0, c1, c2, c3, c4, c5, c6, _⟩ := HP1
  have hun : ∀ n u s y V', u < 18 → SolSh s v V' → (∀ k, k ≠ 10 → k ≠ 11 → V' k = V k) → BrG R K V' → Fr (fun k => k = v) h1 s →
      (∃ s' V2 y2, f_Sol_chooseBranch_8 F (n + 1) v p y (nI u) s = f_Sol_chooseBranch_8 F n v p y2 (nI (u + 1)) s' ∧ SolSh s' v V2 ∧ (∀ k, k ≠ 10 → k ≠ 11 → V2 k = V k) ∧ BrG R K V2 ∧ Fr (fun k => k = v) h1 s') ∨
      ∃ s' V2, f_Sol_chooseBranch_8 F (n + 1) v p y (nI u) s = some (0, s') ∧ SolSh s' v V2 ∧ (∀ k, k ≠ 10 → k ≠ 11 → V2 k = V k) ∧ Fr (fun k => k = v) h1 s' ∧ NS R K = 0 := by
    intro n u s y V' hu i1 i2 i3 i4
    rw [f_Sol_chooseBranch_8, b_Sol_chooseBranch_8, if_neg (show ¬ (18 : Int32) ≤ nI u from nI_ge (a := (u)) (b := 18) (by omega) (by omega))]
    obtain ⟨j, ⟨y2, s2⟩, j1, j2, ⟨j0, V2, k1, k2, k3, k4⟩, j4, e2⟩ := LE (fun n' d (s : Int32 × PH) => f_Sol_chooseBranch_17 F (f_Sol_chooseBranch_8 F n) n' v p s.1 (nI u) (nI d) s.2) (fun d s => 1 ≤ d ∧ ∃ V', SolSh s.2 v V' ∧ (∀ k, k ≠ 10 → k ≠ 11 → V' k = V k) ∧ BrG R K V' ∧ Fr (fun k => k = v) h1 s.2) (fun d _ => ∀ c, c < 36 → (K c d && inU u c) = false) 7
      (fun n' d s hd ⟨j0, V', i1, i2, i3, i4⟩ => by
        have hD := isD_i j0 hd
        have hy := (c6 d hD).and (uVal_S hu)
        by_cases w : ∀ c, c < 36 → (K c d && inU u c) = false
        · exact Or.inl w
        right
        have ha' : V' 9 = .long ar := (i2 9 (by omega) (by omega)).trans ha
        obtain ⟨yy, q1, q2⟩ := s_rate i1 ha' (cnt (fun c => K c d && inU u c) 36) (sp d &&& uVal u)
        show ∃ s', _ ∧ f_Sol_chooseBranch_17 F (f_Sol_chooseBranch_8 F n) (n' + 1) v p s.1 (nI u) (nI d) s.2 = _
        rw [f_Sol_chooseBranch_17, b_Sol_chooseBranch_17, if_neg (show ¬ (6 : Int32) < nI d from nI_nlt (a := 6) (b := (d)) (by omega) (by omega)), ob_R ((i4.2 p (by omega)).trans c0) (by omega) c1, bnd_s, ar_L ((i4.2 (p + 1) (by omega)).trans c5) (by omega) (by omega), bnd_s, g_unit hu, bnd_s, if_neg (fun z => w (hy.lg0.mp z)), hy.cnt, bnd_s, i1.ck, bnd_s, q1, bnd_s]
        by_cases w2 : s.1 ≤ yy
        · rw [if_pos w2]
          exact ⟨s, ⟨by omega, V', i1, i2, i3, i4⟩, by rw [b_Sol_chooseBranch_91, nI_1]⟩
        rw [if_neg w2, g_isOne hy, bnd_s]
        by_cases w3 : cnt (fun c => K c d && inU u c) 36 = 1
        · rw [if_pos w3, if_neg (by decide)]
          exact ⟨s, ⟨by omega, V', i1, i2, i3, i4⟩, by rw [b_Sol_chooseBranch_91, nI_1]⟩
        rw [if_neg w3, if_pos rfl]
        obtain ⟨p1, p2⟩ := i1.up (.long (sp d &&& uVal u)) (k := 10) (by omega)
        obtain ⟨p3, p4⟩ := p2.up (.int (nI (mkd fun e => decide (e = d)))) (k := 11) (by omega)
        refine ⟨(yy, hset (hset s.2 v (obj 7 12 (updV V' 10 (.long (sp d &&& uVal u))))) v (obj 7 12 (updV (updV V' 10 (.long (sp d &&& uVal u))) 11 (.int (nI (mkd fun e => decide (e = d))))))), ⟨by omega, _, p4, fun k h10 h11 => (vu_n _ _ h11).trans ((vu_n _ _ h10).trans (i2 k h10 h11)), ⟨sp d &&& uVal u, _, _, (vu_n _ _ (by omega)).trans (vu_s _ _ _), hy, vu_s _ _ _, bra_unit hu hD, fun c hc hs e he hm hk => ?_⟩, (i4.sq _).sq _⟩, ?_⟩
        · have : e = d := by simpa using hm
          subst this
          have hs' : K c e = true ∧ inU u c = true := by simpa using hs
          apply Classical.byContradiction
          intro z
          have hz : sz (K c) ≠ 0 := sz_of he hk
          have h1 : sz (K c) = 1 := by omega
          cases hPc : P c
          · exact hn c hc ⟨hPc, h1⟩
          · have hpr := (hPI c hc hPc).2
            apply w3
            rw [cnt_1]
            refine ⟨c, hc, hs, fun a ha2 hs2 => ?_⟩
            apply Classical.byContradiction
            intro hne
            have hs2' : K a e = true ∧ inU u a = true := by simpa using hs2
            have := hpr a ha2 (upr_in hu hc ha2 hs'.2 hs2'.2 (fun z => hne z.symm)) e he hk
            rw [hs2'.1] at this
            cases this
        · rw [p1, bnd_s, mkd_1 hD, p3, bnd_s, b_Sol_chooseBranch_91, nI_1]) 6 1 (y, s) F rfl (by omega) ⟨Nat.le_refl 1, V', i1, i2, i3, i4⟩
    obtain ⟨m, hm⟩ : ∃ m, F - (j - 1) = m + 1 := ⟨F - (j - 1) - 1, by omega⟩
    have hE : f_Sol_chooseBranch_17 F (f_Sol_chooseBranch_8 F n) F v p y (nI u) 1 s = f_Sol_chooseBranch_17 F (f_Sol_chooseBranch_8 F n) (m + 1) v p y2 (nI u) (nI j) s2 := by
      rw [← hm]
      exact e2
    rw [hE, f_Sol_chooseBranch_17, b_Sol_chooseBranch_17]
    by_cases q : j < 7
    · right
      have hD := isD_i j0 q
      have hy := (c6 j hD).and (uVal_S hu)
      refine ⟨s2, V2, ?_, k1, k2, k4, NS_0 fun f hf => ?_⟩
      · rw [if_neg (show ¬ (6 : Int32) < nI j from nI_nlt (a := 6) (b := (j)) (by omega) (by omega)), ob_R ((k4.2 p (by omega)).trans c0) (by omega) c1, bnd_s, ar_L ((k4.2 (p + 1) (by omega)).trans c5) (by omega) (by omega), bnd_s, g_unit hu, bnd_s, if_pos (hy.lg0.mpr (j4 q))]
      · obtain ⟨c, hc, z1, z2⟩ := hf.has hu hD
        have z3 := (hf.1 c hc).2
        have := j4 q c hc
        rw [z2] at z3
        simp [z1, z3] at this
    · left
      refine ⟨s2, V2, y2, ?_, k1, k2, k3, k4⟩
      rw [if_pos (show (6 : Int32) < nI j from nI_lt (a := 6) (b := (j)) (by omega) (by omega)), nI_1]
  have hall : ∀ m u n s y V', u + m = 18 → m + 1 ≤ n → SolSh s v V' → (∀ k, k ≠ 10 → k ≠ 11 → V' k = V k) → BrG R K V' → Fr (fun k => k = v) h1 s →
      ∃ s' V2, SolSh s' v V2 ∧ (∀ k, k ≠ 10 → k ≠ 11 → V2 k = V k) ∧ Fr (fun k => k = v) h1 s' ∧ ((f_Sol_chooseBranch_8 F n v p y (nI u) s = some (0, s') ∧ NS R K = 0) ∨ (f_Sol_chooseBranch_8 F n v p y (nI u) s = some (1, s') ∧ BrG R K V2)) := by
    intro m
    induction m with
    | zero =>
      intro u n s y V' h1 h2 i1 i2 i3 i4
      obtain ⟨n, rfl⟩ : ∃ k, n = k + 1 := ⟨n - 1, by omega⟩
      refine ⟨s, V', i1, i2, i4, Or.inr ⟨?_, i3⟩⟩
      rw [f_Sol_chooseBranch_8, b_Sol_chooseBranch_8, if_pos (show (18 : Int32) ≤ nI u from nI_le (a := 18) (b := (u)) (by omega) (by omega))]
    | succ m ih =>
      intro u n s y V' h1 h2 i1 i2 i3 i4
      obtain ⟨n, rfl⟩ : ∃ k, n = k + 1 := ⟨n - 1, by omega⟩
      rcases hun n u s y V' (by omega) i1 i2 i3 i4 with ⟨s', V2, y2, z1, z2, z3, z4, z5⟩ | ⟨s', V2, z1, z2, z3, z4, z5⟩
      · obtain ⟨s3, V3, t1, t2, t3, t4⟩ := ih (u + 1) n s' y2 V2 (by omega) (by omega) z2 z3 z4 z5
        rw [z1]
        exact ⟨s3, V3, t1, t2, t3, t4⟩
      · exact ⟨s', V2, z2, z3, z4, Or.inl ⟨z1, z5⟩⟩
  obtain ⟨s', V2, t1, t2, t3, t4⟩ := hall 18 0 F h1 y1 V1 rfl (by omega) H1 hV1 B1 (Fr.rf _ _)
  refine ⟨s', V2, t1, t2, F1.tr (t3.mo fun k hk => Or.inl hk), ?_⟩
  unfold f_Sol_chooseBranch
  rw [H.ck, bnd_s, e1, bnd2_s]
  exact t4
/-- the digits seen -/
def SEEN (h : PH) (v : Nat) (un : Nat → Nat → Bool) : Prop := ∃ g, h.2 (v + 6) = oL 7 g ∧ ∀ d, isD d = true → CS (g d) fun c => un c d
theorem s_note {h : PH} {v p : Nat} {V : Nat → Value} {K : Nat → Nat → Bool} {P T S : Nat → Bool} {un : Nat → Nat → Bool} {a : Nat} (H : SolSh h v V) (ha : V 5 = .int (nI a)) (HP : PosAt h p K P T S) (hs : SEEN h v un) (hp : p ≠ v ∧ p + 1 ≠ v ∧ p ≠ v + 6 ∧ p + 1 ≠ v + 6) {F : Nat} (hF : 40 ≤ F) :
    ∃ h', f_Sol_noteSolution F v p h = some h' ∧ SolSh h' v (updV V 5 (.int (nI (a + 1)))) ∧ SEEN h' v (fun c d => un c d || K c d) ∧ Fr (fun k => k = v ∨ k = v + 6) h h' := by
  obtain ⟨p1, p2⟩ := H.up (.int (nI (a + 1))) (k := 5) (by omega)
  obtain ⟨g, g1, g2⟩ := hs
  obtain ⟨W, sp, pl, to, st, c0, c1, c2, c3, c4, c5, c6, _⟩ := HP
  have F1 : Fr (fun k => k = v) h (hset h v (obj 7 12 (updV V 5 (.int (nI (a + 1)))))) := (Fr.rf _ _).sq _
  generalize hset h v (obj 7 12 (updV V 5 (.int (nI (a + 1))))) = h1 at p1 p2 F1
  obtain ⟨s, ⟨i0, g', i1, i2, i3⟩, e1⟩ := LC (fun n i s => f_Sol_noteSolution_12 F n v p (nI i) s) (fun i s => 1 ≤ i ∧ ∃ g', s.2 (v + 6) = oL 7 g' ∧ Fr (fun k => k = v + 6) h1 s ∧ ∀ d, isD d = true → CS (g' d) fun c => un c d || (decide (d < i) && K c d)) 7
    (fun n i s hi ⟨i0, g', i1, i2, i3⟩ => by
      have hD := isD_i i0 hi
      have e2 : gR s v 7 2 = some (v + 6) := ob_R ((i2.2 v (by omega)).trans p2.1) (by omega) p2.2.1.2.2.1
      have ep : s.2 p = obj 1 4 W := ((i2.2 p (by omega)).trans (F1.2 p (by omega))).trans c0
      have ep1 : s.2 (p + 1) = oL 7 sp := ((i2.2 _ (by omega)).trans (F1.2 _ (by omega))).trans c5
      refine ⟨hset s (v + 6) (oL 7 (vp_updL g' i (g' i ||| sp i))), ⟨by omega, _, hset_s _ _ _, i2.sq _, fun d hd => ?_⟩, ?_⟩
      · by_cases q : d = i
        · subst q
          rw [pk_uLs]
          refine ((i3 d hd).or (c6 d hd)).x fun c _ => ?_
          simp
        · rw [pk_uLn q]
          refine (i3 d hd).x fun c _ => ?_
          rw [dlt_ne q]
      · show f_Sol_noteSolution_12 F (n + 1) v p (nI i) s = _
        rw [f_Sol_noteSolution_12, b_Sol_noteSolution_12, if_neg (show ¬ (6 : Int32) < nI i from nI_nlt (a := 6) (b := (i)) (by omega) (by omega)), e2, bnd_s, ar_L i1 (by omega) (by omega), bnd_s, ob_R ep (by omega) c1, bnd_s, ar_L ep1 (by omega) (by omega), bnd_s, ar_sL _ i1 (by omega) (by omega), bnd_s, nI_1]) 6 1 h1 F rfl (by omega) ⟨Nat.le_refl 1, g, (F1.2 _ (by omega)).trans g1, Fr.rf _ _, fun d hd => (g2 d hd).x fun c _ => by have := isD_b hd; rw [decide_eq_false (show ¬ d < 1 by omega)]; simp⟩
  obtain ⟨m, hm⟩ : ∃ m, F - 6 = m + 1 := ⟨F - 7, by omega⟩
  refine ⟨s, ?_, ?_, ⟨g', i1, fun d hd => (i3 d hd).x fun c _ => by have := isD_b hd; rw [decide_eq_true (show d < 7 by omega)]; simp⟩, (F1.mo fun k hk => Or.inl hk).tr (i2.mo fun k hk => Or.inr hk)⟩
  · unfold f_Sol_noteSolution
    rw [ob_I H.1 (by omega) ha, bnd_s, nI_1, p1, bnd_s]
    refine Eq.trans e1 ?_
    show f_Sol_noteSolution_12 F (F - 6) v p (nI 7) s = _
    rw [hm, f_Sol_noteSolution_12, b_Sol_noteSolution_12, if_pos (show (6 : Int32) < nI 7 from nI_lt (a := 6) (b := 7) (by omega) (by omega))]
  · obtain ⟨a0, a1, a2, ⟨x1, a3, a4⟩, ⟨z1, a5⟩, a6, ⟨z2, a7, a8⟩, a9⟩ := p2
    exact ⟨(i2.2 _ (by omega)).trans a0, a1, a2.fr fun j hj => i2.2 _ (by omega), ⟨x1, (i2.2 _ (by omega)).trans a3, a4⟩, ⟨_, i1⟩, a6.fr (i2.2 _ (by omega)) (i2.2 _ (by omega)), ⟨z2, (i2.2 _ (by omega)).trans a7, a8⟩, fun j hj => (a9 j hj).fr (i2.2 _ (by omega)) (i2.2 _ (by omega))⟩
