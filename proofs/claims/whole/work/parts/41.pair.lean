/-! The class's reasoner: pairs. -/
theorem sz_z1 : ∀ (n : Nat) (b : Bool), decide (n + b.toNat = 0) = (decide (n = 0) && !b) := by
  intro n b
  cases b <;> simp
theorem alk_sz {K : Nat → Nat → Bool} {a b : Nat} (h : sz (fun e => K a e && !K b e) = 0) (h2 : sz (K a) = sz (K b)) : alk K a b := by
  intro d hd
  have h0 := sz_0.mp h
  cases w : K a d
  · cases w2 : K b d
    · rfl
    · exfalso
      have := sz_lt (p := K a) (q := K b) (fun e he z => by
        have := h0 e he
        simpa [z] using this) hd w2 w
      omega
  · have := h0 d hd
    simpa [w] using this.symm
theorem Did.tr {h0 h h' : PH} {p q : Nat} {K : Nat → Nat → Bool} {T T1 S : Nat → Bool} {kd pl : Nat} {K' : Nat → Nat → Bool} {P' : Nat → Bool} (ht : TR T K T1 K) (hf : Fr (WS p q) h0 h) (d : Did h h' p q K T1 S kd pl K' P') : Did h0 h' p q K T S kd pl K' P' := by
  obtain ⟨T', V', rm, g1, g2, g3, g4, g5, g6, g7, g8, g9, g10⟩ := d
  exact ⟨T', V', rm, g1, ht.tr g2, g3, g4, g5, g6, g7, g8, g9, hf.tr g10⟩
theorem r_pairOf {h : PH} {p q : Nat} {V : Nat → Value} {K : Nat → Nat → Bool} {P T S : Nat → Bool} (H : PosAt h p K P T S) (e : h.2 q = obj 3 7 V) (e0 : V 0 = .ref (q + 1)) (hs : SvSh h q) (hpq : q + 4 ≤ p ∨ p + 2 ≤ q) {F : Nat} (hF : 40 ≤ F)
    {u a : Nat} (hu : u < 18) (ha : a < 36) (hau : inU u a = true) (ha2 : sz (K a) = 2) {x : Int64} {Bh : Nat → Bool} (hx : CS x Bh) (hB : ∀ c, c < 36 → (Bh c = true ↔ a < c ∧ inU u c = true ∧ sz (K c) = 2)) :
    (∃ h', (∀ b, ¬ a7 K u a b) ∧ f_Rea_splitPairOf F q p (nI u) (nI a) x h = some (0, h') ∧ Und h h' p q V K P T S) ∨
    ∃ b h', a7 K u a b ∧ (∀ b', b' < b → ¬ a7 K u a b') ∧ f_Rea_splitPairOf F q p (nI u) (nI a) x h = some (1, h') ∧ Did h h' p q K T S 7 u (k7 K u a b) P := by
  have H0 := H
  obtain ⟨W, sp, pl, to, st, b0, b1, b2, b3, b4, b5, b6, b7, b8, b9⟩ := H0
  obtain ⟨s, ⟨_, hsC⟩, h1⟩ := LC (fun n i s => f_Rea_splitPairOf_14 F n q p (nI u) (nI a) (nI (mkd (K a))) s (nI i) h) (fun i s => 1 ≤ i ∧ CS s fun c => Bh c && decide (sz (fun e => decide (e < i) && (K a e && !K c e)) = 0)) 7
    (fun n i s hi ⟨h1, hC⟩ => by
      have hd := isD_i h1 hi
      cases w : K a i
      · refine ⟨s &&& 68719476735, ⟨by omega, (hC.and CS.all).x fun c _ => ?_⟩, ?_⟩
        · rw [sz_os (fun e => K a e && !K c e) hd, sz_z1]
          simp [w]
        · show f_Rea_splitPairOf_14 F (n + 1) q p (nI u) (nI a) (nI (mkd (K a))) s (nI i) h = _
          rw [f_Rea_splitPairOf_14, b_Rea_splitPairOf_14, if_neg (show ¬ (6 : Int32) < nI i from nI_nlt (a := 6) (b := (i)) (by omega) (by omega)), if_pos ((mkd_bit _ hd).mpr w), b_Rea_splitPairOf_46, nI_1]
      · refine ⟨s &&& sp i, ⟨by omega, (hC.and (b6 i hd)).x fun c _ => ?_⟩, ?_⟩
        · rw [sz_os (fun e => K a e && !K c e) hd, sz_z1]
          simp [w, Bool.and_assoc]
        · show f_Rea_splitPairOf_14 F (n + 1) q p (nI u) (nI a) (nI (mkd (K a))) s (nI i) h = _
          rw [f_Rea_splitPairOf_14, b_Rea_splitPairOf_14, if_neg (show ¬ (6 : Int32) < nI i from nI_nlt (a := 6) (b := (i)) (by omega) (by omega)), if_neg (fun z => by rw [(mkd_bit _ hd).mp z] at w; cases w), ob_R b0 (by omega) b1, bnd_s, ar_L b5 (by omega) (by omega), bnd_s, b_Rea_splitPairOf_46, nI_1]) 6 1 x F rfl (by omega) ⟨by omega, hx.x fun c _ => by rw [sz_o1]; simp⟩
  obtain ⟨m, hm⟩ : ∃ m, F - 6 = m + 1 := ⟨F - 7, by omega⟩
  have hA : CS s fun c => Bh c && decide (sz (fun e => K a e && !K c e) = 0) := hsC.x fun c _ => by rw [sz_oe]
  have hA' : ∀ c, c < 36 → ((Bh c && decide (sz (fun e => K a e && !K c e) = 0)) = true ↔ a < c ∧ inU u c = true ∧ sz (K c) = 2 ∧ alk K a c) := by
    intro c hc
    rw [Bool.and_eq_true, hB c hc, decide_eq_true_iff]
    constructor
    · rintro ⟨⟨x1, x2, x3⟩, x4⟩
      exact ⟨x1, x2, x3, alk_sz x4 (by rw [ha2, x3])⟩
    · rintro ⟨x1, x2, x3, x4⟩
      exact ⟨⟨x1, x2, x3⟩, sz_0.mpr fun d hd => by rw [x4 d hd]; simp⟩
  have hE : f_Rea_splitPairOf F q p (nI u) (nI a) x h = f_Rea_splitPairOf_14 F (m + 1) q p (nI u) (nI a) (nI (mkd (K a))) s (nI 7) h := by
    unfold f_Rea_splitPairOf
    rw [H.ck, bnd_s, p_digitsOf H ha hF, bnd_s, ← hm]
    exact h1
  rw [hE, f_Rea_splitPairOf_14, b_Rea_splitPairOf_14, if_pos (show (6 : Int32) < nI 7 from nI_lt (a := 6) (b := 7) (by omega) (by omega))]
  by_cases w : ∃ c, c < 36 ∧ (Bh c && decide (sz (fun e => K a e && !K c e) = 0)) = true
  · obtain ⟨b, hb, hl⟩ := Lw.ex w
    obtain ⟨l1, l2, l3, l4⟩ := (hA' b hb).mp hl.1
    rw [if_neg fun z => Bool.noConfusion (hl.1.symm.trans (hA.lg0.mp z b hb)), bnd_s, g_unit hu, bnd_s, H.ck, bnd_s]
    obtain ⟨rm, h2, T2, g1, g2, g3, g4, g5⟩ := p_removeDigits H (K a) ((uVal_S hu).sub ((CS.one ha).or (hA.low hb hl))) hF
    rw [g1, bnd2_s]
    have hfirst : ∀ b', b' < b → ¬ a7 K u a b' := by
      rintro b' hb' ⟨x1, x2, x3, x4, x5, x6, _⟩
      have := (hA' b' x2).mpr ⟨x1, x4, by rw [← x5]; exact (sz_ext x6).symm, x6⟩
      exact Bool.noConfusion (this.symm.trans (hl.2 b' hb'))
    have eq2 : h2.2 q = obj 3 7 V := (g4.2 q (by simp only [PS]; omega)).trans e
    have hs2 : SvSh h2 q := hs.fr g4 (by simp only [PS]; omega)
    have F2 : Fr (WS p q) h h2 := g4.mo fun k hk => by simp only [PS, WS] at hk ⊢; omega
    have hrm : rm < 2 ^ 31 := by have := tot_le K; omega
    by_cases w3 : rm = 0
    · left
      have hK : ∀ c, c < 36 → ∀ d, isD d = true → K c d = (K c d && !(K a d && (inU u c && !(decide (c = a) || decide (c = b))))) := by
        intro c hc d hd
        cases x1 : K c d && !(K a d && (inU u c && !(decide (c = a) || decide (c = b))))
        · cases x2 : K c d
          · rfl
          · exfalso
            rw [w3, Nat.zero_add] at g5
            have : tot (fun c d => K c d && !(K a d && (inU u c && !(decide (c = a) || decide (c = b))))) < tot K :=
              smN_lt (fun i _ => sz_mono fun d _ z => by simp only [Bool.and_eq_true] at z; exact z.1) ⟨c, hc, sz_lt (fun d _ z => by simp only [Bool.and_eq_true] at z; exact z.1) hd x2 x1⟩
            omega
        · simp only [Bool.and_eq_true] at x1
          exact x1.1
      refine ⟨h2, fun b' => ?_, ?_, T2, g2.x (fun c hc d hd => (hK c hc d hd).symm) (fun _ _ => rfl) (fun _ _ => rfl) (fun _ _ => rfl), g3.x fun c hc d hd => (hK c hc d hd).symm, eq2, hs2, F2⟩
      · rintro ⟨x1, x2, x3, x4, x5, x6, c, d, y1, y2, y3, y4, y5, y6, y7⟩
        rcases Nat.lt_trichotomy b' b with z | z | z
        · exact hfirst b' z ⟨x1, x2, x3, x4, x5, x6, c, d, y1, y2, y3, y4, y5, y6, y7⟩
        · subst z
          have := hK c y1 d y5
          simp [y7, y6, y2, y3, y4] at this
        · obtain ⟨f, hf1, _⟩ := lod_x (p := K a) (by omega)
          have h9 := hK b' x2 (lod (K a)) f
          have : K b' (lod (K a)) = true := by rw [← x6 _ f]; exact hf1
          have n1 : b' ≠ a := by omega
          have n2 : b' ≠ b := by omega
          simp [this, hf1, x4, n1, n2] at h9
      · rw [w3, if_pos (show nI 0 ≤ (0 : Int32) by decide)]
    · right
      have hne : ∃ c d, c < 36 ∧ inU u c = true ∧ c ≠ a ∧ c ≠ b ∧ isD d = true ∧ K a d = true ∧ K c d = true := by
        apply Classical.byContradiction
        intro z
        have : tot (fun c d => K c d && !(K a d && (inU u c && !(decide (c = a) || decide (c = b))))) = tot K := tot_ext fun c hc d hd => by
          cases x1 : K c d
          · rfl
          · cases x2 : K a d && (inU u c && !(decide (c = a) || decide (c = b)))
            · rfl
            · simp only [Bool.and_eq_true, Bool.not_eq_true', Bool.or_eq_false_iff, decide_eq_false_iff_not] at x2
              exact absurd ⟨c, d, hc, x2.2.1, x2.2.2.1, x2.2.2.2, hd, x2.1, x1⟩ z
        omega
      obtain ⟨h3, V3, n1, n2, n3, n4, n5, n6, _, _, _, n7⟩ := r_note 7 (nI u) (nI rm) eq2
      refine ⟨b, h3, ⟨l1, hb, hau, l2, ha2, l4, hne⟩, hfirst, ?_, ⟨T2, V3, rm, g2.fr (n7.2 _ (by omega)) (n7.2 _ (by omega)), g3, n2, n3.trans e0, n4, n5, n6, g5, hs2.fr n7 (by omega), F2.tr (n7.mo fun k hk => ?_)⟩⟩
      · rw [if_neg (nI_nle (by omega) hrm), ob_K eq2, bnd_s, n1, bnd2_s]
        rfl
      · simp only [WS] at hk ⊢; omega
  · left
    rw [if_pos (hA.lg0.mpr fun c hc => by
      show (Bh c && decide (sz (fun e => K a e && !K c e) = 0)) = false
      cases z : Bh c && decide (sz (fun e => K a e && !K c e) = 0)
      · rfl
      · exact absurd ⟨c, hc, z⟩ w)]
    refine ⟨h, fun b => ?_, rfl, T, H, TR.rf _ _, e, hs, Fr.rf _ _⟩
    rintro ⟨x1, x2, x3, x4, x5, x6, _⟩
    exact w ⟨b, x2, (hA' b x2).mpr ⟨x1, x4, by rw [← x5]; exact (sz_ext x6).symm, x6⟩⟩
theorem r_pairU {h0 : PH} {p q : Nat} {V : Nat → Value} {K : Nat → Nat → Bool} {P T S : Nat → Bool} (e0 : V 0 = .ref (q + 1)) (hpq : q + 4 ≤ p ∨ p + 2 ≤ q) {F : Nat} (hF : 40 ≤ F) {u : Nat} (hu : u < 18) (tw : Int64) (kk : Nat → Nat → Int64 → Int32 → PH → Option (Int32 × PH)) :
    ∀ m n B Lf left h, m ≤ n → cnt Lf 36 = m → CS left Lf → (∀ c, c < 36 → (Lf c = true ↔ B ≤ c ∧ inU u c = true ∧ sz (K c) = 2)) → (∀ a b, a < B → ¬ a7 K u a b) → Und h0 h p q V K P T S →
      (∃ h', (∀ a b, ¬ a7 K u a b) ∧ f_Rea_splitPair_40 F kk (n + 1) q p tw (nI u) left (nI m) h = kk q p tw (nI (u + 1)) h' ∧ Und h0 h' p q V K P T S) ∨
      ∃ a b h', a7 K u a b ∧ (∀ a' b', a' < a → ¬ a7 K u a' b') ∧ (∀ b', b' < b → ¬ a7 K u a b') ∧ f_Rea_splitPair_40 F kk (n + 1) q p tw (nI u) left (nI m) h = some (1, h') ∧ Did h0 h' p q K T S 7 u (k7 K u a b) P := by
  intro m
  induction m with
  | zero =>
    intro n B Lf left h hn hc hL hLf hB hU
    left
    refine ⟨h, fun a b z => ?_, ?_, hU⟩
    · by_cases w : a < B
      · exact hB a b w z
      · have h1 := (hLf a (Nat.lt_trans z.1 z.2.1)).mpr ⟨by omega, z.2.2.1, z.2.2.2.2.1⟩
        have h2 := cnt_0.mp hc a (Nat.lt_trans z.1 z.2.1)
        rw [h1] at h2
        cases h2
    · rw [f_Rea_splitPair_40, b_Rea_splitPair_40, if_pos (show nI 0 ≤ (1 : Int32) by decide), nI_1]
  | succ m ih =>
    intro n B Lf left h hn hc hL hLf hB hU
    have hm36 : m + 1 ≤ 36 := by rw [← hc]; exact cnt_le _ _
    obtain ⟨a, ha, hl⟩ : ∃ j, j < 36 ∧ Lw Lf j := Lw.ex (Classical.byContradiction fun z => by
      have : cnt Lf 36 = 0 := cnt_0.mpr fun i hi => by
        cases w : Lf i
        · rfl
        · exact absurd ⟨i, hi, w⟩ z
      omega)
    obtain ⟨l1, l2, l3⟩ := (hLf a ha).mp hl.1
    have hBh : ∀ c, c < 36 → ((Lf c && !decide (c = a)) = true ↔ a < c ∧ inU u c = true ∧ sz (K c) = 2) := by
      intro c hc
      rw [Bool.and_eq_true, hLf c hc, Bool.not_eq_true', decide_eq_false_iff_not]
      constructor
      · rintro ⟨⟨x1, x2, x3⟩, x4⟩
        refine ⟨?_, x2, x3⟩
        rcases Nat.lt_trichotomy a c with z | z | z
        · exact z
        · exact absurd z.symm x4
        · have := hl.2 c z
          rw [(hLf c hc).mpr ⟨x1, x2, x3⟩] at this
          cases this
      · rintro ⟨x1, x2, x3⟩
        exact ⟨⟨by omega, x2, x3⟩, by omega⟩
    have hlow : ∀ a' b', a' < a → ¬ a7 K u a' b' := by
      intro a' b' h1 z
      by_cases w : a' < B
      · exact hB a' b' w z
      · have := hl.2 a' h1
        rw [(hLf a' (by omega)).mpr ⟨by omega, z.2.2.1, z.2.2.2.2.1⟩] at this
        cases this
    have hcm : cnt (fun c => Lf c && !decide (c = a)) 36 = m := by
      have h1 : cnt Lf 36 = cnt (fun c => decide (c = a)) 36 + cnt (fun c => Lf c && !decide (c = a)) 36 := by
        refine cnt_or (fun i _ => ?_) fun i _ z => ?_
        · by_cases w : i = a
          · subst w; simp [hl.1]
          · simp [w]
        · have := of_decide_eq_true z
          simp [this]
      have h2 : cnt (fun c => decide (c = a)) 36 = 1 := cnt_1.mpr ⟨a, ha, by simp, fun i _ z => of_decide_eq_true z⟩
      omega
    cases m with
    | zero =>
      left
      refine ⟨h, fun x y z => ?_, ?_, hU⟩
      · rcases Nat.lt_trichotomy x a with w | w | w
        · exact hlow x y w z
        · subst w
          have h1 := (hBh y z.2.1).mpr ⟨z.1, z.2.2.2.1, by rw [← z.2.2.2.2.1]; exact (sz_ext z.2.2.2.2.2.1).symm⟩
          have h2 : (Lf y && !decide (y = x)) = false := cnt_0.mp hcm y z.2.1
          rw [h1] at h2
          cases h2
        · have h1 := (hBh x (Nat.lt_trans z.1 z.2.1)).mpr ⟨w, z.2.2.1, z.2.2.2.2.1⟩
          have h2 : (Lf x && !decide (x = a)) = false := cnt_0.mp hcm x (Nat.lt_trans z.1 z.2.1)
          rw [h1] at h2
          cases h2
      · rw [f_Rea_splitPair_40, b_Rea_splitPair_40, if_pos (show nI (0 + 1) ≤ (1 : Int32) by decide), nI_1]
    | succ m =>
      obtain ⟨T1, u1, u2, u3, u4, u5⟩ := hU
      obtain ⟨n, rfl⟩ : ∃ k, n = k + 1 := ⟨n - 1, by omega⟩
      have hpo := r_pairOf u1 u3 e0 u4 hpq hF hu ha l2 l3 (hL.dec ha hl) hBh
      have hpre : f_Rea_splitPair_40 F kk (n + 1 + 1) q p tw (nI u) left (nI (m + 1 + 1)) h = bnd2 (f_Rea_splitPairOf F q p (nI u) (nI a) (left &&& (left - 1)) h) fun x4 h5 => (if x4 = (0 : Int32) then f_Rea_splitPair_40 F kk (n + 1) q p tw (nI u) (left &&& (left - 1)) (nI (m + 1)) h5 else some ((1 : Int32), h5)) := by
        rw [f_Rea_splitPair_40, b_Rea_splitPair_40, if_neg (show ¬ nI (m + 1 + 1) ≤ (1 : Int32) from nI_ge (a := 1) (b := (m + 1 + 1)) (by omega) (by omega)), g_lowest hL ha hl, bnd_s, bnd_s, ob_K u3, bnd_s]
        have e9 : nI (m + 1 + 1) + (-1 : Int32) = nI (m + 1) := pk_m1 _
        simp only [e9]
      rw [hpre]
      rcases hpo with ⟨h1, x1, x2, T2, x3, x4, x5, x6, x7⟩ | ⟨b, h1, x1, x2, x3, x4⟩
      · rw [x2, bnd2_s, if_pos rfl]
        exact ih n (a + 1) _ _ h1 (by omega) hcm (hL.dec ha hl) (fun c hc => by rw [hBh c hc]; exact ⟨fun ⟨z1, z2⟩ => ⟨by omega, z2⟩, fun ⟨z1, z2⟩ => ⟨by omega, z2⟩⟩) (fun a' b' h1 => by
          by_cases w : a' = a
          · subst w; exact x1 b'
          · exact hlow a' b' (by omega)) ⟨T2, x3, u2.tr x4, x5, x6, u5.tr x7⟩
      · right
        refine ⟨a, b, h1, x1, hlow, x2, ?_, Did.tr u2 u5 x4⟩
        rw [x3]
        rfl
theorem r_pair {h : PH} {p q : Nat} {V : Nat → Value} {K : Nat → Nat → Bool} {P T S : Nat → Bool} (H : PosAt h p K P T S) (e : h.2 q = obj 3 7 V) (e0 : V 0 = .ref (q + 1)) (hs : SvSh h q) (sv : Sv V K) (hpq : q + 4 ≤ p ∨ p + 2 ≤ q) {F : Nat} (hF : 40 ≤ F) :
    (∃ h', no7 K ∧ f_Rea_splitPair F q p h = some (0, h') ∧ Und h h' p q V K P T S) ∨ ∃ u K' h', f7 K u K' ∧ f_Rea_splitPair F q p h = some (1, h') ∧ Did h h' p q K T S 7 u K' P := by
  obtain ⟨so, se, ma, c1, c2, c3, d1, d2, d3⟩ := sv
  have htw := d2.sub d3
  have hstep : ∀ n u h1, u < 18 → Und h h1 p q V K P T S → (∃ h', (∀ a b, ¬ a7 K u a b) ∧ f_Rea_splitPair_17 F (n + 1) q p (se &&& (ma ^^^ (-1))) (nI u) h1 = f_Rea_splitPair_17 F n q p (se &&& (ma ^^^ (-1))) (nI (u + 1)) h' ∧ Und h h' p q V K P T S) ∨
      ∃ a b h', a7 K u a b ∧ (∀ a' b', a' < a → ¬ a7 K u a' b') ∧ (∀ b', b' < b → ¬ a7 K u a b') ∧ f_Rea_splitPair_17 F (n + 1) q p (se &&& (ma ^^^ (-1))) (nI u) h1 = some (1, h') ∧ Did h h' p q K T S 7 u (k7 K u a b) P := by
    intro n u h1 hu hU
    have hleft := (uVal_S hu).and htw
    obtain ⟨m, hm⟩ : ∃ m, F = m + 1 := ⟨F - 1, by omega⟩
    have := r_pairU (h0 := h) (P := P) (T := T) (S := S) e0 hpq hF hu (se &&& (ma ^^^ (-1))) (f_Rea_splitPair_17 F n) _ m 0 _ _ h1 (by have := cnt_le (fun c => inU u c && (decide (2 ≤ sz (K c)) && !decide (3 ≤ sz (K c)))) 36; omega) rfl hleft (fun c hc => by
      show (inU u c && (decide (2 ≤ sz (K c)) && !decide (3 ≤ sz (K c)))) = true ↔ _
      simp only [Bool.and_eq_true, decide_eq_true_eq, Bool.not_eq_true', decide_eq_false_iff_not]
      exact ⟨fun ⟨x1, x2, x3⟩ => ⟨by omega, x1, by omega⟩, fun ⟨x1, x2, x3⟩ => ⟨x2, by omega, by omega⟩⟩) (fun a b h => by omega) hU
    rw [f_Rea_splitPair_17, b_Rea_splitPair_17, if_neg (show ¬ (18 : Int32) ≤ nI u from nI_ge (a := (u)) (b := 18) (by omega) (by omega)), g_unit hu, bnd_s, hleft.cnt, bnd_s]
    rw [← hm] at this
    exact this
  obtain ⟨j, s, j1, j2, ⟨j3, j5⟩, j4, h1⟩ := LE (fun n i h1 => f_Rea_splitPair_17 F n q p (se &&& (ma ^^^ (-1))) (nI i) h1) (fun i h1 => (∀ u a b, u < i → ¬ a7 K u a b) ∧ Und h h1 p q V K P T S) (fun i _ => ∃ a b, a7 K i a b) 18
    (fun n i s hi ⟨h1, h2⟩ => by
      rcases hstep n i s hi h2 with ⟨h', g1, g2, g3⟩ | ⟨a, b, h', g1, _⟩
      · refine Or.inr ⟨h', ⟨fun u a b hu => ?_, g3⟩, g2⟩
        by_cases w : u = i
        · subst w; exact g1 a b
        · exact h1 u a b (by omega)
      · exact Or.inl ⟨a, b, g1⟩) 18 0 h F rfl (by omega) ⟨fun u a b hu => by omega, T, H, TR.rf _ _, e, hs, Fr.rf _ _⟩
  obtain ⟨m, hm⟩ : ∃ m, F - (j - 0) = m + 1 := ⟨F - j - 1, by omega⟩
  have hE : f_Rea_splitPair F q p h = f_Rea_splitPair_17 F (m + 1) q p (se &&& (ma ^^^ (-1))) (nI j) s := by
    unfold f_Rea_splitPair
    rw [ob_L e (by omega) c2, bnd_s, ob_L e (by omega) c3, bnd_s, bnd_s, ← hm]
    exact h1
  rw [hE]
  by_cases w : j < 18
  · right
    rcases hstep m j s w j5 with ⟨h', g1, _⟩ | ⟨a, b, h', g1, g2, g3, g4, g5⟩
    · obtain ⟨a, b, z⟩ := j4 w
      exact absurd z (g1 a b)
    · exact ⟨j, k7 K j a b, h', ⟨w, j3, a, b, g1, g2, g3, rfl⟩, g4, g5⟩
  · left
    refine ⟨s, fun u a b hu => j3 u a b (by omega), ?_, j5⟩
    rw [f_Rea_splitPair_17, b_Rea_splitPair_17, if_pos (show (18 : Int32) ≤ nI j from nI_le (a := 18) (b := (j)) (by omega) (by omega))]
