/-! The class's positions. -/
def PosAt (h : PH) (p : Nat) (K : Nat → Nat → Bool) (P T S : Nat → Bool) : Prop :=
  ∃ V sp pl to st, h.2 p = obj 1 4 V ∧ V 0 = .ref (p + 1) ∧ V 1 = .long pl ∧ V 2 = .long to ∧ V 3 = .int st ∧ h.2 (p + 1) = oL 7 sp ∧
    (∀ d, isD d = true → CS (sp d) (fun c => K c d)) ∧ CS pl P ∧ CS to T ∧ ∀ i, i < 32 → bt st i = (decide (i < 8) && S i)
theorem PosAt.fr {h h' : PH} {p : Nat} {K : Nat → Nat → Bool} {P T S : Nat → Bool} (H : PosAt h p K P T S) (e0 : h'.2 p = h.2 p) (e1 : h'.2 (p + 1) = h.2 (p + 1)) : PosAt h' p K P T S := by
  obtain ⟨V, sp, pl, to, st, a0, r⟩ := H
  exact ⟨V, sp, pl, to, st, e0.trans a0, r.1, r.2.1, r.2.2.1, r.2.2.2.1, e1.trans r.2.2.2.2.1, r.2.2.2.2.2⟩
theorem PosAt.x {h : PH} {p : Nat} {K K' : Nat → Nat → Bool} {P T S P' T' S' : Nat → Bool} (H : PosAt h p K P T S) (eK : ∀ c, c < 36 → ∀ d, isD d = true → K c d = K' c d) (eP : ∀ c, c < 36 → P c = P' c) (eT : ∀ c, c < 36 → T c = T' c) (eS : ∀ c, c < 8 → S c = S' c) : PosAt h p K' P' T' S' := by
  obtain ⟨V, sp, pl, to, st, a0, a1, a2, a3, a4, a5, a6, a7, a8, a9⟩ := H
  refine ⟨V, sp, pl, to, st, a0, a1, a2, a3, a4, a5, fun d hd => (a6 d hd).x fun c hc => eK c hc d hd, a7.x eP, a8.x eT, fun i hi => ?_⟩
  rw [a9 i hi]
  by_cases q : i < 8
  · rw [eS i q]
  · simp [q]
theorem PosAt.ck {h : PH} {p : Nat} {K : Nat → Nat → Bool} {P T S : Nat → Bool} (H : PosAt h p K P T S) : cK h p 1 = some () := by
  obtain ⟨V, sp, pl, to, st, a0, a1, a2, a3, a4, a5, a6, a7, a8, a9⟩ := H
  exact ob_K a0
theorem mkd_o1 (p : Nat → Bool) : mkd (fun e => decide (e < 1) && p e) = 0 := by
  rw [mkd_ext (q := fun _ => false) fun d hd => by have := isD_b hd; simp; omega]
  rfl
theorem mkd_oe (p : Nat → Bool) : mkd (fun e => decide (e < 7) && p e) = mkd p := mkd_ext fun d hd => by
  have := isD_b hd
  simp
  omega
theorem dlt_ne {e i : Nat} (h : ¬ e = i) : decide (e < i + 1) = decide (e < i) := decide_eq_decide.mpr ⟨fun _ => by omega, fun _ => by omega⟩
theorem mkd_os (p : Nat → Bool) {i : Nat} (hd : isD i = true) (x : Int32) (hx : x = if p i then nI (mkd fun e => decide (e = i)) else 0) : nI (mkd fun e => decide (e < i) && p e) ||| x = nI (mkd fun e => decide (e < i + 1) && p e) := by
  subst hx
  cases q : p i
  · show _ ||| nI (mkd fun _ => false) = _
    rw [mkd_or]
    congr 1
    apply mkd_ext
    intro d _
    by_cases q2 : d = i
    · subst q2; simp [q]
    · simp [dlt_ne q2]
  · show _ ||| nI (mkd fun e => decide (e = i)) = _
    rw [mkd_or]
    congr 1
    apply mkd_ext
    intro d _
    by_cases q2 : d = i
    · subst q2; simp [q]
    · simp [dlt_ne q2, q2]
theorem z_shl : ∀ d, d < 7 → (0 : Int32) <<< (nI d &&& 31) = 0 := by decide +kernel
theorem p_digitsOf {h : PH} {p : Nat} {K : Nat → Nat → Bool} {P T S : Nat → Bool} (H : PosAt h p K P T S) {c : Nat} (hc : c < 36) {F : Nat} (hF : 40 ≤ F) : f_Pos_digitsOf F p (nI c) h = some (nI (mkd (K c))) := by
  obtain ⟨V, sp, pl, to, st, a0, a1, a2, a3, a4, a5, a6, a7, a8, a9⟩ := H
  obtain ⟨s, ⟨_, e⟩, h1⟩ := LC (fun n i s => f_Pos_digitsOf_4 F n p (nI c) s (nI i) h) (fun i s => 1 ≤ i ∧ s = nI (mkd fun e => decide (e < i) && K c e)) 7
    (fun n i s hi ⟨h1, e⟩ => by
      have hd : isD i = true := isD_i h1 hi
      refine ⟨nI (mkd fun e => decide (e < i + 1) && K c e), ⟨by omega, rfl⟩, ?_⟩
      show f_Pos_digitsOf_4 F (n + 1) p (nI c) s (nI i) h = _
      rw [f_Pos_digitsOf_4, b_Pos_digitsOf_4, if_neg (show ¬ (6 : Int32) < nI i from nI_nlt (a := 6) (b := (i)) (by omega) (by omega)), ob_R a0 (by omega) a1, bnd_s, ar_L a5 (by omega) (by omega), bnd_s, bnd_s, nI_1, (a6 i hd).bit hc, e, mkd_os _ hd]
      cases q : K c i
      · exact z_shl i hi
      · exact mkd_1 hd) 6 1 0 F rfl (by omega) ⟨by omega, by rw [mkd_o1]; rfl⟩
  obtain ⟨m, hm⟩ : ∃ m, F - 6 = m + 1 := ⟨F - 7, by omega⟩
  refine Eq.trans h1 ?_
  show f_Pos_digitsOf_4 F (F - 6) p (nI c) s (nI 7) h = _
  rw [hm, f_Pos_digitsOf_4, b_Pos_digitsOf_4, if_pos (show (6 : Int32) < nI 7 from nI_lt (a := 6) (b := 7) (by omega) (by omega)), e, mkd_oe]
theorem p_lowest {h : PH} {p : Nat} {K : Nat → Nat → Bool} {P T S : Nat → Bool} (H : PosAt h p K P T S) {c : Nat} (hc : c < 36) {F : Nat} (hF : 40 ≤ F) : f_Pos_lowestDigitOf F p (nI c) h = some (if sz (K c) = 0 then 0 else nI (lod (K c))) := by
  obtain ⟨V, sp, pl, to, st, a0, a1, a2, a3, a4, a5, a6, a7, a8, a9⟩ := H
  obtain ⟨j, s, j1, j2, ⟨j3, j5⟩, j4, h1⟩ := LE (fun n i (_ : Unit) => f_Pos_lowestDigitOf_2 F n p (nI c) (nI i) h) (fun i _ => 1 ≤ i ∧ ∀ e, isD e = true → e < i → K c e = false) (fun i _ => K c i = true) 7
    (fun n i s hi ⟨h1, h2⟩ => by
      have hd : isD i = true := isD_i h1 hi
      cases q : K c i
      · refine Or.inr ⟨(), ⟨by omega, fun e he hl => ?_⟩, ?_⟩
        · by_cases q2 : e = i
          · subst q2; exact q
          · exact h2 e he (by omega)
        · show f_Pos_lowestDigitOf_2 F (n + 1) p (nI c) (nI i) h = _
          rw [f_Pos_lowestDigitOf_2, b_Pos_lowestDigitOf_2, if_neg (show ¬ (6 : Int32) < nI i from nI_nlt (a := 6) (b := (i)) (by omega) (by omega)), ob_R a0 (by omega) a1, bnd_s, ar_L a5 (by omega) (by omega), bnd_s, nI_1, if_pos (((a6 i hd).bit0 hc).mpr q)]
      · exact Or.inl rfl) 6 1 () F rfl (by omega) ⟨by omega, fun e he hl => by have := isD_b he; omega⟩
  refine Eq.trans h1 ?_
  obtain ⟨m, hm⟩ : ∃ m, F - (j - 1) = m + 1 := ⟨F - (j - 1) - 1, by omega⟩
  show f_Pos_lowestDigitOf_2 F (F - (j - 1)) p (nI c) (nI j) h = _
  rw [hm, f_Pos_lowestDigitOf_2, b_Pos_lowestDigitOf_2]
  by_cases q : j < 7
  · have hd : isD j = true := isD_i j3 q
    rw [if_neg (show ¬ (6 : Int32) < nI j from nI_nlt (a := 6) (b := (j)) (by omega) (by omega)), ob_R a0 (by omega) a1, bnd_s, ar_L a5 (by omega) (by omega), bnd_s, if_neg (fun z => by have := ((a6 j hd).bit0 hc).mp z; rw [j4 q] at this; cases this), if_neg (fun z => by have := sz_0.mp z j hd; rw [j4 q] at this; cases this), lod_s hd (j4 q) j5]
  · rw [if_pos (show (6 : Int32) < nI j from nI_lt (a := 6) (b := (j)) (by omega) (by omega)), if_pos (sz_0.mpr fun d hd => j5 d hd (by have := isD_b hd; omega))]
def PosSh (h : PH) (p : Nat) : Prop := ∃ V sp, h.2 p = obj 1 4 V ∧ V 0 = .ref (p + 1) ∧ h.2 (p + 1) = oL 7 sp
theorem PosAt.sh {h : PH} {p : Nat} {K : Nat → Nat → Bool} {P T S : Nat → Bool} (H : PosAt h p K P T S) : PosSh h p := by
  obtain ⟨V, sp, pl, to, st, a0, a1, a2, a3, a4, a5, a6, a7, a8, a9⟩ := H
  exact ⟨V, sp, a0, a1, a5⟩
/-- what is not marked has lost nothing -/
def TR (T : Nat → Bool) (K : Nat → Nat → Bool) (T' : Nat → Bool) (K' : Nat → Nat → Bool) : Prop := ∀ c, c < 36 → T' c = false → T c = false ∧ ∀ e, isD e = true → K c e = K' c e
theorem TR.rf (T : Nat → Bool) (K : Nat → Nat → Bool) : TR T K T K := fun _ _ h => ⟨h, fun _ _ => rfl⟩
theorem TR.tr {T T1 T2 : Nat → Bool} {K K1 K2 : Nat → Nat → Bool} (a : TR T K T1 K1) (b : TR T1 K1 T2 K2) : TR T K T2 K2 := fun c hc h => by
  obtain ⟨h1, h2⟩ := b c hc h
  obtain ⟨h3, h4⟩ := a c hc h1
  exact ⟨h3, fun e he => (h4 e he).trans (h2 e he)⟩
theorem TR.x {T T1 : Nat → Bool} {K K1 K2 : Nat → Nat → Bool} (a : TR T K T1 K1) (e : ∀ c, c < 36 → ∀ d, isD d = true → K1 c d = K2 c d) : TR T K T1 K2 := fun c hc h => ⟨(a c hc h).1, fun d hd => ((a c hc h).2 d hd).trans (e c hc d hd)⟩
abbrev PS (p : Nat) : Nat → Prop := fun k => k = p ∨ k = p + 1
theorem bz1 : ∀ a b : Bool, (a && !(a && b)) = (a && !b) := by decide
theorem p_hit {h : PH} {p : Nat} {K : Nat → Nat → Bool} {P T S : Nat → Bool} (H : PosAt h p K P T S) {d : Nat} (hd : isD d = true) {hit : Int64} {C : Nat → Bool} (hx : CS hit fun c => K c d && C c) :
    ∃ sp to h1 h2 T', gR h p 1 0 = some (p + 1) ∧ aL h (p + 1) (nI d) = some sp ∧ sL h (p + 1) (nI d) (sp &&& (hit ^^^ (-1))) = some h1 ∧ gL h1 p 1 2 = some to ∧ pV h1 p 1 2 (.long (to ||| hit)) = some h2 ∧
      PosAt h2 p (fun c e => K c e && !(decide (e = d) && C c)) P T' S ∧ TR T K T' (fun c e => K c e && !(decide (e = d) && C c)) ∧ Fr (PS p) h h2 := by
  obtain ⟨V, sp, pl, to, st, a0, a1, a2, a3, a4, a5, a6, a7, a8, a9⟩ := H
  have hd' := isD_b hd
  refine ⟨sp d, to, _, _, fun c => T c || (K c d && C c), ob_R a0 (by omega) a1, ar_L a5 (by omega) (by omega), ar_sL _ a5 (by omega) (by omega), ob_L (ci := 1) (n := 4) (V := V) ((hset_n _ _ (by omega)).trans a0) (by omega) a3, ob_P (n := 4) (V := V) _ ((hset_n _ _ (by omega)).trans a0) (by omega), ?_, ?_, ?_⟩
  · refine ⟨_, _, pl, to ||| hit, st, hset_s _ _ _, ?_, ?_, ?_, ?_, (hset_n _ _ (by omega)).trans (hset_s _ _ _), ?_, a7, a8.or hx, a9⟩
    · rw [vu_n _ _ (by omega), a1]
    · rw [vu_n _ _ (by omega), a2]
    · rw [vu_s]
    · rw [vu_n _ _ (by omega), a4]
    · intro e he
      by_cases q : e = d
      · subst q
        rw [pk_uLs]
        refine ((a6 e he).sub hx).x fun c _ => ?_
        show (K c e && !(K c e && C c)) = (K c e && !(decide (e = e) && C c))
        rw [bz1]
        simp
      · rw [pk_uLn q]
        refine (a6 e he).x fun c _ => ?_
        simp [q]
  · intro c hc h0
    have h1 : T c = false ∧ (K c d && C c) = false := by
      cases q : T c <;> simp_all
    refine ⟨h1.1, fun e he => ?_⟩
    by_cases q : e = d
    · subst q
      have := h1.2
      revert this
      show (K c e && C c) = false → K c e = (K c e && !(decide (e = e) && C c))
      cases K c e <;> cases C c <;> simp
    · simp [q]
  · exact ((Fr.rf _ _).st _ (Or.inr rfl)).st _ (Or.inl rfl)
theorem p_remove {h : PH} {p : Nat} {K : Nat → Nat → Bool} {P T S : Nat → Bool} (H : PosAt h p K P T S) {d : Nat} (hd : isD d = true) {x : Int64} {C : Nat → Bool} (hx : CS x C) :
    ∃ r h' T', f_Pos_remove p (nI d) x h = some (nI r, h') ∧ PosAt h' p (fun c e => K c e && !(decide (e = d) && C c)) P T' S ∧ TR T K T' (fun c e => K c e && !(decide (e = d) && C c)) ∧ Fr (PS p) h h' ∧
      r + tot (fun c e => K c e && !(decide (e = d) && C c)) = tot K := by
  obtain ⟨sp, hsp, csp⟩ : ∃ sp, aL h (p + 1) (nI d) = some sp ∧ CS sp fun c => K c d := by
    obtain ⟨V, sp, pl, to, st, a0, a1, a2, a3, a4, a5, a6, a7, a8, a9⟩ := H
    exact ⟨_, ar_L a5 (isD_b hd).2 (by omega), a6 d hd⟩
  have hh : CS (sp &&& x) fun c => K c d && C c := csp.and hx
  obtain ⟨sp', to, h1, h2, T', b0, b1, b2, b3, b4, b5, b6, b7⟩ := p_hit H hd hh
  rw [hsp] at b1
  cases b1
  refine ⟨_, h2, T', ?_, b5, b6, b7, tot_cut1 K C hd⟩
  unfold f_Pos_remove
  rw [b0, bnd_s, hsp, bnd_s, bnd_s, hsp, bnd_s, b2, bnd_s, b3, bnd_s, b4, bnd_s, hh.cnt, bnd_s]
theorem p_removeDigits {h : PH} {p : Nat} {K : Nat → Nat → Bool} {P T S : Nat → Bool} (H : PosAt h p K P T S) (D : Nat → Bool) {x : Int64} {C : Nat → Bool} (hx : CS x C) {F : Nat} (hF : 40 ≤ F) :
    ∃ r h' T', f_Pos_removeDigits F p (nI (mkd D)) x h = some (nI r, h') ∧ PosAt h' p (fun c e => K c e && !(D e && C c)) P T' S ∧ TR T K T' (fun c e => K c e && !(D e && C c)) ∧ Fr (PS p) h h' ∧
      r + tot (fun c e => K c e && !(D e && C c)) = tot K := by
  obtain ⟨⟨s, h'⟩, ⟨_, r, T', e, i1, i2, i3, i4⟩, h1⟩ := LC (fun n i (s : Int32 × PH) => f_Pos_removeDigits_6 F n p (nI (mkd D)) x s.1 (nI i) s.2)
    (fun i s => 1 ≤ i ∧ ∃ r T', s.1 = nI r ∧ PosAt s.2 p (fun c e => K c e && !(decide (e < i) && (D e && C c))) P T' S ∧ TR T K T' (fun c e => K c e && !(decide (e < i) && (D e && C c))) ∧ Fr (PS p) h s.2 ∧ r + tot (fun c e => K c e && !(decide (e < i) && (D e && C c))) = tot K) 7
    (fun n i s hi ⟨h1, r, T', e, i1, i2, i3, i4⟩ => by
      have hd : isD i = true := isD_i h1 hi
      have hst : ∀ hit : Int64, CS hit (fun c => (K c i && !(decide (i < i) && (D i && C c))) && (D i && C c)) → ∃ s' : Int32 × PH, (1 ≤ i + 1 ∧ ∃ r T', s'.1 = nI r ∧ PosAt s'.2 p (fun c e => K c e && !(decide (e < i + 1) && (D e && C c))) P T' S ∧ TR T K T' (fun c e => K c e && !(decide (e < i + 1) && (D e && C c))) ∧ Fr (PS p) h s'.2 ∧ r + tot (fun c e => K c e && !(decide (e < i + 1) && (D e && C c))) = tot K) ∧
          b_Pos_removeDigits_35 F (f_Pos_removeDigits_6 F n) p (nI (mkd D)) x s.1 (nI i) hit s.2 = f_Pos_removeDigits_6 F n p (nI (mkd D)) x s'.1 (nI (i + 1)) s'.2 := by
        intro hit hh
        obtain ⟨sp', to, h3, h2, T2, b0, b1, b2, b3, b4, b5, b6, b7⟩ := p_hit i1 hd hh
        have hK : ∀ c, c < 36 → ∀ e, isD e = true → (K c e && !(decide (e < i) && (D e && C c)) && !(decide (e = i) && (D i && C c))) = (K c e && !(decide (e < i + 1) && (D e && C c))) := by
          intro c _ e _
          by_cases q : e = i
          · subst q
            simp
          · simp [q, dlt_ne q]
        refine ⟨(nI (r + cnt (fun c => (K c i && !(decide (i < i) && (D i && C c))) && (D i && C c)) 36), h2), ⟨by omega, _, T2, rfl, b5.x hK (fun _ _ => rfl) (fun _ _ => rfl) (fun _ _ => rfl), (i2.tr b6).x hK, i3.tr b7, ?_⟩, ?_⟩
        · have h9 := tot_cut1 (fun c e => K c e && !(decide (e < i) && (D e && C c))) (fun c => D i && C c) hd
          rw [tot_ext hK] at h9
          omega
        · rw [b_Pos_removeDigits_35, b0, bnd_s, b1, bnd_s, b2, bnd_s, b3, bnd_s, b4, bnd_s, hh.cnt, bnd_s, e, nI_add, nI_1]
      cases q : D i
      · obtain ⟨s', g1, g2⟩ := hst 0 (CS.no.x fun c _ => by simp [q])
        refine ⟨s', g1, ?_⟩
        show f_Pos_removeDigits_6 F (n + 1) p (nI (mkd D)) x s.1 (nI i) s.2 = _
        rw [f_Pos_removeDigits_6, b_Pos_removeDigits_6, if_neg (show ¬ (6 : Int32) < nI i from nI_nlt (a := 6) (b := (i)) (by omega) (by omega)), if_pos ((mkd_bit D hd).mpr q)]
        exact g2
      · obtain ⟨V, sp, pl, to, st, a0, a1, a2, a3, a4, a5, a6, a7, a8, a9⟩ := i1
        obtain ⟨s', g1, g2⟩ := hst (sp i &&& x) (((a6 i hd).and hx).x fun c _ => by simp [q])
        refine ⟨s', g1, ?_⟩
        show f_Pos_removeDigits_6 F (n + 1) p (nI (mkd D)) x s.1 (nI i) s.2 = _
        rw [f_Pos_removeDigits_6, b_Pos_removeDigits_6, if_neg (show ¬ (6 : Int32) < nI i from nI_nlt (a := 6) (b := (i)) (by omega) (by omega)), if_neg (fun z => by have := (mkd_bit D hd).mp z; rw [q] at this; cases this), ob_R a0 (by omega) a1, bnd_s, ar_L a5 (by omega) (by omega), bnd_s]
        exact g2)
    6 1 (0, h) F rfl (by omega) ⟨by omega, 0, T, rfl, H.x (fun c _ e he => by have := isD_b he; simp; intros; omega) (fun _ _ => rfl) (fun _ _ => rfl) (fun _ _ => rfl), (TR.rf T K).x (fun c _ e he => by have := isD_b he; simp; intros; omega), Fr.rf _ _, by
      rw [tot_ext (L := K) fun c _ e he => by have := isD_b he; simp; intros; omega]; omega⟩
  have hK : ∀ c, c < 36 → ∀ e, isD e = true → (K c e && !(decide (e < 7) && (D e && C c))) = (K c e && !(D e && C c)) := by
    intro c _ e he
    have := isD_b he
    simp [this]
  refine ⟨r, h', T', ?_, i1.x hK (fun _ _ => rfl) (fun _ _ => rfl) (fun _ _ => rfl), i2.x hK, i3, by rw [← tot_ext hK]; exact i4⟩
  unfold f_Pos_removeDigits
  refine Eq.trans h1 ?_
  obtain ⟨m, hm⟩ : ∃ m, F - 6 = m + 1 := ⟨F - 7, by omega⟩
  show f_Pos_removeDigits_6 F (F - 6) p (nI (mkd D)) x s (nI 7) h' = _
  rw [hm, f_Pos_removeDigits_6, b_Pos_removeDigits_6, if_pos (show (6 : Int32) < nI 7 from nI_lt (a := 6) (b := 7) (by omega) (by omega)), show s = nI r from e]
theorem p_keepOnly {h : PH} {p : Nat} {K : Nat → Nat → Bool} {P T S : Nat → Bool} (H : PosAt h p K P T S) {c d : Nat} (hc : c < 36) (hd : isD d = true) {F : Nat} (hF : 40 ≤ F) :
    ∃ r h' T', f_Pos_keepOnly F p (nI c) (nI d) h = some (nI r, h') ∧ PosAt h' p (fun a e => K a e && (decide (a = c → e = d))) P T' S ∧ TR T K T' (fun a e => K a e && (decide (a = c → e = d))) ∧ Fr (PS p) h h' ∧
      r + tot (fun a e => K a e && (decide (a = c → e = d))) = tot K := by
  obtain ⟨r, h', T', e1, e2, e3, e4, e5⟩ := p_removeDigits H (fun e => !decide (e = d)) (CS.one hc) hF
  have hK : ∀ a, a < 36 → ∀ e, isD e = true → (K a e && !(!decide (e = d) && decide (a = c))) = (K a e && (decide (a = c → e = d))) := by
    intro a _ e _
    by_cases q : a = c <;> by_cases q2 : e = d <;> simp [q, q2]
  refine ⟨r, h', T', ?_, e2.x hK (fun _ _ => rfl) (fun _ _ => rfl) (fun _ _ => rfl), e3.x hK, e4, by rw [← tot_ext hK]; exact e5⟩
  unfold f_Pos_keepOnly
  have hm : (126 : Int32) &&& (((1 : Int32) <<< (nI d &&& 31)) ^^^ (-1 : Int32)) = nI (mkd fun e => !decide (e = d)) := by
    rw [show (126 : Int32) = nI (mkd fun _ => true) from rfl, mkd_1 hd, mkd_sub]
    congr 1
  rw [H.ck, bnd_s, hm, e1, bnd2_s]
theorem p_candidateCount {h : PH} {p : Nat} {K : Nat → Nat → Bool} {P T S : Nat → Bool} (H : PosAt h p K P T S) {F : Nat} (hF : 40 ≤ F) : f_Pos_candidateCount F p h = some (nI (tot K)) := by
  obtain ⟨V, sp, pl, to, st, a0, a1, a2, a3, a4, a5, a6, a7, a8, a9⟩ := H
  have hc : ∀ e, isD e = true → ∃ x, aL h (p + 1) (nI e) = some x ∧ f_Lng_bitCount x = some (nI (cnt (fun c => K c e) 36)) := fun e he => ⟨_, ar_L a5 (isD_b he).2 (by omega), (a6 e he).cnt⟩
  have ht : tot K = cnt (fun c => K c 1) 36 + cnt (fun c => K c 2) 36 + cnt (fun c => K c 3) 36 + cnt (fun c => K c 4) 36 + cnt (fun c => K c 5) 36 + cnt (fun c => K c 6) 36 := by
    unfold tot
    rw [← smN_cnt, ← smN_cnt, ← smN_cnt, ← smN_cnt, ← smN_cnt, ← smN_cnt, ← smN_add, ← smN_add, ← smN_add, ← smN_add, ← smN_add]
    rfl
  obtain ⟨m, rfl⟩ : ∃ m, F = m + 7 := ⟨F - 7, by omega⟩
  obtain ⟨x1, y1, z1⟩ := hc 1 rfl
  obtain ⟨x2, y2, z2⟩ := hc 2 rfl
  obtain ⟨x3, y3, z3⟩ := hc 3 rfl
  obtain ⟨x4, y4, z4⟩ := hc 4 rfl
  obtain ⟨x5, y5, z5⟩ := hc 5 rfl
  obtain ⟨x6, y6, z6⟩ := hc 6 rfl
  have hR : gR h p 1 0 = some (p + 1) := ob_R a0 (by omega) a1
  unfold f_Pos_candidateCount
  rw [show (1 : Int32) = nI 1 from rfl, show (0 : Int32) = nI 0 from rfl]
  rw [f_Pos_candidateCount_4, b_Pos_candidateCount_4, if_neg (show ¬ (6 : Int32) < nI 1 from nI_nlt (a := 6) (b := 1) (by omega) (by omega)), hR, bnd_s, y1, bnd_s, z1, bnd_s]
  simp only [nI_add, nI_1, Nat.reduceAdd]
  rw [f_Pos_candidateCount_4, b_Pos_candidateCount_4, if_neg (show ¬ (6 : Int32) < nI 2 from nI_nlt (a := 6) (b := 2) (by omega) (by omega)), hR, bnd_s, y2, bnd_s, z2, bnd_s]
  simp only [nI_add, nI_1, Nat.reduceAdd]
  rw [f_Pos_candidateCount_4, b_Pos_candidateCount_4, if_neg (show ¬ (6 : Int32) < nI 3 from nI_nlt (a := 6) (b := 3) (by omega) (by omega)), hR, bnd_s, y3, bnd_s, z3, bnd_s]
  simp only [nI_add, nI_1, Nat.reduceAdd]
  rw [f_Pos_candidateCount_4, b_Pos_candidateCount_4, if_neg (show ¬ (6 : Int32) < nI 4 from nI_nlt (a := 6) (b := 4) (by omega) (by omega)), hR, bnd_s, y4, bnd_s, z4, bnd_s]
  simp only [nI_add, nI_1, Nat.reduceAdd]
  rw [f_Pos_candidateCount_4, b_Pos_candidateCount_4, if_neg (show ¬ (6 : Int32) < nI 5 from nI_nlt (a := 6) (b := 5) (by omega) (by omega)), hR, bnd_s, y5, bnd_s, z5, bnd_s]
  simp only [nI_add, nI_1, Nat.reduceAdd]
  rw [f_Pos_candidateCount_4, b_Pos_candidateCount_4, if_neg (show ¬ (6 : Int32) < nI 6 from nI_nlt (a := 6) (b := 6) (by omega) (by omega)), hR, bnd_s, y6, bnd_s, z6, bnd_s]
  simp only [nI_add, nI_1, Nat.reduceAdd]
  rw [f_Pos_candidateCount_4, b_Pos_candidateCount_4, if_pos (show (6 : Int32) < nI 7 from nI_lt (a := 6) (b := 7) (by omega) (by omega)), ht]
  congr 2
  omega
