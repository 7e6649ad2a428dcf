/-! The class's reasoner: note, survey, the single, the only place. -/
def WS (p q : Nat) : Nat → Prop := fun k => k = p ∨ k = p + 1 ∨ (q ≤ k ∧ k < q + 4)
def SvSh (h : PH) (q : Nat) : Prop := ∃ W f g, h.2 (q + 1) = obj 6 4 W ∧ W 0 = .ref (q + 2) ∧ W 1 = .ref (q + 3) ∧ h.2 (q + 2) = oI 6 f ∧ h.2 (q + 3) = oI 6 g
theorem SvSh.fr {h h' : PH} {q : Nat} {S : Nat → Prop} (H : SvSh h q) (f : Fr S h h') (n : ¬ S (q + 1) ∧ ¬ S (q + 2) ∧ ¬ S (q + 3)) : SvSh h' q := by
  obtain ⟨W, a, b, h1, h2, h3, h4, h5⟩ := H
  exact ⟨W, a, b, (f.2 _ n.1).trans h1, h2, h3, (f.2 _ n.2.1).trans h4, (f.2 _ n.2.2).trans h5⟩
theorem r_note {h : PH} {q : Nat} {V : Nat → Value} (a b c : Int32) (e : h.2 q = obj 3 7 V) :
    ∃ h' V', f_Rea_note q a b c h = some (1, h') ∧ h'.2 q = obj 3 7 V' ∧ V' 0 = V 0 ∧ V' 1 = .int a ∧ V' 2 = .int b ∧ V' 3 = .int c ∧ V' 4 = V 4 ∧ V' 5 = V 5 ∧ V' 6 = V 6 ∧ Fr (fun k => k = q) h h' := by
  refine ⟨hset (hset (hset h q (obj 3 7 (updV V 1 (.int a)))) q (obj 3 7 (updV (updV V 1 (.int a)) 2 (.int b)))) q (obj 3 7 (updV (updV (updV V 1 (.int a)) 2 (.int b)) 3 (.int c))), _, ?_, hset_s _ _ _, ?_, ?_, ?_, ?_, ?_, ?_, ?_, (((Fr.rf _ _).sq _).sq _).sq _⟩
  · unfold f_Rea_note
    rw [ob_P _ e (by omega), bnd_s, ob_P _ (hset_s _ _ _) (by omega), bnd_s, ob_P _ (hset_s _ _ _) (by omega), bnd_s]
  all_goals simp [updV]
/-- what survey finds -/
def Sv (V : Nat → Value) (K : Nat → Nat → Bool) : Prop := ∃ so se ma, V 4 = .long so ∧ V 5 = .long se ∧ V 6 = .long ma ∧ CS so (fun c => decide (1 ≤ sz (K c))) ∧ CS se (fun c => decide (2 ≤ sz (K c))) ∧ CS ma (fun c => decide (3 ≤ sz (K c)))
theorem sz_o1 (p : Nat → Bool) : sz (fun e => decide (e < 1) && p e) = 0 := by
  rw [sz_ext (q := fun _ => false) fun d hd => by have := isD_b hd; simp; omega]
  rfl
theorem sz_oe (p : Nat → Bool) : sz (fun e => decide (e < 7) && p e) = sz p := sz_ext fun d hd => by
  have := isD_b hd
  simp
  omega
theorem sz_os (p : Nat → Bool) {i : Nat} (hd : isD i = true) : sz (fun e => decide (e < i + 1) && p e) = sz (fun e => decide (e < i) && p e) + (p i).toNat := by
  rw [← sz_split (fun e => decide (e < i + 1) && p e) fun e => decide (e = i), Nat.add_comm]
  congr 1
  · apply sz_ext
    intro d _
    by_cases q : d = i
    · subst q; simp
    · simp [q, dlt_ne q]
  · cases q : p i
    · exact sz_0.mpr fun d _ => by
        by_cases q2 : d = i
        · subst q2; simp [q]
        · simp [q2]
    · exact sz_1.mpr ⟨i, hd, by simp [q], fun e _ h => by simp at h; exact h.2⟩
theorem sv_a : ∀ (n : Nat) (b : Bool), (decide (3 ≤ n) || (decide (2 ≤ n) && b)) = decide (3 ≤ n + b.toNat) := by
  intro n b
  cases b
  · simp
  · have : (3 ≤ n + 1) ↔ 2 ≤ n := by omega
    simp [this]
    omega
theorem sv_b : ∀ (n : Nat) (b : Bool), (decide (2 ≤ n) || (decide (1 ≤ n) && b)) = decide (2 ≤ n + b.toNat) := by
  intro n b
  cases b
  · simp
  · have : (2 ≤ n + 1) ↔ 1 ≤ n := by omega
    simp [this]
    omega
theorem sv_c : ∀ (n : Nat) (b : Bool), (decide (1 ≤ n) || b) = decide (1 ≤ n + b.toNat) := by
  intro n b
  cases b
  · simp
  · simp
theorem r_survey {h : PH} {p q : Nat} {V : Nat → Value} {K : Nat → Nat → Bool} {P T S : Nat → Bool} (H : PosAt h p K P T S) (e : h.2 q = obj 3 7 V) (hpq : q ≠ p ∧ q ≠ p + 1) {F : Nat} (hF : 40 ≤ F) :
    ∃ h' V', f_Rea_survey F q p h = some h' ∧ h'.2 q = obj 3 7 V' ∧ V' 0 = V 0 ∧ V' 1 = V 1 ∧ V' 2 = V 2 ∧ V' 3 = V 3 ∧ Sv V' K ∧ Fr (fun k => k = q) h h' := by
  have e3 : (hset (hset (hset h q (obj 3 7 (updV V 4 (.long 0)))) q (obj 3 7 (updV (updV V 4 (.long 0)) 5 (.long 0)))) q (obj 3 7 (updV (updV (updV V 4 (.long 0)) 5 (.long 0)) 6 (.long 0)))).2 q = _ := hset_s _ _ _
  have F3 : Fr (fun k => k = q) h (hset (hset (hset h q (obj 3 7 (updV V 4 (.long 0)))) q (obj 3 7 (updV (updV V 4 (.long 0)) 5 (.long 0)))) q (obj 3 7 (updV (updV (updV V 4 (.long 0)) 5 (.long 0)) 6 (.long 0)))) := (((Fr.rf _ _).sq _).sq _).sq _
  have hx : f_Rea_survey F q p h = f_Rea_survey_17 F F q p (1 : Int32) (hset (hset (hset h q (obj 3 7 (updV V 4 (.long 0)))) q (obj 3 7 (updV (updV V 4 (.long 0)) 5 (.long 0)))) q (obj 3 7 (updV (updV (updV V 4 (.long 0)) 5 (.long 0)) 6 (.long 0)))) := by
    unfold f_Rea_survey
    rw [ob_P _ e (by omega), bnd_s, ob_P _ (hset_s _ _ _) (by omega), bnd_s, ob_P _ (hset_s _ _ _) (by omega), bnd_s]
  generalize hset (hset (hset h q (obj 3 7 (updV V 4 (.long 0)))) q (obj 3 7 (updV (updV V 4 (.long 0)) 5 (.long 0)))) q (obj 3 7 (updV (updV (updV V 4 (.long 0)) 5 (.long 0)) 6 (.long 0))) = h3 at *
  obtain ⟨h1, ⟨_, V1, b0, b1, b2, b3, b4, ⟨so, se, ma, c1, c2, c3, d1, d2, d3⟩, b5⟩, e1⟩ := LC (fun n i h => f_Rea_survey_17 F n q p (nI i) h) (fun i h' => 1 ≤ i ∧ ∃ V', h'.2 q = obj 3 7 V' ∧ V' 0 = V 0 ∧ V' 1 = V 1 ∧ V' 2 = V 2 ∧ V' 3 = V 3 ∧ Sv V' (fun c e => decide (e < i) && K c e) ∧ Fr (fun k => k = q) h h') 7
    (fun n i s hi ⟨h1, V1, b0, b1, b2, b3, b4, ⟨so, se, ma, c1, c2, c3, d1, d2, d3⟩, b5⟩ => by
      have hd := isD_i h1 hi
      obtain ⟨W, sp, pl, to, st, a0, a1, a2, a3, a4, a5, a6, a7, a8, a9⟩ := H
      have g0 : s.2 p = obj 1 4 W := (b5.2 p (by omega)).trans a0
      have g1 : s.2 (p + 1) = oL 7 sp := (b5.2 (p + 1) (by omega)).trans a5
      refine ⟨hset (hset (hset s q (obj 3 7 (updV V1 6 (.long (ma ||| (se &&& sp i)))))) q (obj 3 7 (updV (updV V1 6 (.long (ma ||| (se &&& sp i)))) 5 (.long (se ||| (so &&& sp i)))))) q (obj 3 7 (updV (updV (updV V1 6 (.long (ma ||| (se &&& sp i)))) 5 (.long (se ||| (so &&& sp i)))) 4 (.long (so ||| sp i)))), ⟨by omega, _, hset_s _ _ _, ?_, ?_, ?_, ?_, ⟨so ||| sp i, se ||| (so &&& sp i), ma ||| (se &&& sp i), ?_, ?_, ?_, (d1.or (a6 i hd)).x fun c _ => ?_, (d2.or (d1.and (a6 i hd))).x fun c _ => ?_, (d3.or (d2.and (a6 i hd))).x fun c _ => ?_⟩, ((b5.sq _).sq _).sq _⟩, ?_⟩
      · simpa [updV] using b1
      · simpa [updV] using b2
      · simpa [updV] using b3
      · simpa [updV] using b4
      · simp [updV]
      · simp [updV]
      · simp [updV]
      · rw [sz_os (K c) hd]; exact sv_c _ _
      · rw [sz_os (K c) hd]; exact sv_b _ _
      · rw [sz_os (K c) hd]; exact sv_a _ _
      · show f_Rea_survey_17 F (n + 1) q p (nI i) s = _
        rw [f_Rea_survey_17, b_Rea_survey_17, if_neg (show ¬ (6 : Int32) < nI i from nI_nlt (a := 6) (b := (i)) (by omega) (by omega)), ob_R g0 (by omega) a1, bnd_s, ar_L g1 (by omega) (by omega), bnd_s, ob_L b0 (by omega) c3, bnd_s, ob_L b0 (by omega) c2, bnd_s, ob_P _ b0 (by omega), bnd_s, ob_L (hset_s _ _ _) (by omega) (v := se) (by simpa [updV] using c2), bnd_s, ob_L (hset_s _ _ _) (by omega) (v := so) (by simpa [updV] using c1), bnd_s, ob_P _ (hset_s _ _ _) (by omega), bnd_s,
          ob_L (hset_s _ _ _) (by omega) (v := so) (by simpa [updV] using c1), bnd_s, ob_P _ (hset_s _ _ _) (by omega), bnd_s, nI_1]) 6 1 h3 F rfl (by omega) ⟨by omega, _, e3, by simp [updV], by simp [updV], by simp [updV], by simp [updV], ⟨0, 0, 0, by simp [updV], by simp [updV], by simp [updV], CS.no.x fun c _ => by rw [sz_o1]; rfl, CS.no.x fun c _ => by rw [sz_o1]; rfl, CS.no.x fun c _ => by rw [sz_o1]; rfl⟩, F3⟩
  obtain ⟨m, hm⟩ : ∃ m, F - 6 = m + 1 := ⟨F - 7, by omega⟩
  refine ⟨h1, V1, ?_, b0, b1, b2, b3, b4, ⟨so, se, ma, c1, c2, c3, d1.x fun c _ => by rw [sz_oe], d2.x fun c _ => by rw [sz_oe], d3.x fun c _ => by rw [sz_oe]⟩, b5⟩
  rw [hx]
  refine Eq.trans e1 ?_
  show f_Rea_survey_17 F (F - 6) q p (nI 7) h1 = _
  rw [hm, f_Rea_survey_17, b_Rea_survey_17, if_pos (show (6 : Int32) < nI 7 from nI_lt (a := 6) (b := 7) (by omega) (by omega))]
/-- a deduction was done -/
def Did (h h' : PH) (p q : Nat) (K : Nat → Nat → Bool) (T : Nat → Bool) (S' : Nat → Bool) (kd pl : Nat) (K' : Nat → Nat → Bool) (P' : Nat → Bool) : Prop :=
  ∃ T' V' rm, PosAt h' p K' P' T' S' ∧ TR T K T' K' ∧ h'.2 q = obj 3 7 V' ∧ V' 0 = .ref (q + 1) ∧ V' 1 = .int (nI kd) ∧ V' 2 = .int (nI pl) ∧ V' 3 = .int (nI rm) ∧ rm + tot K' = tot K ∧ SvSh h' q ∧ Fr (WS p q) h h'
/-- none was -/
def Und (h h' : PH) (p q : Nat) (V : Nat → Value) (K : Nat → Nat → Bool) (P : Nat → Bool) (T : Nat → Bool) (S' : Nat → Bool) : Prop :=
  ∃ T', PosAt h' p K P T' S' ∧ TR T K T' K ∧ h'.2 q = obj 3 7 V ∧ SvSh h' q ∧ Fr (WS p q) h h'
theorem r_single {h : PH} {p q r : Nat} {V : Nat → Value} {K : Nat → Nat → Bool} {P T S : Nat → Bool} {R : RT} (H : PosAt h p K P T S) (HR : RulAt h r R) (e : h.2 q = obj 3 7 V) (e0 : V 0 = .ref (q + 1)) (hs : SvSh h q) (sv : Sv V K) (hpq : q + 4 ≤ p ∨ p + 2 ≤ q) (hpr : r + 7 ≤ p ∨ p + 2 ≤ r) {F : Nat} (hF : 40 ≤ F) :
    (no1 K P ∧ f_Rea_placeSingle F q p r h = some (0, h)) ∨ ∃ c h', f1 R K P c (k1 R K c) (pl1 P c) ∧ f_Rea_placeSingle F q p r h = some (1, h') ∧ Did h h' p q K T S 1 c (k1 R K c) (pl1 P c) := by
  obtain ⟨so, se, ma, c1, c2, c3, d1, d2, d3⟩ := sv
  have H0 := H
  obtain ⟨W, sp, pl, to, st, b0, b1, b2, b3, b4, b5, b6, b7, b8, b9⟩ := H0
  have hy := ((d1.sub d2).sub b7)
  have hy' : ∀ c, (((decide (1 ≤ sz (K c)) && !decide (2 ≤ sz (K c))) && !P c) = true ↔ a1 K P c) := by
    intro c
    unfold a1
    simp only [Bool.and_eq_true, decide_eq_true_eq, Bool.not_eq_true', decide_eq_false_iff_not]
    constructor
    · rintro ⟨⟨x, y⟩, z⟩
      exact ⟨z, by omega⟩
    · rintro ⟨x, y⟩
      exact ⟨⟨by omega, by omega⟩, x⟩
  unfold f_Rea_placeSingle
  rw [ob_L e (by omega) c1, bnd_s, ob_L e (by omega) c2, bnd_s, ob_L b0 (by omega) b2, bnd_s, bnd_s]
  by_cases z : ∃ c, c < 36 ∧ ((decide (1 ≤ sz (K c)) && !decide (2 ≤ sz (K c))) && !P c) = true
  · right
    obtain ⟨c, hc, hl⟩ := Lw.ex z
    have hc1 := (hy' c).mp hl.1
    have hnz : ¬ lg_cmp (so &&& (se ^^^ -1) &&& (pl ^^^ -1)) 0 = 0 := fun w => by
      have h1 := hy.lg0.mp w c hc
      exact Bool.noConfusion (hl.1.symm.trans h1)
    have hf1 : f1 R K P c (k1 R K c) (pl1 P c) := ⟨hc, hc1, fun j hj w => Bool.noConfusion ((show _ = false from hl.2 j hj).symm.trans ((hy' j).mpr w)), rfl, rfl⟩
    rw [if_neg hnz, g_lowest hy hc hl, bnd_s, bnd_s, ob_P _ b0 (by omega), bnd_s]
    have H1 : PosAt (hset h p (obj 1 4 (updV W 1 (.long (pl ||| (1 : Int64) <<< ((nI c).toInt64 &&& 63)))))) p K (pl1 P c) T S :=
      ⟨_, sp, _, to, st, hset_s _ _ _, by simpa [updV] using b1, by simp [updV], by simpa [updV] using b3, by simpa [updV] using b4, (hset_n _ _ (by omega)).trans b5, b6, b7.or (CS.one hc), b8, b9⟩
    have F1 : Fr (PS p) h (hset h p (obj 1 4 (updV W 1 (.long (pl ||| (1 : Int64) <<< ((nI c).toInt64 &&& 63)))))) := (Fr.rf _ _).st _ (Or.inl rfl)
    generalize hset h p (obj 1 4 (updV W 1 (.long (pl ||| (1 : Int64) <<< ((nI c).toInt64 &&& 63))))) = h1 at *
    obtain ⟨X, rkd, rsm, rln, rcl, rar, rpe, x0, x1, x2, x3, x4, x5, x6, x7, ⟨y1, y2, y3, y4, y5, y6⟩, z1, z2⟩ := HR.fr F1 (fun k hk z => by simp only [UR, PS] at hk z; omega)
    obtain ⟨d, hd, hd1, hd2⟩ := sz_1.mp hc1.2
    have hlo : lod (K c) = d := lod_s hd hd1 fun e he hl => by
      cases w : K c e
      · rfl
      · have := hd2 e he w
        omega
    have hsz : sz (K c) ≠ 0 := by rw [hc1.2]; omega
    obtain ⟨rm, h2, T2, g1, g2, g3, g4, g5⟩ := p_remove H1 hd (z2 c hc)
    have hK : ∀ a, a < 36 → ∀ e, isD e = true → (K a e && !(decide (e = d) && peer R c a)) = k1 R K c a e := by
      intro a _ e he
      unfold k1
      by_cases w : e = d
      · subst w
        simp [hd1]
      · have : K c e = false := by
          cases w2 : K c e
          · rfl
          · exact absurd (hd2 e he w2) w
        simp [w, this]
    have eq2 : h2.2 q = obj 3 7 V := ((F1.tr g4).2 q (by simp only [PS]; omega)).trans e
    obtain ⟨h3, V3, n1, n2, n3, n4, n5, n6, _, _, _, n7⟩ := r_note 1 (nI c) (nI rm) eq2
    refine ⟨c, h3, hf1, ?_, ⟨T2, V3, rm, (g2.x hK (fun _ _ => rfl) (fun _ _ => rfl) (fun _ _ => rfl)).fr (n7.2 _ (by omega)) (n7.2 _ (by omega)), g3.x hK, n2, n3.trans e0, n4, n5, n6, by rw [← tot_ext hK]; exact g5, (hs.fr (F1.tr g4) (by simp only [PS]; omega)).fr n7 (by omega), ((F1.tr g4).mo fun k hk => ?_).tr (n7.mo fun k hk => ?_)⟩⟩
    · rw [H1.ck, bnd_s, p_lowest H1 hc hF, if_neg hsz, hlo, bnd_s, ob_R x0 (by omega) x6, bnd_s, ar_L y6 hc (by omega), bnd_s, bnd_s, g1, bnd2_s, ob_K eq2, bnd_s, n1, bnd2_s]
      rfl
    · simp only [PS, WS] at hk ⊢; omega
    · simp only [WS] at hk ⊢; omega
  · left
    refine ⟨fun c hc w => z ⟨c, hc, (hy' c).mpr w⟩, ?_⟩
    rw [if_pos (hy.lg0.mpr fun c hc => by
      cases w : ((decide (1 ≤ sz (K c)) && !decide (2 ≤ sz (K c))) && !P c)
      · rfl
      · exact absurd ⟨c, hc, w⟩ z)]
