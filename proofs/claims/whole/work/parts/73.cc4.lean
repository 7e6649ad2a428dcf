/-! The class's solver from outside: counting, guesses, what no solution uses. -/
/-- all solutions are seen -/
def SCO (h : PH) (v : Nat) (R : RT) (K : Nat → Nat → Bool) : Prop := ∃ un, SEEN h v un ∧ ∀ c d, c < 36 → isD d = true → (un c d = true ↔ ∃ f, Sol R K f ∧ f c = d)
/-- what the solver knows of the count -/
def CCH (h : PH) (v : Nat) (R : RT) (K : Nat → Nat → Bool) (V : Nat → Value) : Prop := ∃ lim fo, V 4 = .int (nI lim) ∧ V 5 = .int (nI fo) ∧ lim ≤ 1000 ∧ fo = min lim (NS R K) ∧ (fo < lim → SCO h v R K)
theorem SCO.fr {h h' : PH} {v : Nat} {R : RT} {K : Nat → Nat → Bool} (H : SCO h v R K) (e : h'.2 (v + 6) = h.2 (v + 6)) : SCO h' v R K := by
  obtain ⟨un, h1, h2⟩ := H
  exact ⟨un, h1.fr e, h2⟩
theorem CCH.fr {h h' : PH} {v : Nat} {R : RT} {K : Nat → Nat → Bool} {V V' : Nat → Value} (H : CCH h v R K V) (e : h'.2 (v + 6) = h.2 (v + 6)) (e4 : V' 4 = V 4) (e5 : V' 5 = V 5) : CCH h' v R K V' := by
  obtain ⟨lim, fo, h1, h2, h3, h4, h5⟩ := H
  exact ⟨lim, fo, e4.trans h1, e5.trans h2, h3, h4, fun z => (h5 z).fr e⟩
theorem r_area {h : PH} {r : Nat} {R : RT} (HR : RulAt h r R) (hR : ROK R) {F : Nat} (hF : 40 ≤ F) : ∃ x, f_Rul_area F r h = some x := by
  obtain ⟨x, _, h1⟩ := LC (fun n i (s : Int64) => f_Rul_area_4 F n r s (nI i) h) (fun _ _ => True) (rn R)
    (fun n i s hi _ => by
      have h8 := hR.1
      obtain ⟨r1, r2, r3, r4, r5⟩ := hR.2 i hi
      have hm := mxl_le (rk R i)
      obtain ⟨V, kd, sm, ln, cl, ar, pe, a0, a1, a2, a3, a4, a5, a6, a7, ⟨b1, b2, b3, b4, b5, b6⟩, c1, c2⟩ := HR
      show ∃ s', True ∧ f_Rul_area_4 F (n + 1) r s (nI i) h = _
      have hact : f_Rul_isActive r (nI i) h = some (if 2 ≤ rl R i then 1 else 0) := by
        unfold f_Rul_isActive
        rw [ob_R a0 (by omega) a3, bnd_s, ar_I b3 (by omega) (by omega), bnd_s, (c1 i hi).2.2.1]
        by_cases q : rl R i < 2
        · rw [if_pos (show nI (rl R i) < (2 : Int32) from nI_lt (a := (rl R i)) (b := 2) (by omega) (by omega)), if_neg (by omega)]
        · rw [if_neg (show ¬ nI (rl R i) < (2 : Int32) from nI_nlt (a := (rl R i)) (b := 2) (by omega) (by omega)), if_pos (by omega)]
      rw [f_Rul_area_4, b_Rul_area_4, ob_I a0 (by omega) a7, bnd_s, if_neg (show ¬ nI (rn R) ≤ nI i from nI_ge (a := (i)) (b := (rn R)) (by omega) (by omega)), ob_K a0, bnd_s, hact, bnd_s]
      by_cases q : 2 ≤ rl R i
      · rw [if_pos q, if_neg (by decide), ob_R a0 (by omega) a5, bnd_s, ar_L b5 (by omega) (by omega), bnd_s, b_Rul_area_29, nI_1]
        exact ⟨_, trivial, rfl⟩
      · rw [if_neg q, if_pos rfl, b_Rul_area_29, nI_1]
        exact ⟨s, trivial, rfl⟩) (rn R) 0 0 F (by omega) (by have := hR.1; omega) trivial
  obtain ⟨m, hm⟩ : ∃ m, F - rn R = m + 1 := ⟨F - rn R - 1, by have := hR.1; omega⟩
  refine ⟨x, ?_⟩
  unfold f_Rul_area
  refine Eq.trans h1 ?_
  show f_Rul_area_4 F (F - rn R) r x (nI (rn R)) h = _
  rw [hm, f_Rul_area_4, b_Rul_area_4, (ru_ck HR).2, bnd_s, if_pos (show nI (rn R) ≤ nI (rn R) from nI_le (by omega) (by have := hR.1; omega))]
theorem min_nI {a b : Nat} (ha : a < 2 ^ 31) (hb : b < 2 ^ 31) : (if nI a < nI b then nI a else nI b) = nI (min a b) := by
  by_cases q : a < b
  · rw [if_pos (nI_lt (by omega) hb), Nat.min_eq_left (by omega)]
  · rw [if_neg (nI_nlt (by omega) (by omega)), Nat.min_eq_right (by omega)]
theorem s_count {h : PH} {v p r : Nat} {V : Nat → Value} {R : RT} {K : Nat → Nat → Bool} {P T S : Nat → Bool} (H : SolSh h v V) (HC : CCH h v R K V) (HP : PosAt h p K P T S) (HR : RulAt h r R) (hR : ROK R) (hI : INV R K T S) (hp : PI K P) (hvr : r + 7 ≤ v ∨ v + 86 ≤ r) (hvp : p + 2 ≤ v ∨ v + 86 ≤ p) {q : Nat} (h1 : 1 ≤ q) (hq : q ≤ 1000) {F : Nat} (hF : 3000 ≤ F) :
    ∃ h' V', f_Sol_countSolutions F v p r (nI q) h = some (nI (min q (NS R K)), h') ∧ SolSh h' v V' ∧ (∀ k, k = 6 ∨ k = 7 → V' k = V k) ∧ CCH h' v R K V' ∧ (NS R K < q → SCO h' v R K) ∧ Fr (LG v 0) h h' := by
  obtain ⟨lim, fo, v4, v5, hl, hfo, hsco⟩ := HC
  have hfl : fo ≤ lim := by omega
  have h89 : ∀ s W fo', SolSh s v W → W 5 = .int (nI fo') → fo' ≤ 1000 → b_Sol_countSolutions_89 F v (nI q) s = some (nI (min q fo'), s) := by
    intro s W fo' x1 x2 x3
    rw [b_Sol_countSolutions_89, ob_I x1.1 (by omega) x2, bnd_s, bnd_s, min_nI (by omega) (by omega)]
  unfold f_Sol_countSolutions
  rw [ob_I H.1 (by omega) v5, bnd_s, ob_I H.1 (by omega) v4, bnd_s]
  by_cases w : lim ≤ fo
  rotate_left
  · rw [if_neg (show ¬ nI lim ≤ nI fo from nI_ge (by omega) (by omega)), b_Sol_countSolutions_16, if_neg (by decide), h89 h V fo H v5 (by omega)]
    have hN : NS R K = fo := by omega
    exact ⟨h, V, by rw [hN], H, fun _ _ => rfl, ⟨lim, fo, v4, v5, hl, hfo, hsco⟩, fun _ => hsco (by omega), Fr.rf _ _⟩
  rw [if_pos (show nI lim ≤ nI fo from nI_le (by omega) (by omega)), b_Sol_countSolutions_16, if_pos rfl, ob_I H.1 (by omega) v4, bnd_s]
  by_cases w2 : q ≤ lim
  · rw [if_pos (show nI q ≤ nI lim from nI_le (by omega) (by omega)), h89 h V fo H v5 (by omega)]
    exact ⟨h, V, by congr 3; omega, H, fun _ _ => rfl, ⟨lim, fo, v4, v5, hl, hfo, hsco⟩, fun z => by omega, Fr.rf _ _⟩
  rw [if_neg (show ¬ nI q ≤ nI lim from nI_ge (by omega) (by omega))]
  obtain ⟨p1, H1⟩ := H.up (.int (nI q)) (k := 4) (by omega)
  obtain ⟨p2, H2⟩ := H1.up (.int (0 : Int32)) (k := 5) (by omega)
  rw [p1, bnd_s, p2, bnd_s]
  have F2 : Fr (fun k => k = v) h (hset (hset h v (obj 7 12 (updV V 4 (.int (nI q))))) v (obj 7 12 (updV (updV V 4 (.int (nI q))) 5 (.int 0)))) := ((Fr.rf _ _).sq _).sq _
  have g4 : (updV (updV V 4 (.int (nI q))) 5 (.int 0)) 4 = .int (nI q) := (vu_n _ _ (by omega)).trans (vu_s _ _ _)
  have g5 : (updV (updV V 4 (.int (nI q))) 5 (.int 0)) 5 = .int (nI 0) := vu_s _ _ _
  have gk : ∀ k, k ≠ 4 → k ≠ 5 → (updV (updV V 4 (.int (nI q))) 5 (.int 0)) k = V k := fun k a b => (vu_n _ _ b).trans (vu_n _ _ a)
  generalize updV (updV V 4 (.int (nI q))) 5 (.int 0) = V2 at H2 F2 g4 g5 gk p2
  generalize hset (hset h v (obj 7 12 (updV V 4 (.int (nI q))))) v (obj 7 12 V2) = h2 at H2 F2 p2
  obtain ⟨g0, hg0⟩ := H2.2.2.2.2.1
  obtain ⟨s, ⟨i0, g', i1, i2, i3⟩, e1⟩ := LC (fun n i s => f_Sol_countSolutions_44 F n v p r (nI q) (nI i) s) (fun i s => 1 ≤ i ∧ ∃ g', s.2 (v + 6) = oL 7 g' ∧ Fr (fun k => k = v + 6) h2 s ∧ ∀ d, isD d = true → d < i → g' d = 0) 7
    (fun n i s hi ⟨i0, g', i1, i2, i3⟩ => by
      refine ⟨hset s (v + 6) (oL 7 (vp_updL g' i 0)), ⟨by omega, _, hset_s _ _ _, i2.sq _, fun d hd hl => ?_⟩, ?_⟩
      · by_cases z : d = i
        · subst z; exact pk_uLs
        · rw [pk_uLn z]; exact i3 d hd (by omega)
      · show f_Sol_countSolutions_44 F (n + 1) v p r (nI q) (nI i) s = _
        rw [f_Sol_countSolutions_44, b_Sol_countSolutions_44, if_neg (show ¬ (6 : Int32) < nI i from nI_nlt (a := 6) (b := (i)) (by omega) (by omega)), ob_R ((i2.2 v (by omega)).trans H2.1) (by omega) H2.2.1.2.2.1, bnd_s, ar_sL _ i1 (by omega) (by omega), bnd_s, nI_1]) 6 1 h2 F rfl (by omega) ⟨Nat.le_refl 1, g0, hg0, Fr.rf _ _, fun d hd hl => by have := isD_b hd; omega⟩
  obtain ⟨m, hm⟩ : ∃ m, F - 6 = m + 1 := ⟨F - 7, by omega⟩
  have H3 : SolSh s v V2 := by
    obtain ⟨a0, a1, a2, ⟨x1, a3, a4⟩, ⟨z1, a5⟩, a6, ⟨z2, a7, a8⟩, a9⟩ := H2
    exact ⟨(i2.2 _ (by omega)).trans a0, a1, a2.fr fun j hj => i2.2 _ (by omega), ⟨x1, (i2.2 _ (by omega)).trans a3, a4⟩, ⟨_, i1⟩, a6.fr (i2.2 _ (by omega)) (i2.2 _ (by omega)), ⟨z2, (i2.2 _ (by omega)).trans a7, a8⟩, fun j hj => (a9 j hj).fr (i2.2 _ (by omega)) (i2.2 _ (by omega))⟩
  have F3 : Fr (fun k => k = v ∨ k = v + 6) h s := (F2.mo fun k hk => Or.inl hk).tr (i2.mo fun k hk => Or.inr hk)
  have HR3 : RulAt s r R := HR.fr F3 fun k hk z => by simp only [UR] at hk; omega
  obtain ⟨ar, har⟩ := r_area HR3 hR (F := F) (by omega)
  obtain ⟨p4, H4⟩ := H3.up (.long ar) (k := 9) (by omega)
  have F4 : Fr (fun k => k = v) s (hset s v (obj 7 12 (updV V2 9 (.long ar)))) := (Fr.rf _ _).sq _
  have k4 : (updV V2 9 (.long ar)) 4 = .int (nI q) := (vu_n _ _ (by omega)).trans g4
  have k5 : (updV V2 9 (.long ar)) 5 = .int (nI 0) := (vu_n _ _ (by omega)).trans g5
  have k9 : (updV V2 9 (.long ar)) 9 = .long ar := vu_s _ _ _
  have kk : ∀ k, k ≠ 4 → k ≠ 5 → k ≠ 9 → (updV V2 9 (.long ar)) k = V k := fun k a b c => (vu_n _ _ c).trans (gk k a b)
  generalize updV V2 9 (.long ar) = V4 at H4 F4 k4 k5 k9 kk p4
  generalize hset s v (obj 7 12 V4) = h4 at H4 F4 p4
  have F04 : Fr (fun k => k = v ∨ k = v + 6) h h4 := F3.tr (F4.mo fun k hk => Or.inl hk)
  have HP4 : PosAt h4 p K P T S := HP.fr (F04.2 _ (by omega)) (F04.2 _ (by omega))
  obtain ⟨h5, e5, HP5, F5⟩ := p_copyFrom HP4 (p := v + 10 + 2 * 0) (H4.2.2.2.2.2.2.2 0 (by omega)) (by omega)
  have e5' : ∀ k, ¬ PS (v + 10 + 2 * 0) k → h5.2 k = h4.2 k := F5.2
  simp only [PS] at e5'
  have H5 : SolSh h5 v V4 := by
    obtain ⟨a0, a1, a2, ⟨x1, a3, a4⟩, ⟨z1, a5⟩, a6, ⟨z2, a7, a8⟩, a9⟩ := H4
    refine ⟨(e5' _ (by omega)).trans a0, a1, a2.fr fun j hj => e5' _ (by omega), ⟨x1, (e5' _ (by omega)).trans a3, a4⟩, ⟨z1, (e5' _ (by omega)).trans a5⟩, a6.fr (e5' _ (by omega)) (e5' _ (by omega)), ⟨z2, (e5' _ (by omega)).trans a7, a8⟩, fun j hj => ?_⟩
    by_cases z : j = 0
    · subst z; exact HP5.sh
    · exact (a9 j hj).fr (e5' _ (by omega)) (e5' _ (by omega))
  have HR5 : RulAt h5 r R := (HR3.fr F4 fun k hk z => by simp only [UR] at hk; omega).fr F5 fun k hk z => by simp only [UR, PS] at hk z; omega
  have hS5 : SEEN h5 v fun _ _ => false := ⟨g', (e5' _ (by omega)).trans ((F4.2 _ (by omega)).trans i1), fun d hd => by rw [i3 d hd (isD_b hd).2]; exact CS.no⟩
  have hop : opn K ≤ 36 := by
    have := cnt_neg (fun c => decide (2 ≤ sz (K c))) 36
    unfold opn
    omega
  obtain ⟨h6, V6, un6, e6, H6, c6, S6, F6, C6⟩ := c_lev hF hR (v := v) (r := r) (lim := q) hq hvr 36 K P 0 h5 0 (fun _ _ => false) T S V4 RD ⟨H5, HP5, hS5, HR5⟩ k4 k5 (by omega) ⟨ar, k9⟩ hI hp hop (by omega) (by decide)
  have hfo6 : V6 5 = .int (nI (min q (NS R K))) := by rw [C6.1, Nat.zero_add]
  have hsco6 : NS R K ≤ q → SCO h6 v R K := fun z => ⟨un6, S6, fun c d hc hd => by
    rw [C6.2 (by omega) c d hc hd]
    constructor
    · rintro (y | ⟨f, y1, _, y3⟩)
      · cases y
      · exact ⟨f, y1, y3⟩
    · rintro ⟨f, y1, y3⟩
      exact Or.inr ⟨f, y1, trivial, y3⟩⟩
  refine ⟨h6, V6, ?_, H6, fun k hk => (c6 k (by omega) (by omega) (by omega)).trans (kk k (by omega) (by omega) (by omega)), ⟨q, _, (c6 4 (by omega) (by omega) (by omega)).trans k4, hfo6, hq, rfl, fun z => hsco6 (by omega)⟩, fun z => hsco6 (by omega), (F04.mo fun k hk => by simp only [LG]; omega).tr ((F5.mo fun k hk => by simp only [PS, LG] at hk ⊢; omega).tr F6)⟩
  refine Eq.trans e1 ?_
  show f_Sol_countSolutions_44 F (F - 6) v p r (nI q) (nI 7) s = _
  rw [hm, f_Sol_countSolutions_44, b_Sol_countSolutions_44, if_pos (show (6 : Int32) < nI 7 from nI_lt (a := 6) (b := 7) (by omega) (by omega)), (ru_ck HR3).1, bnd_s, har, bnd_s, p4, bnd_s, (H4.lv (i := 0) (by omega)).1, bnd_s, show (0 : Int32) = nI 0 from rfl, (H4.lv (i := 0) (by omega)).2, bnd_s, (show cK h4 (v + 10 + 2 * 0) 1 = some () by obtain ⟨V9, sp, z, _⟩ := H4.2.2.2.2.2.2.2 0 (by omega); exact ob_K z), bnd_s, e5, bnd_s, e6, bnd_s, h89 h6 V6 _ H6 hfo6 (by omega)]
  congr 3
  omega
theorem tot_d (K : Nat → Nat → Bool) : tot K = smN (fun d => if isD d then cnt (fun c => K c d) 36 else 0) 7 := by
  show tot K = 0 + 0 + cnt (fun c => K c 1) 36 + cnt (fun c => K c 2) 36 + cnt (fun c => K c 3) 36 + cnt (fun c => K c 4) 36 + cnt (fun c => K c 5) 36 + cnt (fun c => K c 6) 36
  unfold tot
  rw [Nat.add_zero, Nat.zero_add, ← smN_cnt, ← smN_cnt, ← smN_cnt, ← smN_cnt, ← smN_cnt, ← smN_cnt, ← smN_add, ← smN_add, ← smN_add, ← smN_add, ← smN_add]
  rfl
theorem s_unseen {h : PH} {v p : Nat} {V : Nat → Value} {K : Nat → Nat → Bool} {P T S : Nat → Bool} {un : Nat → Nat → Bool} (H : SolSh h v V) (HS : SEEN h v un) (HP : PosAt h p K P T S) {F : Nat} (hF : 40 ≤ F) : f_Sol_countUnseen F v p h = some (nI (tot fun c d => K c d && !un c d)) := by
  obtain ⟨g, g1, g2⟩ := HS
  obtain ⟨W, sp, pl, to, st, c0, c1, c2, c3, c4, c5, c6, _⟩ := HP
  obtain ⟨s, ⟨i0, e⟩, e1⟩ := LC (fun n i (s : Int32) => f_Sol_countUnseen_4 F n v p s (nI i) h) (fun i s => 1 ≤ i ∧ s = nI (smN (fun d => if isD d then cnt (fun c => K c d && !un c d) 36 else 0) i)) 7
    (fun n i s hi ⟨i0, e⟩ => by
      have hD := isD_i i0 hi
      subst e
      refine ⟨_, ⟨by omega, rfl⟩, ?_⟩
      show f_Sol_countUnseen_4 F (n + 1) v p _ (nI i) h = _
      rw [f_Sol_countUnseen_4, b_Sol_countUnseen_4, if_neg (show ¬ (6 : Int32) < nI i from nI_nlt (a := 6) (b := (i)) (by omega) (by omega)), ob_R c0 (by omega) c1, bnd_s, ar_L c5 (by omega) (by omega), bnd_s, ob_R H.1 (by omega) H.2.1.2.2.1, bnd_s, ar_L g1 (by omega) (by omega), bnd_s, ((c6 i hD).sub (g2 i hD)).cnt, bnd_s, nI_add, nI_1]
      congr 2
      show _ = _ + if isD i = true then cnt (fun c => K c i && !un c i) 36 else 0
      rw [hD]
      rfl) 6 1 0 F rfl (by omega) ⟨Nat.le_refl 1, rfl⟩
  obtain ⟨m, hm⟩ : ∃ m, F - 6 = m + 1 := ⟨F - 7, by omega⟩
  unfold f_Sol_countUnseen
  refine Eq.trans e1 ?_
  show f_Sol_countUnseen_4 F (F - 6) v p s (nI 7) h = _
  rw [hm, f_Sol_countUnseen_4, b_Sol_countUnseen_4, if_pos (show (6 : Int32) < nI 7 from nI_lt (a := 6) (b := 7) (by omega) (by omega)), e, tot_d]
/-- what the solver knows of the guesses -/
def GCH (h : PH) (v : Nat) (V : Nat → Value) (L : EL) : Prop := V 6 = .int 0 ∨ (V 6 = .int 1 ∧ LA h v V 0 L)
theorem LA.fr {h h' : PH} {v g : Nat} {V V' : Nat → Value} {L : EL} (H : LA h v V g L) (e0 : h'.2 (v + 7) = h.2 (v + 7)) (e1 : h'.2 (v + 7 + 1) = h.2 (v + 7 + 1)) (e : V' 7 = V 7) : LA h' v V' g L := by
  unfold LA at H ⊢
  cases q : ffst L with
  | none => rw [q] at H; exact e.trans H
  | some x =>
    rw [q] at H
    obtain ⟨h1, K', P', T', S', h2, h3⟩ := H
    exact ⟨e.trans h1, K', P', T', S', h2.fr e0 e1, h3⟩
theorem s_guess {h : PH} {v p r : Nat} {V : Nat → Value} {R : RT} {K : Nat → Nat → Bool} {P T S : Nat → Bool} (H : SolSh h v V) (h7 : ∃ x, V 7 = .int x) {L : EL} (HG : GCH h v V L) (hE : Ev R 36 K P L) (HP : PosAt h p K P T S) (HR : RulAt h r R) (hR : ROK R) (hI : INV R K T S) (hp : PI K P) (hvr : r + 7 ≤ v ∨ v + 86 ≤ r) (hvp : p + 2 ≤ v ∨ v + 86 ≤ p) {F : Nat} (hF : 3000 ≤ F) :
    ∃ x h' V', f_Sol_countGuesses F v p r h = some (x, h') ∧ V' 7 = .int x ∧ SolSh h' v V' ∧ V' 6 = .int 1 ∧ LA h' v V' 0 L ∧ (∀ k, k ≠ 6 → k ≠ 7 → V' k = V k) ∧ Fr (LF v 0) h h' := by
  unfold f_Sol_countGuesses
  rcases HG with g6 | ⟨g6, gL⟩
  rotate_left
  · obtain ⟨x, hx⟩ := h7
    refine ⟨x, h, V, ?_, hx, H, g6, gL, fun _ _ _ => rfl, Fr.rf _ _⟩
    rw [ob_I H.1 (by omega) g6, bnd_s, if_neg (by decide), b_Sol_countGuesses_34, ob_I H.1 (by omega) hx, bnd_s]
  rw [ob_I H.1 (by omega) g6, bnd_s, if_pos rfl]
  obtain ⟨p1, H1⟩ := H.up (.int (0 : Int32)) (k := 7) (by omega)
  have F1 : Fr (fun k => k = v) h (hset h v (obj 7 12 (updV V 7 (.int 0)))) := (Fr.rf _ _).sq _
  have k7 : (updV V 7 (.int 0)) 7 = .int (nI 0) := vu_s _ _ _
  have kk : ∀ k, k ≠ 7 → (updV V 7 (.int 0)) k = V k := fun k a => vu_n _ _ a
  rw [p1, bnd_s]
  generalize updV V 7 (.int 0) = V1 at H1 F1 k7 kk p1
  generalize hset h v (obj 7 12 V1) = h1 at H1 F1 p1
  have HP1 : PosAt h1 p K P T S := HP.fr (F1.2 _ (by omega)) (F1.2 _ (by omega))
  obtain ⟨h5, e5, HP5, F5⟩ := p_copyFrom HP1 (p := v + 10 + 2 * 0) (H1.2.2.2.2.2.2.2 0 (by omega)) (by omega)
  have e5' : ∀ k, ¬ PS (v + 10 + 2 * 0) k → h5.2 k = h1.2 k := F5.2
  simp only [PS] at e5'
  have H5 : SolSh h5 v V1 := by
    obtain ⟨a0, a1, a2, ⟨x1, a3, a4⟩, ⟨z1, a5⟩, a6, ⟨z2, a7, a8⟩, a9⟩ := H1
    refine ⟨(e5' _ (by omega)).trans a0, a1, a2.fr fun j hj => e5' _ (by omega), ⟨x1, (e5' _ (by omega)).trans a3, a4⟩, ⟨z1, (e5' _ (by omega)).trans a5⟩, a6.fr (e5' _ (by omega)) (e5' _ (by omega)), ⟨z2, (e5' _ (by omega)).trans a7, a8⟩, fun j hj => ?_⟩
    by_cases z : j = 0
    · subst z; exact HP5.sh
    · exact (a9 j hj).fr (e5' _ (by omega)) (e5' _ (by omega))
  have HR5 : RulAt h5 r R := (HR.fr F1 fun k hk z => by simp only [UR] at hk; omega).fr F5 fun k hk z => by simp only [UR, PS] at hk z; omega
  obtain ⟨h6, V6, e6, H6, hV6, F6, hA⟩ := s_lev hR hvr hF 36 K P L 0 h5 0 T S V1 RD HR5 H5 k7 HP5 hI hp hE (by omega) (by decide)
  obtain ⟨p8, H8⟩ := H6.up (.int (1 : Int32)) (k := 6) (by omega)
  have F8 : Fr (fun k => k = v) h6 (hset h6 v (obj 7 12 (updV V6 6 (.int 1)))) := (Fr.rf _ _).sq _
  have hA8 : LA (hset h6 v (obj 7 12 (updV V6 6 (.int 1)))) v (updV V6 6 (.int 1)) 0 L := hA.fr (hset_n _ _ (by omega)) (hset_n _ _ (by omega)) (vu_n _ _ (by omega))
  have hx7 : ∃ x, (updV V6 6 (.int 1)) 7 = .int x := by
    unfold LA at hA8
    cases q : ffst L with
    | none => rw [q] at hA8; exact ⟨_, hA8⟩
    | some x => rw [q] at hA8; exact ⟨_, hA8.1⟩
  obtain ⟨x, hx⟩ := hx7
  refine ⟨x, _, _, ?_, hx, H8, vu_s _ _ _, hA8, fun k k6 k7 => (vu_n _ _ k6).trans ((hV6 k k7).trans (kk k k7)), (F1.mo fun k hk => by simp only [LF]; omega).tr ((F5.mo fun k hk => by simp only [PS, LF] at hk ⊢; omega).tr (F6.tr (F8.mo fun k hk => by simp only [LF]; omega)))⟩
  rw [(H1.lv (i := 0) (by omega)).1, bnd_s, show (0 : Int32) = nI 0 from rfl, (H1.lv (i := 0) (by omega)).2, bnd_s, (show cK h1 (v + 10 + 2 * 0) 1 = some () by obtain ⟨V9, sp, z, _⟩ := H1.2.2.2.2.2.2.2 0 (by omega); exact ob_K z), bnd_s, e5, bnd_s, e6, bnd2_s, p8, bnd_s, b_Sol_countGuesses_34, ob_I H8.1 (by omega) hx, bnd_s]
