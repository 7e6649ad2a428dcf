/-! Positions: dead, finished, opened, copied; the grid's sets. -/
def dd (K : Nat → Nat → Bool) : Bool := decide (cnt (fun c => decide (sz (K c) = 0)) 36 ≠ 0)
theorem dd_f {K : Nat → Nat → Bool} : dd K = false ↔ ∀ c, c < 36 → sz (K c) ≠ 0 := by
  unfold dd
  rw [decide_eq_false_iff_not, Classical.not_not, cnt_0]
  constructor
  · intro h c hc
    exact of_decide_eq_false (h c hc)
  · intro h c hc
    exact decide_eq_false (h c hc)
theorem dd_x {K L : Nat → Nat → Bool} (h : ∀ c, c < 36 → ∀ d, isD d = true → K c d = L c d) : dd K = dd L := by
  unfold dd
  rw [cnt_congr (q := fun c => decide (sz (L c) = 0)) fun c hc => by show decide (sz (K c) = 0) = _; rw [sz_ext (h c hc)]]
def fin36 (K : Nat → Nat → Bool) (P : Nat → Bool) : Bool := decide (cnt (fun c => !P c) 36 = 0) && !dd K
theorem all_P {P : Nat → Bool} : cnt (fun c => !P c) 36 = 0 ↔ ∀ c, c < 36 → P c = true := by
  rw [cnt_0]
  exact ⟨fun h c hc => by simpa using h c hc, fun h c hc => by simpa using h c hc⟩
theorem fin36_t {K : Nat → Nat → Bool} {P : Nat → Bool} : fin36 K P = true ↔ (∀ c, c < 36 → P c = true) ∧ ∀ c, c < 36 → sz (K c) ≠ 0 := by
  unfold fin36
  rw [Bool.and_eq_true, decide_eq_true_iff, all_P, Bool.not_eq_true', dd_f]
theorem p_isDead {h : PH} {p : Nat} {K : Nat → Nat → Bool} {P T S : Nat → Bool} (H : PosAt h p K P T S) : f_Pos_isDead p h = some (if dd K then 1 else 0) := by
  obtain ⟨V, sp, pl, to, st, a0, a1, a2, a3, a4, a5, a6, a7, a8, a9⟩ := H
  have hR : gR h p 1 0 = some (p + 1) := ob_R a0 (by omega) a1
  have hL : ∀ e, isD e = true → aL h (p + 1) (nI e) = some (sp e) := fun e he => ar_L a5 (isD_b he).2 (by omega)
  have hU := (((((a6 1 rfl).or (a6 2 rfl)).or (a6 3 rfl)).or (a6 4 rfl)).or (a6 5 rfl)).or (a6 6 rfl)
  unfold f_Pos_isDead
  rw [hR, bnd_s, show (1 : Int32) = nI 1 from rfl, hL 1 rfl, bnd_s, bnd_s, show (2 : Int32) = nI 2 from rfl, hL 2 rfl, bnd_s, bnd_s, show (3 : Int32) = nI 3 from rfl, hL 3 rfl, bnd_s, bnd_s, show (4 : Int32) = nI 4 from rfl, hL 4 rfl, bnd_s, bnd_s, show (5 : Int32) = nI 5 from rfl, hL 5 rfl, bnd_s, bnd_s, show (6 : Int32) = nI 6 from rfl, hL 6 rfl, bnd_s]
  have hz : ∀ c, (sz (K c) ≠ 0 ↔ (K c 1 || K c 2 || K c 3 || K c 4 || K c 5 || K c 6) = true) := by
    intro c
    unfold sz
    generalize K c 1 = a
    generalize K c 2 = b
    generalize K c 3 = d
    generalize K c 4 = e
    generalize K c 5 = f
    generalize K c 6 = g
    revert a b d e f g
    decide
  cases q : dd K
  · rw [dd_f] at q
    rw [if_pos ((hU.lg CS.all).mpr fun c hc => (hz c).mp (q c hc))]
    rfl
  · rw [if_neg fun z => by
      have h1 := (hU.lg CS.all).mp z
      have h2 : dd K = false := dd_f.mpr fun c hc => (hz c).mpr (h1 c hc)
      rw [h2] at q
      cases q]
    rfl
theorem p_isFinished {h : PH} {p : Nat} {K : Nat → Nat → Bool} {P T S : Nat → Bool} (H : PosAt h p K P T S) : f_Pos_isFinished p h = some (if fin36 K P then 1 else 0) := by
  have hd := p_isDead H
  have hk := H.ck
  obtain ⟨V, sp, pl, to, st, a0, a1, a2, a3, a4, a5, a6, a7, a8, a9⟩ := H
  unfold f_Pos_isFinished fin36
  rw [ob_L a0 (by omega) a2, bnd_s, hk, bnd_s, hd, bnd_s]
  by_cases q : ∀ c, c < 36 → P c = true
  · rw [if_pos ((a7.lg CS.all).mpr q), decide_eq_true (all_P.mpr q)]
    cases dd K <;> rfl
  · rw [if_neg fun z => q ((a7.lg CS.all).mp z), decide_eq_false fun z => q (all_P.mp z)]
    rfl
theorem p_copyFrom {h : PH} {p q : Nat} {K : Nat → Nat → Bool} {P T S : Nat → Bool} (H : PosAt h q K P T S) (Hp : PosSh h p) (hpq : p ≠ q ∧ p ≠ q + 1 ∧ p + 1 ≠ q) :
    ∃ h', f_Pos_copyFrom p q h = some h' ∧ PosAt h' p K P T S ∧ Fr (PS p) h h' := by
  obtain ⟨V, sp, pl, to, st, a0, a1, a2, a3, a4, a5, a6, a7, a8, a9⟩ := H
  obtain ⟨W, s0, b0, b1, b2⟩ := Hp
  refine ⟨hset (hset (hset (hset h (p + 1) (oL 7 (va_cpy sp s0 0 0 7))) p (obj 1 4 (updV W 1 (.long pl)))) p (obj 1 4 (updV (updV W 1 (.long pl)) 2 (.long to)))) p (obj 1 4 (updV (updV (updV W 1 (.long pl)) 2 (.long to)) 3 (.int st))), ?_, ⟨_, _, pl, to, st, hset_s _ _ _, ?_, ?_, ?_, ?_, (hset_n _ _ (by omega)).trans ((hset_n _ _ (by omega)).trans ((hset_n _ _ (by omega)).trans (hset_s _ _ _))), fun d hd => ?_, a7, a8, a9⟩, ((((Fr.rf _ _).st _ (Or.inr rfl)).st _ (Or.inl rfl)).st _ (Or.inl rfl)).st _ (Or.inl rfl)⟩
  rotate_left 1
  · rw [vu_n _ _ (by omega), vu_n _ _ (by omega), vu_n _ _ (by omega), b1]
  · rw [vu_n _ _ (by omega), vu_n _ _ (by omega), vu_s]
  · rw [vu_n _ _ (by omega), vu_s]
  · rw [vu_s]
  · have := isD_b hd
    rw [pk_cpy_in (by omega) (by omega)]
    have e : 0 + (d - 0) = d := by omega
    rw [e]
    exact a6 d hd
  · unfold f_Pos_copyFrom
    have f1 := cp_L (n := 7) a5 b2 (by omega) (by omega) (by omega)
    have f2 : ∀ c, (hset h (p + 1) c).2 q = obj 1 4 V := fun c => (hset_n _ _ (by omega)).trans a0
    have f3 : ∀ c, (hset h (p + 1) c).2 p = obj 1 4 W := fun c => (hset_n _ _ (by omega)).trans b0
    rw [ob_R a0 (by omega) a1, bnd_s, ob_R b0 (by omega) b1, bnd_s, show (7 : Int32) = nI 7 from rfl, f1, bnd_s, ob_L (f2 _) (by omega) a2, bnd_s, ob_P _ (f3 _) (by omega), bnd_s, ob_L ((hset_n _ _ (Ne.symm hpq.1)).trans (f2 _)) (by omega) a3, bnd_s, ob_P _ (hset_s _ _ _) (by omega), bnd_s,
      ob_I ((hset_n _ _ (Ne.symm hpq.1)).trans ((hset_n _ _ (Ne.symm hpq.1)).trans (f2 _))) (by omega) a4, bnd_s, ob_P _ (hset_s _ _ _) (by omega), bnd_s]
theorem p_openAll {h : PH} {p : Nat} (Hp : PosSh h p) {F : Nat} (hF : 40 ≤ F) :
    ∃ h', f_Pos_openAll F p h = some h' ∧ PosAt h' p (fun _ _ => true) (fun _ => false) (fun _ => true) (fun _ => false) ∧ Fr (PS p) h h' := by
  obtain ⟨h1, ⟨_, W, s0, b0, b1, b2, b3, b4⟩, e1⟩ := LC (fun n i h => f_Pos_openAll_2 F n p (nI i) h) (fun i h' => 1 ≤ i ∧ ∃ V sp, h'.2 p = obj 1 4 V ∧ V 0 = .ref (p + 1) ∧ h'.2 (p + 1) = oL 7 sp ∧ (∀ d, isD d = true → d < i → sp d = 68719476735) ∧ Fr (PS p) h h') 7
    (fun n i s hi ⟨h1, W, s0, b0, b1, b2, b3, b4⟩ => by
      refine ⟨hset s (p + 1) (oL 7 (vp_updL s0 i 68719476735)), ⟨by omega, W, _, (hset_n _ _ (by omega)).trans b0, b1, hset_s _ _ _, fun d hd hl => ?_, b4.st _ (Or.inr rfl)⟩, ?_⟩
      rotate_left 1
      · show f_Pos_openAll_2 F (n + 1) p (nI i) s = _
        rw [f_Pos_openAll_2, b_Pos_openAll_2, if_neg (show ¬ (6 : Int32) < nI i from nI_nlt (a := 6) (b := (i)) (by omega) (by omega)), ob_R b0 (by omega) b1, bnd_s, ar_sL _ b2 (by omega) (by omega), bnd_s, nI_1]
      · by_cases q : d = i
        · subst q
          exact pk_uLs
        · rw [pk_uLn q]
          exact b3 d hd (by omega)) 6 1 h F rfl (by omega) ⟨by omega, by
      obtain ⟨V, sp, a0, a1, a2⟩ := Hp
      exact ⟨V, sp, a0, a1, a2, fun d hd hl => by have := isD_b hd; omega, Fr.rf _ _⟩⟩
  obtain ⟨m, hm⟩ : ∃ m, F - 6 = m + 1 := ⟨F - 7, by omega⟩
  refine ⟨hset (hset (hset h1 p (obj 1 4 (updV W 1 (.long 0)))) p (obj 1 4 (updV (updV W 1 (.long 0)) 2 (.long 68719476735)))) p (obj 1 4 (updV (updV (updV W 1 (.long 0)) 2 (.long 68719476735)) 3 (.int 0))), ?_, ⟨_, s0, 0, 68719476735, 0, hset_s _ _ _, ?_, ?_, ?_, ?_, (hset_n _ _ (by omega)).trans ((hset_n _ _ (by omega)).trans ((hset_n _ _ (by omega)).trans b2)), fun d hd => ?_, CS.no, CS.all, fun i hi => by rw [b_0]; simp⟩, ((b4.st _ (Or.inl rfl)).st _ (Or.inl rfl)).st _ (Or.inl rfl)⟩
  rotate_left 1
  · rw [vu_n _ _ (by omega), vu_n _ _ (by omega), vu_n _ _ (by omega), b1]
  · rw [vu_n _ _ (by omega), vu_n _ _ (by omega), vu_s]
  · rw [vu_n _ _ (by omega), vu_s]
  · rw [vu_s]
  · rw [b3 d hd (isD_b hd).2]
    exact CS.all
  · unfold f_Pos_openAll
    refine Eq.trans e1 ?_
    show f_Pos_openAll_2 F (F - 6) p (nI 7) h1 = _
    rw [hm, f_Pos_openAll_2, b_Pos_openAll_2, if_pos (show (6 : Int32) < nI 7 from nI_lt (a := 6) (b := 7) (by omega) (by omega)), ob_P _ b0 (by omega), bnd_s, ob_P _ (hset_s _ _ _) (by omega), bnd_s, ob_P _ (hset_s _ _ _) (by omega), bnd_s]
/-- what the givens leave -/
def gvK (G : Nat → Nat) : Nat → Nat → Bool := fun c d => decide (G c = 0 ∨ d = G c)
def gvOK (G : Nat → Nat) : Prop := ∀ c, c < 36 → G c < 7
theorem p_beginWith {h : PH} {p a : Nat} {G : Nat → Nat} {g : Nat → Int32} (Hp : PosSh h p) (Hg : h.2 a = oI 36 g) (hg : ∀ c, c < 36 → g c = nI (G c)) (hG : gvOK G) (ha : a ≠ p ∧ a ≠ p + 1) {F : Nat} (hF : 40 ≤ F) :
    ∃ h', f_Pos_beginWith F p a h = some h' ∧ PosAt h' p (gvK G) (fun _ => false) (fun _ => true) (fun _ => false) ∧ Fr (PS p) h h' := by
  obtain ⟨h0, e0, H0, F0⟩ := p_openAll Hp hF
  have hk : cK h p 1 = some () := by
    obtain ⟨V, sp, a0, a1, a2⟩ := Hp
    exact ob_K a0
  obtain ⟨h1, ⟨T, b1, b2, b3⟩, e1⟩ := LC (fun n i h => f_Pos_beginWith_6 F n p a (nI i) h) (fun i h' => ∃ T, PosAt h' p (fun c d => decide (c < i → G c = 0 ∨ d = G c)) (fun _ => false) T (fun _ => false) ∧ (∀ c, c < 36 → T c = true) ∧ Fr (PS p) h h') 36
    (fun n i s hi ⟨T, b1, b2, b3⟩ => by
      have hG' := hG i hi
      have ga : s.2 a = oI 36 g := (b3.2 a (by simp only [PS]; omega)).trans Hg
      by_cases q : G i = 0
      · refine ⟨s, ⟨T, b1.x (fun c hc d hd => decide_eq_decide.mpr ⟨fun z hl => ?_, fun z hl => z (by omega)⟩) (fun _ _ => rfl) (fun _ _ => rfl) (fun _ _ => rfl), b2, b3⟩, ?_⟩
        · by_cases q2 : c = i
          · subst q2
            exact Or.inl q
          · exact z (by omega)
        · show f_Pos_beginWith_6 F (n + 1) p a (nI i) s = _
          rw [f_Pos_beginWith_6, b_Pos_beginWith_6, if_neg (show ¬ (36 : Int32) ≤ nI i from nI_ge (a := (i)) (b := 36) (by omega) (by omega)), ar_I ga hi (by omega), bnd_s, hg i hi, q, if_pos (show nI 0 = 0 from rfl), b_Pos_beginWith_27, nI_1]
      · obtain ⟨r, h', T', c1, c2, c3, c4, c5⟩ := p_keepOnly b1 hi (isD_i (d := G i) (by omega) hG') hF
        refine ⟨h', ⟨T', c2.x (fun c hc d hd => ?_) (fun _ _ => rfl) (fun _ _ => rfl) (fun _ _ => rfl), fun c hc => ?_, b3.tr c4⟩, ?_⟩
        · show (decide (c < i → G c = 0 ∨ d = G c) && decide (c = i → d = G i)) = decide (c < i + 1 → G c = 0 ∨ d = G c)
          by_cases q2 : c = i
          · subst q2
            have h1 : (c < c → G c = 0 ∨ d = G c) := fun z => absurd z (Nat.lt_irrefl c)
            simp [q]
          · have h2 : (c < i) = (c < i + 1) := propext ⟨fun _ => by omega, fun _ => by omega⟩
            simp [q2, h2]
        · cases q3 : T' c
          · have := (c3 c hc q3).1
            rw [b2 c hc] at this
            cases this
          · rfl
        · show f_Pos_beginWith_6 F (n + 1) p a (nI i) s = _
          rw [f_Pos_beginWith_6, b_Pos_beginWith_6, if_neg (show ¬ (36 : Int32) ≤ nI i from nI_ge (a := (i)) (b := 36) (by omega) (by omega)), ar_I ga hi (by omega), bnd_s, hg i hi, if_neg (show ¬ nI (G i) = (0 : Int32) from fun q => absurd ((nI_eq (a := (G i)) (b := 0) (by omega) (by omega)).mp q) (by omega)), bnd_s, b1.ck, bnd_s, c1, bnd2_s, b_Pos_beginWith_27, nI_1]) 36 0 h0 F rfl (by omega) ⟨_, H0.x (fun _ _ _ _ => by simp) (fun _ _ => rfl) (fun _ _ => rfl) (fun _ _ => rfl), fun _ _ => rfl, F0⟩
  obtain ⟨m, hm⟩ : ∃ m, F - 36 = m + 1 := ⟨F - 37, by omega⟩
  refine ⟨h1, ?_, b1.x (fun c hc d hd => decide_eq_decide.mpr ⟨fun z => z hc, fun z _ => z⟩) (fun _ _ => rfl) b2 (fun _ _ => rfl), b3⟩
  unfold f_Pos_beginWith
  rw [hk, bnd_s, e0, bnd_s]
  refine Eq.trans e1 ?_
  show f_Pos_beginWith_6 F (F - 36) p a (nI 36) h1 = _
  rw [hm, f_Pos_beginWith_6, b_Pos_beginWith_6, if_pos (show (36 : Int32) ≤ nI 36 from nI_le (a := 36) (b := 36) (by omega) (by omega))]
/-- is a cell in a unit -/
def inU (u c : Nat) : Bool := if u < 6 then decide (c / 6 = u) else if u < 12 then decide (c % 6 = u - 6) else decide (2 * (c / 12) + c % 6 / 3 = u - 12)
theorem uVal_b : ∀ u, u < 18 → ∀ c, c < 64 → tb (uVal u) c = (decide (c < 36) && inU u c) := by decide +kernel
theorem uVal_S {u : Nat} (hu : u < 18) : CS (uVal u) (inU u) := uVal_b u hu
theorem g_unit {u : Nat} (hu : u < 18) : f_Grd_unit (nI u) = some (uVal u) := by
  unfold f_Grd_unit uL
  rw [if_neg (nI_pos (by omega)), if_neg (show ¬ (18 : Int32) ≤ nI u from nI_ge (a := (u)) (b := 18) (by omega) (by omega)), if_neg (nI_in hu (by omega)), nI_clamp (by omega)]
  rfl
/-- unit peers -/
def upr (a b : Nat) : Bool := (decide (a / 6 = b / 6) || decide (a % 6 = b % 6) || decide (2 * (a / 12) + a % 6 / 3 = 2 * (b / 12) + b % 6 / 3)) && !decide (a = b)
theorem upr_u {a b : Nat} (h : a < 36) (h2 : b < 36) : upr a b = true ↔ a ≠ b ∧ ∃ u, u < 18 ∧ inU u a = true ∧ inU u b = true := by
  have H : ∀ a, a < 36 → ∀ b, b < 36 → (upr a b = true ↔ a ≠ b ∧ ∃ u, u < 18 ∧ inU u a = true ∧ inU u b = true) := by
    intro a ha b hb
    unfold upr
    constructor
    · intro q
      simp only [Bool.and_eq_true, Bool.or_eq_true, decide_eq_true_eq, Bool.not_eq_true', decide_eq_false_iff_not] at q
      refine ⟨q.2, ?_⟩
      rcases q.1 with (q | q) | q
      · exact ⟨a / 6, by omega, by unfold inU; rw [if_pos (by omega)]; simp, by unfold inU; rw [if_pos (by omega)]; simp [q]⟩
      · exact ⟨6 + a % 6, by omega, by unfold inU; rw [if_neg (by omega), if_pos (by omega)]; exact decide_eq_true (by omega), by unfold inU; rw [if_neg (by omega), if_pos (by omega)]; exact decide_eq_true (by omega)⟩
      · exact ⟨12 + (2 * (a / 12) + a % 6 / 3), by omega, by unfold inU; rw [if_neg (by omega), if_neg (by omega)]; exact decide_eq_true (by omega), by unfold inU; rw [if_neg (by omega), if_neg (by omega)]; exact decide_eq_true (by omega)⟩
    · rintro ⟨q, u, hu, h3, h4⟩
      simp only [Bool.and_eq_true, Bool.or_eq_true, decide_eq_true_eq, Bool.not_eq_true', decide_eq_false_iff_not]
      refine ⟨?_, q⟩
      unfold inU at h3 h4
      split at h3
      · rw [if_pos (by assumption)] at h4
        have := of_decide_eq_true h3
        have := of_decide_eq_true h4
        omega
      · rw [if_neg (by assumption)] at h4
        split at h3
        · rw [if_pos (by assumption)] at h4
          have := of_decide_eq_true h3
          have := of_decide_eq_true h4
          omega
        · rw [if_neg (by assumption)] at h4
          have := of_decide_eq_true h3
          have := of_decide_eq_true h4
          omega
  exact H a h b h2
