/-! The class's reasoner: locked digits. -/
def lk (K : Nat → Nat → Bool) (b l d : Nat) : Prop := lka K (12 + b) l d ∨ lka K l (12 + b) d
theorem lk_c {K : Nat → Nat → Bool} {b l d : Nat} : lk K b l d ↔ (∃ c, c < 36 ∧ ((K c d && inU (12 + b) c) && (K c d && inU l c)) = true) ∧ (¬ ∀ c, c < 36 → (K c d && inU (12 + b) c) = (K c d && inU l c)) ∧
    ((∀ c, c < 36 → (K c d && inU (12 + b) c) = ((K c d && inU (12 + b) c) && (K c d && inU l c))) ∨ ∀ c, c < 36 → (K c d && inU l c) = ((K c d && inU (12 + b) c) && (K c d && inU l c))) := by
  constructor
  · rintro (⟨⟨c, h1, h2, h3⟩, h4, ⟨c', g1, g2, g3, g4⟩⟩ | ⟨⟨c, h1, h2, h3⟩, h4, ⟨c', g1, g2, g3, g4⟩⟩)
    · refine ⟨⟨c, h1, by simp [h2, h3, h4 c h1 h2 h3]⟩, fun z => ?_, Or.inl fun a ha => ?_⟩
      · have := z c' g1
        simp [g2, g3, g4] at this
      · cases w : K a d <;> cases w2 : inU (12 + b) a <;> simp
        exact h4 a ha w2 w
    · refine ⟨⟨c, h1, by simp [h2, h3, h4 c h1 h2 h3]⟩, fun z => ?_, Or.inr fun a ha => ?_⟩
      · have := z c' g1
        simp [g2, g3, g4] at this
      · cases w : K a d <;> cases w2 : inU l a <;> simp
        exact h4 a ha w2 w
  · rintro ⟨⟨c, h1, h2⟩, h3, h4⟩
    simp only [Bool.and_eq_true] at h2
    have hz : ∃ e, e < 36 ∧ (K e d && inU (12 + b) e) ≠ (K e d && inU l e) := by
      apply Classical.byContradiction
      intro z
      exact h3 fun c hc => Classical.byContradiction fun w => z ⟨c, hc, w⟩
    obtain ⟨e, he, hne⟩ := hz
    rcases h4 with h4 | h4
    · refine Or.inl ⟨⟨c, h1, h2.1.2, h2.1.1⟩, fun a ha g1 g2 => ?_, e, he, ?_⟩
      · have := h4 a ha
        simpa [g1, g2] using this
      · have := h4 e he
        revert this hne
        cases K e d <;> cases inU (12 + b) e <;> cases inU l e <;> simp
    · refine Or.inr ⟨⟨c, h1, h2.2.2, h2.1.1⟩, fun a ha g1 g2 => ?_, e, he, ?_⟩
      · have := h4 a ha
        simpa [g1, g2] using this
      · have := h4 e he
        revert this hne
        cases K e d <;> cases inU (12 + b) e <;> cases inU l e <;> simp
theorem r_lock {h : PH} {p q : Nat} {V : Nat → Value} {K : Nat → Nat → Bool} {P T S : Nat → Bool} (H : PosAt h p K P T S) (e : h.2 q = obj 3 7 V) (e0 : V 0 = .ref (q + 1)) (hs : SvSh h q) (hpq : q + 4 ≤ p ∨ p + 2 ≤ q) {F : Nat} (hF : 40 ≤ F) {b l : Nat} (hb : b < 6) (hl : l < 12) :
    ((∀ d, isD d = true → ¬ lk K b l d) → f_Rea_lock F q p (nI b) (nI l) h = some (0, h)) ∧
    ∀ d, isD d = true → lk K b l d → (∀ e, isD e = true → e < d → ¬ lk K b l e) → ∃ h', f_Rea_lock F q p (nI b) (nI l) h = some (1, h') ∧ Did h h' p q K T S 6 b (k6 K b l d) P := by
  have H0 := H
  obtain ⟨W, sp, pl, to, st, b0, b1, b2, b3, b4, b5, b6, b7, b8, b9⟩ := H0
  have hbx := uVal_S (u := 12 + b) (by omega)
  have hln := uVal_S (u := l) (by omega)
  have hun : f_Rea_lock F q p (nI b) (nI l) h = f_Rea_lock_18 F F q p (nI b) (uVal (12 + b)) (uVal l) 1 h := by
    unfold f_Rea_lock
    rw [show (12 : Int32) + nI b = nI (12 + b) from nI_add 12 b, g_unit (by omega), bnd_s, g_unit (by omega), bnd_s]
  rw [hun]
  have hskip : ∀ n i, isD i = true → ¬ lk K b l i → f_Rea_lock_18 F (n + 1) q p (nI b) (uVal (12 + b)) (uVal l) (nI i) h = f_Rea_lock_18 F n q p (nI b) (uVal (12 + b)) (uVal l) (nI (i + 1)) h := by
    intro n i hd hn
    have hi := isD_b hd
    have hB := (b6 i hd).and hbx
    have hL := (b6 i hd).and hln
    rw [lk_c] at hn
    rw [f_Rea_lock_18, b_Rea_lock_18, if_neg (show ¬ (6 : Int32) < nI i from nI_nlt (a := 6) (b := (i)) (by omega) (by omega)), ob_R b0 (by omega) b1, bnd_s, ar_L b5 (by omega) (by omega), bnd_s, bnd_s, ar_L b5 (by omega) (by omega), bnd_s, bnd_s]
    by_cases q1 : ∃ c, c < 36 ∧ ((K c i && inU (12 + b) c) && (K c i && inU l c)) = true
    · rw [if_neg fun z => by
        obtain ⟨c, hc, w⟩ := q1
        exact Bool.noConfusion (w.symm.trans ((hB.and hL).lg0.mp z c hc))]
      by_cases q2 : ∀ c, c < 36 → (K c i && inU (12 + b) c) = (K c i && inU l c)
      · rw [if_pos ((hB.lg hL).mpr q2), b_Rea_lock_113, nI_1]
      · rw [if_neg fun z => q2 ((hB.lg hL).mp z), if_neg fun z => hn ⟨q1, q2, Or.inl ((hB.lg (hB.and hL)).mp z)⟩, if_neg fun z => hn ⟨q1, q2, Or.inr ((hL.lg (hB.and hL)).mp z)⟩, b_Rea_lock_113, nI_1]
    · rw [if_pos ((hB.and hL).lg0.mpr fun c hc => by
        show ((K c i && inU (12 + b) c) && (K c i && inU l c)) = false
        cases w : ((K c i && inU (12 + b) c) && (K c i && inU l c))
        · rfl
        · exact absurd ⟨c, hc, w⟩ q1), b_Rea_lock_113, nI_1]
  constructor
  · intro hn
    obtain ⟨_, _, h1⟩ := LC (fun n i (_ : Unit) => f_Rea_lock_18 F n q p (nI b) (uVal (12 + b)) (uVal l) (nI i) h) (fun i _ => 1 ≤ i) 7 (fun n i s hi h1 => ⟨(), by omega, hskip n i (isD_i h1 hi) (hn i (isD_i h1 hi))⟩) 6 1 () F rfl (by omega) (Nat.le_refl 1)
    refine Eq.trans h1 ?_
    obtain ⟨m, hm⟩ : ∃ m, F - 6 = m + 1 := ⟨F - 7, by omega⟩
    show f_Rea_lock_18 F (F - 6) q p (nI b) (uVal (12 + b)) (uVal l) (nI 7) h = _
    rw [hm, f_Rea_lock_18, b_Rea_lock_18, if_pos (show (6 : Int32) < nI 7 from nI_lt (a := 6) (b := 7) (by omega) (by omega))]
  · intro d hd ha hn
    have hi := isD_b hd
    obtain ⟨_, _, h1⟩ := LC (fun n i (_ : Unit) => f_Rea_lock_18 F n q p (nI b) (uVal (12 + b)) (uVal l) (nI i) h) (fun i _ => 1 ≤ i) d (fun n i s hi h1 => ⟨(), by omega, hskip n i (isD_i h1 (by omega)) (hn i (isD_i h1 (by omega)) hi)⟩) (d - 1) 1 () F (by omega) (by omega) (Nat.le_refl 1)
    obtain ⟨m, hm⟩ : ∃ m, F - (d - 1) = m + 1 := ⟨F - (d - 1) - 1, by omega⟩
    have hB := (b6 d hd).and hbx
    have hL := (b6 d hd).and hln
    obtain ⟨⟨c, hc, q1⟩, q2, q3⟩ := lk_c.mp ha
    obtain ⟨rm, h2, T2, g1, g2, g3, g4, g5⟩ := p_remove H hd ((hB.or hL).sub (hB.and hL))
    have hK : ∀ a, a < 36 → ∀ e, isD e = true → (K a e && !(decide (e = d) && ((K a d && inU (12 + b) a || K a d && inU l a) && !(K a d && inU (12 + b) a && (K a d && inU l a))))) = k6 K b l d a e := by
      intro a ha e _
      unfold k6
      by_cases w : e = d
      · subst w
        cases K a e <;> simp
      · simp [w]
    have eq2 : h2.2 q = obj 3 7 V := (g4.2 q (by simp only [PS]; omega)).trans e
    obtain ⟨h3, V3, n1, n2, n3, n4, n5, n6, _, _, _, n7⟩ := r_note 6 (nI b) (nI rm) eq2
    have h87 : b_Rea_lock_87 F q p (nI b) (nI d) (sp d &&& uVal (12 + b)) (sp d &&& uVal l) (sp d &&& uVal (12 + b) &&& (sp d &&& uVal l)) h = some (1, h3) := by
      rw [b_Rea_lock_87, H.ck, bnd_s, g1, bnd2_s, ob_K eq2, bnd_s, n1, bnd2_s]
      rfl
    refine ⟨h3, ?_, ⟨T2, V3, rm, (g2.x hK (fun _ _ => rfl) (fun _ _ => rfl) (fun _ _ => rfl)).fr (n7.2 _ (by omega)) (n7.2 _ (by omega)), g3.x hK, n2, n3.trans e0, n4, n5, n6, by rw [← tot_ext hK]; exact g5, (hs.fr g4 (by simp only [PS]; omega)).fr n7 (by omega), (g4.mo fun k hk => ?_).tr (n7.mo fun k hk => ?_)⟩⟩
    · refine Eq.trans h1 ?_
      show f_Rea_lock_18 F (F - (d - 1)) q p (nI b) (uVal (12 + b)) (uVal l) (nI d) h = _
      rw [hm, f_Rea_lock_18, b_Rea_lock_18, if_neg (show ¬ (6 : Int32) < nI d from nI_nlt (a := 6) (b := (d)) (by omega) (by omega)), ob_R b0 (by omega) b1, bnd_s, ar_L b5 (by omega) (by omega), bnd_s, bnd_s, ar_L b5 (by omega) (by omega), bnd_s, bnd_s,
        if_neg fun z => Bool.noConfusion (q1.symm.trans ((hB.and hL).lg0.mp z c hc)), if_neg fun z => q2 ((hB.lg hL).mp z)]
      rcases q3 with q3 | q3
      · rw [if_pos ((hB.lg (hB.and hL)).mpr q3), h87]
      · by_cases w : lg_cmp (sp d &&& uVal (12 + b)) (sp d &&& uVal (12 + b) &&& (sp d &&& uVal l)) = 0
        · rw [if_pos w, h87]
        · rw [if_neg w, if_pos ((hL.lg (hB.and hL)).mpr q3), h87]
    · simp only [PS, WS] at hk ⊢; omega
    · simp only [WS] at hk ⊢; omega
theorem meets_l : ∀ b, b < 6 → ∀ l, l < 12 → (meets b l = true ↔ l = b / 2 * 2 ∨ l = b / 2 * 2 + 1 ∨ l = 6 + b % 2 * 3 ∨ l = 6 + b % 2 * 3 + 1 ∨ l = 6 + b % 2 * 3 + 2) := by decide
theorem r_lockAny {h : PH} {p q : Nat} {V : Nat → Value} {K : Nat → Nat → Bool} {P T S : Nat → Bool} (H : PosAt h p K P T S) (e : h.2 q = obj 3 7 V) (e0 : V 0 = .ref (q + 1)) (hs : SvSh h q) (hpq : q + 4 ≤ p ∨ p + 2 ≤ q) {F : Nat} (hF : 40 ≤ F) :
    (no6 K ∧ f_Rea_lockAnywhere F q p h = some (0, h)) ∨ ∃ b K' h', f6 K b K' ∧ f_Rea_lockAnywhere F q p h = some (1, h') ∧ Did h h' p q K T S 6 b K' P := by
  have hstep : ∀ n b, b < 6 → ((∀ l d, l < 12 → isD d = true → ¬ a6 K b l d) ∧ f_Rea_lockAnywhere_2 F (n + 1) q p (nI b) h = f_Rea_lockAnywhere_2 F n q p (nI (b + 1)) h) ∨
      ∃ l d h', l < 12 ∧ isD d = true ∧ a6 K b l d ∧ (∀ l' e, l' < l → isD e = true → ¬ a6 K b l' e) ∧ (∀ e, isD e = true → e < d → ¬ a6 K b l e) ∧ f_Rea_lockAnywhere_2 F (n + 1) q p (nI b) h = some (1, h') ∧ Did h h' p q K T S 6 b (k6 K b l d) P := by
    intro n b hb
    have e1 : nI b / (2 : Int32) = nI (b / 2) := pk_div (a := b) (d := 2) (by omega) (by omega) (by omega)
    have e2 : nI b - nI b / (2 : Int32) * (2 : Int32) = nI (b % 2) := pk_rem (a := b) (d := 2) (by omega) (by omega) (by omega)
    have e3 : nI (b / 2) * (2 : Int32) = nI (b / 2 * 2) := pk_mul _ 2
    have e4 : nI (b % 2) * (3 : Int32) = nI (b % 2 * 3) := pk_mul _ 3
    have e5 : (6 : Int32) + nI (b % 2 * 3) = nI (6 + b % 2 * 3) := nI_add 6 _
    have e6 : nI (6 + b % 2 * 3) + (2 : Int32) = nI (6 + b % 2 * 3 + 2) := nI_add _ 2
    have hm := meets_l b hb
    have L1 := r_lock H e e0 hs hpq hF hb (l := b / 2 * 2) (by omega)
    have L2 := r_lock H e e0 hs hpq hF hb (l := b / 2 * 2 + 1) (by omega)
    have L3 := r_lock H e e0 hs hpq hF hb (l := 6 + b % 2 * 3) (by omega)
    have L4 := r_lock H e e0 hs hpq hF hb (l := 6 + b % 2 * 3 + 1) (by omega)
    have L5 := r_lock H e e0 hs hpq hF hb (l := 6 + b % 2 * 3 + 2) (by omega)
    have hck : cK h q 3 = some () := ob_K e
    rw [f_Rea_lockAnywhere_2, b_Rea_lockAnywhere_2, if_neg (show ¬ (6 : Int32) ≤ nI b from nI_ge (a := (b)) (b := 6) (by omega) (by omega)), e2, e1, e3, bnd_s, e4, e5, bnd_s, hck, bnd_s]
    simp only [nI_1, e6]
    by_cases w1 : ∃ d, isD d = true ∧ lk K b (b / 2 * 2) d
    · obtain ⟨d, hd, w2, w3⟩ := first_d w1
      obtain ⟨h1, g1, g2⟩ := L1.2 d hd w2 w3
      refine Or.inr ⟨_, d, h1, by omega, hd, ⟨(hm _ (by omega)).mpr (Or.inl rfl), w2⟩, fun l' e' hl he z => ?_, fun e' he hl z => w3 e' he hl z.2, by rw [g1]; rfl, g2⟩
      have := (hm l' (by omega)).mp z.1
      omega
    rw [L1.1 fun d hd z => w1 ⟨d, hd, z⟩, bnd2_s, if_pos rfl, hck, bnd_s]
    by_cases x1 : ∃ d, isD d = true ∧ lk K b (b / 2 * 2 + 1) d
    · obtain ⟨d, hd, w2, w3⟩ := first_d x1
      obtain ⟨h1, g1, g2⟩ := L2.2 d hd w2 w3
      refine Or.inr ⟨_, d, h1, by omega, hd, ⟨(hm _ (by omega)).mpr (by omega), w2⟩, fun l' e' hl he z => ?_, fun e' he hl z => w3 e' he hl z.2, by rw [g1]; rfl, g2⟩
      have := (hm l' (by omega)).mp z.1
      have : l' = b / 2 * 2 := by omega
      subst this
      exact w1 ⟨e', he, z.2⟩
    rw [L2.1 fun d hd z => x1 ⟨d, hd, z⟩, bnd2_s, if_pos rfl, hck, bnd_s]
    by_cases y1 : ∃ d, isD d = true ∧ lk K b (6 + b % 2 * 3) d
    · obtain ⟨d, hd, w2, w3⟩ := first_d y1
      obtain ⟨h1, g1, g2⟩ := L3.2 d hd w2 w3
      refine Or.inr ⟨_, d, h1, by omega, hd, ⟨(hm _ (by omega)).mpr (by omega), w2⟩, fun l' e' hl he z => ?_, fun e' he hl z => w3 e' he hl z.2, by rw [g1]; rfl, g2⟩
      have := (hm l' (by omega)).mp z.1
      have : l' = b / 2 * 2 ∨ l' = b / 2 * 2 + 1 := by omega
      rcases this with rfl | rfl
      · exact w1 ⟨e', he, z.2⟩
      · exact x1 ⟨e', he, z.2⟩
    rw [L3.1 fun d hd z => y1 ⟨d, hd, z⟩, bnd2_s, if_pos rfl, hck, bnd_s]
    by_cases z1 : ∃ d, isD d = true ∧ lk K b (6 + b % 2 * 3 + 1) d
    · obtain ⟨d, hd, w2, w3⟩ := first_d z1
      obtain ⟨h1, g1, g2⟩ := L4.2 d hd w2 w3
      refine Or.inr ⟨_, d, h1, by omega, hd, ⟨(hm _ (by omega)).mpr (by omega), w2⟩, fun l' e' hl he z => ?_, fun e' he hl z => w3 e' he hl z.2, by rw [g1]; rfl, g2⟩
      have := (hm l' (by omega)).mp z.1
      have : l' = b / 2 * 2 ∨ l' = b / 2 * 2 + 1 ∨ l' = 6 + b % 2 * 3 := by omega
      rcases this with rfl | rfl | rfl
      · exact w1 ⟨e', he, z.2⟩
      · exact x1 ⟨e', he, z.2⟩
      · exact y1 ⟨e', he, z.2⟩
    rw [L4.1 fun d hd z => z1 ⟨d, hd, z⟩, bnd2_s, if_pos rfl, hck, bnd_s]
    by_cases v1 : ∃ d, isD d = true ∧ lk K b (6 + b % 2 * 3 + 2) d
    · obtain ⟨d, hd, w2, w3⟩ := first_d v1
      obtain ⟨h1, g1, g2⟩ := L5.2 d hd w2 w3
      refine Or.inr ⟨_, d, h1, by omega, hd, ⟨(hm _ (by omega)).mpr (by omega), w2⟩, fun l' e' hl he z => ?_, fun e' he hl z => w3 e' he hl z.2, by rw [g1]; rfl, g2⟩
      have := (hm l' (by omega)).mp z.1
      have : l' = b / 2 * 2 ∨ l' = b / 2 * 2 + 1 ∨ l' = 6 + b % 2 * 3 ∨ l' = 6 + b % 2 * 3 + 1 := by omega
      rcases this with rfl | rfl | rfl | rfl
      · exact w1 ⟨e', he, z.2⟩
      · exact x1 ⟨e', he, z.2⟩
      · exact y1 ⟨e', he, z.2⟩
      · exact z1 ⟨e', he, z.2⟩
    rw [L5.1 fun d hd z => v1 ⟨d, hd, z⟩, bnd2_s, if_pos rfl]
    refine Or.inl ⟨fun l d hl hd z => ?_, rfl⟩
    rcases (hm l hl).mp z.1 with rfl | rfl | rfl | rfl | rfl
    · exact w1 ⟨d, hd, z.2⟩
    · exact x1 ⟨d, hd, z.2⟩
    · exact y1 ⟨d, hd, z.2⟩
    · exact z1 ⟨d, hd, z.2⟩
    · exact v1 ⟨d, hd, z.2⟩
  obtain ⟨j, s, j1, j2, j3, j4, h1⟩ := LE (fun n i (_ : Unit) => f_Rea_lockAnywhere_2 F n q p (nI i) h) (fun i _ => ∀ b l d, b < i → l < 12 → isD d = true → ¬ a6 K b l d) (fun i _ => ∃ l d, l < 12 ∧ isD d = true ∧ a6 K i l d) 6
    (fun n i s hi h1 => by
      rcases hstep n i hi with ⟨g1, g2⟩ | ⟨l, d, h', g1, g2, g3, _⟩
      · refine Or.inr ⟨(), fun b l d hb hl hd z => ?_, g2⟩
        by_cases w2 : b = i
        · subst w2; exact g1 l d hl hd z
        · exact h1 b l d (by omega) hl hd z
      · exact Or.inl ⟨l, d, g1, g2, g3⟩) 6 0 () F rfl (by omega) (fun b l d hb => by omega)
  unfold f_Rea_lockAnywhere
  obtain ⟨m, hm⟩ : ∃ m, F - (j - 0) = m + 1 := ⟨F - j - 1, by omega⟩
  have h1' : f_Rea_lockAnywhere_2 F F q p (0 : Int32) h = f_Rea_lockAnywhere_2 F (m + 1) q p (nI j) h := by rw [← hm]; exact h1
  rw [h1']
  by_cases w : j < 6
  · right
    rcases hstep m j w with ⟨g1, _⟩ | ⟨l, d, h', g1, g2, g3, g4, g5, g6, g7⟩
    · obtain ⟨l, d, x1, x2, x3⟩ := j4 w
      exact absurd x3 (g1 l d x1 x2)
    · exact ⟨j, k6 K j l d, h', ⟨w, j3, l, d, g1, g2, g3, g4, g5, rfl⟩, g6, g7⟩
  · left
    refine ⟨fun b l d hb hl hd => j3 b l d (by omega) hl hd, ?_⟩
    rw [f_Rea_lockAnywhere_2, b_Rea_lockAnywhere_2, if_pos (show (6 : Int32) ≤ nI j from nI_le (a := 6) (b := (j)) (by omega) (by omega))]
