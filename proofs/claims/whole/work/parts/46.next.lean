/-! The class's next deduction. -/
/-- the constraint k removes nothing -/
def Nth (R : RT) (K : Nat → Nat → Bool) (k : Nat) : Prop := ∀ j d, j < rl R k → isD d = true → K (rc R k j) d = true → Kp R K k j d
theorem Kp_x {R : RT} {K L : Nat → Nat → Bool} {k : Nat} (h : ∀ j, j < rl R k → ∀ d, isD d = true → K (rc R k j) d = L (rc R k j) d) {j d : Nat} (q : Kp R K k j d) : Kp R L k j d := by
  obtain ⟨v, h1, h2, h3⟩ := q
  exact ⟨v, fun i hi => ⟨(h1 i hi).1, by rw [← h i hi _ (h1 i hi).1]; exact (h1 i hi).2⟩, h2, h3⟩
theorem Nth.x {R : RT} {K L : Nat → Nat → Bool} {k : Nat} (q : Nth R K k) (h : ∀ j, j < rl R k → ∀ d, isD d = true → K (rc R k j) d = L (rc R k j) d) : Nth R L k := fun j d hj hd z => Kp_x h (q j d hj hd (by rw [h j hj d hd]; exact z))
theorem Nth_eq {R : RT} {K : Nat → Nat → Bool} {k : Nat} (q : Nth R K k) : ∀ c, c < 36 → ∀ d, isD d = true → sift R K k c d = K c d := fun c _ d hd => bool_i (by
  rw [sift_t]
  exact ⟨fun z => z.1, fun z => ⟨z, fun j hj e => q j d hj hd (by rw [e]; exact z)⟩⟩)
theorem Nth_n3 {R : RT} {K : Nat → Nat → Bool} {w k : Nat} (q : Nth R K k) : ¬ a3 R K w k := fun z => by
  have := z.2.2
  rw [tot_ext (Nth_eq q)] at this
  omega
theorem Nth_of {R : RT} {K : Nat → Nat → Bool} {k : Nat} (hc : ∀ j, j < rl R k → rc R k j < 36) (q : ¬ tot (sift R K k) < tot K) : Nth R K k := by
  intro j d hj hd hK
  apply Classical.byContradiction
  intro z
  apply q
  have hle : ∀ c d, sift R K k c d = true → K c d = true := fun c d z => (sift_t.mp z).1
  exact smN_lt (fun c _ => sz_mono fun d _ z => hle c d z) ⟨rc R k j, hc j hj, sz_lt (fun d _ z => hle _ d z) hd hK (by
    cases y : sift R K k (rc R k j) d
    · rfl
    · exact absurd ((sift_t.mp y).2 j hj rfl) z)⟩
def SOK (R : RT) (S : Nat → Bool) : Prop := ∀ k, k < 8 → S k = true → k < rn R ∧ 2 ≤ rl R k
/-- a constraint that is not marked removes nothing -/
def INV (R : RT) (K : Nat → Nat → Bool) (T S : Nat → Bool) : Prop := SOK R S ∧ ∀ k, k < rn R → 2 ≤ rl R k → S k = false → (∀ j, j < rl R k → T (rc R k j) = false) → Nth R K k
theorem INV.tr {R : RT} {K K' : Nat → Nat → Bool} {T T' S : Nat → Bool} (hR : ROK R) (h : INV R K T S) (t : TR T K T' K') : INV R K' T' S := ⟨h.1, fun k hk h2 hS hT => by
  have hc := (hR.2 k hk).2.2.1
  exact (h.2 k hk h2 hS fun j hj => (t _ (hc j hj) (hT j hj)).1).x fun j hj => (t _ (hc j hj) (hT j hj)).2⟩
def tch (R : RT) (T : Nat → Bool) (k : Nat) : Bool := decide (2 ≤ rl R k) && decide (cnt (fun c => mem R k c && T c) 36 ≠ 0)
theorem r_touching {h : PH} {r : Nat} {R : RT} (HR : RulAt h r R) (hR : ROK R) {x : Int64} {T : Nat → Bool} (hx : CS x T) {F : Nat} (hF : 40 ≤ F) : ∃ y, f_Rul_touching F r x h = some y ∧ ∀ i, i < 32 → bt y i = (decide (i < rn R) && tch R T i) := by
  have h8 := hR.1
  obtain ⟨hck, hsz⟩ := ru_ck HR
  obtain ⟨y, hy, e1⟩ := LC (fun n i s => f_Rul_touching_5 F n r x s (nI i) h) (fun i s => ∀ j, j < 32 → bt s j = (decide (j < i) && tch R T j)) (rn R)
    (fun n i s hi hy => by
      obtain ⟨_, _, _, _, k5, k6, k7, z, k8, k9⟩ := ru_k HR hR hi
      have hr6 := Nat.le_trans (hR.2 i hi).2.1 (mxl_le _)
      have hbit : ∀ b : Bool, tch R T i = b → ∀ j, j < 32 → (bt s j || (decide (j = i) && b)) = (decide (j < i + 1) && tch R T j) := by
        intro b hb j hj
        rw [hy j hj]
        by_cases w : j = i
        · subst w; simp [hb]
        · simp [w, dlt_ne w]
      have hact : f_Rul_isActive r (nI i) h = some (if rl R i < 2 then 0 else 1) := by
        unfold f_Rul_isActive
        rw [k5, bnd_s, k6, bnd_s]
        by_cases w : rl R i < 2
        · rw [if_pos (show nI (rl R i) < (2 : Int32) from nI_lt (b := 2) w (by omega)), if_pos w]
        · rw [if_neg (show ¬ nI (rl R i) < (2 : Int32) from nI_nlt (b := 2) (by omega) (by omega)), if_neg w]
      have e0 : ∀ s', f_Rul_touching_5 F (n + 1) r x s' (nI i) h = (if (if rl R i < 2 then (0 : Int32) else 1) = (0 : Int32) then f_Rul_touching_5 F n r x s' (nI (i + 1)) h else (if (lg_cmp (z &&& x) (0 : Int64)) = (0 : Int32) then f_Rul_touching_5 F n r x s' (nI (i + 1)) h else f_Rul_touching_5 F n r x (s' ||| ((1 : Int32) <<< (nI i &&& 31))) (nI (i + 1)) h)) := by
        intro s'
        rw [f_Rul_touching_5, b_Rul_touching_5, hsz, bnd_s, if_neg (show ¬ nI (rn R) ≤ nI i from nI_ge hi (by omega)), hck, bnd_s, hact, bnd_s, k7, bnd_s, k8, bnd_s]
        simp only [b_Rul_touching_44, nI_1, bnd_s]
      have hlg := (k9.and hx).lg0
      by_cases w : rl R i < 2
      · refine ⟨s, fun j hj => ?_, ?_⟩
        · have := hbit false (by unfold tch; rw [decide_eq_false (by omega)]; rfl) j hj
          simpa using this
        · show f_Rul_touching_5 F (n + 1) r x s (nI i) h = _
          rw [e0, if_pos w, if_pos rfl]
      · by_cases w2 : ∀ c, c < 36 → (mem R i c && T c) = false
        · refine ⟨s, fun j hj => ?_, ?_⟩
          · have := hbit false (by unfold tch; rw [cnt_0.mpr w2]; simp) j hj
            simpa using this
          · show f_Rul_touching_5 F (n + 1) r x s (nI i) h = _
            rw [e0, if_neg w, if_neg (by decide), if_pos (hlg.mpr w2)]
        · refine ⟨s ||| ((1 : Int32) <<< (nI i &&& 31)), fun j hj => ?_, ?_⟩
          · rw [b_or, b_1shl (by omega)]
            have := hbit true (by unfold tch; rw [decide_eq_true (by omega), decide_eq_true (show cnt (fun c => mem R i c && T c) 36 ≠ 0 from fun z => w2 (cnt_0.mp z))]; rfl) j hj
            simpa using this
          · show f_Rul_touching_5 F (n + 1) r x s (nI i) h = _
            rw [e0, if_neg w, if_neg (by decide), if_neg (fun z => w2 (hlg.mp z))]) (rn R) 0 0 F (by omega) (by omega) (fun j hj => by rw [b_0]; simp)
  refine ⟨y, ?_, hy⟩
  unfold f_Rul_touching
  refine Eq.trans e1 ?_
  obtain ⟨m, hm⟩ : ∃ m, F - rn R = m + 1 := ⟨F - rn R - 1, by omega⟩
  show f_Rul_touching_5 F (F - rn R) r x y (nI (rn R)) h = _
  rw [hm, f_Rul_touching_5, b_Rul_touching_5, hsz, bnd_s, if_pos (nI_le (Nat.le_refl _) (by omega))]
theorem bt_z {x : Int32} {S : Nat → Bool} (h : ∀ i, i < 32 → bt x i = (decide (i < 8) && S i)) : x = 0 ↔ ∀ i, i < 8 → S i = false := by
  constructor
  · intro e i hi
    have := h i (by omega)
    rw [e, b_0] at this
    simpa [hi] using this.symm
  · intro e
    refine b_ext fun i hi => ?_
    rw [h i hi, b_0]
    by_cases w : i < 8
    · simp [e i w]
    · simp [w]
theorem r_wake {h : PH} {p r : Nat} {K : Nat → Nat → Bool} {P T S : Nat → Bool} {R : RT} (H : PosAt h p K P T S) (HR : RulAt h r R) (hR : ROK R) (hI : INV R K T S) {F : Nat} (hF : 40 ≤ F) :
    ∃ h' S' b, f_Rea_wake F p r h = some (if b then 1 else 0, h') ∧ PosAt h' p K P (fun _ => false) S' ∧ Fr (PS p) h h' ∧ SOK R S' ∧ (∀ k, k < rn R → 2 ≤ rl R k → S' k = false → Nth R K k) ∧ (b = false ↔ ∀ k, k < 8 → S' k = false) := by
  have h8 := hR.1
  obtain ⟨W, sp, pl, to, st, b0, b1, b2, b3, b4, b5, b6, b7, b8, b9⟩ := H
  obtain ⟨y, g1, g2⟩ := r_touching HR hR b8 hF
  have hS' : ∀ i, i < 32 → bt (st ||| y) i = (decide (i < 8) && (S i || (decide (i < rn R) && tch R T i))) := by
    intro i hi
    rw [b_or, b9 i hi, g2 i hi]
    by_cases w : i < 8
    · simp [w]
    · have : ¬ i < rn R := by omega
      simp [w, this]
  refine ⟨hset (hset h p (obj 1 4 (updV W 3 (.int (st ||| y))))) p (obj 1 4 (updV (updV W 3 (.int (st ||| y))) 2 (.long 0))), fun i => S i || (decide (i < rn R) && tch R T i), decide (cnt (fun k => S k || (decide (k < rn R) && tch R T k)) 8 ≠ 0), ?_, ⟨_, sp, pl, 0, st ||| y, hset_s _ _ _, by simpa [updV] using b1, by simpa [updV] using b2, by simp [updV], by simp [updV], (hset_n _ _ (by omega)).trans ((hset_n _ _ (by omega)).trans b5), b6, b7, CS.no, hS'⟩, ((Fr.rf _ _).st (S := PS p) _ (Or.inl rfl)).st (S := PS p) _ (Or.inl rfl), ?_, ?_, ?_⟩
  · unfold f_Rea_wake
    rw [ob_I b0 (by omega) b4, bnd_s, ob_L b0 (by omega) b3, bnd_s, (ru_ck HR).1, bnd_s, g1, bnd_s, ob_P _ b0 (by omega), bnd_s, ob_P _ (hset_s _ _ _) (by omega), bnd_s, ob_I (hset_s _ _ _) (by omega) (v := st ||| y) (by simp [updV]), bnd_s]
    by_cases w : ∀ k, k < 8 → (S k || (decide (k < rn R) && tch R T k)) = false
    · rw [if_pos ((bt_z hS').mpr w), decide_eq_false (show ¬ cnt (fun k => S k || (decide (k < rn R) && tch R T k)) 8 ≠ 0 from fun z => z (cnt_0.mpr w))]
      rfl
    · rw [if_neg (fun z => w ((bt_z hS').mp z)), decide_eq_true (show cnt (fun k => S k || (decide (k < rn R) && tch R T k)) 8 ≠ 0 from fun z => w (cnt_0.mp z))]
      rfl
  · intro k hk z
    rw [Bool.or_eq_true] at z
    rcases z with z | z
    · exact hI.1 k hk z
    · unfold tch at z
      simp only [Bool.and_eq_true, decide_eq_true_eq] at z
      exact ⟨z.1, z.2.1⟩
  · intro k hk h2 z
    rw [Bool.or_eq_false_iff, decide_eq_true hk, Bool.true_and] at z
    refine hI.2 k hk h2 z.1 fun j hj => ?_
    have := z.2
    unfold tch at this
    rw [decide_eq_true h2, Bool.true_and, decide_eq_false_iff_not, Classical.not_not, cnt_0] at this
    have := this (rc R k j) ((hR.2 k hk).2.2.1 j hj)
    rw [mem_t.mpr ⟨j, hj, rfl⟩, Bool.true_and] at this
    exact this
  · rw [decide_eq_false_iff_not, Classical.not_not, cnt_0]
theorem r_ask {h : PH} {p q r : Nat} {V : Nat → Value} {K : Nat → Nat → Bool} {P T S : Nat → Bool} {R : RT} (H : PosAt h p K P T S) (HR : RulAt h r R) (hR : ROK R) (hS : SOK R S) (hN : ∀ k, k < rn R → 2 ≤ rl R k → S k = false → Nth R K k) (e : h.2 q = obj 3 7 V) (e0 : V 0 = .ref (q + 1)) (hs : SvSh h q)
    (hpq : q + 4 ≤ p ∨ p + 2 ≤ q) (hpr : r + 7 ≤ p ∨ p + 2 ≤ r) (hqr : q + 4 ≤ r ∨ r + 7 ≤ q) {F : Nat} (hF : 40 ≤ F) {w kd : Nat} (hw : w < 3) :
    (∃ h' S', no3 R K w ∧ f_Rea_askKind F q p r (nI w) (nI kd) h = some (0, h') ∧ Und h h' p q V K P T S' ∧ SOK R S' ∧ ∀ k, k < rn R → 2 ≤ rl R k → S' k = false → Nth R K k) ∨
    ∃ k h' S', f3 R K w k (sift R K k) ∧ f_Rea_askKind F q p r (nI w) (nI kd) h = some (1, h') ∧ Did h h' p q K T S' kd k (sift R K k) P ∧ ∀ T', TR T K T' (sift R K k) → INV R (sift R K k) T' S' := by
  have h8 := hR.1
  have hstep : ∀ n i s S1 T1, i < rn R → PosAt s p K P T1 S1 → TR T K T1 K → s.2 q = obj 3 7 V → SvSh s q → Fr (WS p q) h s → SOK R S1 → (∀ k, k < rn R → 2 ≤ rl R k → S1 k = false → Nth R K k) →
      (∃ s' S2 T2, ¬ a3 R K w i ∧ f_Rea_askKind_3 F (n + 1) q p r (nI w) (nI kd) (nI i) s = f_Rea_askKind_3 F n q p r (nI w) (nI kd) (nI (i + 1)) s' ∧ PosAt s' p K P T2 S2 ∧ TR T K T2 K ∧ s'.2 q = obj 3 7 V ∧ SvSh s' q ∧ Fr (WS p q) h s' ∧ SOK R S2 ∧ ∀ k, k < rn R → 2 ≤ rl R k → S2 k = false → Nth R K k) ∨
      ∃ h' S', a3 R K w i ∧ f_Rea_askKind_3 F (n + 1) q p r (nI w) (nI kd) (nI i) s = some (1, h') ∧ Did h h' p q K T S' kd i (sift R K i) P ∧ ∀ T', TR T K T' (sift R K i) → INV R (sift R K i) T' S' := by
    intro n i s S1 T1 hi H1 t1 x1 x2 x3 x4 x5
    have HR1 := HR.fr x3 fun j hj z => by simp only [UR, WS] at hj z; omega
    obtain ⟨k1, k2, _⟩ := ru_k HR1 hR hi
    obtain ⟨hck, hsz⟩ := ru_ck HR1
    have H1' := H1
    obtain ⟨W, sp, pl, to, st, b0, b1, b2, b3, b4, b5, b6, b7, b8, b9⟩ := H1'
    have hbit : ((st >>> (nI i &&& 31)) &&& (1 : Int32) = 0) ↔ S1 i = false := by
      rw [b_bit0 (by omega), b9 i (by omega), decide_eq_true (by omega), Bool.true_and]
    have e1 : f_Rea_askKind_3 F (n + 1) q p r (nI w) (nI kd) (nI i) s = _ := rfl
    rw [f_Rea_askKind_3, b_Rea_askKind_3, hsz, bnd_s, if_neg (show ¬ nI (rn R) ≤ nI i from nI_ge hi (by omega)), ob_I b0 (by omega) b4, bnd_s]
    simp only [b_Rea_askKind_79, nI_1]
    cases hSi : S1 i
    · left
      refine ⟨s, S1, T1, ?_, ?_, H1, t1, x1, x2, x3, x4, x5⟩
      · intro z
        exact Nth_n3 (x5 i hi z.2.1 hSi) z
      · rw [if_pos (hbit.mpr hSi)]
    rw [if_neg (fun z => by rw [hbit.mp z] at hSi; cases hSi), k1, bnd_s, k2, bnd_s]
    have hk3 := (hR.2 i hi).1
    by_cases hw2 : rk R i = w
    rotate_left
    · left
      refine ⟨s, S1, T1, fun z => hw2 z.1, ?_, H1, t1, x1, x2, x3, x4, x5⟩
      rw [if_neg (show ¬ nI (rk R i) = nI w from fun z => hw2 ((nI_eq (by omega) (by omega)).mp z))]
    rw [if_pos (show nI (rk R i) = nI w from congrArg nI hw2), bnd_s, ob_P _ b0 (by omega), bnd_s]
    have hact := (x4 i (by omega) hSi).2
    have H2 : PosAt (hset s p (obj 1 4 (updV W 3 (.int (st &&& (((1 : Int32) <<< (nI i &&& 31)) ^^^ (-1 : Int32))))))) p K P T1 (fun k => S1 k && !decide (k = i)) :=
      ⟨_, sp, pl, to, _, hset_s _ _ _, by simpa [updV] using b1, by simpa [updV] using b2, by simpa [updV] using b3, vu_s _ _ _, (hset_n _ _ (by omega)).trans b5, b6, b7, b8, fun j hj => by
        rw [b_and, b_not, b9 j hj, b_1shl (by omega), decide_eq_true hj, Bool.true_and, Bool.and_assoc]⟩
    have F2 : Fr (WS p q) h (hset s p (obj 1 4 (updV W 3 (.int (st &&& (((1 : Int32) <<< (nI i &&& 31)) ^^^ (-1 : Int32))))))) := x3.st (S := WS p q) _ (Or.inl rfl)
    have F2' : Fr (PS p) s (hset s p (obj 1 4 (updV W 3 (.int (st &&& (((1 : Int32) <<< (nI i &&& 31)) ^^^ (-1 : Int32))))))) := (Fr.rf _ _).st (S := PS p) _ (Or.inl rfl)
    generalize hset s p (obj 1 4 (updV W 3 (.int (st &&& (((1 : Int32) <<< (nI i &&& 31)) ^^^ (-1 : Int32)))))) = s2 at *
    have y1 : s2.2 q = obj 3 7 V := (F2'.2 q (by simp only [PS]; omega)).trans x1
    have y2 : SvSh s2 q := x2.fr F2' (by simp only [PS]; omega)
    have HR2 := HR.fr F2 fun j hj z => by simp only [UR, WS] at hj z; omega
    obtain ⟨rm, s3, T3, g1, g2, g3, g4, g5, g6⟩ := s_sift H2 HR2 hR hi hact y2 hpq hpr hqr hF
    have z1 : s3.2 q = obj 3 7 V := (g6.2 q (by simp only [SW]; omega)).trans y1
    have F3 : Fr (WS p q) h s3 := F2.tr (g6.mo fun j hj => by simp only [SW, WS] at hj ⊢; omega)
    have hck6 : cK s2 (q + 1) 6 = some () := by
      obtain ⟨W', _, _, y, _⟩ := y2
      exact ob_K y
    rw [ob_R y1 (by omega) e0, bnd_s, hck6, bnd_s, g1, bnd2_s]
    have hrm : rm < 2 ^ 31 := by have := tot_le K; omega
    by_cases w3 : rm = 0
    · left
      have hn : ¬ tot (sift R K i) < tot K := by omega
      have hNt : Nth R K i := Nth_of (hR.2 i hi).2.2.1 hn
      refine ⟨s3, fun k => S1 k && !decide (k = i), T3, fun z => hn z.2.2, ?_, g2.x (Nth_eq hNt) (fun _ _ => rfl) (fun _ _ => rfl) (fun _ _ => rfl), t1.tr (g3.x (Nth_eq hNt)), z1, g5, F3, fun k hk z => ?_, fun k hk h2 z => ?_⟩
      · rw [w3, if_pos (show nI 0 ≤ (0 : Int32) by decide)]
      · rw [Bool.and_eq_true] at z
        exact x4 k hk z.1
      · by_cases q2 : k = i
        · rw [q2]; exact hNt
        · replace z : (S1 k && !decide (k = i)) = false := z
          rw [decide_eq_false q2, Bool.not_false, Bool.and_true] at z
          exact x5 k hk h2 z
    · right
      obtain ⟨h3, V3, n1, n2, n3, n4, n5, n6, _, _, _, n7⟩ := r_note (nI kd) (nI i) (nI rm) z1
      refine ⟨h3, fun k => S1 k && !decide (k = i), ⟨hw2, hact, by omega⟩, ?_, ⟨T3, V3, rm, g2.fr (n7.2 _ (by omega)) (n7.2 _ (by omega)), t1.tr g3, n2, n3.trans e0, n4, n5, n6, g4, g5.fr n7 (by omega), F3.tr (n7.mo fun j hj => by simp only [WS] at hj ⊢; omega)⟩, fun T' t => ⟨fun k hk z => ?_, fun k hk h2 z hT => ?_⟩⟩
      · rw [if_neg (nI_nle (by omega) hrm), ob_K z1, bnd_s, n1, bnd2_s]
        rfl
      · rw [Bool.and_eq_true] at z
        exact x4 k hk z.1
      · have hK : ∀ j, j < rl R k → ∀ d, isD d = true → K (rc R k j) d = sift R K i (rc R k j) d := fun j hj => (t _ ((hR.2 k hk).2.2.1 j hj) (hT j hj)).2
        by_cases q2 : k = i
        · subst q2
          refine Nth.x (K := K) (fun j d hj hd z => ?_) hK
          rw [hK j hj d hd] at z
          exact (sift_t.mp z).2 j hj rfl
        · replace z : (S1 k && !decide (k = i)) = false := z
          rw [decide_eq_false q2, Bool.not_false, Bool.and_true] at z
          exact (x5 k hk h2 z).x hK
  obtain ⟨j, s, j1, j2, ⟨j3, S1, T1, y1, y2, y3, y4, y5, y6, y7⟩, j4, h1⟩ := LE (fun n i s => f_Rea_askKind_3 F n q p r (nI w) (nI kd) (nI i) s) (fun i s => (∀ k, k < i → ¬ a3 R K w k) ∧ ∃ S1 T1, PosAt s p K P T1 S1 ∧ TR T K T1 K ∧ s.2 q = obj 3 7 V ∧ SvSh s q ∧ Fr (WS p q) h s ∧ SOK R S1 ∧ ∀ k, k < rn R → 2 ≤ rl R k → S1 k = false → Nth R K k) (fun i _ => a3 R K w i) (rn R)
    (fun n i s hi ⟨g1, S1, T1, y1, y2, y3, y4, y5, y6, y7⟩ => by
      rcases hstep n i s S1 T1 hi y1 y2 y3 y4 y5 y6 y7 with ⟨s', S2, T2, z0, z1, z2⟩ | ⟨h', S', z0, _⟩
      · refine Or.inr ⟨s', ⟨fun k hk => ?_, S2, T2, z2⟩, z1⟩
        by_cases q2 : k = i
        · rw [q2]; exact z0
        · exact g1 k (by omega)
      · exact Or.inl z0) (rn R) 0 h F (by omega) (by omega) ⟨fun k hk => by omega, S, T, H, TR.rf _ _, e, hs, Fr.rf _ _, hS, hN⟩
  obtain ⟨m, hm⟩ : ∃ m, F - (j - 0) = m + 1 := ⟨F - j - 1, by omega⟩
  have hE : f_Rea_askKind F q p r (nI w) (nI kd) h = f_Rea_askKind_3 F (m + 1) q p r (nI w) (nI kd) (nI j) s := by
    unfold f_Rea_askKind
    rw [← hm]
    exact h1
  rw [hE]
  by_cases w2 : j < rn R
  · right
    rcases hstep m j s S1 T1 w2 y1 y2 y3 y4 y5 y6 y7 with ⟨s', S2, T2, z0, _⟩ | ⟨h', S', z0, z1, z2, z3⟩
    · exact absurd (j4 w2) z0
    · exact ⟨j, h', S', ⟨w2, z0, j3, rfl⟩, z1, z2, z3⟩
  · left
    refine ⟨s, S1, fun k hk => j3 k (by omega), ?_, ⟨T1, y1, y2, y3, y4, y5⟩, y6, y7⟩
    have HR1 := HR.fr y5 fun j hj z => by simp only [UR, WS] at hj z; omega
    rw [f_Rea_askKind_3, b_Rea_askKind_3, (ru_ck HR1).2, bnd_s, if_pos (show nI (rn R) ≤ nI j from nI_le (by omega) (by omega))]
