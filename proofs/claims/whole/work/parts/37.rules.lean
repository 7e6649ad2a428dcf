/-! The constraints, told apart from the heap; what the next deduction is. -/
abbrev RT : Type := Nat × (Nat → Nat) × (Nat → Nat) × (Nat → Nat) × (Nat → Nat → Nat)
def rn (R : RT) : Nat := R.1
def rk (R : RT) : Nat → Nat := R.2.1
def rs (R : RT) : Nat → Nat := R.2.2.1
def rl (R : RT) : Nat → Nat := R.2.2.2.1
def rc (R : RT) : Nat → Nat → Nat := R.2.2.2.2
def mxl (k : Nat) : Nat := if k = 2 then 6 else 4
def ROK (R : RT) : Prop := rn R ≤ 8 ∧ ∀ k, k < rn R → rk R k < 3 ∧ rl R k ≤ mxl (rk R k) ∧ (∀ j, j < rl R k → rc R k j < 36) ∧ (∀ i j, i < rl R k → j < rl R k → rc R k i = rc R k j → i = j) ∧ rs R k < 25
theorem mxl_le (k : Nat) : mxl k ≤ 6 := by unfold mxl; split <;> omega
def mem (R : RT) (k c : Nat) : Bool := decide (cnt (fun j => decide (rc R k j = c)) (rl R k) ≠ 0)
theorem mem_t {R : RT} {k c : Nat} : mem R k c = true ↔ ∃ j, j < rl R k ∧ rc R k j = c := by
  unfold mem
  rw [decide_eq_true_iff]
  constructor
  · intro h
    apply Classical.byContradiction
    intro q
    apply h
    rw [cnt_0]
    intro i hi
    exact decide_eq_false fun z => q ⟨i, hi, z⟩
  · rintro ⟨j, hj, h⟩ q
    have := cnt_0.mp q j hj
    simp [h] at this
theorem mem_f {R : RT} {k c : Nat} : mem R k c = false ↔ ∀ j, j < rl R k → rc R k j ≠ c := by
  constructor
  · intro h j hj z
    have := mem_t.mpr ⟨j, hj, z⟩
    rw [h] at this
    cases this
  · intro h
    cases q : mem R k c
    · rfl
    · obtain ⟨j, hj, z⟩ := mem_t.mp q
      exact absurd z (h j hj)
/-- in one cage -/
def cag (R : RT) (a b : Nat) : Bool := decide (cnt (fun k => decide (rk R k = 0) && mem R k a && mem R k b) (rn R) ≠ 0)
theorem cag_t {R : RT} {a b : Nat} : cag R a b = true ↔ ∃ k, k < rn R ∧ rk R k = 0 ∧ mem R k a = true ∧ mem R k b = true := by
  unfold cag
  rw [decide_eq_true_iff]
  constructor
  · intro h
    apply Classical.byContradiction
    intro q
    apply h
    rw [cnt_0]
    intro i hi
    cases z : decide (rk R i = 0) && mem R i a && mem R i b
    · rfl
    · simp only [Bool.and_eq_true, decide_eq_true_eq] at z
      exact absurd ⟨i, hi, z.1.1, z.1.2, z.2⟩ q
  · rintro ⟨j, hj, h1, h2, h3⟩ q
    have := cnt_0.mp q j hj
    simp [h1, h2, h3] at this
def peer (R : RT) (a b : Nat) : Bool := (upr a b || cag R a b) && !decide (a = b)
/-- a way to fill a constraint -/
def Way (R : RT) (k : Nat) (v : Nat → Nat) : Prop :=
  (rk R k = 0 → smN v (rl R k) = rs R k ∧ ∀ i j, i < rl R k → j < i → v i ≠ v j) ∧
  (rk R k = 1 → smN v (rl R k) = 2 * v 0) ∧
  (rk R k = 2 → ∀ j, j + 1 < rl R k → v j < v (j + 1))
/-- the digit d can stand at place j -/
def Kp (R : RT) (K : Nat → Nat → Bool) (k j d : Nat) : Prop := ∃ v : Nat → Nat, (∀ i, i < rl R k → isD (v i) = true ∧ K (rc R k i) (v i) = true) ∧ Way R k v ∧ v j = d
/-- what the constraint k leaves -/
noncomputable def sift (R : RT) (K : Nat → Nat → Bool) (k : Nat) : Nat → Nat → Bool := fun c d => K c d && @decide (∀ j, j < rl R k → rc R k j = c → Kp R K k j d) (Classical.propDecidable _)
theorem sift_t {R : RT} {K : Nat → Nat → Bool} {k c d : Nat} : sift R K k c d = true ↔ K c d = true ∧ ∀ j, j < rl R k → rc R k j = c → Kp R K k j d := by
  unfold sift
  rw [Bool.and_eq_true, @decide_eq_true_iff _ (Classical.propDecidable _)]
def a1 (K : Nat → Nat → Bool) (P : Nat → Bool) (c : Nat) : Prop := P c = false ∧ sz (K c) = 1
def k1 (R : RT) (K : Nat → Nat → Bool) (c : Nat) : Nat → Nat → Bool := fun e d => K e d && !(peer R c e && K c d)
def pl1 (P : Nat → Bool) (c : Nat) : Nat → Bool := fun e => P e || decide (e = c)
def onl (K : Nat → Nat → Bool) (u d c : Nat) : Prop := c < 36 ∧ inU u c = true ∧ K c d = true ∧ ∀ e, e < 36 → inU u e = true → K e d = true → e = c
def a2 (K : Nat → Nat → Bool) (u d : Nat) : Prop := ∃ c, onl K u d c ∧ 1 < sz (K c)
def k2 (K : Nat → Nat → Bool) (u d : Nat) : Nat → Nat → Bool := fun a e => K a e && !(inU u a && K a d && !decide (e = d))
def a3 (R : RT) (K : Nat → Nat → Bool) (w k : Nat) : Prop := rk R k = w ∧ 2 ≤ rl R k ∧ tot (sift R K k) < tot K
def lka (K : Nat → Nat → Bool) (u o d : Nat) : Prop := (∃ c, c < 36 ∧ inU u c = true ∧ K c d = true) ∧ (∀ c, c < 36 → inU u c = true → K c d = true → inU o c = true) ∧ ∃ c, c < 36 ∧ inU o c = true ∧ inU u c = false ∧ K c d = true
/-- a box and a line that have a cell in common -/
def meets (b l : Nat) : Bool := if l < 6 then decide (l / 2 = b / 2) else decide ((l - 6) / 3 = b % 2)
def a6 (K : Nat → Nat → Bool) (b l d : Nat) : Prop := meets b l = true ∧ (lka K (12 + b) l d ∨ lka K l (12 + b) d)
def k6 (K : Nat → Nat → Bool) (b l d : Nat) : Nat → Nat → Bool := fun c e => K c e && !(decide (e = d) && ((inU (12 + b) c || inU l c) && !(inU (12 + b) c && inU l c)))
def alk (K : Nat → Nat → Bool) (a b : Nat) : Prop := ∀ d, isD d = true → K a d = K b d
def a7 (K : Nat → Nat → Bool) (u a b : Nat) : Prop := a < b ∧ b < 36 ∧ inU u a = true ∧ inU u b = true ∧ sz (K a) = 2 ∧ alk K a b ∧ ∃ c d, c < 36 ∧ inU u c = true ∧ c ≠ a ∧ c ≠ b ∧ isD d = true ∧ K a d = true ∧ K c d = true
def k7 (K : Nat → Nat → Bool) (u a b : Nat) : Nat → Nat → Bool := fun c d => K c d && !(K a d && (inU u c && !(decide (c = a) || decide (c = b))))
def no1 (K : Nat → Nat → Bool) (P : Nat → Bool) : Prop := ∀ c, c < 36 → ¬ a1 K P c
def no2 (K : Nat → Nat → Bool) : Prop := ∀ u d, u < 18 → isD d = true → ¬ a2 K u d
def no3 (R : RT) (K : Nat → Nat → Bool) (w : Nat) : Prop := ∀ k, k < rn R → ¬ a3 R K w k
def no6 (K : Nat → Nat → Bool) : Prop := ∀ b l d, b < 6 → l < 12 → isD d = true → ¬ a6 K b l d
def no7 (K : Nat → Nat → Bool) : Prop := ∀ u a b, u < 18 → ¬ a7 K u a b
def f1 (R : RT) (K : Nat → Nat → Bool) (P : Nat → Bool) (pl : Nat) (K' : Nat → Nat → Bool) (P' : Nat → Bool) : Prop := pl < 36 ∧ a1 K P pl ∧ (∀ c, c < pl → ¬ a1 K P c) ∧ K' = k1 R K pl ∧ P' = pl1 P pl
def f2 (K : Nat → Nat → Bool) (pl : Nat) (K' : Nat → Nat → Bool) : Prop := pl < 18 ∧ (∀ u d, u < pl → isD d = true → ¬ a2 K u d) ∧ ∃ d, isD d = true ∧ a2 K pl d ∧ (∀ e, isD e = true → e < d → ¬ a2 K pl e) ∧ K' = k2 K pl d
def f3 (R : RT) (K : Nat → Nat → Bool) (w pl : Nat) (K' : Nat → Nat → Bool) : Prop := pl < rn R ∧ a3 R K w pl ∧ (∀ k, k < pl → ¬ a3 R K w k) ∧ K' = sift R K pl
def f6 (K : Nat → Nat → Bool) (pl : Nat) (K' : Nat → Nat → Bool) : Prop := pl < 6 ∧ (∀ b l d, b < pl → l < 12 → isD d = true → ¬ a6 K b l d) ∧ ∃ l d, l < 12 ∧ isD d = true ∧ a6 K pl l d ∧ (∀ l' e, l' < l → isD e = true → ¬ a6 K pl l' e) ∧ (∀ e, isD e = true → e < d → ¬ a6 K pl l e) ∧ K' = k6 K pl l d
def f7 (K : Nat → Nat → Bool) (pl : Nat) (K' : Nat → Nat → Bool) : Prop := pl < 18 ∧ (∀ u a b, u < pl → ¬ a7 K u a b) ∧ ∃ a b, a7 K pl a b ∧ (∀ a' b', a' < a → ¬ a7 K pl a' b') ∧ (∀ b', b' < b → ¬ a7 K pl a b') ∧ K' = k7 K pl a b
/-- the next deduction: its kind (0: none), its place, what is left -/
def NX (R : RT) (K : Nat → Nat → Bool) (P : Nat → Bool) (kd pl : Nat) (K' : Nat → Nat → Bool) (P' : Nat → Bool) : Prop :=
  (kd = 0 ∧ pl = 0 ∧ K' = K ∧ P' = P ∧ (dd K = true ∨ (no1 K P ∧ no2 K ∧ no3 R K 2 ∧ no3 R K 0 ∧ no3 R K 1 ∧ no6 K ∧ no7 K))) ∨
  (dd K = false ∧ ((kd = 1 ∧ f1 R K P pl K' P') ∨ (no1 K P ∧ P' = P ∧ ((kd = 2 ∧ f2 K pl K') ∨ (no2 K ∧
    ((kd = 3 ∧ f3 R K 2 pl K') ∨ (no3 R K 2 ∧ ((kd = 4 ∧ f3 R K 0 pl K') ∨ (no3 R K 0 ∧ ((kd = 5 ∧ f3 R K 1 pl K') ∨ (no3 R K 1 ∧
      ((kd = 6 ∧ f6 K pl K') ∨ (no6 K ∧ kd = 7 ∧ f7 K pl K')))))))))))))
theorem f1_u {R : RT} {K : Nat → Nat → Bool} {P : Nat → Bool} {x y : Nat} {A B : Nat → Nat → Bool} {U V : Nat → Bool} (h : f1 R K P x A U) (g : f1 R K P y B V) : x = y ∧ A = B ∧ U = V := by
  obtain ⟨h1, h2, h3, h4, h5⟩ := h
  obtain ⟨g1, g2, g3, g4, g5⟩ := g
  have : x = y := by
    rcases Nat.lt_trichotomy x y with q | q | q
    · exact absurd h2 (g3 x q)
    · exact q
    · exact absurd g2 (h3 y q)
  subst this
  exact ⟨rfl, h4.trans g4.symm, h5.trans g5.symm⟩
theorem f1_n {R : RT} {K : Nat → Nat → Bool} {P : Nat → Bool} {x : Nat} {A : Nat → Nat → Bool} {U : Nat → Bool} (h : f1 R K P x A U) (g : no1 K P) : False := g x h.1 h.2.1
theorem f2_u {K : Nat → Nat → Bool} {x y : Nat} {A B : Nat → Nat → Bool} (h : f2 K x A) (g : f2 K y B) : x = y ∧ A = B := by
  obtain ⟨h1, h2, d, h3, h4, h5, h6⟩ := h
  obtain ⟨g1, g2, e, g3, g4, g5, g6⟩ := g
  have : x = y := by
    rcases Nat.lt_trichotomy x y with q | q | q
    · exact absurd h4 (g2 x d q h3)
    · exact q
    · exact absurd g4 (h2 y e q g3)
  subst this
  have : d = e := by
    rcases Nat.lt_trichotomy d e with q | q | q
    · exact absurd h4 (g5 d h3 q)
    · exact q
    · exact absurd g4 (h5 e g3 q)
  subst this
  exact ⟨rfl, h6.trans g6.symm⟩
theorem f2_n {K : Nat → Nat → Bool} {x : Nat} {A : Nat → Nat → Bool} (h : f2 K x A) (g : no2 K) : False := by
  obtain ⟨h1, h2, d, h3, h4, h5, h6⟩ := h
  exact g x d h1 h3 h4
theorem f3_u {R : RT} {K : Nat → Nat → Bool} {w x y : Nat} {A B : Nat → Nat → Bool} (h : f3 R K w x A) (g : f3 R K w y B) : x = y ∧ A = B := by
  obtain ⟨h1, h2, h3, h4⟩ := h
  obtain ⟨g1, g2, g3, g4⟩ := g
  have : x = y := by
    rcases Nat.lt_trichotomy x y with q | q | q
    · exact absurd h2 (g3 x q)
    · exact q
    · exact absurd g2 (h3 y q)
  subst this
  exact ⟨rfl, h4.trans g4.symm⟩
theorem f3_n {R : RT} {K : Nat → Nat → Bool} {w x : Nat} {A : Nat → Nat → Bool} (h : f3 R K w x A) (g : no3 R K w) : False := g x h.1 h.2.1
theorem f6_u {K : Nat → Nat → Bool} {x y : Nat} {A B : Nat → Nat → Bool} (h : f6 K x A) (g : f6 K y B) : x = y ∧ A = B := by
  obtain ⟨h1, h2, l, d, h3, h4, h5, h6, h7, h8⟩ := h
  obtain ⟨g1, g2, m, e, g3, g4, g5, g6, g7, g8⟩ := g
  have : x = y := by
    rcases Nat.lt_trichotomy x y with q | q | q
    · exact absurd h5 (g2 x l d q h3 h4)
    · exact q
    · exact absurd g5 (h2 y m e q g3 g4)
  subst this
  have : l = m := by
    rcases Nat.lt_trichotomy l m with q | q | q
    · exact absurd h5 (g6 l d q h4)
    · exact q
    · exact absurd g5 (h6 m e q g4)
  subst this
  have : d = e := by
    rcases Nat.lt_trichotomy d e with q | q | q
    · exact absurd h5 (g7 d h4 q)
    · exact q
    · exact absurd g5 (h7 e g4 q)
  subst this
  exact ⟨rfl, h8.trans g8.symm⟩
theorem f6_n {K : Nat → Nat → Bool} {x : Nat} {A : Nat → Nat → Bool} (h : f6 K x A) (g : no6 K) : False := by
  obtain ⟨h1, h2, l, d, h3, h4, h5, h6, h7, h8⟩ := h
  exact g x l d h1 h3 h4 h5
theorem f7_u {K : Nat → Nat → Bool} {x y : Nat} {A B : Nat → Nat → Bool} (h : f7 K x A) (g : f7 K y B) : x = y ∧ A = B := by
  obtain ⟨h1, h2, a, b, h3, h4, h5, h6⟩ := h
  obtain ⟨g1, g2, c, e, g3, g4, g5, g6⟩ := g
  have : x = y := by
    rcases Nat.lt_trichotomy x y with q | q | q
    · exact absurd h3 (g2 x a b q)
    · exact q
    · exact absurd g3 (h2 y c e q)
  subst this
  have : a = c := by
    rcases Nat.lt_trichotomy a c with q | q | q
    · exact absurd h3 (g4 a b q)
    · exact q
    · exact absurd g3 (h4 c e q)
  subst this
  have : b = e := by
    rcases Nat.lt_trichotomy b e with q | q | q
    · exact absurd h3 (g5 b q)
    · exact q
    · exact absurd g3 (h5 e q)
  subst this
  exact ⟨rfl, h6.trans g6.symm⟩
theorem f7_n {K : Nat → Nat → Bool} {x : Nat} {A : Nat → Nat → Bool} (h : f7 K x A) (g : no7 K) : False := by
  obtain ⟨h1, h2, a, b, h3, h4⟩ := h
  exact g x a b h1 h3
theorem NX_u {R : RT} {K : Nat → Nat → Bool} {P : Nat → Bool} {kd pl kd2 pl2 : Nat} {A B : Nat → Nat → Bool} {U V : Nat → Bool} (h : NX R K P kd pl A U) (g : NX R K P kd2 pl2 B V) : kd = kd2 ∧ pl = pl2 ∧ A = B ∧ U = V := by
  rcases h with ⟨h1, h2, h3, h4, h5⟩ | ⟨hd, h⟩
  · rcases g with ⟨g1, g2, g3, g4, g5⟩ | ⟨gd, g⟩
    · exact ⟨h1.trans g1.symm, h2.trans g2.symm, h3.trans g3.symm, h4.trans g4.symm⟩
    · exfalso
      rcases h5 with h5 | ⟨n1, n2, n3, n4, n5, n6, n7⟩
      · rw [h5] at gd; cases gd
      rcases g with ⟨_, g⟩ | ⟨_, _, g⟩
      · exact f1_n g n1
      rcases g with ⟨_, g⟩ | ⟨_, g⟩
      · exact f2_n g n2
      rcases g with ⟨_, g⟩ | ⟨_, g⟩
      · exact f3_n g n3
      rcases g with ⟨_, g⟩ | ⟨_, g⟩
      · exact f3_n g n4
      rcases g with ⟨_, g⟩ | ⟨_, g⟩
      · exact f3_n g n5
      rcases g with ⟨_, g⟩ | ⟨_, _, g⟩
      · exact f6_n g n6
      · exact f7_n g n7
  · rcases g with ⟨g1, g2, g3, g4, g5⟩ | ⟨gd, g⟩
    · exfalso
      rcases g5 with g5 | ⟨n1, n2, n3, n4, n5, n6, n7⟩
      · rw [g5] at hd; cases hd
      rcases h with ⟨_, g⟩ | ⟨_, _, g⟩
      · exact f1_n g n1
      rcases g with ⟨_, g⟩ | ⟨_, g⟩
      · exact f2_n g n2
      rcases g with ⟨_, g⟩ | ⟨_, g⟩
      · exact f3_n g n3
      rcases g with ⟨_, g⟩ | ⟨_, g⟩
      · exact f3_n g n4
      rcases g with ⟨_, g⟩ | ⟨_, g⟩
      · exact f3_n g n5
      rcases g with ⟨_, g⟩ | ⟨_, _, g⟩
      · exact f6_n g n6
      · exact f7_n g n7
    · rcases h with ⟨h0, h⟩ | ⟨hn, hP, h⟩ <;> rcases g with ⟨g0, g⟩ | ⟨gn, gP, g⟩
      · obtain ⟨e1, e2, e3⟩ := f1_u h g
        exact ⟨h0.trans g0.symm, e1, e2, e3⟩
      · exact (f1_n h gn).elim
      · exact (f1_n g hn).elim
      have hU : U = V := hP.trans gP.symm
      rcases h with ⟨h0, h⟩ | ⟨hn, h⟩ <;> rcases g with ⟨g0, g⟩ | ⟨gn, g⟩
      · obtain ⟨e1, e2⟩ := f2_u h g
        exact ⟨h0.trans g0.symm, e1, e2, hU⟩
      · exact (f2_n h gn).elim
      · exact (f2_n g hn).elim
      rcases h with ⟨h0, h⟩ | ⟨hn, h⟩ <;> rcases g with ⟨g0, g⟩ | ⟨gn, g⟩
      · obtain ⟨e1, e2⟩ := f3_u h g
        exact ⟨h0.trans g0.symm, e1, e2, hU⟩
      · exact (f3_n h gn).elim
      · exact (f3_n g hn).elim
      rcases h with ⟨h0, h⟩ | ⟨hn, h⟩ <;> rcases g with ⟨g0, g⟩ | ⟨gn, g⟩
      · obtain ⟨e1, e2⟩ := f3_u h g
        exact ⟨h0.trans g0.symm, e1, e2, hU⟩
      · exact (f3_n h gn).elim
      · exact (f3_n g hn).elim
      rcases h with ⟨h0, h⟩ | ⟨hn, h⟩ <;> rcases g with ⟨g0, g⟩ | ⟨gn, g⟩
      · obtain ⟨e1, e2⟩ := f3_u h g
        exact ⟨h0.trans g0.symm, e1, e2, hU⟩
      · exact (f3_n h gn).elim
      · exact (f3_n g hn).elim
      rcases h with ⟨h0, h⟩ | ⟨hn, h0, h⟩ <;> rcases g with ⟨g0, g⟩ | ⟨gn, g0, g⟩
      · obtain ⟨e1, e2⟩ := f6_u h g
        exact ⟨h0.trans g0.symm, e1, e2, hU⟩
      · exact (f6_n h gn).elim
      · exact (f6_n g hn).elim
      · obtain ⟨e1, e2⟩ := f7_u h g
        exact ⟨h0.trans g0.symm, e1, e2, hU⟩
/-- the class's constraints -/
def RulAt (h : PH) (r : Nat) (R : RT) : Prop :=
  ∃ V kd sm ln cl ar pe, h.2 r = obj 4 7 V ∧ V 0 = .ref (r + 1) ∧ V 1 = .ref (r + 2) ∧ V 2 = .ref (r + 3) ∧ V 3 = .ref (r + 4) ∧ V 4 = .ref (r + 5) ∧ V 5 = .ref (r + 6) ∧ V 6 = .int (nI (rn R)) ∧
    (h.2 (r + 1) = oI 8 kd ∧ h.2 (r + 2) = oI 8 sm ∧ h.2 (r + 3) = oI 8 ln ∧ h.2 (r + 4) = oI 48 cl ∧ h.2 (r + 5) = oL 8 ar ∧ h.2 (r + 6) = oL 36 pe) ∧
    (∀ k, k < rn R → kd k = nI (rk R k) ∧ sm k = nI (rs R k) ∧ ln k = nI (rl R k) ∧ (∀ j, j < rl R k → cl (k * 6 + j) = nI (rc R k j)) ∧ CS (ar k) (mem R k)) ∧
    ∀ c, c < 36 → CS (pe c) (peer R c)
def UR (r : Nat) : Nat → Prop := fun k => r ≤ k ∧ k < r + 7
theorem RulAt.fr {h h' : PH} {r : Nat} {R : RT} {S : Nat → Prop} (H : RulAt h r R) (f : Fr S h h') (n : ∀ k, UR r k → ¬ S k) : RulAt h' r R := by
  have e : ∀ j, j < 7 → h'.2 (r + j) = h.2 (r + j) := fun j hj => f.2 _ (n _ ⟨by omega, by omega⟩)
  obtain ⟨V, kd, sm, ln, cl, ar, pe, a0, a1, a2, a3, a4, a5, a6, a7, ⟨b1, b2, b3, b4, b5, b6⟩, c1⟩ := H
  exact ⟨V, kd, sm, ln, cl, ar, pe, (e 0 (by omega)).trans a0, a1, a2, a3, a4, a5, a6, a7, ⟨(e 1 (by omega)).trans b1, (e 2 (by omega)).trans b2, (e 3 (by omega)).trans b3, (e 4 (by omega)).trans b4, (e 5 (by omega)).trans b5, (e 6 (by omega)).trans b6⟩, c1⟩
