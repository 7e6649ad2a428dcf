/-! The list of the search: how many, which first, which digits. -/
abbrev EL : Type := List (Option (Nat → Nat))
def nso : EL → Nat
  | [] => 0
  | none :: l => nso l
  | some _ :: l => nso l + 1
def ngu : EL → Nat
  | [] => 0
  | none :: l => ngu l + 1
  | some _ :: l => ngu l
def ffst : EL → Option (Nat × (Nat → Nat))
  | [] => none
  | some f :: _ => some (0, f)
  | none :: l => (ffst l).map fun x => (x.1 + 1, x.2)
theorem nso_app : ∀ a b : EL, nso (a ++ b) = nso a + nso b := by
  intro a
  induction a with
  | nil => intro b; show nso b = 0 + nso b; omega
  | cons e a ih =>
    intro b
    cases e with
    | none => exact ih b
    | some f => show nso (a ++ b) + 1 = nso a + 1 + nso b; rw [ih b]; omega
theorem ngu_app : ∀ a b : EL, ngu (a ++ b) = ngu a + ngu b := by
  intro a
  induction a with
  | nil => intro b; show ngu b = 0 + ngu b; omega
  | cons e a ih =>
    intro b
    cases e with
    | none => show ngu (a ++ b) + 1 = ngu a + 1 + ngu b; rw [ih b]; omega
    | some f => exact ih b
theorem ffst_app : ∀ a b : EL, ffst (a ++ b) = match ffst a with
    | some x => some x
    | none => (ffst b).map fun x => (x.1 + ngu a, x.2) := by
  intro a
  induction a with
  | nil =>
    intro b
    show ffst b = (ffst b).map fun x => (x.1 + 0, x.2)
    cases ffst b <;> rfl
  | cons e a ih =>
    intro b
    cases e with
    | some f => rfl
    | none =>
      show (ffst (a ++ b)).map _ = match (ffst a).map _ with
        | some x => some x
        | none => (ffst b).map fun x => (x.1 + (ngu a + 1), x.2)
      rw [ih b]
      cases ffst a with
      | some x => rfl
      | none =>
        cases ffst b with
        | none => rfl
        | some y => show some (y.1 + ngu a + 1, y.2) = some (y.1 + (ngu a + 1), y.2); rw [Nat.add_assoc]
theorem ffst_n : ∀ a : EL, ffst a = none ↔ nso a = 0 := by
  intro a
  induction a with
  | nil => exact iff_of_true rfl rfl
  | cons e a ih =>
    cases e with
    | some f => exact iff_of_false (by simp [ffst]) (by simp [nso])
    | none =>
      show (ffst a).map _ = none ↔ nso a = 0
      rw [← ih]
      cases ffst a <;> simp
/-- counted, guesses, guesses of the first, digits of the first, digits seen -/
abbrev RS : Type := Nat × Nat × Nat × (Nat → Nat) × (Nat → Nat → Bool)
def rgu (s : RS) : RS := (s.1, s.2.1 + 1, s.2.2)
def rno (s : RS) (f : Nat → Nat) : RS := (s.1 + 1, s.2.1, if s.1 = 0 then s.2.1 else s.2.2.1, if s.1 = 0 then f else s.2.2.2.1, fun c d => s.2.2.2.2 c d || decide (d = f c))
def rrun (lim : Nat) : EL → RS → RS
  | [], s => s
  | none :: l, s => if lim ≤ s.1 then s else rrun lim l (rgu s)
  | some f :: l, s => if lim ≤ s.1 then s else rrun lim l (rno s f)
theorem rrun_s {lim : Nat} {s : RS} (h : lim ≤ s.1) : ∀ l, rrun lim l s = s := by
  intro l
  cases l with
  | nil => rfl
  | cons e l => cases e <;> exact if_pos h
theorem rrun_app {lim : Nat} : ∀ (a b : EL) (s : RS), rrun lim (a ++ b) s = rrun lim b (rrun lim a s) := by
  intro a
  induction a with
  | nil => intro b s; rfl
  | cons e a ih =>
    intro b s
    by_cases h : lim ≤ s.1
    · rw [rrun_s h, rrun_s h, rrun_s h]
    · cases e with
      | none =>
        show (if lim ≤ s.1 then s else rrun lim (a ++ b) (rgu s)) = rrun lim b (if lim ≤ s.1 then s else rrun lim a (rgu s))
        rw [if_neg h, if_neg h, ih]
      | some f =>
        show (if lim ≤ s.1 then s else rrun lim (a ++ b) (rno s f)) = rrun lim b (if lim ≤ s.1 then s else rrun lim a (rno s f))
        rw [if_neg h, if_neg h, ih]
theorem rrun_c {lim : Nat} : ∀ (l : EL) (s : RS), s.1 ≤ lim → (rrun lim l s).1 = min lim (s.1 + nso l) := by
  intro l
  induction l with
  | nil => intro s h; show s.1 = min lim (s.1 + 0); omega
  | cons e l ih =>
    intro s h
    by_cases q : lim ≤ s.1
    · rw [rrun_s q]; omega
    · cases e with
      | none =>
        show (if lim ≤ s.1 then s else rrun lim l (rgu s)).1 = min lim (s.1 + nso l)
        rw [if_neg q]
        exact ih (rgu s) h
      | some f =>
        show (if lim ≤ s.1 then s else rrun lim l (rno s f)).1 = min lim (s.1 + (nso l + 1))
        rw [if_neg q, ih (rno s f) (show s.1 + 1 ≤ lim by omega)]
        show min lim (s.1 + 1 + nso l) = _
        omega
theorem rrun_u {lim : Nat} : ∀ (l : EL) (s : RS), s.1 + nso l ≤ lim → ∀ c d, ((rrun lim l s).2.2.2.2 c d = true ↔ s.2.2.2.2 c d = true ∨ ∃ f, some f ∈ l ∧ f c = d) := by
  intro l
  induction l with
  | nil =>
    intro s _ c d
    show s.2.2.2.2 c d = true ↔ _
    simp
  | cons e l ih =>
    intro s h c d
    cases e with
    | none =>
      have h' : s.1 + nso l ≤ lim := h
      by_cases q : lim ≤ s.1
      · rw [rrun_s q]
        constructor
        · exact fun z => Or.inl z
        · rintro (z | ⟨f, z1, z2⟩)
          · exact z
          · exfalso
            have hz : nso l = 0 := by omega
            have : ∀ (l : EL), nso l = 0 → ∀ f, some f ∈ l → False := by
              intro l
              induction l with
              | nil => intro _ f z; cases z
              | cons e l ih2 =>
                intro h f z
                cases e with
                | none =>
                  cases z with
                  | tail _ z => exact ih2 h f z
                | some g => exact absurd h (Nat.succ_ne_zero _)
            cases z1 with
            | tail _ z1 => exact this l hz f z1
      · show (if lim ≤ s.1 then s else rrun lim l (rgu s)).2.2.2.2 c d = true ↔ _
        rw [if_neg q, ih (rgu s) h' c d]
        show (s.2.2.2.2 c d = true ∨ _) ↔ _
        simp
    | some g =>
      have h' : s.1 + (nso l + 1) ≤ lim := h
      have q : ¬ lim ≤ s.1 := by omega
      show (if lim ≤ s.1 then s else rrun lim l (rno s g)).2.2.2.2 c d = true ↔ _
      rw [if_neg q, ih (rno s g) (show s.1 + 1 + nso l ≤ lim by omega) c d]
      show ((s.2.2.2.2 c d || decide (d = g c)) = true ∨ _) ↔ _
      rw [Bool.or_eq_true, decide_eq_true_iff]
      constructor
      · rintro ((z | z) | ⟨f, z1, z2⟩)
        · exact Or.inl z
        · exact Or.inr ⟨g, List.mem_cons_self, z.symm⟩
        · exact Or.inr ⟨f, List.mem_cons_of_mem _ z1, z2⟩
      · rintro (z | ⟨f, z1, z2⟩)
        · exact Or.inl (Or.inl z)
        · rcases List.mem_cons.mp z1 with z | z
          · cases z
            exact Or.inl (Or.inr z2.symm)
          · exact Or.inr ⟨f, z, z2⟩
theorem rrun_k {lim : Nat} : ∀ (l : EL) (s : RS), s.1 ≠ 0 → (rrun lim l s).2.2.1 = s.2.2.1 ∧ (rrun lim l s).2.2.2.1 = s.2.2.2.1 := by
  intro l
  induction l with
  | nil => intro s _; exact ⟨rfl, rfl⟩
  | cons e l ih =>
    intro s h
    by_cases q : lim ≤ s.1
    · rw [rrun_s q]; exact ⟨rfl, rfl⟩
    · cases e with
      | none =>
        show (if lim ≤ s.1 then s else rrun lim l (rgu s)).2.2.1 = _ ∧ (if lim ≤ s.1 then s else rrun lim l (rgu s)).2.2.2.1 = _
        rw [if_neg q]
        exact ih (rgu s) h
      | some f =>
        show (if lim ≤ s.1 then s else rrun lim l (rno s f)).2.2.1 = _ ∧ (if lim ≤ s.1 then s else rrun lim l (rno s f)).2.2.2.1 = _
        rw [if_neg q]
        obtain ⟨h1, h2⟩ := ih (rno s f) (Nat.succ_ne_zero _)
        refine ⟨h1.trans ?_, h2.trans ?_⟩
        · show (if s.1 = 0 then _ else _) = _
          rw [if_neg h]
        · show (if s.1 = 0 then _ else _) = _
          rw [if_neg h]
theorem rrun_f {lim : Nat} (hl : 1 ≤ lim) : ∀ (l : EL) (s : RS) (g : Nat) (f : Nat → Nat), s.1 = 0 → ffst l = some (g, f) → (rrun lim l s).2.2.1 = s.2.1 + g ∧ (rrun lim l s).2.2.2.1 = f := by
  intro l
  induction l with
  | nil => intro s g f _ h; cases h
  | cons e l ih =>
    intro s g f h0 h
    have q : ¬ lim ≤ s.1 := by omega
    cases e with
    | none =>
      show (if lim ≤ s.1 then s else rrun lim l (rgu s)).2.2.1 = _ ∧ (if lim ≤ s.1 then s else rrun lim l (rgu s)).2.2.2.1 = _
      rw [if_neg q]
      have h' : (ffst l).map (fun x => (x.1 + 1, x.2)) = some (g, f) := h
      cases hf : ffst l with
      | none => rw [hf] at h'; cases h'
      | some x =>
        rw [hf] at h'
        simp only [Option.map_some, Option.some.injEq, Prod.mk.injEq] at h'
        obtain ⟨z1, z2⟩ := ih (rgu s) x.1 x.2 h0 (by rw [hf])
        refine ⟨z1.trans ?_, z2.trans h'.2⟩
        show s.2.1 + 1 + x.1 = s.2.1 + g
        omega
    | some f' =>
      show (if lim ≤ s.1 then s else rrun lim l (rno s f')).2.2.1 = _ ∧ (if lim ≤ s.1 then s else rrun lim l (rno s f')).2.2.2.1 = _
      rw [if_neg q]
      cases h
      obtain ⟨z1, z2⟩ := rrun_k l (rno s f) (Nat.succ_ne_zero _)
      refine ⟨z1.trans ?_, z2.trans ?_⟩
      · show (if s.1 = 0 then s.2.1 else _) = _
        rw [if_pos h0]
        rfl
      · show (if s.1 = 0 then f else _) = _
        rw [if_pos h0]
theorem nso_cat {p : Nat → Bool} {L : Nat → EL} : ∀ k, nso (cat6 p L k) = smN (fun d => if isD d && p d then nso (L d) else 0) k := by
  intro k
  induction k with
  | zero => rfl
  | succ k ih =>
    show nso (cat6 p L k ++ if isD k && p k then none :: L k else []) = _ + _
    rw [nso_app, ih]
    show _ = _ + if (isD k && p k) = true then nso (L k) else 0
    cases q : isD k && p k
    · rfl
    · rfl
theorem mem_cat {p : Nat → Bool} {L : Nat → EL} {f : Nat → Nat} : ∀ k, some f ∈ cat6 p L k ↔ ∃ d, d < k ∧ isD d = true ∧ p d = true ∧ some f ∈ L d := by
  intro k
  induction k with
  | zero =>
    show some f ∈ ([] : EL) ↔ _
    simp
  | succ k ih =>
    show some f ∈ (cat6 p L k ++ if isD k && p k then none :: L k else []) ↔ _
    rw [List.mem_append, ih]
    constructor
    · rintro (⟨d, h1, h2⟩ | h)
      · exact ⟨d, by omega, h2⟩
      · cases q : isD k && p k
        · rw [q] at h; cases h
        · rw [q] at h
          rw [Bool.and_eq_true] at q
          refine ⟨k, by omega, q.1, q.2, ?_⟩
          rcases List.mem_cons.mp h with z | z
          · cases z
          · exact z
    · rintro ⟨d, h1, h2, h3, h4⟩
      by_cases w : d = k
      · subst w
        right
        rw [h2, h3]
        exact List.mem_cons_of_mem _ h4
      · exact Or.inl ⟨d, by omega, h2, h3, h4⟩
def nB : Nat → Nat
  | 0 => 1
  | n + 1 => 6 * (1 + nB n) + 1
theorem ngu_cat {p : Nat → Bool} {L : Nat → EL} {b : Nat} (h : ∀ d, isD d = true → p d = true → ngu (L d) ≤ b) : ngu (cat6 p L 7) ≤ 6 * (1 + b) := by
  have key : ∀ k, k ≤ 7 → ngu (cat6 p L k) ≤ (k - 1) * (1 + b) := by
    intro k
    induction k with
    | zero => intro _; exact Nat.zero_le _
    | succ k ih =>
      intro hk
      have h1 := ih (by omega)
      show ngu (cat6 p L k ++ if isD k && p k then none :: L k else []) ≤ _
      rw [ngu_app]
      cases q : isD k && p k
      · have : (k - 1) * (1 + b) ≤ (k + 1 - 1) * (1 + b) := Nat.mul_le_mul_right _ (by omega)
        show ngu (cat6 p L k) + 0 ≤ _
        omega
      · rw [Bool.and_eq_true] at q
        have h2 := h k q.1 q.2
        have hk1 := isD_b q.1
        obtain ⟨j, rfl⟩ : ∃ j, k = j + 1 := ⟨k - 1, by omega⟩
        show ngu (cat6 p L (j + 1)) + (ngu (L (j + 1)) + 1) ≤ (j + 1 + 1 - 1) * (1 + b)
        rw [show j + 1 + 1 - 1 = j + 1 by omega, Nat.add_mul, Nat.one_mul]
        rw [show j + 1 - 1 = j by omega] at h1
        omega
  exact key 7 (Nat.le_refl 7)
theorem Ev_p {R : RT} (hR : ROK R) : ∀ n K P L, PI K P → Ev R n K P L → nso L = NS R K ∧ (∀ f, some f ∈ L → Sol R K f) ∧ (∀ f, Sol R K f → ∃ g, some g ∈ L ∧ ∀ c, c < 36 → g c = f c) ∧ ngu L ≤ nB n := by
  intro n
  have hfin : ∀ {m K P K' P' L}, PI K P → Cln R m K P K' P' → fin36 K' P' = true → L = [some (fdg K')] → nso L = NS R K ∧ (∀ f, some f ∈ L → Sol R K f) ∧ (∀ f, Sol R K f → ∃ g, some g ∈ L ∧ ∀ c, c < 36 → g c = f c) ∧ ngu L = 0 := by
    intro m K P K' P' L hp hc hf hL
    obtain ⟨g1, g2, g3, g4⟩ := Cln_p hR hc hp
    obtain ⟨z1, z2⟩ := fin_sol hR g4 g1 hf
    subst hL
    refine ⟨?_, fun f hm => ?_, fun f hs => ⟨_, List.mem_cons_self, fun c hc => (z2 f ((g2 f).mpr hs) c hc).symm⟩, rfl⟩
    · rw [← NS_congr g2, NS_1 hR z1 z2]
      rfl
    · rcases List.mem_cons.mp hm with z | z
      · cases z
        exact (g2 _).mp z1
      · cases z
  have hded : ∀ {m K P K' P' L}, PI K P → Cln R m K P K' P' → dd K' = true → L = ([] : EL) → nso L = NS R K ∧ (∀ f, some f ∈ L → Sol R K f) ∧ (∀ f, Sol R K f → ∃ g, some g ∈ L ∧ ∀ c, c < 36 → g c = f c) ∧ ngu L = 0 := by
    intro m K P K' P' L hp hc hd hL
    obtain ⟨g1, g2, g3, g4⟩ := Cln_p hR hc hp
    subst hL
    refine ⟨?_, fun f hm => (by cases hm), fun f hs => absurd ((g2 f).mpr hs) (dead_sol hd f), rfl⟩
    rw [← NS_congr g2, NS_0 (dead_sol hd)]
    rfl
  induction n with
  | zero =>
    rintro K P L hp ⟨m, K', P', hc, ⟨hf, hL⟩ | ⟨_, hd, hL⟩⟩
    · obtain ⟨x1, x2, x3, x4⟩ := hfin hp hc hf hL
      exact ⟨x1, x2, x3, by rw [x4]; exact Nat.zero_le _⟩
    · obtain ⟨x1, x2, x3, x4⟩ := hded hp hc hd hL
      exact ⟨x1, x2, x3, by rw [x4]; exact Nat.zero_le _⟩
  | succ n ih =>
    rintro K P L hp ⟨m, K', P', hc, ⟨hf, hL⟩ | ⟨_, hd, hL⟩ | ⟨hf, hd, c, Ls, hw, hE, hL⟩⟩
    · obtain ⟨x1, x2, x3, x4⟩ := hfin hp hc hf hL
      exact ⟨x1, x2, x3, by rw [x4]; exact Nat.zero_le _⟩
    · obtain ⟨x1, x2, x3, x4⟩ := hded hp hc hd hL
      exact ⟨x1, x2, x3, by rw [x4]; exact Nat.zero_le _⟩
    · obtain ⟨g1, g2, g3, g4⟩ := Cln_p hR hc hp
      have hI := fun d hd hk => ih (kpO K' c d) P' (Ls d) (g1.sub kpO_sub) (hE d hd hk)
      subst hL
      refine ⟨?_, fun f hm => ?_, fun f hs => ?_, ?_⟩
      · rw [nso_cat, ← NS_congr g2, NS_bra hR (bra_cell hw.1)]
        unfold bsum
        apply smN_ext
        intro d _
        rw [smN_one (j := c) hw.1 fun e _ hn => by simp [hn]]
        cases q : isD d && K' c d
        · rw [Bool.and_eq_false_iff] at q
          rcases q with q | q <;> simp [q]
        · rw [Bool.and_eq_true] at q
          simp only [q.1, q.2]
          exact (hI d q.1 q.2).1
      · obtain ⟨d, _, h2, h3, h4⟩ := (mem_cat 7).mp hm
        exact (g2 f).mp ((kpO_sol hw.1 f).mp ((hI d h2 h3).2.1 f h4)).1
      · have hs' := (g2 f).mpr hs
        have hx := hs'.1 c hw.1
        obtain ⟨g, z1, z2⟩ := (hI (f c) hx.1 hx.2).2.2.1 f ((kpO_sol hw.1 f).mpr ⟨hs', rfl⟩)
        exact ⟨g, (mem_cat 7).mpr ⟨f c, (isD_b hx.1).2, hx.1, hx.2, z1⟩, z2⟩
      · have := ngu_cat (p := K' c) (L := Ls) (b := nB n) fun d hd hk => (hI d hd hk).2.2.2
        show _ ≤ 6 * (1 + nB n) + 1
        omega
