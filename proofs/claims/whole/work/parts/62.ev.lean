/-! The search: its list of guesses and solutions. -/
def mrow (R : RT) (i : Nat) : Int32 := if i = 108 then nI (rn R) else
  if (i - 109) % 9 = 0 then nI (rk R ((i - 109) / 9)) else if (i - 109) % 9 = 1 then nI (rs R ((i - 109) / 9)) else if (i - 109) % 9 = 2 then nI (rl R ((i - 109) / 9)) else nI (rc R ((i - 109) / 9) ((i - 109) % 9 - 3))
theorem mrow_ok {R : RT} (hR : ROK R) : MRu (mrow R) R := by
  refine ⟨by unfold mrow; rw [if_pos rfl], fun k hk => ?_⟩
  have h8 := hR.1
  have hl := (hR.2 k hk).2.1
  have h6 := mxl_le (rk R k)
  refine ⟨?_, ?_, ?_, fun j hj => ?_⟩
  · unfold mrow
    rw [if_neg (by omega), if_pos (by omega), show (109 + 9 * k - 109) / 9 = k by omega]
  · unfold mrow
    rw [if_neg (by omega), if_neg (by omega), if_pos (by omega), show (110 + 9 * k - 109) / 9 = k by omega]
  · unfold mrow
    rw [if_neg (by omega), if_neg (by omega), if_neg (by omega), if_pos (by omega), show (111 + 9 * k - 109) / 9 = k by omega]
  · unfold mrow
    rw [if_neg (by omega), if_neg (by omega), if_neg (by omega), if_neg (by omega), show (112 + 9 * k + j - 109) / 9 = k by omega, show (112 + 9 * k + j - 109) % 9 - 3 = j by omega]
theorem NX_ex {R : RT} (hR : ROK R) (K : Nat → Nat → Bool) (P : Nat → Bool) : ∃ kd pl K' P', NX R K P kd pl K' P' := by
  have V : ∃ V : Nat → Value, MV 0 V := ⟨fun k => .ref (if k = 0 then 1 else if k = 1 then 2 else if k = 3 then 3 else if k = 9 then 4 else if k = 10 then 5 else if k = 11 then 6 else if k = 12 then 7 else if k = 13 then 8 else if k = 14 then 9 else if k = 15 then 10 else if k = 16 then 11 else if k = 21 then 12 else if k = 24 then 13 else 14), by
    refine ⟨rfl, rfl, rfl, rfl, rfl, rfl, rfl, rfl, rfl, rfl, rfl, rfl, rfl, rfl⟩⟩
  obtain ⟨V, hV⟩ := V
  have H : MN (0, fun k => if k = 0 then obj 10 28 V else if k = 1 then oI 482 (mrow R) else if k = 6 then oI 72 (fun i => if i < 36 then nI (mkd (K i)) else nI (P (i - 36)).toNat) else oI 4 fun _ => 0) 0 6 V R K P := by
    refine ⟨rfl, hV, by omega, ⟨mrow R, rfl, mrow_ok hR⟩, ⟨72, _, by omega, by omega, rfl, fun c hc => ⟨?_, ?_⟩⟩, ⟨_, rfl⟩, _, rfl⟩
    · show (if c < 36 then _ else _) = _
      rw [if_pos hc]
    · show (if 36 + c < 36 then _ else _) = _
      rw [if_neg (by omega), show 36 + c - 36 = c by omega]
  obtain ⟨kd, pl, K', P', _, h, _⟩ := m_next H hR (Nat.le_refl 2000)
  exact ⟨kd, pl, K', P', h⟩
/-- deductions until there is none -/
def Cln (R : RT) : Nat → (Nat → Nat → Bool) → (Nat → Bool) → (Nat → Nat → Bool) → (Nat → Bool) → Prop
  | 0, K, P, K', P' => K' = K ∧ P' = P ∧ NX R K P 0 0 K P
  | m + 1, K, P, K', P' => ∃ kd pl K1 P1, kd ≠ 0 ∧ NX R K P kd pl K1 P1 ∧ Cln R m K1 P1 K' P'
theorem NX_z {R : RT} {K : Nat → Nat → Bool} {P : Nat → Bool} {pl : Nat} {K' : Nat → Nat → Bool} {P' : Nat → Bool} (h : NX R K P 0 pl K' P') : K' = K ∧ P' = P ∧ NX R K P 0 0 K P := by
  have h0 := h
  rcases h with ⟨_, e1, e2, e3, _⟩ | ⟨_, h⟩
  · subst e1 e2 e3
    exact ⟨rfl, rfl, h0⟩
  · exfalso
    rcases h with ⟨e, _⟩ | ⟨_, _, h⟩
    · omega
    rcases h with ⟨e, _⟩ | ⟨_, h⟩
    · omega
    rcases h with ⟨e, _⟩ | ⟨_, h⟩
    · omega
    rcases h with ⟨e, _⟩ | ⟨_, h⟩
    · omega
    rcases h with ⟨e, _⟩ | ⟨_, h⟩
    · omega
    rcases h with ⟨e, _⟩ | ⟨_, e, _⟩
    · omega
    · omega
theorem Cln_ex {R : RT} (hR : ROK R) : ∀ M K P, mea K P ≤ M → ∃ m K' P', m ≤ M ∧ Cln R m K P K' P' := by
  intro M
  induction M with
  | zero =>
    intro K P h
    obtain ⟨kd, pl, K', P', hx⟩ := NX_ex hR K P
    by_cases q : kd = 0
    · subst q
      exact ⟨0, K, P, Nat.le_refl _, rfl, rfl, (NX_z hx).2.2⟩
    · have := NX_mea hx q
      omega
  | succ M ih =>
    intro K P h
    obtain ⟨kd, pl, K', P', hx⟩ := NX_ex hR K P
    by_cases q : kd = 0
    · subst q
      exact ⟨0, K, P, by omega, rfl, rfl, (NX_z hx).2.2⟩
    · have := NX_mea hx q
      obtain ⟨m, K2, P2, h1, h2⟩ := ih K' P' (by omega)
      exact ⟨m + 1, K2, P2, by omega, kd, pl, K', P', q, hx, h2⟩
theorem Cln_p {R : RT} (hR : ROK R) : ∀ {m : Nat} {K : Nat → Nat → Bool} {P : Nat → Bool} {K' : Nat → Nat → Bool} {P' : Nat → Bool}, Cln R m K P K' P' → PI K P → PI K' P' ∧ (∀ f, Sol R K' f ↔ Sol R K f) ∧ (∀ c, c < 36 → ∀ d, isD d = true → K' c d = true → K c d = true) ∧ NX R K' P' 0 0 K' P' := by
  intro m
  induction m with
  | zero =>
    rintro K P K' P' ⟨e1, e2, h⟩ hp
    subst e1 e2
    exact ⟨hp, fun _ => Iff.rfl, fun _ _ _ _ z => z, h⟩
  | succ m ih =>
    rintro K P K' P' ⟨kd, pl, K1, P1, _, h1, h2⟩ hp
    obtain ⟨g1, g2, g3, g4⟩ := ih h2 (NX_PI h1 hp)
    exact ⟨g1, fun f => (g2 f).trans (NX_sol hR h1 f), fun c hc d hd z => NX_sub h1 c hc d hd (g3 c hc d hd z), g4⟩
theorem NX0_no {R : RT} {K : Nat → Nat → Bool} {P : Nat → Bool} (h : NX R K P 0 0 K P) (hd : dd K = false) : no1 K P ∧ no2 K ∧ no3 R K 2 ∧ no3 R K 0 ∧ no3 R K 1 ∧ no6 K ∧ no7 K := by
  rcases h with ⟨_, _, _, _, z | z⟩ | ⟨_, h⟩
  · rw [z] at hd; cases hd
  · exact z
  · exfalso
    rcases h with ⟨e, _⟩ | ⟨_, _, h⟩
    · omega
    rcases h with ⟨e, _⟩ | ⟨_, h⟩
    · omega
    rcases h with ⟨e, _⟩ | ⟨_, h⟩
    · omega
    rcases h with ⟨e, _⟩ | ⟨_, h⟩
    · omega
    rcases h with ⟨e, _⟩ | ⟨_, h⟩
    · omega
    rcases h with ⟨e, _⟩ | ⟨_, e, _⟩
    · omega
    · omega
/-- the digits of a finished position -/
def fdg (K : Nat → Nat → Bool) : Nat → Nat := fun c => lod (K c)
theorem fin_sol {R : RT} (hR : ROK R) {K : Nat → Nat → Bool} {P : Nat → Bool} (h : NX R K P 0 0 K P) (hp : PI K P) (hf : fin36 K P = true) : Sol R K (fdg K) ∧ ∀ g, Sol R K g → ∀ c, c < 36 → g c = fdg K c := by
  obtain ⟨f1, f2⟩ := fin36_t.mp hf
  have hd : dd K = false := dd_f.mpr f2
  obtain ⟨n1, n2, n3, n4, n5, n6, n7⟩ := NX0_no h hd
  have hs : ∀ c, c < 36 → sz (K c) = 1 := fun c hc => by
    have := (hp c hc (f1 c hc)).1
    have := f2 c hc
    omega
  have hx : ∀ c, c < 36 → isD (fdg K c) = true ∧ K c (fdg K c) = true := fun c hc => by
    obtain ⟨x1, x2, _⟩ := lod_x (f2 c hc)
    exact ⟨x1, x2⟩
  have hu : ∀ c, c < 36 → ∀ d, isD d = true → K c d = true → d = fdg K c := fun c hc d hd z => by
    obtain ⟨e, _, _, q⟩ := sz_1.mp (hs c hc)
    rw [q d hd z, q _ (hx c hc).1 (hx c hc).2]
  refine ⟨⟨hx, fun a b ha hb z e => ?_, fun k hk h2 => ?_⟩, fun g hg c hc => hu c hc _ (hg.1 c hc).1 (hg.1 c hc).2⟩
  · have := (hp a ha (f1 a ha)).2 b hb z (fdg K a) (hx a ha).1 (hx a ha).2
    rw [e, (hx b hb).2] at this
    cases this
  · have hc := (hR.2 k hk).2.2.1
    have hN : Nth R K k := by
      have hr := (hR.2 k hk).1
      apply Nth_of hc
      intro z
      have : rk R k = 0 ∨ rk R k = 1 ∨ rk R k = 2 := by omega
      rcases this with q | q | q
      · exact n4 k hk ⟨q, h2, z⟩
      · exact n5 k hk ⟨q, h2, z⟩
      · exact n3 k hk ⟨q, h2, z⟩
    have h0 := hc 0 (by omega)
    obtain ⟨v, g1, g2, _⟩ := hN 0 (fdg K (rc R k 0)) (by omega) (hx _ h0).1 (hx _ h0).2
    exact Way_x (by omega) (fun i hi => hu _ (hc i hi) _ (g1 i hi).1 (g1 i hi).2) g2
theorem dead_sol {R : RT} {K : Nat → Nat → Bool} (h : dd K = true) (f : Nat → Nat) : ¬ Sol R K f := by
  intro z
  have : dd K = false := dd_f.mpr fun c hc => sz_of (z.1 c hc).1 (z.1 c hc).2
  rw [h] at this
  cases this
/-- the cell with the fewest candidates of those with two and more -/
def Few (K : Nat → Nat → Bool) (c : Nat) : Prop := c < 36 ∧ 2 ≤ sz (K c) ∧ (∀ e, e < 36 → 2 ≤ sz (K e) → sz (K c) ≤ sz (K e)) ∧ ∀ e, e < c → 2 ≤ sz (K e) → sz (K c) < sz (K e)
theorem Few.u {K : Nat → Nat → Bool} {a b : Nat} (h : Few K a) (g : Few K b) : a = b := by
  rcases Nat.lt_trichotomy a b with q | q | q
  · have := g.2.2.2 a q h.2.1
    have := h.2.2.1 b g.1 g.2.1
    omega
  · exact q
  · have := h.2.2.2 b q g.2.1
    have := g.2.2.1 a h.1 h.2.1
    omega
theorem Few.ex {K : Nat → Nat → Bool} (h : ∃ c, c < 36 ∧ 2 ≤ sz (K c)) : ∃ c, Few K c := by
  obtain ⟨n, ⟨c, h1, h2, h3⟩, h4⟩ := pk_least (fun n => ∃ c, c < 36 ∧ 2 ≤ sz (K c) ∧ sz (K c) = n) (by
    obtain ⟨c, h1, h2⟩ := h
    exact ⟨_, c, h1, h2, rfl⟩)
  obtain ⟨c', ⟨g1, g2, g3⟩, g4⟩ := pk_least (fun c => c < 36 ∧ 2 ≤ sz (K c) ∧ sz (K c) = n) ⟨c, h1, h2, h3⟩
  refine ⟨c', g1, g2, fun e he z => ?_, fun e he z => ?_⟩
  · rw [g3]
    rcases Nat.lt_or_ge (sz (K e)) n with q | q
    · exact absurd ⟨e, he, z, rfl⟩ (h4 _ q)
    · exact q
  · rw [g3]
    rcases Nat.lt_trichotomy (sz (K e)) n with q | q | q
    · exact absurd ⟨e, by omega, z, rfl⟩ (h4 _ q)
    · exact absurd ⟨by omega, z, q⟩ (g4 e he)
    · exact q
/-- how many cells have two candidates and more -/
def opn (K : Nat → Nat → Bool) : Nat := cnt (fun c => decide (2 ≤ sz (K c))) 36
theorem opn_le {K L : Nat → Nat → Bool} (h : ∀ c, c < 36 → ∀ d, isD d = true → K c d = true → L c d = true) : opn K ≤ opn L := by
  unfold opn
  rw [← smN_cnt, ← smN_cnt]
  refine smN_le fun c hc => ?_
  have := sz_mono (h c hc)
  by_cases q : 2 ≤ sz (K c)
  · rw [decide_eq_true q, decide_eq_true (show 2 ≤ sz (L c) by omega)]; exact Nat.le_refl _
  · rw [decide_eq_false q]; exact Nat.zero_le _
theorem kpO_1 {K : Nat → Nat → Bool} {c d : Nat} (hd : isD d = true) (h : K c d = true) : sz (kpO K c d c) = 1 := sz_1.mpr ⟨d, hd, by unfold kpO; simp [h], fun e _ z => by
  unfold kpO at z
  simp only [Bool.and_eq_true, decide_eq_true_iff] at z
  exact z.2 trivial⟩
theorem opn_lt {K : Nat → Nat → Bool} {c d : Nat} (hc : c < 36) (hd : isD d = true) (h : K c d = true) (h2 : 2 ≤ sz (K c)) : opn (kpO K c d) < opn K := by
  refine cnt_lt (j := c) (fun i hi z => ?_) hc (decide_eq_false (by rw [kpO_1 hd h]; omega)) (decide_eq_true h2)
  have := sz_mono (p := kpO K c d i) (q := K i) (kpO_sub i hi)
  have := of_decide_eq_true z
  exact decide_eq_true (by omega)
/-- a position that is neither finished nor dead, without a deduction, has a cell to guess -/
theorem stk_few {R : RT} {K : Nat → Nat → Bool} {P : Nat → Bool} (h : NX R K P 0 0 K P) (hf : fin36 K P = false) (hd : dd K = false) : ∃ c, Few K c := by
  obtain ⟨n1, _⟩ := NX0_no h hd
  apply Few.ex
  apply Classical.byContradiction
  intro z
  have : fin36 K P = true := fin36_t.mpr ⟨fun c hc => by
    cases q : P c
    · exfalso
      have h0 := dd_f.mp hd c hc
      have h1 : ¬ 2 ≤ sz (K c) := fun w => z ⟨c, hc, w⟩
      exact n1 c hc ⟨q, by omega⟩
    · rfl, dd_f.mp hd⟩
  rw [hf] at this
  cases this
/-- the ways of a cell, one behind the other -/
def cat6 (p : Nat → Bool) (L : Nat → List (Option (Nat → Nat))) : Nat → List (Option (Nat → Nat))
  | 0 => []
  | k + 1 => cat6 p L k ++ if isD k && p k then none :: L k else []
/-- guesses and solutions, in their order -/
def Ev (R : RT) : Nat → (Nat → Nat → Bool) → (Nat → Bool) → List (Option (Nat → Nat)) → Prop
  | 0, K, P, L => ∃ m K' P', Cln R m K P K' P' ∧ ((fin36 K' P' = true ∧ L = [some (fdg K')]) ∨ (fin36 K' P' = false ∧ dd K' = true ∧ L = []))
  | n + 1, K, P, L => ∃ m K' P', Cln R m K P K' P' ∧ ((fin36 K' P' = true ∧ L = [some (fdg K')]) ∨ (fin36 K' P' = false ∧ dd K' = true ∧ L = []) ∨
      (fin36 K' P' = false ∧ dd K' = false ∧ ∃ c Ls, Few K' c ∧ (∀ d, isD d = true → K' c d = true → Ev R n (kpO K' c d) P' (Ls d)) ∧ L = cat6 (K' c) Ls 7))
theorem Ev_ex {R : RT} (hR : ROK R) : ∀ n K P, PI K P → opn K ≤ n → ∃ L, Ev R n K P L := by
  intro n
  induction n with
  | zero =>
    intro K P hp h
    obtain ⟨m, K', P', _, hc⟩ := Cln_ex hR _ K P (Nat.le_refl _)
    obtain ⟨g1, g2, g3, g4⟩ := Cln_p hR hc hp
    cases hf : fin36 K' P'
    · cases hd : dd K'
      · exfalso
        obtain ⟨c, hw⟩ := stk_few g4 hf hd
        have h1 := opn_le g3
        have : opn K' ≠ 0 := fun z => by
          have := cnt_0.mp z c hw.1
          have := of_decide_eq_false this
          have := hw.2.1
          omega
        omega
      · exact ⟨[], m, K', P', hc, Or.inr ⟨hf, hd, rfl⟩⟩
    · exact ⟨_, m, K', P', hc, Or.inl ⟨hf, rfl⟩⟩
  | succ n ih =>
    intro K P hp h
    obtain ⟨m, K', P', _, hc⟩ := Cln_ex hR _ K P (Nat.le_refl _)
    obtain ⟨g1, g2, g3, g4⟩ := Cln_p hR hc hp
    cases hf : fin36 K' P'
    · cases hd : dd K'
      · obtain ⟨c, hw⟩ := stk_few g4 hf hd
        have h1 := opn_le g3
        have hx : ∀ d, ∃ L, isD d = true → K' c d = true → Ev R n (kpO K' c d) P' L := by
          intro d
          by_cases q : isD d = true ∧ K' c d = true
          · have := opn_lt hw.1 q.1 q.2 hw.2.1
            obtain ⟨L, hL⟩ := ih (kpO K' c d) P' (g1.sub kpO_sub) (by omega)
            exact ⟨L, fun _ _ => hL⟩
          · exact ⟨[], fun a b => absurd ⟨a, b⟩ q⟩
        exact ⟨_, m, K', P', hc, Or.inr (Or.inr ⟨hf, hd, c, fun d => (hx d).choose, hw, fun d => (hx d).choose_spec, rfl⟩)⟩
      · exact ⟨[], m, K', P', hc, Or.inr (Or.inl ⟨hf, hd, rfl⟩)⟩
    · exact ⟨_, m, K', P', hc, Or.inl ⟨hf, rfl⟩⟩
