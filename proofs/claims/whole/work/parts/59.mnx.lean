/-! The reference's next deduction, whole. -/
def noK (R : RT) (K : Nat → Nat → Bool) (P : Nat → Bool) (kd : Nat) : Prop := (kd = 1 → no1 K P) ∧ (kd = 2 → no2 K) ∧ (kd = 3 → no3 R K 2) ∧ (kd = 4 → no3 R K 0) ∧ (kd = 5 → no3 R K 1) ∧ (kd = 6 → no6 K) ∧ (kd = 7 → no7 K)
def fK (R : RT) (K : Nat → Nat → Bool) (P : Nat → Bool) (kd pl : Nat) (K' : Nat → Nat → Bool) (P' : Nat → Bool) : Prop :=
  (kd = 1 ∧ f1 R K P pl K' P') ∨ (P' = P ∧ ((kd = 2 ∧ f2 K pl K') ∨ (kd = 3 ∧ f3 R K 2 pl K') ∨ (kd = 4 ∧ f3 R K 0 pl K') ∨ (kd = 5 ∧ f3 R K 1 pl K') ∨ (kd = 6 ∧ f6 K pl K') ∨ (kd = 7 ∧ f7 K pl K')))
theorem cZ_0 : cZ 0 = some () := rfl
theorem cZ_1 : cZ 1 = some () := rfl
theorem m_does {h0 h : PH} {mo x : Nat} {R : RT} {K : Nat → Nat → Bool} {P : Nat → Bool} {kd : Nat} {pl : Int32} (H : MS h0 h mo x R K kd pl K P) (hR : ROK R) (h1 : 1 ≤ kd) (h7 : kd ≤ 7) {F : Nat} (hF : 2000 ≤ F) :
    (noK R K P kd ∧ NoD h0 mo x R K kd pl K P (f_Mo_does F mo x h)) ∨ ∃ pl' K' P', fK R K P kd pl' K' P' ∧ YeD h0 mo x R K kd pl' K' P' (f_Mo_does F mo x h) := by
  obtain ⟨V, M0⟩ := H.mn
  have hne : ∀ c, c < 8 → kd ≠ c → ¬ nI kd = nI c := fun c hc z q => z ((nI_eq (by omega) (by omega)).mp q)
  have yes : ∀ {pl' : Nat} {K' : Nat → Nat → Bool} {P' : Nat → Bool} {o : Option (Int32 × PH)}, YeD h0 mo x R K kd pl' K' P' o → YeD h0 mo x R K kd pl' K' P' (bnd2 o fun a b => bnd (cZ a) fun _ => some (a, b)) := by
    rintro pl' K' P' o ⟨h', e1, e2⟩
    exact ⟨h', by rw [e1, bnd2_s, cZ_1, bnd_s], e2⟩
  have non : ∀ {o : Option (Int32 × PH)}, NoD h0 mo x R K kd pl K P o → NoD h0 mo x R K kd pl K P (bnd2 o fun a b => bnd (cZ a) fun _ => some (a, b)) := by
    rintro o ⟨h', e1, e2⟩
    exact ⟨h', by rw [e1, bnd2_s, cZ_0, bnd_s], e2⟩
  unfold f_Mo_does
  rw [H.kd, bnd_s]
  by_cases q1 : kd = 1
  · subst q1
    rw [if_pos (show nI 1 = (1 : Int32) from rfl), M0.ck, bnd_s]
    rcases m_singles H hR (F := F) (by omega) with ⟨g1, g2⟩ | ⟨c, g1, g2⟩
    · exact Or.inl ⟨⟨fun _ => g1, fun z => by omega, fun z => by omega, fun z => by omega, fun z => by omega, fun z => by omega, fun z => by omega⟩, non g2⟩
    · exact Or.inr ⟨c, _, _, Or.inl ⟨rfl, g1⟩, yes g2⟩
  rw [if_neg (show ¬ nI kd = (1 : Int32) from hne 1 (by omega) q1)]
  by_cases q2 : kd = 2
  · subst q2
    rw [if_pos (show nI 2 = (2 : Int32) from rfl), M0.ck, bnd_s]
    rcases m_only H (F := F) (by omega) with ⟨g1, g2⟩ | ⟨u, K', g1, g2⟩
    · exact Or.inl ⟨⟨fun z => by omega, fun _ => g1, fun z => by omega, fun z => by omega, fun z => by omega, fun z => by omega, fun z => by omega⟩, non g2⟩
    · exact Or.inr ⟨u, _, _, Or.inr ⟨rfl, Or.inl ⟨rfl, g1⟩⟩, yes g2⟩
  rw [if_neg (show ¬ nI kd = (2 : Int32) from hne 2 (by omega) q2)]
  by_cases q3 : kd = 3
  · subst q3
    rw [if_pos (show nI 3 = (3 : Int32) from rfl), M0.ck, bnd_s]
    rcases m_constr H hR (w := 2) (by omega) hF with ⟨g1, g2⟩ | ⟨u, K', g1, g2⟩
    · exact Or.inl ⟨⟨fun z => by omega, fun z => by omega, fun _ => g1, fun z => by omega, fun z => by omega, fun z => by omega, fun z => by omega⟩, non g2⟩
    · exact Or.inr ⟨u, _, _, Or.inr ⟨rfl, Or.inr (Or.inl ⟨rfl, g1⟩)⟩, yes g2⟩
  rw [if_neg (show ¬ nI kd = (3 : Int32) from hne 3 (by omega) q3)]
  by_cases q4 : kd = 4
  · subst q4
    rw [if_pos (show nI 4 = (4 : Int32) from rfl), M0.ck, bnd_s]
    rcases m_constr H hR (w := 0) (by omega) hF with ⟨g1, g2⟩ | ⟨u, K', g1, g2⟩
    · exact Or.inl ⟨⟨fun z => by omega, fun z => by omega, fun z => by omega, fun _ => g1, fun z => by omega, fun z => by omega, fun z => by omega⟩, non g2⟩
    · exact Or.inr ⟨u, _, _, Or.inr ⟨rfl, Or.inr (Or.inr (Or.inl ⟨rfl, g1⟩))⟩, yes g2⟩
  rw [if_neg (show ¬ nI kd = (4 : Int32) from hne 4 (by omega) q4)]
  by_cases q5 : kd = 5
  · subst q5
    rw [if_pos (show nI 5 = (5 : Int32) from rfl), M0.ck, bnd_s]
    rcases m_constr H hR (w := 1) (by omega) hF with ⟨g1, g2⟩ | ⟨u, K', g1, g2⟩
    · exact Or.inl ⟨⟨fun z => by omega, fun z => by omega, fun z => by omega, fun z => by omega, fun _ => g1, fun z => by omega, fun z => by omega⟩, non g2⟩
    · exact Or.inr ⟨u, _, _, Or.inr ⟨rfl, Or.inr (Or.inr (Or.inr (Or.inl ⟨rfl, g1⟩)))⟩, yes g2⟩
  rw [if_neg (show ¬ nI kd = (5 : Int32) from hne 5 (by omega) q5)]
  by_cases q6 : kd = 6
  · subst q6
    rw [if_pos (show nI 6 = (6 : Int32) from rfl), M0.ck, bnd_s]
    rcases m_locked H (F := F) (by omega) with ⟨g1, g2⟩ | ⟨u, K', g1, g2⟩
    · exact Or.inl ⟨⟨fun z => by omega, fun z => by omega, fun z => by omega, fun z => by omega, fun z => by omega, fun _ => g1, fun z => by omega⟩, non g2⟩
    · exact Or.inr ⟨u, _, _, Or.inr ⟨rfl, Or.inr (Or.inr (Or.inr (Or.inr (Or.inl ⟨rfl, g1⟩))))⟩, yes g2⟩
  rw [if_neg (show ¬ nI kd = (6 : Int32) from hne 6 (by omega) q6), M0.ck, bnd_s]
  have q7 : kd = 7 := by omega
  rcases m_pairs H (F := F) (by omega) with ⟨g1, g2⟩ | ⟨u, K', g1, g2⟩
  · exact Or.inl ⟨⟨fun z => by omega, fun z => by omega, fun z => by omega, fun z => by omega, fun z => by omega, fun z => by omega, fun _ => g1⟩, non g2⟩
  · exact Or.inr ⟨u, _, _, Or.inr ⟨rfl, Or.inr (Or.inr (Or.inr (Or.inr (Or.inr ⟨q7, g1⟩))))⟩, yes g2⟩
theorem fK_NX {R : RT} {K : Nat → Nat → Bool} {P : Nat → Bool} {kd pl : Nat} {K' : Nat → Nat → Bool} {P' : Nat → Bool} (hd : dd K = false) (h : fK R K P kd pl K' P') (hn : ∀ k, k < kd → noK R K P k) : NX R K P kd pl K' P' := by
  right
  refine ⟨hd, ?_⟩
  have n1 : 1 < kd → no1 K P := fun z => (hn 1 z).1 rfl
  have n2 : 2 < kd → no2 K := fun z => (hn 2 z).2.1 rfl
  have n3 : 3 < kd → no3 R K 2 := fun z => (hn 3 z).2.2.1 rfl
  have n4 : 4 < kd → no3 R K 0 := fun z => (hn 4 z).2.2.2.1 rfl
  have n5 : 5 < kd → no3 R K 1 := fun z => (hn 5 z).2.2.2.2.1 rfl
  have n6 : 6 < kd → no6 K := fun z => (hn 6 z).2.2.2.2.2.1 rfl
  rcases h with h | ⟨hP, h⟩
  · exact Or.inl h
  right
  rcases h with ⟨e, h⟩ | ⟨e, h⟩ | ⟨e, h⟩ | ⟨e, h⟩ | ⟨e, h⟩ | ⟨e, h⟩
  · exact ⟨n1 (by omega), hP, Or.inl ⟨e, h⟩⟩
  · exact ⟨n1 (by omega), hP, Or.inr ⟨n2 (by omega), Or.inl ⟨e, h⟩⟩⟩
  · exact ⟨n1 (by omega), hP, Or.inr ⟨n2 (by omega), Or.inr ⟨n3 (by omega), Or.inl ⟨e, h⟩⟩⟩⟩
  · exact ⟨n1 (by omega), hP, Or.inr ⟨n2 (by omega), Or.inr ⟨n3 (by omega), Or.inr ⟨n4 (by omega), Or.inl ⟨e, h⟩⟩⟩⟩⟩
  · exact ⟨n1 (by omega), hP, Or.inr ⟨n2 (by omega), Or.inr ⟨n3 (by omega), Or.inr ⟨n4 (by omega), Or.inr ⟨n5 (by omega), Or.inl ⟨e, h⟩⟩⟩⟩⟩⟩
  · exact ⟨n1 (by omega), hP, Or.inr ⟨n2 (by omega), Or.inr ⟨n3 (by omega), Or.inr ⟨n4 (by omega), Or.inr ⟨n5 (by omega), Or.inr ⟨n6 (by omega), e, h⟩⟩⟩⟩⟩⟩
theorem m_next {h : PH} {mo x : Nat} {V : Nat → Value} {R : RT} {K : Nat → Nat → Bool} {P : Nat → Bool} (H : MN h mo x V R K P) (hR : ROK R) {F : Nat} (hF : 2000 ≤ F) :
    ∃ kd pl K' P' h', NX R K P kd pl K' P' ∧ f_Mo_next F mo x h = some (if kd = 0 then 0 else 1, h') ∧ MS h h' mo x R K kd (if kd = 0 then -1 else nI pl) K' P' := by
  obtain ⟨h1, e1, g1, f1', _⟩ := H.f (k := 8) 0 (by omega)
  obtain ⟨h2, e2, g2, f2', _⟩ := g1.f (k := 6) 0 (by omega)
  obtain ⟨h3, e3, g3, f3', _⟩ := g2.f (k := 7) (-1) (by omega)
  have S3 : MS h h3 mo x R K 0 (-1) K P := ⟨_, 0, g3, by simp [updV, nI], by simp [updV], by simp [updV, nI], Nat.zero_add _, (f1'.tr f2').tr f3'⟩
  unfold f_Mo_next
  rw [e1, bnd_s, e2, bnd_s, e3, bnd_s, m_isDead g3 (by omega), bnd_s]
  cases hd : dd K
  rotate_left
  · rw [if_neg (by decide)]
    exact ⟨0, 0, K, P, h3, Or.inl ⟨rfl, rfl, rfl, rfl, Or.inl hd⟩, rfl, S3⟩
  rw [if_pos (by rfl)]
  have key : ∀ m i s n, i + m = 7 → m + 2 ≤ n → MS h s mo x R K i (-1) K P → (∀ k, k ≤ i → noK R K P k) → ∃ kd pl K' P' h', NX R K P kd pl K' P' ∧ f_Mo_next_26 F n mo x 0 s = some (if kd = 0 then 0 else 1, h') ∧ MS h h' mo x R K kd (if kd = 0 then -1 else nI pl) K' P' := by
    intro m
    induction m with
    | zero =>
      intro i s n h1 h2 hS hn
      obtain ⟨n, rfl⟩ : ∃ m, n = m + 1 := ⟨n - 1, by omega⟩
      have hi : i = 7 := by omega
      subst hi
      obtain ⟨s1, y1, y2⟩ := hS.kk 0
      refine ⟨0, 0, K, P, s1, Or.inl ⟨rfl, rfl, rfl, rfl, Or.inr ⟨(hn 1 (by omega)).1 rfl, (hn 2 (by omega)).2.1 rfl, (hn 3 (by omega)).2.2.1 rfl, (hn 4 (by omega)).2.2.2.1 rfl, (hn 5 (by omega)).2.2.2.2.1 rfl, (hn 6 (by omega)).2.2.2.2.2.1 rfl, (hn 7 (by omega)).2.2.2.2.2.2 rfl⟩⟩, ?_, y2⟩
      rw [f_Mo_next_26, b_Mo_next_26, if_pos rfl, hS.kd, bnd_s, if_pos (show (7 : Int32) ≤ nI 7 by decide), b_Mo_next_58, if_pos rfl, b_Mo_next_71, show pV s mo 10 6 (.int 0) = some s1 from y1, bnd_s, cZ_0, bnd_s]
      rfl
    | succ m ih =>
      intro i s n h1 h2 hS hn
      obtain ⟨n, rfl⟩ : ∃ m, n = m + 1 := ⟨n - 1, by omega⟩
      obtain ⟨s1, y1, y2⟩ := hS.kk (i + 1)
      obtain ⟨V1, M1⟩ := y2.mn
      rw [f_Mo_next_26, b_Mo_next_26, if_pos rfl, hS.kd, bnd_s, if_neg (show ¬ (7 : Int32) ≤ nI i from nI_ge (a := (i)) (b := 7) (by omega) (by omega)), bnd_s, nI_1, y1, bnd_s, M1.ck, bnd_s]
      rcases m_does y2 hR (by omega) (by omega) hF with ⟨z1, s2, z2, z3⟩ | ⟨pl', K', P', z1, s2, z2, z3⟩
      · rw [z2, bnd2_s]
        exact ih (i + 1) s2 n (by omega) (by omega) z3 fun k hk => by
          by_cases q : k = i + 1
          · rw [q]; exact z1
          · exact hn k (by omega)
      · rw [z2, bnd2_s]
        obtain ⟨n, rfl⟩ : ∃ m, n = m + 1 := ⟨n - 1, by omega⟩
        obtain ⟨s3, t1, t2⟩ := z3.kk (i + 1)
        refine ⟨i + 1, pl', K', P', s3, fK_NX hd z1 fun k hk => hn k (by omega), ?_, by rw [if_neg (by omega)]; exact t2⟩
        rw [f_Mo_next_26, b_Mo_next_26, if_neg (by decide), b_Mo_next_58, if_neg (by decide), z3.kd, bnd_s, b_Mo_next_71, t1, bnd_s, cZ_1, bnd_s, if_neg (by omega)]
  exact key 7 0 h3 F rfl (by omega) S3 fun k hk => by
    have : k = 0 := by omega
    subst this
    exact ⟨fun z => by omega, fun z => by omega, fun z => by omega, fun z => by omega, fun z => by omega, fun z => by omega, fun z => by omega⟩
