/-! The class's next deduction, whole. -/
def ReaOK (h : PH) (q : Nat) : Prop := ∃ V, h.2 q = obj 3 7 V ∧ V 0 = .ref (q + 1) ∧ SvSh h q
def NxRes (R : RT) (K : Nat → Nat → Bool) (P : Nat → Bool) (h : PH) (p q : Nat) (o : Option (Int32 × PH)) : Prop :=
  ∃ kd pl K' P' h' T' S' V' rm, NX R K P kd pl K' P' ∧ o = some (nI kd, h') ∧ PosAt h' p K' P' T' S' ∧ INV R K' T' S' ∧ h'.2 q = obj 3 7 V' ∧ V' 0 = .ref (q + 1) ∧ V' 1 = .int (nI kd) ∧ V' 2 = .int (if kd = 0 then -1 else nI pl) ∧ V' 3 = .int (nI rm) ∧ rm + tot K' = tot K ∧ SvSh h' q ∧ Fr (WS p q) h h'
theorem r_next {h : PH} {p q r : Nat} {K : Nat → Nat → Bool} {P T S : Nat → Bool} {R : RT} (H : PosAt h p K P T S) (HR : RulAt h r R) (hR : ROK R) (hI : INV R K T S) (HQ : ReaOK h q)
    (hpq : q + 4 ≤ p ∨ p + 2 ≤ q) (hpr : r + 7 ≤ p ∨ p + 2 ≤ r) (hqr : q + 4 ≤ r ∨ r + 7 ≤ q) {F : Nat} (hF : 40 ≤ F) : NxRes R K P h p q (f_Rea_next F q p r h) := by
  obtain ⟨V0, e00, e01, hs0⟩ := HQ
  obtain ⟨h1, V1, n1, n2, n3, n4, n5, n6, _, _, _, n7⟩ := r_note 0 (-1) 0 e00
  have H1 : PosAt h1 p K P T S := H.fr (n7.2 _ (by omega)) (n7.2 _ (by omega))
  obtain ⟨h5, V, s1, e, s3, s4, s5, s6, sv, s7⟩ := r_survey H1 n2 (by omega) hF
  have F5 : Fr (fun k => k = q) h h5 := n7.tr s7
  have F5w : Fr (WS p q) h h5 := F5.mo fun k hk => by simp only [WS]; omega
  have H5 : PosAt h5 p K P T S := H.fr (F5.2 _ (by omega)) (F5.2 _ (by omega))
  have HR5 : RulAt h5 r R := HR.fr F5 fun j hj z => by simp only [UR] at hj; omega
  have hs5 : SvSh h5 q := hs0.fr F5 (by omega)
  have e0 : V 0 = .ref (q + 1) := s3.trans (n3.trans e01)
  have v1 : V 1 = .int 0 := s4.trans n4
  have v2 : V 2 = .int (-1) := s5.trans n5
  have v3 : V 3 = .int 0 := s6.trans n6
  have hck : ∀ h' V', h'.2 q = obj 3 7 V' → cK h' q 3 = some () := fun h' V' z => ob_K z
  have sv' := sv
  obtain ⟨so, se, ma, c1, c2, c3, d1, d2, d3⟩ := sv'
  have hall : lg_cmp so 68719476735 = 0 ↔ dd K = false := by
    rw [d1.lg CS.all, dd_f]
    exact ⟨fun z c hc => by have := of_decide_eq_true (z c hc); omega, fun z c hc => decide_eq_true (by have := z c hc; omega)⟩
  have none' : ∀ (h' : PH) (S' : Nat → Bool), (dd K = true ∨ (no1 K P ∧ no2 K ∧ no3 R K 2 ∧ no3 R K 0 ∧ no3 R K 1 ∧ no6 K ∧ no7 K)) → (∀ T', TR T K T' K → INV R K T' S') → (∃ T', PosAt h' p K P T' S' ∧ TR T K T' K) → h'.2 q = obj 3 7 V → SvSh h' q → Fr (WS p q) h h' → NxRes R K P h p q (some (0, h')) := by
    intro h' S' z1 z2 ⟨T', z3, z4⟩ z5 z6 z7
    exact ⟨0, 0, K, P, h', T', S', V, 0, Or.inl ⟨rfl, rfl, rfl, rfl, z1⟩, rfl, z3, z2 T' z4, z5, e0, v1, v2, v3, Nat.zero_add _, z6, z7⟩
  have did : ∀ (h2 h' : PH) (T2 S' : Nat → Bool) (kd pl : Nat) (K' : Nat → Nat → Bool) (P' : Nat → Bool), kd ≠ 0 → NX R K P kd pl K' P' → Did h2 h' p q K T2 S' kd pl K' P' → (∀ T', TR T2 K T' K' → INV R K' T' S') → Fr (WS p q) h h2 → NxRes R K P h p q (b_Rea_next_100 F q h') := by
    intro h2 h' T2 S' kd pl K' P' z0 z1 ⟨T', V', rm, g1, g2, g3, g4, g5, g6, g7, g8, g9, g10⟩ z3 z4
    refine ⟨kd, pl, K', P', h', T', S', V', rm, z1, ?_, g1, z3 T' g2, g3, g4, g5, by rw [g6, if_neg z0], g7, g8, g9, z4.tr g10⟩
    unfold b_Rea_next_100
    rw [b_Rea_next_105, if_neg (by decide), ob_I g3 (by omega) g5, bnd_s]
  have hmain : f_Rea_next F q p r h = (if (lg_cmp so (68719476735 : Int64)) = (0 : Int32) then bnd2 (f_Rea_placeSingle F q p r h5) fun x8 h9 => (if x8 = (0 : Int32) then bnd (cK h9 q 3) fun _ => bnd2 (f_Rea_keepOnlyPlace F q p h9) fun x11 h12 => (if x11 = (0 : Int32) then bnd2 (f_Rea_wake F p r h12) fun x13 h14 => (if x13 = (0 : Int32) then b_Rea_next_84 F q p h14 else bnd (cK h14 q 3) fun _ => bnd2 (f_Rea_askKind F q p r (2 : Int32) (3 : Int32) h14) fun x16 h17 => (if x16 = (0 : Int32) then bnd (cK h17 q 3) fun _ => bnd2 (f_Rea_askKind F q p r (0 : Int32) (4 : Int32) h17) fun x19 h20 => (if x19 = (0 : Int32) then bnd (cK h20 q 3) fun _ => bnd2 (f_Rea_askKind F q p r (1 : Int32) (5 : Int32) h20) fun x22 h23 => (if x22 = (0 : Int32) then b_Rea_next_84 F q p h23 else b_Rea_next_100 F q h23) else b_Rea_next_100 F q h20) else b_Rea_next_100 F q h17)) else b_Rea_next_100 F q h12) else b_Rea_next_100 F q h9) else some ((0 : Int32), h5)) := by
    unfold f_Rea_next
    rw [ob_K e00, bnd_s, n1, bnd2_s, ob_K n2, bnd_s, s1, bnd_s, ob_L e (by omega) c1, bnd_s, ob_K e, bnd_s]
  rw [hmain]
  cases hd : dd K
  rotate_left
  · rw [if_neg (fun z => by rw [hall.mp z] at hd; cases hd)]
    exact none' h5 S (Or.inl hd) (fun T' t => hI.tr hR t) ⟨T, H5, TR.rf _ _⟩ e hs5 F5w
  rw [if_pos (hall.mpr hd)]
  rcases r_single H5 HR5 e e0 hs5 sv hpq hpr hF with ⟨g1, g2⟩ | ⟨c, h', g1, g2, g3⟩
  rotate_left
  · rw [g2, bnd2_s, if_neg (by decide)]
    exact did h5 h' T S 1 c _ _ (by omega) (Or.inr ⟨hd, Or.inl ⟨rfl, g1⟩⟩) g3 (fun T' t => hI.tr hR t) F5w
  rw [g2, bnd2_s, if_pos rfl, hck _ _ e, bnd_s]
  rcases r_only H5 e e0 hs5 sv hpq hF with ⟨g3, g4⟩ | ⟨u, K', h', g3, g4, g5⟩
  rotate_left
  · rw [g4, bnd2_s, if_neg (by decide)]
    exact did h5 h' T S 2 u _ _ (by omega) (Or.inr ⟨hd, Or.inr ⟨g1, rfl, Or.inl ⟨rfl, g3⟩⟩⟩) g5 (fun T' t => hI.tr hR t) F5w
  rw [g4, bnd2_s, if_pos rfl]
  obtain ⟨h6, S6, b, w1, w2, w3, w4, w5, w6⟩ := r_wake H5 HR5 hR hI hF
  have F6 : Fr (WS p q) h h6 := F5w.tr (w3.mo fun j hj => by simp only [PS, WS] at hj ⊢; omega)
  have e6 : h6.2 q = obj 3 7 V := (w3.2 q (by simp only [PS]; omega)).trans e
  have hs6 : SvSh h6 q := hs5.fr w3 (by simp only [PS]; omega)
  rw [w1, bnd2_s]
  have tail : ∀ (h7 : PH) (T7 S7 : Nat → Bool), PosAt h7 p K P T7 S7 → h7.2 q = obj 3 7 V → SvSh h7 q → Fr (WS p q) h h7 → SOK R S7 → (∀ k, k < rn R → 2 ≤ rl R k → S7 k = false → Nth R K k) → no3 R K 2 → no3 R K 0 → no3 R K 1 → NxRes R K P h p q (b_Rea_next_84 F q p h7) := by
    intro h7 T7 S7 x1 x2 x3 x4 x5 x6 m1 m2 m3
    have hinv : ∀ K' T2 T', TR T2 K T' K' → INV R K' T' S7 := fun K' T2 T' t => INV.tr hR (T := T2) (K := K) ⟨x5, fun k hk h2 z _ => x6 k hk h2 z⟩ t
    unfold b_Rea_next_84
    rw [ob_K x2, bnd_s]
    rcases r_lockAny x1 x2 e0 x3 hpq hF with ⟨y1, y2⟩ | ⟨bb, K', h', y1, y2, y3⟩
    rotate_left
    · rw [y2, bnd2_s, if_neg (by decide)]
      exact did h7 h' T7 S7 6 bb _ _ (by omega) (Or.inr ⟨hd, Or.inr ⟨g1, rfl, Or.inr ⟨g3, Or.inr ⟨m1, Or.inr ⟨m2, Or.inr ⟨m3, Or.inl ⟨rfl, y1⟩⟩⟩⟩⟩⟩⟩) y3 (fun T' t => hinv _ _ T' t) x4
    rw [y2, bnd2_s, if_pos rfl, ob_K x2, bnd_s]
    have svV : Sv V K := sv
    rcases r_pair x1 x2 e0 x3 svV hpq hF with ⟨h8, z1, z2, T8, z3, z4, z5, z6, z7⟩ | ⟨u, K', h', z1, z2, z3⟩
    · rw [z2, bnd2_s, if_pos rfl, b_Rea_next_105, if_pos rfl]
      exact ⟨0, 0, K, P, h8, T8, S7, V, 0, Or.inl ⟨rfl, rfl, rfl, rfl, Or.inr ⟨g1, g3, m1, m2, m3, y1, z1⟩⟩, rfl, z3, hinv _ _ T8 z4, z5, e0, v1, v2, v3, Nat.zero_add _, z6, x4.tr z7⟩
    · rw [z2, bnd2_s, if_neg (by decide)]
      exact did h7 h' T7 S7 7 u _ _ (by omega) (Or.inr ⟨hd, Or.inr ⟨g1, rfl, Or.inr ⟨g3, Or.inr ⟨m1, Or.inr ⟨m2, Or.inr ⟨m3, Or.inr ⟨y1, rfl, z1⟩⟩⟩⟩⟩⟩⟩) z3 (fun T' t => hinv _ _ T' t) x4
  cases hb : b
  · rw [if_pos (by rfl)]
    have h8 := hR.1
    have hn : ∀ w, no3 R K w := fun w k hk z => Nth_n3 (w5 k hk z.2.1 (w6.mp hb k (by omega))) z
    exact tail h6 _ S6 w2 e6 hs6 F6 w4 w5 (hn 2) (hn 0) (hn 1)
  rw [if_neg (by decide), ob_K e6, bnd_s]
  have HR6 : RulAt h6 r R := HR.fr F6 fun j hj z => by simp only [UR, WS] at hj z; omega
  rcases r_ask w2 HR6 hR w4 w5 e6 e0 hs6 hpq hpr hqr hF (w := 2) (kd := 3) (by omega) with ⟨h7, S7, x1, x2, ⟨T7, x3, x4, x5, x6, x7⟩, x8, x9⟩ | ⟨k, h', S7, x1, x2, x3, x4⟩
  rotate_left
  · rw [show f_Rea_askKind F q p r (2 : Int32) (3 : Int32) h6 = some (1, h') from x2, bnd2_s, if_neg (by decide)]
    exact did h6 h' _ S7 3 k _ _ (by omega) (Or.inr ⟨hd, Or.inr ⟨g1, rfl, Or.inr ⟨g3, Or.inl ⟨rfl, x1⟩⟩⟩⟩) x3 x4 F6
  rw [show f_Rea_askKind F q p r (2 : Int32) (3 : Int32) h6 = some (0, h7) from x2, bnd2_s, if_pos rfl, ob_K x5, bnd_s]
  have F7 := F6.tr x7
  have HR7 : RulAt h7 r R := HR.fr F7 fun j hj z => by simp only [UR, WS] at hj z; omega
  rcases r_ask x3 HR7 hR x8 x9 x5 e0 x6 hpq hpr hqr hF (w := 0) (kd := 4) (by omega) with ⟨h8, S8, y1, y2, ⟨T8, y3, y4, y5, y6, y7⟩, y8, y9⟩ | ⟨k, h', S8, y1, y2, y3, y4⟩
  rotate_left
  · rw [show f_Rea_askKind F q p r (0 : Int32) (4 : Int32) h7 = some (1, h') from y2, bnd2_s, if_neg (by decide)]
    exact did h7 h' _ S8 4 k _ _ (by omega) (Or.inr ⟨hd, Or.inr ⟨g1, rfl, Or.inr ⟨g3, Or.inr ⟨x1, Or.inl ⟨rfl, y1⟩⟩⟩⟩⟩) y3 y4 F7
  rw [show f_Rea_askKind F q p r (0 : Int32) (4 : Int32) h7 = some (0, h8) from y2, bnd2_s, if_pos rfl, ob_K y5, bnd_s]
  have F8 := F7.tr y7
  have HR8 : RulAt h8 r R := HR.fr F8 fun j hj z => by simp only [UR, WS] at hj z; omega
  rcases r_ask y3 HR8 hR y8 y9 y5 e0 y6 hpq hpr hqr hF (w := 1) (kd := 5) (by omega) with ⟨h9, S9, z1, z2, ⟨T9, z3, z4, z5, z6, z7⟩, z8, z9⟩ | ⟨k, h', S9, z1, z2, z3, z4⟩
  rotate_left
  · rw [show f_Rea_askKind F q p r (1 : Int32) (5 : Int32) h8 = some (1, h') from z2, bnd2_s, if_neg (by decide)]
    exact did h8 h' _ S9 5 k _ _ (by omega) (Or.inr ⟨hd, Or.inr ⟨g1, rfl, Or.inr ⟨g3, Or.inr ⟨x1, Or.inr ⟨y1, Or.inl ⟨rfl, z1⟩⟩⟩⟩⟩⟩) z3 z4 F8
  rw [show f_Rea_askKind F q p r (1 : Int32) (5 : Int32) h8 = some (0, h9) from z2, bnd2_s, if_pos rfl]
  exact tail h9 T9 S9 z3 z5 z6 (F8.tr z7) z8 z9 x1 y1 z1
