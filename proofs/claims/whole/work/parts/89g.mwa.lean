/-! The reference's reader: cells, constraints. -/
def DRu (f : Nat → Int32) (R : RT) : Prop := ∀ k, k < rn R → f (9 * k) = nI (rk R k) ∧ f (9 * k + 1) = nI (rs R k) ∧ f (9 * k + 2) = nI (rl R k) ∧ ∀ j, j < rl R k → f (9 * k + 3 + j) = nI (rc R k j)
theorem mem_no {R : RT} {k c : Nat} : (∀ j, j < rl R k → rc R k j ≠ c) → mem R k c = false := fun h => by
  cases q : mem R k c
  · rfl
  · obtain ⟨j, h1, h2⟩ := mem_t.mp q
    exact absurd h2 (h j h1)
theorem m_rcell {h0 : PH} {mo : Nat} {V0 : Nat → Value} {tl : Nat} {tx : Nat → Int32} (C : CXt h0 mo V0 tl tx) {R : RT} (hR : ROK R) {k : Nat} (hk : k < rn R) (hl : rl R k < mxl (rk R k)) {p d : Nat} {h : PH} {f g : Nat → Int32} (H : MPs h0 mo V0 h p d f g) (hp : p ≤ 160) (hf : DRu f R) {F : Nat} (hF : 3000 ≤ F) :
    ∃ v h' f', f_Mo_readCell F mo (nI (9 * k)) h = some (v, h') ∧ match (match numR tl tx 0 35 p with
      | .inl q => .inl q
      | .inr y => if mem R k y.1 then .inl p else .inr y : Nat ⊕ (Nat × Nat)) with
      | .inl q => v = 0 ∧ MPs h0 mo V0 h' q d f' g
      | .inr y => v = 1 ∧ MPs h0 mo V0 h' y.2 d f' g ∧ DRu f' (exR R k y.1) ∧ y.1 < 36 ∧ y.2 ≤ tl ∧ mem R k y.1 = false := by
  have h8 := hR.1
  have hmx := mxl_le (rk R k)
  obtain ⟨r1, r2, r3, r4, r5, r6, r7⟩ := H.r C
  have hp1 : p < 1000 := by omega
  unfold f_Mo_readCell
  rw [r2, bnd_s, r1, bnd_s]
  rcases m_num H C hp (lo := 0) (hi := 35) (by omega) (by omega) hF with ⟨h1, q, e1, e2, e3, e4⟩ | ⟨h1, a, q, e1, e3, e4, e5, e6⟩
  · rw [show f_Mo_readNumber F mo (0 : Int32) (35 : Int32) h = _ from e3, bnd2_s, if_pos rfl, e1]
    exact ⟨0, h1, f, rfl, rfl, e4⟩
  rw [show f_Mo_readNumber F mo (0 : Int32) (35 : Int32) h = _ from e3, bnd2_s, if_neg (by decide), e1]
  have ha := numR_b e1
  obtain ⟨t1, t2, t3, t4, t5, t6, t7⟩ := e4.r C
  obtain ⟨k1, k2, k3, k4⟩ := hf k hk
  have key : ∀ m n j, m + j = rl R k → m + 1 ≤ n → (∀ i, i < j → rc R k i ≠ a) → ∃ v h' f', f_Mo_readCell_19 F n mo (nI (9 * k)) (nI p) (nI j) h1 = some (v, h') ∧ match (if mem R k a then .inl p else .inr (a, q) : Nat ⊕ (Nat × Nat)) with
      | .inl q => v = 0 ∧ MPs h0 mo V0 h' q d f' g
      | .inr y => v = 1 ∧ MPs h0 mo V0 h' y.2 d f' g ∧ DRu f' (exR R k y.1) ∧ y.1 < 36 ∧ y.2 ≤ tl ∧ mem R k y.1 = false := by
    intro m
    induction m with
    | zero =>
      intro n j hj hn hno
      obtain ⟨n, rfl⟩ : ∃ k, n = k + 1 := ⟨n - 1, by omega⟩
      have hm : mem R k a = false := mem_no fun i hi => hno i (by omega)
      obtain ⟨s1, p1, H1, n1⟩ := e4.dr (i := 9 * k + 3 + rl R k) (by omega) (nI a)
      obtain ⟨s2, p2, H2, n2⟩ := H1.dr (i := 9 * k + 2) (by omega) (nI (rl R k + 1))
      refine ⟨1, s2, upd (upd f (9 * k + 3 + rl R k) (nI a)) (9 * k + 2) (nI (rl R k + 1)), ?_, ?_⟩
      · have a2 : aI s1 (mo + 13) (nI (9 * k + 2)) = some (nI (rl R k)) := by
          rw [H1.g13 (by omega), pk_un (by omega), k3]
        rw [f_Mo_readCell_19, b_Mo_readCell_19, t5, bnd_s, show nI (9 * k) + (2 : Int32) = nI (9 * k + 2) from nI_add _ 2, e4.g13 (by omega), bnd_s, k3, if_pos (show nI (rl R k) ≤ nI j from nI_le (by omega) (by omega)), bnd_s, bnd_s, e4.g13 (by omega), bnd_s, k3, e5, bnd_s, show nI (9 * k) + (3 : Int32) = nI (9 * k + 3) from nI_add _ 3, nI_add, p1, bnd_s, (H1.r C).2.2.2.2.1, bnd_s, a2, bnd_s, nI_1, p2, bnd_s]
      · rw [hm, if_neg (by decide)]
        refine ⟨rfl, H2, fun i hi => ?_, by show a < 36; omega, e6, hm⟩
        have hi' : i < rn R := hi
        obtain ⟨y1, y2, y3, y4⟩ := hf i hi'
        have hli := (hR.2 i hi').2.1
        have hmi := mxl_le (rk R i)
        refine ⟨by rw [pk_un (by omega), pk_un (by omega)]; exact y1, by rw [pk_un (by omega), pk_un (by omega)]; exact y2, ?_, fun b hb => ?_⟩
        · show _ = nI (if i = k then rl R k + 1 else rl R i)
          by_cases z : i = k
          · subst z; rw [pk_us, if_pos rfl]
          · rw [pk_un (by omega), pk_un (by omega), if_neg z]; exact y3
        · have hb' : b < (if i = k then rl R k + 1 else rl R i) := hb
          show _ = nI (if i = k ∧ b = rl R k then a else rc R i b)
          by_cases z : i = k
          · subst z
            rw [if_pos rfl] at hb'
            by_cases w : b = rl R i
            · subst w
              rw [pk_un (by omega), pk_us, if_pos ⟨rfl, rfl⟩]
            · rw [pk_un (by omega), pk_un (by omega), if_neg (fun u => w u.2)]; exact y4 b (by omega)
          · rw [if_neg z] at hb'
            rw [pk_un (by omega), pk_un (by omega), if_neg (fun u => z u.1)]; exact y4 b hb'
    | succ m ih =>
      intro n j hj hn hno
      obtain ⟨n, rfl⟩ : ∃ k, n = k + 1 := ⟨n - 1, by omega⟩
      have hjc := (hR.2 k hk).2.2.1 j (by omega)
      rw [f_Mo_readCell_19, b_Mo_readCell_19, t5, bnd_s, show nI (9 * k) + (2 : Int32) = nI (9 * k + 2) from nI_add _ 2, e4.g13 (by omega), bnd_s, k3, if_neg (show ¬ nI (rl R k) ≤ nI j from nI_ge (by omega) (by omega)), bnd_s, show nI (9 * k) + (3 : Int32) = nI (9 * k + 3) from nI_add _ 3, nI_add, e4.g13 (by omega), bnd_s, k4 j (by omega), e5, bnd_s]
      by_cases w : rc R k j = a
      · have hm : mem R k a = true := mem_t.mpr ⟨j, by omega, w⟩
        obtain ⟨s1, p1, H1, _⟩ := e4.at p hp1
        refine ⟨0, s1, f, by rw [if_pos (congrArg nI w), p1, bnd_s], ?_⟩
        rw [hm, if_pos rfl]
        exact ⟨rfl, H1⟩
      · rw [if_neg (fun z => w ((nI_eq (by omega) (by omega)).mp z)), nI_1]
        exact ih n (j + 1) (by omega) (by omega) fun i hi => by
          by_cases z : i = j
          · rw [z]; exact w
          · exact hno i (by omega)
  exact key (rl R k) F 0 (by omega) (by omega) (fun i hi => absurd hi (Nat.not_lt_zero i))
/-- what the reference's reading of the cells leaves -/
def ME (h0 : PH) (mo : Nat) (V0 : Nat → Value) (tl : Nat) (tx : Nat → Int32) (n d : Nat) (g : Nat → Int32) (v : Int32) (h' : PH) (o : Nat ⊕ (RT × Nat)) : Prop := match o with
  | .inl q => ∃ d' f', MPs h0 mo V0 h' q d' f' g ∧ (v = 0 ∨ (v = 1 ∧ q < tl ∧ hr tl tx q ≠ 59))
  | .inr y => ∃ f', v = 1 ∧ MPs h0 mo V0 h' y.2 (d + 1) f' g ∧ DRu f' y.1 ∧ ROK y.1 ∧ rn y.1 = n ∧ y.2 ≤ tl
theorem m_cells {h0 : PH} {mo : Nat} {V0 : Nat → Value} {tl : Nat} {tx : Nat → Int32} (C : CXt h0 mo V0 tl tx) {F : Nat} (hF : 3000 ≤ F) {k d : Nat} (hd : d < 900) {g : Nat → Int32} : ∀ m n R p h f, m + rl R k = 7 → m + 1 ≤ n → MPs h0 mo V0 h p d f g → p ≤ tl → DRu f R → ROK R → k < rn R →
    ∃ v h', f_Mo_readConstraint_137 F n mo (nI (9 * k)) h = some (v, h') ∧ ME h0 mo V0 tl tx (rn R) d g v h' (celR tl tx k m R p) := by
  have htl := C.2.2.1
  intro m
  induction m with
  | zero =>
    intro n R p h f hm hn H hp hf hR hk
    have h2 := (hR.2 k hk).2.1
    have := mxl_le (rk R k)
    omega
  | succ m ih =>
    intro n R p h f hm hn H hp hf hR hk
    obtain ⟨n, rfl⟩ : ∃ k, n = k + 1 := ⟨n - 1, by omega⟩
    have h8 := hR.1
    have h2 := (hR.2 k hk).2.1
    have h3 := (hR.2 k hk).1
    have hmx := mxl_le (rk R k)
    obtain ⟨r1, r2, r3, r4, r5, r6, r7⟩ := H.r C
    obtain ⟨k1, k2, k3, k4⟩ := hf k hk
    have g2 : aI h (mo + 13) (nI (9 * k) + (2 : Int32)) = some (nI (rl R k)) := by
      rw [show nI (9 * k) + (2 : Int32) = nI (9 * k + 2) from nI_add _ 2, H.g13 (by omega), k3]
    have h158 : ∃ v h', b_Mo_readConstraint_158 F (f_Mo_readConstraint_137 F n) mo (nI (9 * k)) h = some (v, h') ∧ ME h0 mo V0 tl tx (rn R) d g v h' (if hr tl tx p = 58 ∧ rl R k < mxl (rk R k) then (match numR tl tx 0 35 (p + 1) with
      | .inl f => .inl f
      | .inr y => if mem R k y.1 then .inl (p + 1) else celR tl tx k m (exR R k y.1) y.2) else .inl p) := by
      rw [b_Mo_readConstraint_158, r5, bnd_s, g2, bnd_s, bnd_s, H.g13 (by omega), k1, bnd_s, m_most h3, bnd_s]
      by_cases wl : rl R k = mxl (rk R k)
      · rw [if_pos (congrArg nI wl), if_neg (fun z => by omega)]
        exact ⟨0, h, rfl, d, f, H, Or.inl rfl⟩
      rw [if_neg (fun z => wl ((nI_eq (by omega) (by omega)).mp z)), r1, bnd_s]
      obtain ⟨h1, p1, H1⟩ := m_pass H C (by omega) (58 : Int32)
      rw [p1, bnd2_s]
      by_cases w58 : hr tl tx p = 58
      rotate_left
      · rw [if_neg w58] at H1
        rw [if_neg w58, if_pos rfl, if_neg (fun z => w58 z.1)]
        exact ⟨0, h1, rfl, d, f, H1, Or.inl rfl⟩
      rw [if_pos w58] at H1
      rw [if_pos w58, if_neg (by decide), if_pos ⟨w58, by omega⟩, (H1.r C).1, bnd_s]
      obtain ⟨v, h2', f', e1, e2⟩ := m_rcell C hR hk (by omega) H1 (by omega) hf hF
      rw [e1, bnd2_s]
      cases hn : numR tl tx 0 35 (p + 1) with
      | inl q =>
        rw [hn] at e2
        obtain ⟨rfl, e3⟩ := e2
        rw [if_pos rfl]
        exact ⟨0, h2', rfl, d, f', e3, Or.inl rfl⟩
      | inr y =>
        rw [hn] at e2
        obtain ⟨c, q⟩ := y
        show ∃ v' h', _ ∧ ME h0 mo V0 tl tx (rn R) d g v' h' (if mem R k c = true then .inl (p + 1) else celR tl tx k m (exR R k c) q)
        have e2' : match (if mem R k c = true then .inl (p + 1) else .inr (c, q) : Nat ⊕ (Nat × Nat)) with
          | .inl q => v = 0 ∧ MPs h0 mo V0 h2' q d f' g
          | .inr y => v = 1 ∧ MPs h0 mo V0 h2' y.2 d f' g ∧ DRu f' (exR R k y.1) ∧ y.1 < 36 ∧ y.2 ≤ tl ∧ mem R k y.1 = false := e2
        by_cases hmm : mem R k c = true
        · rw [if_pos hmm] at e2' ⊢
          obtain ⟨rfl, e3⟩ := e2'
          rw [if_pos rfl]
          exact ⟨0, h2', rfl, d, f', e3, Or.inl rfl⟩
        · rw [if_neg hmm] at e2' ⊢
          obtain ⟨rfl, e3, e4, e5, e6, e7⟩ := e2'
          rw [if_neg (by decide)]
          have hl1 : rl (exR R k c) k = rl R k + 1 := if_pos rfl
          exact ih n (exR R k c) q h2' f' (by omega) (by omega) e3 e6 e4 (exR_ok hR hk (by omega) e5 e7) hk
    show ∃ v h', _ ∧ ME h0 mo V0 tl tx (rn R) d g v h' (if hr tl tx p = 58 ∧ rl R k < mxl (rk R k) then (match numR tl tx 0 35 (p + 1) with
      | .inl f => .inl f
      | .inr y => if mem R k y.1 then .inl (p + 1) else celR tl tx k m (exR R k y.1) y.2)
    else if rl R k < 2 then .inl p else if tl ≤ p ∨ hr tl tx p = 59 then .inr (R, p) else .inl p)
    rw [f_Mo_readConstraint_137, b_Mo_readConstraint_137, r5, bnd_s, g2, bnd_s]
    by_cases w2 : rl R k < 2
    · rw [if_pos (show nI (rl R k) < (2 : Int32) from nI_lt (a := rl R k) (b := 2) w2 (by omega)), if_pos w2]
      exact h158
    rw [if_neg (show ¬ nI (rl R k) < (2 : Int32) from nI_nlt (a := rl R k) (b := 2) (by omega) (by omega)), if_neg w2, r1, bnd_s, r7, bnd_s]
    by_cases w58 : hr tl tx p = 58
    · rw [if_pos w58]
      have hpt := hr_ne w58 (by decide)
      rw [if_neg (show ¬ (tl ≤ p ∨ hr tl tx p = 59) from fun z => z.elim (fun z => by omega) (fun z => by rw [w58] at z; cases z))]
      exact h158
    · rw [if_neg w58, if_neg (fun z => w58 z.1), r3, bnd_s, nI_1]
      obtain ⟨h1, p1, H1⟩ := H.ma (d + 1) (by omega)
      rw [p1, bnd_s]
      by_cases w59 : tl ≤ p ∨ hr tl tx p = 59
      · rw [if_pos w59]
        exact ⟨1, h1, rfl, f, rfl, H1, hf, hR, rfl, hp⟩
      · rw [if_neg w59]
        exact ⟨1, h1, rfl, d + 1, f, H1, Or.inr ⟨rfl, by omega, fun z => w59 (Or.inr z)⟩⟩
theorem m_rcon {h0 : PH} {mo : Nat} {V0 : Nat → Value} {tl : Nat} {tx : Nat → Int32} (C : CXt h0 mo V0 tl tx) {F : Nat} (hF : 3000 ≤ F) {R : RT} {p : Nat} {h : PH} {f g : Nat → Int32} (H : MPs h0 mo V0 h (p + 1) (rn R) f g) (hp : p < tl) (hf : DRu f R) (hR : ROK R) (h59 : hr tl tx p = 59) :
    ∃ v h', f_Mo_readConstraint F mo h = some (v, h') ∧ ME h0 mo V0 tl tx (rn R + 1) (rn R) g v h' (conR tl tx R p) := by
  have htl := C.2.2.1
  have h8 := hR.1
  obtain ⟨r1, r2, r3, r4, r5, r6, r7⟩ := H.r C
  unfold f_Mo_readConstraint conR
  rw [r1, bnd_s, r7, bnd_s, if_pos h59]
  have bad : ∀ s0, (s0 = 0 ∨ rn R = 8) → ∃ v h', b_Mo_readConstraint_28 F mo (hr tl tx (p + 1)) s0 h = some (v, h') ∧ ME h0 mo V0 tl tx (rn R + 1) (rn R) g v h' (.inl (p + 1)) := by
    intro s0 hs
    rw [b_Mo_readConstraint_28, r3, bnd_s]
    by_cases w : rn R = 8
    · rw [if_pos (show nI (rn R) = (8 : Int32) from congrArg nI w)]
      exact ⟨0, h, rfl, _, f, H, Or.inl rfl⟩
    · rw [if_neg (show ¬ nI (rn R) = (8 : Int32) from fun z => w ((nI_eq (a := rn R) (b := 8) (by omega) (by omega)).mp z)), if_pos (hs.resolve_right w)]
      exact ⟨0, h, rfl, _, f, H, Or.inl rfl⟩
  have good : ∀ w, w < 3 → knd (hr tl tx (p + 1)) = w → (∀ x : Option (Int32 × PH), ∀ y z : Option (Int32 × PH), (if hr tl tx (p + 1) = 107 then x else if hr tl tx (p + 1) = 97 then y else z) = if w = 0 then x else if w = 1 then y else z) → rn R < 8 → p + 1 < tl → ∃ v h', b_Mo_readConstraint_23 F mo (hr tl tx (p + 1)) h = some (v, h') ∧ ME h0 mo V0 tl tx (rn R + 1) (rn R) g v h' (if w = 0 then (match numR tl tx 1 24 (p + 2) with
        | .inl f => .inl f
        | .inr y => celR tl tx (rn R) 7 (adR R 0 y.1) y.2) else celR tl tx (rn R) 7 (adR R w 0) (p + 2)) := by
    intro w hw hkn hsel hr8 hpt
    obtain ⟨h1, p1, H1, _⟩ := H.at (p + 2) (by omega)
    obtain ⟨s1, q1, S1, _⟩ := H1.dr (i := 9 * rn R) (by omega) (nI w)
    obtain ⟨s2, q2, S2, _⟩ := S1.dr (i := 9 * rn R + 1) (by omega) (nI 0)
    obtain ⟨s3, q3, S3, _⟩ := S2.dr (i := 9 * rn R + 2) (by omega) (nI 0)
    have hDR : ∀ sm f9, f9 (9 * rn R) = nI w → f9 (9 * rn R + 1) = nI sm → f9 (9 * rn R + 2) = nI 0 → (∀ j, j < 9 * rn R → f9 j = f j) → DRu f9 (adR R w sm) := by
      intro sm f9 a1 a2 a3 a4 k hk
      have hk' : k < rn R + 1 := hk
      by_cases q : k = rn R
      · subst q
        refine ⟨a1.trans (congrArg nI (if_pos rfl).symm), a2.trans (congrArg nI (if_pos rfl).symm), a3.trans (congrArg nI (if_pos rfl).symm), fun j hj => ?_⟩
        have hj' : j < rl (adR R w sm) (rn R) := hj
        rw [adR_r] at hj'
        omega
      · obtain ⟨y1, y2, y3, y4⟩ := hf k (by omega)
        have hl := (hR.2 k (by omega)).2.1
        have hmx := mxl_le (rk R k)
        have hll : rl (adR R w sm) k = rl R k := if_neg q
        refine ⟨(a4 _ (by omega)).trans (y1.trans (congrArg nI (if_neg q).symm)), (a4 _ (by omega)).trans (y2.trans (congrArg nI (if_neg q).symm)), (a4 _ (by omega)).trans (y3.trans (congrArg nI hll.symm)), fun j hj => ?_⟩
        rw [hll] at hj
        exact (a4 _ (by omega)).trans (y4 j hj)
    have h88 : ∀ w', w' = nI w → ∃ v h', b_Mo_readConstraint_88 F mo (hr tl tx (p + 1)) (nI (9 * rn R)) w' (nI (9 * rn R)) (mo + 13) h1 = some (v, h') ∧ ME h0 mo V0 tl tx (rn R + 1) (rn R) g v h' (if w = 0 then (match numR tl tx 1 24 (p + 2) with
        | .inl f => .inl f
        | .inr y => celR tl tx (rn R) 7 (adR R 0 y.1) y.2) else celR tl tx (rn R) 7 (adR R w 0) (p + 2)) := by
      intro w' hw'
      subst hw'
      have e1 : nI (9 * rn R) + (1 : Int32) = nI (9 * rn R + 1) := nI_1 _
      rw [b_Mo_readConstraint_88, q1, bnd_s, (S1.r C).2.2.2.2.1, bnd_s, e1, show (0 : Int32) = nI 0 from rfl, q2, bnd_s, (S2.r C).2.2.2.2.1, bnd_s, show nI (9 * rn R) + (2 : Int32) = nI (9 * rn R + 2) from nI_add _ 2, q3, bnd_s]
      have hsel' : ∀ x y : Option (Int32 × PH), (if hr tl tx (p + 1) = 107 then x else y) = if w = 0 then x else y := fun x y => by
        have := hsel x y y
        rw [ite_self, ite_self] at this
        exact this
      rw [hsel']
      by_cases w0 : w = 0
      rotate_left
      · rw [if_neg w0, if_neg w0]
        exact m_cells C hF (k := rn R) (d := rn R) (by omega) 7 F (adR R w 0) (p + 2) s3 _ (by rw [adR_r]) (by omega) S3 (by omega) (hDR 0 _ (by rw [pk_un (by omega), pk_un (by omega), pk_us]) (by rw [pk_un (by omega), pk_us]) pk_us (fun j hj => by rw [pk_un (by omega), pk_un (by omega), pk_un (by omega)])) (adR_ok hR hr8 hw (by omega)) (by show rn R < rn R + 1; omega)
      rw [if_pos w0, if_pos w0, (S3.r C).1, bnd_s]
      rcases m_num S3 C (by omega) (lo := 1) (hi := 24) (by omega) (by omega) hF with ⟨s4, q, n1, n2, n3, n4⟩ | ⟨s4, a, q, n1, n3, n4, n5, n6⟩
      · rw [show f_Mo_readNumber F mo (1 : Int32) (24 : Int32) s3 = _ from n3, bnd2_s, if_pos (show (0 : Int32) = nI 0 from rfl), n1]
        exact ⟨0, s4, rfl, _, _, n4, Or.inl rfl⟩
      · have hb := numR_b n1
        obtain ⟨s5, q5, S5, _⟩ := n4.dr (i := 9 * rn R + 1) (by omega) (nI a)
        rw [show f_Mo_readNumber F mo (1 : Int32) (24 : Int32) s3 = _ from n3, bnd2_s, if_neg (show ¬ (1 : Int32) = nI 0 by decide), n1, (n4.r C).2.2.2.2.1, bnd_s, n5, bnd_s, q5, bnd_s]
        subst w0
        exact m_cells C hF (k := rn R) (d := rn R) (by omega) 7 F (adR R 0 a) q s5 _ (by rw [adR_r]) (by omega) S5 n6 (hDR a _ (by rw [pk_un (by omega), pk_un (by omega), pk_un (by omega), pk_us]) pk_us (by rw [pk_un (by omega), pk_us]) (fun j hj => by rw [pk_un (by omega), pk_un (by omega), pk_un (by omega), pk_un (by omega)])) (adR_ok hR hr8 (by omega) (by omega)) (by show rn R < rn R + 1; omega)
    rw [b_Mo_readConstraint_23, b_Mo_readConstraint_28, r3, bnd_s, if_neg (show ¬ nI (rn R) = (8 : Int32) from fun z => absurd ((nI_eq (a := rn R) (b := 8) (by omega) (by omega)).mp z) (by omega)), if_neg (by decide), r2, bnd_s, nI_1, p1, bnd_s, (H1.r C).2.2.1, bnd_s, show (9 : Int32) * nI (rn R) = nI (9 * rn R) from pk_mul 9 _, bnd_s, (H1.r C).2.2.2.2.1, bnd_s, hsel]
    obtain rfl | rfl | rfl : w = 0 ∨ w = 1 ∨ w = 2 := by omega
    · rw [if_pos rfl]; exact h88 _ rfl
    · rw [if_neg (by omega), if_pos rfl]; exact h88 _ rfl
    · rw [if_neg (by omega), if_neg (by omega)]; exact h88 _ rfl
  by_cases wk : knd (hr tl tx (p + 1)) = 3
  · have hno : hr tl tx (p + 1) ≠ 107 ∧ hr tl tx (p + 1) ≠ 97 ∧ hr tl tx (p + 1) ≠ 116 := by
      refine ⟨fun z => ?_, fun z => ?_, fun z => ?_⟩ <;> (rw [z] at wk; cases wk)
    rw [if_pos wk, if_neg hno.1, if_neg hno.2.1, if_neg hno.2.2]
    exact bad 0 (Or.inl rfl)
  obtain ⟨k3, kne⟩ := knd_lt wk
  have hp1 := hr_ne (tl := tl) (tx := tx) (p := p + 1) rfl kne
  rw [if_neg wk]
  by_cases w8 : rn R < 8
  · rw [if_pos w8]
    by_cases q0 : hr tl tx (p + 1) = 107
    · have hk0 : knd (hr tl tx (p + 1)) = 0 := by rw [q0]; rfl
      rw [if_pos q0, hk0]
      exact good 0 (by omega) hk0 (fun x y z => by rw [if_pos q0, if_pos rfl]) w8 hp1
    rw [if_neg q0]
    by_cases q1 : hr tl tx (p + 1) = 97
    · have hk0 : knd (hr tl tx (p + 1)) = 1 := by rw [q1]; rfl
      rw [if_pos q1, hk0]
      exact good 1 (by omega) hk0 (fun x y z => by rw [if_neg q0, if_pos q1, if_neg (by omega), if_pos rfl]) w8 hp1
    rw [if_neg q1]
    by_cases q2 : hr tl tx (p + 1) = 116
    · have hk0 : knd (hr tl tx (p + 1)) = 2 := by rw [q2]; rfl
      rw [if_pos q2, hk0]
      exact good 2 (by omega) hk0 (fun x y z => by rw [if_neg q0, if_neg q1, if_neg (by omega), if_neg (by omega)]) w8 hp1
    · exfalso
      apply wk
      unfold knd
      rw [if_neg q1, if_neg q0, if_neg q2]
  · rw [if_neg w8]
    by_cases q0 : hr tl tx (p + 1) = 107
    · rw [if_pos q0, b_Mo_readConstraint_23]; exact bad 1 (Or.inr (by omega))
    rw [if_neg q0]
    by_cases q1 : hr tl tx (p + 1) = 97
    · rw [if_pos q1, b_Mo_readConstraint_23]; exact bad 1 (Or.inr (by omega))
    rw [if_neg q1]
    by_cases q2 : hr tl tx (p + 1) = 116
    · rw [if_pos q2, b_Mo_readConstraint_23]; exact bad 1 (Or.inr (by omega))
    · rw [if_neg q2]; exact bad 0 (Or.inl rfl)
