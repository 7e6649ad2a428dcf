/-! The reference: its heap, sets of digits, what is taken from a cell. -/
theorem m_has (Y : Nat → Bool) {d : Nat} (hd : isD d = true) : f_Mo_has (nI (mkd Y)) (nI d) = some (if Y d then 1 else 0) := by
  unfold f_Mo_has
  rw [mkd_bit1 Y hd]
  cases Y d
  · rw [if_neg (by decide)]; rfl
  · rw [if_pos (by decide)]; rfl
theorem sz_low0 : ∀ a b c d e f : Bool, a.toNat + b.toNat + c.toNat + d.toNat + e.toNat + f.toNat ≠ 0 →
    nI (2 * a.toNat + 4 * b.toNat + 8 * c.toNat + 16 * d.toNat + 32 * e.toNat + 64 * f.toNat) &&& (nI (2 * a.toNat + 4 * b.toNat + 8 * c.toNat + 16 * d.toNat + 32 * e.toNat + 64 * f.toNat) - 1) =
      nI (2 * (a && !decide (1 = (if a then 1 else if b then 2 else if c then 3 else if d then 4 else if e then 5 else if f then 6 else 7))).toNat + 4 * (b && !decide (2 = (if a then 1 else if b then 2 else if c then 3 else if d then 4 else if e then 5 else if f then 6 else 7))).toNat + 8 * (c && !decide (3 = (if a then 1 else if b then 2 else if c then 3 else if d then 4 else if e then 5 else if f then 6 else 7))).toNat + 16 * (d && !decide (4 = (if a then 1 else if b then 2 else if c then 3 else if d then 4 else if e then 5 else if f then 6 else 7))).toNat + 32 * (e && !decide (5 = (if a then 1 else if b then 2 else if c then 3 else if d then 4 else if e then 5 else if f then 6 else 7))).toNat + 64 * (f && !decide (6 = (if a then 1 else if b then 2 else if c then 3 else if d then 4 else if e then 5 else if f then 6 else 7))).toNat) := by decide +kernel
theorem mkd_low {p : Nat → Bool} (h : sz p ≠ 0) : nI (mkd p) &&& (nI (mkd p) - 1) = nI (mkd fun d => p d && !decide (d = lod p)) := sz_low0 _ _ _ _ _ _ h
theorem sz_low {p : Nat → Bool} (h : sz p ≠ 0) : sz p = sz (fun d => p d && !decide (d = lod p)) + 1 := by
  obtain ⟨x1, x2, _⟩ := lod_x h
  have h1 := sz_split p (fun d => decide (d = lod p))
  have h2 : sz (fun d => p d && decide (d = lod p)) = 1 := sz_1.mpr ⟨lod p, x1, by simp [x2], fun e _ z => by
    rw [Bool.and_eq_true, decide_eq_true_iff] at z
    exact z.2⟩
  omega
theorem m_size4 (F : Nat) : ∀ (n k : Nat) (p : Nat → Bool), sz p < n → f_Mo_size_4 F n (nI k) (nI (mkd p)) = some (nI (k + sz p)) := by
  intro n
  induction n with
  | zero => intro k p h; omega
  | succ n ih =>
    intro k p h
    rw [f_Mo_size_4, b_Mo_size_4]
    by_cases w : sz p = 0
    · rw [if_pos (nmkd_z.mpr w), w]; rfl
    · have := sz_low w
      rw [if_neg fun z => w (nmkd_z.mp z), bnd_s, mkd_low w, nI_1, ih _ _ (by omega)]
      congr 2
      omega
theorem m_size (Y : Nat → Bool) {F : Nat} (hF : 40 ≤ F) : f_Mo_size F (nI (mkd Y)) = some (nI (sz Y)) := by
  have := sz_le Y
  have h := m_size4 F F 0 Y (by omega)
  rw [Nat.zero_add] at h
  exact h
theorem m_least (Y : Nat → Bool) {F : Nat} (hF : 40 ≤ F) : f_Mo_least F (nI (mkd Y)) = some (nI (lod Y)) := by
  obtain ⟨j, s, j1, j2, ⟨j3, j5⟩, j4, h1⟩ := LE (fun n i (_ : Unit) => f_Mo_least_2 F n (nI (mkd Y)) (nI i)) (fun i _ => 1 ≤ i ∧ ∀ e, isD e = true → e < i → Y e = false) (fun i _ => Y i = true) 7
    (fun n i s hi ⟨h1, h2⟩ => by
      have hd : isD i = true := isD_i h1 hi
      cases q : Y i
      · refine Or.inr ⟨(), ⟨by omega, fun e he hl => ?_⟩, ?_⟩
        · by_cases q2 : e = i
          · subst q2; exact q
          · exact h2 e he (by omega)
        · show f_Mo_least_2 F (n + 1) (nI (mkd Y)) (nI i) = _
          rw [f_Mo_least_2, b_Mo_least_2, if_neg (show ¬ (7 : Int32) ≤ nI i from nI_ge (a := (i)) (b := 7) (by omega) (by omega)), m_has Y hd, q, bnd_s, if_pos (by rfl), nI_1]
      · exact Or.inl rfl) 6 1 () F rfl (by omega) ⟨by omega, fun e he hl => by have := isD_b he; omega⟩
  unfold f_Mo_least
  refine Eq.trans h1 ?_
  obtain ⟨m, hm⟩ : ∃ m, F - (j - 1) = m + 1 := ⟨F - (j - 1) - 1, by omega⟩
  show f_Mo_least_2 F (F - (j - 1)) (nI (mkd Y)) (nI j) = _
  rw [hm, f_Mo_least_2, b_Mo_least_2]
  by_cases q : j < 7
  · have hd : isD j = true := isD_i j3 q
    rw [if_neg (show ¬ (7 : Int32) ≤ nI j from nI_ge (a := (j)) (b := 7) (by omega) (by omega)), m_has Y hd, j4 q, bnd_s, if_neg (by decide), lod_s hd (j4 q) j5]
  · rw [if_pos (show (7 : Int32) ≤ nI j from nI_le (a := 7) (b := (j)) (by omega) (by omega)), lod_n (sz_0.mpr fun d hd => j5 d hd (by have := isD_b hd; omega))]
    congr 2
    omega
theorem m_greatest (Y : Nat → Bool) {F : Nat} (hF : 40 ≤ F) : f_Mo_greatest F (nI (mkd Y)) = some (nI (hid Y)) := by
  obtain ⟨j, s, j1, j2, j5, j4, h1⟩ := LE (fun n i (_ : Unit) => f_Mo_greatest_3 F n (nI (mkd Y)) (nI (6 - i))) (fun i _ => ∀ e, isD e = true → 6 - i < e → Y e = false) (fun i _ => Y (6 - i) = true) 6
    (fun n i s hi h2 => by
      have hd : isD (6 - i) = true := isD_i (by omega) (by omega)
      cases q : Y (6 - i)
      · refine Or.inr ⟨(), fun e he hl => ?_, ?_⟩
        · by_cases q2 : e = 6 - i
          · subst q2; exact q
          · exact h2 e he (by omega)
        · show f_Mo_greatest_3 F (n + 1) (nI (mkd Y)) (nI (6 - i)) = _
          have e9 : nI (6 - i) + (-1 : Int32) = nI (6 - (i + 1)) := by
            rw [show 6 - i = 6 - (i + 1) + 1 by omega]
            exact pk_m1 _
          rw [f_Mo_greatest_3, b_Mo_greatest_3, if_neg (show ¬ nI (6 - i) ≤ (0 : Int32) from nI_ge (a := 0) (b := (6 - i)) (by omega) (by omega)), m_has Y hd, q, bnd_s, if_pos (by rfl), e9]
      · exact Or.inl rfl) 6 0 () F rfl (by omega) (fun e he hl => by have := isD_b he; omega)
  unfold f_Mo_greatest
  refine Eq.trans h1 ?_
  obtain ⟨m, hm⟩ : ∃ m, F - (j - 0) = m + 1 := ⟨F - (j - 0) - 1, by omega⟩
  show f_Mo_greatest_3 F (F - (j - 0)) (nI (mkd Y)) (nI (6 - j)) = _
  rw [hm, f_Mo_greatest_3, b_Mo_greatest_3]
  by_cases q : j < 6
  · have hd : isD (6 - j) = true := isD_i (by omega) (by omega)
    rw [if_neg (show ¬ nI (6 - j) ≤ (0 : Int32) from nI_ge (a := 0) (b := (6 - j)) (by omega) (by omega)), m_has Y hd, j4 q, bnd_s, if_neg (by decide), hid_s hd (j4 q) j5]
  · rw [if_pos (show nI (6 - j) ≤ (0 : Int32) from nI_le (a := (6 - j)) (b := 0) (by omega) (by omega)), hid_n (sz_0.mpr fun d hd => j5 d hd (by have := isD_b hd; omega))]
    congr 2
    omega
/-- the reference's rows -/
def MV (mo : Nat) (V : Nat → Value) : Prop := V 0 = .ref (mo + 1) ∧ V 1 = .ref (mo + 2) ∧ V 3 = .ref (mo + 3) ∧ V 9 = .ref (mo + 4) ∧ V 10 = .ref (mo + 5) ∧ V 11 = .ref (mo + 6) ∧ V 12 = .ref (mo + 7) ∧ V 13 = .ref (mo + 8) ∧ V 14 = .ref (mo + 9) ∧ V 15 = .ref (mo + 10) ∧ V 16 = .ref (mo + 11) ∧ V 21 = .ref (mo + 12) ∧ V 24 = .ref (mo + 13) ∧ V 25 = .ref (mo + 14)
def isF (k : Nat) : Bool := [2, 4, 5, 6, 7, 8, 17, 18, 19, 20, 22, 23, 26, 27].contains k
theorem MV.up {mo k : Nat} {V : Nat → Value} (H : MV mo V) (v : Value) (hk : isF k = true) : MV mo (updV V k v) := by
  obtain ⟨h1, h2, h3, h4, h5, h6, h7, h8, h9, h10, h11, h12, h13, h14⟩ := H
  have hn : ∀ j, isF j = false → updV V k v j = V j := fun j hj => vu_n _ _ fun z => by rw [z, hk] at hj; cases hj
  exact ⟨(hn 0 rfl).trans h1, (hn 1 rfl).trans h2, (hn 3 rfl).trans h3, (hn 9 rfl).trans h4, (hn 10 rfl).trans h5, (hn 11 rfl).trans h6, (hn 12 rfl).trans h7, (hn 13 rfl).trans h8, (hn 14 rfl).trans h9, (hn 15 rfl).trans h10, (hn 16 rfl).trans h11, (hn 21 rfl).trans h12, (hn 24 rfl).trans h13, (hn 25 rfl).trans h14⟩
/-- the constraints in the reference's row -/
def MRu (f : Nat → Int32) (R : RT) : Prop := f 108 = nI (rn R) ∧ ∀ k, k < rn R → f (109 + 9 * k) = nI (rk R k) ∧ f (110 + 9 * k) = nI (rs R k) ∧ f (111 + 9 * k) = nI (rl R k) ∧ ∀ j, j < rl R k → f (112 + 9 * k + j) = nI (rc R k j)
/-- candidates and placed cells in a row -/
def XA (f : Nat → Int32) (K : Nat → Nat → Bool) (P : Nat → Bool) : Prop := ∀ c, c < 36 → f c = nI (mkd (K c)) ∧ f (36 + c) = nI (P c).toNat
def MN (h : PH) (mo x : Nat) (V : Nat → Value) (R : RT) (K : Nat → Nat → Bool) (P : Nat → Bool) : Prop :=
  h.2 mo = obj 10 28 V ∧ MV mo V ∧ (x = mo + 1 ∨ x = mo + 6 ∨ x = mo + 13) ∧ (∃ f, h.2 (mo + 1) = oI 482 f ∧ MRu f R) ∧ (∃ n f, 72 ≤ n ∧ n < 2 ^ 31 ∧ h.2 x = oI n f ∧ XA f K P) ∧ (∃ f, h.2 (mo + 4) = oI 4 f) ∧ ∃ f, h.2 (mo + 5) = oI 4 f
/-- what the reference's deductions leave as it was -/
def MF (mo x : Nat) (h h' : PH) : Prop := h'.1 = h.1 ∧ (∀ k, k ≠ mo → k ≠ x → k ≠ mo + 4 → k ≠ mo + 5 → h'.2 k = h.2 k) ∧ (∀ n f, h.2 x = oI n f → ∃ f', h'.2 x = oI n f' ∧ ∀ i, 72 ≤ i → f' i = f i) ∧
  ∀ V, h.2 mo = obj 10 28 V → ∃ V', h'.2 mo = obj 10 28 V' ∧ ∀ k, k ≠ 6 → k ≠ 7 → k ≠ 8 → V' k = V k
theorem MF.rf (mo x : Nat) (h : PH) : MF mo x h h := ⟨rfl, fun _ _ _ _ _ => rfl, fun n f e => ⟨f, e, fun _ _ => rfl⟩, fun V e => ⟨V, e, fun _ _ _ _ => rfl⟩⟩
theorem MF.tr {mo x : Nat} {h h1 h2 : PH} (a : MF mo x h h1) (b : MF mo x h1 h2) : MF mo x h h2 := by
  refine ⟨b.1.trans a.1, fun k q1 q2 q3 q4 => (b.2.1 k q1 q2 q3 q4).trans (a.2.1 k q1 q2 q3 q4), fun n f e => ?_, fun V e => ?_⟩
  · obtain ⟨f1, e1, g1⟩ := a.2.2.1 n f e
    obtain ⟨f2, e2, g2⟩ := b.2.2.1 n f1 e1
    exact ⟨f2, e2, fun i hi => (g2 i hi).trans (g1 i hi)⟩
  · obtain ⟨V1, e1, g1⟩ := a.2.2.2 V e
    obtain ⟨V2, e2, g2⟩ := b.2.2.2 V1 e1
    exact ⟨V2, e2, fun k q1 q2 q3 => (g2 k q1 q2 q3).trans (g1 k q1 q2 q3)⟩
theorem oI_inj {n m : Nat} {f g : Nat → Int32} (h : oI n f = oI m g) : n = m ∧ f = g := by
  unfold oI at h
  simp only [Sum.inr.injEq, Sum.inl.injEq, Prod.mk.injEq] at h
  exact h
theorem MN.put {h : PH} {mo x : Nat} {V : Nat → Value} {R : RT} {K K' : Nat → Nat → Bool} {P P' : Nat → Bool} (H : MN h mo x V R K P) {i : Nat} (hi : i < 72) (v : Int32) (hx : ∀ f, XA f K P → XA (upd f i v) K' P') :
    ∃ h', sI h x (nI i) v = some h' ∧ MN h' mo x V R K' P' ∧ MF mo x h h' ∧ ∀ a, a ≠ x → h'.2 a = h.2 a := by
  obtain ⟨a0, a1, a2, ⟨fm, a3, a4⟩, ⟨n, fx, b1, b2, b3, b4⟩, ⟨g4, c1⟩, g5, c2⟩ := H
  refine ⟨_, ar_sI v b3 (by omega) b2, ⟨(hset_n _ _ (by omega)).trans a0, a1, a2, ?_, ⟨n, _, b1, b2, hset_s _ _ _, hx _ b4⟩, ⟨g4, (hset_n _ _ (by omega)).trans c1⟩, g5, (hset_n _ _ (by omega)).trans c2⟩, ⟨rfl, fun k _ q _ _ => hset_n _ _ q, fun m f e => ?_, fun W e => ⟨W, (hset_n _ _ (by omega)).trans e, fun _ _ _ _ => rfl⟩⟩, fun a q => hset_n _ _ q⟩
  · by_cases w : x = mo + 1
    · subst w
      obtain ⟨rfl, rfl⟩ := oI_inj (a3.symm.trans b3)
      refine ⟨_, hset_s _ _ _, ?_⟩
      have hu : ∀ j, 72 ≤ j → upd fm i v j = fm j := fun j hj => pk_un (by omega)
      exact ⟨(hu _ (by omega)).trans a4.1, fun k hk => ⟨(hu _ (by omega)).trans (a4.2 k hk).1, (hu _ (by omega)).trans (a4.2 k hk).2.1, (hu _ (by omega)).trans (a4.2 k hk).2.2.1, fun j hj => (hu _ (by omega)).trans ((a4.2 k hk).2.2.2 j hj)⟩⟩
    · exact ⟨fm, (hset_n _ _ (by omega)).trans a3, a4⟩
  · obtain ⟨rfl, rfl⟩ := oI_inj (b3.symm.trans e)
    exact ⟨_, hset_s _ _ _, fun j hj => pk_un (by omega)⟩
theorem MN.setk {h : PH} {mo x : Nat} {V : Nat → Value} {R : RT} {K : Nat → Nat → Bool} {P : Nat → Bool} (H : MN h mo x V R K P) {c : Nat} (hc : c < 36) (D : Nat → Bool) :
    ∃ h', sI h x (nI c) (nI (mkd D)) = some h' ∧ MN h' mo x V R (fun a => if a = c then D else K a) P ∧ MF mo x h h' ∧ ∀ a, a ≠ x → h'.2 a = h.2 a := H.put (by omega) _ fun f hf a ha => by
  show upd f c (nI (mkd D)) a = nI (mkd (if a = c then D else K a)) ∧ upd f c (nI (mkd D)) (36 + a) = _
  rw [pk_un (show 36 + a ≠ c by omega)]
  refine ⟨?_, (hf a ha).2⟩
  by_cases q : a = c
  · subst q
    rw [pk_us, if_pos rfl]
  · rw [pk_un q, if_neg q]
    exact (hf a ha).1
theorem MN.setp {h : PH} {mo x : Nat} {V : Nat → Value} {R : RT} {K : Nat → Nat → Bool} {P : Nat → Bool} (H : MN h mo x V R K P) {c : Nat} (hc : c < 36) (b : Bool) :
    ∃ h', sI h x ((36 : Int32) + nI c) (nI b.toNat) = some h' ∧ MN h' mo x V R K (fun a => if a = c then b else P a) ∧ MF mo x h h' ∧ ∀ a, a ≠ x → h'.2 a = h.2 a := by
  rw [show (36 : Int32) + nI c = nI (36 + c) from nI_add 36 c]
  refine H.put (by omega) _ fun f hf a ha => ?_
  show upd f (36 + c) (nI b.toNat) a = _ ∧ upd f (36 + c) (nI b.toNat) (36 + a) = nI (if a = c then b else P a).toNat
  rw [pk_un (show a ≠ 36 + c by omega)]
  refine ⟨(hf a ha).1, ?_⟩
  by_cases q : a = c
  · subst q
    rw [pk_us, if_pos rfl]
  · rw [pk_un (show 36 + a ≠ 36 + c by omega), if_neg q]
    exact (hf a ha).2
theorem MN.g {h : PH} {mo x : Nat} {V : Nat → Value} {R : RT} {K : Nat → Nat → Bool} {P : Nat → Bool} (H : MN h mo x V R K P) {c : Nat} (hc : c < 36) : aI h x (nI c) = some (nI (mkd (K c))) ∧ aI h x ((36 : Int32) + nI c) = some (nI (P c).toNat) := by
  obtain ⟨a0, a1, a2, a3, ⟨n, fx, b1, b2, b3, b4⟩, _⟩ := H
  refine ⟨by rw [ar_I b3 (by omega) b2, (b4 c hc).1], ?_⟩
  rw [show (36 : Int32) + nI c = nI (36 + c) from nI_add 36 c, ar_I b3 (by omega) b2, (b4 c hc).2]
theorem MN.ck {h : PH} {mo x : Nat} {V : Nat → Value} {R : RT} {K : Nat → Nat → Bool} {P : Nat → Bool} (H : MN h mo x V R K P) : cK h mo 10 = some () := ob_K H.1
theorem MN.n {h : PH} {mo x : Nat} {V : Nat → Value} {R : RT} {K : Nat → Nat → Bool} {P : Nat → Bool} (H : MN h mo x V R K P) : gR h mo 10 0 = some (mo + 1) ∧ aI h (mo + 1) (108 : Int32) = some (nI (rn R)) := by
  obtain ⟨a0, a1, a2, ⟨f, a3, a4⟩, _⟩ := H
  refine ⟨ob_R a0 (by omega) a1.1, ?_⟩
  have := ar_I (i := 108) a3 (by omega) (by omega)
  rw [a4.1] at this
  exact this
theorem MN.k {h : PH} {mo x : Nat} {V : Nat → Value} {R : RT} {K : Nat → Nat → Bool} {P : Nat → Bool} (H : MN h mo x V R K P) (hR : ROK R) {k : Nat} (hk : k < rn R) : f_Mo_kindOf mo (nI k) h = some (nI (rk R k)) ∧ f_Mo_lengthOf mo (nI k) h = some (nI (rl R k)) ∧
    aI h (mo + 1) (((109 : Int32) + ((9 : Int32) * nI k)) + (1 : Int32)) = some (nI (rs R k)) ∧ ∀ j, j < rl R k → f_Mo_cellAt mo (nI k) (nI j) h = some (nI (rc R k j)) := by
  obtain ⟨a0, a1, a2, ⟨f, a3, a4⟩, _⟩ := H
  have h8 := hR.1
  have hl := (hR.2 k hk).2.1
  have h6 := mxl_le (rk R k)
  have e1 : (109 : Int32) + ((9 : Int32) * nI k) = nI (109 + 9 * k) := by
    rw [show (9 : Int32) * nI k = nI (9 * k) from pk_mul 9 k]
    exact nI_add 109 _
  have g0 : gR h mo 10 0 = some (mo + 1) := ob_R a0 (by omega) a1.1
  refine ⟨?_, ?_, ?_, fun j hj => ?_⟩
  · unfold f_Mo_kindOf
    rw [g0, bnd_s, e1, ar_I a3 (by omega) (by omega), bnd_s, (a4.2 k hk).1]
  · unfold f_Mo_lengthOf
    rw [g0, bnd_s, e1, show nI (109 + 9 * k) + (2 : Int32) = nI (111 + 9 * k) by rw [show nI (109 + 9 * k) + (2 : Int32) = nI (109 + 9 * k + 2) from nI_add _ 2]; congr 1; omega, ar_I a3 (by omega) (by omega), bnd_s, (a4.2 k hk).2.2.1]
  · rw [e1, nI_1, show 109 + 9 * k + 1 = 110 + 9 * k by omega, ar_I a3 (by omega) (by omega), (a4.2 k hk).2.1]
  · unfold f_Mo_cellAt
    rw [g0, bnd_s, e1, show nI (109 + 9 * k) + (3 : Int32) = nI (112 + 9 * k) by rw [show nI (109 + 9 * k) + (3 : Int32) = nI (109 + 9 * k + 3) from nI_add _ 3]; congr 1; omega, nI_add, ar_I a3 (by omega) (by omega), bnd_s, (a4.2 k hk).2.2.2 j hj]
theorem MN.x {h : PH} {mo x : Nat} {V : Nat → Value} {R : RT} {K K' : Nat → Nat → Bool} {P P' : Nat → Bool} (H : MN h mo x V R K P) (eK : ∀ c, c < 36 → ∀ d, isD d = true → K c d = K' c d) (eP : ∀ c, c < 36 → P c = P' c) : MN h mo x V R K' P' := by
  obtain ⟨a0, a1, a2, a3, ⟨n, fx, b1, b2, b3, b4⟩, r⟩ := H
  exact ⟨a0, a1, a2, a3, ⟨n, fx, b1, b2, b3, fun c hc => ⟨(b4 c hc).1.trans (by rw [mkd_ext (eK c hc)]), (b4 c hc).2.trans (by rw [eP c hc])⟩⟩, r⟩
/-- an int field is written -/
theorem MN.f {h : PH} {mo x k : Nat} {V : Nat → Value} {R : RT} {K : Nat → Nat → Bool} {P : Nat → Bool} (H : MN h mo x V R K P) (v : Int32) (hk : k = 6 ∨ k = 7 ∨ k = 8) : ∃ h', pV h mo 10 k (.int v) = some h' ∧ MN h' mo x (updV V k (.int v)) R K P ∧ MF mo x h h' ∧ ∀ a, a ≠ mo → h'.2 a = h.2 a := by
  obtain ⟨a0, a1, a2, ⟨fm, a3, a4⟩, ⟨n, fx, b1, b2, b3, b4⟩, ⟨g4, c1⟩, g5, c2⟩ := H
  refine ⟨_, ob_P _ a0 (by omega), ⟨hset_s _ _ _, a1.up _ (by rcases hk with rfl | rfl | rfl <;> rfl), a2, ⟨fm, (hset_n _ _ (by omega)).trans a3, a4⟩, ⟨n, fx, b1, b2, (hset_n _ _ (by omega)).trans b3, b4⟩, ⟨g4, (hset_n _ _ (by omega)).trans c1⟩, g5, (hset_n _ _ (by omega)).trans c2⟩, ⟨rfl, fun j q _ _ _ => hset_n _ _ q, fun m f e => ⟨f, (hset_n _ _ (by omega)).trans e, fun _ _ => rfl⟩, fun W e => ⟨updV W k (.int v), (hset_s _ _ _).trans ?_, fun j q1 q2 q3 => vu_n _ _ (by omega)⟩⟩, fun a q => hset_n _ _ q⟩
  have e9 : obj 10 28 V = obj 10 28 W := a0.symm.trans e
  rw [← ob_set, ← ob_set]
  unfold obj oO at e9
  simp only [Sum.inl.injEq, Prod.mk.injEq, true_and] at e9
  rw [e9]
/-- in the midst of a deduction -/
def MS (h0 h : PH) (mo x : Nat) (R : RT) (K0 : Nat → Nat → Bool) (kd : Nat) (pl : Int32) (K : Nat → Nat → Bool) (P : Nat → Bool) : Prop :=
  ∃ V rm, MN h mo x V R K P ∧ V 6 = .int (nI kd) ∧ V 7 = .int pl ∧ V 8 = .int (nI rm) ∧ rm + tot K = tot K0 ∧ MF mo x h0 h
theorem MN.a45 {h : PH} {mo x a : Nat} {V : Nat → Value} {R : RT} {K : Nat → Nat → Bool} {P : Nat → Bool} (H : MN h mo x V R K P) (ha : a = mo + 4 ∨ a = mo + 5) (g : Nat → Int32) : MN (hset h a (oI 4 g)) mo x V R K P ∧ MF mo x h (hset h a (oI 4 g)) := by
  obtain ⟨a0, a1, a2, ⟨fm, a3, a4⟩, ⟨n, fx, b1, b2, b3, b4⟩, ⟨g4, c1⟩, g5, c2⟩ := H
  refine ⟨⟨(hset_n _ _ (by omega)).trans a0, a1, a2, ⟨fm, (hset_n _ _ (by omega)).trans a3, a4⟩, ⟨n, fx, b1, b2, (hset_n _ _ (by omega)).trans b3, b4⟩, ?_, ?_⟩, ⟨rfl, fun j _ _ q3 q4 => hset_n _ _ (by omega), fun m f e => ⟨f, (hset_n _ _ (by omega)).trans e, fun _ _ => rfl⟩, fun W e => ⟨W, (hset_n _ _ (by omega)).trans e, fun _ _ _ _ => rfl⟩⟩⟩
  · by_cases q : a = mo + 4
    · subst q; exact ⟨g, hset_s _ _ _⟩
    · exact ⟨g4, (hset_n _ _ (by omega)).trans c1⟩
  · by_cases q : a = mo + 5
    · subst q; exact ⟨g, hset_s _ _ _⟩
    · exact ⟨g5, (hset_n _ _ (by omega)).trans c2⟩
theorem MS.rem {h0 h : PH} {mo x : Nat} {R : RT} {K0 K : Nat → Nat → Bool} {P : Nat → Bool} {kd : Nat} {pl : Int32} (H : MS h0 h mo x R K0 kd pl K P) : ∃ rm, gI h mo 10 8 = some (nI rm) ∧ rm + tot K = tot K0 := by
  obtain ⟨V, rm, a0, a1, a2, a3, a4, a5⟩ := H
  exact ⟨rm, ob_I a0.1 (by omega) a3, a4⟩
theorem MS.kd {h0 h : PH} {mo x : Nat} {R : RT} {K0 K : Nat → Nat → Bool} {P : Nat → Bool} {kd : Nat} {pl : Int32} (H : MS h0 h mo x R K0 kd pl K P) : gI h mo 10 6 = some (nI kd) := by
  obtain ⟨V, rm, a0, a1, a2, a3, a4, a5⟩ := H
  exact ob_I a0.1 (by omega) a1
theorem MS.mn {h0 h : PH} {mo x : Nat} {R : RT} {K0 K : Nat → Nat → Bool} {P : Nat → Bool} {kd : Nat} {pl : Int32} (H : MS h0 h mo x R K0 kd pl K P) : ∃ V, MN h mo x V R K P := by
  obtain ⟨V, rm, a0, _⟩ := H
  exact ⟨V, a0⟩
theorem MS.x {h0 h : PH} {mo x : Nat} {R : RT} {K0 K K' : Nat → Nat → Bool} {P P' : Nat → Bool} {kd : Nat} {pl : Int32} (H : MS h0 h mo x R K0 kd pl K P) (eK : ∀ c, c < 36 → ∀ d, isD d = true → K c d = K' c d) (eP : ∀ c, c < 36 → P c = P' c) : MS h0 h mo x R K0 kd pl K' P' := by
  obtain ⟨V, rm, a0, a1, a2, a3, a4, a5⟩ := H
  exact ⟨V, rm, a0.x eK eP, a1, a2, a3, by rw [← tot_ext eK]; exact a4, a5⟩
theorem MS.pl {h0 h : PH} {mo x : Nat} {R : RT} {K0 K : Nat → Nat → Bool} {P : Nat → Bool} {kd : Nat} {pl : Int32} (H : MS h0 h mo x R K0 kd pl K P) (v : Int32) : ∃ h', pV h mo 10 7 (.int v) = some h' ∧ MS h0 h' mo x R K0 kd v K P := by
  obtain ⟨V, rm, a0, a1, a2, a3, a4, a5⟩ := H
  obtain ⟨h', e1, e2, e3, _⟩ := a0.f (k := 7) v (by omega)
  exact ⟨h', e1, _, rm, e2, (vu_n _ _ (by omega)).trans a1, vu_s _ _ _, (vu_n _ _ (by omega)).trans a3, a4, a5.tr e3⟩
theorem MS.kk {h0 h : PH} {mo x : Nat} {R : RT} {K0 K : Nat → Nat → Bool} {P : Nat → Bool} {kd : Nat} {pl : Int32} (H : MS h0 h mo x R K0 kd pl K P) (v : Nat) : ∃ h', pV h mo 10 6 (.int (nI v)) = some h' ∧ MS h0 h' mo x R K0 v pl K P := by
  obtain ⟨V, rm, a0, a1, a2, a3, a4, a5⟩ := H
  obtain ⟨h', e1, e2, e3, _⟩ := a0.f (k := 6) (nI v) (by omega)
  exact ⟨h', e1, _, rm, e2, vu_s _ _ _, (vu_n _ _ (by omega)).trans a2, (vu_n _ _ (by omega)).trans a3, a4, a5.tr e3⟩
theorem MS.setp {h0 h : PH} {mo x : Nat} {R : RT} {K0 K : Nat → Nat → Bool} {P : Nat → Bool} {kd : Nat} {pl : Int32} (H : MS h0 h mo x R K0 kd pl K P) {c : Nat} (hc : c < 36) (b : Bool) : ∃ h', sI h x ((36 : Int32) + nI c) (nI b.toNat) = some h' ∧ MS h0 h' mo x R K0 kd pl K (fun a => if a = c then b else P a) := by
  obtain ⟨V, rm, a0, a1, a2, a3, a4, a5⟩ := H
  obtain ⟨h', e1, e2, e3, _⟩ := a0.setp hc b
  exact ⟨h', e1, V, rm, e2, a1, a2, a3, a4, a5.tr e3⟩
theorem tot_one (K : Nat → Nat → Bool) (D : Nat → Bool) {c : Nat} (hc : c < 36) : sz (fun d => K c d && D d) + tot (fun a e => K a e && !(decide (a = c) && D e)) = tot K := by
  rw [← tot_cut K fun a e => decide (a = c) && D e, smN_one hc fun i _ hn => ?_]
  · congr 1
    apply sz_ext
    intro d _
    simp
  · exact sz_0.mpr fun d _ => by simp [hn]
theorem MS.take {h0 h : PH} {mo x : Nat} {R : RT} {K0 K : Nat → Nat → Bool} {P : Nat → Bool} {kd : Nat} {pl : Int32} (H : MS h0 h mo x R K0 kd pl K P) {c : Nat} (hc : c < 36) (D : Nat → Bool) {F : Nat} (hF : 40 ≤ F) :
    ∃ h', f_Mo_takes F mo x (nI c) (nI (mkd D)) h = some h' ∧ MS h0 h' mo x R K0 kd pl (fun a e => K a e && !(decide (a = c) && D e)) P ∧ ∀ a, a ≠ mo → a ≠ x → h'.2 a = h.2 a := by
  obtain ⟨V, rm, a0, a1, a2, a3, a4, a5⟩ := H
  obtain ⟨h1, e1, e2, e3, e4⟩ := a0.f (k := 8) (nI (rm + sz fun d => K c d && D d)) (by omega)
  obtain ⟨h2, g1, g2, g3, g4⟩ := e2.setk hc fun d => K c d && !D d
  refine ⟨h2, ?_, ⟨_, rm + sz (fun d => K c d && D d), g2.x (fun a _ d _ => ?_) (fun _ _ => rfl), (vu_n _ _ (by omega)).trans a1, (vu_n _ _ (by omega)).trans a2, vu_s _ _ _, ?_, (a5.tr e3).tr g3⟩, fun a q1 q2 => (g4 a q2).trans (e4 a q1)⟩
  · unfold f_Mo_takes
    rw [ob_I a0.1 (by omega) a3, bnd_s, (a0.g hc).1, bnd_s, mkd_and, m_size _ hF, bnd_s, nI_add, e1, bnd_s, (e2.g hc).1, bnd_s, mkd_sub, g1, bnd_s]
  · show (if a = c then (fun d => K c d && !D d) else K a) d = _
    by_cases q : a = c
    · subst q; simp
    · simp [q]
  · have := tot_one K D hc
    omega
