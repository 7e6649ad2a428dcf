/-! Reading a text: what it says, and the class's reader. -/
def hr (tl : Nat) (tx : Nat → Int32) (p : Nat) : Int32 := if tl ≤ p then -1 else tx p
def dgb (v : Int32) : Bool := decide (¬ v < 48 ∧ ¬ 57 < v)
def dv (v : Int32) : Nat := v.toNatClampNeg - 48
theorem dv_e {v : Int32} (h : dgb v = true) : v = nI (48 + dv v) ∧ dv v < 10 := by
  have h' := of_decide_eq_true h
  have h0 : ¬ v < 0 := fun z => h'.1 (Int32.lt_trans z (by decide))
  obtain ⟨j, hj, rfl⟩ := nI_of h0
  have h1 : ¬ j < 48 := fun z => h'.1 (nI_lt (a := j) (b := 48) z (by omega))
  have h2 : ¬ 57 < j := fun z => h'.2 (nI_lt (a := 57) (b := j) z hj)
  unfold dv
  rw [nI_clamp hj]
  exact ⟨congrArg nI (by omega), by omega⟩
/-- a number of one or two digits -/
def numR (tl : Nat) (tx : Nat → Int32) (lo hi p : Nat) : Nat ⊕ (Nat × Nat) :=
  if dgb (hr tl tx p) then
    (if dgb (hr tl tx (p + 1)) then
      (if dgb (hr tl tx (p + 2)) then .inl (p + 2) else if lo ≤ 10 * dv (hr tl tx p) + dv (hr tl tx (p + 1)) ∧ 10 * dv (hr tl tx p) + dv (hr tl tx (p + 1)) ≤ hi then .inr (10 * dv (hr tl tx p) + dv (hr tl tx (p + 1)), p + 2) else .inl p)
    else if lo ≤ dv (hr tl tx p) ∧ dv (hr tl tx p) ≤ hi then .inr (dv (hr tl tx p), p + 1) else .inl p)
  else .inl p
theorem hr_lt {tl : Nat} {tx : Nat → Int32} {p : Nat} (h : dgb (hr tl tx p) = true) : p < tl := by
  apply Classical.byContradiction
  intro z
  unfold hr at h
  rw [if_pos (by omega)] at h
  cases h
/-- the cells of the constraint k -/
def celR (tl : Nat) (tx : Nat → Int32) (k : Nat) : Nat → RT → Nat → Nat ⊕ (RT × Nat)
  | 0, _, p => .inl p
  | n + 1, R, p => if hr tl tx p = 58 ∧ rl R k < mxl (rk R k) then (match numR tl tx 0 35 (p + 1) with
      | .inl f => .inl f
      | .inr y => if mem R k y.1 then .inl (p + 1) else celR tl tx k n (exR R k y.1) y.2)
    else if rl R k < 2 then .inl p else if tl ≤ p ∨ hr tl tx p = 59 then .inr (R, p) else .inl p
def knd (v : Int32) : Nat := if v = 97 then 1 else if v = 107 then 0 else if v = 116 then 2 else 3
def conR (tl : Nat) (tx : Nat → Int32) (R : RT) (p : Nat) : Nat ⊕ (RT × Nat) :=
  if hr tl tx p = 59 then
    (if knd (hr tl tx (p + 1)) = 3 then .inl (p + 1) else if rn R < 8 then
      (if knd (hr tl tx (p + 1)) = 0 then (match numR tl tx 1 24 (p + 2) with
        | .inl f => .inl f
        | .inr y => celR tl tx (rn R) 7 (adR R 0 y.1) y.2) else celR tl tx (rn R) 7 (adR R (knd (hr tl tx (p + 1))) 0) (p + 2))
    else .inl (p + 1))
  else .inl p
def rulR (tl : Nat) (tx : Nat → Int32) : Nat → RT → Nat → Nat ⊕ RT
  | 0, R, p => if tl ≤ p then .inr R else .inl p
  | n + 1, R, p => if tl ≤ p then .inr R else (match conR tl tx R p with
      | .inl f => .inl f
      | .inr y => rulR tl tx n y.1 y.2)
/-- the text's place and fault -/
def TP (h : PH) (tl : Nat) (tx : Nat → Int32) (p : Nat) (fl : Int32) : Prop := ∃ V f, h.2 28 = obj 2 4 V ∧ V 0 = .ref 29 ∧ V 1 = .int (nI tl) ∧ V 2 = .int (nI p) ∧ V 3 = .int fl ∧ tl ≤ 150 ∧ p < 1000 ∧ h.2 29 = oI 150 f ∧ ∀ i, i < tl → f i = tx i
theorem TP.tx {h : PH} {tl : Nat} {tx : Nat → Int32} {p : Nat} {fl : Int32} (H : TP h tl tx p fl) : TxAt h tl tx := by
  obtain ⟨V, f, a0, a1, a2, a3, a4, a5, _, a6, a7⟩ := H
  exact ⟨V, f, a0, a1, a2, a5, a6, a7⟩
theorem TP.fr {h h' : PH} {tl : Nat} {tx : Nat → Int32} {p : Nat} {fl : Int32} (H : TP h tl tx p fl) (e0 : h'.2 28 = h.2 28) (e1 : h'.2 29 = h.2 29) : TP h' tl tx p fl := by
  obtain ⟨V, f, a0, a1, a2, a3, a4, a5, aa, a6, a7⟩ := H
  exact ⟨V, f, e0.trans a0, a1, a2, a3, a4, a5, aa, e1.trans a6, a7⟩
theorem TP.ck {h : PH} {tl : Nat} {tx : Nat → Int32} {p : Nat} {fl : Int32} (H : TP h tl tx p fl) : cK h 28 2 = some () ∧ gI h 28 2 2 = some (nI p) ∧ gI h 28 2 1 = some (nI tl) ∧ gI h 28 2 3 = some fl := by
  obtain ⟨V, f, a0, a1, a2, a3, a4, a5, _, a6, a7⟩ := H
  exact ⟨ob_K a0, ob_I a0 (by omega) a3, ob_I a0 (by omega) a2, ob_I a0 (by omega) a4⟩
theorem TP.here {h : PH} {tl : Nat} {tx : Nat → Int32} {p : Nat} {fl : Int32} (H : TP h tl tx p fl) : f_Txt_here 28 h = some (hr tl tx p) := by
  obtain ⟨V, f, a0, a1, a2, a3, a4, a5, aa, a6, a7⟩ := H
  unfold f_Txt_here hr
  rw [ob_I a0 (by omega) a3, bnd_s, ob_I a0 (by omega) a2, bnd_s]
  by_cases w : tl ≤ p
  · rw [if_pos (show nI tl ≤ nI p from nI_le w (by omega)), if_pos w]
  · rw [if_neg (show ¬ nI tl ≤ nI p from nI_ge (by omega) (by omega)), if_neg w, ob_R a0 (by omega) a1, bnd_s, bnd_s, ar_I a6 (by omega) (by omega), bnd_s, a7 p (by omega)]
theorem TP.go {h : PH} {tl : Nat} {tx : Nat → Int32} {p : Nat} {fl : Int32} (H : TP h tl tx p fl) (q : Nat) (hq : q < 1000) : ∃ h', pV h 28 2 2 (.int (nI q)) = some h' ∧ TP h' tl tx q fl ∧ Fr (fun k => k = 28) h h' := by
  obtain ⟨V, f, a0, a1, a2, a3, a4, a5, aa, a6, a7⟩ := H
  obtain ⟨h', p1, g1, f1⟩ := puti (k := 2) (.int (nI q)) a0 (by omega)
  exact ⟨h', p1, ⟨_, f, g1, (vu_n _ _ (by omega)).trans a1, (vu_n _ _ (by omega)).trans a2, vu_s _ _ _, (vu_n _ _ (by omega)).trans a4, a5, hq, (f1.2 29 (by omega)).trans a6, a7⟩, f1⟩
theorem TP.bad {h : PH} {tl : Nat} {tx : Nat → Int32} {p : Nat} {fl : Int32} (H : TP h tl tx p fl) (q : Nat) : ∃ h', pV h 28 2 3 (.int (nI q)) = some h' ∧ TP h' tl tx p (nI q) ∧ Fr (fun k => k = 28) h h' := by
  obtain ⟨V, f, a0, a1, a2, a3, a4, a5, aa, a6, a7⟩ := H
  obtain ⟨h', p1, g1, f1⟩ := puti (k := 3) (.int (nI q)) a0 (by omega)
  exact ⟨h', p1, ⟨_, f, g1, (vu_n _ _ (by omega)).trans a1, (vu_n _ _ (by omega)).trans a2, (vu_n _ _ (by omega)).trans a3, vu_s _ _ _, a5, aa, (f1.2 29 (by omega)).trans a6, a7⟩, f1⟩
theorem dg_f (v : Int32) : f_Txt_isDigit v = some (if dgb v then 1 else 0) := by
  unfold f_Txt_isDigit dgb
  by_cases q1 : v < 48
  · rw [if_pos q1, decide_eq_false (fun z => z.1 q1)]; rfl
  · rw [if_neg q1]
    by_cases q2 : 57 < v
    · rw [if_pos q2, decide_eq_false (fun z => z.2 q2)]; rfl
    · rw [if_neg q2, decide_eq_true ⟨q1, q2⟩]; rfl
theorem t_num {h : PH} {tl : Nat} {tx : Nat → Int32} {p lo hi : Nat} (H : TP h tl tx p (-1)) (hp : p ≤ 160) (hlo : lo < 1000) (hhi : hi < 1000) {F : Nat} (hF : 40 ≤ F) :
    ∃ v h', f_Txt_readNumber F 28 (nI lo) (nI hi) h = some (v, h') ∧ Fr (fun k => k = 28) h h' ∧ ((∃ f q, numR tl tx lo hi p = .inl f ∧ TP h' tl tx q (nI f) ∧ f ≤ p + 2) ∨ ∃ a q, numR tl tx lo hi p = .inr (a, q) ∧ v = nI a ∧ TP h' tl tx q (-1) ∧ q ≤ tl) := by
  have h74 : ∀ s q, TP s tl tx q (-1) → ∀ i4, ∃ h', b_Txt_readNumber_74 F 28 i4 s = some (i4, h') ∧ TP h' tl tx q (nI q) ∧ Fr (fun k => k = 28) s h' := by
    intro s q hs i4
    obtain ⟨h', p1, g1, f1⟩ := hs.bad q
    exact ⟨h', by rw [b_Txt_readNumber_74, hs.ck.2.1, bnd_s, p1, bnd_s], g1, f1⟩
  have h97 : ∀ s q, TP s tl tx q (-1) → ∀ i4, ∃ h', b_Txt_readNumber_97 F 28 (nI p) i4 s = some (i4, h') ∧ TP h' tl tx q (nI p) ∧ Fr (fun k => k = 28) s h' := by
    intro s q hs i4
    obtain ⟨h', p1, g1, f1⟩ := hs.bad p
    exact ⟨h', by rw [b_Txt_readNumber_97, p1, bnd_s], g1, f1⟩
  have h56 : ∀ s q a, TP s tl tx q (-1) → q ≠ p → a < 100 → q ≤ tl → ∃ h', b_Txt_readNumber_56 F 28 (nI lo) (nI hi) (nI p) (nI a) s = some (nI a, h') ∧ Fr (fun k => k = 28) s h' ∧ (if dgb (hr tl tx q) then TP h' tl tx q (nI q) else if lo ≤ a ∧ a ≤ hi then TP h' tl tx q (-1) else TP h' tl tx q (nI p)) := by
    intro s q a hs hq ha hqt
    have hqp : q < 1000 := by
      obtain ⟨_, _, _, _, _, _, _, _, z, _⟩ := hs
      exact z
    rw [b_Txt_readNumber_56, hs.ck.2.1, bnd_s, if_neg (show ¬ nI q = nI p from fun z => hq ((nI_eq (by omega) (by omega)).mp z)), hs.ck.1, bnd_s, hs.here, bnd_s, dg_f, bnd_s]
    cases w : dgb (hr tl tx q)
    · rw [if_pos (by rfl)]
      by_cases w1 : a < lo
      · obtain ⟨h', y1, y2, y3⟩ := h97 s q hs (nI a)
        refine ⟨h', by rw [if_pos (show nI a < nI lo from nI_lt w1 (by omega)), y1], y3, ?_⟩
        rw [if_neg (by decide), if_neg (by omega)]
        exact y2
      · rw [if_neg (show ¬ nI a < nI lo from nI_nlt (by omega) (by omega))]
        by_cases w2 : a ≤ hi
        · refine ⟨s, by rw [if_pos (show nI a ≤ nI hi from nI_le w2 (by omega))], Fr.rf _ _, ?_⟩
          rw [if_neg (by decide), if_pos ⟨by omega, w2⟩]
          exact hs
        · obtain ⟨h', y1, y2, y3⟩ := h97 s q hs (nI a)
          refine ⟨h', by rw [if_neg (show ¬ nI a ≤ nI hi from nI_ge (by omega) (by omega)), y1], y3, ?_⟩
          rw [if_neg (by decide), if_neg (by omega)]
          exact y2
    · rw [if_neg (by decide)]
      obtain ⟨h', y1, y2, y3⟩ := h74 s q hs (nI a)
      exact ⟨h', y1, y3, by rw [if_pos rfl]; exact y2⟩
  have e2 : nI p + (2 : Int32) = nI (p + 2) := nI_add p 2
  have dig : ∀ a v, dgb v = true → a < 10 → ((10 : Int32) * nI a + v) - (48 : Int32) = nI (10 * a + dv v) := by
    intro a v hv ha
    obtain ⟨e, hd⟩ := dv_e hv
    rw [e, show (10 : Int32) * nI a = nI (10 * a) from pk_mul 10 a, nI_add, show nI (10 * a + (48 + dv v)) - (48 : Int32) = nI (10 * a + (48 + dv v) - 48) from pk_sub (a := 10 * a + (48 + dv v)) (b := 48) (by omega), show dv (nI (48 + dv v)) = dv v by rw [← e]]
    congr 1
    omega
  obtain ⟨n, rfl⟩ : ∃ n, F = n + 3 := ⟨F - 3, by omega⟩
  unfold f_Txt_readNumber
  rw [H.ck.2.1, bnd_s, f_Txt_readNumber_8, b_Txt_readNumber_8, H.ck.2.1, bnd_s, e2, if_neg (show ¬ nI (p + 2) ≤ nI p from nI_ge (by omega) (by omega)), H.ck.1, bnd_s, H.here, bnd_s, dg_f, bnd_s]
  unfold numR
  cases d0 : dgb (hr tl tx p)
  · rw [if_pos (by rfl), b_Txt_readNumber_56, H.ck.2.1, bnd_s, if_pos rfl]
    obtain ⟨h', y1, y2, y3⟩ := h74 h p H 0
    exact ⟨0, h', y1, y3, Or.inl ⟨p, p, rfl, y2, by omega⟩⟩
  have hp0 := hr_lt d0
  obtain ⟨h1, p1, g1, f1⟩ := H.go (p + 1) (by omega)
  have e1 : ((10 : Int32) * 0 + hr tl tx p) - (48 : Int32) = nI (dv (hr tl tx p)) := by
    have := dig 0 _ d0 (by omega)
    rw [show 10 * 0 + dv (hr tl tx p) = dv (hr tl tx p) by omega] at this
    exact this
  have hd0 := (dv_e d0).2
  rw [if_neg (by decide), bnd_s, bnd_s, e1, bnd_s, bnd_s, nI_1, p1, bnd_s, f_Txt_readNumber_8, b_Txt_readNumber_8, g1.ck.2.1, bnd_s, e2, if_neg (show ¬ nI (p + 2) ≤ nI (p + 1) from nI_ge (by omega) (by omega)), g1.ck.1, bnd_s, g1.here, bnd_s, dg_f, bnd_s]
  cases d1 : dgb (hr tl tx (p + 1))
  · obtain ⟨h', y1, y2, y3⟩ := h56 h1 (p + 1) _ g1 (by omega) (show dv (hr tl tx p) < 100 by omega) (by omega)
    rw [d1] at y3
    rw [if_pos (by rfl)]
    refine ⟨_, h', y1, f1.tr y2, ?_⟩
    by_cases w : lo ≤ dv (hr tl tx p) ∧ dv (hr tl tx p) ≤ hi
    · rw [if_neg (by decide), if_pos w] at y3
      exact Or.inr ⟨_, p + 1, by rw [if_pos rfl, if_neg (by decide), if_pos w], rfl, y3, by omega⟩
    · rw [if_neg (by decide), if_neg w] at y3
      exact Or.inl ⟨p, p + 1, by rw [if_pos rfl, if_neg (by decide), if_neg w], y3, by omega⟩
  have hp1 := hr_lt d1
  obtain ⟨h2, p2, g2, f2⟩ := g1.go (p + 2) (by omega)
  have hd1 := (dv_e d1).2
  rw [if_neg (by decide), bnd_s, bnd_s, dig _ _ d1 hd0, bnd_s, bnd_s, nI_1, p2, bnd_s, f_Txt_readNumber_8, b_Txt_readNumber_8, g2.ck.2.1, bnd_s, e2, if_pos (show nI (p + 2) ≤ nI (p + 2) from nI_le (by omega) (by omega))]
  obtain ⟨h', y1, y2, y3⟩ := h56 h2 (p + 2) _ g2 (by omega) (show 10 * dv (hr tl tx p) + dv (hr tl tx (p + 1)) < 100 by omega) (by omega)
  refine ⟨_, h', y1, f1.tr (f2.tr y2), ?_⟩
  cases d2 : dgb (hr tl tx (p + 2))
  · rw [d2] at y3
    by_cases w : lo ≤ 10 * dv (hr tl tx p) + dv (hr tl tx (p + 1)) ∧ 10 * dv (hr tl tx p) + dv (hr tl tx (p + 1)) ≤ hi
    · rw [if_neg (by decide), if_pos w] at y3
      exact Or.inr ⟨_, p + 2, by rw [if_pos rfl, if_pos rfl, if_neg (by decide), if_pos w], rfl, y3, by omega⟩
    · rw [if_neg (by decide), if_neg w] at y3
      exact Or.inl ⟨p, p + 2, by rw [if_pos rfl, if_pos rfl, if_neg (by decide), if_neg w], y3, by omega⟩
  · rw [d2, if_pos rfl] at y3
    exact Or.inl ⟨p + 2, p + 2, by rw [if_pos rfl, if_pos rfl, if_pos rfl], y3, by omega⟩
