/-! The reference's reader: places, numbers, cells. -/
def CXt (h0 : PH) (mo : Nat) (V0 : Nat → Value) (tl : Nat) (tx : Nat → Int32) : Prop := MV mo V0 ∧ V0 4 = .int (nI tl) ∧ tl ≤ 150 ∧ ∃ a, h0.2 (mo + 3) = oI 150 a ∧ ∀ i, i < tl → a i = tx i
def MPs (h0 : PH) (mo : Nat) (V0 : Nat → Value) (h : PH) (p d : Nat) (f g : Nat → Int32) : Prop := ∃ V, h.2 mo = obj 10 28 V ∧ (∀ k, k ≠ 22 → k ≠ 23 → k ≠ 26 → V k = V0 k) ∧ V 22 = .int (nI p) ∧ V 26 = .int (nI d) ∧ p < 1000 ∧ d < 1000 ∧ h.2 (mo + 13) = oI 72 f ∧ h.2 (mo + 14) = oI 36 g ∧ Fr (fun k => k = mo ∨ k = mo + 13 ∨ k = mo + 14) h0 h
theorem MPs.r {h0 : PH} {mo : Nat} {V0 : Nat → Value} {tl : Nat} {tx : Nat → Int32} {h : PH} {p d : Nat} {f g : Nat → Int32} (H : MPs h0 mo V0 h p d f g) (C : CXt h0 mo V0 tl tx) : cK h mo 10 = some () ∧ gI h mo 10 22 = some (nI p) ∧ gI h mo 10 26 = some (nI d) ∧ gI h mo 10 4 = some (nI tl) ∧ gR h mo 10 24 = some (mo + 13) ∧ gR h mo 10 25 = some (mo + 14) ∧ f_Mo_here mo h = some (hr tl tx p) := by
  obtain ⟨V, a0, a1, a2, a3, a4, a5, a6, a7, fr⟩ := H
  obtain ⟨c1, c2, c3, a, c4, c5⟩ := C
  obtain ⟨m1, m2, m3, m4, m5, m6, m7, m8, m9, m10, m11, m12, m13, m14⟩ := c1
  have e4 : gI h mo 10 4 = some (nI tl) := ob_I a0 (by omega) ((a1 4 (by omega) (by omega) (by omega)).trans c2)
  refine ⟨ob_K a0, ob_I a0 (by omega) a2, ob_I a0 (by omega) a3, e4, ob_R a0 (by omega) ((a1 24 (by omega) (by omega) (by omega)).trans m13), ob_R a0 (by omega) ((a1 25 (by omega) (by omega) (by omega)).trans m14), ?_⟩
  unfold f_Mo_here hr
  rw [ob_I a0 (by omega) a2, bnd_s, e4, bnd_s]
  by_cases w : tl ≤ p
  · rw [if_pos (show nI tl ≤ nI p from nI_le w (by omega)), if_pos w]
  · rw [if_neg (show ¬ nI tl ≤ nI p from nI_ge (by omega) (by omega)), if_neg w, ob_R a0 (by omega) ((a1 3 (by omega) (by omega) (by omega)).trans m3), bnd_s, bnd_s, ar_I ((fr.2 _ (by omega)).trans c4) (by omega) (by omega), bnd_s, c5 p (by omega)]
theorem MPs.at {h0 : PH} {mo : Nat} {V0 : Nat → Value} {h : PH} {p d : Nat} {f g : Nat → Int32} (H : MPs h0 mo V0 h p d f g) (q : Nat) (hq : q < 1000) : ∃ h', pV h mo 10 22 (.int (nI q)) = some h' ∧ MPs h0 mo V0 h' q d f g ∧ ∀ v, gI h mo 10 23 = some v → gI h' mo 10 23 = some v := by
  obtain ⟨V, a0, a1, a2, a3, a4, a5, a6, a7, fr⟩ := H
  obtain ⟨h', p1, g1, r1⟩ := puti (k := 22) (.int (nI q)) a0 (by omega)
  exact ⟨h', p1, ⟨_, g1, fun k h1 h2 h3 => (vu_n _ _ h1).trans (a1 k h1 h2 h3), vu_s _ _ _, (vu_n _ _ (by omega)).trans a3, hq, a5, (r1.2 _ (by omega)).trans a6, (r1.2 _ (by omega)).trans a7, fr.tr (r1.mo fun k hk => Or.inl hk)⟩, fun v hv => ob_I g1 (by omega) ((vu_n _ _ (by omega)).trans (gI_ob a0 (by omega) hv))⟩
theorem MPs.nu {h0 : PH} {mo : Nat} {V0 : Nat → Value} {h : PH} {p d : Nat} {f g : Nat → Int32} (H : MPs h0 mo V0 h p d f g) (v : Int32) : ∃ h', pV h mo 10 23 (.int v) = some h' ∧ MPs h0 mo V0 h' p d f g ∧ gI h' mo 10 23 = some v := by
  obtain ⟨V, a0, a1, a2, a3, a4, a5, a6, a7, fr⟩ := H
  obtain ⟨h', p1, g1, r1⟩ := puti (k := 23) (.int v) a0 (by omega)
  exact ⟨h', p1, ⟨_, g1, fun k h1 h2 h3 => (vu_n _ _ h2).trans (a1 k h1 h2 h3), (vu_n _ _ (by omega)).trans a2, (vu_n _ _ (by omega)).trans a3, a4, a5, (r1.2 _ (by omega)).trans a6, (r1.2 _ (by omega)).trans a7, fr.tr (r1.mo fun k hk => Or.inl hk)⟩, ob_I g1 (by omega) (vu_s _ _ _)⟩
theorem MPs.ma {h0 : PH} {mo : Nat} {V0 : Nat → Value} {h : PH} {p d : Nat} {f g : Nat → Int32} (H : MPs h0 mo V0 h p d f g) (q : Nat) (hq : q < 1000) : ∃ h', pV h mo 10 26 (.int (nI q)) = some h' ∧ MPs h0 mo V0 h' p q f g := by
  obtain ⟨V, a0, a1, a2, a3, a4, a5, a6, a7, fr⟩ := H
  obtain ⟨h', p1, g1, r1⟩ := puti (k := 26) (.int (nI q)) a0 (by omega)
  exact ⟨h', p1, ⟨_, g1, fun k h1 h2 h3 => (vu_n _ _ h3).trans (a1 k h1 h2 h3), (vu_n _ _ (by omega)).trans a2, vu_s _ _ _, a4, hq, (r1.2 _ (by omega)).trans a6, (r1.2 _ (by omega)).trans a7, fr.tr (r1.mo fun k hk => Or.inl hk)⟩⟩
theorem MPs.dr {h0 : PH} {mo : Nat} {V0 : Nat → Value} {h : PH} {p d : Nat} {f g : Nat → Int32} (H : MPs h0 mo V0 h p d f g) {i : Nat} (hi : i < 72) (v : Int32) : ∃ h', sI h (mo + 13) (nI i) v = some h' ∧ MPs h0 mo V0 h' p d (upd f i v) g ∧ ∀ v, gI h mo 10 23 = some v → gI h' mo 10 23 = some v := by
  obtain ⟨V, a0, a1, a2, a3, a4, a5, a6, a7, fr⟩ := H
  obtain ⟨h', p1, g1, r1⟩ := sti (i := i) v a6 hi (by omega)
  have z := (r1.2 mo (by omega)).trans a0
  exact ⟨h', p1, ⟨_, z, a1, a2, a3, a4, a5, g1, (r1.2 _ (by omega)).trans a7, fr.tr (r1.mo fun k hk => Or.inr (Or.inl hk))⟩, fun v hv => ob_I z (by omega) (gI_ob a0 (by omega) hv)⟩
theorem MPs.gi {h0 : PH} {mo : Nat} {V0 : Nat → Value} {h : PH} {p d : Nat} {f g : Nat → Int32} (H : MPs h0 mo V0 h p d f g) {i : Nat} (hi : i < 36) (v : Int32) : ∃ h', sI h (mo + 14) (nI i) v = some h' ∧ MPs h0 mo V0 h' p d f (upd g i v) := by
  obtain ⟨V, a0, a1, a2, a3, a4, a5, a6, a7, fr⟩ := H
  obtain ⟨h', p1, g1, r1⟩ := sti (i := i) v a7 hi (by omega)
  exact ⟨h', p1, ⟨_, (r1.2 mo (by omega)).trans a0, a1, a2, a3, a4, a5, (r1.2 _ (by omega)).trans a6, g1, fr.tr (r1.mo fun k hk => Or.inr (Or.inr hk))⟩⟩
theorem MPs.g13 {h0 : PH} {mo : Nat} {V0 : Nat → Value} {h : PH} {p d : Nat} {f g : Nat → Int32} (H : MPs h0 mo V0 h p d f g) {i : Nat} (hi : i < 72) : aI h (mo + 13) (nI i) = some (f i) := by
  obtain ⟨V, a0, a1, a2, a3, a4, a5, a6, a7, fr⟩ := H
  exact ar_I a6 hi (by omega)
theorem m_dgb (v : Int32) : f_Mo_in v (48 : Int32) (57 : Int32) = some (if dgb v then 1 else 0) := by
  unfold f_Mo_in dgb
  by_cases q1 : v < 48
  · rw [if_pos q1, decide_eq_false (fun z => z.1 q1)]; rfl
  · rw [if_neg q1]
    by_cases q2 : 57 < v
    · rw [if_pos q2, decide_eq_false (fun z => z.2 q2)]; rfl
    · rw [if_neg q2, decide_eq_true ⟨q1, q2⟩]; rfl
theorem m_pass {h0 : PH} {mo : Nat} {V0 : Nat → Value} {tl : Nat} {tx : Nat → Int32} {h : PH} {p d : Nat} {f g : Nat → Int32} (H : MPs h0 mo V0 h p d f g) (C : CXt h0 mo V0 tl tx) (hp : p < 900) (v : Int32) :
    ∃ h', f_Mo_passes mo v h = some (if hr tl tx p = v then 1 else 0, h') ∧ MPs h0 mo V0 h' (if hr tl tx p = v then p + 1 else p) d f g := by
  obtain ⟨r1, r2, r3, r4, r5, r6, r7⟩ := H.r C
  unfold f_Mo_passes
  rw [r1, bnd_s, r7, bnd_s]
  by_cases w : hr tl tx p = v
  · obtain ⟨h', p1, H', _⟩ := H.at (p + 1) (by omega)
    refine ⟨h', ?_, by rw [if_pos w]; exact H'⟩
    rw [if_pos w, b_Mo_passes_13, r2, bnd_s, if_neg (by decide), b_Mo_passes_28, nI_1, p1, bnd_s, if_pos w]
    rfl
  · obtain ⟨h', p1, H', _⟩ := H.at p (by omega)
    refine ⟨h', ?_, by rw [if_neg w]; exact H'⟩
    rw [if_neg w, b_Mo_passes_13, r2, bnd_s, if_pos rfl, b_Mo_passes_28, show nI p + (0 : Int32) = nI p from nI_add p 0, p1, bnd_s, if_neg w]
    rfl
theorem m_num {h0 : PH} {mo : Nat} {V0 : Nat → Value} {tl : Nat} {tx : Nat → Int32} {h : PH} {p d : Nat} {f g : Nat → Int32} (H : MPs h0 mo V0 h p d f g) (C : CXt h0 mo V0 tl tx) (hp : p ≤ 160) {lo hi : Nat} (hlo : lo < 1000) (hhi : hi < 1000) {F : Nat} (hF : 3000 ≤ F) :
    (∃ h' q, numR tl tx lo hi p = .inl q ∧ q < 1000 ∧ f_Mo_readNumber F mo (nI lo) (nI hi) h = some (0, h') ∧ MPs h0 mo V0 h' q d f g) ∨ ∃ h' a q, numR tl tx lo hi p = .inr (a, q) ∧ f_Mo_readNumber F mo (nI lo) (nI hi) h = some (1, h') ∧ MPs h0 mo V0 h' q d f g ∧ gI h' mo 10 23 = some (nI a) ∧ q ≤ tl := by
  have h66 : ∀ s q a, MPs h0 mo V0 s q d f g → gI s mo 10 23 = some (nI a) → q ≠ p → a < 100 → (if dgb (hr tl tx q) then b_Mo_readNumber_66 F mo (nI lo) (nI hi) (nI p) s = some (0, s) else if lo ≤ a ∧ a ≤ hi then ∃ s', b_Mo_readNumber_66 F mo (nI lo) (nI hi) (nI p) s = some (1, s') ∧ MPs h0 mo V0 s' q d f g ∧ gI s' mo 10 23 = some (nI a) else ∃ s', b_Mo_readNumber_66 F mo (nI lo) (nI hi) (nI p) s = some (0, s') ∧ MPs h0 mo V0 s' p d f g) := by
    intro s q a hs hn hq ha
    obtain ⟨r1, r2, r3, r4, r5, r6, r7⟩ := hs.r C
    have hq1 : q < 1000 := by
      obtain ⟨_, _, _, _, _, z, _⟩ := hs
      exact z
    rw [b_Mo_readNumber_66, r2, bnd_s, if_neg (show ¬ nI q = nI p from fun z => hq ((nI_eq (by omega) (by omega)).mp z)), r1, bnd_s, r7, bnd_s, m_dgb, bnd_s]
    cases w : dgb (hr tl tx q)
    · rw [if_neg (show ¬ false = true by decide), if_pos (show (if false = true then (1 : Int32) else 0) = 0 from rfl), hn, bnd_s]
      by_cases w1 : lo ≤ a ∧ a ≤ hi
      · obtain ⟨s', p1, H', n'⟩ := hs.at q (by omega)
        rw [if_pos w1, m_in w1.1 w1.2 (by omega), bnd_s, if_neg (by decide), bnd_s, b_Mo_readNumber_115, p1, bnd_s]
        exact ⟨s', rfl, H', n' _ hn⟩
      · have hin : f_Mo_in (nI a) (nI lo) (nI hi) = some 0 := by
          unfold f_Mo_in
          by_cases w2 : a < lo
          · rw [if_pos (show nI a < nI lo from nI_lt w2 (by omega))]
          · rw [if_neg (show ¬ nI a < nI lo from nI_nlt (by omega) (by omega)), if_pos (show nI hi < nI a from nI_lt (by omega) (by omega))]
        obtain ⟨s', p1, H', _⟩ := hs.at p (by omega)
        rw [if_neg w1, hin, bnd_s, if_pos rfl, b_Mo_readNumber_115, p1, bnd_s]
        exact ⟨s', rfl, H'⟩
    · rw [if_pos rfl, if_pos rfl, if_neg (by decide)]
  have dig : ∀ a v, dgb v = true → a < 10 → ((10 : Int32) * nI a + v) - (48 : Int32) = nI (10 * a + dv v) := by
    intro a v hv ha
    obtain ⟨e, hd⟩ := dv_e hv
    rw [e, show (10 : Int32) * nI a = nI (10 * a) from pk_mul 10 a, nI_add, show nI (10 * a + (48 + dv v)) - (48 : Int32) = nI (10 * a + (48 + dv v) - 48) from pk_sub (a := 10 * a + (48 + dv v)) (b := 48) (by omega), show dv (nI (48 + dv v)) = dv v by rw [← e]]
    exact congrArg nI (by omega)
  have step : ∀ n s q a, MPs h0 mo V0 s q d f g → gI s mo 10 23 = some (nI a) → p ≤ q → q < p + 2 → a < 10 → dgb (hr tl tx q) = true → ∃ s', f_Mo_readNumber_10 F (n + 1) mo (nI lo) (nI hi) (nI p) s = f_Mo_readNumber_10 F n mo (nI lo) (nI hi) (nI p) s' ∧ MPs h0 mo V0 s' (q + 1) d f g ∧ gI s' mo 10 23 = some (nI (10 * a + dv (hr tl tx q))) := by
    intro n s q a hs hn hq1 hq2 ha hd
    obtain ⟨r1, r2, r3, r4, r5, r6, r7⟩ := hs.r C
    obtain ⟨s1, p1, H1, n1⟩ := hs.nu (nI (10 * a + dv (hr tl tx q)))
    obtain ⟨t1, t2, _⟩ := H1.r C
    obtain ⟨s2, p2, H2, n2⟩ := H1.at (q + 1) (by omega)
    refine ⟨s2, ?_, H2, n2 _ n1⟩
    rw [f_Mo_readNumber_10, b_Mo_readNumber_10, r2, bnd_s, show nI q - nI p = nI (q - p) from pk_sub hq1, if_neg (show ¬ (2 : Int32) ≤ nI (q - p) from nI_ge (a := q - p) (b := 2) (by omega) (by omega)), r1, bnd_s, r7, bnd_s, m_dgb, bnd_s, hd, if_neg (by decide), hn, bnd_s, bnd_s, bnd_s, dig a _ hd ha, p1, bnd_s, t2, bnd_s, nI_1, p2, bnd_s]
  have stop : ∀ n s q, MPs h0 mo V0 s q d f g → p ≤ q → q < p + 2 → dgb (hr tl tx q) = false → f_Mo_readNumber_10 F (n + 1) mo (nI lo) (nI hi) (nI p) s = b_Mo_readNumber_66 F mo (nI lo) (nI hi) (nI p) s := by
    intro n s q hs hq1 hq2 hd
    obtain ⟨r1, r2, r3, r4, r5, r6, r7⟩ := hs.r C
    rw [f_Mo_readNumber_10, b_Mo_readNumber_10, r2, bnd_s, show nI q - nI p = nI (q - p) from pk_sub hq1, if_neg (show ¬ (2 : Int32) ≤ nI (q - p) from nI_ge (a := q - p) (b := 2) (by omega) (by omega)), r1, bnd_s, r7, bnd_s, m_dgb, bnd_s, hd, if_pos (by rfl)]
  obtain ⟨n, rfl⟩ : ∃ n, F = n + 3 := ⟨F - 3, by omega⟩
  obtain ⟨r1, r2, r3, r4, r5, r6, r7⟩ := H.r C
  obtain ⟨h1, p1, H1, n1⟩ := H.nu (nI 0)
  have pre : f_Mo_readNumber (n + 3) mo (nI lo) (nI hi) h = f_Mo_readNumber_10 (n + 3) (n + 2 + 1) mo (nI lo) (nI hi) (nI p) h1 := by
    unfold f_Mo_readNumber
    rw [r2, bnd_s, show (0 : Int32) = nI 0 from rfl, p1, bnd_s]
  rw [pre]
  unfold numR
  cases d0 : dgb (hr tl tx p)
  · left
    refine ⟨h1, p, by rw [if_neg (by decide)], by omega, ?_, H1⟩
    rw [stop _ _ _ H1 (Nat.le_refl _) (by omega) d0, b_Mo_readNumber_66, (H1.r C).2.1, bnd_s, if_pos rfl]
  have hp0 := hr_lt d0
  have hd0 := (dv_e d0).2
  obtain ⟨h2, e2, H2, n2⟩ := step (n + 2) h1 p 0 H1 n1 (Nat.le_refl _) (by omega) (by omega) d0
  rw [show 10 * 0 + dv (hr tl tx p) = dv (hr tl tx p) by omega] at n2
  rw [e2, if_pos rfl]
  cases d1 : dgb (hr tl tx (p + 1))
  · have y := h66 h2 (p + 1) _ H2 n2 (by omega) (by omega)
    rw [d1, if_neg (by decide)] at y
    rw [if_neg (by decide), show n + 2 = n + 1 + 1 from rfl, stop _ _ _ H2 (by omega) (by omega) d1]
    by_cases w : lo ≤ dv (hr tl tx p) ∧ dv (hr tl tx p) ≤ hi
    · rw [if_pos w] at y ⊢
      obtain ⟨s', y1, y2, y3⟩ := y
      exact Or.inr ⟨s', _, p + 1, rfl, y1, y2, y3, by omega⟩
    · rw [if_neg w] at y ⊢
      obtain ⟨s', y1, y2⟩ := y
      exact Or.inl ⟨s', p, rfl, by omega, y1, y2⟩
  have hp1 := hr_lt d1
  have hd1 := (dv_e d1).2
  obtain ⟨h3, e3, H3, n3⟩ := step (n + 1) h2 (p + 1) _ H2 n2 (by omega) (by omega) hd0 d1
  rw [show n + 2 = n + 1 + 1 from rfl, e3, if_pos rfl]
  have y := h66 h3 (p + 1 + 1) _ H3 n3 (by omega) (by omega)
  have e66 : f_Mo_readNumber_10 (n + 3) (n + 1) mo (nI lo) (nI hi) (nI p) h3 = b_Mo_readNumber_66 (n + 3) mo (nI lo) (nI hi) (nI p) h3 := by
    rw [f_Mo_readNumber_10, b_Mo_readNumber_10, (H3.r C).2.1, bnd_s, show nI (p + 1 + 1) - nI p = nI (p + 1 + 1 - p) from pk_sub (by omega), if_pos (show (2 : Int32) ≤ nI (p + 1 + 1 - p) from nI_le (a := 2) (b := p + 1 + 1 - p) (by omega) (by omega))]
  rw [show n + 3 = n + 3 from rfl] at e66
  rw [e66]
  rw [show p + 1 + 1 = p + 2 from rfl] at y H3
  cases d2 : dgb (hr tl tx (p + 2))
  · rw [d2, if_neg (by decide)] at y
    rw [if_neg (by decide)]
    by_cases w : lo ≤ 10 * dv (hr tl tx p) + dv (hr tl tx (p + 1)) ∧ 10 * dv (hr tl tx p) + dv (hr tl tx (p + 1)) ≤ hi
    · rw [if_pos w] at y ⊢
      obtain ⟨s', y1, y2, y3⟩ := y
      exact Or.inr ⟨s', _, p + 2, rfl, y1, y2, y3, by omega⟩
    · rw [if_neg w] at y ⊢
      obtain ⟨s', y1, y2⟩ := y
      exact Or.inl ⟨s', p, rfl, by omega, y1, y2⟩
  · rw [d2, if_pos rfl] at y
    rw [if_pos rfl]
    exact Or.inl ⟨h3, p + 2, rfl, by omega, y, H3⟩
