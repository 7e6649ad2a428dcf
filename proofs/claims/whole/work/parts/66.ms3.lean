/-! The reference's search: a node, the next guess, the whole. -/
/-- what follows the last deduction -/
def slE (F : Nat) (k35 : Nat → Int32 → Int32 → Int32 → PH → Option PH) (a0 : Nat) (i1 : Int32) (i2 : Int32) (h4 : PH) : Option PH :=
  bnd (gR h4 a0 10 11) fun x5 => bnd (f_Mo_isSolved F x5 h4) fun x6 => (if x6 = (0 : Int32) then bnd (gR h4 a0 10 11) fun x7 => bnd (f_Mo_isDead F x7 h4) fun x8 => (if x8 = (0 : Int32) then bnd (gR h4 a0 10 13) fun x9 => bnd (cK h4 a0 10) fun _ => bnd (f_Mo_fewest F a0 h4) fun x11 => bnd (sI h4 x9 i2 x11) fun h12 => bnd (gR h12 a0 10 14) fun x13 => bnd (gR h12 a0 10 11) fun x14 => bnd (cK h12 a0 10) fun _ => bnd (f_Mo_fewest F a0 h12) fun x16 => bnd (aI h12 x14 x16) fun x17 => bnd (sI h12 x13 i2 x17) fun h18 => bnd (gR h18 a0 10 11) fun x19 => bnd (gR h18 a0 10 12) fun x20 => bnd (f_Mo_copyRow F x19 (0 : Int32) x20 ((72 : Int32) * i2) h18) fun h21 => f_Mo_solve_126 F k35 F a0 i1 (i2 + (1 : Int32)) h21 else f_Mo_solve_126 F k35 F a0 i1 i2 h4) else bnd (cK h4 a0 10) fun _ => bnd (f_Mo_notesSolution F a0 h4) fun h24 => f_Mo_solve_126 F k35 F a0 i1 i2 h24)
theorem sl39 (F : Nat) (kk : Nat → Int32 → Int32 → Int32 → PH → Option PH) (n : Nat) (a0 : Nat) (i1 i2 : Int32) (h : PH) : f_Mo_solve_39 F kk (n + 1) a0 i1 i2 h = bnd (gR h a0 10 11) fun x1 => bnd (cK h a0 10) fun _ => bnd2 (f_Mo_next F a0 x1 h) fun x3 h4 => if x3 = (0 : Int32) then slE F kk a0 i1 i2 h4 else f_Mo_solve_39 F kk n a0 i1 i2 h4 := rfl
theorem SO.mn {h : PH} {mo : Nat} {R : RT} {s : RS} {st : List EN} {K : Nat → Nat → Bool} {P : Nat → Bool} (H : SO h mo R s st K P) : ∃ V, MN h mo (mo + 6) V R K P := by
  obtain ⟨V, _, _, _, _, _, a0, _⟩ := H
  exact ⟨V, a0⟩
theorem MN.r11 {h : PH} {mo x : Nat} {V : Nat → Value} {R : RT} {K : Nat → Nat → Bool} {P : Nat → Bool} (H : MN h mo x V R K P) : gR h mo 10 11 = some (mo + 6) ∧ gR h mo 10 12 = some (mo + 7) ∧ gR h mo 10 13 = some (mo + 8) ∧ gR h mo 10 14 = some (mo + 9) := ⟨ob_R H.1 (by omega) H.2.1.2.2.2.2.2.1, ob_R H.1 (by omega) H.2.1.2.2.2.2.2.2.1, ob_R H.1 (by omega) H.2.1.2.2.2.2.2.2.2.1, ob_R H.1 (by omega) H.2.1.2.2.2.2.2.2.2.2.1⟩
theorem m_clos {mo : Nat} {R : RT} (hR : ROK R) {F : Nat} (hF : 3000 ≤ F) (kk : Nat → Int32 → Int32 → Int32 → PH → Option PH) (l i : Int32) {s : RS} {st : List EN} : ∀ m n h K P K' P', SO h mo R s st K P → Cln R m K P K' P' → ∃ h', f_Mo_solve_39 F kk (n + m + 1) mo l i h = slE F kk mo l i h' ∧ SO h' mo R s st K' P' ∧ SFm mo h h' := by
  intro m
  induction m with
  | zero =>
    rintro n h K P K' P' H ⟨e1, e2, hx⟩
    subst e1 e2
    obtain ⟨V, M0⟩ := H.mn
    obtain ⟨kd, pl, K1, P1, h1, g1, g2, g3⟩ := m_next M0 hR (F := F) (by omega)
    obtain ⟨u1, u2, u3, u4⟩ := NX_u g1 hx
    subst u1 u3 u4
    obtain ⟨V1, rm, a0, _, _, _, _, a5⟩ := g3
    refine ⟨h1, ?_, H.mf a0 a5, a5.sfm⟩
    rw [sl39, M0.r11.1, bnd_s, M0.ck, bnd_s, g2, bnd2_s, if_pos (by rfl)]
  | succ m ih =>
    rintro n h K P K' P' H ⟨kd, pl, K1, P1, hk, hx, hc⟩
    obtain ⟨V, M0⟩ := H.mn
    obtain ⟨kd', pl', K2, P2, h1, g1, g2, g3⟩ := m_next M0 hR (F := F) (by omega)
    obtain ⟨u1, u2, u3, u4⟩ := NX_u g1 hx
    subst u1 u3 u4
    obtain ⟨V1, rm, a0, _, _, _, _, a5⟩ := g3
    obtain ⟨h2, z1, z2, z3⟩ := ih n h1 _ _ K' P' (H.mf a0 a5) hc
    refine ⟨h2, ?_, z2, a5.sfm.tr z3⟩
    rw [sl39, M0.r11.1, bnd_s, M0.ck, bnd_s, g2, bnd2_s, if_neg hk, if_neg (by decide)]
    exact z1
theorem Cln_m {R : RT} : ∀ {m : Nat} {K : Nat → Nat → Bool} {P : Nat → Bool} {K' : Nat → Nat → Bool} {P' : Nat → Bool}, Cln R m K P K' P' → mea K' P' + m ≤ mea K P := by
  intro m
  induction m with
  | zero =>
    rintro K P K' P' ⟨e1, e2, _⟩
    subst e1 e2
    exact Nat.le_refl _
  | succ m ih =>
    rintro K P K' P' ⟨kd, pl, K1, P1, hk, hx, hc⟩
    have := NX_mea hx hk
    have := ih hc
    omega
theorem m_node {h : PH} {mo : Nat} {R : RT} {s : RS} {st : List EN} {K : Nat → Nat → Bool} {P : Nat → Bool} (H : SO h mo R s st K P) (hR : ROK R) (hp : PI K P) {n : Nat} {L : EL} (hE : Ev R n K P L) (hn : n + st.length ≤ 36) {lim : Nat} (hl : lim ≤ 1000) (hs : s.1 < lim) {F : Nat} (hF : 3000 ≤ F) (kk : Nat → Int32 → Int32 → Int32 → PH → Option PH) :
    ∃ h' s' st' K' P', f_Mo_solve_39 F kk F mo (nI lim) (nI st.length) h = f_Mo_solve_126 F kk F mo (nI lim) (nI st'.length) h' ∧ SO h' mo R s' st' K' P' ∧ SFm mo h h' ∧ rrun lim (L ++ remS st) s = rrun lim (remS st') s' ∧ ngu (remS st') = ngu (L ++ remS st) ∧ st'.length ≤ 36 ∧ s'.1 ≤ lim := by
  have hcl : ∃ m K' P', Cln R m K P K' P' ∧ ((fin36 K' P' = true ∧ L = [some (fdg K')]) ∨ (fin36 K' P' = false ∧ dd K' = true ∧ L = []) ∨
      (fin36 K' P' = false ∧ dd K' = false ∧ ∃ n' c Ls, n = n' + 1 ∧ Few K' c ∧ (∀ d, isD d = true → K' c d = true → Ev R n' (kpO K' c d) P' (Ls d)) ∧ L = cat6 (K' c) Ls 7)) := by
    cases n with
    | zero =>
      obtain ⟨m, K', P', hc, z | z⟩ := hE
      · exact ⟨m, K', P', hc, Or.inl z⟩
      · exact ⟨m, K', P', hc, Or.inr (Or.inl z)⟩
    | succ n =>
      obtain ⟨m, K', P', hc, z | z | ⟨z1, z2, c, Ls, z3, z4, z5⟩⟩ := hE
      · exact ⟨m, K', P', hc, Or.inl z⟩
      · exact ⟨m, K', P', hc, Or.inr (Or.inl z)⟩
      · exact ⟨m, K', P', hc, Or.inr (Or.inr ⟨z1, z2, n, c, Ls, rfl, z3, z4, z5⟩)⟩
  obtain ⟨m, K', P', hc, hcase⟩ := hcl
  obtain ⟨p1, p2, p3, p4⟩ := Cln_p hR hc hp
  have hm := Cln_m hc
  have hm2 := mea_le K P
  obtain ⟨h1, e1, H1, f1⟩ := m_clos hR hF kk (nI lim) (nI st.length) m (F - m - 1) h K P K' P' H hc
  rw [show F - m - 1 + m + 1 = F by omega] at e1
  obtain ⟨V, M1⟩ := H1.mn
  obtain ⟨r11, r12, r13, r14⟩ := M1.r11
  rw [e1, slE, r11, bnd_s, m_isSolved M1 (by omega), bnd_s]
  rcases hcase with ⟨hf, hL⟩ | ⟨hf, hd, hL⟩ | ⟨hf, hd, n', c, Ls, hn', hw, hEs, hL⟩
  · rw [hf, if_neg (by decide), M1.ck, bnd_s]
    have hsz : ∀ c, c < 36 → sz (K' c) = 1 := fun c hc => by
      obtain ⟨z1, z2⟩ := fin36_t.mp hf
      have := (p1 c hc (z1 c hc)).1
      have := z2 c hc
      omega
    obtain ⟨h2, e2, H2, f2⟩ := m_note H1 hsz (by omega) (F := F) (by omega)
    refine ⟨h2, _, st, K', P', by rw [e2, bnd_s], H2, f1.tr f2, ?_, ?_, by omega, hs⟩
    · subst hL
      show (if lim ≤ s.1 then s else rrun lim (remS st) (rno s (fdg K'))) = _
      rw [if_neg (by omega)]
    · subst hL
      rfl
  · rw [hf, if_pos (by rfl), bnd_s, m_isDead M1 (by omega), hd, bnd_s, if_neg (by decide)]
    refine ⟨h1, s, st, K', P', rfl, H1, f1, ?_, ?_, by omega, by omega⟩
    · subst hL; rfl
    · subst hL; rfl
  · rw [hf, if_pos (by rfl), bnd_s, m_isDead M1 (by omega), hd, bnd_s, if_pos (by rfl), r13, bnd_s, M1.ck, bnd_s, m_fewest M1 hw (by omega), bnd_s]
    obtain ⟨V1, g, u, w, wc, ws, a0, a1, a2, a3, ⟨a4, a5⟩, ⟨a6, a7⟩, a8, a9, a10, a11⟩ := H1
    have hlen : st.length < 37 := by omega
    rw [ar_sI _ a9 hlen (by omega), bnd_s]
    have M2 : MN (hset h1 (mo + 8) (oI 37 (upd wc st.length (nI c)))) mo (mo + 6) V1 R K' P' := a0.fr ((hset_n _ _ (by omega)).trans a0.1) a0.2.1 (hset_n _ _ (by omega)) (hset_n _ _ (by omega)) (hset_n _ _ (by omega)) (hset_n _ _ (by omega))
    have b10 : (hset h1 (mo + 8) (oI 37 (upd wc st.length (nI c)))).2 (mo + 9) = oI 37 ws := (hset_n _ _ (by omega)).trans a10
    rw [M2.r11.2.2.2, bnd_s, M2.r11.1, bnd_s, M2.ck, bnd_s, m_fewest M2 hw (by omega), bnd_s, (M2.g hw.1).1, bnd_s, ar_sI _ b10 hlen (by omega), bnd_s]
    have M3 : MN (hset (hset h1 (mo + 8) (oI 37 (upd wc st.length (nI c)))) (mo + 9) (oI 37 (upd ws st.length (nI (mkd (K' c)))))) mo (mo + 6) V1 R K' P' := M2.fr ((hset_n _ _ (by omega)).trans M2.1) M2.2.1 (hset_n _ _ (by omega)) (hset_n _ _ (by omega)) (hset_n _ _ (by omega)) (hset_n _ _ (by omega))
    have F3 : Fr (fun k => k = mo + 8 ∨ k = mo + 9) h1 (hset (hset h1 (mo + 8) (oI 37 (upd wc st.length (nI c)))) (mo + 9) (oI 37 (upd ws st.length (nI (mkd (K' c)))))) := ((Fr.rf _ _).st (S := fun k => k = mo + 8 ∨ k = mo + 9) _ (Or.inl rfl)).st (S := fun k => k = mo + 8 ∨ k = mo + 9) _ (Or.inr rfl)
    have c8 : (hset (hset h1 (mo + 8) (oI 37 (upd wc st.length (nI c)))) (mo + 9) (oI 37 (upd ws st.length (nI (mkd (K' c)))))).2 (mo + 8) = oI 37 (upd wc st.length (nI c)) := (hset_n _ _ (by omega)).trans (hset_s _ _ _)
    have c9 : (hset (hset h1 (mo + 8) (oI 37 (upd wc st.length (nI c)))) (mo + 9) (oI 37 (upd ws st.length (nI (mkd (K' c)))))).2 (mo + 9) = oI 37 (upd ws st.length (nI (mkd (K' c)))) := hset_s _ _ _
    generalize hset (hset h1 (mo + 8) (oI 37 (upd wc st.length (nI c)))) (mo + 9) (oI 37 (upd ws st.length (nI (mkd (K' c))))) = h3 at M3 F3 c8 c9 ⊢
    have M3' := M3
    obtain ⟨d0, d1, d2, d3, ⟨nx, fx, x1, x2, x3, x4⟩, d5⟩ := M3'
    have c7 : h3.2 (mo + 7) = oI 2664 w := (F3.2 _ (by omega)).trans a8
    obtain ⟨h4, e4, g4, F4⟩ := m_copyRow (o1 := 0) (o2 := 72 * st.length) x3 c7 (by omega) (by omega) (by omega) x2 (by omega) (F := F) (by omega)
    have e72 : (72 : Int32) * nI st.length = nI (72 * st.length) := pk_mul 72 _
    rw [M3.r11.1, bnd_s, M3.r11.2.1, bnd_s, e72, show (0 : Int32) = nI 0 from rfl, e4, bnd_s, nI_1]
    have fr4 : ∀ k, k ≠ mo + 7 → k ≠ mo + 8 → k ≠ mo + 9 → h4.2 k = h1.2 k := fun k q1 q2 q3 => (F4.2 k q1).trans (F3.2 k (by omega))
    refine ⟨h4, s, (c, K' c, K', P', n', Ls) :: st, K', P', rfl, ⟨V1, g, u, _, _, _, a0.fr ((fr4 _ (by omega) (by omega) (by omega)).trans a0.1) a0.2.1 (fr4 _ (by omega) (by omega) (by omega)) (fr4 _ (by omega) (by omega) (by omega)) (fr4 _ (by omega) (by omega) (by omega)) (fr4 _ (by omega) (by omega) (by omega)), a1, a2, a3, ⟨(fr4 _ (by omega) (by omega) (by omega)).trans a4, a5⟩, ⟨(fr4 _ (by omega) (by omega) (by omega)).trans a6, a7⟩, g4, (F4.2 _ (by omega)).trans c8, (F4.2 _ (by omega)).trans c9, ⟨pk_us, pk_us, fun e he => ?_, hw.1, fun d hd hk => ⟨hk, hEs d hd hk⟩, by show n' + st.length + 1 ≤ 36; omega, p1⟩, a11.x (fun i hi => pk_un (by omega)) (fun i hi => pk_un (by omega)) (fun i hi => by rw [if_neg (by omega)])⟩, f1.tr ((F3.sfm fun k hk => by omega).tr (F4.sfm fun k hk => by omega)), ?_, ?_, ?_, by omega⟩
    · obtain ⟨y1, y2⟩ := x4 e he
      show (if 72 * st.length ≤ 72 * st.length + e ∧ 72 * st.length + e < 72 * st.length + 72 then fx (0 + (72 * st.length + e - 72 * st.length)) else w (72 * st.length + e)) = _ ∧ (if 72 * st.length ≤ 72 * st.length + (36 + e) ∧ 72 * st.length + (36 + e) < 72 * st.length + 72 then fx (0 + (72 * st.length + (36 + e) - 72 * st.length)) else w (72 * st.length + (36 + e))) = _
      rw [if_pos (by omega), if_pos (by omega), show 0 + (72 * st.length + e - 72 * st.length) = e by omega, show 0 + (72 * st.length + (36 + e) - 72 * st.length) = 36 + e by omega]
      exact ⟨y1, y2⟩
    · subst hL; rfl
    · subst hL; rfl
    · show st.length + 1 ≤ 36
      omega
theorem cat6_0 {p : Nat → Bool} {L : Nat → EL} : ∀ k, (∀ d, isD d = true → d < k → p d = false) → cat6 p L k = [] := by
  intro k
  induction k with
  | zero => intro _; rfl
  | succ k ih =>
    intro h
    show cat6 p L k ++ (if isD k && p k then none :: L k else []) = []
    rw [ih fun d hd hk => h d hd (by omega)]
    cases q : isD k
    · rfl
    · rw [h k q (by omega)]; rfl
theorem cat6_low {p : Nat → Bool} {L : Nat → EL} (h : sz p ≠ 0) : cat6 p L 7 = none :: (L (lod p) ++ cat6 (fun e => p e && !decide (e = lod p)) L 7) := by
  obtain ⟨x1, x2, x3⟩ := lod_x h
  have x4 := isD_b x1
  have key : ∀ j, cat6 p L (lod p + 1 + j) = none :: (L (lod p) ++ cat6 (fun e => p e && !decide (e = lod p)) L (lod p + 1 + j)) := by
    intro j
    induction j with
    | zero =>
      show cat6 p L (lod p) ++ (if isD (lod p) && p (lod p) then none :: L (lod p) else []) = none :: (L (lod p) ++ (cat6 (fun e => p e && !decide (e = lod p)) L (lod p) ++ (if isD (lod p) && (p (lod p) && !decide (lod p = lod p)) then none :: L (lod p) else [])))
      rw [cat6_0 _ fun d hd hl => x3 d hd hl, cat6_0 (p := fun e => p e && !decide (e = lod p)) _ fun d hd hl => by simp [x3 d hd hl], x1, x2]
      simp
    | succ j ih =>
      show cat6 p L (lod p + 1 + j) ++ (if isD (lod p + 1 + j) && p (lod p + 1 + j) then none :: L (lod p + 1 + j) else []) = none :: (L (lod p) ++ (cat6 (fun e => p e && !decide (e = lod p)) L (lod p + 1 + j) ++ (if isD (lod p + 1 + j) && (p (lod p + 1 + j) && !decide (lod p + 1 + j = lod p)) then none :: L (lod p + 1 + j) else [])))
      rw [ih, decide_eq_false (show ¬ lod p + 1 + j = lod p by omega)]
      simp
  have := key (6 - lod p)
  rwa [show lod p + 1 + (6 - lod p) = 7 by omega] at this
