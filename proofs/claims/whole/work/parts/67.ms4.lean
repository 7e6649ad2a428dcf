/-! The reference's search: from guess to guess, the whole. -/
theorem XA_kpO {f : Nat → Int32} {K : Nat → Nat → Bool} {P : Nat → Bool} {c d : Nat} (hc : c < 36) (hd : isD d = true) (hk : K c d = true) (h : XA f K P) : XA (upd f c (nI (mkd fun e => decide (e = d)))) (kpO K c d) P := by
  intro a ha
  obtain ⟨x1, x2⟩ := h a ha
  refine ⟨?_, (pk_un (by omega)).trans x2⟩
  by_cases q : a = c
  · subst q
    rw [pk_us]
    congr 1
    apply mkd_ext
    intro e _
    unfold kpO
    by_cases w : e = d
    · subst w; simp [hk]
    · simp [w]
  · rw [pk_un q, x1]
    congr 1
    apply mkd_ext
    intro e _
    unfold kpO
    simp [q]
/-- the next guess: or the end -/
theorem m_pop {mo : Nat} {R : RT} {lim : Nat} (hl : lim ≤ 1000) {F : Nat} (hF : 3000 ≤ F) (m : Nat) : ∀ st n h s K P, SO h mo R s st K P → st.length ≤ 36 → s.1 ≤ lim → st.length + 1 ≤ n →
    (∃ h' st', f_Mo_solve_126 F (f_Mo_solve_35 F (m + 1)) n mo (nI lim) (nI st.length) h = some h' ∧ SO h' mo R s st' K P ∧ SFm mo h h' ∧ rrun lim (remS st) s = s) ∨
    ∃ h' st' n2 K2 P2 L2, f_Mo_solve_126 F (f_Mo_solve_35 F (m + 1)) n mo (nI lim) (nI st.length) h = f_Mo_solve_35 F (m + 1) mo (nI lim) (nI st'.length) 1 h' ∧ SO h' mo R (rgu s) st' K2 P2 ∧ SFm mo h h' ∧ PI K2 P2 ∧ Ev R n2 K2 P2 L2 ∧ n2 + st'.length ≤ 36 ∧ s.1 < lim ∧ remS st = none :: (L2 ++ remS st') := by
  intro st
  induction st with
  | nil =>
    intro n h s K P H _ hs hn
    left
    obtain ⟨n, rfl⟩ : ∃ m, n = m + 1 := ⟨n - 1, by omega⟩
    refine ⟨h, [], ?_, H, SFm.rf _ _, rfl⟩
    show f_Mo_solve_126 F (f_Mo_solve_35 F (m + 1)) (n + 1) mo (nI lim) (nI 0) h = _
    rw [f_Mo_solve_126, b_Mo_solve_126, if_pos (show nI 0 ≤ (0 : Int32) by decide), b_Mo_solve_147, if_pos (show nI 0 ≤ (0 : Int32) by decide), b_Mo_solve_163, b_Mo_solve_164, if_pos rfl, f_Mo_solve_35, b_Mo_solve_35, if_pos rfl]
  | cons e l ih =>
    intro n h s K P H hlen hs hn
    obtain ⟨n, rfl⟩ : ∃ m, n = m + 1 := ⟨n - 1, by omega⟩
    have hl1 : (e :: l).length = l.length + 1 := rfl
    have H0 := H
    obtain ⟨V, g, u, w, wc, ws, a0, a1, a2, a3, ⟨a4, a5⟩, ⟨a6, a7⟩, a8, a9, a10, ⟨⟨k1, k2, k3, k4, k5, k6, k7⟩, k8⟩⟩ := H
    obtain ⟨c, W, K2, P2, n2, Ls⟩ := e
    have em : nI ((c, W, K2, P2, n2, Ls) :: l).length - (1 : Int32) = nI l.length := pk_sub (a := l.length + 1) (b := 1) (by omega)
    have en : ¬ nI ((c, W, K2, P2, n2, Ls) :: l).length ≤ (0 : Int32) := nI_nle (n := l.length + 1) (by omega) (by omega)
    have hL : l.length < 37 := by omega
    rw [f_Mo_solve_126, b_Mo_solve_126, if_neg en, a0.r11.2.2.2, bnd_s, em, ar_I a10 hL (by omega), bnd_s, k2]
    by_cases q : sz W = 0
    · rw [if_pos (nmkd_z.mpr q)]
      have e1 : nI ((c, W, K2, P2, n2, Ls) :: l).length + (-1 : Int32) = nI l.length := pk_m1 l.length
      have hr : remS ((c, W, K2, P2, n2, Ls) :: l) = remS l := by
        show cat6 W Ls 7 ++ remS l = remS l
        rw [cat6_0 7 fun d hd _ => sz_0.mp q d hd]
        rfl
      rw [e1, hr]
      exact ih n h s K P ⟨V, g, u, w, wc, ws, a0, a1, a2, a3, ⟨a4, a5⟩, ⟨a6, a7⟩, a8, a9, a10, k8⟩ (by omega) hs (by omega)
    · rw [if_neg (fun z => q (nmkd_z.mp z)), b_Mo_solve_147, if_neg en, ob_I a0.1 (by omega) a1, bnd_s]
      by_cases hc : lim ≤ s.1
      · left
        refine ⟨h, _, ?_, H0, SFm.rf _ _, rrun_s hc _⟩
        rw [if_pos (show nI lim ≤ nI s.1 from nI_le (by omega) (by omega)), b_Mo_solve_163, b_Mo_solve_164, if_pos rfl, f_Mo_solve_35, b_Mo_solve_35, if_pos rfl]
      · right
        obtain ⟨x1, x2, x3⟩ := lod_x q
        obtain ⟨kk1, kk2⟩ := k5 (lod W) x1 x2
        rw [if_neg (show ¬ nI lim ≤ nI s.1 from nI_ge (by omega) (by omega)), b_Mo_solve_164, if_neg (by decide), a0.r11.2.2.2, bnd_s, em, ar_I a10 hL (by omega), bnd_s, k2, m_least W (by omega), bnd_s, bnd_s, mkd_1 x1]
        rw [ar_I a10 hL (by omega), bnd_s, k2, mkd_sub, ar_sI _ a10 hL (by omega), bnd_s]
        have b0 : (hset h (mo + 9) (oI 37 (upd ws l.length (nI (mkd fun d => W d && !decide (d = lod W)))))).2 mo = obj 10 28 V := (hset_n _ _ (by omega)).trans a0.1
        rw [ob_I b0 (by omega) a2, bnd_s, ob_P _ b0 (by omega), bnd_s, show nI s.2.1 + (1 : Int32) = nI (s.2.1 + 1) from nI_add _ 1]
        have F2 : SFm mo h (hset (hset h (mo + 9) (oI 37 (upd ws l.length (nI (mkd fun d => W d && !decide (d = lod W)))))) mo (obj 10 28 (updV V 18 (.int (nI (s.2.1 + 1)))))) := (Fr.sfm (((Fr.rf (fun k => k = mo + 9) h).sq _)) fun k hk => by omega).tr (sf_f b0 _ (by omega))
        have fr2 : ∀ k, k ≠ mo → k ≠ mo + 9 → (hset (hset h (mo + 9) (oI 37 (upd ws l.length (nI (mkd fun d => W d && !decide (d = lod W)))))) mo (obj 10 28 (updV V 18 (.int (nI (s.2.1 + 1)))))).2 k = h.2 k := fun k q1 q2 => (hset_n _ _ q1).trans (hset_n _ _ q2)
        have b0' : (hset (hset h (mo + 9) (oI 37 (upd ws l.length (nI (mkd fun d => W d && !decide (d = lod W)))))) mo (obj 10 28 (updV V 18 (.int (nI (s.2.1 + 1)))))).2 mo = obj 10 28 (updV V 18 (.int (nI (s.2.1 + 1)))) := hset_s _ _ _
        have b9' : (hset (hset h (mo + 9) (oI 37 (upd ws l.length (nI (mkd fun d => W d && !decide (d = lod W)))))) mo (obj 10 28 (updV V 18 (.int (nI (s.2.1 + 1)))))).2 (mo + 9) = oI 37 (upd ws l.length (nI (mkd fun d => W d && !decide (d = lod W)))) := (hset_n _ _ (by omega)).trans (hset_s _ _ _)
        generalize hset (hset h (mo + 9) (oI 37 (upd ws l.length (nI (mkd fun d => W d && !decide (d = lod W)))))) mo (obj 10 28 (updV V 18 (.int (nI (s.2.1 + 1))))) = h2 at F2 fr2 b0' b9' ⊢
        have hV2 : MV mo (updV V 18 (.int (nI (s.2.1 + 1)))) := a0.2.1.up _ rfl
        have M2 : MN h2 mo (mo + 6) (updV V 18 (.int (nI (s.2.1 + 1)))) R K P := a0.fr b0' hV2 (fr2 _ (by omega) (by omega)) (fr2 _ (by omega) (by omega)) (fr2 _ (by omega) (by omega)) (fr2 _ (by omega) (by omega))
        have M2' := M2
        obtain ⟨d0, d1, d2, d3, ⟨nx, fx, y1, y2, y3, y4⟩, d5⟩ := M2'
        have c7 : h2.2 (mo + 7) = oI 2664 w := (fr2 _ (by omega) (by omega)).trans a8
        obtain ⟨h3, e3, g3, F3⟩ := m_copyRow (o1 := 72 * l.length) (o2 := 0) c7 y3 (by omega) (by omega) (by omega) (by omega) y2 (F := F) (by omega)
        have e72 : (72 : Int32) * nI l.length = nI (72 * l.length) := pk_mul 72 _
        rw [M2.r11.2.1, bnd_s, M2.r11.1, bnd_s, e72, show (0 : Int32) = nI 0 from rfl, e3, bnd_s]
        have hX : XA (fun i => if 0 ≤ i ∧ i < 0 + 72 then w (72 * l.length + (i - 0)) else fx i) K2 P2 := fun a ha => by
          obtain ⟨z1, z2⟩ := k3 a ha
          show (if 0 ≤ a ∧ a < 0 + 72 then w (72 * l.length + (a - 0)) else fx a) = _ ∧ (if 0 ≤ 36 + a ∧ 36 + a < 0 + 72 then w (72 * l.length + (36 + a - 0)) else fx (36 + a)) = _
          rw [if_pos (by omega), if_pos (by omega)]
          exact ⟨z1, z2⟩
        have b3 : h3.2 mo = obj 10 28 (updV V 18 (.int (nI (s.2.1 + 1)))) := (F3.2 _ (by omega)).trans b0'
        have c8 : h3.2 (mo + 8) = oI 37 wc := (F3.2 _ (by omega)).trans ((fr2 _ (by omega) (by omega)).trans a9)
        rw [ob_R b3 (by omega) hV2.2.2.2.2.2.1, bnd_s, ob_R b3 (by omega) hV2.2.2.2.2.2.2.2.1, bnd_s, ar_I c8 hL (by omega), bnd_s, k1, ar_sI _ g3 (show c < nx by have : c < 36 := k4; omega) y2, bnd_s]
        have fr3 : ∀ k, k ≠ mo → k ≠ mo + 9 → k ≠ mo + 6 → (hset h3 (mo + 6) (oI nx (upd (fun i => if 0 ≤ i ∧ i < 0 + 72 then w (72 * l.length + (i - 0)) else fx i) c (nI (mkd fun e => decide (e = lod W)))))).2 k = h.2 k := fun k q1 q2 q3 => (hset_n _ _ q3).trans ((F3.2 _ q3).trans (fr2 k q1 q2))
        obtain ⟨t0, t1, t2, ⟨tf, t3, t4⟩, t5, ⟨t6, t7⟩, t8, t9⟩ := a0
        refine ⟨_, (c, (fun d => W d && !decide (d = lod W)), K2, P2, n2, Ls) :: l, n2, kpO K2 c (lod W), P2, Ls (lod W), rfl, ⟨updV V 18 (.int (nI (s.2.1 + 1))), g, u, w, wc, _, ⟨(hset_n _ _ (by omega)).trans b3, hV2, t2, ⟨tf, (fr3 _ (by omega) (by omega) (by omega)).trans t3, t4⟩, ⟨nx, _, y1, y2, hset_s _ _ _, XA_kpO k4 x1 kk1 hX⟩, ⟨t6, (fr3 _ (by omega) (by omega) (by omega)).trans t7⟩, t8, (fr3 _ (by omega) (by omega) (by omega)).trans t9⟩, (vu_n _ _ (by omega)).trans a1, vu_s _ _ _, fun z => (vu_n _ _ (by omega)).trans (a3 z), ⟨(fr3 _ (by omega) (by omega) (by omega)).trans a4, a5⟩, ⟨(fr3 _ (by omega) (by omega) (by omega)).trans a6, a7⟩, (fr3 _ (by omega) (by omega) (by omega)).trans a8, (fr3 _ (by omega) (by omega) (by omega)).trans a9, (hset_n _ _ (by omega)).trans ((F3.2 _ (by omega)).trans b9'), ⟨⟨k1, pk_us, k3, k4, fun d hd hw => k5 d hd (by rw [Bool.and_eq_true] at hw; exact hw.1), k6, k7⟩, k8.x (fun _ _ => rfl) (fun i hi => pk_un (by omega)) fun _ _ => rfl⟩⟩, F2.tr ((F3.sfm fun k hk => by omega).tr (Fr.sfm ((Fr.rf (fun k => k = mo + 6) h3).sq _) fun k hk => by omega)), k7.sub kpO_sub, kk2, ?_, by omega, ?_⟩
        · have : n2 + l.length + 1 ≤ 36 := k6
          show n2 + (l.length + 1) ≤ 36
          omega
        · show cat6 W Ls 7 ++ remS l = _
          rw [cat6_low q]
          show none :: (_ ++ remS l) = none :: (Ls (lod W) ++ (cat6 (fun d => W d && !decide (d = lod W)) Ls 7 ++ remS l))
          rw [List.append_assoc]
theorem m_run {mo : Nat} {R : RT} (hR : ROK R) {lim : Nat} (hl : lim ≤ 1000) {F : Nat} (hF : 3000 ≤ F) : ∀ m h s st K P n L, SO h mo R s st K P → PI K P → Ev R n K P L → n + st.length ≤ 36 → s.1 < lim → ngu (L ++ remS st) + 2 ≤ m →
    ∃ h' st' K' P', f_Mo_solve_35 F m mo (nI lim) (nI st.length) 1 h = some h' ∧ SO h' mo R (rrun lim (L ++ remS st) s) st' K' P' ∧ SFm mo h h' := by
  intro m
  induction m with
  | zero => intro h s st K P n L _ _ _ _ _ hm; omega
  | succ m ih =>
    intro h s st K P n L H hp hE hn hs hm
    obtain ⟨m, rfl⟩ : ∃ k, m = k + 1 := ⟨m - 1, by omega⟩
    obtain ⟨h1, s1, st1, K1, P1, e1, H1, f1, r1, u1, l1, c1⟩ := m_node H hR hp hE hn hl hs hF (f_Mo_solve_35 F (m + 1))
    rw [f_Mo_solve_35, b_Mo_solve_35, if_neg (by decide), e1, r1]
    rcases m_pop hl hF m st1 F h1 s1 K1 P1 H1 l1 c1 (by omega) with ⟨h2, st2, e2, H2, f2, r2⟩ | ⟨h2, st2, n2, K2, P2, L2, e2, H2, f2, p2, E2, n2', c2, r2⟩
    · exact ⟨h2, st2, K1, P1, e2, by rw [r2]; exact H2, f1.tr f2⟩
    · have hg : ngu (L2 ++ remS st2) + 1 = ngu (L ++ remS st) := by rw [← u1, r2]; rfl
      obtain ⟨h3, st3, K3, P3, e3, H3, f3⟩ := ih h2 (rgu s1) st2 K2 P2 n2 L2 H2 p2 E2 n2' c2 (by omega)
      refine ⟨h3, st3, K3, P3, e2.trans e3, ?_, f1.tr (f2.tr f3)⟩
      rw [r2]
      show SO h3 mo R (if lim ≤ s1.1 then s1 else rrun lim (L2 ++ remS st2) (rgu s1)) st3 K3 P3
      rw [if_neg (by omega)]
      exact H3
/-- the rows of the search, whatever they hold -/
def SOsh (h : PH) (mo : Nat) (R : RT) (K : Nat → Nat → Bool) (P : Nat → Bool) : Prop :=
  ∃ V g u w wc ws, MN h mo (mo + 6) V R K P ∧ h.2 (mo + 10) = oI 36 g ∧ h.2 (mo + 11) = oI 36 u ∧ h.2 (mo + 7) = oI 2664 w ∧ h.2 (mo + 8) = oI 37 wc ∧ h.2 (mo + 9) = oI 37 ws
theorem SO.sh {h : PH} {mo : Nat} {R : RT} {s : RS} {st : List EN} {K : Nat → Nat → Bool} {P : Nat → Bool} (H : SO h mo R s st K P) : SOsh h mo R K P := by
  obtain ⟨V, g, u, w, wc, ws, a0, a1, a2, a3, ⟨a4, a5⟩, ⟨a6, a7⟩, a8, a9, a10, _⟩ := H
  exact ⟨V, g, u, w, wc, ws, a0, a4, a6, a8, a9, a10⟩
def rs0 : RS := (0, 0, 0, fun _ => 0, fun _ _ => false)
theorem m_solve {h : PH} {mo : Nat} {R : RT} {K : Nat → Nat → Bool} {P : Nat → Bool} (H : SOsh h mo R K P) (hR : ROK R) (hp : PI K P) {L : EL} (hE : Ev R 36 K P L) {lim : Nat} (hl : lim ≤ 1000) (h1 : 1 ≤ lim) {F : Nat} (hF : 3000 + nB 36 ≤ F) :
    ∃ h' st' K' P', f_Mo_solve F mo (nI lim) h = some h' ∧ SO h' mo R (rrun lim L rs0) st' K' P' ∧ SFm mo h h' := by
  obtain ⟨V, g, u, w, wc, ws, a0, a4, a6, a8, a9, a10⟩ := H
  have hng := (Ev_p hR 36 K P L hp hE).2.2.2
  unfold f_Mo_solve
  rw [ob_P _ a0.1 (by omega), bnd_s, ob_P _ (hset_s _ _ _) (by omega), bnd_s]
  have F1 : SFm mo h (hset (hset h mo (obj 10 28 (updV V 17 (.int 0)))) mo (obj 10 28 (updV (updV V 17 (.int 0)) 18 (.int 0)))) := (sf_f a0.1 _ (by omega)).tr (sf_f (hset_s _ _ _) _ (by omega))
  have fr1 : ∀ k, k ≠ mo → (hset (hset h mo (obj 10 28 (updV V 17 (.int 0)))) mo (obj 10 28 (updV (updV V 17 (.int 0)) 18 (.int 0)))).2 k = h.2 k := fun k q => (hset_n _ _ q).trans (hset_n _ _ q)
  have b0 : (hset (hset h mo (obj 10 28 (updV V 17 (.int 0)))) mo (obj 10 28 (updV (updV V 17 (.int 0)) 18 (.int 0)))).2 mo = obj 10 28 (updV (updV V 17 (.int 0)) 18 (.int 0)) := hset_s _ _ _
  generalize hset (hset h mo (obj 10 28 (updV V 17 (.int 0)))) mo (obj 10 28 (updV (updV V 17 (.int 0)) 18 (.int 0))) = h2 at F1 fr1 b0 ⊢
  have hV2 : MV mo (updV (updV V 17 (.int 0)) 18 (.int 0)) := (a0.2.1.up _ rfl).up _ rfl
  obtain ⟨s, ⟨u', i1, i2, i3⟩, e1⟩ := LC (fun n i s => f_Mo_solve_12 F n mo (nI lim) (nI i) s) (fun i s => ∃ u', s.2 (mo + 11) = oI 36 u' ∧ Fr (fun k => k = mo + 11) h2 s ∧ ∀ c, c < i → u' c = 0) 36
    (fun n i s hi ⟨u', i1, i2, i3⟩ => by
      refine ⟨hset s (mo + 11) (oI 36 (upd u' i 0)), ⟨_, hset_s _ _ _, i2.sq _, fun c hc => ?_⟩, ?_⟩
      · by_cases q : c = i
        · subst q; exact pk_us
        · rw [pk_un q]; exact i3 c (by omega)
      · show f_Mo_solve_12 F (n + 1) mo (nI lim) (nI i) s = _
        rw [f_Mo_solve_12, b_Mo_solve_12, if_neg (show ¬ (36 : Int32) ≤ nI i from nI_ge (a := (i)) (b := 36) (by omega) (by omega)), ob_R ((i2.2 _ (by omega)).trans b0) (by omega) hV2.2.2.2.2.2.2.2.2.2.2.1, bnd_s, ar_sI _ i1 hi (by omega), bnd_s, nI_1]) 36 0 h2 F rfl (by omega) ⟨u, (fr1 _ (by omega)).trans a6, Fr.rf _ _, fun c hc => by omega⟩
  obtain ⟨m, hm⟩ : ∃ m, F - 36 = m + 1 := ⟨F - 37, by omega⟩
  have fr3 : ∀ k, k ≠ mo → k ≠ mo + 11 → s.2 k = h.2 k := fun k q1 q2 => (i2.2 k q2).trans (fr1 k q1)
  have S0 : SO s mo R rs0 [] K P := ⟨updV (updV V 17 (.int 0)) 18 (.int 0), g, u', w, wc, ws, a0.fr ((i2.2 _ (by omega)).trans b0) hV2 (fr3 _ (by omega) (by omega)) (fr3 _ (by omega) (by omega)) (fr3 _ (by omega) (by omega)) (fr3 _ (by omega) (by omega)), (vu_n _ _ (by omega)).trans (vu_s _ _ _), vu_s _ _ _, fun z => absurd rfl z, ⟨(fr3 _ (by omega) (by omega)).trans a4, fun z => absurd rfl z⟩, ⟨i1, fun c hc => (i3 c hc).trans rfl⟩, (fr3 _ (by omega) (by omega)).trans a8, (fr3 _ (by omega) (by omega)).trans a9, (fr3 _ (by omega) (by omega)).trans a10, trivial⟩
  have hL : L ++ remS [] = L := List.append_nil L
  obtain ⟨h3, st3, K3, P3, e3, H3, f3⟩ := m_run hR hl (F := F) (by omega) F s rs0 [] K P 36 L S0 hp hE (Nat.le_refl 36) h1 (by rw [hL]; omega)
  rw [hL] at H3
  refine ⟨h3, st3, K3, P3, ?_, H3, F1.tr ((i2.sfm fun k hk => by omega).tr f3)⟩
  refine Eq.trans e1 ?_
  show f_Mo_solve_12 F (F - 36) mo (nI lim) (nI 36) s = _
  rw [hm, f_Mo_solve_12, b_Mo_solve_12, if_pos (show (36 : Int32) ≤ nI 36 from nI_le (a := 36) (b := 36) (by omega) (by omega))]
  exact e3
