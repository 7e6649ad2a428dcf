/-! The reference's reader: the whole, parse. -/
theorem m_rules {h0 : PH} {mo : Nat} {V0 : Nat → Value} {tl : Nat} {tx : Nat → Int32} (C : CXt h0 mo V0 tl tx) {F : Nat} (hF : 3000 ≤ F) {g : Nat → Int32} : ∀ m n R p h f, m + rn R = 9 → m + 1 ≤ n → MPs h0 mo V0 h p (rn R) f g → p ≤ tl → DRu f R → ROK R →
    ∃ v h', f_Mo_readAll_82 F n mo h = some (v, h') ∧ match rulR tl tx m R p with
      | .inl q => ∃ d' f', v = 0 ∧ MPs h0 mo V0 h' q d' f' g
      | .inr R' => ∃ p' f', v = 1 ∧ MPs h0 mo V0 h' p' (rn R') f' g ∧ DRu f' R' ∧ ROK R' := by
  have htl := C.2.2.1
  intro m
  induction m with
  | zero =>
    intro n R p h f hm hn H hp hf hR
    have := hR.1
    omega
  | succ m ih =>
    intro n R p h f hm hn H hp hf hR
    obtain ⟨n, rfl⟩ : ∃ k, n = k + 1 := ⟨n - 1, by omega⟩
    have h8 := hR.1
    obtain ⟨r1, r2, r3, r4, r5, r6, r7⟩ := H.r C
    show ∃ v : Int32, ∃ h', _ ∧ match (if tl ≤ p then .inr R else (match conR tl tx R p with
      | .inl f => .inl f
      | .inr y => rulR tl tx m y.1 y.2) : Nat ⊕ RT) with
      | .inl q => ∃ d' f', v = 0 ∧ MPs h0 mo V0 h' q d' f' g
      | .inr R' => ∃ p' f', v = 1 ∧ MPs h0 mo V0 h' p' (rn R') f' g ∧ DRu f' R' ∧ ROK R'
    rw [f_Mo_readAll_82, b_Mo_readAll_82, r2, bnd_s, r4, bnd_s]
    by_cases w : tl ≤ p
    · rw [if_pos (show nI tl ≤ nI p from nI_le w (by omega)), if_pos w]
      exact ⟨1, h, rfl, p, f, rfl, H, hf, hR⟩
    rw [if_neg (show ¬ nI tl ≤ nI p from nI_ge (by omega) (by omega)), if_neg w, r1, bnd_s]
    obtain ⟨h1, p1, H1⟩ := m_pass H C (by omega) (59 : Int32)
    rw [p1, bnd2_s]
    by_cases w59 : hr tl tx p = 59
    rotate_left
    · rw [if_neg w59] at H1
      have hc : conR tl tx R p = .inl p := by unfold conR; rw [if_neg w59]
      rw [if_neg w59, if_pos rfl, hc]
      exact ⟨0, h1, rfl, _, f, rfl, H1⟩
    rw [if_pos w59] at H1
    rw [if_pos w59, if_neg (by decide), (H1.r C).1, bnd_s]
    obtain ⟨v, h2, e2, E2⟩ := m_rcon C hF H1 (by omega) hf hR w59
    rw [e2, bnd2_s]
    cases hc : conR tl tx R p with
    | inl q =>
      rw [hc] at E2
      obtain ⟨d', f', E3, rfl | ⟨rfl, q1, q2⟩⟩ := E2
      · rw [if_pos rfl]
        exact ⟨0, h2, rfl, d', f', rfl, E3⟩
      · rw [if_neg (by decide)]
        obtain ⟨n, rfl⟩ : ∃ k, n = k + 1 := ⟨n - 1, by omega⟩
        obtain ⟨t1, t2, t3, t4, t5, t6, t7⟩ := E3.r C
        obtain ⟨h3, p3, H3⟩ := m_pass E3 C (by omega) (59 : Int32)
        rw [if_neg q2] at p3 H3
        refine ⟨0, h3, ?_, d', f', rfl, H3⟩
        rw [f_Mo_readAll_82, b_Mo_readAll_82, t2, bnd_s, t4, bnd_s, if_neg (show ¬ nI tl ≤ nI q from nI_ge (by omega) (by omega)), t1, bnd_s, p3, bnd2_s, if_pos rfl]
    | inr y =>
      rw [hc] at E2
      obtain ⟨f', rfl, E3, E4, E5, E6, E7⟩ := E2
      rw [if_neg (by decide)]
      exact ih n y.1 y.2 h2 f' (by omega) (by omega) (by rw [E6]; exact E3) E7 E4 E5
theorem m_gok (v : Int32) : f_Mo_in v (49 : Int32) (54 : Int32) = some (if (¬ v < 49 ∧ ¬ 54 < v) then 1 else 0) := by
  unfold f_Mo_in
  by_cases q1 : v < 49
  · rw [if_pos q1, if_neg (fun z => z.1 q1)]
  · rw [if_neg q1]
    by_cases q2 : 54 < v
    · rw [if_pos q2, if_neg (fun z => z.2 q2)]
    · rw [if_neg q2, if_pos ⟨q1, q2⟩]
theorem m_readAll {h0 : PH} {mo : Nat} {V0 : Nat → Value} {tl : Nat} {tx : Nat → Int32} (C : CXt h0 mo V0 tl tx) {F : Nat} (hF : 3000 ≤ F) : ∀ m n i h f g, m + i = 36 → m + 1 ≤ n → MPs h0 mo V0 h i 0 f g → (∀ c, c < i → g c = nI (gdv (hr tl tx c))) → (i = 36 → 36 ≤ tl) →
    ∃ v h', f_Mo_readAll_12 F n mo (nI i) h = some (v, h') ∧ match givR tl tx m i with
      | some q => ∃ d' f' g', v = 0 ∧ MPs h0 mo V0 h' q d' f' g'
      | none => match rulR tl tx 9 R0 36 with
        | .inl q => ∃ d' f' g', v = 0 ∧ MPs h0 mo V0 h' q d' f' g'
        | .inr R' => ∃ p' f' g', v = 1 ∧ MPs h0 mo V0 h' p' (rn R') f' g' ∧ DRu f' R' ∧ ROK R' ∧ ∀ c, c < 36 → g' c = nI (gdv (hr tl tx c)) := by
  intro m
  induction m with
  | zero =>
    intro n i h f g hm hn H hg h36
    obtain ⟨n, rfl⟩ : ∃ k, n = k + 1 := ⟨n - 1, by omega⟩
    have hi : i = 36 := by omega
    subst hi
    obtain ⟨v, h', e1, e2⟩ := m_rules C hF (g := g) 9 F R0 36 h f rfl (by omega) H (h36 rfl) (fun k hk => absurd hk (Nat.not_lt_zero k)) R0_ok
    refine ⟨v, h', by rw [f_Mo_readAll_12, b_Mo_readAll_12, if_pos (show (36 : Int32) ≤ nI 36 from nI_le (a := 36) (b := 36) (by omega) (by omega)), e1], ?_⟩
    show match rulR tl tx 9 R0 36 with
        | .inl q => ∃ d' f' g', v = 0 ∧ MPs h0 mo V0 h' q d' f' g'
        | .inr R' => ∃ p' f' g', v = 1 ∧ MPs h0 mo V0 h' p' (rn R') f' g' ∧ DRu f' R' ∧ ROK R' ∧ ∀ c, c < 36 → g' c = nI (gdv (hr tl tx c))
    cases hr9 : rulR tl tx 9 R0 36 with
    | inl q =>
      rw [hr9] at e2
      obtain ⟨d', f', y1, y2⟩ := e2
      exact ⟨d', f', g, y1, y2⟩
    | inr R' =>
      rw [hr9] at e2
      obtain ⟨p', f', y1, y2, y3, y4⟩ := e2
      exact ⟨p', f', g, y1, y2, y3, y4, hg⟩
  | succ m ih =>
    intro n i h f g hm hn H hg h36
    obtain ⟨n, rfl⟩ : ∃ k, n = k + 1 := ⟨n - 1, by omega⟩
    obtain ⟨r1, r2, r3, r4, r5, r6, r7⟩ := H.r C
    show ∃ v : Int32, ∃ h', _ ∧ match (if gok (hr tl tx i) then givR tl tx m (i + 1) else some i) with
      | some q => ∃ d' f' g', v = 0 ∧ MPs h0 mo V0 h' q d' f' g'
      | none => match rulR tl tx 9 R0 36 with
        | .inl q => ∃ d' f' g', v = 0 ∧ MPs h0 mo V0 h' q d' f' g'
        | .inr R' => ∃ p' f' g', v = 1 ∧ MPs h0 mo V0 h' p' (rn R') f' g' ∧ DRu f' R' ∧ ROK R' ∧ ∀ c, c < 36 → g' c = nI (gdv (hr tl tx c))
    have h65 : gok (hr tl tx i) = true → ∃ s, b_Mo_readAll_65 F (f_Mo_readAll_12 F n) mo (nI i) (nI (gdv (hr tl tx i))) (nI i) (mo + 14) h = f_Mo_readAll_12 F n mo (nI (i + 1)) s ∧ MPs h0 mo V0 s (i + 1) 0 f (upd g i (nI (gdv (hr tl tx i)))) := by
      intro _
      obtain ⟨s1, p1, S1⟩ := H.gi (i := i) (by omega) (nI (gdv (hr tl tx i)))
      obtain ⟨s2, p2, S2, _⟩ := S1.at (i + 1) (by omega)
      exact ⟨s2, by rw [b_Mo_readAll_65, p1, bnd_s, (S1.r C).2.1, bnd_s, nI_1, p2, bnd_s], S2⟩
    rw [f_Mo_readAll_12, b_Mo_readAll_12, if_neg (show ¬ (36 : Int32) ≤ nI i from nI_ge (a := (i)) (b := 36) (by omega) (by omega)), r1, bnd_s, r7, bnd_s, m_gok, bnd_s]
    have go : gok (hr tl tx i) = true → ∃ s, MPs h0 mo V0 s (i + 1) 0 f (upd g i (nI (gdv (hr tl tx i)))) ∧ (if (if (¬ hr tl tx i < 49 ∧ ¬ 54 < hr tl tx i) then (1 : Int32) else 0) = (0 : Int32) then (bnd (some ()) fun _ => bnd (some (hr tl tx i)) fun x5 => (if x5 = (46 : Int32) then b_Mo_readAll_45 F (f_Mo_readAll_12 F n) mo (nI i) (if (¬ hr tl tx i < 49 ∧ ¬ 54 < hr tl tx i) then (1 : Int32) else 0) h else some ((0 : Int32), h))) else b_Mo_readAll_45 F (f_Mo_readAll_12 F n) mo (nI i) (if (¬ hr tl tx i < 49 ∧ ¬ 54 < hr tl tx i) then (1 : Int32) else 0) h) = f_Mo_readAll_12 F n mo (nI (i + 1)) s := by
      intro hgo
      obtain ⟨s, e1, S⟩ := h65 hgo
      refine ⟨s, S, ?_⟩
      by_cases w46 : hr tl tx i = 46
      · have hn : ¬ (¬ hr tl tx i < 49 ∧ ¬ 54 < hr tl tx i) := fun z => z.1 (by rw [w46]; decide)
        have hz : nI (gdv (hr tl tx i)) = 0 := by rw [w46]; rfl
        rw [if_neg hn, if_pos rfl, bnd_s, bnd_s, if_pos w46, b_Mo_readAll_45, r6, bnd_s, if_pos rfl, ← e1, hz]
      · obtain ⟨a1, a2, a3, a4⟩ := gok_e hgo w46
        have hy : (¬ hr tl tx i < 49 ∧ ¬ 54 < hr tl tx i) := ⟨a1, a2⟩
        rw [if_pos hy, if_neg (show ¬ (1 : Int32) = 0 by decide), b_Mo_readAll_45, r6, bnd_s, if_neg (show ¬ (1 : Int32) = 0 by decide), r1, bnd_s, r7, bnd_s, a3, e1]
    cases hgo : gok (hr tl tx i)
    · rw [if_neg (show ¬ false = true by decide)]
      have h46 : hr tl tx i ≠ 46 := fun z => by rw [z] at hgo; cases hgo
      have hn : ¬ (¬ hr tl tx i < 49 ∧ ¬ 54 < hr tl tx i) := fun z => by
        have : gok (hr tl tx i) = true := by
          unfold gok
          rw [Bool.or_eq_true]
          exact Or.inr (decide_eq_true z)
        rw [this] at hgo
        cases hgo
      rw [if_neg hn, if_pos rfl, bnd_s, bnd_s, if_neg h46]
      exact ⟨0, h, rfl, 0, f, g, rfl, H⟩
    · obtain ⟨s, S, e⟩ := go hgo
      rw [if_pos (show true = true from rfl)]
      have hit := hr_gok hgo
      obtain ⟨v, h', y1, y2⟩ := ih n (i + 1) s f _ (by omega) (by omega) S (fun c hc => by
        by_cases q : c = i
        · subst q; exact pk_us
        · rw [pk_un q]; exact hg c (by omega)) (by omega)
      exact ⟨v, h', e.trans y1, y2⟩
theorem m_parse {h : PH} {mo : Nat} {x : ST} {m : Nat} {sv : Nat → ST} {tl : Nat} {tx : Nat → Int32} {t : Int32} (H : MW h mo x m sv tl tx t) (hv : VAL x) (hs : ∀ i, i < m → VAL (sv i)) {F : Nat} (hF : 3000 ≤ F) :
    ∃ v h', f_Mo_parse F mo h = some (v, h') ∧ Fr (DM mo) h h' ∧ match parR tl tx with
      | .inl f => v = (-10 : Int32) - nI f ∧ MW h' mo x m sv tl tx 0
      | .inr y => v = nI (gct y.2) ∧ MW h' mo (neT y (tE x)) (svN m) (svS m sv x) tl tx 0 := by
  obtain ⟨h1, p1, H1, f1⟩ := H.t 0
  obtain ⟨⟨V, a0, a1, a2, a3, a4⟩, ⟨b1, b2⟩, _, _, ⟨ta, e1, e2⟩, q⟩ := id H1
  have C : CXt h1 mo V tl tx := ⟨a1, a3, b2, ta, e1, e2⟩
  obtain ⟨f13, z13⟩ := (q 13 (by omega) (by omega)).g (by omega)
  obtain ⟨g14, z14⟩ := (q 14 (by omega) (by omega)).g (by omega)
  obtain ⟨h2, p2, g2, r2⟩ := puti (k := 22) (.int (nI 0)) a0 (by omega)
  obtain ⟨h3, p3, g3, r3⟩ := puti (k := 26) (.int (nI 0)) g2 (by omega)
  have M3 : MPs h1 mo V h3 0 0 f13 g14 := ⟨_, g3, fun k k1 k2 k3 => (vu_n _ _ k3).trans (vu_n _ _ k1), (vu_n _ _ (by omega)).trans (vu_s _ _ _), vu_s _ _ _, by omega, by omega, (r3.2 _ (by omega)).trans ((r2.2 _ (by omega)).trans z13), (r3.2 _ (by omega)).trans ((r2.2 _ (by omega)).trans z14), (r2.mo fun k hk => Or.inl hk).tr (r3.mo fun k hk => Or.inl hk)⟩
  obtain ⟨v, h4, p4, o4⟩ := m_readAll C hF 36 F 0 h3 f13 g14 rfl (by omega) M3 (fun c hc => absurd hc (Nat.not_lt_zero c)) (by omega)
  have back : ∀ s p d f g, MPs h1 mo V s p d f g → MW s mo x m sv tl tx 0 ∧ Fr (DM mo) h1 s := by
    rintro s p d f g ⟨V', c0, c1, c2, c3, c4, c5, c6, c7, fr⟩
    refine ⟨H1.sv a0 c0 (fun k hk hf => c1 k ?_ ?_ ?_) (fun k h1 h2 => fr.2 k (by omega)) (fun j h1 h2 => ?_), fr.mo fun k hk => by simp only [DM]; omega⟩
    · rintro rfl; rcases hf with hf | hf | hf | hf
      · cases hf
      all_goals omega
    · rintro rfl; rcases hf with hf | hf | hf | hf
      · cases hf
      all_goals omega
    · rintro rfl; rcases hf with hf | hf | hf | hf
      · cases hf
      all_goals omega
    · by_cases w : j = 13
      · subst w; exact mx_s ⟨f, c6⟩
      by_cases w : j = 14
      · subst w; exact mx_s ⟨g, c7⟩
      exact (q j h1 h2).fr (fr.2 _ (by omega))
  have pre : f_Mo_parse F mo h = (if v = (0 : Int32) then bnd (gI h4 mo 10 22) fun x9 => some (((-10 : Int32) - x9), h4) else bnd (cK h4 mo 10) fun _ => bnd (f_Mo_change F mo h4) fun h6 => bnd (cK h6 mo 10) fun _ => bnd (f_Mo_clear F mo h6) fun h8 => f_Mo_parse_30 F F mo (0 : Int32) h8) := by
    unfold f_Mo_parse f_Mo_readAll
    rw [p1, bnd_s, H1.r.1, bnd_s]
    rw [show pV h1 mo 10 22 (.int (0 : Int32)) = some h2 from p2, bnd_s, show pV h2 mo 10 26 (.int (0 : Int32)) = some h3 from p3, bnd_s, show f_Mo_readAll_12 F F mo (0 : Int32) h3 = some (v, h4) from p4, bnd2_s]
  have bad : ∀ qq d' f' g', v = 0 → MPs h1 mo V h4 qq d' f' g' → ∃ v h', f_Mo_parse F mo h = some (v, h') ∧ Fr (DM mo) h h' ∧ v = (-10 : Int32) - nI qq ∧ MW h' mo x m sv tl tx 0 := by
    intro qq d' f' g' hv0 M4
    obtain ⟨H4, f4⟩ := back _ _ _ _ _ M4
    refine ⟨_, h4, ?_, (DM.mo' f1).tr f4, rfl, H4⟩
    rw [pre, if_pos hv0, (M4.r C).2.1, bnd_s]
  unfold parR
  cases hgv : givR tl tx 36 0 with
  | some qq =>
    rw [hgv] at o4
    obtain ⟨d', f', g', y1, y2⟩ := o4
    exact bad qq d' f' g' y1 y2
  | none =>
    rw [hgv] at o4
    cases hr9 : rulR tl tx 9 R0 36 with
    | inl qq =>
      have o5 : match rulR tl tx 9 R0 36 with
        | .inl q => ∃ d' f' g', v = 0 ∧ MPs h1 mo V h4 q d' f' g'
        | .inr R' => ∃ p' f' g', v = 1 ∧ MPs h1 mo V h4 p' (rn R') f' g' ∧ DRu f' R' ∧ ROK R' ∧ ∀ c, c < 36 → g' c = nI (gdv (hr tl tx c)) := o4
      rw [hr9] at o5
      obtain ⟨d', f', g', y1, y2⟩ := o5
      exact bad qq d' f' g' y1 y2
    | inr R =>
      have o5 : match rulR tl tx 9 R0 36 with
        | .inl q => ∃ d' f' g', v = 0 ∧ MPs h1 mo V h4 q d' f' g'
        | .inr R' => ∃ p' f' g', v = 1 ∧ MPs h1 mo V h4 p' (rn R') f' g' ∧ DRu f' R' ∧ ROK R' ∧ ∀ c, c < 36 → g' c = nI (gdv (hr tl tx c)) := o4
      rw [hr9] at o5
      obtain ⟨p', fd, gd, y1, M4, y3, y4, y5⟩ := o5
      obtain ⟨H4, f4⟩ := back _ _ _ _ _ M4
      have h8 := y4.1
      obtain ⟨h5, p5, H5, f5, n5⟩ := m_change' H4 hv hs hF
      obtain ⟨h6, p6, H6, f6⟩ := m_clear H5 hF
      have H6' : MW h6 mo (x0 (tE x)) (svN m) (svS m sv x) tl tx 0 := H6
      have n6 : gI h6 mo 10 26 = some (nI (rn R)) := by
        have := n5 _ (M4.r C).2.2.1
        unfold gI gV at this ⊢
        rw [f6.2 mo (by omega)]
        exact this
      obtain ⟨Vm, m0, _, _, _, _, _, m13, m14, _⟩ := M4
      have e13 : h6.2 (mo + 13) = oI 72 fd := (f6.2 _ (by omega)).trans ((f5.2 _ (by omega)).trans m13)
      have e14 : h6.2 (mo + 14) = oI 36 gd := (f6.2 _ (by omega)).trans ((f5.2 _ (by omega)).trans m14)
      obtain ⟨s, ⟨G, j1, j2, j3⟩, el⟩ := LC (fun n i s => f_Mo_parse_30 F n mo (nI i) s) (fun i s => ∃ G, MW s mo (xG (x0 (tE x)) G) (svN m) (svS m sv x) tl tx 0 ∧ Fr (fun k => k = mo + 1) h6 s ∧ ∀ c, c < 36 → G c = if c < i then gdv (hr tl tx c) else 0) 36
        (fun n i s hi ⟨G, j1, j2, j3⟩ => by
          obtain ⟨f, c1, c2⟩ := j1.2.2.1
          obtain ⟨s2, t1, t2, t3⟩ := sti (i := 72 + i) (nI (gdv (hr tl tx i))) c1 (by omega) (by omega)
          refine ⟨s2, ⟨_, j1.row t3 t2 (c2.g hi _), j2.tr t3, fun c hc => ?_⟩, ?_⟩
          · show (if c = i then gdv (hr tl tx i) else G c) = _
            by_cases w : c = i
            · rw [if_pos w, if_pos (by omega), w]
            · rw [if_neg w, j3 c hc]
              by_cases z : c < i
              · rw [if_pos z, if_pos (by omega)]
              · rw [if_neg z, if_neg (by omega)]
          · show f_Mo_parse_30 F (n + 1) mo (nI i) s = _
            rw [f_Mo_parse_30, b_Mo_parse_30, if_neg (show ¬ (36 : Int32) ≤ nI i from nI_ge (a := (i)) (b := 36) (by omega) (by omega)), j1.r.2.1, bnd_s, j1.r.2.2.2.2.2.2.2.2.2.1, bnd_s, ar_I ((j2.2 _ (by omega)).trans e14) hi (by omega), bnd_s, y5 i hi, show (72 : Int32) + nI i = nI (72 + i) from nI_add 72 i, t1, bnd_s, nI_1]) 36 0 h6 F rfl (by omega) ⟨fun _ => 0, H6', Fr.rf _ _, fun c hc => by rw [if_neg (by omega)]⟩
      have hG : ∀ c, c < 36 → G c = gdv (hr tl tx c) := fun c hc => by rw [j3 c hc, if_pos hc]
      obtain ⟨f0, c1, c2⟩ := j1.2.2.1
      obtain ⟨s1, t1, t2, t3⟩ := sti (i := 108) (nI (rn R)) c1 (by omega) (by omega)
      have fr1 : Fr (fun k => k = mo + 1) h6 s1 := j2.tr t3
      have n1 : ∀ s', Fr (fun k => k = mo + 1) h6 s' → gI s' mo 10 26 = some (nI (rn R)) ∧ gR s' mo 10 24 = some (mo + 13) ∧ gR s' mo 10 0 = some (mo + 1) ∧ cK s' mo 10 = some () := fun s' fr => by
        refine ⟨?_, ?_, ?_, ?_⟩
        · have := n6
          unfold gI gV at this ⊢
          rw [fr.2 mo (by omega)]
          exact this
        · have := H6.r.2.2.2.2.2.2.2.2.1
          unfold gR gV at this ⊢
          rw [fr.2 mo (by omega)]
          exact this
        · have := H6.r.2.1
          unfold gR gV at this ⊢
          rw [fr.2 mo (by omega)]
          exact this
        · have := H6.r.1
          unfold cK at this ⊢
          rw [fr.2 mo (by omega)]
          exact this
      obtain ⟨s2, ⟨f2, u1, u2, u3, u4⟩, el2⟩ := LC (fun n k s => f_Mo_parse_70 F n mo (nI k) s) (fun k s => ∃ f2, s.2 (mo + 1) = oI 482 f2 ∧ (∀ j, j < 109 ∨ 181 ≤ j → f2 j = upd f0 108 (nI (rn R)) j) ∧ (∀ k', k' < k → ∀ i, i < 3 + rl R k' → f2 (109 + 9 * k' + i) = fd (9 * k' + i)) ∧ Fr (fun k => k = mo + 1) h6 s) (rn R)
        (fun n k s hk ⟨f2, u1, u2, u3, u4⟩ => by
          have hl := (y4.2 k hk).2.1
          have hmx := mxl_le (rk R k)
          obtain ⟨n26, n24, n0, nck⟩ := n1 s u4
          obtain ⟨z1, z2, z3, z4⟩ := y3 k hk
          obtain ⟨s3, ⟨f3, v1, v2, v3, v4, v5⟩, el3⟩ := LC (fun n' i s => f_Mo_parse_80 F (f_Mo_parse_70 F n) n' mo (nI k) (nI i) s) (fun i s => ∃ f3, s.2 (mo + 1) = oI 482 f3 ∧ (∀ j, j < 109 ∨ 181 ≤ j → f3 j = upd f0 108 (nI (rn R)) j) ∧ (∀ k', k' < k → ∀ i, i < 3 + rl R k' → f3 (109 + 9 * k' + i) = fd (9 * k' + i)) ∧ (∀ j, j < i → f3 (109 + 9 * k + j) = fd (9 * k + j)) ∧ Fr (fun k => k = mo + 1) h6 s) (3 + rl R k)
            (fun n' i s hi ⟨f3, v1, v2, v3, v4, v5⟩ => by
              obtain ⟨n26, n24, n0, nck⟩ := n1 s v5
              obtain ⟨s4, w1, w2, w3⟩ := sti (i := 109 + 9 * k + i) (fd (9 * k + i)) v1 (by omega) (by omega)
              have e13s := (v5.2 (mo + 13) (by omega)).trans e13
              refine ⟨s4, ⟨_, w2, fun j hj => ?_, fun k' hk' i' hi' => ?_, fun j hj => ?_, v5.tr w3⟩, ?_⟩
              · rw [pk_un (by omega)]; exact v2 j hj
              · have hl' := (y4.2 k' (by omega)).2.1
                have hmx' := mxl_le (rk R k')
                rw [pk_un (by omega)]; exact v3 k' hk' i' hi'
              · by_cases w : j = i
                · subst w; exact pk_us
                · rw [pk_un (by omega)]; exact v4 j (by omega)
              · show f_Mo_parse_80 F (f_Mo_parse_70 F n) (n' + 1) mo (nI k) (nI i) s = _
                rw [f_Mo_parse_80, b_Mo_parse_80, n24, bnd_s, show (9 : Int32) * nI k = nI (9 * k) from pk_mul 9 k, show nI (9 * k) + (2 : Int32) = nI (9 * k + 2) from nI_add _ 2, ar_I e13s (by omega) (by omega), z3, bnd_s, show (3 : Int32) + nI (rl R k) = nI (3 + rl R k) from nI_add 3 _, if_neg (show ¬ nI (3 + rl R k) ≤ nI i from nI_ge (by omega) (by omega)), n0, bnd_s, bnd_s, nI_add, ar_I e13s (by omega) (by omega), bnd_s, show (109 : Int32) + nI (9 * k) = nI (109 + 9 * k) from nI_add 109 _, nI_add, w1, bnd_s, nI_1]) (3 + rl R k) 0 s F (Nat.zero_add _) (by omega) ⟨f2, u1, u2, u3, fun j hj => absurd hj (Nat.not_lt_zero j), u4⟩
          refine ⟨s3, ⟨f3, v1, v2, fun k' hk' i hi => ?_, v5⟩, ?_⟩
          · by_cases w : k' = k
            · subst w; exact v4 i hi
            · exact v3 k' (by omega) i hi
          · show f_Mo_parse_70 F (n + 1) mo (nI k) s = _
            obtain ⟨n', hn'⟩ : ∃ n', F - (3 + rl R k) = n' + 1 := ⟨F - (3 + rl R k) - 1, by omega⟩
            obtain ⟨o26, o24, o0, ock⟩ := n1 s3 v5
            rw [f_Mo_parse_70, b_Mo_parse_70, n26, bnd_s, if_neg (show ¬ nI (rn R) ≤ nI k from nI_ge (by omega) (by omega))]
            refine Eq.trans el3 ?_
            show f_Mo_parse_80 F (f_Mo_parse_70 F n) (F - (3 + rl R k)) mo (nI k) (nI (3 + rl R k)) s3 = _
            rw [hn', f_Mo_parse_80, b_Mo_parse_80, o24, bnd_s, show (9 : Int32) * nI k = nI (9 * k) from pk_mul 9 k, show nI (9 * k) + (2 : Int32) = nI (9 * k + 2) from nI_add _ 2, ar_I ((v5.2 (mo + 13) (by omega)).trans e13) (by omega) (by omega), z3, bnd_s, show (3 : Int32) + nI (rl R k) = nI (3 + rl R k) from nI_add 3 _, if_pos (show nI (3 + rl R k) ≤ nI (3 + rl R k) from nI_le (Nat.le_refl _) (by omega)), nI_1]) (rn R) 0 s1 F (Nat.zero_add _) (by omega) ⟨_, t2, fun _ _ => rfl, fun k' hk' => absurd hk' (Nat.not_lt_zero k'), fr1⟩
      have hGv : gvOK (fun c => gdv (hr tl tx c)) := fun c hc => gdv_lt (givR_ok 36 0 hgv c (by omega) (by omega))
      have hu : ∀ j, j < 108 ∨ 181 ≤ j → f2 j = f0 j := fun j hj => (u2 j (by omega)).trans (pk_un (by omega))
      have HR : MW s2 mo (R, (fun _ _ => true), (fun _ => false), (fun c => gdv (hr tl tx c)), 0, tE x) (svN m) (svS m sv x) tl tx 0 := by
        have fr12 : Fr (fun k => k = mo + 1) s s2 := ⟨u4.1.trans j2.1.symm, fun k hk => (u4.2 k hk).trans (j2.2 k hk).symm⟩
        refine j1.row fr12 u1 ?_
        have hMR : MRu f2 R := by
          refine ⟨(u2 108 (by omega)).trans pk_us, fun k hk => ?_⟩
          obtain ⟨z1, z2, z3, z4⟩ := y3 k hk
          have w := u3 k hk
          refine ⟨(w 0 (by omega)).trans z1, ?_, ?_, fun j hj => ?_⟩
          · rw [show 110 + 9 * k = 109 + 9 * k + 1 by omega]; exact (w 1 (by omega)).trans z2
          · rw [show 111 + 9 * k = 109 + 9 * k + 2 by omega]; exact (w 2 (by omega)).trans z3
          · rw [show 112 + 9 * k + j = 109 + 9 * k + (3 + j) by omega, w (3 + j) (by omega), show 9 * k + (3 + j) = 9 * k + 3 + j by omega]
            exact z4 j hj
        obtain ⟨y1', y2', y3', y4', y5'⟩ := c2.R (R' := R) hu hMR
        exact ⟨y1', y2', fun c hc => (y3' c hc).trans (congrArg nI (hG c hc)), y4', y5'⟩
      obtain ⟨h9, p9, H9, f9⟩ := m_anew HR ⟨y4, fun c _ z => (by cases z), hGv, by show 0 ≤ 100; omega⟩ hF
      refine ⟨_, h9, ?_, (DM.mo' f1).tr (f4.tr ((f5.mo fun k hk => by simp only [DM]; omega).tr ((f6.mo fun k hk => by simp only [DM]; omega).tr ((u4.mo fun k hk => by simp only [DM]; omega).tr (f9.mo fun k hk => by simp only [DM]; omega))))), rfl, H9⟩
      obtain ⟨n, hn⟩ : ∃ n, F - 36 = n + 1 := ⟨F - 37, by omega⟩
      obtain ⟨n', hn'⟩ : ∃ n, F - rn R = n + 1 := ⟨F - rn R - 1, by omega⟩
      rw [pre, y1, if_neg (by decide), H4.r.1, bnd_s, p5, bnd_s, H5.r.1, bnd_s, p6, bnd_s]
      refine Eq.trans el ?_
      show f_Mo_parse_30 F (F - 36) mo (nI 36) s = _
      rw [hn, f_Mo_parse_30, b_Mo_parse_30, if_pos (show (36 : Int32) ≤ nI 36 from nI_le (a := 36) (b := 36) (by omega) (by omega)), j1.r.2.1, bnd_s, (n1 s j2).1, bnd_s, show (108 : Int32) = nI 108 from rfl, t1, bnd_s]
      refine Eq.trans el2 ?_
      show f_Mo_parse_70 F (F - rn R) mo (nI (rn R)) s2 = _
      rw [hn', f_Mo_parse_70, b_Mo_parse_70, (n1 s2 u4).1, bnd_s, if_pos (show nI (rn R) ≤ nI (rn R) from nI_le (Nat.le_refl _) (by omega)), HR.r.1, bnd_s, p9, bnd_s, H9.r.1, bnd_s, m_givens H9 hGv (by omega), bnd_s]
      rfl
