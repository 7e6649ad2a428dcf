/-! The reference: what the ways leave. -/
def gdw (R : RT) (K : Nat → Nat → Bool) (k N : Nat) : Prop := (∀ j, j < rl R k → K (rc R k j) (dg N j) = true) ∧ Way R k (dg N)
theorem Way_x {R : RT} {k : Nat} {v w : Nat → Nat} (h2 : 1 ≤ rl R k) (h : ∀ i, i < rl R k → v i = w i) (q : Way R k v) : Way R k w := by
  obtain ⟨q1, q2, q3⟩ := q
  have hs : smN w (rl R k) = smN v (rl R k) := smN_ext fun i hi => (h i hi).symm
  refine ⟨fun z => ?_, fun z => ?_, fun z j hj => ?_⟩
  · rw [hs]
    exact ⟨(q1 z).1, fun i j hi hj => by rw [← h i hi, ← h j (by omega)]; exact (q1 z).2 i j hi hj⟩
  · rw [hs, ← h 0 (by omega)]
    exact q2 z
  · rw [← h j (by omega), ← h (j + 1) hj]
    exact q3 z j hj
theorem gdw_Kp {R : RT} {K : Nat → Nat → Bool} {k j d : Nat} (h2 : 2 ≤ rl R k) (hj : j < rl R k) : (∃ N, N < 6 ^ rl R k ∧ gdw R K k N ∧ dg N j = d) ↔ Kp R K k j d := by
  constructor
  · rintro ⟨N, _, ⟨h3, h4⟩, h5⟩
    exact ⟨dg N, fun i hi => ⟨dg_D N i, h3 i hi⟩, h4, h5⟩
  · rintro ⟨v, h3, h4, h5⟩
    obtain ⟨N, g1, g2⟩ := dg_ex (rl R k) v fun i hi => (h3 i hi).1
    refine ⟨N, g1, ⟨fun i hi => by rw [g2 i hi]; exact (h3 i hi).2, Way_x (by omega) (fun i hi => (g2 i hi).symm) h4⟩, by rw [g2 j hj]; exact h5⟩
/-- the unions after the ways below N -/
def UI (R : RT) (K : Nat → Nat → Bool) (k N : Nat) (U : Nat → Nat → Bool) : Prop := ∀ j d, j < rl R k → isD d = true → (U j d = true ↔ ∃ M, M < N ∧ gdw R K k M ∧ dg M j = d)
theorem m_addway {h0 h : PH} {mo x : Nat} {R : RT} {K0 K : Nat → Nat → Bool} {P : Nat → Bool} {kd : Nat} {pl : Int32} (H : MS h0 h mo x R K0 kd pl K P) {k : Nat} (h4 : rl R k ≤ 4) {v : Nat → Nat} (hv : ∀ j, isD (v j) = true) {U : Nat → Nat → Bool} (hU : UN h mo (rl R k) U) (hd : DI h mo (rl R k) v) {F n' : Nat} (hF : 40 ≤ F) (i4 i5 : Int32) :
    ∃ h', f_Mo_ways_78 F (f_Mo_ways_49 F n') F mo x (nI k) (nI (rl R k)) i4 i5 0 h = f_Mo_ways_49 F n' mo x (nI k) (nI (rl R k)) i4 (i5 + 1) h' ∧ MS h0 h' mo x R K0 kd pl K P ∧ UN h' mo (rl R k) fun j d => U j d || decide (d = v j) := by
  obtain ⟨s, ⟨i1, i2, i3⟩, h1⟩ := LC (fun n j s => f_Mo_ways_78 F (f_Mo_ways_49 F n') n mo x (nI k) (nI (rl R k)) i4 i5 (nI j) s) (fun i s => MS h0 s mo x R K0 kd pl K P ∧ DI s mo (rl R k) v ∧ UN s mo (rl R k) fun j d => U j d || (decide (j < i) && decide (d = v j))) (rl R k)
    (fun n i s hi ⟨i1, ⟨f, f1, f2⟩, ⟨g, g1, g2⟩⟩ => by
      obtain ⟨V, M0⟩ := i1.mn
      have hb := isD_b (hv i)
      refine ⟨hset s (mo + 4) (oI 4 (upd g i (nI (mkd fun d => (U i d || (decide (i < i) && decide (d = v i))) || decide (d = v i))))), ⟨i1.a45 (Or.inl rfl) _, ⟨f, (hset_n _ _ (by omega)).trans f1, f2⟩, _, hset_s _ _ _, fun j hj => ?_⟩, ?_⟩
      · by_cases q : j = i
        · subst q
          rw [pk_us]
          congr 1
          apply mkd_ext
          intro d _
          simp
        · rw [pk_un q, g2 j hj]
          congr 1
          apply mkd_ext
          intro d _
          show (U j d || (decide (j < i) && decide (d = v j))) = (U j d || (decide (j < i + 1) && decide (d = v j)))
          rw [dlt_ne q]
      · show f_Mo_ways_78 F (f_Mo_ways_49 F n') (n + 1) mo x (nI k) (nI (rl R k)) i4 i5 (nI i) s = _
        rw [f_Mo_ways_78, b_Mo_ways_78, if_neg (show ¬ nI (rl R k) ≤ nI i from nI_ge (a := (i)) (b := (rl R k)) (by omega) (by omega)), M0.r.1, bnd_s, ar_I g1 (by omega) (by omega), bnd_s, g2 i hi, M0.r.2, bnd_s, ar_I f1 (by omega) (by omega), bnd_s, f2 i hi, mkd_1 (hv i), mkd_or, ar_sI _ g1 (by omega) (by omega), bnd_s, nI_1]) (rl R k) 0 h F (by omega) (by omega) ⟨H, hd, by
        obtain ⟨g, g1, g2⟩ := hU
        exact ⟨g, g1, fun j hj => by rw [g2 j hj]; congr 1; exact mkd_ext fun d _ => by simp⟩⟩
  obtain ⟨m, hm⟩ : ∃ m, F - rl R k = m + 1 := ⟨F - rl R k - 1, by omega⟩
  refine ⟨s, ?_, i1, ?_⟩
  · refine Eq.trans h1 ?_
    show f_Mo_ways_78 F (f_Mo_ways_49 F n') (F - rl R k) mo x (nI k) (nI (rl R k)) i4 i5 (nI (rl R k)) s = _
    rw [hm, f_Mo_ways_78, b_Mo_ways_78, if_pos (show nI (rl R k) ≤ nI (rl R k) from nI_le (by omega) (by omega)), b_Mo_ways_109]
  · obtain ⟨g, g1, g2⟩ := i3
    exact ⟨g, g1, fun j hj => by rw [g2 j hj]; congr 1; exact mkd_ext fun d _ => by simp [hj]⟩
theorem UN.fr {h h' : PH} {mo n : Nat} {U : Nat → Nat → Bool} (H : UN h mo n U) (e : h'.2 (mo + 4) = h.2 (mo + 4)) : UN h' mo n U := by
  obtain ⟨f, f1, f2⟩ := H
  exact ⟨f, e.trans f1, f2⟩
theorem m_ways49 {h0 h : PH} {mo x : Nat} {R : RT} {K : Nat → Nat → Bool} {P : Nat → Bool} {kd : Nat} {pl : Int32} (H : MS h0 h mo x R K kd pl K P) (hR : ROK R) {k : Nat} (hk : k < rn R) (h4 : rl R k ≤ 4) (h2 : 2 ≤ rl R k) (hw : rk R k < 2) (hU : UN h mo (rl R k) fun _ _ => false) {F : Nat} (hF : 2000 ≤ F) :
    ∃ h' U, f_Mo_ways_49 F F mo x (nI k) (nI (rl R k)) (nI (6 ^ rl R k)) 0 h = f_Mo_ways_118 F F mo x (nI k) (nI (rl R k)) 0 h' ∧ MS h0 h' mo x R K kd pl K P ∧ UN h' mo (rl R k) U ∧ UI R K k (6 ^ rl R k) U := by
  have h6 := p6_le h4
  obtain ⟨s, ⟨i1, U, i2, i3⟩, h1⟩ := LC (fun n i s => f_Mo_ways_49 F n mo x (nI k) (nI (rl R k)) (nI (6 ^ rl R k)) (nI i) s) (fun i s => MS h0 s mo x R K kd pl K P ∧ ∃ U, UN s mo (rl R k) U ∧ UI R K k i U) (6 ^ rl R k)
    (fun n i s hi ⟨i1, U, i2, i3⟩ => by
      obtain ⟨V, M0⟩ := i1.mn
      obtain ⟨s1, ok, e1, e2, e3, e4, e5⟩ := m_lays i1 hR hk h4 hi (F := F) (by omega)
      obtain ⟨V1, M1⟩ := e2.mn
      have hskip : ¬ gdw R K k i → UI R K k (i + 1) U := fun hn j d hj hd => by
        rw [i3 j d hj hd]
        constructor
        · rintro ⟨M, z1, z2⟩
          exact ⟨M, by omega, z2⟩
        · rintro ⟨M, z1, z2, z3⟩
          by_cases q : M = i
          · subst q; exact absurd z2 hn
          · exact ⟨M, by omega, z2, z3⟩
      show ∃ s', _ ∧ f_Mo_ways_49 F (n + 1) mo x (nI k) (nI (rl R k)) (nI (6 ^ rl R k)) (nI i) s = _
      rw [f_Mo_ways_49, b_Mo_ways_49, if_neg (show ¬ nI (6 ^ rl R k) ≤ nI i from nI_ge (a := (i)) (b := (6 ^ rl R k)) (by omega) (by omega)), M0.ck, bnd_s, e1, bnd2_s]
      cases hok : ok
      · refine ⟨s1, ⟨e2, U, i2.fr e3, hskip fun z => by have := e5.mpr z.1; rw [hok] at this; cases this⟩, ?_⟩
        rw [if_pos (by rfl), b_Mo_ways_109, nI_1]
      · obtain ⟨b, g1, g2⟩ := m_isWay e2 hR hk h4 h2 hw (dg_D i) e4 (F := F) (by omega)
        rw [if_neg (by decide), M1.ck, bnd_s, g1, bnd_s]
        cases hb : b
        · refine ⟨s1, ⟨e2, U, i2.fr e3, hskip fun z => by have := g2.mpr z.2; rw [hb] at this; cases this⟩, ?_⟩
          rw [if_pos (by rfl), b_Mo_ways_109, nI_1]
        · obtain ⟨s2, t1, t2, t3⟩ := m_addway e2 h4 (dg_D i) (i2.fr e3) e4 (F := F) (n' := n) (by omega) (nI (6 ^ rl R k)) (nI i)
          refine ⟨s2, ⟨t2, _, t3, fun j d hj hd => ?_⟩, ?_⟩
          · rw [Bool.or_eq_true, i3 j d hj hd, decide_eq_true_iff]
            constructor
            · rintro (⟨M, z1, z2⟩ | z)
              · exact ⟨M, by omega, z2⟩
              · exact ⟨i, by omega, ⟨e5.mp hok, g2.mp hb⟩, z.symm⟩
            · rintro ⟨M, z1, z2, z3⟩
              by_cases q : M = i
              · subst q; exact Or.inr z3.symm
              · exact Or.inl ⟨M, by omega, z2, z3⟩
          · rw [if_neg (by decide), t1, nI_1]) (6 ^ rl R k) 0 h F (by omega) (by omega) ⟨H, _, hU, fun j d _ _ => by simp⟩
  obtain ⟨m, hm⟩ : ∃ m, F - 6 ^ rl R k = m + 1 := ⟨F - 6 ^ rl R k - 1, by omega⟩
  refine ⟨s, U, ?_, i1, i2, i3⟩
  refine Eq.trans h1 ?_
  show f_Mo_ways_49 F (F - 6 ^ rl R k) mo x (nI k) (nI (rl R k)) (nI (6 ^ rl R k)) (nI (6 ^ rl R k)) s = _
  rw [hm, f_Mo_ways_49, b_Mo_ways_49, if_pos (show nI (6 ^ rl R k) ≤ nI (6 ^ rl R k) from nI_le (by omega) (by omega))]
theorem m_ways {h0 h : PH} {mo x : Nat} {R : RT} {K : Nat → Nat → Bool} {P : Nat → Bool} {kd : Nat} {pl : Int32} (H : MS h0 h mo x R K kd pl K P) (hR : ROK R) {k w : Nat} (hk : k < rn R) (hw : rk R k = w) (hw2 : w < 2) {F : Nat} (hF : 2000 ≤ F) :
    (¬ a3 R K w k ∧ NoD h0 mo x R K kd pl K P (f_Mo_ways F mo x (nI k) h)) ∨ (a3 R K w k ∧ ∃ h', f_Mo_ways F mo x (nI k) h = some (1, h') ∧ MS h0 h' mo x R K kd pl (sift R K k) P) := by
  obtain ⟨V, H0⟩ := H.mn
  obtain ⟨q1, q2, q3, q4⟩ := H0.k hR hk
  obtain ⟨r1, r2, r3, r4, r5⟩ := hR.2 k hk
  have h4 : rl R k ≤ 4 := by
    have : mxl (rk R k) = 4 := by unfold mxl; rw [if_neg (by omega)]
    omega
  unfold f_Mo_ways
  rw [H0.ck, bnd_s, q2, bnd_s]
  by_cases h2 : 2 ≤ rl R k
  rotate_left
  · left
    rw [if_neg (show ¬ (2 : Int32) ≤ nI (rl R k) from nI_ge (a := (rl R k)) (b := 2) (by omega) (by omega))]
    exact ⟨fun z => h2 z.2.1, h, rfl, H⟩
  rw [if_pos (show (2 : Int32) ≤ nI (rl R k) from nI_le (a := 2) (b := (rl R k)) (by omega) (by omega))]
  obtain ⟨⟨t, s⟩, ⟨i1, i2, i3⟩, h1⟩ := LC (fun n i (s : Int32 × PH) => f_Mo_ways_19 F n mo x (nI k) (nI (rl R k)) s.1 (nI i) s.2) (fun i s => s.1 = nI (6 ^ i) ∧ MS h0 s.2 mo x R K kd pl K P ∧ UN s.2 mo i fun _ _ => false) (rl R k)
    (fun n i s hi ⟨i1, i2, ⟨f, f1, f2⟩⟩ => by
      obtain ⟨V, M0⟩ := i2.mn
      refine ⟨(nI (6 ^ (i + 1)), hset s.2 (mo + 4) (oI 4 (upd f i 0))), ⟨rfl, i2.a45 (Or.inl rfl) _, _, hset_s _ _ _, fun j hj => ?_⟩, ?_⟩
      · by_cases q : j = i
        · subst q; rw [pk_us]; rfl
        · rw [pk_un q]; exact f2 j (by omega)
      · show f_Mo_ways_19 F (n + 1) mo x (nI k) (nI (rl R k)) s.1 (nI i) s.2 = _
        rw [f_Mo_ways_19, b_Mo_ways_19, if_neg (show ¬ nI (rl R k) ≤ nI i from nI_ge (a := (i)) (b := (rl R k)) (by omega) (by omega)), bnd_s, M0.r.1, bnd_s, ar_sI _ f1 (by omega) (by omega), bnd_s, i1, show nI (6 ^ i) * (6 : Int32) = nI (6 ^ i * 6) from pk_mul _ 6, nI_1]
        rfl) (rl R k) 0 (1, h) F (by omega) (by omega) ⟨rfl, H, by
      obtain ⟨f, hf⟩ := H0.2.2.2.2.2.1
      exact ⟨f, hf, fun j hj => by omega⟩⟩
  obtain ⟨m, hm⟩ : ∃ m, F - rl R k = m + 1 := ⟨F - rl R k - 1, by omega⟩
  obtain ⟨s2, U, g1, g2, g3, g4⟩ := m_ways49 i2 hR hk h4 h2 (by omega) i3 hF
  have hK : ∀ j d, j < rl R k → isD d = true → (U j d = true ↔ Kp R K k j d) := fun j d hj hd => (g4 j d hj hd).trans (gdw_Kp h2 hj)
  obtain ⟨s3, ⟨y1, y2⟩, h3⟩ := LC (fun n i s => f_Mo_ways_118 F n mo x (nI k) (nI (rl R k)) (nI i) s) (fun i s => MS h0 s mo x R K kd pl (siftI R K k i) P ∧ UN s mo (rl R k) U) (rl R k)
    (fun n i s hi ⟨y1, y2⟩ => by
      obtain ⟨V, M0⟩ := y1.mn
      have y2' := y2
      obtain ⟨f, f1, f2⟩ := y2
      obtain ⟨z1, z2, z3, z4⟩ := M0.k hR hk
      obtain ⟨s', e1, e2, e3⟩ := y1.take (r3 i hi) (fun d => true && !U i d) (F := F) (by omega)
      have hfr : s'.2 (mo + 4) = s.2 (mo + 4) := e3 _ (by omega) (by have := M0.2.2.1; omega)
      refine ⟨s', ⟨e2.x (fun c _ d hd => bool_i ?_) (fun _ _ => rfl), y2'.fr hfr⟩, ?_⟩
      · rw [siftI_t, Bool.and_eq_true, siftI_t]
        constructor
        · rintro ⟨⟨x1, x2⟩, x3⟩
          refine ⟨x1, fun j hj e => ?_⟩
          by_cases q : j = i
          · subst q
            have : U j d = true := by simpa [e] using x3
            exact (hK j d hi hd).mp this
          · exact x2 j (by omega) e
        · rintro ⟨x1, x2⟩
          refine ⟨⟨x1, fun j hj e => x2 j (by omega) e⟩, ?_⟩
          by_cases q : c = rc R k i
          · have := (hK i d hi hd).mpr (x2 i (by omega) q.symm)
            simp [this]
          · simp [q]
      · show f_Mo_ways_118 F (n + 1) mo x (nI k) (nI (rl R k)) (nI i) s = _
        rw [f_Mo_ways_118, b_Mo_ways_118, if_neg (show ¬ nI (rl R k) ≤ nI i from nI_ge (a := (i)) (b := (rl R k)) (by omega) (by omega)), M0.ck, bnd_s, z4 i hi, bnd_s, M0.r.1, bnd_s, ar_I f1 (by omega) (by omega), bnd_s, f2 i hi, bnd_s, mk126, mkd_sub, e1, bnd_s, nI_1]) (rl R k) 0 s2 F (by omega) (by omega) ⟨g2.x (fun c _ d _ => bool_i (by rw [siftI_t]; exact ⟨fun z => ⟨z, fun j hj => by omega⟩, fun z => z.1⟩)) (fun _ _ => rfl), g3⟩
  obtain ⟨m', hm'⟩ : ∃ m, F - rl R k = m + 1 := ⟨F - rl R k - 1, by omega⟩
  have hE : f_Mo_ways_19 F F mo x (nI k) (nI (rl R k)) 1 0 h = f_Mo_ways_118 F (m' + 1) mo x (nI k) (nI (rl R k)) (nI (rl R k)) s3 := by
    rw [← hm']
    refine Eq.trans (Eq.trans h1 ?_) h3
    show f_Mo_ways_19 F (F - rl R k) mo x (nI k) (nI (rl R k)) t (nI (rl R k)) s = _
    rw [hm, f_Mo_ways_19, b_Mo_ways_19, if_pos (show nI (rl R k) ≤ nI (rl R k) from nI_le (by omega) (by omega)), show t = _ from i1]
    exact g1
  refine a3_end hw h2 (y1.x (fun c hc d _ => bool_i (by rw [siftI_t, sift_t])) (fun _ _ => rfl)) ?_
  rw [hE, f_Mo_ways_118, b_Mo_ways_118, if_pos (show nI (rl R k) ≤ nI (rl R k) from nI_le (by omega) (by omega))]
