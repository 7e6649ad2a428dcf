/-! The reference: singles, only places. -/
/-- nothing was done -/
def NoD (h0 : PH) (mo x : Nat) (R : RT) (K0 : Nat → Nat → Bool) (kd : Nat) (pl : Int32) (K : Nat → Nat → Bool) (P : Nat → Bool) (o : Option (Int32 × PH)) : Prop := ∃ h', o = some (0, h') ∧ MS h0 h' mo x R K0 kd pl K P
/-- it was done -/
def YeD (h0 : PH) (mo x : Nat) (R : RT) (K0 : Nat → Nat → Bool) (kd : Nat) (pl : Nat) (K : Nat → Nat → Bool) (P : Nat → Bool) (o : Option (Int32 × PH)) : Prop := ∃ h', o = some (1, h') ∧ MS h0 h' mo x R K0 kd (nI pl) K P
theorem peer_ne {R : RT} {a : Nat} : peer R a a = false := by
  unfold peer
  simp
theorem m_singles {h0 h : PH} {mo x : Nat} {R : RT} {K : Nat → Nat → Bool} {P : Nat → Bool} {kd : Nat} {pl : Int32} (H : MS h0 h mo x R K kd pl K P) (hR : ROK R) {F : Nat} (hF : 40 ≤ F) :
    (no1 K P ∧ NoD h0 mo x R K kd pl K P (f_Mo_singles F mo x h)) ∨ ∃ c, f1 R K P c (k1 R K c) (pl1 P c) ∧ YeD h0 mo x R K kd c (k1 R K c) (pl1 P c) (f_Mo_singles F mo x h) := by
  obtain ⟨V, H0⟩ := H.mn
  obtain ⟨j, s, j1, j2, j3, j4, h1⟩ := LE (fun n i (_ : Unit) => f_Mo_singles_2 F n mo x (nI i) h) (fun i _ => ∀ c, c < i → ¬ a1 K P c) (fun i _ => a1 K P i) 36
    (fun n i s hi hn => by
      by_cases w : a1 K P i
      · exact Or.inl w
      right
      refine ⟨(), fun c hc => ?_, ?_⟩
      · by_cases q : c = i
        · subst q; exact w
        · exact hn c (by omega)
      · show f_Mo_singles_2 F (n + 1) mo x (nI i) h = _
        rw [f_Mo_singles_2, b_Mo_singles_2, if_neg (show ¬ (36 : Int32) ≤ nI i from nI_ge (a := (i)) (b := 36) (by omega) (by omega)), (H0.g hi).2, bnd_s]
        cases q : P i
        · rw [if_pos (by rfl), (H0.g hi).1, bnd_s, m_size _ hF, bnd_s, if_neg, b_Mo_singles_73, nI_1]
          intro z
          have := sz_le (K i)
          exact w ⟨q, (nI_eq (a := sz (K i)) (b := 1) (by omega) (by omega)).mp z⟩
        · rw [if_neg (by decide), b_Mo_singles_73, nI_1]) 36 0 () F rfl (by omega) (fun c hc => by omega)
  obtain ⟨m, hm⟩ : ∃ m, F - (j - 0) = m + 1 := ⟨F - (j - 0) - 1, by omega⟩
  have hE : f_Mo_singles F mo x h = f_Mo_singles_2 F (m + 1) mo x (nI j) h := by
    unfold f_Mo_singles
    rw [← hm]
    exact h1
  rw [hE, f_Mo_singles_2, b_Mo_singles_2]
  by_cases w : j < 36
  rotate_left
  · left
    rw [if_pos (show (36 : Int32) ≤ nI j from nI_le (a := 36) (b := (j)) (by omega) (by omega))]
    exact ⟨fun c hc => j3 c (by omega), h, rfl, H⟩
  right
  have ha := j4 w
  obtain ⟨g1, e1, g2⟩ := H.setp w true
  obtain ⟨g3, e2, g4⟩ := g2.pl (nI j)
  refine ⟨j, ⟨w, ha, j3, rfl, rfl⟩, ?_⟩
  rw [if_neg (show ¬ (36 : Int32) ≤ nI j from nI_ge (a := (j)) (b := 36) (by omega) (by omega)), (H0.g w).2, bnd_s, ha.1, if_pos (by rfl), (H0.g w).1, bnd_s, m_size _ hF, bnd_s, ha.2, if_pos (by rfl), show (1 : Int32) = nI (true).toNat from rfl, e1, bnd_s, e2, bnd_s]
  obtain ⟨s', i1, h2⟩ := LC (fun n i s => f_Mo_singles_41 F n mo x (nI j) (nI i) s) (fun i s => MS h0 s mo x R K kd (nI j) (fun e d => K e d && !(decide (e < i) && (peer R j e && K j d))) (pl1 P j)) 36
    (fun n i s hi i1 => by
      obtain ⟨W, i2⟩ := i1.mn
      show ∃ s', _ ∧ f_Mo_singles_41 F (n + 1) mo x (nI j) (nI i) s = _
      rw [f_Mo_singles_41, b_Mo_singles_41, if_neg (show ¬ (36 : Int32) ≤ nI i from nI_ge (a := (i)) (b := 36) (by omega) (by omega)), i2.ck, bnd_s, m_peers i2 hR w hi hF, bnd_s]
      cases q : peer R j i
      · refine ⟨s, i1.x (fun c _ d _ => ?_) (fun _ _ => rfl), ?_⟩
        · by_cases z : c = i
          · subst z; simp [q]
          · rw [dlt_ne z]
        · rw [if_pos (by rfl), b_Mo_singles_65, nI_1]
      · obtain ⟨s', t1, t2, _⟩ := i1.take hi (fun d => K j d) hF
        refine ⟨s', t2.x (fun c _ d _ => ?_) (fun _ _ => rfl), ?_⟩
        · by_cases z : c = i
          · subst z; simp [q]
          · simp [z, dlt_ne z]
        · have hj : mkd (fun d => K j d && !(decide (j < i) && (peer R j j && K j d))) = mkd (K j) := mkd_ext fun d _ => by simp [peer_ne]
          rw [if_neg (by decide), (i2.g w).1, bnd_s, hj, bnd_s, t1, bnd_s, b_Mo_singles_65, nI_1]) 36 0 g3 F rfl (by omega) (g4.x (fun c _ d _ => by simp) (fun c _ => by
        unfold pl1
        by_cases q : c = j
        · simp [q]
        · simp [q]))
  obtain ⟨m', hm'⟩ : ∃ m, F - 36 = m + 1 := ⟨F - 37, by omega⟩
  refine ⟨s', ?_, i1.x (fun c hc d _ => by unfold k1; simp [hc]) (fun _ _ => rfl)⟩
  refine Eq.trans h2 ?_
  show f_Mo_singles_41 F (F - 36) mo x (nI j) (nI 36) s' = _
  rw [hm', f_Mo_singles_41, b_Mo_singles_41, if_pos (show (36 : Int32) ≤ nI 36 from nI_le (a := 36) (b := 36) (by omega) (by omega))]
theorem onl_ce {K : Nat → Nat → Bool} {u d : Nat} (hu : u < 18) {t : Nat} (ht : t < 6) : onl K u d (ceU u t) ↔ K (ceU u t) d = true ∧ ∀ i, i < 6 → K (ceU u i) d = true → i = t := by
  constructor
  · rintro ⟨h1, h2, h3, h4⟩
    exact ⟨h3, fun i hi z => ceU_inj hu hi ht (h4 _ (ceU_lt u hu i hi) (ceU_in u hu i hi) z)⟩
  · rintro ⟨h3, h4⟩
    refine ⟨ceU_lt u hu t ht, ceU_in u hu t ht, h3, fun e he h5 h6 => ?_⟩
    obtain ⟨i, hi, rfl⟩ := ceU_ex hu he h5
    rw [h4 i hi h6]
theorem m_only_in {h0 h : PH} {mo x : Nat} {R : RT} {K : Nat → Nat → Bool} {P : Nat → Bool} {kd : Nat} {pl : Int32} (H : MS h0 h mo x R K kd pl K P) {F : Nat} (hF : 40 ≤ F) {u d : Nat} (hu : u < 18) (hd : isD d = true) (kk : Nat → Nat → Int32 → Int32 → PH → Option (Int32 × PH)) :
    (¬ a2 K u d → f_Mo_onlyPlaces_25 F kk F mo x (nI u) (nI d) 0 0 0 h = kk mo x (nI u) (nI (d + 1)) h) ∧ (a2 K u d → YeD h0 mo x R K kd u (k2 K u d) P (f_Mo_onlyPlaces_25 F kk F mo x (nI u) (nI d) 0 0 0 h)) := by
  obtain ⟨V, H0⟩ := H.mn
  obtain ⟨⟨s4, s5⟩, ⟨i1, i2⟩, h1⟩ := LC (fun n i (s : Int32 × Int32) => f_Mo_onlyPlaces_25 F kk n mo x (nI u) (nI d) s.1 s.2 (nI i) h) (fun i s => s.1 = nI (cnt (fun t => K (ceU u t) d) i) ∧ (cnt (fun t => K (ceU u t) d) i ≠ 0 → ∃ t, t < i ∧ K (ceU u t) d = true ∧ s.2 = nI (ceU u t))) 6
    (fun n i s hi ⟨i1, i2⟩ => by
      have hc := ceU_lt u hu i hi
      show ∃ s', _ ∧ f_Mo_onlyPlaces_25 F kk (n + 1) mo x (nI u) (nI d) s.1 s.2 (nI i) h = _
      rw [f_Mo_onlyPlaces_25, b_Mo_onlyPlaces_25, if_neg (show ¬ (6 : Int32) ≤ nI i from nI_ge (a := (i)) (b := 6) (by omega) (by omega)), m_cellIn u hu i hi, bnd_s, (H0.g hc).1, bnd_s, m_has _ hd, bnd_s]
      cases q : K (ceU u i) d
      · refine ⟨(s.1, s.2), ⟨by rw [i1, cnt_s, q]; rfl, fun z => ?_⟩, ?_⟩
        · rw [cnt_s, q] at z
          obtain ⟨t, t1, t2, t3⟩ := i2 z
          exact ⟨t, by omega, t2, t3⟩
        · rw [if_pos (by rfl), b_Mo_onlyPlaces_58, (H0.g hc).1, bnd_s, m_has _ hd, q, bnd_s, if_pos (by rfl), b_Mo_onlyPlaces_79, nI_1, i1]
          congr 1
          exact nI_add _ 0
      · refine ⟨(nI (cnt (fun t => K (ceU u t) d) (i + 1)), nI (ceU u i)), ⟨rfl, fun _ => ⟨i, by omega, q, rfl⟩⟩, ?_⟩
        rw [if_neg (by decide), b_Mo_onlyPlaces_58, (H0.g hc).1, bnd_s, m_has _ hd, q, bnd_s, if_neg (by decide), b_Mo_onlyPlaces_79, nI_1, i1, nI_1, cnt_s, q]
        rfl) 6 0 (0, 0) F rfl (by omega) ⟨rfl, fun z => absurd rfl z⟩
  obtain ⟨m, hm⟩ : ∃ m, F - 6 = m + 1 := ⟨F - 7, by omega⟩
  have hE : f_Mo_onlyPlaces_25 F kk F mo x (nI u) (nI d) 0 0 0 h = f_Mo_onlyPlaces_25 F kk (m + 1) mo x (nI u) (nI d) s4 s5 (nI 6) h := by
    rw [← hm]
    exact h1
  have h6 : cnt (fun t => K (ceU u t) d) 6 ≤ 6 := by have := cnt_neg (fun t => K (ceU u t) d) 6; omega
  replace i1 : s4 = nI (cnt (fun t => K (ceU u t) d) 6) := i1
  rw [hE, f_Mo_onlyPlaces_25, b_Mo_onlyPlaces_25, if_pos (show (6 : Int32) ≤ nI 6 from nI_le (a := 6) (b := 6) (by omega) (by omega)), i1]
  have ho : ∀ t, t < 6 → K (ceU u t) d = true → cnt (fun t => K (ceU u t) d) 6 = 1 → onl K u d (ceU u t) := by
    intro t ht z z2
    obtain ⟨j, y1, y2, y3⟩ := cnt_1.mp z2
    exact (onl_ce hu ht).mpr ⟨z, fun i hi w => by rw [y3 i hi w, y3 t ht z]⟩
  constructor
  · intro hn
    by_cases q : cnt (fun t => K (ceU u t) d) 6 = 1
    · obtain ⟨t, t1, t2, t3⟩ := i2 (by omega)
      replace t3 : s5 = nI (ceU u t) := t3
      have hc := ceU_lt u hu t t1
      have hle : sz (K (ceU u t)) ≤ 1 := by
        rcases Nat.lt_or_ge 1 (sz (K (ceU u t))) with z | z
        · exact absurd ⟨_, ho t t1 t2 q, z⟩ hn
        · exact z
      rw [q, if_pos (by rfl), t3, (H0.g hc).1, bnd_s, m_size _ hF, bnd_s, if_pos (show nI (sz (K (ceU u t))) ≤ (1 : Int32) from nI_le (a := (sz (K (ceU u t)))) (b := 1) (by omega) (by omega)), b_Mo_onlyPlaces_126, nI_1]
    · rw [if_neg (show ¬ nI (cnt (fun t => K (ceU u t) d) 6) = (1 : Int32) from fun z => q ((nI_eq (a := cnt (fun t => K (ceU u t) d) 6) (b := 1) (by omega) (by omega)).mp z)), b_Mo_onlyPlaces_126, nI_1]
  · rintro ⟨c, hc, hz⟩
    obtain ⟨t0, ht0, rfl⟩ := ceU_ex hu hc.1 hc.2.1
    have hq : cnt (fun t => K (ceU u t) d) 6 = 1 := cnt_1.mpr ⟨t0, ht0, hc.2.2.1, fun i hi w => ((onl_ce hu ht0).mp hc).2 i hi w⟩
    obtain ⟨t, t1, t2, t3⟩ := i2 (by omega)
    replace t3 : s5 = nI (ceU u t) := t3
    have ht := ((onl_ce hu ht0).mp hc).2 t t1 t2
    subst ht
    have hsz := sz_le (K (ceU u t))
    obtain ⟨g1, e1, g2⟩ := H.pl (nI u)
    obtain ⟨V1, g2m⟩ := g2.mn
    obtain ⟨g3, e3, g4, _⟩ := g2.take hc.1 (fun e => !decide (e = d)) hF
    have hmk : (126 : Int32) &&& (((1 : Int32) <<< (nI d &&& 31)) ^^^ (-1 : Int32)) = nI (mkd fun e => !decide (e = d)) := by
      rw [show (126 : Int32) = nI (mkd fun _ => true) from rfl, mkd_1 hd, mkd_sub]
      congr 1
    refine ⟨g3, ?_, g4.x (fun a ha e _ => ?_) (fun _ _ => rfl)⟩
    · rw [hq, if_pos (by rfl), t3, (H0.g hc.1).1, bnd_s, m_size _ hF, bnd_s, if_neg (show ¬ nI (sz (K (ceU u t))) ≤ (1 : Int32) from nI_ge (a := 1) (b := (sz (K (ceU u t)))) (by omega) (by omega)), e1, bnd_s, g2m.ck, bnd_s, hmk, e3, bnd_s]
    · unfold k2
      by_cases w : a = ceU u t
      · subst w
        simp [hc.2.1, hc.2.2.1]
      · have : (inU u a && K a d) = false := by
          cases w2 : inU u a && K a d
          · rfl
          · simp only [Bool.and_eq_true] at w2
            exact absurd (hc.2.2.2 a ha w2.1 w2.2) w
        simp [w, this]
theorem m_only {h0 h : PH} {mo x : Nat} {R : RT} {K : Nat → Nat → Bool} {P : Nat → Bool} {kd : Nat} {pl : Int32} (H : MS h0 h mo x R K kd pl K P) {F : Nat} (hF : 40 ≤ F) :
    (no2 K ∧ NoD h0 mo x R K kd pl K P (f_Mo_onlyPlaces F mo x h)) ∨ ∃ u K', f2 K u K' ∧ YeD h0 mo x R K kd u K' P (f_Mo_onlyPlaces F mo x h) := by
  have hU : ∀ n u, u < 18 → ((∀ d, isD d = true → ¬ a2 K u d) → f_Mo_onlyPlaces_2 F (n + 1) mo x (nI u) h = f_Mo_onlyPlaces_2 F n mo x (nI (u + 1)) h) ∧ ∀ d, isD d = true → a2 K u d → (∀ e, isD e = true → e < d → ¬ a2 K u e) → YeD h0 mo x R K kd u (k2 K u d) P (f_Mo_onlyPlaces_2 F (n + 1) mo x (nI u) h) := by
    intro n u hu
    rw [f_Mo_onlyPlaces_2, b_Mo_onlyPlaces_2, if_neg (show ¬ (18 : Int32) ≤ nI u from nI_ge (a := (u)) (b := 18) (by omega) (by omega))]
    have hs : ∀ n' i, isD i = true → ¬ a2 K u i → f_Mo_onlyPlaces_10 F (f_Mo_onlyPlaces_2 F n) (n' + 1) mo x (nI u) (nI i) h = f_Mo_onlyPlaces_10 F (f_Mo_onlyPlaces_2 F n) n' mo x (nI u) (nI (i + 1)) h := by
      intro n' i hd hn
      have := isD_b hd
      rw [f_Mo_onlyPlaces_10, b_Mo_onlyPlaces_10, if_neg (show ¬ (7 : Int32) ≤ nI i from nI_ge (a := (i)) (b := 7) (by omega) (by omega)), (m_only_in H hF hu hd _).1 hn]
    constructor
    · intro hn
      obtain ⟨_, _, h1⟩ := LC (fun n' i (_ : Unit) => f_Mo_onlyPlaces_10 F (f_Mo_onlyPlaces_2 F n) n' mo x (nI u) (nI i) h) (fun i _ => 1 ≤ i) 7 (fun n' i s hi h1 => ⟨(), by omega, hs n' i (isD_i h1 hi) (hn i (isD_i h1 hi))⟩) 6 1 () F rfl (by omega) (Nat.le_refl 1)
      refine Eq.trans h1 ?_
      obtain ⟨m, hm⟩ : ∃ m, F - 6 = m + 1 := ⟨F - 7, by omega⟩
      show f_Mo_onlyPlaces_10 F (f_Mo_onlyPlaces_2 F n) (F - 6) mo x (nI u) (nI 7) h = _
      rw [hm, f_Mo_onlyPlaces_10, b_Mo_onlyPlaces_10, if_pos (show (7 : Int32) ≤ nI 7 from nI_le (a := 7) (b := 7) (by omega) (by omega)), nI_1]
    · intro d hd ha hn
      have hi := isD_b hd
      obtain ⟨_, _, h1⟩ := LC (fun n' i (_ : Unit) => f_Mo_onlyPlaces_10 F (f_Mo_onlyPlaces_2 F n) n' mo x (nI u) (nI i) h) (fun i _ => 1 ≤ i) d (fun n' i s hi h1 => ⟨(), by omega, hs n' i (isD_i h1 (by omega)) (hn i (isD_i h1 (by omega)) hi)⟩) (d - 1) 1 () F (by omega) (by omega) (Nat.le_refl 1)
      obtain ⟨m, hm⟩ : ∃ m, F - (d - 1) = m + 1 := ⟨F - (d - 1) - 1, by omega⟩
      obtain ⟨g, e1, e2⟩ := (m_only_in H hF hu hd (f_Mo_onlyPlaces_10 F (f_Mo_onlyPlaces_2 F n) m)).2 ha
      refine ⟨g, ?_, e2⟩
      refine Eq.trans h1 ?_
      show f_Mo_onlyPlaces_10 F (f_Mo_onlyPlaces_2 F n) (F - (d - 1)) mo x (nI u) (nI d) h = _
      rw [hm, f_Mo_onlyPlaces_10, b_Mo_onlyPlaces_10, if_neg (show ¬ (7 : Int32) ≤ nI d from nI_ge (a := (d)) (b := 7) (by omega) (by omega)), e1]
  obtain ⟨j, s, j1, j2, j3, j4, h1⟩ := LE (fun n i (_ : Unit) => f_Mo_onlyPlaces_2 F n mo x (nI i) h) (fun i _ => ∀ u d, u < i → isD d = true → ¬ a2 K u d) (fun i _ => ∃ d, isD d = true ∧ a2 K i d) 18
    (fun n i s hi h1 => by
      by_cases w : ∃ d, isD d = true ∧ a2 K i d
      · exact Or.inl w
      · refine Or.inr ⟨(), fun u d hu hd z => ?_, (hU n i hi).1 fun d hd z => w ⟨d, hd, z⟩⟩
        by_cases w2 : u = i
        · subst w2; exact w ⟨d, hd, z⟩
        · exact h1 u d (by omega) hd z) 18 0 () F rfl (by omega) (fun u d hu => by omega)
  obtain ⟨m, hm⟩ : ∃ m, F - (j - 0) = m + 1 := ⟨F - j - 1, by omega⟩
  have hE : f_Mo_onlyPlaces F mo x h = f_Mo_onlyPlaces_2 F (m + 1) mo x (nI j) h := by
    unfold f_Mo_onlyPlaces
    rw [← hm]
    exact h1
  rw [hE]
  by_cases w : j < 18
  · right
    obtain ⟨d, hd, ha, hn⟩ := first_d (j4 w)
    exact ⟨j, k2 K j d, ⟨w, j3, d, hd, ha, hn, rfl⟩, (hU m j w).2 d hd ha hn⟩
  · left
    rw [f_Mo_onlyPlaces_2, b_Mo_onlyPlaces_2, if_pos (show (18 : Int32) ≤ nI j from nI_le (a := 18) (b := (j)) (by omega) (by omega))]
    exact ⟨fun u d hu hd => j3 u d (by omega) hd, h, rfl, H⟩
