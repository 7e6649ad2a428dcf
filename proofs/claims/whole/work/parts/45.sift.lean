/-! The class's sieve: all of it. -/
theorem ru_k {h : PH} {r : Nat} {R : RT} (H : RulAt h r R) (hR : ROK R) {k : Nat} (hk : k < rn R) : gR h r 4 0 = some (r + 1) ∧ aI h (r + 1) (nI k) = some (nI (rk R k)) ∧ gR h r 4 1 = some (r + 2) ∧ aI h (r + 2) (nI k) = some (nI (rs R k)) ∧ gR h r 4 2 = some (r + 3) ∧ aI h (r + 3) (nI k) = some (nI (rl R k)) ∧
    gR h r 4 4 = some (r + 5) ∧ (∃ x, aL h (r + 5) (nI k) = some x ∧ CS x (mem R k)) := by
  have h8 := hR.1
  obtain ⟨V, kd, sm, ln, cl, ar, pe, a0, a1, a2, a3, a4, a5, a6, a7, ⟨b1, b2, b3, b4, b5, b6⟩, c1, c2⟩ := H
  obtain ⟨d1, d2, d3, d4, d5⟩ := c1 k hk
  exact ⟨ob_R a0 (by omega) a1, by rw [ar_I b1 (by omega) (by omega), d1], ob_R a0 (by omega) a2, by rw [ar_I b2 (by omega) (by omega), d2], ob_R a0 (by omega) a3, by rw [ar_I b3 (by omega) (by omega), d3], ob_R a0 (by omega) a5, ar k, ar_L b5 (by omega) (by omega), d5⟩
theorem ru_c {h : PH} {r : Nat} {R : RT} (H : RulAt h r R) (hR : ROK R) {k j : Nat} (hk : k < rn R) (hj : j < rl R k) : f_Rul_cellAt r (nI k) (nI j) h = some (nI (rc R k j)) := by
  have h8 := hR.1
  have h6 := (hR.2 k hk).2.1
  have := mxl_le (rk R k)
  obtain ⟨V, kd, sm, ln, cl, ar, pe, a0, a1, a2, a3, a4, a5, a6, a7, ⟨b1, b2, b3, b4, b5, b6⟩, c1, c2⟩ := H
  obtain ⟨d1, d2, d3, d4, d5⟩ := c1 k hk
  unfold f_Rul_cellAt
  rw [ob_R a0 (by omega) a4, bnd_s, show nI k * (6 : Int32) = nI (k * 6) from pk_mul k 6, nI_add, ar_I b4 (by omega) (by omega), bnd_s, d4 j hj]
theorem ru_ck {h : PH} {r : Nat} {R : RT} (H : RulAt h r R) : cK h r 4 = some () ∧ gI h r 4 6 = some (nI (rn R)) := by
  obtain ⟨V, kd, sm, ln, cl, ar, pe, a0, a1, a2, a3, a4, a5, a6, a7, ⟨b1, b2, b3, b4, b5, b6⟩, c1, c2⟩ := H
  exact ⟨ob_K a0, ob_I a0 (by omega) a7⟩
theorem s_addUp {h : PH} {v : Nat} {W : Nat → Value} {nn : Nat} {O Q : Nat → Nat → Bool} (H : SvAt h v W nn O Q) (h2 : 2 ≤ nn) {F : Nat} (hF : 40 ≤ F) :
    ∃ h' W' Q', f_Siv_addUp F v h = some h' ∧ SvAt h' v W' nn O Q' ∧ Fr (fun k => k = v ∨ k = v + 2) h h' ∧ ∀ j d, j < nn → isD d = true → (Q' j d = true ↔ Q j d = true ∨ ∃ t w, isD t = true ∧ O 0 t = true ∧ Ch O false (nn - 1) 1 t (fun _ => false) w ∧ (if j = 0 then t else w j) = d) := by
  obtain ⟨a0, a1, a2, a3, a4, a5, a6⟩ := H
  have H1 : SvAt (hset h v (obj 6 4 (updV W 3 (.int 0)))) v (updV W 3 (.int 0)) nn O Q := by
    obtain ⟨f, a5, a7⟩ := a5
    obtain ⟨g, a6, a8⟩ := a6
    exact ⟨hset_s _ _ _, by simpa [updV] using a1, by simpa [updV] using a2, by simpa [updV] using a3, a4, ⟨f, (hset_n _ _ (by omega)).trans a5, a7⟩, g, (hset_n _ _ (by omega)).trans a6, a8⟩
  have e0 : f_Siv_addUp F v h = f_Siv_addUp_7 F F v 1 (hset h v (obj 6 4 (updV W 3 (.int 0)))) := by
    unfold f_Siv_addUp
    rw [ob_P _ a0 (by omega), bnd_s]
  have F1 : Fr (fun k => k = v ∨ k = v + 2) h (hset h v (obj 6 4 (updV W 3 (.int 0)))) := (Fr.rf _ _).st (S := fun k => k = v ∨ k = v + 2) _ (Or.inl rfl)
  generalize hset h v (obj 6 4 (updV W 3 (.int 0))) = h1 at *
  have hW3 : updV W 3 (.int 0) 3 = .int (if false then 1 else 0) := by simp [updV]
  generalize updV W 3 (.int 0) = W1 at *
  obtain ⟨h3, ⟨_, Q', i1, i2, i3⟩, e1⟩ := LC (fun n t h => f_Siv_addUp_7 F n v (nI t) h) (fun t h' => 1 ≤ t ∧ ∃ Q', SvAt h' v W1 nn O Q' ∧ Fr (fun k => k = v ∨ k = v + 2) h h' ∧ ∀ j d, j < nn → isD d = true → (Q' j d = true ↔ Q j d = true ∨ ∃ u w, isD u = true ∧ (O 0 u = true ∧ u < t) ∧ Ch O false (nn - 1) 1 u (fun _ => false) w ∧ (if j = 0 then u else w j) = d)) 7
    (fun n t s ht ⟨h1, Q', i1, i2, i3⟩ => by
      have hd := isD_i h1 ht
      obtain ⟨k1, k2, k3, k4, k5⟩ := i1.k (show 0 < nn by omega)
      have hsk : ∀ (s2 : PH) (Q2 : Nat → Nat → Bool), SvAt s2 v W1 nn O Q2 → Fr (fun k => k = v ∨ k = v + 2) h s2 → (¬ (O 0 t = true ∧ ∃ w, Ch O false (nn - 1) 1 t (fun _ => false) w)) → (∀ j d, j < nn → isD d = true → (Q2 j d = true ↔ Q' j d = true)) →
          1 ≤ t + 1 ∧ ∃ Q', SvAt s2 v W1 nn O Q' ∧ Fr (fun k => k = v ∨ k = v + 2) h s2 ∧ ∀ j d, j < nn → isD d = true → (Q' j d = true ↔ Q j d = true ∨ ∃ u w, isD u = true ∧ (O 0 u = true ∧ u < t + 1) ∧ Ch O false (nn - 1) 1 u (fun _ => false) w ∧ (if j = 0 then u else w j) = d) := by
        intro s2 Q2 z1 z2 z3 z4
        refine ⟨by omega, Q2, z1, z2, fun j d hj hd' => ?_⟩
        rw [z4 j d hj hd', i3 j d hj hd']
        constructor
        · rintro (z | ⟨u, w, x1, ⟨x2, x3⟩, x4, x5⟩)
          · exact Or.inl z
          · exact Or.inr ⟨u, w, x1, ⟨x2, by omega⟩, x4, x5⟩
        · rintro (z | ⟨u, w, x1, ⟨x2, x3⟩, x4, x5⟩)
          · exact Or.inl z
          · by_cases q : u = t
            · subst q
              exact absurd ⟨x2, w, x4⟩ z3
            · exact Or.inr ⟨u, w, x1, ⟨x2, by omega⟩, x4, x5⟩
      cases hO : O 0 t
      · refine ⟨s, hsk s Q' i1 i2 (fun z => by rw [hO] at z; cases z.1) (fun _ _ _ _ => Iff.rfl), ?_⟩
        show f_Siv_addUp_7 F (n + 1) v (nI t) s = _
        rw [f_Siv_addUp_7, b_Siv_addUp_7, if_neg (show ¬ (6 : Int32) < nI t from nI_nlt (a := 6) (b := (t)) (by omega) (by omega)), k3, bnd_s, show aI s (v + 1) (0 : Int32) = some (nI (mkd (O 0))) from k4, bnd_s, if_pos ((mkd_bit _ hd).mpr hO), b_Siv_addUp_48, nI_1]
      · obtain ⟨h2', Q2, b2, g1, g2, g3, g4, g5⟩ := s_fits hW3 hF (nn - 1) 1 t (fun _ => false) Q' RD s (by omega) (by omega) (by omega) (by have : nn ≤ 6 := i1.2.2.2.2.1; unfold RD; omega) i1 (fun _ _ => rfl)
        have g3' : Fr (fun k => k = v ∨ k = v + 2) h h2' := i2.tr (g3.mo fun k hk => Or.inr hk)
        have hcall : f_Siv_addUp_7 F (n + 1) v (nI t) s = (if (if b2 then (1 : Int32) else 0) = (0 : Int32) then f_Siv_addUp_7 F n v (nI (t + 1)) h2' else bnd (gR h2' v 6 1) fun x5 => bnd (aI h2' x5 (0 : Int32)) fun x6 => bnd (sI h2' x5 (0 : Int32) (x6 ||| ((1 : Int32) <<< (nI t &&& 31)))) fun h7 => f_Siv_addUp_7 F n v (nI (t + 1)) h7) := by
          rw [f_Siv_addUp_7, b_Siv_addUp_7, if_neg (show ¬ (6 : Int32) < nI t from nI_nlt (a := 6) (b := (t)) (by omega) (by omega)), k3, bnd_s, show aI s (v + 1) (0 : Int32) = some (nI (mkd (O 0))) from k4, bnd_s, if_neg (fun z => by rw [(mkd_bit _ hd).mp z] at hO; cases hO), show f_Siv_fits F RD v (1 : Int32) (nI t) (0 : Int32) s = some (if b2 then 1 else 0, h2') from g1, bnd2_s]
          simp only [b_Siv_addUp_48, nI_1]
        cases hb : b2
        · refine ⟨h2', hsk h2' Q2 g2 g3' (fun ⟨_, z⟩ => by have := g4.mpr z; rw [hb] at this; cases this) (fun j d hj hd' => ?_), ?_⟩
          · rw [g5 j d hj hd']
            exact ⟨fun z => z.elim id (fun ⟨_, w, z, _⟩ => by have := g4.mpr ⟨w, z⟩; rw [hb] at this; cases this), Or.inl⟩
          · show f_Siv_addUp_7 F (n + 1) v (nI t) s = _
            rw [hcall, hb, if_pos (by rfl)]
        · obtain ⟨l1, l2, l3, l4, l5⟩ := g2.k (show 0 < nn by omega)
          obtain ⟨h3, s1, s2, s3⟩ := g2.set (show 0 < nn by omega) fun d => Q2 0 d || decide (d = t)
          obtain ⟨w0, hw0⟩ := g4.mp hb
          refine ⟨h3, ⟨by omega, _, s2, g3'.tr (s3.mo fun k hk => Or.inr hk), fun j d hj hd' => ?_⟩, ?_⟩
          · have hQ2 := g5 j d hj hd'
            unfold up2
            by_cases q : j = 0
            · subst q
              rw [if_pos rfl, Bool.or_eq_true, hQ2, i3 0 d hj hd', decide_eq_true_iff]
              constructor
              · rintro (((z | ⟨u, w, x1, ⟨x2, x3⟩, x4, x5⟩) | ⟨z, _⟩) | z)
                · exact Or.inl z
                · exact Or.inr ⟨u, w, x1, ⟨x2, by omega⟩, x4, x5⟩
                · omega
                · exact Or.inr ⟨t, w0, hd, ⟨hO, by omega⟩, hw0, by rw [if_pos rfl]; exact z.symm⟩
              · rintro (z | ⟨u, w, x1, ⟨x2, x3⟩, x4, x5⟩)
                · exact Or.inl (Or.inl (Or.inl z))
                · by_cases q : u = t
                  · rw [if_pos rfl, q] at x5
                    exact Or.inr x5.symm
                  · exact Or.inl (Or.inl (Or.inr ⟨u, w, x1, ⟨x2, by omega⟩, x4, x5⟩))
            · rw [if_neg q, hQ2, i3 j d hj hd']
              constructor
              · rintro ((z | ⟨u, w, x1, ⟨x2, x3⟩, x4, x5⟩) | ⟨_, w, z, y⟩)
                · exact Or.inl z
                · exact Or.inr ⟨u, w, x1, ⟨x2, by omega⟩, x4, x5⟩
                · exact Or.inr ⟨t, w, hd, ⟨hO, by omega⟩, z, by rw [if_neg q]; exact y⟩
              · rintro (z | ⟨u, w, x1, ⟨x2, x3⟩, x4, x5⟩)
                · exact Or.inl (Or.inl z)
                · by_cases q2 : u = t
                  · subst q2
                    rw [if_neg q] at x5
                    exact Or.inr ⟨by omega, w, x4, x5⟩
                  · exact Or.inl (Or.inr ⟨u, w, x1, ⟨x2, by omega⟩, x4, x5⟩)
          · show f_Siv_addUp_7 F (n + 1) v (nI t) s = _
            rw [hcall, hb, if_neg (by decide), l1, bnd_s, show aI h2' (v + 2) (0 : Int32) = some (nI (mkd (Q2 0))) from l2, bnd_s, mkd_1 hd, mkd_or, show sI h2' (v + 2) (0 : Int32) (nI (mkd fun d => Q2 0 d || decide (d = t))) = some h3 from s1, bnd_s]) 6 1 h1 F rfl (by omega) ⟨by omega, Q, H1, F1, fun j d _ _ => ⟨Or.inl, fun z => z.elim id fun ⟨u, w, x1, ⟨x2, x3⟩, _⟩ => by have := isD_b x1; omega⟩⟩
  obtain ⟨m, hm⟩ : ∃ m, F - 6 = m + 1 := ⟨F - 7, by omega⟩
  refine ⟨h3, W1, Q', ?_, i1, i2, fun j d hj hd => (i3 j d hj hd).trans ⟨fun z => z.imp id fun ⟨u, w, x1, ⟨x2, x3⟩, x4⟩ => ⟨u, w, x1, x2, x4⟩, fun z => z.imp id fun ⟨u, w, x1, x2, x4⟩ => ⟨u, w, x1, ⟨x2, (isD_b x1).2⟩, x4⟩⟩⟩
  rw [e0]
  refine Eq.trans e1 ?_
  show f_Siv_addUp_7 F (F - 6) v (nI 7) h3 = _
  rw [hm, f_Siv_addUp_7, b_Siv_addUp_7, if_pos (show (6 : Int32) < nI 7 from nI_lt (a := 6) (b := 7) (by omega) (by omega))]
noncomputable def siftI (R : RT) (K : Nat → Nat → Bool) (k i : Nat) : Nat → Nat → Bool := fun c d => K c d && @decide (∀ j, j < i → rc R k j = c → Kp R K k j d) (Classical.propDecidable _)
theorem siftI_t {R : RT} {K : Nat → Nat → Bool} {k i c d : Nat} : siftI R K k i c d = true ↔ K c d = true ∧ ∀ j, j < i → rc R k j = c → Kp R K k j d := by
  unfold siftI
  rw [Bool.and_eq_true, @decide_eq_true_iff _ (Classical.propDecidable _)]
theorem bool_i {a b : Bool} (h : a = true ↔ b = true) : a = b := by
  cases a <;> cases b <;> simp_all
/-- the sieve's own cells -/
def SQ (q : Nat) : Nat → Prop := fun k => q + 1 ≤ k ∧ k < q + 4
/-- what the sieve writes -/
def SW (p q : Nat) : Nat → Prop := fun k => k = p ∨ k = p + 1 ∨ (q + 1 ≤ k ∧ k < q + 4)
theorem s_rest {h : PH} {p q r : Nat} {K : Nat → Nat → Bool} {P T S : Nat → Bool} {R : RT} {W : Nat → Value} {Y : Nat → Nat → Bool} {k : Nat} (H : PosAt h p K P T S) (HR : RulAt h r R) (hR : ROK R) (hk : k < rn R) (HS : SvAt h (q + 1) W (rl R k) (fun j => K (rc R k j)) Y) (hY : ∀ j d, j < rl R k → isD d = true → (Y j d = true ↔ Kp R K k j d))
    (hpq : q + 4 ≤ p ∨ p + 2 ≤ q) (hpr : r + 7 ≤ p ∨ p + 2 ≤ r) {F : Nat} (hF : 40 ≤ F) :
    ∃ rm h' T', b_Siv_sift_110 F (q + 1) p r (nI k) h = some (nI rm, h') ∧ PosAt h' p (sift R K k) P T' S ∧ TR T K T' (sift R K k) ∧ rm + tot (sift R K k) = tot K ∧ Fr (PS p) h h' := by
  have hn6 : rl R k ≤ 6 := HS.2.2.2.2.1
  obtain ⟨⟨x4, h'⟩, ⟨rm, T', i0, i1, i2, i3, i4⟩, e1⟩ := LC (fun n i (s : Int32 × PH) => f_Siv_sift_116 F n (q + 1) p r (nI k) s.1 (nI i) s.2) (fun i s => ∃ rm T', s.1 = nI rm ∧ PosAt s.2 p (siftI R K k i) P T' S ∧ TR T K T' (siftI R K k i) ∧ rm + tot (siftI R K k i) = tot K ∧ Fr (PS p) h s.2) (rl R k)
    (fun n i s hi ⟨rm, T', i0, i1, i2, i3, i4⟩ => by
      have hc := (hR.2 k hk).2.2.1 i hi
      obtain ⟨a0, a1, a2, a3, a4, ⟨f, a5, a7⟩, g, a6, a8⟩ := HS
      have fr : ∀ j, ¬ PS p j → s.2.2 j = h.2 j := fun j hj => i4.2 j hj
      have HS' : SvAt s.2 (q + 1) W (rl R k) (fun j => K (rc R k j)) Y := ⟨(fr _ (by simp only [PS]; omega)).trans a0, a1, a2, a3, a4, ⟨f, (fr _ (by simp only [PS]; omega)).trans a5, a7⟩, g, (fr _ (by simp only [PS]; omega)).trans a6, a8⟩
      have HR' := HR.fr i4 fun j hj z => by simp only [UR, PS] at hj z; omega
      obtain ⟨k1, k2, k3, k4, k5⟩ := HS'.k hi
      obtain ⟨rm2, h2, T2, g1, g2, g3, g4, g5⟩ := p_removeDigits i1 (fun d => K (rc R k i) d && !Y i d) (CS.one hc) hF
      have hK : ∀ c, c < 36 → ∀ d, isD d = true → (siftI R K k i c d && !((K (rc R k i) d && !Y i d) && decide (c = rc R k i))) = siftI R K k (i + 1) c d := by
        intro c hc' d hd
        apply bool_i
        rw [Bool.and_eq_true, siftI_t, siftI_t, Bool.not_eq_true']
        constructor
        · rintro ⟨⟨x1, x2⟩, x3⟩
          refine ⟨x1, fun j hj hjc => ?_⟩
          by_cases w : j = i
          · subst w
            rw [← hY j d hi hd]
            subst hjc
            simpa [x1] using x3
          · exact x2 j (by omega) hjc
        · rintro ⟨x1, x2⟩
          refine ⟨⟨x1, fun j hj hjc => x2 j (by omega) hjc⟩, ?_⟩
          by_cases w : c = rc R k i
          · have := (hY i d hi hd).mpr (x2 i (by omega) w.symm)
            simp [this]
          · simp [w]
      have gt := tot_ext hK
      refine ⟨(nI (rm + rm2), h2), ⟨_, T2, rfl, g2.x hK (fun _ _ => rfl) (fun _ _ => rfl) (fun _ _ => rfl), (i2.tr g3).x hK, by omega, i4.tr g4⟩, ?_⟩
      show f_Siv_sift_116 F (n + 1) (q + 1) p r (nI k) s.1 (nI i) s.2 = _
      rw [f_Siv_sift_116, b_Siv_sift_116, k5, bnd_s, if_neg (show ¬ nI (rl R k) ≤ nI i from nI_ge hi (by omega)), k3, bnd_s, k4, bnd_s, k1, bnd_s, k2, bnd_s, (ru_ck HR').1, bnd_s, ru_c HR' hR hk hi, bnd_s, i1.ck, bnd_s, mkd_sub, g1, bnd2_s, i0, nI_add, nI_1]) (rl R k) 0 (0, h) F (by omega) (by omega) ⟨0, T, rfl, H.x (fun c _ d _ => bool_i (by rw [siftI_t]; exact ⟨fun z => ⟨z, fun j hj => by omega⟩, fun z => z.1⟩)) (fun _ _ => rfl) (fun _ _ => rfl) (fun _ _ => rfl), (TR.rf T K).x (fun c _ d _ => bool_i (by rw [siftI_t]; exact ⟨fun z => ⟨z, fun j hj => by omega⟩, fun z => z.1⟩)), by rw [tot_ext (K := siftI R K k 0) (L := K) (fun c _ d _ => bool_i (by rw [siftI_t]; exact ⟨fun z => z.1, fun z => ⟨z, fun j hj => by omega⟩⟩)), Nat.zero_add], Fr.rf _ _⟩
  refine ⟨rm, h', T', ?_, i1, i2, i3, i4⟩
  unfold b_Siv_sift_110
  refine Eq.trans e1 ?_
  obtain ⟨m, hm⟩ : ∃ m, F - rl R k = m + 1 := ⟨F - rl R k - 1, by omega⟩
  have hz : gI h' (q + 1) 6 2 = some (nI (rl R k)) := ob_I ((i4.2 _ (by simp only [PS]; omega)).trans HS.1) (by omega) HS.2.2.2.1
  show f_Siv_sift_116 F (F - rl R k) (q + 1) p r (nI k) x4 (nI (rl R k)) h' = _
  rw [hm, f_Siv_sift_116, b_Siv_sift_116, hz, bnd_s, if_pos (nI_le (Nat.le_refl _) (by omega)), show x4 = nI rm from i0]
theorem s_sift {h : PH} {p q r : Nat} {K : Nat → Nat → Bool} {P T S : Nat → Bool} {R : RT} {k : Nat} (H : PosAt h p K P T S) (HR : RulAt h r R) (hR : ROK R) (hk : k < rn R) (hl2 : 2 ≤ rl R k) (hs : SvSh h q)
    (hpq : q + 4 ≤ p ∨ p + 2 ≤ q) (hpr : r + 7 ≤ p ∨ p + 2 ≤ r) (hqr : q + 4 ≤ r ∨ r + 7 ≤ q) {F : Nat} (hF : 40 ≤ F) :
    ∃ rm h' T', f_Siv_sift F (q + 1) p r (nI k) h = some (nI rm, h') ∧ PosAt h' p (sift R K k) P T' S ∧ TR T K T' (sift R K k) ∧ rm + tot (sift R K k) = tot K ∧ SvSh h' q ∧ Fr (SW p q) h h' := by
  have hkk := hR.2 k hk
  have hn6 : rl R k ≤ 6 := Nat.le_trans hkk.2.1 (mxl_le _)
  obtain ⟨W, f0, g0, b0, b1, b2, b3, b4⟩ := hs
  obtain ⟨r1, r2, r3, r4, r5, r6, _⟩ := ru_k HR hR hk
  have e0 : f_Siv_sift F (q + 1) p r (nI k) h = f_Siv_sift_18 F F (q + 1) p r (nI k) (nI 0) (hset h (q + 1) (obj 6 4 (updV W 2 (.int (nI (rl R k)))))) := by
    unfold f_Siv_sift
    rw [r5, bnd_s, r6, bnd_s, if_neg (show ¬ (6 : Int32) < nI (rl R k) from nI_nlt (a := 6) (by omega) (by omega)), bnd_s, ob_P _ b0 (by omega), bnd_s]
    rfl
  obtain ⟨h1, ⟨f, g, c1, c2, c3, c4, c5⟩, e1⟩ := LC (fun n i h => f_Siv_sift_18 F n (q + 1) p r (nI k) (nI i) h) (fun i h' => ∃ f g, h'.2 (q + 1) = obj 6 4 (updV W 2 (.int (nI (rl R k)))) ∧ h'.2 (q + 2) = oI 6 f ∧ h'.2 (q + 3) = oI 6 g ∧ (∀ j, j < i → f j = nI (mkd (K (rc R k j))) ∧ g j = nI (mkd fun _ => false)) ∧ Fr (SQ q) h h') (rl R k)
    (fun n i s hi ⟨f, g, c1, c2, c3, c4, c5⟩ => by
      have hc := hkk.2.2.1 i hi
      have HR' := HR.fr c5 fun j hj z => by simp only [UR, SQ] at hj z; omega
      have H' : PosAt s p K P T S := H.fr (c5.2 _ (by simp only [SQ]; omega)) (c5.2 _ (by simp only [SQ]; omega))
      have hR0 : gR s (q + 1) 6 0 = some (q + 2) := ob_R c1 (by omega) (by simpa [updV] using b1)
      have hz : gI s (q + 1) 6 2 = some (nI (rl R k)) := ob_I c1 (by omega) (by simp [updV])
      refine ⟨hset (hset s (q + 2) (oI 6 (upd f i (nI (mkd (K (rc R k i))))))) (q + 3) (oI 6 (upd g i 0)), ⟨upd f i (nI (mkd (K (rc R k i)))), upd g i 0, (hset_n _ _ (by omega)).trans ((hset_n _ _ (by omega)).trans c1), (hset_n _ _ (by omega)).trans (hset_s _ _ _), hset_s _ _ _, fun j hj => ?_, (c5.st _ (by simp only [SQ]; omega)).st _ (by simp only [SQ]; omega)⟩, ?_⟩
      · by_cases w : j = i
        · subst w
          rw [pk_us, pk_us]
          exact ⟨rfl, rfl⟩
        · rw [pk_un w, pk_un w]
          exact c4 j (by omega)
      · have hR1 : gR (hset s (q + 2) (oI 6 (upd f i (nI (mkd (K (rc R k i))))))) (q + 1) 6 1 = some (q + 3) := ob_R ((hset_n _ _ (by omega)).trans c1) (by omega) (by simpa [updV] using b2)
        show f_Siv_sift_18 F (n + 1) (q + 1) p r (nI k) (nI i) s = _
        rw [f_Siv_sift_18, b_Siv_sift_18, hz, bnd_s, if_neg (show ¬ nI (rl R k) ≤ nI i from nI_ge hi (by omega)), hR0, bnd_s, (ru_ck HR').1, bnd_s, ru_c HR' hR hk hi, bnd_s, H'.ck, bnd_s, p_digitsOf H' hc hF, bnd_s, ar_sI _ c2 (by omega) (by omega), bnd_s, hR1, bnd_s, ar_sI _ ((hset_n _ _ (by omega)).trans c3) (by omega) (by omega), bnd_s, nI_1]) (rl R k) 0 (hset h (q + 1) (obj 6 4 (updV W 2 (.int (nI (rl R k)))))) F (by omega) (by omega) ⟨f0, g0, hset_s _ _ _, (hset_n _ _ (by omega)).trans b3, (hset_n _ _ (by omega)).trans b4, fun j hj => by omega, (Fr.rf _ _).st (S := SQ q) _ ⟨by omega, by omega⟩⟩
  have S1 : SvAt h1 (q + 1) (updV W 2 (.int (nI (rl R k)))) (rl R k) (fun j => K (rc R k j)) (fun _ _ => false) := ⟨c1, by simpa [updV] using b1, by simpa [updV] using b2, by simp [updV], hn6, ⟨f, c2, fun j hj => (c4 j hj).1⟩, g, c3, fun j hj => (c4 j hj).2⟩
  have fin : ∀ (h2 : PH) (W' : Nat → Value) (Y : Nat → Nat → Bool), SvAt h2 (q + 1) W' (rl R k) (fun j => K (rc R k j)) Y → Fr (SQ q) h h2 → (∀ j d, j < rl R k → isD d = true → (Y j d = true ↔ Kp R K k j d)) →
      ∃ rm h' T', b_Siv_sift_110 F (q + 1) p r (nI k) h2 = some (nI rm, h') ∧ PosAt h' p (sift R K k) P T' S ∧ TR T K T' (sift R K k) ∧ rm + tot (sift R K k) = tot K ∧ SvSh h' q ∧ Fr (SW p q) h h' := by
    intro h2 W' Y x1 x2 x3
    have HR' := HR.fr x2 fun j hj z => by simp only [UR, SQ] at hj z; omega
    have H' : PosAt h2 p K P T S := H.fr (x2.2 _ (by simp only [SQ]; omega)) (x2.2 _ (by simp only [SQ]; omega))
    obtain ⟨rm, h', T', g1, g2, g3, g4, g5⟩ := s_rest H' HR' hR hk x1 x3 hpq hpr hF
    obtain ⟨y0, y1, y2, y3, y4, ⟨f', y5, _⟩, g', y6, _⟩ := x1
    exact ⟨rm, h', T', g1, g2, g3, g4, ⟨W', f', g', (g5.2 _ (by simp only [PS]; omega)).trans y0, y1, y2, (g5.2 _ (by simp only [PS]; omega)).trans y5, (g5.2 _ (by simp only [PS]; omega)).trans y6⟩, (x2.mo fun j hj => by simp only [SQ, SW] at hj ⊢; omega).tr (g5.mo fun j hj => by simp only [PS, SW] at hj ⊢; omega)⟩
  obtain ⟨m, hm⟩ : ∃ m, F - rl R k = m + 1 := ⟨F - rl R k - 1, by omega⟩
  have HR1 := HR.fr c5 fun j hj z => by simp only [UR, SQ] at hj z; omega
  obtain ⟨q1, q2, q3, q4, _⟩ := ru_k HR1 hR hk
  have hz : gI h1 (q + 1) 6 2 = some (nI (rl R k)) := ob_I c1 (by omega) (by simp [updV])
  have e2 : f_Siv_sift F (q + 1) p r (nI k) h = f_Siv_sift_18 F (m + 1) (q + 1) p r (nI k) (nI (rl R k)) h1 := by rw [e0, ← hm]; exact e1
  rw [e2, f_Siv_sift_18, b_Siv_sift_18, hz, bnd_s, if_pos (nI_le (Nat.le_refl _) (by omega)), q1, bnd_s, q2, bnd_s]
  have h3 := hkk.1
  by_cases w2 : rk R k = 2
  · rw [if_pos (show nI (rk R k) = (2 : Int32) from congrArg nI w2), ob_K c1, bnd_s]
    obtain ⟨h2, Y, g1, g2, g3, g4, g5⟩ := s_ascend S1 hF
    rw [g1, bnd_s]
    exact fin h2 _ Y g2 (c5.tr (g4.mo fun j hj => by simp only [SQ]; omega)) fun j d hj hd => g3.fix w2 g5 hj hd
  rw [if_neg (show ¬ nI (rk R k) = (2 : Int32) from fun z => w2 ((nI_eq (b := 2) (by omega) (by omega)).mp z)), bnd_s, q2, bnd_s]
  by_cases w0 : rk R k = 0
  · rw [if_pos (show nI (rk R k) = (0 : Int32) from congrArg nI w0), ob_P _ c1 (by omega), bnd_s]
    have S2 : SvAt (hset h1 (q + 1) (obj 6 4 (updV (updV W 2 (.int (nI (rl R k)))) 3 (.int 1)))) (q + 1) (updV (updV W 2 (.int (nI (rl R k)))) 3 (.int 1)) (rl R k) (fun j => K (rc R k j)) (fun _ _ => false) :=
      ⟨hset_s _ _ _, by simpa [updV] using b1, by simpa [updV] using b2, by simp [updV], hn6, ⟨f, (hset_n _ _ (by omega)).trans c2, fun j hj => (c4 j hj).1⟩, g, (hset_n _ _ (by omega)).trans c3, fun j hj => (c4 j hj).2⟩
    have F2 : Fr (SQ q) h (hset h1 (q + 1) (obj 6 4 (updV (updV W 2 (.int (nI (rl R k)))) 3 (.int 1)))) := c5.st (S := SQ q) _ ⟨by omega, by omega⟩
    have hW3 : updV (updV W 2 (.int (nI (rl R k)))) 3 (.int 1) 3 = .int (if true then 1 else 0) := by simp [updV]
    generalize updV (updV W 2 (.int (nI (rl R k)))) 3 (.int 1) = W2 at *
    generalize hset h1 (q + 1) (obj 6 4 W2) = h2 at *
    have HR2 := HR.fr F2 fun j hj z => by simp only [UR, SQ] at hj z; omega
    obtain ⟨_, _, y3, y4, _⟩ := ru_k HR2 hR hk
    obtain ⟨h3, Y, b, g1, g2, g3, g4, g5⟩ := s_fits hW3 hF (rl R k) 0 (rs R k) (fun _ => false) _ RD h2 (by omega) (by omega) (by have := hkk.2.2.2.2; omega) (by unfold RD; omega) S2 (fun z => by cases z)
    rw [y3, bnd_s, y4, bnd_s, show f_Siv_fits F RD (q + 1) (0 : Int32) (nI (rs R k)) (0 : Int32) h2 = some (if b then 1 else 0, h3) from g1, bnd2_s]
    refine fin h3 _ Y g2 (F2.tr (g3.mo fun j hj => by simp only [SQ]; omega)) fun j d hj hd => ?_
    rw [g5 j d hj hd, Kp_cage w0]
    exact ⟨fun z => z.elim (fun z => by cases z) fun z => z.2, fun z => Or.inr ⟨Nat.zero_le _, z⟩⟩
  · have w1 : rk R k = 1 := by omega
    rw [if_neg (show ¬ nI (rk R k) = (0 : Int32) from fun z => w0 ((nI_eq (b := 0) (by omega) (by omega)).mp z)), ob_K c1, bnd_s]
    obtain ⟨h2, W', Y, g1, g2, g3, g4⟩ := s_addUp S1 hl2 hF
    rw [g1, bnd_s]
    refine fin h2 _ Y g2 (c5.tr (g3.mo fun j hj => by simp only [SQ]; omega)) fun j d hj hd => ?_
    rw [g4 j d hj hd, Kp_arrow w1 (by omega)]
    exact ⟨fun z => z.elim (fun z => by cases z) id, Or.inr⟩
