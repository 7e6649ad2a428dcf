/-! The digest: what it says; the class's, the reference's. -/
theorem bndT_s {α β : Type} (a : α) (h : PH) (k : α → PH → Option ((Nat ⊕ β) × PH)) : bndT (some (.inr a, h)) k = k a h := rfl
def fo (f : Nat → Int32) : Nat → Int64 → Int64
  | 0, z => z
  | n + 1, z => (31 : Int64) * fo f n z + (f n).toInt64
def ceD (x : ST) : Nat → Int64 → Int64
  | 0, z => z
  | n + 1, z => (31 : Int64) * ((31 : Int64) * ((31 : Int64) * ceD x n z + (nI (mkd (tK x n))).toInt64) + (celV x n 0).toInt64) + (celV x n 1).toInt64
def ruV (R : RT) (k : Nat) : Nat → Int32 := fun i => if i = 0 then nI (rk R k) else if i = 1 then nI (rs R k) else if i = 2 then nI (rl R k) else nI (rc R k (i - 3))
def ruD (R : RT) : Nat → Int64 → Int64
  | 0, z => z
  | n + 1, z => fo (ruV R n) (3 + rl R n) (ruD R n z)
def logV (x : ST) : Nat → Int32 := fun i => tE x (i / 3) (i % 3)
def d1 (x : ST) (tl : Nat) : Int64 := fo (cntV x) 6 ((94271 : Int64) + (nI tl).toInt64)
def d3 (x : ST) (tl : Nat) : Int64 := ruD (tR x) (rn (tR x)) (ceD x 36 (d1 x tl))
def d4 (x : ST) (tl : Nat) : Int64 := fo (logV x) (3 * tN x) ((31 : Int64) * d3 x tl + (nI (tN x)).toInt64)
def dgX (x : ST) (m tl kd : Nat) : Int64 := (31 : Int64) * ((31 : Int64) * d4 x tl + (nI kd).toInt64) + (nI m).toInt64
theorem c_rulH {h : PH} {r : Nat} {R : RT} (H : RulAt h r R) (hR : ROK R) (z : Int64) {F : Nat} (hF : 3000 ≤ F) : f_Rul_hash F r z h = some (ruD R (rn R) z) := by
  have h8 := hR.1
  obtain ⟨s, e, el⟩ := LC (fun n i (s : Int64) => f_Rul_hash_5 F n r s (nI i) h) (fun i s => s = ruD R i z) (rn R)
    (fun n k s hk e => by
      subst e
      refine ⟨_, rfl, ?_⟩
      have hl := (hR.2 k hk).2.1
      have hmx := mxl_le (rk R k)
      obtain ⟨q1, q2, q3, q4, q5, q6, _⟩ := ru_k H hR hk
      obtain ⟨s2, e2, el2⟩ := LC (fun n' i (s : Int64) => f_Rul_hash_62 F (f_Rul_hash_5 F n) n' r s (nI k) (nI i) h) (fun i s => s = fo (ruV R k) (3 + i) (ruD R k z)) (rl R k)
        (fun n' i s hi e => by
          subst e
          refine ⟨_, rfl, ?_⟩
          show f_Rul_hash_62 F (f_Rul_hash_5 F n) (n' + 1) r _ (nI k) (nI i) h = _
          rw [f_Rul_hash_62, b_Rul_hash_62, q5, bnd_s, q6, bnd_s, if_neg (show ¬ nI (rl R k) ≤ nI i from nI_ge (by omega) (by omega)), (ru_ck H).1, bnd_s, ru_c H hR hk hi, bnd_s, bnd_s, nI_1]
          have hv : ruV R k (3 + i) = nI (rc R k i) := by
            unfold ruV
            rw [if_neg (by omega), if_neg (by omega), if_neg (by omega), show 3 + i - 3 = i by omega]
          rw [← hv]
          rfl) (rl R k) 0 (fo (ruV R k) 3 (ruD R k z)) F (Nat.zero_add _) (by omega) rfl
      obtain ⟨n', hn'⟩ : ∃ n', F - rl R k = n' + 1 := ⟨F - rl R k - 1, by omega⟩
      show f_Rul_hash_5 F (n + 1) r _ (nI k) h = _
      rw [f_Rul_hash_5, b_Rul_hash_5, (ru_ck H).2, bnd_s, if_neg (show ¬ nI (rn R) ≤ nI k from nI_ge (by omega) (by omega)), q1, bnd_s, q2, bnd_s, bnd_s, q3, bnd_s, q4, bnd_s, bnd_s, q5, bnd_s, q6, bnd_s, bnd_s]
      refine Eq.trans el2 ?_
      show f_Rul_hash_62 F (f_Rul_hash_5 F n) (F - rl R k) r s2 (nI k) (nI (rl R k)) h = _
      rw [hn', f_Rul_hash_62, b_Rul_hash_62, q5, bnd_s, q6, bnd_s, if_pos (show nI (rl R k) ≤ nI (rl R k) from nI_le (Nat.le_refl _) (by omega)), nI_1, e2]
      rfl) (rn R) 0 z F (Nat.zero_add _) (by omega) rfl
  obtain ⟨n', hn'⟩ : ∃ n', F - rn R = n' + 1 := ⟨F - rn R - 1, by omega⟩
  unfold f_Rul_hash
  refine Eq.trans el ?_
  show f_Rul_hash_5 F (F - rn R) r s (nI (rn R)) h = _
  rw [hn', f_Rul_hash_5, b_Rul_hash_5, (ru_ck H).2, bnd_s, if_pos (show nI (rn R) ≤ nI (rn R) from nI_le (Nat.le_refl _) (by omega)), e]
theorem c_logH {h : PH} {x : ST} (z : Int64) (h100 : tN x ≤ 100) (hn : gI h (1 + 11) 0 2 = some (nI (tN x))) (hck : cK h (1 + 11) 0 = some ()) (hva : ∀ i j, i < tN x → j < 3 → f_Log_valueAt (1 + 11) (nI i) (nI j) h = some (tE x i j)) {F : Nat} (hF : 3000 ≤ F) : f_Log_hash F (1 + 11) z h = some (fo (logV x) (3 * tN x) ((31 : Int64) * z + (nI (tN x)).toInt64)) := by
  obtain ⟨s, e, el⟩ := LC (fun n i (s : Int64) => f_Log_hash_15 F n (1 + 11) s (nI i) h) (fun i s => s = fo (logV x) (3 * i) ((31 : Int64) * z + (nI (tN x)).toInt64)) (tN x)
    (fun n k s hk e => by
      subst e
      refine ⟨_, rfl, ?_⟩
      obtain ⟨s2, e2, el2⟩ := LC (fun n' i (s : Int64) => f_Log_hash_27 F (f_Log_hash_15 F n) n' (1 + 11) s (nI k) (nI i) h) (fun i s => s = fo (logV x) (3 * k + i) ((31 : Int64) * z + (nI (tN x)).toInt64)) 3
        (fun n' i s hi e => by
          subst e
          refine ⟨_, rfl, ?_⟩
          show f_Log_hash_27 F (f_Log_hash_15 F n) (n' + 1) (1 + 11) _ (nI k) (nI i) h = _
          rw [f_Log_hash_27, b_Log_hash_27, if_neg (show ¬ (3 : Int32) ≤ nI i from nI_ge (a := (i)) (b := 3) (by omega) (by omega)), hck, bnd_s, hva k i hk hi, bnd_s, bnd_s, nI_1]
          have hv : logV x (3 * k + i) = tE x k i := by
            unfold logV
            rw [show (3 * k + i) / 3 = k by omega, show (3 * k + i) % 3 = i by omega]
          rw [← hv]
          rfl) 3 0 (fo (logV x) (3 * k) ((31 : Int64) * z + (nI (tN x)).toInt64)) F rfl (by omega) rfl
      obtain ⟨n', hn'⟩ : ∃ n', F - 3 = n' + 1 := ⟨F - 4, by omega⟩
      show f_Log_hash_15 F (n + 1) (1 + 11) _ (nI k) h = _
      rw [f_Log_hash_15, b_Log_hash_15, hn, bnd_s, if_neg (show ¬ nI (tN x) ≤ nI k from nI_ge (by omega) (by omega))]
      refine Eq.trans el2 ?_
      show f_Log_hash_27 F (f_Log_hash_15 F n) (F - 3) (1 + 11) s2 (nI k) (nI 3) h = _
      rw [hn', f_Log_hash_27, b_Log_hash_27, if_pos (show (3 : Int32) ≤ nI 3 from nI_le (a := 3) (b := 3) (by omega) (by omega)), nI_1, e2]
      rfl) (tN x) 0 _ F (Nat.zero_add _) (by omega) rfl
  obtain ⟨n', hn'⟩ : ∃ n', F - tN x = n' + 1 := ⟨F - tN x - 1, by omega⟩
  unfold f_Log_hash
  rw [hn, bnd_s, bnd_s]
  refine Eq.trans el ?_
  show f_Log_hash_15 F (F - tN x) (1 + 11) s (nI (tN x)) h = _
  rw [hn', f_Log_hash_15, b_Log_hash_15, hn, bnd_s, if_pos (show nI (tN x) ≤ nI (tN x) from nI_le (Nat.le_refl _) (by omega)), e]
theorem c_digest {h : PH} {x : ST} {m : Nat} {sv : Nat → ST} {tl : Nat} {tx : Nat → Int32} (H : CW h x m sv tl tx) (hv : VAL x) {F : Nat} (hF : 3000 ≤ F) : ∃ kd pl K' P' h', NX (tR x) (tK x) (tP x) kd pl K' P' ∧ f_Np_digest F 0 h = some (.inr (dgX x m tl kd), h') ∧ CW h' x m sv tl tx ∧ Fr (fun k => k < 263) h h' := by
  obtain ⟨kd, pl, K', P', h', g1, g2, _, g3, g4⟩ := c_hint H hv hF
  obtain ⟨n1, n2, n3, n4, n5, n6, n7, n8, n9, n10, n11, n12, n13⟩ := np_hd H
  obtain ⟨lg, l100, hva⟩ := c_step' H
  obtain ⟨⟨T0, S0, hC1, hC2⟩, _⟩ := id H
  have sr := sta_r hC1
  have htl : gI h 28 2 1 = some (nI tl) := by
    obtain ⟨V, f, a0, a1, a2, _⟩ := H.2.2.1.choose_spec.choose_spec.choose_spec.2.2.2.2.2.2.2.2.2.2
    exact ob_I a0 (by omega) a2
  have hlog : gI h (1 + 11) 0 2 = some (nI (tN x)) := by
    obtain ⟨V, q, f, a0, a1, a2, a3, _⟩ := hC1.2.2.2.2
    exact ob_I a0 (by omega) a3
  refine ⟨kd, pl, K', P', h', g1, ?_, g3, g4⟩
  obtain ⟨s1, e1, el1⟩ := LC (fun n i (s : Int64) => f_Np_digest_15 F n 0 s (nI i) h) (fun i s => s = fo (cntV x) i ((94271 : Int64) + (nI tl).toInt64)) 6
    (fun n i s hi e => by
      subst e
      refine ⟨_, rfl, ?_⟩
      show f_Np_digest_15 F (n + 1) 0 _ (nI i) h = _
      rw [f_Np_digest_15, b_Np_digest_15, if_neg (show ¬ (5 : Int32) < nI i from nI_nlt (a := 5) (b := i) (by omega) (by omega)), n12, bnd_s, c_cnt H hv hi hF]
      show bnd (some _) _ = _
      rw [bnd_s, nI_1]
      rfl) 6 0 _ F rfl (by omega) rfl
  obtain ⟨s2, e2, el2⟩ := LC (fun n i (s : Int64) => f_Np_digest_41 F n 0 s (nI i) h) (fun i s => s = ceD x i (d1 x tl)) 36
    (fun n i s hi e => by
      subst e
      refine ⟨_, rfl, ?_⟩
      show f_Np_digest_41 F (n + 1) 0 _ (nI i) h = _
      rw [f_Np_digest_41, b_Np_digest_41, if_neg (show ¬ (36 : Int32) ≤ nI i from nI_ge (a := (i)) (b := 36) (by omega) (by omega)), n12, bnd_s, c_cand H hi hF, bndT_s, bnd_s, n12, bnd_s, show f_Np_cell F 0 (nI i) (0 : Int32) h = _ from c_cell H hi (w := 0) (by omega) hF, bndT_s, bnd_s, n12, bnd_s, show f_Np_cell F 0 (nI i) (1 : Int32) h = _ from c_cell H hi (w := 1) (by omega) hF, bndT_s, bnd_s, nI_1]
      rfl) 36 0 (d1 x tl) F rfl (by omega) rfl
  obtain ⟨m1, hm1⟩ : ∃ n, F - 6 = n + 1 := ⟨F - 7, by omega⟩
  obtain ⟨m2, hm2⟩ : ∃ n, F - 36 = n + 1 := ⟨F - 37, by omega⟩
  unfold f_Np_digest
  rw [n13, bnd_s, htl, bnd_s, bnd_s]
  refine Eq.trans el1 ?_
  show f_Np_digest_15 F (F - 6) 0 s1 (nI 6) h = _
  rw [hm1, f_Np_digest_15, b_Np_digest_15, if_pos (show (5 : Int32) < nI 6 by decide), e1]
  refine Eq.trans el2 ?_
  show f_Np_digest_41 F (F - 36) 0 s2 (nI 36) h = _
  rw [hm2, f_Np_digest_41, b_Np_digest_41, if_pos (show (36 : Int32) ≤ nI 36 from nI_le (a := 36) (b := 36) (by omega) (by omega)), n2, bnd_s, n7, bnd_s, bnd_s, n4, bnd_s, (ru_ck hC1.2.2.1).1, bnd_s, c_rulH hC1.2.2.1 hv.1 _ hF, bnd_s, sr.2.2.2.2.2, bnd_s, c_logH _ l100 hlog sr.2.2.2.2.2 (fun i j hi hj => (hva i j hi hj).1) hF, bnd_s, n12, bnd_s, g2, bnd2_s, bnd_s, (np_r g3.2.2.1).2.2.2.2.2.2.2.2.2.2.2, bnd_s, e2]
  rfl
theorem m_mix {h : PH} {mo : Nat} {x : ST} {m : Nat} {sv : Nat → ST} {tl : Nat} {tx : Nat → Int32} {t : Int32} (H : MW h mo x m sv tl tx t) {z : Int64} (hz : gL h mo 10 27 = some z) (v : Int64) : ∃ h', f_Mo_mix mo v h = some h' ∧ MW h' mo x m sv tl tx t ∧ gL h' mo 10 27 = some ((31 : Int64) * z + v) ∧ Fr (DM mo) h h' := by
  obtain ⟨h', p, H', f, V, q, e⟩ := H.f (k := 27) (by rfl) (by omega) (by omega) (by omega) (.long ((31 : Int64) * z + v))
  refine ⟨h', ?_, H', ob_L q (by omega) e, DM.mo' f⟩
  unfold f_Mo_mix
  rw [hz, bnd_s, p, bnd_s]
theorem gL_ob {h : PH} {a ci n k : Nat} {V : Nat → Value} {v : Int64} (e : h.2 a = obj ci n V) (hk : k < n) (g : gL h a ci k = some v) : V k = .long v := by
  unfold gL at g
  rw [ob_g e hk] at g
  cases hq : V k <;> rw [hq] at g <;> first | (cases g; done) | (cases g; rfl)
theorem m_looks27 {h : PH} {mo : Nat} {x : ST} {m : Nat} {sv : Nat → ST} {tl : Nat} {tx : Nat → Int32} {t : Int32} (H : MW h mo x m sv tl tx t) (hR : ROK (tR x)) {z : Int64} (hz : gL h mo 10 27 = some z) {F : Nat} (hF : 3000 ≤ F) :
    ∃ kd pl K' P' h', NX (tR x) (tK x) (tP x) kd pl K' P' ∧ f_Mo_looks F mo h = some (if kd = 0 then 0 else 1, h') ∧ MW h' mo x m sv tl tx t ∧ gI h' mo 10 6 = some (nI kd) ∧ gL h' mo 10 27 = some z ∧ Fr (DM mo) h h' := by
  obtain ⟨h1, p1, H1, ⟨V, M1⟩, f1⟩ := m_load H hF
  have e1 : h1.2 mo = h.2 mo := by
    obtain ⟨⟨W, a0, a1⟩, b, ⟨g1, c1, c2⟩, _, _, q⟩ := id H
    obtain ⟨n6, f6, z6, s6, s7, s8⟩ := q 6 (by omega) (by omega)
    have s72 : 72 ≤ n6 := s6
    obtain ⟨h', p', q1, r1⟩ := m_copyRow (o1 := 0) (o2 := 0) c1 z6 (by omega) (by omega) (by omega) (by omega) s7 (F := F) (by omega)
    have : h' = h1 := Option.some.inj (p'.symm.trans p1)
    rw [← this]
    exact r1.2 mo (by omega)
  obtain ⟨kd, pl, K', P', h2, g1, g2, g3⟩ := m_next M1 hR (F := F) (by omega)
  obtain ⟨H2, z6, z7, _, f2⟩ := H1.ms6 g3
  refine ⟨kd, pl, K', P', h2, g1, ?_, H2, z6, ?_, f1.tr f2⟩
  · unfold f_Mo_looks
    rw [H.r.2.1, bnd_s, H.r.2.2.2.2.1, bnd_s, p1, bnd_s, H1.r.2.2.2.2.1, bnd_s, H1.r.1, bnd_s, g2, bnd2_s]
    by_cases w : kd = 0
    · rw [if_pos w]; rfl
    · rw [if_neg w]; rfl
  · obtain ⟨V1, rm, M0, v6, v7, v8, ht, ⟨m0, m1, m2, m3⟩⟩ := g3
    obtain ⟨W, a0, _⟩ := H1.1
    obtain ⟨V', e0', eV⟩ := m3 W a0
    have hz1 : gL h1 mo 10 27 = some z := by
      unfold gL gV at hz ⊢
      rw [e1]
      exact hz
    exact ob_L e0' (by omega) ((eV 27 (by omega) (by omega) (by omega)).trans (gL_ob a0 (by omega) hz1))
theorem m_digest {h : PH} {mo : Nat} {x : ST} {m : Nat} {sv : Nat → ST} {tl : Nat} {tx : Nat → Int32} {t : Int32} (H : MW h mo x m sv tl tx t) (hv : VAL x) {kd pl : Nat} {K' : Nat → Nat → Bool} {P' : Nat → Bool} (hx : NX (tR x) (tK x) (tP x) kd pl K' P') {F : Nat} (hF : 3000 ≤ F) : ∃ h', f_Mo_digest F mo h = some (dgX x m tl kd, h') ∧ MW h' mo x m sv tl tx 0 ∧ Fr (DM mo) h h' := by
  have h8 := hv.1.1
  have h100 := hv.2.2.2
  obtain ⟨h1, p1, H1, f1⟩ := H.t 0
  obtain ⟨h2, p2, H2, f2, V2, q2, e2⟩ := H1.f (k := 27) (by rfl) (by omega) (by omega) (by omega) (.long (3041 : Int64))
  obtain ⟨h3, p3, H3, z3, f3⟩ := m_mix H2 (ob_L q2 (by omega) e2) (nI tl).toInt64
  have F03 : Fr (DM mo) h h3 := (DM.mo' f1).tr ((DM.mo' f2).tr f3)
  obtain ⟨s1, ⟨i1, i2, i3⟩, el1⟩ := LC (fun n i s => f_Mo_digest_23 F n mo (nI i) s) (fun i s => MW s mo x m sv tl tx 0 ∧ gL s mo 10 27 = some (fo (cntV x) i ((94271 : Int64) + (nI tl).toInt64)) ∧ Fr (DM mo) h s) 6
    (fun n i s hi ⟨i1, i2, i3⟩ => by
      obtain ⟨s', p, H', z', f'⟩ := m_mix i1 i2 (cntV x i).toInt64
      refine ⟨s', ⟨H', z', i3.tr f'⟩, ?_⟩
      show f_Mo_digest_23 F (n + 1) mo (nI i) s = _
      rw [f_Mo_digest_23, b_Mo_digest_23, if_neg (show ¬ (6 : Int32) ≤ nI i from nI_ge (a := (i)) (b := 6) (by omega) (by omega)), i1.r.1, bnd_s, m_countOf i1 hv hi hF, bnd_s, bnd_s, p, bnd_s, nI_1]) 6 0 h3 F rfl (by omega) ⟨H3, by rw [z3]; rfl, F03⟩
  obtain ⟨s2, ⟨j1, j2, j3⟩, el2⟩ := LC (fun n i s => f_Mo_digest_47 F n mo (nI i) s) (fun i s => MW s mo x m sv tl tx 0 ∧ gL s mo 10 27 = some (ceD x i (d1 x tl)) ∧ Fr (DM mo) h s) 36
    (fun n i s hi ⟨i1, i2, i3⟩ => by
      obtain ⟨V, M⟩ := i1.mn
      obtain ⟨s3, p3, H3, z3, f3⟩ := m_mix i1 i2 (nI (mkd (tK x i))).toInt64
      obtain ⟨s4, p4, H4, z4, f4⟩ := m_mix H3 z3 (celV x i 0).toInt64
      obtain ⟨s5, p5, H5, z5, f5⟩ := m_mix H4 z4 (celV x i 1).toInt64
      refine ⟨s5, ⟨H5, z5, i3.tr (f3.tr (f4.tr f5))⟩, ?_⟩
      show f_Mo_digest_47 F (n + 1) mo (nI i) s = _
      rw [f_Mo_digest_47, b_Mo_digest_47, if_neg (show ¬ (36 : Int32) ≤ nI i from nI_ge (a := (i)) (b := 36) (by omega) (by omega)), i1.r.2.1, bnd_s, (M.g hi).1, bnd_s, i1.r.1, bnd_s, p3, bnd_s, H3.r.1, bnd_s, show f_Mo_valueOf F mo (nI i) (0 : Int32) s3 = _ from m_valueOf H3 hv hi (w := 0) (by omega) hF, bnd_s, bnd_s, p4, bnd_s, H4.r.1, bnd_s, show f_Mo_valueOf F mo (nI i) (1 : Int32) s4 = _ from m_valueOf H4 hv hi (w := 1) (by omega) hF, bnd_s, bnd_s, p5, bnd_s, nI_1]) 36 0 s1 F rfl (by omega) ⟨i1, i2, i3⟩
  obtain ⟨s3, ⟨k1, k2, k3⟩, el3⟩ := LC (fun n i s => f_Mo_digest_94 F n mo (nI i) s) (fun i s => MW s mo x m sv tl tx 0 ∧ gL s mo 10 27 = some (ruD (tR x) i (ceD x 36 (d1 x tl))) ∧ Fr (DM mo) h s) (rn (tR x))
    (fun n k s hk ⟨i1, i2, i3⟩ => by
      have hl := (hv.1.2 k hk).2.1
      have hmx := mxl_le (rk (tR x) k)
      obtain ⟨V, M⟩ := i1.mn
      obtain ⟨s4, ⟨l1, l2, l3⟩, el4⟩ := LC (fun n' i s => f_Mo_digest_107 F (f_Mo_digest_94 F n) n' mo (nI k) (nI i) s) (fun i s => MW s mo x m sv tl tx 0 ∧ gL s mo 10 27 = some (fo (ruV (tR x) k) i (ruD (tR x) k (ceD x 36 (d1 x tl)))) ∧ Fr (DM mo) h s) (3 + rl (tR x) k)
        (fun n' i s hi ⟨l1, l2, l3⟩ => by
          obtain ⟨V, M⟩ := l1.mn
          obtain ⟨f, c1, ⟨_, c2⟩, _⟩ := l1.2.2.1
          obtain ⟨r1, r2, r3, r4⟩ := c2 k hk
          obtain ⟨s5, p5, H5, z5, f5⟩ := m_mix l1 l2 (ruV (tR x) k i).toInt64
          refine ⟨s5, ⟨H5, z5, l3.tr f5⟩, ?_⟩
          have hval : f (109 + 9 * k + i) = ruV (tR x) k i := by
            unfold ruV
            by_cases q0 : i = 0
            · subst q0; rw [if_pos rfl]; exact r1
            by_cases q1 : i = 1
            · subst q1; rw [if_neg (by omega), if_pos rfl, show 109 + 9 * k + 1 = 110 + 9 * k by omega]; exact r2
            by_cases q2 : i = 2
            · subst q2; rw [if_neg (by omega), if_neg (by omega), if_pos rfl, show 109 + 9 * k + 2 = 111 + 9 * k by omega]; exact r3
            · rw [if_neg q0, if_neg q1, if_neg q2, show 109 + 9 * k + i = 112 + 9 * k + (i - 3) by omega]; exact r4 _ (by omega)
          show f_Mo_digest_107 F (f_Mo_digest_94 F n) (n' + 1) mo (nI k) (nI i) s = _
          rw [f_Mo_digest_107, b_Mo_digest_107, l1.r.1, bnd_s, (M.k hv.1 hk).2.1, bnd_s, show (3 : Int32) + nI (rl (tR x) k) = nI (3 + rl (tR x) k) from nI_add 3 _, if_neg (show ¬ nI (3 + rl (tR x) k) ≤ nI i from nI_ge (by omega) (by omega)), l1.r.2.1, bnd_s, e109, nI_add, ar_I c1 (by omega) (by omega), bnd_s, hval, bnd_s, p5, bnd_s, nI_1]) (3 + rl (tR x) k) 0 s F (Nat.zero_add _) (by omega) ⟨i1, i2, i3⟩
      refine ⟨s4, ⟨l1, l2, l3⟩, ?_⟩
      obtain ⟨V4, M4⟩ := l1.mn
      obtain ⟨n', hn'⟩ : ∃ n', F - (3 + rl (tR x) k) = n' + 1 := ⟨F - (3 + rl (tR x) k) - 1, by omega⟩
      show f_Mo_digest_94 F (n + 1) mo (nI k) s = _
      rw [f_Mo_digest_94, b_Mo_digest_94, M.n.1, bnd_s, M.n.2, bnd_s, if_neg (show ¬ nI (rn (tR x)) ≤ nI k from nI_ge (by omega) (by omega))]
      refine Eq.trans el4 ?_
      show f_Mo_digest_107 F (f_Mo_digest_94 F n) (F - (3 + rl (tR x) k)) mo (nI k) (nI (3 + rl (tR x) k)) s4 = _
      rw [hn', f_Mo_digest_107, b_Mo_digest_107, l1.r.1, bnd_s, (M4.k hv.1 hk).2.1, bnd_s, show (3 : Int32) + nI (rl (tR x) k) = nI (3 + rl (tR x) k) from nI_add 3 _, if_pos (show nI (3 + rl (tR x) k) ≤ nI (3 + rl (tR x) k) from nI_le (Nat.le_refl _) (by omega)), nI_1]) (rn (tR x)) 0 s2 F (Nat.zero_add _) (by omega) ⟨j1, j2, j3⟩
  obtain ⟨V3, M3⟩ := k1.mn
  obtain ⟨f3', c1, _, _, _, c5, c6⟩ := k1.2.2.1
  obtain ⟨s4, p4, H4, z4, f4⟩ := m_mix k1 k2 (nI (tN x)).toInt64
  obtain ⟨s5, ⟨l1, l2, l3⟩, el5⟩ := LC (fun n i s => f_Mo_digest_164 F n mo (nI i) s) (fun i s => MW s mo x m sv tl tx 0 ∧ gL s mo 10 27 = some (fo (logV x) i ((31 : Int64) * d3 x tl + (nI (tN x)).toInt64)) ∧ Fr (DM mo) h s) (3 * tN x)
    (fun n i s hi ⟨l1, l2, l3⟩ => by
      obtain ⟨f, c1, _, _, _, c5, c6⟩ := l1.2.2.1
      obtain ⟨s5, p5, H5, z5, f5⟩ := m_mix l1 l2 (logV x i).toInt64
      refine ⟨s5, ⟨H5, z5, l3.tr f5⟩, ?_⟩
      have hval : f (182 + i) = logV x i := by
        unfold logV
        have := c6 (i / 3) (i % 3) (by omega) (Nat.mod_lt _ (by omega))
        rw [show 182 + 3 * (i / 3) + i % 3 = 182 + i by omega] at this
        exact this
      show f_Mo_digest_164 F (n + 1) mo (nI i) s = _
      rw [f_Mo_digest_164, b_Mo_digest_164, l1.r.2.1, bnd_s, show (181 : Int32) = nI 181 from rfl, ar_I c1 (by omega) (by omega), bnd_s, c5, show (3 : Int32) * nI (tN x) = nI (3 * tN x) from pk_mul 3 _, if_neg (show ¬ nI (3 * tN x) ≤ nI i from nI_ge (by omega) (by omega)), bnd_s, show (182 : Int32) + nI i = nI (182 + i) from nI_add 182 i, ar_I c1 (by omega) (by omega), bnd_s, hval, l1.r.1, bnd_s, p5, bnd_s, nI_1]) (3 * tN x) 0 s4 F (Nat.zero_add _) (by omega) ⟨H4, z4, k3.tr f4⟩
  obtain ⟨kd2, pl2, K2, P2, s6, g1, g2, H6, z6, z27, f6⟩ := m_looks27 l1 hv.1 l2 hF
  obtain ⟨u1, u2, u3, u4⟩ := NX_u g1 hx
  subst u1
  obtain ⟨s7, p7, H7, z7, f7⟩ := m_mix H6 z27 (nI kd2).toInt64
  obtain ⟨s8, p8, H8, z8, f8⟩ := m_mix H7 z7 (nI m).toInt64
  refine ⟨s8, ?_, H8, l3.tr (f6.tr (f7.tr f8))⟩
  obtain ⟨m1, hm1⟩ : ∃ n, F - 6 = n + 1 := ⟨F - 7, by omega⟩
  obtain ⟨m2, hm2⟩ : ∃ n, F - 36 = n + 1 := ⟨F - 37, by omega⟩
  obtain ⟨m3, hm3⟩ : ∃ n, F - rn (tR x) = n + 1 := ⟨F - rn (tR x) - 1, by omega⟩
  obtain ⟨m4, hm4⟩ : ∃ n, F - 3 * tN x = n + 1 := ⟨F - 3 * tN x - 1, by omega⟩
  unfold f_Mo_digest
  rw [p1, bnd_s, p2, bnd_s, H2.r.2.2.2.2.2.2.2.2.2.2.2.1, bnd_s, H2.r.1, bnd_s, p3, bnd_s]
  refine Eq.trans el1 ?_
  show f_Mo_digest_23 F (F - 6) mo (nI 6) s1 = _
  rw [hm1, f_Mo_digest_23, b_Mo_digest_23, if_pos (show (6 : Int32) ≤ nI 6 from nI_le (a := 6) (b := 6) (by omega) (by omega))]
  refine Eq.trans el2 ?_
  show f_Mo_digest_47 F (F - 36) mo (nI 36) s2 = _
  rw [hm2, f_Mo_digest_47, b_Mo_digest_47, if_pos (show (36 : Int32) ≤ nI 36 from nI_le (a := 36) (b := 36) (by omega) (by omega))]
  refine Eq.trans el3 ?_
  show f_Mo_digest_94 F (F - rn (tR x)) mo (nI (rn (tR x))) s3 = _
  rw [hm3, f_Mo_digest_94, b_Mo_digest_94, M3.n.1, bnd_s, M3.n.2, bnd_s, if_pos (show nI (rn (tR x)) ≤ nI (rn (tR x)) from nI_le (Nat.le_refl _) (by omega)), bnd_s, show (181 : Int32) = nI 181 from rfl, ar_I c1 (by omega) (by omega), bnd_s, c5, k1.r.1, bnd_s, p4, bnd_s]
  refine Eq.trans el5 ?_
  obtain ⟨f5', c1', _, _, _, c5', _⟩ := l1.2.2.1
  have h216 : b_Mo_digest_216 F mo (nI kd2).toInt64 mo s6 = some (dgX x m tl kd2, s8) := by
    rw [b_Mo_digest_216, H6.r.1, bnd_s, p7, bnd_s, H7.r.2.2.2.2.2.2.2.2.2.2.1, bnd_s, H7.r.1, bnd_s, p8, bnd_s, z8, bnd_s]
    rfl
  show f_Mo_digest_164 F (F - 3 * tN x) mo (nI (3 * tN x)) s5 = _
  rw [hm4, f_Mo_digest_164, b_Mo_digest_164, l1.r.2.1, bnd_s, show (181 : Int32) = nI 181 from rfl, ar_I c1' (by omega) (by omega), bnd_s, c5', show (3 : Int32) * nI (tN x) = nI (3 * tN x) from pk_mul 3 _, if_pos (show nI (3 * tN x) ≤ nI (3 * tN x) from nI_le (Nat.le_refl _) (by omega)), l1.r.1, bnd_s, g2, bnd2_s]
  by_cases w : kd2 = 0
  · subst w
    rw [if_pos rfl, if_pos rfl]
    exact h216
  · rw [if_neg w, if_neg (by decide), z6, bnd_s]
    exact h216
