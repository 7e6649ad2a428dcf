/-! The reference: constraints, locked digits. -/
theorem m_constr {h0 h : PH} {mo x : Nat} {R : RT} {K : Nat → Nat → Bool} {P : Nat → Bool} {kd : Nat} {pl : Int32} (H : MS h0 h mo x R K kd pl K P) (hR : ROK R) {w : Nat} (hw : w < 3) {F : Nat} (hF : 2000 ≤ F) :
    (no3 R K w ∧ NoD h0 mo x R K kd pl K P (f_Mo_constraints F mo x (nI w) h)) ∨ ∃ k K', f3 R K w k K' ∧ YeD h0 mo x R K kd k K' P (f_Mo_constraints F mo x (nI w) h) := by
  have h8 := hR.1
  have hstep : ∀ n i s, i < rn R → MS h0 s mo x R K kd pl K P → (¬ a3 R K w i ∧ ∃ s', f_Mo_constraints_2 F (n + 1) mo x (nI w) (nI i) s = f_Mo_constraints_2 F n mo x (nI w) (nI (i + 1)) s' ∧ MS h0 s' mo x R K kd pl K P) ∨ (a3 R K w i ∧ YeD h0 mo x R K kd i (sift R K i) P (f_Mo_constraints_2 F (n + 1) mo x (nI w) (nI i) s)) := by
    intro n i s hi i1
    obtain ⟨V, M0⟩ := i1.mn
    obtain ⟨q1, q2, q3, q4⟩ := M0.k hR hi
    have hr3 := (hR.2 i hi).1
    rw [f_Mo_constraints_2, b_Mo_constraints_2, M0.n.1, bnd_s, M0.n.2, bnd_s, if_neg (show ¬ nI (rn R) ≤ nI i from nI_ge (a := (i)) (b := (rn R)) (by omega) (by omega)), M0.ck, bnd_s, q1, bnd_s]
    by_cases q : rk R i = w
    rotate_left
    · left
      refine ⟨fun z => q z.1, s, ?_, i1⟩
      rw [if_neg (fun z => q ((nI_eq (by omega) (by omega)).mp z)), b_Mo_constraints_55, nI_1]
    rw [if_pos (congrArg nI q)]
    have hfin : ∀ (s1 : PH), MS h0 s1 mo x R K kd pl (sift R K i) P → YeD h0 mo x R K kd i (sift R K i) P (b_Mo_constraints_48 F mo (nI i) s1) := by
      intro s1 z
      obtain ⟨s2, e1, e2⟩ := z.pl (nI i)
      exact ⟨s2, by rw [b_Mo_constraints_48, e1, bnd_s], e2⟩
    by_cases w2 : w = 2
    · subst w2
      rw [if_pos (show nI 2 = (2 : Int32) from rfl), bnd_s]
      rcases m_therm i1 hR hi q hF with ⟨g1, s1, g2, g3⟩ | ⟨g1, s1, g2, g3⟩
      · left
        refine ⟨g1, s1, ?_, g3⟩
        rw [g2, bnd2_s, if_pos rfl, b_Mo_constraints_55, nI_1]
      · right
        refine ⟨g1, ?_⟩
        rw [g2, bnd2_s, if_neg (by decide)]
        exact hfin s1 g3
    · rw [if_neg (show ¬ nI w = (2 : Int32) from fun z => w2 ((nI_eq (a := w) (b := 2) (by omega) (by omega)).mp z)), bnd_s]
      rcases m_ways i1 hR hi q (by omega) hF with ⟨g1, s1, g2, g3⟩ | ⟨g1, s1, g2, g3⟩
      · left
        refine ⟨g1, s1, ?_, g3⟩
        rw [g2, bnd2_s, if_pos rfl, b_Mo_constraints_55, nI_1]
      · right
        refine ⟨g1, ?_⟩
        rw [g2, bnd2_s, if_neg (by decide)]
        exact hfin s1 g3
  obtain ⟨j, s, j1, j2, ⟨j3, j5⟩, j4, h1⟩ := LE (fun n i s => f_Mo_constraints_2 F n mo x (nI w) (nI i) s) (fun i s => MS h0 s mo x R K kd pl K P ∧ ∀ k, k < i → ¬ a3 R K w k) (fun i _ => a3 R K w i) (rn R)
    (fun n i s hi ⟨g1, g2⟩ => by
      rcases hstep n i s hi g1 with ⟨z0, s', z1, z2⟩ | ⟨z0, _⟩
      · refine Or.inr ⟨s', ⟨z2, fun k hk => ?_⟩, z1⟩
        by_cases q2 : k = i
        · rw [q2]; exact z0
        · exact g2 k (by omega)
      · exact Or.inl z0) (rn R) 0 h F (by omega) (by omega) ⟨H, fun k hk => by omega⟩
  obtain ⟨m, hm⟩ : ∃ m, F - (j - 0) = m + 1 := ⟨F - j - 1, by omega⟩
  have hE : f_Mo_constraints F mo x (nI w) h = f_Mo_constraints_2 F (m + 1) mo x (nI w) (nI j) s := by
    unfold f_Mo_constraints
    rw [← hm]
    exact h1
  rw [hE]
  by_cases q : j < rn R
  · right
    rcases hstep m j s q j3 with ⟨z0, _⟩ | ⟨z0, z1⟩
    · exact absurd (j4 q) z0
    · exact ⟨j, _, ⟨q, z0, j5, rfl⟩, z1⟩
  · left
    obtain ⟨V, M0⟩ := j3.mn
    rw [f_Mo_constraints_2, b_Mo_constraints_2, M0.n.1, bnd_s, M0.n.2, bnd_s, if_pos (show nI (rn R) ≤ nI j from nI_le (by omega) (by omega))]
    exact ⟨fun k hk => j5 k (by omega), s, rfl, j3⟩
/-- the place of a cell in its unit -/
def ixU (u c : Nat) : Nat := if u < 6 then c % 6 else if u < 12 then c / 6 else 3 * (c / 6 % 2) + c % 3
theorem ixU_c : ∀ u, u < 18 → ∀ i, i < 6 → ixU u (ceU u i) = i := by decide +kernel
theorem ixU_lt : ∀ u, u < 18 → ∀ c, c < 36 → inU u c = true → ixU u c < 6 ∧ ceU u (ixU u c) = c := by decide +kernel
theorem ixU_ne {u c i : Nat} (hu : u < 18) (hc : c < 36) (hi : i < 6) (h : inU u c = true) (n : c ≠ ceU u i) : ixU u c ≠ i := fun z => n (by rw [← z]; exact (ixU_lt u hu c hc h).2.symm)
def kl (K : Nat → Nat → Bool) (u o d : Nat) : Nat → Nat → Bool := fun c e => K c e && !(decide (e = d) && (inU o c && !inU u c))
theorem kl_le {K : Nat → Nat → Bool} {u o d : Nat} : ∀ a, a < 36 → ∀ e, isD e = true → kl K u o d a e = true → K a e = true := fun a _ e _ z => by
  unfold kl at z
  rw [Bool.and_eq_true] at z
  exact z.1
theorem m_locks {h0 h : PH} {mo x : Nat} {R : RT} {K : Nat → Nat → Bool} {P : Nat → Bool} {kd : Nat} {pl : Int32} (H : MS h0 h mo x R K kd pl K P) {u o d : Nat} (hu : u < 18) (ho : o < 18) (hd : isD d = true) {F : Nat} (hF : 40 ≤ F) :
    (¬ lka K u o d ∧ NoD h0 mo x R K kd pl K P (f_Mo_locks F mo x (nI u) (nI o) (nI d) h)) ∨ (lka K u o d ∧ ∃ h', f_Mo_locks F mo x (nI u) (nI o) (nI d) h = some (1, h') ∧ MS h0 h' mo x R K kd pl (kl K u o d) P) := by
  obtain ⟨V, M0⟩ := H.mn
  obtain ⟨⟨a, b⟩, ⟨i1, w, i2, i3⟩, h1⟩ := LC (fun n i (s : Int32 × Int32) => f_Mo_locks_9 F n mo x (nI u) (nI o) (nI d) s.1 s.2 (nI i) h)
    (fun i s => s.1 = nI (cnt (fun t => K (ceU u t) d) i) ∧ ∃ w : Bool, s.2 = (if w then 1 else 0) ∧ (w = true ↔ ∀ t, t < i → K (ceU u t) d = true → inU o (ceU u t) = true)) 6
    (fun n i s hi ⟨i1, w, i2, i3⟩ => by
      have hc := ceU_lt u hu i hi
      have hw : ∀ w' : Bool, (w' = true ↔ w = true ∧ (K (ceU u i) d = true → inU o (ceU u i) = true)) → (w' = true ↔ ∀ t, t < i + 1 → K (ceU u t) d = true → inU o (ceU u t) = true) := by
        intro w' hw
        rw [hw, i3]
        constructor
        · rintro ⟨z1, z2⟩ t ht
          by_cases q : t = i
          · subst q; exact z2
          · exact z1 t (by omega)
        · exact fun z => ⟨fun t ht => z t (by omega), z i (by omega)⟩
      show ∃ s', _ ∧ f_Mo_locks_9 F (n + 1) mo x (nI u) (nI o) (nI d) s.1 s.2 (nI i) h = _
      have h43 : ∀ z : Int32, z = nI (K (ceU u i) d).toNat → ∃ w' : Bool, (w' = true ↔ w = true ∧ (K (ceU u i) d = true → inU o (ceU u i) = true)) ∧ b_Mo_locks_43 F (f_Mo_locks_9 F n) mo x (nI u) (nI o) (nI d) s.2 (nI i) (nI (ceU u i)) z s.1 h = f_Mo_locks_9 F n mo x (nI u) (nI o) (nI d) (nI (cnt (fun t => K (ceU u t) d) (i + 1))) (if w' then 1 else 0) (nI (i + 1)) h := by
        intro z hz
        have ea : s.1 + z = nI (cnt (fun t => K (ceU u t) d) (i + 1)) := by rw [hz, i1, nI_add, cnt_s]
        rw [b_Mo_locks_43, ea, i2]
        cases hw0 : w
        · refine ⟨false, by simp, ?_⟩
          rw [if_pos (by rfl), b_Mo_locks_76, b_Mo_locks_77, nI_1]
          rfl
        · rw [if_neg (by decide), (M0.g hc).1, bnd_s, m_has _ hd, bnd_s]
          cases q : K (ceU u i) d
          · refine ⟨true, by simp, ?_⟩
            rw [if_pos (by rfl), b_Mo_locks_72, b_Mo_locks_77, nI_1]
            rfl
          · rw [if_neg (by decide), m_isIn o ho _ hc, bnd_s]
            cases q2 : inU o (ceU u i)
            · refine ⟨false, by simp, ?_⟩
              rw [if_pos (by rfl), b_Mo_locks_76, b_Mo_locks_77, nI_1]
              rfl
            · refine ⟨true, by simp, ?_⟩
              rw [if_neg (by decide), b_Mo_locks_72, b_Mo_locks_77, nI_1]
              rfl
      rw [f_Mo_locks_9, b_Mo_locks_9, if_neg (show ¬ (6 : Int32) ≤ nI i from nI_ge (a := (i)) (b := 6) (by omega) (by omega)), m_cellIn u hu i hi, bnd_s, (M0.g hc).1, bnd_s, m_has _ hd, bnd_s]
      cases q : K (ceU u i) d
      · obtain ⟨w', y1, y2⟩ := h43 0 (by rw [q]; rfl)
        refine ⟨(nI (cnt (fun t => K (ceU u t) d) (i + 1)), if w' then 1 else 0), ⟨rfl, w', rfl, hw w' y1⟩, ?_⟩
        rw [if_pos (by rfl), y2]
      · obtain ⟨w', y1, y2⟩ := h43 1 (by rw [q]; rfl)
        refine ⟨(nI (cnt (fun t => K (ceU u t) d) (i + 1)), if w' then 1 else 0), ⟨rfl, w', rfl, hw w' y1⟩, ?_⟩
        rw [if_neg (by decide), y2]) 6 0 (0, 1) F rfl (by omega) ⟨rfl, true, rfl, by simp⟩
  obtain ⟨m, hm⟩ : ∃ m, F - 6 = m + 1 := ⟨F - 7, by omega⟩
  have hE : f_Mo_locks F mo x (nI u) (nI o) (nI d) h = f_Mo_locks_88 F F mo x (nI u) (nI o) (nI d) a b 0 h := by
    unfold f_Mo_locks
    refine Eq.trans h1 ?_
    show f_Mo_locks_9 F (F - 6) mo x (nI u) (nI o) (nI d) a b (nI 6) h = _
    rw [hm, f_Mo_locks_9, b_Mo_locks_9, if_pos (show (6 : Int32) ≤ nI 6 from nI_le (a := 6) (b := 6) (by omega) (by omega))]
  rw [hE]
  replace i1 : a = nI (cnt (fun t => K (ceU u t) d) 6) := i1
  replace i2 : b = if w then 1 else 0 := i2
  have h6 : cnt (fun t => K (ceU u t) d) 6 ≤ 6 := by have := cnt_neg (fun t => K (ceU u t) d) 6; omega
  have hc1 : cnt (fun t => K (ceU u t) d) 6 ≠ 0 ↔ ∃ c, c < 36 ∧ inU u c = true ∧ K c d = true := by
    constructor
    · intro z
      apply Classical.byContradiction
      intro z2
      apply z
      rw [cnt_0]
      intro t ht
      cases q : K (ceU u t) d
      · rfl
      · exact absurd ⟨_, ceU_lt u hu t ht, ceU_in u hu t ht, q⟩ z2
    · rintro ⟨c, z1, z2, z3⟩ z
      obtain ⟨t, ht, rfl⟩ := ceU_ex hu z1 z2
      have := cnt_0.mp z t ht
      rw [z3] at this
      cases this
  have hc2 : w = true ↔ ∀ c, c < 36 → inU u c = true → K c d = true → inU o c = true := by
    rw [i3]
    constructor
    · intro z c z1 z2 z3
      obtain ⟨t, ht, rfl⟩ := ceU_ex hu z1 z2
      exact z t ht z3
    · exact fun z t ht z1 => z _ (ceU_lt u hu t ht) (ceU_in u hu t ht) z1
  have h139 : ∀ s Kc, MS h0 s mo x R K kd pl Kc P → (tot Kc = tot K ∧ b_Mo_locks_139 F mo s = some (0, s)) ∨ (tot Kc < tot K ∧ b_Mo_locks_139 F mo s = some (1, s)) := by
    intro s Kc z
    obtain ⟨rm, g1, g2⟩ := z.rem
    have hb := tot_le K
    rw [b_Mo_locks_139, g1, bnd_s]
    by_cases q : rm = 0
    · exact Or.inl ⟨by omega, by rw [q, if_pos (show nI 0 ≤ (0 : Int32) by decide)]⟩
    · exact Or.inr ⟨by omega, by rw [if_neg (show ¬ nI rm ≤ (0 : Int32) from nI_nle (n := rm) (by omega) (by omega))]⟩
  obtain ⟨m2, hm2⟩ : ∃ m, F = m + 1 := ⟨F - 1, by omega⟩
  have h139' : b_Mo_locks_139 F mo h = some (0, h) := by
    rcases h139 h K H with ⟨_, z⟩ | ⟨z, _⟩
    · exact z
    · omega
  by_cases e1 : cnt (fun t => K (ceU u t) d) 6 = 0
  · left
    refine ⟨fun z => hc1.mpr z.1 e1, h, ?_, H⟩
    have : ∀ n, f_Mo_locks_88 F (n + 1) mo x (nI u) (nI o) (nI d) a b 0 h = some (0, h) := by
      intro n
      rw [f_Mo_locks_88, b_Mo_locks_88, if_neg (by decide), i1, e1, if_pos (show nI 0 ≤ (0 : Int32) by decide), h139']
    have h2 := this m2
    rw [← hm2] at h2
    exact h2
  have e1' : ¬ nI (cnt (fun t => K (ceU u t) d) 6) ≤ (0 : Int32) := nI_nle (n := cnt (fun t => K (ceU u t) d) 6) (by omega) (by omega)
  cases hw : w
  · left
    refine ⟨fun z => (by have := hc2.mpr z.2.1; rw [hw] at this; cases this), h, ?_, H⟩
    have : ∀ n, f_Mo_locks_88 F (n + 1) mo x (nI u) (nI o) (nI d) a b 0 h = some (0, h) := by
      intro n
      rw [f_Mo_locks_88, b_Mo_locks_88, if_neg (by decide), i1, if_neg e1', i2, hw, if_pos (by rfl), h139']
    have h2 := this m2
    rw [← hm2] at h2
    exact h2
  have i2' : b = 1 := by rw [i2, hw]; rfl
  obtain ⟨s, y1, h2⟩ := LC (fun n i s => f_Mo_locks_88 F n mo x (nI u) (nI o) (nI d) a b (nI i) s) (fun i s => MS h0 s mo x R K kd pl (fun c e => K c e && !(decide (e = d) && (inU o c && !inU u c && decide (ixU o c < i)))) P) 6
    (fun n i s hi y1 => by
      obtain ⟨V1, M1⟩ := y1.mn
      have hc := ceU_lt o ho i hi
      show ∃ s', _ ∧ f_Mo_locks_88 F (n + 1) mo x (nI u) (nI o) (nI d) a b (nI i) s = _
      rw [f_Mo_locks_88, b_Mo_locks_88, if_neg (show ¬ (6 : Int32) ≤ nI i from nI_ge (a := (i)) (b := 6) (by omega) (by omega)), i1, if_neg e1', i2', if_neg (by decide), m_cellIn o ho i hi, bnd_s, m_isIn u hu _ hc, bnd_s]
      cases q : inU u (ceU o i)
      · obtain ⟨s', t1, t2, _⟩ := y1.take hc (fun e => decide (e = d)) hF
        refine ⟨s', t2.x (fun c hc e _ => ?_) (fun _ _ => rfl), ?_⟩
        · by_cases z : c = ceU o i
          · subst z
            simp only [ixU_c o ho i hi, ceU_in o ho i hi, q]
            by_cases z2 : e = d <;> simp [z2]
          · cases z3 : inU o c
            · simp [z]
            · have := ixU_ne ho hc hi z3 z
              simp [z, dlt_ne this]
        · rw [if_pos (by rfl), M1.ck, bnd_s, mkd_1 hd, t1, bnd_s, b_Mo_locks_133, nI_1]
      · refine ⟨s, y1.x (fun c hc e _ => ?_) (fun _ _ => rfl), ?_⟩
        · by_cases z : c = ceU o i
          · subst z
            simp [q]
          · cases z3 : inU o c
            · simp
            · have := ixU_ne ho hc hi z3 z
              rw [dlt_ne this]
        · rw [if_neg (by decide), b_Mo_locks_133, nI_1]) 6 0 h F rfl (by omega) (H.x (fun c _ e _ => by simp) (fun _ _ => rfl))
  have y2 : MS h0 s mo x R K kd pl (kl K u o d) P := y1.x (fun c hc e _ => by
    unfold kl
    cases z3 : inU o c
    · simp
    · simp [(ixU_lt o ho c hc z3).1]) (fun _ _ => rfl)
  have hE2 : f_Mo_locks_88 F F mo x (nI u) (nI o) (nI d) a b 0 h = b_Mo_locks_139 F mo s := by
    refine Eq.trans h2 ?_
    show f_Mo_locks_88 F (F - 6) mo x (nI u) (nI o) (nI d) a b (nI 6) s = _
    rw [hm, f_Mo_locks_88, b_Mo_locks_88, if_pos (show (6 : Int32) ≤ nI 6 from nI_le (a := 6) (b := 6) (by omega) (by omega))]
  rw [hE2]
  rcases h139 s _ y2 with ⟨z1, z2⟩ | ⟨z1, z2⟩
  · left
    have hq := tot_eq kl_le z1
    refine ⟨?_, s, z2, y2.x hq (fun _ _ => rfl)⟩
    rintro ⟨_, _, c, x1, x2, x3, x4⟩
    have := hq c x1 d hd
    unfold kl at this
    simp [x2, x3, x4] at this
  · right
    refine ⟨⟨hc1.mp e1, hc2.mp hw, ?_⟩, s, z2, y2⟩
    apply Classical.byContradiction
    intro z
    have : tot (kl K u o d) = tot K := tot_ext fun c hc e _ => by
      unfold kl
      by_cases q : e = d
      · subst q
        cases q1 : inU o c
        · simp
        · cases q2 : inU u c
          · cases q3 : K c e
            · simp
            · exact absurd ⟨c, hc, q1, q2, q3⟩ z
          · simp
      · simp [q]
    omega
