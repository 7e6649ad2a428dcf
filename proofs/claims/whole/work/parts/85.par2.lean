/-! The class's reader: cells, constraints, givens, the whole. -/
def RF : Nat → Prop := fun k => k = 28 ∨ (17 ≤ k ∧ k < 24)
theorem adR_r {R : RT} {w s : Nat} : rl (adR R w s) (rn R) = 0 := if_pos rfl
theorem hr_ne {tl : Nat} {tx : Nat → Int32} {p : Nat} {v : Int32} (h : hr tl tx p = v) (hv : v ≠ -1) : p < tl := by
  apply Classical.byContradiction
  intro z
  unfold hr at h
  rw [if_pos (by omega)] at h
  exact hv h.symm
/-- what reading the cells leaves -/
def TC (tl : Nat) (tx : Nat → Int32) (n : Nat) (h' : PH) (o : Nat ⊕ (RT × Nat)) : Prop := match o with
  | .inl f => f < 1000 ∧ (∃ q, TP h' tl tx q (nI f)) ∧ RulSh h' 17
  | .inr y => TP h' tl tx y.2 (-1) ∧ RulAt h' 17 y.1 ∧ ROK y.1 ∧ rn y.1 = n ∧ y.2 ≤ tl
theorem t_cells {tl : Nat} {tx : Nat → Int32} (htl : tl ≤ 150) {F : Nat} (hF : 40 ≤ F) {k : Nat} : ∀ m n R p h, m + rl R k = 7 → m + 1 ≤ n → TP h tl tx p (-1) → p ≤ tl → RulAt h 17 R → ROK R → k < rn R →
    ∃ h', f_Txt_readCells_2 F n 28 17 (nI k) (nI (rl R k)) h = some h' ∧ Fr RF h h' ∧ TC tl tx (rn R) h' (celR tl tx k m R p) := by
  intro m
  induction m with
  | zero =>
    intro n R p h hm hn H hp HR hR hk
    have h2 := (hR.2 k hk).2.1
    have := mxl_le (rk R k)
    omega
  | succ m ih =>
    intro n R p h hm hn H hp HR hR hk
    obtain ⟨n, rfl⟩ : ∃ k, n = k + 1 := ⟨n - 1, by omega⟩
    obtain ⟨r1, r2, r3, r4, r5⟩ := hR.2 k hk
    have h8 := hR.1
    have hmx := mxl_le (rk R k)
    have h89 : ∃ h', b_Txt_readCells_89 F 28 17 (nI k) h = some h' ∧ Fr RF h h' ∧ TC tl tx (rn R) h' (if rl R k < 2 then .inl p else if tl ≤ p ∨ hr tl tx p = 59 then .inr (R, p) else .inl p) := by
      have hbad : ∃ h', b_Txt_readCells_121 F 28 h = some h' ∧ Fr RF h h' ∧ TC tl tx (rn R) h' (.inl p) := by
        obtain ⟨h', p1, g1, f1⟩ := H.bad p
        refine ⟨h', by rw [b_Txt_readCells_121, b_Txt_readCells_122, if_pos rfl, H.ck.2.1, bnd_s, p1, bnd_s], f1.mo fun k hk => Or.inl hk, by omega, ⟨p, g1⟩, HR.sh.fe fun j hj => f1.2 _ (by omega)⟩
      have hact : f_Rul_isActive 17 (nI k) h = some (if rl R k < 2 then 0 else 1) := by
        unfold f_Rul_isActive
        obtain ⟨_, _, _, _, q5, q6, _⟩ := ru_k HR hR hk
        rw [q5, bnd_s, q6, bnd_s]
        by_cases q : rl R k < 2
        · rw [if_pos (show nI (rl R k) < (2 : Int32) from nI_lt (a := (rl R k)) (b := 2) (by omega) (by omega)), if_pos q]
        · rw [if_neg (show ¬ nI (rl R k) < (2 : Int32) from nI_nlt (a := (rl R k)) (b := 2) (by omega) (by omega)), if_neg q]
      rw [b_Txt_readCells_89, (ru_ck HR).1, bnd_s, hact, bnd_s]
      by_cases q : rl R k < 2
      · rw [if_pos q, if_pos rfl, if_pos q]
        exact hbad
      rw [if_neg q, if_neg (by decide), if_neg q, H.ck.2.1, bnd_s, H.ck.2.2.1, bnd_s]
      by_cases w : tl ≤ p
      · rw [if_pos (show nI tl ≤ nI p from nI_le w (by omega)), if_pos (Or.inl w), b_Txt_readCells_117, b_Txt_readCells_122, if_neg (by decide)]
        exact ⟨h, rfl, Fr.rf _ _, H, HR, hR, rfl, hp⟩
      rw [if_neg (show ¬ nI tl ≤ nI p from nI_ge (by omega) (by omega)), H.ck.1, bnd_s, H.here, bnd_s]
      by_cases w2 : hr tl tx p = 59
      · rw [if_pos w2, if_pos (Or.inr w2), b_Txt_readCells_117, b_Txt_readCells_122, if_neg (by decide)]
        exact ⟨h, rfl, Fr.rf _ _, H, HR, hR, rfl, hp⟩
      · rw [if_neg w2, if_neg (fun z => z.elim w w2)]
        exact hbad
    rw [f_Txt_readCells_2, b_Txt_readCells_2]
    show ∃ h', _ ∧ _ ∧ TC tl tx (rn R) h' (if hr tl tx p = 58 ∧ rl R k < mxl (rk R k) then (match numR tl tx 0 35 (p + 1) with
      | .inl f => .inl f
      | .inr y => if mem R k y.1 then .inl (p + 1) else celR tl tx k m (exR R k y.1) y.2)
    else if rl R k < 2 then .inl p else if tl ≤ p ∨ hr tl tx p = 59 then .inr (R, p) else .inl p)
    by_cases w6 : rl R k = 6
    · rw [if_pos (show (6 : Int32) ≤ nI (rl R k) from by rw [w6]; decide), if_neg (show ¬ (hr tl tx p = 58 ∧ rl R k < mxl (rk R k)) from fun z => by omega)]
      exact h89
    rw [if_neg (show ¬ (6 : Int32) ≤ nI (rl R k) from nI_ge (a := rl R k) (b := 6) (by omega) (by omega)), H.ck.1, bnd_s, H.here, bnd_s]
    by_cases w58 : hr tl tx p = 58
    rotate_left
    · rw [if_neg w58, if_neg (fun z => w58 z.1)]
      exact h89
    rw [if_pos w58, (ru_ck HR).1, bnd_s, rul_full HR hR hk, bnd_s]
    by_cases wf : rl R k < mxl (rk R k)
    rotate_left
    · rw [if_neg wf, if_neg (by decide), if_neg (fun z => wf z.2)]
      exact h89
    have hp1 := hr_ne w58 (by decide)
    rw [if_pos wf, if_pos rfl, if_pos ⟨w58, wf⟩, H.ck.2.1, bnd_s, nI_1]
    obtain ⟨h1, p1, g1, f1⟩ := H.go (p + 1) (by omega)
    rw [p1, bnd_s, g1.ck.2.1, bnd_s, g1.ck.1, bnd_s]
    obtain ⟨v, h2, p2, f2, hnum⟩ := t_num g1 (p := p + 1) (lo := 0) (hi := 35) (by omega) (by omega) (by omega) (F := F) (by omega)
    have F12 : Fr RF h h2 := (f1.mo fun k hk => Or.inl hk).tr (f2.mo fun k hk => Or.inl hk)
    have HR2 : RulAt h2 17 R := HR.fe fun j hj => (f2.2 _ (by omega)).trans (f1.2 _ (by omega))
    rw [show f_Txt_readNumber F 28 (0 : Int32) (35 : Int32) h1 = _ from p2, bnd2_s]
    rcases hnum with ⟨f, q, e1, e2, e3⟩ | ⟨c, q, e1, e2, e3, e4⟩
    · rw [e1, e2.ck.2.2.2, bnd_s, if_neg (nI_ne1 (by omega))]
      exact ⟨h2, rfl, F12, by omega, ⟨q, e2⟩, HR2.sh⟩
    have hc : c < 36 := by
      have h0 := e1
      unfold numR at h0
      split at h0
      · split at h0
        · split at h0
          · cases h0
          · split at h0
            · rename_i z
              cases h0
              omega
            · cases h0
        · split at h0
          · rename_i z
            cases h0
            omega
          · cases h0
      · cases h0
    rw [e1, e3.ck.2.2.2, bnd_s, if_pos rfl, (ru_ck HR2).1, bnd_s, e2, rul_has HR2 hR hk hc, bnd_s]
    cases hmem : mem R k c
    · obtain ⟨h3, p3, g3, f3⟩ := rul_attach HR2 hR hk wf hc hmem (F := F) (by omega)
      rw [if_pos (by rfl), bnd_s, p3, bnd_s, nI_1]
      have hl1 : rl (exR R k c) k = rl R k + 1 := if_pos rfl
      obtain ⟨h4, p4, f4, t4⟩ := ih n (exR R k c) q h3 (by omega) (by omega) (e3.fr (f3.2 _ (by simp only [UR]; omega)) (f3.2 _ (by simp only [UR]; omega))) e4 g3 (exR_ok hR hk wf hc hmem) hk
      rw [hl1] at p4
      refine ⟨h4, p4, F12.tr ((f3.mo fun k hk => by simp only [UR, RF] at hk ⊢; omega).tr f4), ?_⟩
      show TC tl tx (rn R) h4 (if mem R k c = true then .inl (p + 1) else celR tl tx k m (exR R k c) q)
      rw [if_neg (by rw [hmem]; decide)]
      exact t4
    · rw [if_neg (by decide)]
      obtain ⟨h3, p3, g3, f3⟩ := e3.bad (p + 1)
      refine ⟨h3, by rw [p3, bnd_s], F12.tr (f3.mo fun k hk => Or.inl hk), ?_⟩
      show TC tl tx (rn R) h3 (if mem R k c = true then .inl (p + 1) else celR tl tx k m (exR R k c) q)
      rw [if_pos hmem]
      exact ⟨by omega, ⟨q, g3⟩, HR2.sh.fe fun j hj => f3.2 _ (by omega)⟩
theorem knd_f (v : Int32) : f_Txt_kindOf v = some (if knd v = 3 then -1 else nI (knd v)) := by
  unfold f_Txt_kindOf knd
  by_cases q1 : v = 97
  · rw [if_pos q1, if_pos q1]; rfl
  · rw [if_neg q1, if_neg q1]
    by_cases q2 : v = 107
    · rw [if_pos q2, if_pos q2]; rfl
    · rw [if_neg q2, if_neg q2]
      by_cases q3 : v = 116
      · rw [if_pos q3, if_pos q3]; rfl
      · rw [if_neg q3, if_neg q3]; rfl
theorem knd_lt {v : Int32} (h : knd v ≠ 3) : knd v < 3 ∧ v ≠ -1 := by
  unfold knd at h ⊢
  by_cases q1 : v = 97
  · rw [if_pos q1]; exact ⟨by omega, by rw [q1]; decide⟩
  · rw [if_neg q1] at h ⊢
    by_cases q2 : v = 107
    · rw [if_pos q2]; exact ⟨by omega, by rw [q2]; decide⟩
    · rw [if_neg q2] at h ⊢
      by_cases q3 : v = 116
      · rw [if_pos q3]; exact ⟨by omega, by rw [q3]; decide⟩
      · rw [if_neg q3] at h; omega
theorem numR_b {tl : Nat} {tx : Nat → Int32} {lo hi p c q : Nat} (h : numR tl tx lo hi p = .inr (c, q)) : lo ≤ c ∧ c ≤ hi := by
  unfold numR at h
  split at h
  · split at h
    · split at h
      · cases h
      · split at h
        · rename_i z; cases h; exact z
        · cases h
    · split at h
      · rename_i z; cases h; exact z
      · cases h
  · cases h
theorem t_con {tl : Nat} {tx : Nat → Int32} (htl : tl ≤ 150) {R : RT} {p : Nat} {h : PH} (H : TP h tl tx p (-1)) (hp : p < tl) (HR : RulAt h 17 R) (hR : ROK R) {F : Nat} (hF : 40 ≤ F) :
    ∃ h', f_Txt_readConstraint F 28 17 h = some h' ∧ Fr RF h h' ∧ TC tl tx (rn R + 1) h' (conR tl tx R p) := by
  have h8 := hR.1
  have bad : ∀ s q, TP s tl tx q (-1) → RulAt s 17 R → Fr RF h s → q < 1000 → ∃ h', (bnd (gI s 28 2 2) fun x17 => bnd (pV s 28 2 3 (.int x17)) fun h18 => some h18) = some h' ∧ Fr RF h h' ∧ TC tl tx (rn R + 1) h' (.inl q) := by
    intro s q hs hrs hfr hq
    obtain ⟨h', p1, g1, f1⟩ := hs.bad q
    exact ⟨h', by rw [hs.ck.2.1, bnd_s, p1, bnd_s], hfr.tr (f1.mo fun k hk => Or.inl hk), hq, ⟨q, g1⟩, hrs.sh.fe fun j hj => f1.2 _ (by omega)⟩
  unfold f_Txt_readConstraint conR
  rw [H.ck.1, bnd_s, H.here, bnd_s]
  by_cases w : hr tl tx p = 59
  rotate_left
  · rw [if_neg w, if_neg w]
    exact bad h p H HR (Fr.rf _ _) (by omega)
  rw [if_pos w, if_pos w, H.ck.2.1, bnd_s, nI_1]
  obtain ⟨h1, p1, g1, f1⟩ := H.go (p + 1) (by omega)
  have HR1 : RulAt h1 17 R := HR.fe fun j hj => f1.2 _ (by omega)
  have F1 : Fr RF h h1 := f1.mo fun k hk => Or.inl hk
  rw [p1, bnd_s, g1.ck.1, bnd_s, g1.here, bnd_s, knd_f, bnd_s]
  by_cases wk : knd (hr tl tx (p + 1)) = 3
  · rw [if_pos wk, if_pos rfl, if_pos wk, b_Txt_readConstraint_50]
    exact bad h1 (p + 1) g1 HR1 F1 (by omega)
  obtain ⟨k3, kne⟩ := knd_lt wk
  have hp1 := hr_ne (tl := tl) (tx := tx) (p := p + 1) rfl kne
  rw [if_neg wk, if_neg (nI_ne1 (by omega)), if_neg wk, (ru_ck HR1).2, bnd_s]
  by_cases w8 : rn R < 8
  rotate_left
  · rw [if_neg (show ¬ nI (rn R) < (8 : Int32) from nI_nlt (a := rn R) (b := 8) (by omega) (by omega)), if_neg w8, b_Txt_readConstraint_50]
    exact bad h1 (p + 1) g1 HR1 F1 (by omega)
  rw [if_pos (show nI (rn R) < (8 : Int32) from nI_lt (a := rn R) (b := 8) w8 (by omega)), if_pos w8, g1.ck.2.1, bnd_s, nI_1, show p + 1 + 1 = p + 2 by omega]
  obtain ⟨h2, p2, g2, f2⟩ := g1.go (p + 2) (by omega)
  have HR2 : RulAt h2 17 R := HR1.fe fun j hj => f2.2 _ (by omega)
  have F2 : Fr RF h h2 := F1.tr (f2.mo fun k hk => Or.inl hk)
  rw [p2, bnd_s]
  have h84 : ∀ s q w sm, TP s tl tx q (-1) → RulAt s 17 R → Fr RF h s → q ≤ tl → w < 3 → sm < 25 → ∃ h', b_Txt_readConstraint_84 F 28 17 (nI w) (nI sm) s = some h' ∧ Fr RF h h' ∧ TC tl tx (rn R + 1) h' (celR tl tx (rn R) 7 (adR R w sm) q) := by
    intro s q w sm hs hrs hfr hq hw hsm
    obtain ⟨s2, p3, g3, f3⟩ := rul_add hrs hR w8 w sm
    have hs2 : TP s2 tl tx q (-1) := hs.fr (f3.2 _ (by simp only [UR]; omega)) (f3.2 _ (by simp only [UR]; omega))
    obtain ⟨s3, p4, f4, t4⟩ := t_cells htl hF (k := rn R) 7 F (adR R w sm) q s2 (by rw [adR_r]) (by omega) hs2 hq g3 (adR_ok hR w8 hw hsm) (by show rn R < rn R + 1; omega)
    rw [adR_r] at p4
    refine ⟨s3, ?_, hfr.tr ((f3.mo fun k hk => by simp only [UR, RF] at hk ⊢; omega).tr f4), t4⟩
    rw [b_Txt_readConstraint_84, hs.ck.2.2.2, bnd_s, if_pos rfl, (ru_ck hrs).1, bnd_s, p3, bnd2_s, hs2.ck.1, bnd_s]
    unfold f_Txt_readCells
    rw [show f_Txt_readCells_2 F F 28 17 (nI (rn R)) (0 : Int32) s2 = _ from p4, bnd_s]
  by_cases w0 : knd (hr tl tx (p + 1)) = 0
  rotate_left
  · rw [if_neg (show ¬ nI (knd (hr tl tx (p + 1))) = (0 : Int32) from fun z => w0 ((nI_eq (a := knd (hr tl tx (p + 1))) (b := 0) (by omega) (by omega)).mp z)), if_neg w0]
    exact h84 h2 (p + 2) _ 0 g2 HR2 F2 (by omega) k3 (by omega)
  rw [if_pos (show nI (knd (hr tl tx (p + 1))) = (0 : Int32) from congrArg nI w0), if_pos w0, g2.ck.1, bnd_s]
  obtain ⟨v, h3, p3, f3, hnum⟩ := t_num g2 (p := p + 2) (lo := 1) (hi := 24) (by omega) (by omega) (by omega) (F := F) (by omega)
  have HR3 : RulAt h3 17 R := HR2.fe fun j hj => f3.2 _ (by omega)
  have F3 : Fr RF h h3 := F2.tr (f3.mo fun k hk => Or.inl hk)
  rw [show f_Txt_readNumber F 28 (1 : Int32) (24 : Int32) h2 = _ from p3, bnd2_s]
  rcases hnum with ⟨f, q, e1, e2, e3⟩ | ⟨c, q, e1, e2, e3, e4⟩
  · rw [e1, b_Txt_readConstraint_84, e2.ck.2.2.2, bnd_s, if_neg (nI_ne1 (by omega))]
    exact ⟨h3, rfl, F3, by omega, ⟨q, e2⟩, HR3.sh⟩
  · have hb := numR_b e1
    rw [e1, e2, w0]
    exact h84 h3 q 0 c e3 HR3 F3 e4 (by omega) (by omega)
/-- what reading the constraints leaves -/
def TD (tl : Nat) (tx : Nat → Int32) (x : Int32) (h' : PH) (o : Nat ⊕ RT) : Prop := TxAt h' tl tx ∧ match o with
  | .inl f => f < 1000 ∧ x = nI f ∧ RulSh h' 17
  | .inr R => x = -1 ∧ RulAt h' 17 R ∧ ROK R
theorem t_rules {tl : Nat} {tx : Nat → Int32} (htl : tl ≤ 150) {F : Nat} (hF : 40 ≤ F) : ∀ m n R p h, m + rn R = 9 → m + 1 ≤ n → TP h tl tx p (-1) → p ≤ tl → RulAt h 17 R → ROK R → gR h 14 8 1 = some 17 → h.2 14 = h.2 14 →
    ∃ x h', f_Txt_readInto_24 F n 28 14 (nI (rn R)) h = some (x, h') ∧ Fr RF h h' ∧ TD tl tx x h' (rulR tl tx m R p) := by
  intro m
  induction m with
  | zero =>
    intro n R p h hm hn H hp HR hR hg _
    have := hR.1
    omega
  | succ m ih =>
    intro n R p h hm hn H hp HR hR hg _
    have h8 := hR.1
    obtain ⟨n, rfl⟩ : ∃ k, n = k + 1 := ⟨n - 1, by omega⟩
    rw [f_Txt_readInto_24, b_Txt_readInto_24, if_neg (show ¬ (8 : Int32) < nI (rn R) from nI_nlt (a := 8) (b := rn R) (by omega) (by omega)), H.ck.2.2.2, bnd_s, if_pos rfl, H.ck.2.1, bnd_s, H.ck.2.2.1, bnd_s]
    show ∃ x h', _ ∧ _ ∧ TD tl tx x h' (if tl ≤ p then .inr R else (match conR tl tx R p with
      | .inl f => .inl f
      | .inr y => rulR tl tx m y.1 y.2))
    by_cases w : tl ≤ p
    · rw [if_pos (show nI tl ≤ nI p from nI_le w (by omega)), if_pos w, b_Txt_readInto_63, H.ck.2.2.2, bnd_s]
      exact ⟨-1, h, rfl, Fr.rf _ _, H.tx, rfl, HR, hR⟩
    rw [if_neg (show ¬ nI tl ≤ nI p from nI_ge (by omega) (by omega)), if_neg w, hg, bnd_s, H.ck.1, bnd_s]
    obtain ⟨h1, p1, f1, t1⟩ := t_con htl H (by omega) HR hR hF
    rw [p1, bnd_s, nI_1]
    have hg1 : gR h1 14 8 1 = some 17 := by
      unfold gR gV at hg ⊢
      rw [f1.2 14 (by simp only [RF]; omega)]
      exact hg
    cases hc : conR tl tx R p with
    | inl f =>
      rw [hc] at t1
      obtain ⟨t2, ⟨q, t3⟩, t4⟩ := t1
      obtain ⟨n, rfl⟩ : ∃ k, n = k + 1 := ⟨n - 1, by omega⟩
      refine ⟨nI f, h1, ?_, f1, t3.tx, t2, rfl, t4⟩
      rw [f_Txt_readInto_24, b_Txt_readInto_24, t3.ck.2.2.2, bnd_s, if_neg (nI_ne1 (by omega)), b_Txt_readInto_63, t3.ck.2.2.2, bnd_s]
      split <;> rfl
    | inr y =>
      rw [hc] at t1
      obtain ⟨t2, t3, t4, t5, t6⟩ := t1
      obtain ⟨x, h2, p2, f2, t7⟩ := ih n y.1 y.2 h1 (by omega) (by omega) t2 t6 t3 t4 hg1 rfl
      rw [t5] at p2
      exact ⟨x, h2, p2, f1.tr f2, t7⟩
