/-! The law: what a call gives out; undo. -/
theorem iv_out {h h1 : PH} {x : ST} {m : Nat} {sv : Nat → ST} {tl : Nat} {tx : Nat → Int32} (H : IV h x m sv tl tx) (f1 : Fr (fun k => k < 263) h h1) (v : Int64) : ∃ h', sL h1 278 (0 : Int32) v = some h' ∧ Fr (fun k => k = 278) h1 h' ∧ (∃ t, MW h' 263 x m sv tl tx t) ∧ ∀ h2, Fr (DM 263) h' h2 → aL h2 278 (0 : Int32) = some v ∧ ∃ f, h2.2 278 = oL 1 f := by
  obtain ⟨_, ⟨t, M⟩, _, _, _, f, hf⟩ := H
  obtain ⟨h', p, g, r⟩ := stl (i := 0) v ((f1.2 278 (by omega)).trans hf) (by omega) (by omega)
  refine ⟨h', p, r, ⟨t, M.fr fun k hk => (r.2 k (by simp only [DM] at hk; omega)).trans (f1.2 k (by simp only [DM] at hk; omega))⟩, fun h2 f2 => ?_⟩
  have e : h2.2 278 = oL 1 (vp_updL f 0 v) := (f2.2 278 (by simp only [DM]; omega)).trans g
  refine ⟨?_, _, e⟩
  rw [show (0 : Int32) = nI 0 from rfl, ar_L e (by omega) (by omega), pk_uLs]
theorem iv_go {h1 h1' h2 : PH} {x' : ST} {m' : Nat} {sv' : Nat → ST} {tl' : Nat} {tx' : Nat → Int32} {t : Int32} (C : CW h1 x' m' sv' tl' tx') (r : Fr (fun k => k = 278) h1 h1') (f2 : Fr (DM 263) h1' h2) (M : MW h2 263 x' m' sv' tl' tx' t) (hv : VAL x') (hs : ∀ i, i < m' → VAL (sv' i)) (hm : m' ≤ 4) (o : ∃ f, h2.2 278 = oL 1 f) : IVe h2 :=
  ⟨x', m', sv', tl', tx', C.fr fun k hk => (f2.2 k (by simp only [DM]; omega)).trans (r.2 k (by omega)), ⟨t, M⟩, hv, hs, hm, o⟩
theorem l_1396 {F L : Nat} {xs : Nat → Int32} {k : Nat → Nat → Nat → Int32 → PH → Option Int32} {i : Int32} {h : PH} (H : IVe h) (hF : 3000 + nB 36 ≤ F) : ∃ h', IVe h' ∧ b_Law_law_1396 F L xs k 0 263 278 i h = k 0 263 278 (i + 4) h' := by
  have hF3 := F3 hF
  obtain ⟨x, m, sv, tl, tx, I⟩ := H
  obtain ⟨C, ⟨t0, M0⟩, hv, hs, hm, _⟩ := id I
  rcases np_undo C hs with ⟨w, p1⟩ | ⟨h1, w, p1, C1, f1⟩
  · obtain ⟨h2, p2, M2, f2⟩ := M0.t 1
    refine ⟨h2, I.go (Fr.rf _ _) C (DM.mo' f2) M2 hv hs hm, ?_⟩
    have hmo : f_Mo_undo F 263 h = some (0, h2) := by
      unfold f_Mo_undo
      rw [M0.r.2.2.2.2.2.2.2.2.2.2.1, bnd_s, if_pos (show nI m = (0 : Int32) from congrArg nI w), b_Mo_undo_13, p2, bnd_s, M2.th, bnd_s, if_neg (by decide)]
    have hlw : f_Law_undo 0 278 h = some (1, h) := by
      unfold f_Law_undo
      rw [I.ck, bnd_s, p1]
      rfl
    rw [b_Law_law_1396, hlw, bnd2_s, M0.r.1, bnd_s, hmo, bnd2_s, M2.r.1, bnd_s]
    unfold f_Mo_thrown
    rw [M2.th, bnd_s, bnd_s, if_pos rfl, if_neg (by decide)]
  · obtain ⟨h1', q1, r1, ⟨t, M1⟩, o1⟩ := iv_out I f1 (nI (m - 1)).toInt64
    obtain ⟨h2, p2, M2, f2⟩ := m_undo M1 hs w hF3
    obtain ⟨o2, o3⟩ := o1 h2 f2
    refine ⟨h2, iv_go C1 r1 f2 M2 (hs _ (by omega)) (fun i hi => hs i (by omega)) (by omega) o3, ?_⟩
    have hlw : f_Law_undo 0 278 h = some (0, h1') := by
      unfold f_Law_undo
      rw [I.ck, bnd_s, p1]
      show bnd (sL h1 278 (0 : Int32) (nI (m - 1)).toInt64) _ = _
      rw [q1, bnd_s]
    rw [b_Law_law_1396, hlw, bnd2_s, M1.r.1, bnd_s, p2, bnd2_s, M2.r.1, bnd_s]
    unfold f_Mo_thrown
    rw [M2.th, bnd_s, bnd_s, if_pos rfl, if_pos rfl, o2, bnd_s, lg_self, if_pos rfl]
