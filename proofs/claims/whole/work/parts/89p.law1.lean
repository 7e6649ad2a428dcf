/-! The law: both desks stand for one state; the calls without arguments. -/
def IV (h : PH) (x : ST) (m : Nat) (sv : Nat → ST) (tl : Nat) (tx : Nat → Int32) : Prop := CW h x m sv tl tx ∧ (∃ t, MW h 263 x m sv tl tx t) ∧ VAL x ∧ (∀ i, i < m → VAL (sv i)) ∧ m ≤ 4 ∧ ∃ f, h.2 278 = oL 1 f
def IVe (h : PH) : Prop := ∃ x m sv tl tx, IV h x m sv tl tx
theorem IV.m {h h1 : PH} {x : ST} {m : Nat} {sv : Nat → ST} {tl : Nat} {tx : Nat → Int32} (H : IV h x m sv tl tx) (f : Fr (fun k => k < 263) h h1) : ∃ t, MW h1 263 x m sv tl tx t := by
  obtain ⟨_, ⟨t, M⟩, _⟩ := H
  exact ⟨t, M.fr fun k hk => f.2 k (by simp only [DM] at hk; omega)⟩
theorem IV.go {h h1 h2 : PH} {x x' : ST} {m m' : Nat} {sv sv' : Nat → ST} {tl tl' : Nat} {tx tx' : Nat → Int32} {t : Int32} (H : IV h x m sv tl tx) (f1 : Fr (fun k => k < 263) h h1) (C : CW h1 x' m' sv' tl' tx') (f2 : Fr (DM 263) h1 h2) (M : MW h2 263 x' m' sv' tl' tx' t) (hv : VAL x') (hs : ∀ i, i < m' → VAL (sv' i)) (hm : m' ≤ 4) : IVe h2 := by
  obtain ⟨_, _, _, _, _, f, hf⟩ := H
  exact ⟨x', m', sv', tl', tx', C.fr fun k hk => f2.2 k (by simp only [DM]; omega), ⟨t, M⟩, hv, hs, hm, f, by rw [f2.2 278 (by simp only [DM]; omega), f1.2 278 (by omega)]; exact hf⟩
theorem svN_le {m : Nat} : svN m ≤ 4 := by unfold svN; split <;> omega
theorem IV.ck {h : PH} {x : ST} {m : Nat} {sv : Nat → ST} {tl : Nat} {tx : Nat → Int32} (H : IV h x m sv tl tx) : cK h 0 9 = some () := (np_ck H.1.2.2.1).1
theorem x0_v (E : Nat → Nat → Int32) : VAL (x0 E) := ⟨R0_ok, fun c _ z => (by cases z), fun c _ => (by show 0 < 7; omega), by show 0 ≤ 100; omega⟩
theorem l_168 {F L : Nat} {xs : Nat → Int32} {k : Nat → Nat → Nat → Int32 → PH → Option Int32} {i : Int32} {h : PH} (H : IVe h) (hF : 3000 + nB 36 ≤ F) : ∃ h', IVe h' ∧ b_Law_law_168 F L xs k 0 263 278 i h = k 0 263 278 (i + 4) h' := by
  have hF3 := F3 hF
  obtain ⟨x, m, sv, tl, tx, I⟩ := H
  obtain ⟨C, _, hv, hs, hm, _⟩ := id I
  obtain ⟨h1, p1, C1, f1⟩ := c_begin C hv hF3
  obtain ⟨t, M1⟩ := I.m f1
  obtain ⟨h2, p2, M2, f2⟩ := m_begin M1 hv hs hF3
  refine ⟨h2, I.go f1 C1 f2 M2 (x0_v _) (svS_v hm hv hs) svN_le, ?_⟩
  rw [b_Law_law_168, I.ck, bnd_s, p1, bnd2_s, M1.r.1, bnd_s, p2, bnd2_s, if_pos rfl]
theorem l_472 {F L : Nat} {xs : Nat → Int32} {k : Nat → Nat → Nat → Int32 → PH → Option Int32} {i : Int32} {h : PH} (H : IVe h) (hF : 3000 + nB 36 ≤ F) : ∃ h', IVe h' ∧ b_Law_law_472 F L xs k 0 263 278 i h = k 0 263 278 (i + 4) h' := by
  have hF3 := F3 hF
  obtain ⟨x, m, sv, tl, tx, I⟩ := H
  obtain ⟨C, _, hv, hs, hm, _⟩ := id I
  obtain ⟨h1, p1, C1, f1⟩ := c_restart C hv hF3
  obtain ⟨t, M1⟩ := I.m f1
  obtain ⟨h2, p2, M2, f2⟩ := m_restart M1 hv hs hF3
  refine ⟨h2, I.go f1 C1 f2 M2 (gv_val hv _ hv.2.2.1 _) (svS_v hm hv hs) svN_le, ?_⟩
  rw [b_Law_law_472, I.ck, bnd_s, p1, bnd2_s, M1.r.1, bnd_s, p2, bnd2_s, if_pos rfl]
theorem l_925 {F L : Nat} {xs : Nat → Int32} {k : Nat → Nat → Nat → Int32 → PH → Option Int32} {i : Int32} {h : PH} (H : IVe h) (hF : 3000 + nB 36 ≤ F) : ∃ h', IVe h' ∧ b_Law_law_925 F L xs k 0 263 278 i h = k 0 263 278 (i + 4) h' := by
  have hF3 := F3 hF
  obtain ⟨x, m, sv, tl, tx, I⟩ := H
  obtain ⟨C, _, hv, hs, hm, _⟩ := id I
  obtain ⟨kd, pl, K', P', h1, g1, p1, _, C1, f1⟩ := c_hint C hv hF3
  obtain ⟨t, M1⟩ := I.m f1
  obtain ⟨kd2, pl2, K2, P2, h2, g2, p2, _, M2, f2⟩ := m_hint M1 hv.1 hF3
  obtain ⟨u1, u2, u3, u4⟩ := NX_u g1 g2
  refine ⟨h2, I.go f1 C1 f2 M2 hv hs hm, ?_⟩
  rw [b_Law_law_925, I.ck, bnd_s, p1, bnd2_s, M1.r.1, bnd_s, p2, bnd2_s, if_pos (congrArg nI u1)]
theorem l_938 {F L : Nat} {xs : Nat → Int32} {k : Nat → Nat → Nat → Int32 → PH → Option Int32} {i : Int32} {h : PH} (H : IVe h) (hF : 3000 + nB 36 ≤ F) : ∃ h', IVe h' ∧ b_Law_law_938 F L xs k 0 263 278 i h = k 0 263 278 (i + 4) h' := by
  have hF3 := F3 hF
  obtain ⟨x, m, sv, tl, tx, I⟩ := H
  obtain ⟨C, _, hv, hs, hm, _⟩ := id I
  obtain ⟨kd, pl, K', P', h1, g1, _, p1, C1, f1⟩ := c_hint C hv hF3
  obtain ⟨t, M1⟩ := I.m f1
  obtain ⟨kd2, pl2, K2, P2, h2, g2, _, p2, M2, f2⟩ := m_hint M1 hv.1 hF3
  obtain ⟨u1, u2, u3, u4⟩ := NX_u g1 g2
  refine ⟨h2, I.go f1 C1 f2 M2 hv hs hm, ?_⟩
  rw [b_Law_law_938, I.ck, bnd_s, p1, bnd2_s, M1.r.1, bnd_s, p2, bnd2_s, if_pos (by rw [u1, u2])]
theorem l_951 {F L : Nat} {xs : Nat → Int32} {k : Nat → Nat → Nat → Int32 → PH → Option Int32} {i : Int32} {h : PH} (H : IVe h) : ∃ h', IVe h' ∧ b_Law_law_951 F L xs k 0 263 278 i h = k 0 263 278 (i + 4) h' := by
  obtain ⟨x, m, sv, tl, tx, I⟩ := H
  obtain ⟨C, _, hv, hs, hm, _⟩ := id I
  obtain ⟨t, M1⟩ := I.m (Fr.rf _ _)
  obtain ⟨h2, p2, M2, f2⟩ := m_logged M1
  refine ⟨h2, I.go (Fr.rf _ _) C f2 M2 hv hs hm, ?_⟩
  rw [b_Law_law_951, I.ck, bnd_s, (c_step' C).1, bnd_s, M1.r.1, bnd_s, p2, bnd2_s, if_pos rfl]
theorem l_1144 {F L : Nat} {xs : Nat → Int32} {k : Nat → Nat → Nat → Int32 → PH → Option Int32} {i : Int32} {h : PH} (H : IVe h) (hF : 3000 + nB 36 ≤ F) : ∃ h', IVe h' ∧ b_Law_law_1144 F L xs k 0 263 278 i h = k 0 263 278 (i + 4) h' := by
  have hF3 := F3 hF
  obtain ⟨x, m, sv, tl, tx, I⟩ := H
  obtain ⟨C, _, hv, hs, hm, _⟩ := id I
  obtain ⟨h1, C1, f1, q1⟩ := c_guesses C hv hF3
  obtain ⟨t, M1⟩ := I.m f1
  rcases q1 with ⟨w, p1⟩ | ⟨L', y, w, hE, hy, p1⟩
  · obtain ⟨L', hE⟩ := ev_of hv.1 hv.2.1
    obtain ⟨h2, M2, f2, p2, _⟩ := m_guesses M1 hv hE hF
    refine ⟨h2, I.go f1 C1 f2 M2 hv hs hm, ?_⟩
    rw [b_Law_law_1144, I.ck, bnd_s, p1, bnd2_s, M1.r.1, bnd_s, p2 w, bnd2_s, if_pos rfl]
  · obtain ⟨h2, M2, f2, _, p2⟩ := m_guesses M1 hv hE hF
    refine ⟨h2, I.go f1 C1 f2 M2 hv hs hm, ?_⟩
    rw [b_Law_law_1144, I.ck, bnd_s, p1, bnd2_s, M1.r.1, bnd_s, p2 w y hy, bnd2_s, if_pos rfl]
theorem l_1213 {F L : Nat} {xs : Nat → Int32} {k : Nat → Nat → Nat → Int32 → PH → Option Int32} {i : Int32} {h : PH} (H : IVe h) (hF : 3000 + nB 36 ≤ F) : ∃ h', IVe h' ∧ b_Law_law_1213 F L xs k 0 263 278 i h = k 0 263 278 (i + 4) h' := by
  have hF3 := F3 hF
  obtain ⟨x, m, sv, tl, tx, I⟩ := H
  obtain ⟨C, _, hv, hs, hm, _⟩ := id I
  obtain ⟨h1, p1, C1, f1⟩ := c_superfluous C hv hF3
  obtain ⟨t, M1⟩ := I.m f1
  obtain ⟨h2, p2, M2, f2⟩ := m_superfluous M1 hv hF
  refine ⟨h2, I.go f1 C1 f2 M2 hv hs hm, ?_⟩
  rw [b_Law_law_1213, I.ck, bnd_s, p1, bnd2_s, M1.r.1, bnd_s, p2, bnd2_s, if_pos rfl]
theorem l_1301 {F L : Nat} {xs : Nat → Int32} {k : Nat → Nat → Nat → Int32 → PH → Option Int32} {i : Int32} {h : PH} (H : IVe h) (hF : 3000 + nB 36 ≤ F) : ∃ h', IVe h' ∧ b_Law_law_1301 F L xs k 0 263 278 i h = k 0 263 278 (i + 4) h' := by
  have hF3 := F3 hF
  obtain ⟨x, m, sv, tl, tx, I⟩ := H
  obtain ⟨C, _, hv, hs, hm, _⟩ := id I
  obtain ⟨h1, p1, C1, f1⟩ := c_needed C hv hF3
  obtain ⟨t, M1⟩ := I.m f1
  obtain ⟨h2, p2, M2, f2⟩ := m_needed M1 hv hF
  refine ⟨h2, I.go f1 C1 f2 M2 hv hs hm, ?_⟩
  rw [b_Law_law_1301, I.ck, bnd_s, p1, bnd2_s, M1.r.1, bnd_s, p2, bnd2_s, if_pos rfl]
theorem l_1370 {F L : Nat} {xs : Nat → Int32} {k : Nat → Nat → Nat → Int32 → PH → Option Int32} {i : Int32} {h : PH} (H : IVe h) : ∃ h', IVe h' ∧ b_Law_law_1370 F L xs k 0 263 278 i h = k 0 263 278 (i + 4) h' := by
  obtain ⟨x, m, sv, tl, tx, I⟩ := H
  obtain ⟨C, _, hv, hs, hm, _⟩ := id I
  obtain ⟨h1, p1, C1, f1⟩ := c_clearText C
  obtain ⟨t, M1⟩ := I.m f1
  obtain ⟨h2, p2, M2, f2⟩ := m_clearText M1
  refine ⟨h2, I.go f1 C1 f2 M2 hv hs hm, ?_⟩
  rw [b_Law_law_1370, I.ck, bnd_s, p1, bnd2_s, M1.r.1, bnd_s, p2, bnd2_s, if_pos rfl]
