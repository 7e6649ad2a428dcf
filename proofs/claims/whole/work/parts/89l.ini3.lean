/-! What the reference's constructor makes; what a desk stands in. -/
theorem CW.fr {h h' : PH} {x : ST} {m : Nat} {sv : Nat → ST} {tl : Nat} {tx : Nat → Int32} (H : CW h x m sv tl tx) (e : ∀ k, k < 263 → h'.2 k = h.2 k) : CW h' x m sv tl tx :=
  ⟨H.1.fr fun k hk => e k (by simp only [US] at hk; omega), H.2.1.fr fun k h1 h2 => e k (by omega), H.2.2.1.fr fun k hk => e k (by simp only [DA] at hk; omega), H.2.2.2.fr fun k hk => e k (by simp only [DB] at hk; omega)⟩
theorem MW.fr {h h' : PH} {mo : Nat} {x : ST} {m : Nat} {sv : Nat → ST} {tl : Nat} {tx : Nat → Int32} {t : Int32} (H : MW h mo x m sv tl tx t) (e : ∀ k, DM mo k → h'.2 k = h.2 k) : MW h' mo x m sv tl tx t := by
  simp only [DM] at e
  obtain ⟨⟨V, a0, a1⟩, b, ⟨g1, c1, c2⟩, ⟨g2, d1, d2⟩, ⟨g3, e1, e2⟩, q⟩ := H
  exact ⟨⟨V, (e _ (by omega)).trans a0, a1⟩, b, ⟨g1, (e _ (by omega)).trans c1, c2⟩, ⟨g2, (e _ (by omega)).trans d1, d2⟩, ⟨g3, (e _ (by omega)).trans e1, e2⟩, fun j h1 h2 => (q j h1 h2).fr (e _ (by omega))⟩
theorem c_cellOf {h : PH} {x : ST} {m : Nat} {sv : Nat → ST} {tl : Nat} {tx : Nat → Int32} (H : CW h x m sv tl tx) (hR : ROK (tR x)) {k j : Nat} (hk : k < rn (tR x)) (hj : j < rl (tR x) k) : f_Np_cellOf 0 (nI k) (nI j) h = some (.inr (nI (rc (tR x) k j)), h) := by
  obtain ⟨n1, n2, n3, n4, n5, n6, n7, n8, n9, n10, n11, n12, _⟩ := np_hd H
  have hcc := cc_ok H hR hk
  have hl := (hR.2 k hk).2.1
  have hmx := mxl_le (rk (tR x) k)
  obtain ⟨⟨T0, S0, hC1, hC2⟩, _⟩ := H
  obtain ⟨q1, q2, q3, q4, q5, q6, _⟩ := ru_k hC1.2.2.1 hR hk
  unfold f_Np_cellOf
  rw [n12, bnd_s, hcc, bndT_s, if_neg (nI_pos (by omega)), n2, bnd_s, n4, bnd_s, q5, bnd_s, q6, bnd_s, if_pos (show nI j < nI (rl (tR x) k) from nI_lt hj (by omega)), bnd_s, n4, bnd_s, (ru_ck hC1.2.2.1).1, bnd_s, ru_c hC1.2.2.1 hR hk hj, bnd_s]
theorem i_st {h : PH} {a n k : Nat} {V : Nat → Value} (e : h.2 a = obj 10 28 V) (ha : h.1 = a + n) (hn : n ≠ 0) (c : PC) (hk : k < 28) : ∃ h', (∀ K : PH → Option PH, (bnd (some (newH h c)) fun h1 => bnd (pV h1 a 10 k (.ref h.1)) K) = K h') ∧ h'.1 = a + (n + 1) ∧ h'.2 a = obj 10 28 (updV V k (.ref (a + n))) ∧ h'.2 (a + n) = c ∧ ∀ j, j ≠ a → j ≠ a + n → h'.2 j = h.2 j := by
  obtain ⟨h1, z1, n1, s1, o1⟩ := newH_e h c
  rw [ha] at n1 s1 o1
  obtain ⟨h2, p2, g2, f2⟩ := puti (k := k) (.ref (a + n)) ((o1 a (by omega)).trans e) hk
  exact ⟨h2, fun K => by rw [bnd_s, z1, ha, p2, bnd_s], by rw [f2.1, n1]; omega, g2, (f2.2 _ (by omega)).trans s1, fun j h1 h2 => (f2.2 j h1).trans (o1 j h2)⟩
