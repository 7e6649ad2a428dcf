/-! The class's desk: what it holds, keeping, undoing. -/
def NPv (V : Nat → Value) : Prop := V 0 = .ref 1 ∧ V 1 = .ref 14 ∧ V 2 = .ref 27 ∧ V 5 = .ref 28 ∧ V 6 = .ref 30 ∧ V 7 = .ref 32 ∧ V 8 = .ref 36 ∧ V 9 = .ref 122 ∧ V 10 = .ref 208 ∧ V 11 = .ref 209 ∧ V 12 = .ref 210
theorem NPv.up {V : Nat → Value} (H : NPv V) (v : Value) {k : Nat} (hk : k = 3 ∨ k = 4) : NPv (updV V k v) := by
  obtain ⟨h1, h2, h3, h4, h5, h6, h7, h8, h9, h10, h11⟩ := H
  exact ⟨(vu_n _ _ (by omega)).trans h1, (vu_n _ _ (by omega)).trans h2, (vu_n _ _ (by omega)).trans h3, (vu_n _ _ (by omega)).trans h4, (vu_n _ _ (by omega)).trans h5, (vu_n _ _ (by omega)).trans h6, (vu_n _ _ (by omega)).trans h7, (vu_n _ _ (by omega)).trans h8, (vu_n _ _ (by omega)).trans h9, (vu_n _ _ (by omega)).trans h10, (vu_n _ _ (by omega)).trans h11⟩
def TxAt (h : PH) (tl : Nat) (tx : Nat → Int32) : Prop := ∃ V f, h.2 28 = obj 2 4 V ∧ V 0 = .ref 29 ∧ V 1 = .int (nI tl) ∧ tl ≤ 150 ∧ h.2 29 = oI 150 f ∧ ∀ i, i < tl → f i = tx i
/-- keeping, text, draft -/
def CA (h : PH) (m : Nat) (sv : Nat → ST) (tl : Nat) (tx : Nat → Int32) : Prop := ∃ V q f, h.2 0 = obj 9 13 V ∧ NPv V ∧ V 3 = .int (nI q) ∧ V 4 = .int (nI m) ∧ q < 4 ∧ m ≤ 4 ∧ StaSh h 14 ∧ (h.2 27 = oR 0 4 f ∧ ∀ k, k < 4 → f k = some (211 + 13 * k)) ∧ (∀ k, k < 4 → StaSh h (211 + 13 * k)) ∧ (∀ i, i < m → CSt h (211 + 13 * ((q + i) % 4)) (sv i)) ∧ TxAt h tl tx
/-- what serves trials -/
def CB (h : PH) : Prop := PosSh h 30 ∧ ReaOK h 32 ∧ (∃ W, SolSh h 122 W) ∧ (∃ W, h.2 208 = obj 5 1 W) ∧ (∃ f, h.2 209 = oI 6 f) ∧ ∃ f, h.2 210 = oI 36 f
/-- the solver knows nothing -/
def SolF (h : PH) : Prop := ∃ W, SolSh h 36 W ∧ W 4 = .int 0 ∧ W 5 = .int 0 ∧ W 6 = .int 0 ∧ ∃ z, W 7 = .int z
def SolC (h : PH) (x : ST) : Prop := ∃ W L, SolSh h 36 W ∧ (∃ z, W 7 = .int z) ∧ CCH h 36 (tR x) (tK x) W ∧ Ev (tR x) 36 (tK x) (tP x) L ∧ GCH h 36 W L
def CW (h : PH) (x : ST) (m : Nat) (sv : Nat → ST) (tl : Nat) (tx : Nat → Int32) : Prop := CSt h 1 x ∧ SolC h x ∧ CA h m sv tl tx ∧ CB h
def DA : Nat → Prop := fun k => k = 0 ∨ (14 ≤ k ∧ k < 30) ∨ (211 ≤ k ∧ k < 263)
def DB : Nat → Prop := fun k => (30 ≤ k ∧ k < 36) ∨ (122 ≤ k ∧ k < 211)
theorem TxAt.fr {h h' : PH} {tl : Nat} {tx : Nat → Int32} (H : TxAt h tl tx) (e0 : h'.2 28 = h.2 28) (e1 : h'.2 29 = h.2 29) : TxAt h' tl tx := by
  obtain ⟨V, f, a0, a1, a2, a3, a4, a5⟩ := H
  exact ⟨V, f, e0.trans a0, a1, a2, a3, e1.trans a4, a5⟩
theorem CA.fr {h h' : PH} {m : Nat} {sv : Nat → ST} {tl : Nat} {tx : Nat → Int32} (H : CA h m sv tl tx) (e : ∀ k, DA k → h'.2 k = h.2 k) : CA h' m sv tl tx := by
  simp only [DA] at e
  obtain ⟨V, q, f, a0, a1, a2, a3, a4, a5, a6, ⟨a7, a8⟩, a9, a10, a11⟩ := H
  exact ⟨V, q, f, (e _ (by omega)).trans a0, a1, a2, a3, a4, a5, a6.fr fun k hk => e k (by simp only [US] at hk; omega), ⟨(e _ (by omega)).trans a7, a8⟩, fun k hk => (a9 k hk).fr fun j hj => e j (by simp only [US] at hj; omega), fun i hi => (a10 i hi).fr fun j hj => e j (by simp only [US] at hj; omega), a11.fr (e _ (by omega)) (e _ (by omega))⟩
theorem SolSh.fr {h h' : PH} {v : Nat} {V : Nat → Value} (H : SolSh h v V) (e : ∀ k, v ≤ k → k < v + 86 → h'.2 k = h.2 k) : SolSh h' v V := by
  obtain ⟨a0, a1, a2, ⟨x1, a3, a4⟩, ⟨z1, a5⟩, a6, ⟨z2, a7, a8⟩, a9⟩ := H
  exact ⟨(e _ (by omega) (by omega)).trans a0, a1, a2.fr fun j hj => e _ (by omega) (by omega), ⟨x1, (e _ (by omega) (by omega)).trans a3, a4⟩, ⟨z1, (e _ (by omega) (by omega)).trans a5⟩, a6.fr (e _ (by omega) (by omega)) (e _ (by omega) (by omega)), ⟨z2, (e _ (by omega) (by omega)).trans a7, a8⟩, fun j hj => (a9 j hj).fr (e _ (by omega) (by omega)) (e _ (by omega) (by omega))⟩
theorem CB.fr {h h' : PH} (H : CB h) (e : ∀ k, DB k → h'.2 k = h.2 k) : CB h' := by
  simp only [DB] at e
  obtain ⟨a, b, ⟨W, c⟩, ⟨W2, d⟩, ⟨f, g⟩, f2, g2⟩ := H
  exact ⟨a.fr (e _ (by omega)) (e _ (by omega)), b.fr fun j hj => e _ (by omega), ⟨W, c.fr fun k h1 h2 => e k (by omega)⟩, ⟨W2, (e _ (by omega)).trans d⟩, ⟨f, (e _ (by omega)).trans g⟩, f2, (e _ (by omega)).trans g2⟩
theorem SolF.fr {h h' : PH} (H : SolF h) (e : ∀ k, 36 ≤ k → k < 122 → h'.2 k = h.2 k) : SolF h' := by
  obtain ⟨W, a, b⟩ := H
  exact ⟨W, a.fr e, b⟩
theorem SolC.fr {h h' : PH} {x : ST} (H : SolC h x) (e : ∀ k, 36 ≤ k → k < 122 → h'.2 k = h.2 k) : SolC h' x := by
  obtain ⟨W, L, a, b, c, d, g⟩ := H
  refine ⟨W, L, a.fr e, b, c.fr (e _ (by omega) (by omega)) rfl rfl, d, ?_⟩
  rcases g with g | ⟨g, g'⟩
  · exact Or.inl g
  · exact Or.inr ⟨g, g'.fr (e _ (by omega) (by omega)) (e _ (by omega) (by omega)) rfl⟩
theorem SolF.c {h : PH} {x : ST} (H : SolF h) (hv : VAL x) : SolC h x := by
  obtain ⟨W, a, b4, b5, b6, b7⟩ := H
  have hop : opn (tK x) ≤ 36 := by
    have := cnt_neg (fun c => decide (2 ≤ sz (tK x c))) 36
    unfold opn
    omega
  obtain ⟨L, hL⟩ := Ev_ex hv.1 36 (tK x) (tP x) hv.2.1 hop
  exact ⟨W, L, a, b7, ⟨0, 0, b4, b5, by omega, by omega, fun z => absurd z (Nat.lt_irrefl 0)⟩, hL, Or.inl b6⟩
theorem sol_forget {h : PH} {v : Nat} {W : Nat → Value} (H : SolSh h v W) : ∃ h' W', f_Sol_forget v h = some h' ∧ SolSh h' v W' ∧ W' 4 = .int 0 ∧ W' 5 = .int 0 ∧ W' 6 = .int 0 ∧ W' 7 = W 7 ∧ Fr (fun k => k = v) h h' := by
  obtain ⟨p1, H1⟩ := H.up (.int (0 : Int32)) (k := 4) (by omega)
  obtain ⟨p2, H2⟩ := H1.up (.int (0 : Int32)) (k := 5) (by omega)
  obtain ⟨p3, H3⟩ := H2.up (.int (0 : Int32)) (k := 6) (by omega)
  refine ⟨_, _, ?_, H3, (vu_n _ _ (by omega)).trans ((vu_n _ _ (by omega)).trans (vu_s _ _ _)), (vu_n _ _ (by omega)).trans (vu_s _ _ _), vu_s _ _ _, (vu_n _ _ (by omega)).trans ((vu_n _ _ (by omega)).trans (vu_n _ _ (by omega))), (((Fr.rf _ _).sq _).sq _).sq _⟩
  unfold f_Sol_forget
  rw [p1, bnd_s, p2, bnd_s, p3, bnd_s]
def svN (m : Nat) : Nat := if m < 4 then m + 1 else 4
def svS (m : Nat) (sv : Nat → ST) (x : ST) : Nat → ST := fun i => if m < 4 then (if i = m then x else sv i) else (if i = 3 then x else sv (i + 1))
theorem np_save {h : PH} {x : ST} {m : Nat} {sv : Nat → ST} {tl : Nat} {tx : Nat → Int32} (H : CW h x m sv tl tx) (hv : VAL x) : ∃ h', f_Np_save 0 h = some h' ∧ CSt h' 1 x ∧ SolF h' ∧ CA h' (svN m) (svS m sv x) tl tx ∧ CB h' ∧ Fr (fun k => k = 0 ∨ k = 36 ∨ (211 ≤ k ∧ k < 263)) h h' := by
  obtain ⟨hC, ⟨W, L, sS, s7, _⟩, ⟨V, q, f, a0, a1, a2, a3, a4, a5, a6, ⟨a7, a8⟩, a9, a10, a11⟩, hB⟩ := H
  obtain ⟨T, S, hC1, hC2⟩ := hC
  have hlt : (q + m) % 4 < 4 := Nat.mod_lt _ (by omega)
  have e1 : (nI q + nI m) - (nI q + nI m) / (4 : Int32) * (4 : Int32) = nI ((q + m) % 4) := by
    rw [nI_add]
    exact pk_rem (a := q + m) (d := 4) (by omega) (by omega) (by omega)
  obtain ⟨h1, p1, q1, f1⟩ := sta_copy hC1 hv.1 (a9 _ hlt) (by omega)
  have e1' : ∀ k, ¬ (211 ≤ k ∧ k < 263) → h1.2 k = h.2 k := fun k hk => f1.2 k (by simp only [US]; omega)
  have z0 : h1.2 0 = obj 9 13 V := (e1' _ (by omega)).trans a0
  have hm' : svN m ≤ 4 := by unfold svN; split <;> omega
  have key : ∃ h2 V2 q2, (∀ k, k ≠ 0 → h2.2 k = h1.2 k) ∧ h2.1 = h1.1 ∧ h2.2 0 = obj 9 13 V2 ∧ NPv V2 ∧ V2 3 = .int (nI q2) ∧ V2 4 = .int (nI (svN m)) ∧ q2 < 4 ∧ (∀ i, i < svN m → CSt h1 (211 + 13 * ((q2 + i) % 4)) (svS m sv x i)) ∧
      (bnd (gI h1 0 9 4) fun x8 => (if (4 : Int32) ≤ x8 then bnd (gI h1 0 9 3) fun x9 => bnd (pV h1 0 9 3 (.int ((x9 + (1 : Int32)) - (x9 + (1 : Int32)) / (4 : Int32) * (4 : Int32)))) fun h10 => b_Np_save_56 0 h10 else bnd (gI h1 0 9 4) fun x11 => bnd (pV h1 0 9 4 (.int (x11 + (1 : Int32)))) fun h12 => b_Np_save_56 0 h12)) = b_Np_save_56 0 h2 := by
    have hold : ∀ i, i < m → (q + i) % 4 ≠ (q + m) % 4 → CSt h1 (211 + 13 * ((q + i) % 4)) (sv i) := fun i hi hn => (a10 i hi).fr fun k hk => f1.2 k (by simp only [US] at hk ⊢; omega)
    rw [ob_I z0 (by omega) a3, bnd_s]
    by_cases w : m < 4
    · obtain ⟨h2, p2, g2, f2⟩ := puti (k := 4) (.int (nI (m + 1))) z0 (by omega)
      refine ⟨h2, _, q, f2.2, f2.1, g2, a1.up _ (by omega), (vu_n _ _ (by omega)).trans a2, ?_, a4, fun i hi => ?_, ?_⟩
      · rw [vu_s, svN, if_pos w]
      · have hi' : i < m + 1 := by rw [svN, if_pos w] at hi; exact hi
        show CSt h1 _ (if m < 4 then (if i = m then x else sv i) else _)
        rw [if_pos w]
        by_cases z : i = m
        · subst z
          rw [if_pos rfl]
          exact ⟨T, S, q1, hC2⟩
        · rw [if_neg z]
          exact hold i (by omega) (by omega)
      · rw [if_neg (show ¬ (4 : Int32) ≤ nI m from nI_ge (a := (m)) (b := 4) (by omega) (by omega)), bnd_s, nI_1, p2, bnd_s]
    · have hm4 : m = 4 := by omega
      subst hm4
      have e9 : (nI q + (1 : Int32)) - (nI q + (1 : Int32)) / (4 : Int32) * (4 : Int32) = nI ((q + 1) % 4) := by
        rw [nI_1]
        exact pk_rem (a := q + 1) (d := 4) (by omega) (by omega) (by omega)
      obtain ⟨h2, p2, g2, f2⟩ := puti (k := 3) (.int (nI ((q + 1) % 4))) z0 (by omega)
      refine ⟨h2, _, (q + 1) % 4, f2.2, f2.1, g2, a1.up _ (by omega), vu_s _ _ _, (vu_n _ _ (by omega)).trans a3, Nat.mod_lt _ (by omega), fun i hi => ?_, ?_⟩
      · have hi' : i < 4 := hi
        show CSt h1 _ (if (4 : Nat) < 4 then _ else (if i = 3 then x else sv (i + 1)))
        rw [if_neg (by omega)]
        by_cases z : i = 3
        · subst z
          rw [if_pos rfl, show ((q + 1) % 4 + 3) % 4 = (q + 4) % 4 by omega]
          exact ⟨T, S, q1, hC2⟩
        · rw [if_neg z, show ((q + 1) % 4 + i) % 4 = (q + (i + 1)) % 4 by omega]
          exact hold (i + 1) (by omega) (by omega)
      · rw [if_pos (show (4 : Int32) ≤ nI 4 by decide), ob_I z0 (by omega) a2, bnd_s, e9, p2, bnd_s]
  obtain ⟨h2, V2, q2, f2, f2', g2, n2, n3, n4, hq2, hsv, hend⟩ := key
  have e2' : ∀ k, k ≠ 0 → ¬ (211 ≤ k ∧ k < 263) → h2.2 k = h.2 k := fun k z1 z2 => (f2 k z1).trans (e1' k z2)
  obtain ⟨h3, W3, p3, H3, w4, w5, w6, w7, f3⟩ := sol_forget (sS.fr fun k k1 k2 => e2' k (by omega) (by omega))
  have e3' : ∀ k, k ≠ 0 → k ≠ 36 → ¬ (211 ≤ k ∧ k < 263) → h3.2 k = h.2 k := fun k z1 z2 z3 => (f3.2 k z2).trans (e2' k z1 z3)
  have e31 : ∀ k, k ≠ 0 → k ≠ 36 → h3.2 k = h1.2 k := fun k z1 z2 => (f3.2 k z2).trans (f2 k z1)
  refine ⟨h3, ?_, ⟨T, S, hC1.fr fun k hk => e3' k (by simp only [US] at hk; omega) (by simp only [US] at hk; omega) (by simp only [US] at hk; omega), hC2⟩, ⟨W3, H3, w4, w5, w6, by obtain ⟨z, hz⟩ := s7; exact ⟨z, w7.trans hz⟩⟩, ⟨V2, q2, f, (f3.2 _ (by omega)).trans g2, n2, n3, n4, hq2, hm', a6.fr fun k hk => e3' k (by simp only [US] at hk; omega) (by simp only [US] at hk; omega) (by simp only [US] at hk; omega), ⟨(e3' _ (by omega) (by omega) (by omega)).trans a7, a8⟩, fun k hk => ?_, fun i hi => (hsv i hi).fr fun j hj => e31 j (by simp only [US] at hj; omega) (by simp only [US] at hj; omega), a11.fr (e3' _ (by omega) (by omega) (by omega)) (e3' _ (by omega) (by omega) (by omega))⟩, hB.fr fun k hk => e3' k (by simp only [DB] at hk; omega) (by simp only [DB] at hk; omega) (by simp only [DB] at hk; omega), ⟨f3.1.trans (f2'.trans f1.1), fun k hk => e3' k (by omega) (by omega) (by omega)⟩⟩
  · unfold f_Np_save
    have hck : cK h (211 + 13 * ((q + m) % 4)) 8 = some () := by obtain ⟨⟨V9, z, _⟩, _⟩ := a9 _ hlt; exact ob_K z
    have hck36 : cK h2 36 7 = some () := ob_K ((e2' _ (by omega) (by omega)).trans sS.1)
    rw [ob_R a0 (by omega) a1.2.2.1, bnd_s, ob_I a0 (by omega) a2, bnd_s, ob_I a0 (by omega) a3, bnd_s, e1, ar_R a7 (by omega) hlt (by omega) (a8 _ hlt), bnd_s, ob_R a0 (by omega) a1.1, bnd_s, hck, bnd_s, p1, bnd_s]
    refine Eq.trans hend ?_
    rw [b_Np_save_56, ob_R g2 (by omega) n2.2.2.2.2.2.2.1, bnd_s, hck36, bnd_s, p3, bnd_s]
  · by_cases w : k = (q + m) % 4
    · rw [w]
      exact q1.sh.fr fun j hj => e31 j (by simp only [US] at hj; omega) (by simp only [US] at hj; omega)
    · exact (a9 k hk).fr fun j hj => (e31 j (by simp only [US] at hj; omega) (by simp only [US] at hj; omega)).trans (f1.2 j (by simp only [US] at hj ⊢; omega))
theorem np_undo {h : PH} {x : ST} {m : Nat} {sv : Nat → ST} {tl : Nat} {tx : Nat → Int32} (H : CW h x m sv tl tx) (hs : ∀ i, i < m → VAL (sv i)) :
    (m = 0 ∧ f_Np_undo 0 h = some (.inl 2, h)) ∨ ∃ h', 0 < m ∧ f_Np_undo 0 h = some (.inr (nI (m - 1)), h') ∧ CW h' (sv (m - 1)) (m - 1) sv tl tx ∧ Fr (fun k => k < 263) h h' := by
  obtain ⟨hC, ⟨W, L, sS, s7, _⟩, ⟨V, q, f, a0, a1, a2, a3, a4, a5, a6, ⟨a7, a8⟩, a9, a10, a11⟩, hB⟩ := H
  unfold f_Np_undo
  rw [ob_I a0 (by omega) a3, bnd_s]
  by_cases w : m = 0
  · left
    exact ⟨w, by rw [if_pos (show nI m = (0 : Int32) from congrArg nI w)]⟩
  right
  rw [if_neg (show ¬ nI m = (0 : Int32) from fun z => w ((nI_eq (a := m) (b := 0) (by omega) (by omega)).mp z)), bnd_s, show nI m - (1 : Int32) = nI (m - 1) from pk_sub (a := m) (b := 1) (by omega)]
  obtain ⟨h1, p1, g1, f1⟩ := puti (k := 4) (.int (nI (m - 1))) a0 (by omega)
  have hlt : (q + (m - 1)) % 4 < 4 := Nat.mod_lt _ (by omega)
  have e1 : (nI q + nI (m - 1)) - (nI q + nI (m - 1)) / (4 : Int32) * (4 : Int32) = nI ((q + (m - 1)) % 4) := by
    rw [nI_add]
    exact pk_rem (a := q + (m - 1)) (d := 4) (by omega) (by omega) (by omega)
  obtain ⟨T, S, b1, b2⟩ := (a10 (m - 1) (by omega)).fr (h' := h1) fun k hk => f1.2 k (by simp only [US] at hk; omega)
  have hsh : StaSh h1 1 := hC.sh.fr fun k hk => f1.2 k (by simp only [US] at hk; omega)
  obtain ⟨h2, p2, g2, f2⟩ := sta_copy b1 (hs _ (by omega)).1 hsh (by omega)
  have e2 : ∀ k, k ≠ 0 → ¬ (1 ≤ k ∧ k < 14) → h2.2 k = h.2 k := fun k z1 z2 => (f2.2 k (by simp only [US]; omega)).trans (f1.2 k z1)
  obtain ⟨h3, W3, p3, H3, w4, w5, w6, w7, f3⟩ := sol_forget (sS.fr fun k k1 k2 => e2 k (by omega) (by omega))
  have e3 : ∀ k, k ≠ 0 → k ≠ 36 → ¬ (1 ≤ k ∧ k < 14) → h3.2 k = h.2 k := fun k z1 z2 z3 => (f3.2 k z2).trans (e2 k z1 z3)
  have z2 : h2.2 0 = obj 9 13 (updV V 4 (.int (nI (m - 1)))) := (f2.2 0 (by simp only [US]; omega)).trans g1
  have z3 : h3.2 0 = obj 9 13 (updV V 4 (.int (nI (m - 1)))) := (f3.2 0 (by omega)).trans z2
  have n1 := a1.up (k := 4) (.int (nI (m - 1))) (by omega)
  refine ⟨h3, by omega, ?_, ⟨⟨T, S, g2.fr fun k hk => f3.2 k (by simp only [US] at hk; omega), b2⟩, SolF.c ⟨W3, H3, w4, w5, w6, by obtain ⟨z, hz⟩ := s7; exact ⟨z, w7.trans hz⟩⟩ (hs _ (by omega)), ⟨_, q, f, z3, n1, (vu_n _ _ (by omega)).trans a2, vu_s _ _ _, a4, by omega, a6.fr fun k hk => e3 k (by simp only [US] at hk; omega) (by simp only [US] at hk; omega) (by simp only [US] at hk; omega), ⟨(e3 _ (by omega) (by omega) (by omega)).trans a7, a8⟩, fun k hk => (a9 k hk).fr fun j hj => e3 j (by simp only [US] at hj; omega) (by simp only [US] at hj; omega) (by simp only [US] at hj; omega), fun i hi => (a10 i (by omega)).fr fun j hj => e3 j (by simp only [US] at hj; omega) (by simp only [US] at hj; omega) (by simp only [US] at hj; omega), a11.fr (e3 _ (by omega) (by omega) (by omega)) (e3 _ (by omega) (by omega) (by omega))⟩, hB.fr fun k hk => e3 k (by simp only [DB] at hk; omega) (by simp only [DB] at hk; omega) (by simp only [DB] at hk; omega)⟩, ⟨f3.1.trans (f2.1.trans f1.1), fun k hk => e3 k (by omega) (by omega) (by omega)⟩⟩
  have hck1 : cK h1 1 8 = some () := by obtain ⟨⟨V9, z, _⟩, _⟩ := hsh; exact ob_K z
  have hck36 : cK h2 36 7 = some () := ob_K ((e2 _ (by omega) (by omega)).trans sS.1)
  rw [p1, bnd_s, ob_R g1 (by omega) n1.1, bnd_s, ob_R g1 (by omega) n1.2.2.1, bnd_s, ob_I g1 (by omega) ((vu_n _ _ (by omega)).trans a2), bnd_s, ob_I g1 (by omega) (vu_s _ _ _), bnd_s, e1, ar_R ((f1.2 27 (by omega)).trans a7) (by omega) hlt (by omega) (a8 _ hlt), bnd_s, hck1, bnd_s, p2, bnd_s, ob_R z2 (by omega) n1.2.2.2.2.2.2.1, bnd_s, hck36, bnd_s, p3, bnd_s, ob_I z3 (by omega) (vu_s _ _ _), bnd_s]
