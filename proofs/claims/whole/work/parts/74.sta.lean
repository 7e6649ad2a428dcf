/-! The class's states: rules, log, copies. -/
theorem cpi {h : PH} {a b n : Nat} {f g : Nat → Int32} (ea : h.2 a = oI n f) (eb : h.2 b = oI n g) (hn : n < 2 ^ 31) : ∃ h', cpI h a 0 b 0 (nI n) = some h' ∧ h'.2 b = oI n (va_cpy f g 0 0 n) ∧ Fr (fun k => k = b) h h' := ⟨_, cp_I ea eb (Nat.le_refl _) (Nat.le_refl _) hn, hset_s _ _ _, (Fr.rf _ _).sq _⟩
theorem cpl {h : PH} {a b n : Nat} {f g : Nat → Int64} (ea : h.2 a = oL n f) (eb : h.2 b = oL n g) (hn : n < 2 ^ 31) : ∃ h', cpL h a 0 b 0 (nI n) = some h' ∧ h'.2 b = oL n (va_cpy f g 0 0 n) ∧ Fr (fun k => k = b) h h' := ⟨_, cp_L ea eb (Nat.le_refl _) (Nat.le_refl _) hn, hset_s _ _ _, (Fr.rf _ _).sq _⟩
theorem sti {h : PH} {b n i : Nat} {f : Nat → Int32} (v : Int32) (e : h.2 b = oI n f) (hi : i < n) (hn : n < 2 ^ 31) : ∃ h', sI h b (nI i) v = some h' ∧ h'.2 b = oI n (upd f i v) ∧ Fr (fun k => k = b) h h' := ⟨_, ar_sI _ e hi hn, hset_s _ _ _, (Fr.rf _ _).sq _⟩
theorem stl {h : PH} {b n i : Nat} {f : Nat → Int64} (v : Int64) (e : h.2 b = oL n f) (hi : i < n) (hn : n < 2 ^ 31) : ∃ h', sL h b (nI i) v = some h' ∧ h'.2 b = oL n (vp_updL f i v) ∧ Fr (fun k => k = b) h h' := ⟨_, ar_sL _ e hi hn, hset_s _ _ _, (Fr.rf _ _).sq _⟩
theorem puti {h : PH} {a ci n k : Nat} {V : Nat → Value} (v : Value) (e : h.2 a = obj ci n V) (hk : k < n) : ∃ h', pV h a ci k v = some h' ∧ h'.2 a = obj ci n (updV V k v) ∧ Fr (fun j => j = a) h h' := ⟨_, ob_P v e hk, hset_s _ _ _, (Fr.rf _ _).sq _⟩
theorem cpy0 {α : Type} {f g : Nat → α} {n j : Nat} (h : j < n) : va_cpy f g 0 0 n j = f j := by
  rw [pk_cpy_in (by omega) (by omega)]
  congr 1
  omega
def RulSh (h : PH) (r : Nat) : Prop := ∃ V kd sm ln cl ar pe, h.2 r = obj 4 7 V ∧ (V 0 = .ref (r + 1) ∧ V 1 = .ref (r + 2) ∧ V 2 = .ref (r + 3) ∧ V 3 = .ref (r + 4) ∧ V 4 = .ref (r + 5) ∧ V 5 = .ref (r + 6)) ∧ h.2 (r + 1) = oI 8 kd ∧ h.2 (r + 2) = oI 8 sm ∧ h.2 (r + 3) = oI 8 ln ∧ h.2 (r + 4) = oI 48 cl ∧ h.2 (r + 5) = oL 8 ar ∧ h.2 (r + 6) = oL 36 pe
theorem RulAt.sh {h : PH} {r : Nat} {R : RT} (H : RulAt h r R) : RulSh h r := by
  obtain ⟨V, kd, sm, ln, cl, ar, pe, a0, a1, a2, a3, a4, a5, a6, a7, ⟨b1, b2, b3, b4, b5, b6⟩, _⟩ := H
  exact ⟨V, kd, sm, ln, cl, ar, pe, a0, ⟨a1, a2, a3, a4, a5, a6⟩, b1, b2, b3, b4, b5, b6⟩
theorem RulSh.fr {h h' : PH} {r : Nat} {S : Nat → Prop} (H : RulSh h r) (f : Fr S h h') (n : ∀ k, UR r k → ¬ S k) : RulSh h' r := by
  have e : ∀ j, j < 7 → h'.2 (r + j) = h.2 (r + j) := fun j hj => f.2 _ (n _ ⟨by omega, by omega⟩)
  obtain ⟨V, kd, sm, ln, cl, ar, pe, a0, a1, b1, b2, b3, b4, b5, b6⟩ := H
  exact ⟨V, kd, sm, ln, cl, ar, pe, (e 0 (by omega)).trans a0, a1, (e 1 (by omega)).trans b1, (e 2 (by omega)).trans b2, (e 3 (by omega)).trans b3, (e 4 (by omega)).trans b4, (e 5 (by omega)).trans b5, (e 6 (by omega)).trans b6⟩
theorem rul_copy {h : PH} {r t : Nat} {R : RT} (HR : RulAt h t R) (hR : ROK R) (Hs : RulSh h r) (hne : r + 7 ≤ t ∨ t + 7 ≤ r) : ∃ h', f_Rul_copyFrom r t h = some h' ∧ RulAt h' r R ∧ Fr (UR r) h h' := by
  obtain ⟨V, kd, sm, ln, cl, ar, pe, a0, a1, a2, a3, a4, a5, a6, a7, ⟨b1, b2, b3, b4, b5, b6⟩, c1, c2⟩ := HR
  obtain ⟨W, kd', sm', ln', cl', ar', pe', d0, ⟨d1, d2, d3, d4, d5, d6⟩, e1, e2, e3, e4, e5, e6⟩ := Hs
  obtain ⟨h1, p1, g1, f1⟩ : ∃ h1, pV h r 4 6 (.int (nI (rn R))) = some h1 ∧ h1.2 r = obj 4 7 (updV W 6 (.int (nI (rn R)))) ∧ Fr (fun k => k = r) h h1 := ⟨_, ob_P _ d0 (by omega), hset_s _ _ _, (Fr.rf _ _).sq _⟩
  have w : ∀ k, k ≠ 6 → updV W 6 (.int (nI (rn R))) k = W k := fun k hk => vu_n _ _ hk
  obtain ⟨h2, p2, g2, f2⟩ := cpi (n := 8) ((f1.2 (t + 1) (by omega)).trans b1) ((f1.2 (r + 1) (by omega)).trans e1) (by omega)
  obtain ⟨h3, p3, g3, f3⟩ := cpi (n := 8) ((f2.2 (t + 2) (by omega)).trans ((f1.2 (t + 2) (by omega)).trans b2)) ((f2.2 (r + 2) (by omega)).trans ((f1.2 (r + 2) (by omega)).trans e2)) (by omega)
  have F3 : Fr (fun k => k = r ∨ k = r + 1 ∨ k = r + 2) h h3 := (f1.mo fun k hk => Or.inl hk).tr ((f2.mo fun k hk => Or.inr (Or.inl hk)).tr (f3.mo fun k hk => Or.inr (Or.inr hk)))
  obtain ⟨h4, p4, g4, f4⟩ := cpi (n := 8) ((F3.2 (t + 3) (by omega)).trans b3) ((F3.2 (r + 3) (by omega)).trans e3) (by omega)
  obtain ⟨h5, p5, g5, f5⟩ := cpi (n := 48) ((f4.2 (t + 4) (by omega)).trans ((F3.2 (t + 4) (by omega)).trans b4)) ((f4.2 (r + 4) (by omega)).trans ((F3.2 (r + 4) (by omega)).trans e4)) (by omega)
  have F5 : Fr (fun k => k = r ∨ k = r + 1 ∨ k = r + 2 ∨ k = r + 3 ∨ k = r + 4) h h5 := (F3.mo fun k hk => by omega).tr ((f4.mo fun k hk => by omega).tr (f5.mo fun k hk => by omega))
  obtain ⟨h6, p6, g6, f6⟩ := cpl (n := 8) ((F5.2 (t + 5) (by omega)).trans b5) ((F5.2 (r + 5) (by omega)).trans e5) (by omega)
  obtain ⟨h7, p7, g7, f7⟩ := cpl (n := 36) ((f6.2 (t + 6) (by omega)).trans ((F5.2 (t + 6) (by omega)).trans b6)) ((f6.2 (r + 6) (by omega)).trans ((F5.2 (r + 6) (by omega)).trans e6)) (by omega)
  have q1 : h1.2 t = obj 4 7 V := (f1.2 t (by omega)).trans a0
  have q2 : h2.2 t = obj 4 7 V := (f2.2 t (by omega)).trans q1
  have q3 : h3.2 t = obj 4 7 V := (f3.2 t (by omega)).trans q2
  have q4 : h4.2 t = obj 4 7 V := (f4.2 t (by omega)).trans q3
  have q5 : h5.2 t = obj 4 7 V := (f5.2 t (by omega)).trans q4
  have q6 : h6.2 t = obj 4 7 V := (f6.2 t (by omega)).trans q5
  have s2 := (f2.2 r (by omega)).trans g1
  have s3 := (f3.2 r (by omega)).trans s2
  have s4 := (f4.2 r (by omega)).trans s3
  have s5 := (f5.2 r (by omega)).trans s4
  have s6 := (f6.2 r (by omega)).trans s5
  have s7 := (f7.2 r (by omega)).trans s6
  have F7 : Fr (UR r) h h7 := (F5.mo fun k hk => by simp only [UR]; omega).tr ((f6.mo fun k hk => by simp only [UR]; omega).tr (f7.mo fun k hk => by simp only [UR]; omega))
  have h8 := hR.1
  have k1' := (f7.2 (r + 1) (by omega)).trans ((f6.2 (r + 1) (by omega)).trans ((f5.2 (r + 1) (by omega)).trans ((f4.2 (r + 1) (by omega)).trans ((f3.2 (r + 1) (by omega)).trans g2))))
  have k2' := (f7.2 (r + 2) (by omega)).trans ((f6.2 (r + 2) (by omega)).trans ((f5.2 (r + 2) (by omega)).trans ((f4.2 (r + 2) (by omega)).trans g3)))
  have k3' := (f7.2 (r + 3) (by omega)).trans ((f6.2 (r + 3) (by omega)).trans ((f5.2 (r + 3) (by omega)).trans g4))
  have k4' := (f7.2 (r + 4) (by omega)).trans ((f6.2 (r + 4) (by omega)).trans g5)
  refine ⟨h7, ?_, ⟨updV W 6 (.int (nI (rn R))), _, _, _, _, _, _, s7, (w 0 (by omega)).trans d1, (w 1 (by omega)).trans d2, (w 2 (by omega)).trans d3, (w 3 (by omega)).trans d4, (w 4 (by omega)).trans d5, (w 5 (by omega)).trans d6, vu_s _ _ _, ⟨k1', k2', k3', k4', (f7.2 _ (by omega)).trans g6, g7⟩, fun k hk => ?_, fun c hc => by rw [cpy0 hc]; exact c2 c hc⟩, F7⟩
  · unfold f_Rul_copyFrom
    rw [ob_I a0 (by omega) a7, bnd_s, p1, bnd_s, ob_R q1 (by omega) a1, bnd_s, ob_R g1 (by omega) ((w 0 (by omega)).trans d1), bnd_s, show (8 : Int32) = nI 8 from rfl, p2, bnd_s, ob_R q2 (by omega) a2, bnd_s, ob_R s2 (by omega) ((w 1 (by omega)).trans d2), bnd_s, p3, bnd_s, ob_R q3 (by omega) a3, bnd_s, ob_R s3 (by omega) ((w 2 (by omega)).trans d3), bnd_s, p4, bnd_s, ob_R q4 (by omega) a4, bnd_s, ob_R s4 (by omega) ((w 3 (by omega)).trans d4), bnd_s, show (48 : Int32) = nI 48 from rfl, p5, bnd_s, ob_R q5 (by omega) a5, bnd_s, ob_R s5 (by omega) ((w 4 (by omega)).trans d5), bnd_s, p6, bnd_s, ob_R q6 (by omega) a6, bnd_s, ob_R s6 (by omega) ((w 5 (by omega)).trans d6), bnd_s, show (36 : Int32) = nI 36 from rfl, p7, bnd_s]
  · obtain ⟨r1, r2, r3, r4, r5⟩ := hR.2 k hk
    have hm := mxl_le (rk R k)
    obtain ⟨y1, y2, y3, y4, y5⟩ := c1 k hk
    refine ⟨?_, ?_, ?_, fun j hj => ?_, ?_⟩
    · rw [cpy0 (by omega)]; exact y1
    · rw [cpy0 (by omega)]; exact y2
    · rw [cpy0 (by omega)]; exact y3
    · rw [cpy0 (by omega)]; exact y4 j hj
    · rw [cpy0 (by omega)]; exact y5
/-- no constraint -/
def R0 : RT := (0, fun _ => 0, fun _ => 0, fun _ => 0, fun _ _ => 0)
theorem R0_ok : ROK R0 := ⟨Nat.zero_le _, fun k hk => absurd hk (Nat.not_lt_zero k)⟩
theorem R0_peer (a b : Nat) : peer R0 a b = upr a b := by
  have h : cag R0 a b = false := by
    cases q : cag R0 a b
    · rfl
    · obtain ⟨k, hk, _⟩ := cag_t.mp q
      exact absurd hk (Nat.not_lt_zero k)
  unfold peer
  rw [h]
  unfold upr
  cases decide (a = b) <;> simp
theorem rul_wipe {h : PH} {r : Nat} (Hs : RulSh h r) {F : Nat} (hF : 40 ≤ F) : ∃ h', f_Rul_wipe F r h = some h' ∧ RulAt h' r R0 ∧ Fr (UR r) h h' := by
  obtain ⟨W, kd', sm', ln', cl', ar', pe', d0, ⟨d1, d2, d3, d4, d5, d6⟩, e1, e2, e3, e4, e5, e6⟩ := Hs
  obtain ⟨h1, p1, g1, f1⟩ : ∃ h1, pV h r 4 6 (.int (0 : Int32)) = some h1 ∧ h1.2 r = obj 4 7 (updV W 6 (.int 0)) ∧ Fr (fun k => k = r) h h1 := ⟨_, ob_P _ d0 (by omega), hset_s _ _ _, (Fr.rf _ _).sq _⟩
  have w : ∀ k, k ≠ 6 → updV W 6 (.int 0) k = W k := fun k hk => vu_n _ _ hk
  obtain ⟨s, ⟨pe, i1, i2, i3⟩, e⟩ := LC (fun n i s => f_Rul_wipe_7 F n r (nI i) s) (fun i s => ∃ pe, s.2 (r + 6) = oL 36 pe ∧ Fr (fun k => k = r + 6) h1 s ∧ ∀ c, c < i → CS (pe c) (upr c)) 36
    (fun n i s hi ⟨pe, i1, i2, i3⟩ => by
      obtain ⟨x, x1, x2⟩ := g_neigh hi
      refine ⟨hset s (r + 6) (oL 36 (vp_updL pe i x)), ⟨_, hset_s _ _ _, i2.sq _, fun c hc => ?_⟩, ?_⟩
      · by_cases q : c = i
        · subst q; rw [pk_uLs]; exact x2
        · rw [pk_uLn q]; exact i3 c (by omega)
      · show f_Rul_wipe_7 F (n + 1) r (nI i) s = _
        rw [f_Rul_wipe_7, b_Rul_wipe_7, if_neg (show ¬ (36 : Int32) ≤ nI i from nI_ge (a := (i)) (b := 36) (by omega) (by omega)), ob_R ((i2.2 r (by omega)).trans g1) (by omega) ((w 5 (by omega)).trans d6), bnd_s, x1, bnd_s, ar_sL _ i1 hi (by omega), bnd_s, nI_1]) 36 0 h1 F rfl (by omega) ⟨pe', (f1.2 _ (by omega)).trans e6, Fr.rf _ _, fun c hc => by omega⟩
  obtain ⟨m, hm⟩ : ∃ m, F - 36 = m + 1 := ⟨F - 37, by omega⟩
  have F2 : Fr (UR r) h s := (f1.mo fun k hk => by simp only [UR]; omega).tr (i2.mo fun k hk => by simp only [UR]; omega)
  have fr : ∀ k, k ≠ r → k ≠ r + 6 → s.2 k = h.2 k := fun k a b => (i2.2 k b).trans (f1.2 k a)
  refine ⟨s, ?_, ⟨updV W 6 (.int 0), kd', sm', ln', cl', ar', pe, (i2.2 r (by omega)).trans g1, (w 0 (by omega)).trans d1, (w 1 (by omega)).trans d2, (w 2 (by omega)).trans d3, (w 3 (by omega)).trans d4, (w 4 (by omega)).trans d5, (w 5 (by omega)).trans d6, vu_s _ _ _, ⟨(fr _ (by omega) (by omega)).trans e1, (fr _ (by omega) (by omega)).trans e2, (fr _ (by omega) (by omega)).trans e3, (fr _ (by omega) (by omega)).trans e4, (fr _ (by omega) (by omega)).trans e5, i1⟩, fun k hk => absurd hk (Nat.not_lt_zero k), fun c hc => (i3 c hc).x fun e _ => (R0_peer c e).symm⟩, F2⟩
  unfold f_Rul_wipe
  rw [p1, bnd_s]
  refine Eq.trans e ?_
  show f_Rul_wipe_7 F (F - 36) r (nI 36) s = _
  rw [hm, f_Rul_wipe_7, b_Rul_wipe_7, if_pos (show (36 : Int32) ≤ nI 36 from nI_le (a := 36) (b := 36) (by omega) (by omega))]
/-- the class's log: n entries, the oldest first -/
def LogAt (h : PH) (a n : Nat) (e : Nat → Nat → Int32) : Prop := ∃ V q f, h.2 a = obj 0 3 V ∧ V 0 = .ref (a + 1) ∧ V 1 = .int (nI q) ∧ V 2 = .int (nI n) ∧ q < 100 ∧ n ≤ 100 ∧ h.2 (a + 1) = oI 300 f ∧ ∀ i j, i < n → j < 3 → f ((q + i) % 100 * 3 + j) = e i j
def LogSh (h : PH) (a : Nat) : Prop := ∃ V f, h.2 a = obj 0 3 V ∧ V 0 = .ref (a + 1) ∧ h.2 (a + 1) = oI 300 f
theorem LogAt.sh {h : PH} {a n : Nat} {e : Nat → Nat → Int32} (H : LogAt h a n e) : LogSh h a := by
  obtain ⟨V, q, f, a0, a1, a2, a3, a4, a5, a6, _⟩ := H
  exact ⟨V, f, a0, a1, a6⟩
theorem LogAt.fr {h h' : PH} {a n : Nat} {e : Nat → Nat → Int32} (H : LogAt h a n e) (e0 : h'.2 a = h.2 a) (e1 : h'.2 (a + 1) = h.2 (a + 1)) : LogAt h' a n e := by
  obtain ⟨V, q, f, a0, a1, a2, a3, a4, a5, a6, a7⟩ := H
  exact ⟨V, q, f, e0.trans a0, a1, a2, a3, a4, a5, e1.trans a6, a7⟩
theorem LogSh.fr {h h' : PH} {a : Nat} (H : LogSh h a) (e0 : h'.2 a = h.2 a) (e1 : h'.2 (a + 1) = h.2 (a + 1)) : LogSh h' a := by
  obtain ⟨V, f, a0, a1, a2⟩ := H
  exact ⟨V, f, e0.trans a0, a1, e1.trans a2⟩
theorem log_wipe {h : PH} {a : Nat} (H : LogSh h a) (e : Nat → Nat → Int32) : ∃ h', f_Log_wipe a h = some h' ∧ LogAt h' a 0 e ∧ Fr (fun k => k = a) h h' := by
  obtain ⟨V, f, a0, a1, a2⟩ := H
  refine ⟨hset (hset h a (obj 0 3 (updV V 1 (.int 0)))) a (obj 0 3 (updV (updV V 1 (.int 0)) 2 (.int 0))), ?_, ⟨_, 0, f, hset_s _ _ _, ?_, ?_, ?_, by omega, by omega, (hset_n _ _ (by omega)).trans ((hset_n _ _ (by omega)).trans a2), fun i j hi => by omega⟩, ((Fr.rf _ _).sq _).sq _⟩
  rotate_left 1
  · exact (vu_n _ _ (by omega)).trans ((vu_n _ _ (by omega)).trans a1)
  · exact (vu_n _ _ (by omega)).trans (vu_s _ _ _)
  · exact vu_s _ _ _
  · unfold f_Log_wipe
    rw [ob_P _ a0 (by omega), bnd_s, ob_P _ (hset_s _ _ _) (by omega), bnd_s]
theorem log_copy {h : PH} {a b n : Nat} {e : Nat → Nat → Int32} (H : LogAt h b n e) (Hs : LogSh h a) (hab : a + 2 ≤ b ∨ b + 2 ≤ a) : ∃ h', f_Log_copyFrom a b h = some h' ∧ LogAt h' a n e ∧ Fr (fun k => k = a ∨ k = a + 1) h h' := by
  obtain ⟨V, q, f, a0, a1, a2, a3, a4, a5, a6, a7⟩ := H
  obtain ⟨W, g, b0, b1, b2⟩ := Hs
  obtain ⟨h1, p1, g1, f1⟩ := cpi (n := 300) a6 b2 (by omega)
  have c0 : h1.2 a = obj 0 3 W := (f1.2 _ (by omega)).trans b0
  have d0 : h1.2 b = obj 0 3 V := (f1.2 _ (by omega)).trans a0
  refine ⟨hset (hset h1 a (obj 0 3 (updV W 1 (.int (nI q))))) a (obj 0 3 (updV (updV W 1 (.int (nI q))) 2 (.int (nI n)))), ?_, ⟨_, q, va_cpy f g 0 0 300, hset_s _ _ _, ?_, ?_, ?_, a4, a5, (hset_n _ _ (by omega)).trans ((hset_n _ _ (by omega)).trans g1), fun i j hi hj => ?_⟩, (f1.mo fun k hk => Or.inr hk).tr (((Fr.rf _ _).st (S := fun k => k = a ∨ k = a + 1) _ (Or.inl rfl)).st (S := fun k => k = a ∨ k = a + 1) _ (Or.inl rfl))⟩
  rotate_left 1
  · exact (vu_n _ _ (by omega)).trans ((vu_n _ _ (by omega)).trans b1)
  · exact (vu_n _ _ (by omega)).trans (vu_s _ _ _)
  · exact vu_s _ _ _
  · rw [cpy0 (by omega)]
    exact a7 i j hi hj
  · unfold f_Log_copyFrom
    rw [ob_R a0 (by omega) a1, bnd_s, ob_R b0 (by omega) b1, bnd_s, show (300 : Int32) = nI 300 from rfl, p1, bnd_s, ob_I d0 (by omega) a2, bnd_s, ob_P _ c0 (by omega), bnd_s, ob_I ((hset_n _ _ (by omega)).trans d0) (by omega) a3, bnd_s, ob_P _ (hset_s _ _ _) (by omega), bnd_s]
def lgN (n : Nat) : Nat := if n < 100 then n + 1 else n
def lgE (n : Nat) (e : Nat → Nat → Int32) (x : Nat → Int32) : Nat → Nat → Int32 := fun i j => if n < 100 then (if i = n then x j else e i j) else (if i = 99 then x j else e (i + 1) j)
theorem log_add {h : PH} {a n : Nat} {e : Nat → Nat → Int32} (H : LogAt h a n e) (x : Nat → Int32) : ∃ h', f_Log_add a (x 0) (x 1) (x 2) h = some h' ∧ LogAt h' a (lgN n) (lgE n e x) ∧ Fr (fun k => k = a ∨ k = a + 1) h h' := by
  obtain ⟨V, q, f, a0, a1, a2, a3, a4, a5, a6, a7⟩ := H
  have e1 : (nI q + nI n) - (nI q + nI n) / (100 : Int32) * (100 : Int32) = nI ((q + n) % 100) := by
    rw [nI_add]
    exact pk_rem (a := q + n) (d := 100) (by omega) (by omega) (by omega)
  have e2 : nI ((q + n) % 100) * (3 : Int32) = nI ((q + n) % 100 * 3) := pk_mul _ 3
  have e3 : nI ((q + n) % 100 * 3) + (2 : Int32) = nI ((q + n) % 100 * 3 + 2) := nI_add _ 2
  have hlt : (q + n) % 100 < 100 := Nat.mod_lt _ (by omega)
  obtain ⟨hA, t1, u1, m1⟩ := sti (i := (q + n) % 100 * 3) (x 0) a6 (by omega) (by omega)
  obtain ⟨hB, t2, u2, m2⟩ := sti (i := (q + n) % 100 * 3 + 1) (x 1) u1 (by omega) (by omega)
  obtain ⟨h3, t3, w2, m3⟩ := sti (i := (q + n) % 100 * 3 + 2) (x 2) u2 (by omega) (by omega)
  have w3 : Fr (fun k => k = a + 1) h h3 := m1.tr (m2.tr m3)
  have z0 : h3.2 a = obj 0 3 V := (w3.2 _ (by omega)).trans a0
  have hcont : ∀ i j, i < 100 → j < 3 → upd (upd (upd f ((q + n) % 100 * 3) (x 0)) ((q + n) % 100 * 3 + 1) (x 1)) ((q + n) % 100 * 3 + 2) (x 2) (i * 3 + j) = if i = (q + n) % 100 then x j else f (i * 3 + j) := by
    intro i j hi hj
    by_cases z : i = (q + n) % 100
    · rw [if_pos z, z]
      have : j = 0 ∨ j = 1 ∨ j = 2 := by omega
      rcases this with rfl | rfl | rfl
      · rw [pk_un (by omega), pk_un (by omega), Nat.add_zero, pk_us]
      · rw [pk_un (by omega), pk_us]
      · rw [pk_us]
    · rw [if_neg z, pk_un (by omega), pk_un (by omega), pk_un (by omega)]
  have hun : f_Log_add a (x 0) (x 1) (x 2) h = bnd (gI h3 a 0 2) fun x10 => (if (100 : Int32) ≤ x10 then bnd (gI h3 a 0 1) fun x11 => bnd (pV h3 a 0 1 (.int ((x11 + (1 : Int32)) - (x11 + (1 : Int32)) / (100 : Int32) * (100 : Int32)))) fun h12 => some h12 else bnd (gI h3 a 0 2) fun x13 => bnd (pV h3 a 0 2 (.int (x13 + (1 : Int32)))) fun h14 => some h14) := by
    unfold f_Log_add
    rw [ob_I a0 (by omega) a2, bnd_s, ob_I a0 (by omega) a3, bnd_s, e1, e2, bnd_s, ob_R a0 (by omega) a1, bnd_s, nI_1, e3]
    rw [t1, bnd_s, ob_R ((m1.2 _ (by omega)).trans a0) (by omega) a1, bnd_s, t2, bnd_s, ob_R ((m2.2 _ (by omega)).trans ((m1.2 _ (by omega)).trans a0)) (by omega) a1, bnd_s, t3, bnd_s]
  rw [hun, ob_I z0 (by omega) a3, bnd_s]
  by_cases hn : n < 100
  · rw [if_neg (show ¬ (100 : Int32) ≤ nI n from nI_ge (a := (n)) (b := 100) (by omega) (by omega)), bnd_s, ob_P _ z0 (by omega), bnd_s, nI_1]
    refine ⟨hset h3 a (obj 0 3 (updV V 2 (.int (nI (n + 1))))), rfl, ⟨_, q, _, hset_s _ _ _, (vu_n _ _ (by omega)).trans a1, (vu_n _ _ (by omega)).trans a2, by rw [vu_s, lgN, if_pos hn], a4, by rw [lgN, if_pos hn]; omega, (hset_n _ _ (by omega)).trans w2, fun i j hi hj => ?_⟩, (w3.mo fun k hk => Or.inr hk).st (S := fun k => k = a ∨ k = a + 1) _ (Or.inl rfl)⟩
    rw [lgN, if_pos hn] at hi
    rw [hcont _ j (Nat.mod_lt _ (by omega)) hj]
    unfold lgE
    rw [if_pos hn]
    by_cases z : i = n
    · subst z; rw [if_pos rfl, if_pos rfl]
    · rw [if_neg (by omega), if_neg z]
      exact a7 i j (by omega) hj
  · have hn' : n = 100 := by omega
    subst hn'
    have e9 : (nI q + (1 : Int32)) - (nI q + (1 : Int32)) / (100 : Int32) * (100 : Int32) = nI ((q + 1) % 100) := by
      rw [nI_1]
      exact pk_rem (a := q + 1) (d := 100) (by omega) (by omega) (by omega)
    rw [if_pos (show (100 : Int32) ≤ nI 100 by decide), ob_I z0 (by omega) a2, bnd_s, e9, ob_P _ z0 (by omega), bnd_s]
    refine ⟨hset h3 a (obj 0 3 (updV V 1 (.int (nI ((q + 1) % 100))))), rfl, ⟨_, (q + 1) % 100, _, hset_s _ _ _, (vu_n _ _ (by omega)).trans a1, vu_s _ _ _, (vu_n _ _ (by omega)).trans a3, Nat.mod_lt _ (by omega), Nat.le_refl _, (hset_n _ _ (by omega)).trans w2, fun i j hi hj => ?_⟩, (w3.mo fun k hk => Or.inr hk).st (S := fun k => k = a ∨ k = a + 1) _ (Or.inl rfl)⟩
    rw [lgN, if_neg (by omega)] at hi
    rw [hcont _ j (Nat.mod_lt _ (by omega)) hj]
    unfold lgE
    rw [if_neg (show ¬ (100 : Nat) < 100 by omega)]
    by_cases z : i = 99
    · subst z; rw [if_pos (show ((q + 1) % 100 + 99) % 100 = (q + 100) % 100 by omega), if_pos rfl]
    · rw [if_neg (show ¬ ((q + 1) % 100 + i) % 100 = (q + 100) % 100 by omega), if_neg z, show ((q + 1) % 100 + i) % 100 = (q + (i + 1)) % 100 by omega]
      exact a7 (i + 1) j (by omega) hj
