/-! Drawing and shuffling; the class's make. -/
def drN (z : Nat) : Nat := (1103515245 * z + 12345) % 2147483648
theorem drN_lt (z : Nat) : drN z < 2147483648 := Nat.mod_lt _ (by omega)
theorem dr_z {z : Nat} (hz : z < 2147483648) : (((1103515245 : Int64) * lN z) + (12345 : Int64)) - (((1103515245 : Int64) * lN z) + (12345 : Int64)) / (2147483648 : Int64) * (2147483648 : Int64) = lN (drN z) := by
  have e : ((1103515245 : Int64) * lN z) + (12345 : Int64) = lN (1103515245 * z + 12345) := by
    rw [show (1103515245 : Int64) = lN 1103515245 from rfl, lN_mul, show (12345 : Int64) = lN 12345 from rfl, lN_add]
  rw [e]
  exact pk_lRem (a := 1103515245 * z + 12345) (b := 2147483648) (by omega) (by omega) (by omega)
theorem dr_i {z n : Nat} (hz : z < 2147483648) (h0 : 0 < n) (hn : n < 1000) : ((lN z / (65536 : Int64)) - (lN z / (65536 : Int64)) / ((nI n).toInt64) * ((nI n).toInt64)).toInt32 = nI (z / 65536 % n) := by
  have e : lN z / (65536 : Int64) = lN (z / 65536) := pk_lDiv (a := z) (b := 65536) (by omega) (by omega) (by omega)
  have h : z / 65536 ≤ z := Nat.div_le_self _ _
  rw [e, nI_l (by omega), pk_lRem (by omega) h0 (by omega), lN_i]
def swp (f : Nat → Nat) (a b : Nat) : Nat → Nat := fun k => if k = b then f a else if k = a then f b else f k
def shz : Nat → Nat → Nat
  | 0, z => z
  | i + 1, z => shz i (drN z)
def shf : Nat → Nat → (Nat → Nat) → Nat → Nat
  | 0, _, f => f
  | i + 1, z, f => shf i (drN z) (swp f (i + 1) (drN z / 65536 % (i + 2)))
theorem shz_lt : ∀ i z, z < 2147483648 → shz i z < 2147483648 := by
  intro i
  induction i with
  | zero => intro z h; exact h
  | succ i ih => intro z _; exact ih _ (drN_lt z)
theorem shf_lt {b : Nat} : ∀ i z f n, i < n → (∀ k, k < n → f k < b) → ∀ k, k < n → shf i z f k < b := by
  intro i
  induction i with
  | zero => intro z f n _ h; exact h
  | succ i ih =>
    intro z f n hi h
    refine ih _ _ n (by omega) fun k hk => ?_
    have hj : drN z / 65536 % (i + 2) < i + 2 := Nat.mod_lt _ (by omega)
    unfold swp
    split
    · exact h _ (by omega)
    · split
      · exact h _ (by omega)
      · exact h _ hk
theorem shf_ge {b : Nat} : ∀ i z f n, i < n → (∀ k, k < n → b ≤ f k) → ∀ k, k < n → b ≤ shf i z f k := by
  intro i
  induction i with
  | zero => intro z f n _ h; exact h
  | succ i ih =>
    intro z f n hi h
    refine ih _ _ n (by omega) fun k hk => ?_
    have hj : drN z / 65536 % (i + 2) < i + 2 := Nat.mod_lt _ (by omega)
    unfold swp
    split
    · exact h _ (by omega)
    · split
      · exact h _ (by omega)
      · exact h _ hk
theorem sw_i {g : Nat → Int32} {f : Nat → Nat} {a b k : Nat} (hk : g k = nI (f k)) (ha : g a = nI (f a)) (hb : g b = nI (f b)) : upd (upd g a (g b)) b (g a) k = nI (swp f a b k) := by
  unfold swp
  by_cases q : k = b
  · rw [if_pos q, q, pk_us, ha]
  · rw [if_neg q, pk_un q]
    by_cases q2 : k = a
    · rw [if_pos q2, q2, pk_us, hb]
    · rw [if_neg q2, pk_un q2, hk]
theorem s_shuffle {h : PH} {a n : Nat} {W : Nat → Value} {z : Nat} {f : Nat → Nat} {g : Nat → Int32} (e0 : h.2 208 = obj 5 1 W) (ez : W 0 = .long (lN z)) (hz : z < 2147483648) (ea : h.2 a = oI n g) (hg : ∀ k, k < n → g k = nI (f k)) (hn : 0 < n) (hn2 : n ≤ 36) (hne : a ≠ 208) {F : Nat} (hF : 40 ≤ F) :
    ∃ h' W' g', f_Shu_shuffle F 208 a h = some h' ∧ h'.2 208 = obj 5 1 W' ∧ W' 0 = .long (lN (shz (n - 1) z)) ∧ h'.2 a = oI n g' ∧ (∀ k, k < n → g' k = nI (shf (n - 1) z f k)) ∧ Fr (fun k => k = 208 ∨ k = a) h h' := by
  have key : ∀ i m h W z f g, i < n → i + 1 ≤ m → h.2 208 = obj 5 1 W → W 0 = .long (lN z) → z < 2147483648 → h.2 a = oI n g → (∀ k, k < n → g k = nI (f k)) → ∃ h' W' g', f_Shu_shuffle_5 F m 208 a (nI i) h = some h' ∧ h'.2 208 = obj 5 1 W' ∧ W' 0 = .long (lN (shz i z)) ∧ h'.2 a = oI n g' ∧ (∀ k, k < n → g' k = nI (shf i z f k)) ∧ Fr (fun k => k = 208 ∨ k = a) h h' := by
    intro i
    induction i with
    | zero =>
      intro m h W z f g hi hm e0 ez hz ea hg
      obtain ⟨m, rfl⟩ : ∃ k, m = k + 1 := ⟨m - 1, by omega⟩
      refine ⟨h, W, g, ?_, e0, ez, ea, hg, Fr.rf _ _⟩
      rw [f_Shu_shuffle_5, b_Shu_shuffle_5, if_pos (show nI 0 ≤ (0 : Int32) by decide)]
    | succ i ih =>
      intro m h W z f g hi hm e0 ez hz ea hg
      obtain ⟨m, rfl⟩ : ∃ k, m = k + 1 := ⟨m - 1, by omega⟩
      obtain ⟨h1, p1, g1, f1⟩ := puti (k := 0) (.long (lN (drN z))) e0 (by omega)
      have hj : drN z / 65536 % (i + 2) < i + 2 := Nat.mod_lt _ (by omega)
      have ea1 : h1.2 a = oI n g := (f1.2 a (by omega)).trans ea
      obtain ⟨h2, p2, g2, f2⟩ := sti (i := i + 1) (g (drN z / 65536 % (i + 2))) ea1 hi (by omega)
      obtain ⟨h3, p3, g3, f3⟩ := sti (i := drN z / 65536 % (i + 2)) (g (i + 1)) g2 (by omega) (by omega)
      have hdraw : f_Shu_draw 208 (nI (i + 1) + 1) h = some (nI (drN z / 65536 % (i + 2)), h1) := by
        unfold f_Shu_draw
        rw [ob_L e0 (by omega) ez, bnd_s, dr_z hz, p1, bnd_s, nI_1, if_pos (show (1 : Int32) ≤ nI (i + 1 + 1) from nI_le (a := 1) (b := i + 1 + 1) (by omega) (by omega)), ob_L g1 (by omega) (vu_s _ _ _), bnd_s]
        have hcd : cDL ((nI (i + 1 + 1)).toInt64) = some () := by
          unfold cDL
          rw [nI_l (by omega), if_neg]
          intro q
          have := (pk_lEQ (a := i + 1 + 1) (b := 0) (by omega) (by omega)).mp q
          omega
        rw [hcd, bnd_s, dr_i (drN_lt z) (by omega) (by omega)]
      obtain ⟨h4, W', g', y1, y2, y3, y4, y5, y6⟩ := ih m h3 _ (drN z) (swp f (i + 1) (drN z / 65536 % (i + 2))) _ (by omega) (by omega) ((f3.2 208 (by omega)).trans ((f2.2 208 (by omega)).trans g1)) (vu_s _ _ _) (drN_lt z) g3 (fun k hk => sw_i (hg k hk) (hg _ hi) (hg _ (by omega)))
      refine ⟨h4, W', g', ?_, y2, y3, y4, y5, (f1.mo fun k hk => Or.inl hk).tr ((f2.mo fun k hk => Or.inr hk).tr ((f3.mo fun k hk => Or.inr hk).tr y6))⟩
      rw [f_Shu_shuffle_5, b_Shu_shuffle_5, if_neg (show ¬ nI (i + 1) ≤ (0 : Int32) from nI_nle (n := i + 1) (by omega) (by omega)), ob_K e0, bnd_s, hdraw, bnd2_s, ar_I ea1 hi (by omega), bnd_s, ar_I ea1 (by omega) (by omega), bnd_s, p2, bnd_s, p3, bnd_s, pk_m1 i, y1]
  obtain ⟨h', W', g', y⟩ := key (n - 1) F h W z f g (by omega) (by omega) e0 ez hz ea hg
  refine ⟨h', W', g', ?_, y.2⟩
  have hN : aN h a = some (nI n) := by
    unfold aN
    rw [ea]
    rfl
  unfold f_Shu_shuffle
  rw [hN, bnd_s, bnd_s, show nI n - (1 : Int32) = nI (n - 1) from pk_sub (a := n) (b := 1) (by omega)]
  exact y.1
theorem cw_sh {h h' : PH} {x : ST} {m : Nat} {sv : Nat → ST} {tl : Nat} {tx : Nat → Int32} (H : CW h x m sv tl tx) (f : Fr (fun k => k = 208 ∨ k = 209 ∨ k = 210) h h') (s1 : ∃ W, h'.2 208 = obj 5 1 W) (s2 : ∃ f, h'.2 209 = oI 6 f) (s3 : ∃ f, h'.2 210 = oI 36 f) : CW h' x m sv tl tx := by
  have e : ∀ k, ¬ (k = 208 ∨ k = 209 ∨ k = 210) → h'.2 k = h.2 k := f.2
  obtain ⟨a, b, c, ⟨d1, d2, ⟨W, d3⟩, _⟩⟩ := H
  exact ⟨a.fr fun k hk => e k (by simp only [US] at hk; omega), b.fr fun k h1 h2 => e k (by omega), c.fr fun k hk => e k (by simp only [DA] at hk; omega), d1.fr (e _ (by omega)) (e _ (by omega)), d2.fr fun j hj => e _ (by omega), ⟨W, d3.fr fun k h1 h2 => e k (by omega)⟩, s1, s2, s3⟩
/-- the full grid that a seed gives, and the order of its cells -/
def dgo (s : Nat) : Nat → Nat := shf 5 s fun k => k + 1
def grG (s : Nat) : Nat → Nat := fun c => dgo s ((3 * (c / 6 % 2) + c / 6 / 2 + c % 6) % 6)
def ordC (s : Nat) : Nat → Nat := shf 35 (shz 5 s) fun k => k
theorem dgo_b {s k : Nat} (hk : k < 6) : 1 ≤ dgo s k ∧ dgo s k < 7 := ⟨shf_ge 5 s _ 6 (by omega) (fun k hk => by omega) k hk, shf_lt 5 s _ 6 (by omega) (fun k hk => by show k + 1 < 7; omega) k hk⟩
theorem grG_ok (s : Nat) : gvOK (grG s) := fun c _ => (dgo_b (Nat.mod_lt _ (by omega))).2
theorem ordC_lt {s k : Nat} (hk : k < 36) : ordC s k < 36 := shf_lt 35 _ _ 36 (by omega) (fun k hk => hk) k hk
theorem gvK_NS {R : RT} {G G' : Nat → Nat} (h : ∀ c, c < 36 → G' c = G c) : NS R (gvK G') = NS R (gvK G) := NS_congr fun f => by
  have hK : ∀ c, c < 36 → ∀ d, gvK G' c d = gvK G c d := fun c hc d => by
    unfold gvK
    rw [h c hc]
  exact ⟨fun z => z.mono fun c hc d _ y => by rw [← hK c hc d]; exact y, fun z => z.mono fun c hc d _ y => by rw [hK c hc d]; exact y⟩
def NF : Nat → Prop := fun k => k < 263 ∧ ¬ (36 ≤ k ∧ k < 122)
/-- givens are taken away -/
noncomputable def mkl (od : Nat → Nat) (t : Nat) : Nat → Nat → Nat → (Nat → Nat) → Nat × (Nat → Nat)
  | 0, _, c, G => (c, G)
  | k + 1, i, c, G => if c ≤ t then (c, G) else if min 2 (NS R0 (gvK (upG G (od i) 0))) = 1 then mkl od t k (i + 1) (c - 1) (upG G (od i) 0) else mkl od t k (i + 1) c G
theorem mkl_ok {od : Nat → Nat} {t : Nat} : ∀ k i c G, gvOK G → c ≤ 36 → gvOK (mkl od t k i c G).2 ∧ (mkl od t k i c G).1 ≤ 36 := by
  intro k
  induction k with
  | zero => intro i c G h hc; exact ⟨h, hc⟩
  | succ k ih =>
    intro i c G h hc
    show gvOK (if c ≤ t then (c, G) else if min 2 (NS R0 (gvK (upG G (od i) 0))) = 1 then mkl od t k (i + 1) (c - 1) (upG G (od i) 0) else mkl od t k (i + 1) c G).2 ∧ (if c ≤ t then (c, G) else if min 2 (NS R0 (gvK (upG G (od i) 0))) = 1 then mkl od t k (i + 1) (c - 1) (upG G (od i) 0) else mkl od t k (i + 1) c G).1 ≤ 36
    split
    · exact ⟨h, hc⟩
    · split
      · exact ih _ _ _ (upG_ok h (by omega)) (by omega)
      · exact ih _ _ _ h hc
theorem c_make {h : PH} {x : ST} {m : Nat} {sv : Nat → ST} {tl : Nat} {tx : Nat → Int32} (H : CW h x m sv tl tx) (hv : VAL x) {s t : Nat} (hs : s ≤ 999999) (ht : t ≤ 36) {F : Nat} (hF : 3000 ≤ F) :
    ∃ h', f_Np_make F 0 (nI s) (nI t) h = some (.inr (nI (mkl (ordC s) t 36 0 36 (grG s)).1), h') ∧ CW h' (R0, gvK (mkl (ordC s) t 36 0 36 (grG s)).2, fun _ => false, (mkl (ordC s) t 36 0 36 (grG s)).2, 0, tE x) (svN m) (svS m sv x) tl tx ∧ Fr (fun k => k < 263) h h' := by
  obtain ⟨h1, p1, hC, hF1, hA1, hB1, f1⟩ := np_save H hv
  obtain ⟨h2, p2, g2, f2⟩ := sta_wipe hC.sh (tE x) (F := F) (by omega)
  have hx0 : VAL (x0 (tE x)) := ⟨R0_ok, fun c _ z => (by cases z), fun c _ => (by show 0 < 7; omega), by show 0 ≤ 100; omega⟩
  have H2 : CW h2 (x0 (tE x)) (svN m) (svS m sv x) tl tx := cw_fin hF1 hA1 hB1 f2 ⟨_, _, g2, ⟨fun k _ z => (by cases z), fun k hk => absurd hk (Nat.not_lt_zero k)⟩⟩ hx0
  have nr2 := np_r H2.2.2.1
  have H2' := H2
  obtain ⟨_, _, _, ⟨_, _, _, ⟨W2, w2⟩, ⟨fd, w3⟩, ⟨fo, w4⟩⟩⟩ := H2'
  -- the seed
  obtain ⟨h3, p3, g3, f3⟩ := puti (k := 0) (.long (lN s)) w2 (by omega)
  have H3 : CW h3 (x0 (tE x)) (svN m) (svS m sv x) tl tx := cw_sh H2 (f3.mo fun k hk => Or.inl hk) ⟨_, g3⟩ ⟨fd, (f3.2 209 (by omega)).trans w3⟩ ⟨fo, (f3.2 210 (by omega)).trans w4⟩
  -- the digits
  obtain ⟨h4, ⟨gd, i1, i2, i3⟩, e4⟩ := LC (fun n i s' => f_Np_fillGrid_2 F n 0 (nI i) s') (fun i s' => ∃ g, s'.2 209 = oI 6 g ∧ Fr (fun k => k = 209) h3 s' ∧ ∀ k, k < i → g k = nI (k + 1)) 6
    (fun n i s' hi ⟨g, i1, i2, i3⟩ => by
      have Hs : CW s' (x0 (tE x)) (svN m) (svS m sv x) tl tx := cw_sh H3 (i2.mo fun k hk => Or.inr (Or.inl hk)) ⟨_, (i2.2 208 (by omega)).trans g3⟩ ⟨g, i1⟩ ⟨fo, (i2.2 210 (by omega)).trans ((f3.2 210 (by omega)).trans w4)⟩
      have nr := np_r Hs.2.2.1
      refine ⟨hset s' 209 (oI 6 (upd g i (nI (i + 1)))), ⟨_, hset_s _ _ _, i2.sq _, fun k hk => ?_⟩, ?_⟩
      · by_cases q : k = i
        · rw [q, pk_us]
        · rw [pk_un q]; exact i3 k (by omega)
      · show f_Np_fillGrid_2 F (n + 1) 0 (nI i) s' = _
        rw [f_Np_fillGrid_2, b_Np_fillGrid_2, if_neg (show ¬ (6 : Int32) ≤ nI i from nI_ge (a := (i)) (b := 6) (by omega) (by omega)), nr.2.2.2.2.2.2.2.2.2.1, bnd_s, nI_1, ar_sI _ i1 hi (by omega), bnd_s]) 6 0 h3 F rfl (by omega) ⟨fd, (f3.2 209 (by omega)).trans w3, Fr.rf _ _, fun k hk => by omega⟩
  have H4 : CW h4 (x0 (tE x)) (svN m) (svS m sv x) tl tx := cw_sh H3 (i2.mo fun k hk => Or.inr (Or.inl hk)) ⟨_, (i2.2 208 (by omega)).trans g3⟩ ⟨gd, i1⟩ ⟨fo, (i2.2 210 (by omega)).trans ((f3.2 210 (by omega)).trans w4)⟩
  have nr4 := np_r H4.2.2.1
  obtain ⟨h5, W5, gd5, p5, q5, z5, d5, d5', f5⟩ := s_shuffle (a := 209) (n := 6) (z := s) (f := fun k => k + 1) ((i2.2 208 (by omega)).trans g3) (vu_s _ _ _) (by omega) i1 i3 (by omega) (by omega) (by omega) (F := F) (by omega)
  have H5 : CW h5 (x0 (tE x)) (svN m) (svS m sv x) tl tx := cw_sh H4 (f5.mo fun k hk => by omega) ⟨_, q5⟩ ⟨_, d5⟩ ⟨fo, (f5.2 210 (by omega)).trans ((i2.2 210 (by omega)).trans ((f3.2 210 (by omega)).trans w4))⟩
  -- the grid
  obtain ⟨h6, ⟨G6, j1, j2, j3⟩, e6⟩ := LC (fun n i s' => f_Np_fillGrid_36 F n 0 (nI i) s') (fun i s' => ∃ G, CW s' (xG (x0 (tE x)) G) (svN m) (svS m sv x) tl tx ∧ Fr (fun k => k = 11) h5 s' ∧ ∀ c, c < 36 → G c = if c < i then grG s c else 0) 36
    (fun n i s' hi ⟨G, j1, j2, j3⟩ => by
      have nr := np_r j1.2.2.1
      obtain ⟨n1, n2, n3, n4, n5, n6, _⟩ := np_hd j1
      have hix : (3 * (i / 6 % 2) + i / 6 / 2 + i % 6) % 6 < 6 := Nat.mod_lt _ (by omega)
      have e1 : nI i / (6 : Int32) = nI (i / 6) := pk_div (a := i) (d := 6) (by omega) (by omega) (by omega)
      have e2 : nI i - nI (i / 6) * (6 : Int32) = nI (i % 6) := by
        rw [← e1]
        exact pk_rem (a := i) (d := 6) (by omega) (by omega) (by omega)
      have e3 : nI (i / 6) / (2 : Int32) = nI (i / 6 / 2) := pk_div (a := i / 6) (d := 2) (by omega) (by omega) (by omega)
      have e4 : nI (i / 6) - nI (i / 6 / 2) * (2 : Int32) = nI (i / 6 % 2) := by
        rw [← e3]
        exact pk_rem (a := i / 6) (d := 2) (by omega) (by omega) (by omega)
      have e5 : (3 : Int32) * nI (i / 6 % 2) = nI (3 * (i / 6 % 2)) := pk_mul 3 _
      have e6 : nI (3 * (i / 6 % 2) + i / 6 / 2 + i % 6) - nI (3 * (i / 6 % 2) + i / 6 / 2 + i % 6) / (6 : Int32) * (6 : Int32) = nI ((3 * (i / 6 % 2) + i / 6 / 2 + i % 6) % 6) := pk_rem (a := 3 * (i / 6 % 2) + i / 6 / 2 + i % 6) (d := 6) (by omega) (by omega) (by omega)
      have hd209 : s'.2 209 = oI 6 gd5 := (j2.2 209 (by omega)).trans d5
      obtain ⟨s2, t1, t2, t3⟩ := cw_setG j1 hi (grG s i)
      refine ⟨s2, ⟨_, t2, j2.tr t3, fun c hc => ?_⟩, ?_⟩
      · show (if c = i then grG s i else G c) = _
        by_cases q : c = i
        · rw [if_pos q, if_pos (by omega), q]
        · rw [if_neg q, j3 c hc]
          by_cases z : c < i
          · rw [if_pos z, if_pos (by omega)]
          · rw [if_neg z, if_neg (by omega)]
      · show f_Np_fillGrid_36 F (n + 1) 0 (nI i) s' = _
        rw [f_Np_fillGrid_36, b_Np_fillGrid_36, if_neg (show ¬ (36 : Int32) ≤ nI i from nI_ge (a := (i)) (b := 36) (by omega) (by omega)), e1, bnd_s, e2, bnd_s, n2, bnd_s, n6, bnd_s, nr.2.2.2.2.2.2.2.2.2.1, bnd_s, e3, e4, e5, nI_add, nI_add, e6, ar_I hd209 hix (by omega), bnd_s, d5' _ hix, show sI s' (1 + 10) (nI i) (nI (shf (6 - 1) s (fun k => k + 1) ((3 * (i / 6 % 2) + i / 6 / 2 + i % 6) % 6))) = some s2 from t1, bnd_s, nI_1]) 36 0 h5 F rfl (by omega) ⟨fun _ => 0, H5, Fr.rf _ _, fun c _ => by rw [if_neg (by omega)]⟩
  -- the order
  have hG6 : ∀ c, c < 36 → G6 c = grG s c := fun c hc => by rw [j3 c hc, if_pos hc]
  have w6 : h6.2 208 = obj 5 1 W5 := (j2.2 208 (by omega)).trans q5
  have w6' : h6.2 210 = oI 36 fo := (j2.2 210 (by omega)).trans ((f5.2 210 (by omega)).trans ((i2.2 210 (by omega)).trans ((f3.2 210 (by omega)).trans w4)))
  have w6'' : h6.2 209 = oI 6 gd5 := (j2.2 209 (by omega)).trans d5
  obtain ⟨h7, ⟨go, k1, k2, k3⟩, e7⟩ := LC (fun n i s' => f_Np_orderCells_2 F n 0 (nI i) s') (fun i s' => ∃ g, s'.2 210 = oI 36 g ∧ Fr (fun k => k = 210) h6 s' ∧ ∀ k, k < i → g k = nI k) 36
    (fun n i s' hi ⟨g, k1, k2, k3⟩ => by
      have Hs := cw_sh j1 (k2.mo fun k hk => Or.inr (Or.inr hk)) ⟨_, (k2.2 208 (by omega)).trans w6⟩ ⟨gd5, (k2.2 209 (by omega)).trans w6''⟩ ⟨g, k1⟩
      have nr := np_r Hs.2.2.1
      refine ⟨hset s' 210 (oI 36 (upd g i (nI i))), ⟨_, hset_s _ _ _, k2.sq _, fun k hk => ?_⟩, ?_⟩
      · by_cases q : k = i
        · rw [q, pk_us]
        · rw [pk_un q]; exact k3 k (by omega)
      · show f_Np_orderCells_2 F (n + 1) 0 (nI i) s' = _
        rw [f_Np_orderCells_2, b_Np_orderCells_2, if_neg (show ¬ (36 : Int32) ≤ nI i from nI_ge (a := (i)) (b := 36) (by omega) (by omega)), nr.2.2.2.2.2.2.2.2.2.2.1, bnd_s, ar_sI _ k1 hi (by omega), bnd_s, nI_1]) 36 0 h6 F rfl (by omega) ⟨fo, w6', Fr.rf _ _, fun k hk => by omega⟩
  have H7 := cw_sh j1 (k2.mo fun k hk => Or.inr (Or.inr hk)) ⟨_, (k2.2 208 (by omega)).trans w6⟩ ⟨gd5, (k2.2 209 (by omega)).trans w6''⟩ ⟨go, k1⟩
  have nr7 := np_r H7.2.2.1
  obtain ⟨h8, W8, go8, p8, q8, z8, d8, d8', f8⟩ := s_shuffle (a := 210) (n := 36) (f := fun k => k) ((k2.2 208 (by omega)).trans w6) z5 (shz_lt _ _ (by omega)) k1 k3 (by omega) (by omega) (by omega) (F := F) (by omega)
  have H8 := cw_sh H7 (f8.mo fun k hk => by omega) ⟨_, q8⟩ ⟨gd5, (f8.2 209 (by omega)).trans ((k2.2 209 (by omega)).trans w6'')⟩ ⟨_, d8⟩
  have hod : ∀ k, k < 36 → go8 k = nI (ordC s k) := d8'
  -- the givens go
  have hSF2 : SolF h2 := hF1.fr fun k k1 k2 => f2.2 k (by simp only [US]; omega)
  have hfr8 : Fr NF h2 h8 := (f3.mo fun k hk => by simp only [NF]; omega).tr ((i2.mo fun k hk => by simp only [NF]; omega).tr ((f5.mo fun k hk => by simp only [NF]; omega).tr ((j2.mo fun k hk => by simp only [NF]; omega).tr ((k2.mo fun k hk => by simp only [NF]; omega).tr (f8.mo fun k hk => by simp only [NF]; omega)))))
  have fin : ∀ c G hh G', gvOK G → CW hh (xG (x0 (tE x)) G') (svN m) (svS m sv x) tl tx → (∀ c, c < 36 → G' c = G c) → Fr NF h2 hh → ∃ h', b_Np_make_158 F 0 (nI c) hh = some (.inr (nI c), h') ∧ CW h' (R0, gvK G, fun _ => false, G, 0, tE x) (svN m) (svS m sv x) tl tx ∧ Fr NF h2 h' := by
    intro c G hh G' hG HH hGe hfr
    have HH' := HH
    obtain ⟨⟨T0, S0, ⟨⟨V, a0, a1⟩, b, r, ⟨g, e, e'⟩, l⟩, hC2⟩, _, hA, hB⟩ := HH'
    have hg : ∀ c, c < 36 → g c = nI (G c) := fun c hc => (e' c hc).trans (congrArg nI (hGe c hc))
    obtain ⟨h9, p9, g9, f9⟩ := p_beginWith (p := 1 + 1) (a := 1 + 10) (G := G) (g := g) b.sh e hg hG (by omega) (F := F) (by omega)
    have ee : ∀ k, k ≠ 2 → k ≠ 3 → h9.2 k = hh.2 k := fun k h2 h3 => f9.2 k (by simp only [PS]; omega)
    obtain ⟨n1, n2, n3, n4, n5, n6, _⟩ := np_hd HH
    have hv9 : VAL (R0, gvK G, fun _ => false, G, 0, tE x) := ⟨R0_ok, fun c _ z => (by cases z), hG, by show 0 ≤ 100; omega⟩
    have hSFh : SolF hh := hSF2.fr fun k k1 k2 => hfr.2 k (by simp only [NF]; omega)
    refine ⟨h9, ?_, cw_fin hSFh hA hB (f9.mo fun k hk => by simp only [PS, US] at hk ⊢; omega) ⟨_, _, ⟨⟨V, (ee _ (by omega) (by omega)).trans a0, a1⟩, g9, r.fe fun j hj => ee _ (by omega) (by omega), ⟨g, (ee _ (by omega) (by omega)).trans e, hg⟩, l.fr (ee _ (by omega) (by omega)) (ee _ (by omega) (by omega))⟩, inv_new⟩ hv9, hfr.tr (f9.mo fun k hk => by simp only [PS, NF] at hk ⊢; omega)⟩
    rw [b_Np_make_158, n2, bnd_s, n3, bnd_s, bnd_s, n6, bnd_s, b.ck, bnd_s, p9, bnd_s]
  have loop : ∀ k i n c G hh G', i + k = 36 → k + 1 ≤ n → c ≤ 36 → 36 ≤ c + i → gvOK G → CW hh (xG (x0 (tE x)) G') (svN m) (svS m sv x) tl tx → (∀ c, c < 36 → G' c = G c) → hh.2 210 = oI 36 go8 → Fr NF h2 hh →
      ∃ h' , f_Np_make_63 F n 0 (nI t) (nI c) (nI i) hh = some (.inr (nI (mkl (ordC s) t k i c G).1), h') ∧ CW h' (R0, gvK (mkl (ordC s) t k i c G).2, fun _ => false, (mkl (ordC s) t k i c G).2, 0, tE x) (svN m) (svS m sv x) tl tx ∧ Fr NF h2 h' := by
    intro k
    induction k with
    | zero =>
      intro i n c G hh G' hi hn hc hci hG HH hGe hod8 hfr
      obtain ⟨n, rfl⟩ : ∃ k, n = k + 1 := ⟨n - 1, by omega⟩
      rw [f_Np_make_63, b_Np_make_63, if_pos (show (36 : Int32) ≤ nI i from nI_le (a := 36) (b := (i)) (by omega) (by omega))]
      exact fin c G hh G' hG HH hGe hfr
    | succ k ih =>
      intro i n c G hh G' hi hn hc hci hG HH hGe hod8 hfr
      obtain ⟨n, rfl⟩ : ∃ k, n = k + 1 := ⟨n - 1, by omega⟩
      have hmk : mkl (ordC s) t (k + 1) i c G = if c ≤ t then (c, G) else if min 2 (NS R0 (gvK (upG G (ordC s i) 0))) = 1 then mkl (ordC s) t k (i + 1) (c - 1) (upG G (ordC s i) 0) else mkl (ordC s) t k (i + 1) c G := rfl
      rw [f_Np_make_63, b_Np_make_63, if_neg (show ¬ (36 : Int32) ≤ nI i from nI_ge (a := (i)) (b := 36) (by omega) (by omega)), hmk]
      by_cases w : c ≤ t
      · rw [if_pos (show nI c ≤ nI t from nI_le (by omega) (by omega)), if_pos w]
        exact fin c G hh G' hG HH hGe hfr
      rw [if_neg (show ¬ nI c ≤ nI t from nI_ge (by omega) (by omega)), if_neg w]
      have hoc := ordC_lt (s := s) (k := i) (by omega)
      obtain ⟨n1, n2, n3, n4, n5, n6, n7, n8, n9, n10, n11, n12, _⟩ := np_hd HH
      have nr := np_r HH.2.2.1
      have HH' := HH
      obtain ⟨⟨T0, S0, ⟨⟨V, a0, a1⟩, b, r, ⟨g, e, e'⟩, l⟩, hC2⟩, _⟩ := HH'
      obtain ⟨u1, q1, U1, v1⟩ := cw_setG HH hoc 0
      have hG1 : ∀ c, c < 36 → upG G' (ordC s i) 0 c = upG G (ordC s i) 0 c := fun c hc => by
        unfold upG
        by_cases z : c = ordC s i
        · rw [if_pos z, if_pos z]
        · rw [if_neg z, if_neg z]; exact hGe c hc
      have hG1ok : gvOK (upG G' (ordC s i) 0) := fun c hc => by rw [hG1 c hc]; exact upG_ok hG (by omega) c hc
      obtain ⟨u2, u3, q2, U2, q3, U3, v3⟩ := c_gtrial U1 R0_ok hG1ok hF
      have q3' : f_Sol_countSolutions F 122 30 (1 + 3) (2 : Int32) u2 = some (nI (min 2 (NS R0 (gvK (upG G' (ordC s i) 0)))), u3) := q3
      have hNS : NS R0 (gvK (upG G' (ordC s i) 0)) = NS R0 (gvK (upG G (ordC s i) 0)) := gvK_NS hG1
      rw [hNS] at q3'
      generalize NS R0 (gvK (upG G (ordC s i) 0)) = N at q3' ⊢
      obtain ⟨b1, b2, b3, b4, b5, b6, b7, b8, b9, b10, b11, b12, _⟩ := np_hd U1
      obtain ⟨c1, c2, c3, c4, c5, c6, c7, c8, c9, c10, c11, _⟩ := np_hd U2
      obtain ⟨d1, d2, d3, d4, d5, d6, d7, d8', d9, d10, d11, _⟩ := np_hd U3
      have hfr3 : Fr NF h2 u3 := hfr.tr ((v1.mo fun k hk => by simp only [NF]; omega).tr (v3.mo fun k hk => by simp only [GT, NF] at hk ⊢; omega))
      have ho3 : u3.2 210 = oI 36 go8 := (v3.2 210 (by simp only [GT]; omega)).trans ((v1.2 210 (by omega)).trans hod8)
      rw [nr.2.2.2.2.2.2.2.2.2.2.1, bnd_s, ar_I hod8 (by omega) (by omega), bnd_s, hod i (by omega), n2, bnd_s, n6, bnd_s, ar_I e hoc (by omega), bnd_s, bnd_s, n6, bnd_s, show sI hh (1 + 10) (nI (ordC s i)) 0 = some u1 from q1, bnd_s, b12, bnd_s, q2, bnd_s, c9, bnd_s, c8, bnd_s, c2, bnd_s, c4, bnd_s, c10, bnd_s, q3', bnd2_s]
      have hns3 : min 2 N < 3 := by omega
      by_cases z : min 2 N = 1
      · rw [if_pos (show nI (min 2 N) = (1 : Int32) from congrArg nI z), if_pos z, b_Np_make_152, nI_1, show nI c + (-1 : Int32) = nI (c - 1) by rw [show c = c - 1 + 1 by omega]; exact pk_m1 _]
        exact ih (i + 1) n (c - 1) (upG G (ordC s i) 0) u3 (upG G' (ordC s i) 0) (by omega) (by omega) (by omega) (by omega) (upG_ok hG (by omega)) U3 hG1 ho3 hfr3
      · rw [if_neg (show ¬ nI (min 2 N) = (1 : Int32) from fun y => z ((nI_eq (a := min 2 N) (b := 1) (by omega) (by omega)).mp y)), if_neg z, d2, bnd_s, d6, bnd_s, e' _ hoc]
        obtain ⟨u4, q4, U4, v4⟩ := cw_setG U3 hoc (tG (xG (x0 (tE x)) G') (ordC s i))
        rw [q4, bnd_s, b_Np_make_152, nI_1]
        have hx : xG (xG (xG (x0 (tE x)) G') (upG (tG (xG (x0 (tE x)) G')) (ordC s i) 0)) (upG (tG (xG (xG (x0 (tE x)) G') (upG (tG (xG (x0 (tE x)) G')) (ordC s i) 0))) (ordC s i) (tG (xG (x0 (tE x)) G') (ordC s i))) = xG (x0 (tE x)) G' := by
          show (R0, _, _, upG (upG G' (ordC s i) 0) (ordC s i) (G' (ordC s i)), _, _) = _
          rw [upG_b]
          rfl
        rw [hx] at U4
        exact ih (i + 1) n c G u4 G' (by omega) (by omega) hc (by omega) hG U4 hGe ((v4.2 210 (by omega)).trans ho3) (hfr3.tr (v4.mo fun k hk => by simp only [NF]; omega))
  have H8' : CW h8 (xG (x0 (tE x)) G6) (svN m) (svS m sv x) tl tx := H8
  obtain ⟨h9, p9, H9, f9⟩ := loop 36 0 F 36 (grG s) h8 G6 (by omega) (by omega) (by omega) (by omega) (grG_ok s) H8' hG6 d8 hfr8
  refine ⟨h9, ?_, H9, (f1.mo fun k hk => by omega).tr ((f2.mo fun k hk => by simp only [US] at hk; omega).tr (f9.mo fun k hk => hk.1))⟩
  have nr1 := np_r H.2.2.1
  have nrA := np_r hA1
  have hck1 : cK h1 1 8 = some () := by obtain ⟨⟨V9, z, _⟩, _⟩ := hC.sh; exact ob_K z
  obtain ⟨m6, hm6⟩ : ∃ m, F - 6 = m + 1 := ⟨F - 7, by omega⟩
  obtain ⟨m36, hm36⟩ : ∃ m, F - 36 = m + 1 := ⟨F - 37, by omega⟩
  have hfill : f_Np_fillGrid F 0 h3 = some h6 := by
    unfold f_Np_fillGrid
    refine Eq.trans e4 ?_
    show f_Np_fillGrid_2 F (F - 6) 0 (nI 6) h4 = _
    rw [hm6, f_Np_fillGrid_2, b_Np_fillGrid_2, if_pos (show (6 : Int32) ≤ nI 6 from nI_le (a := 6) (b := 6) (by omega) (by omega)), nr4.2.2.2.2.2.2.2.2.1, bnd_s, nr4.2.2.2.2.2.2.2.2.2.1, bnd_s, ob_K ((i2.2 208 (by omega)).trans g3), bnd_s, p5, bnd_s]
    refine Eq.trans e6 ?_
    show f_Np_fillGrid_36 F (F - 36) 0 (nI 36) h6 = _
    rw [hm36, f_Np_fillGrid_36, b_Np_fillGrid_36, if_pos (show (36 : Int32) ≤ nI 36 from nI_le (a := 36) (b := 36) (by omega) (by omega))]
  have hord : f_Np_orderCells F 0 h6 = some h8 := by
    unfold f_Np_orderCells
    refine Eq.trans e7 ?_
    show f_Np_orderCells_2 F (F - 36) 0 (nI 36) h7 = _
    rw [hm36, f_Np_orderCells_2, b_Np_orderCells_2, if_pos (show (36 : Int32) ≤ nI 36 from nI_le (a := 36) (b := 36) (by omega) (by omega)), nr7.2.2.2.2.2.2.2.2.1, bnd_s, nr7.2.2.2.2.2.2.2.2.2.2.1, bnd_s, ob_K ((k2.2 208 (by omega)).trans w6), bnd_s, p8, bnd_s]
  unfold f_Np_make f_Shu_seed
  rw [if_neg (nI_pos (by omega)), if_neg (show ¬ (999999 : Int32) < nI s from nI_nlt (a := 999999) (b := s) hs (by omega)), if_neg (nI_pos (by omega)), if_pos (show nI t ≤ (36 : Int32) from nI_le (a := t) (b := 36) ht (by omega)), nr1.2.2.2.2.2.2.1, bnd_s, p1, bnd_s, nrA.1, bnd_s, hck1, bnd_s, p2, bnd_s, nr2.2.2.2.2.2.2.2.2.1, bnd_s, ob_K w2, bnd_s, nI_l (show s < 2 ^ 31 by omega), p3, bnd_s, bnd_s, (np_r H3.2.2.1).2.2.2.2.2.2.1, bnd_s, hfill, bnd_s, (np_r j1.2.2.1).2.2.2.2.2.2.1, bnd_s, hord, bnd_s]
  exact p9
