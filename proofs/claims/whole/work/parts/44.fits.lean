/-! The class's sieve: sums, and what is removed. -/
theorem bit_t (p : Nat → Bool) {t : Nat} (ht : isD t = true) : (nI (mkd p) &&& (1 : Int32) <<< (nI t &&& 31) = 0) ↔ p t = false := by
  rw [mkd_1 ht, mkd_and, nmkd_z, sz_0]
  constructor
  · intro h
    have := h t ht
    simpa using this
  · intro h d _
    by_cases q : d = t
    · subst q; simp [h]
    · simp [q]
theorem Ch_up {O : Nat → Nat → Bool} {df : Bool} {m i rest t : Nat} {U : Nat → Bool} {v : Nat → Nat} (h : Ch O df m (i + 1) rest U v) : Ch O df m (i + 1) rest U (fun j => if j = i then t else v j) := Ch_v (fun j hj => by rw [if_neg (by omega)]) h
theorem s_fits {v : Nat} {W : Nat → Value} {nn : Nat} {O : Nat → Nat → Bool} {df : Bool} (hdf : W 3 = .int (if df then 1 else 0)) {F : Nat} (hF : 40 ≤ F) : ∀ m i rest U Q n h, i + m = nn → 1 ≤ m → rest < 1000 → m ≤ n → SvAt h v W nn O Q → (df = false → ∀ d, U d = false) →
    ∃ h' Q' b, f_Siv_fits F n v (nI i) (nI rest) (nI (mkd U)) h = some (if b then 1 else 0, h') ∧ SvAt h' v W nn O Q' ∧ Fr (fun k => k = v + 2) h h' ∧ (b = true ↔ ∃ w, Ch O df m i rest U w) ∧ ∀ j d, j < nn → isD d = true → (Q' j d = true ↔ Q j d = true ∨ (i ≤ j ∧ ∃ w, Ch O df m i rest U w ∧ w j = d)) := by
  intro m
  induction m with
  | zero => intro i rest U Q n h _ h1; omega
  | succ m ih =>
    intro i rest U Q n h hi _ hr hn H hU
    obtain ⟨n, rfl⟩ : ∃ k, n = k + 1 := ⟨n - 1, by omega⟩
    have hin : i < nn := by omega
    have hn6 : nn ≤ 6 := H.2.2.2.2.1
    obtain ⟨k1, k2, k3, k4, k5⟩ := H.k hin
    have no : (¬ ∃ w, Ch O df (m + 1) i rest U w) → ∃ h' Q' b, (some ((0 : Int32), h) : Option (Int32 × PH)) = some (if b then 1 else 0, h') ∧ SvAt h' v W nn O Q' ∧ Fr (fun k => k = v + 2) h h' ∧ (b = true ↔ ∃ w, Ch O df (m + 1) i rest U w) ∧ ∀ j d, j < nn → isD d = true → (Q' j d = true ↔ Q j d = true ∨ (i ≤ j ∧ ∃ w, Ch O df (m + 1) i rest U w ∧ w j = d)) := fun hno =>
      ⟨h, Q, false, rfl, H, Fr.rf _ _, iff_of_false (by simp) hno, fun j d _ _ => ⟨Or.inl, fun z => z.elim id fun ⟨_, w, z, _⟩ => absurd ⟨w, z⟩ hno⟩⟩
    rw [f_Siv_fits, b_Siv_fits_0, k5, bnd_s, if_neg (show ¬ nI nn ≤ nI i from nI_ge (a := (i)) (b := (nn)) (by omega) (by omega))]
    by_cases w1 : rest < 1
    · rw [if_pos (show nI rest < (1 : Int32) from nI_lt (a := (rest)) (b := 1) (by omega) (by omega))]
      exact no fun ⟨w, z⟩ => by have := Ch_le z; omega
    rw [if_neg (show ¬ nI rest < (1 : Int32) from nI_nlt (a := (rest)) (b := 1) (by omega) (by omega)), bnd_s, show nI nn - nI i = nI (nn - i) from pk_sub (by omega), show (6 : Int32) * nI (nn - i) = nI (6 * (nn - i)) from pk_mul 6 _]
    by_cases w2 : rest ≤ 6 * (nn - i)
    rotate_left
    · rw [if_neg (show ¬ nI rest ≤ nI (6 * (nn - i)) from nI_ge (a := 6 * (nn - i)) (b := rest) (by omega) (by omega))]
      exact no fun ⟨w, z⟩ => by have := Ch_le z; omega
    rw [if_pos (show nI rest ≤ nI (6 * (nn - i)) from nI_le (by omega) (by omega)), k3, bnd_s, k4, bnd_s, mkd_sub, bnd_s, bnd_s, show nI nn - (1 : Int32) = nI (nn - 1) from pk_sub (b := 1) (by omega)]
    cases m with
    | zero =>
      have hrD : isD rest = true := isD_i (by omega) (by omega)
      have hs : nI (mkd fun d => O i d && !U d) &&& (1 : Int32) <<< (nI rest &&& 31) = nI (mkd fun d => (O i d && !U d) && decide (d = rest)) := by rw [mkd_1 hrD, mkd_and]
      obtain ⟨h', s1, s2, s3⟩ := H.set hin fun d => Q i d || ((O i d && !U d) && decide (d = rest))
      have hch : ∀ w, Ch O df 1 i rest U w ↔ w i = rest ∧ (O i rest && !U rest) = true := by
        intro w
        show (isD (w i) = true ∧ O i (w i) = true ∧ U (w i) = false ∧ w i ≤ rest ∧ rest - w i = 0) ↔ _
        rw [Bool.and_eq_true, Bool.not_eq_true']
        constructor
        · rintro ⟨x1, x2, x3, x4, x5⟩
          have : w i = rest := by omega
          rw [this] at x2 x3
          exact ⟨this, x2, x3⟩
        · rintro ⟨x1, x2, x3⟩
          rw [x1]
          exact ⟨hrD, x2, x3, Nat.le_refl _, by omega⟩
      rw [if_pos (show nI i = nI (nn - 1) from congrArg nI (by omega)), hs, bnd_s, k1, bnd_s, k2, bnd_s, mkd_or, s1, bnd_s]
      refine ⟨h', _, O i rest && !U rest, ?_, s2, s3, ?_, fun j d hj hd => ?_⟩
      · rw [← hs]
        by_cases z : (O i rest && !U rest) = true
        · rw [if_neg (fun y => by rw [(bit_t _ hrD).mp y] at z; cases z), if_pos z]
        · rw [if_pos ((bit_t _ hrD).mpr (by simpa using z)), if_neg z]
      · constructor
        · intro z
          exact ⟨fun _ => rest, (hch _).mpr ⟨rfl, z⟩⟩
        · rintro ⟨w, z⟩
          exact ((hch w).mp z).2
      · have hji : i ≤ j ↔ j = i := by omega
        unfold up2
        by_cases q : j = i
        · subst q
          rw [if_pos rfl, Bool.or_eq_true, Bool.and_eq_true, decide_eq_true_iff]
          constructor
          · rintro (z | ⟨z, y⟩)
            · exact Or.inl z
            · subst y
              exact Or.inr ⟨Nat.le_refl _, fun _ => d, (hch _).mpr ⟨rfl, z⟩, rfl⟩
          · rintro (z | ⟨_, w, z, y⟩)
            · exact Or.inl z
            · have := (hch w).mp z
              rw [this.1] at y
              subst y
              exact Or.inr ⟨this.2, rfl⟩
        · rw [if_neg q]
          exact ⟨Or.inl, fun z => z.elim id fun ⟨y, _⟩ => absurd (hji.mp y) q⟩
    | succ m =>
      rw [if_neg (show ¬ nI i = nI (nn - 1) from fun q => absurd ((nI_eq (by omega) (by omega)).mp q) (by omega))]
      -- digits one by one
      have hchd : ∀ (t : Nat) w, isD t = true → (Ch O df (m + 1 + 1) i rest U w ∧ w i = t ↔ w i = t ∧ (O i t && !U t) = true ∧ t ≤ rest ∧ Ch O df (m + 1) (i + 1) (rest - t) (fun d => df && (U d || decide (d = t))) w) := by
        intro t w ht
        show (isD (w i) = true ∧ O i (w i) = true ∧ U (w i) = false ∧ w i ≤ rest ∧ Ch O df (m + 1) (i + 1) (rest - w i) (fun d => df && (U d || decide (d = w i))) w) ∧ w i = t ↔ _
        rw [Bool.and_eq_true, Bool.not_eq_true']
        constructor
        · rintro ⟨⟨x1, x2, x3, x4, x5⟩, rfl⟩
          exact ⟨rfl, ⟨x2, x3⟩, x4, x5⟩
        · rintro ⟨rfl, ⟨x2, x3⟩, x4, x5⟩
          exact ⟨⟨ht, x2, x3, x4, x5⟩, rfl⟩
      obtain ⟨t, ⟨x5, h'⟩, t1, t2, ⟨t3, b, Q', y1, y2, y3, y4, y5⟩, t4, e1⟩ := LE (fun n' t (s : Int32 × PH) => f_Siv_fits_86 F (f_Siv_fits F n) n' v (nI i) (nI rest) (nI (mkd U)) (nI (mkd fun d => O i d && !U d)) s.1 (nI t) s.2)
        (fun t s => 1 ≤ t ∧ ∃ b Q', s.1 = (if b then 1 else 0) ∧ SvAt s.2 v W nn O Q' ∧ Fr (fun k => k = v + 2) h s.2 ∧ (b = true ↔ ∃ w, Ch O df (m + 1 + 1) i rest U w ∧ w i < t) ∧ ∀ j d, j < nn → isD d = true → (Q' j d = true ↔ Q j d = true ∨ (i ≤ j ∧ ∃ w, (Ch O df (m + 1 + 1) i rest U w ∧ w i < t) ∧ w j = d)))
        (fun t _ => rest ≤ t) 7
        (fun n' t s ht ⟨h1, b, Q', y1, y2, y3, y4, y5⟩ => by
          have hd := isD_i h1 ht
          by_cases w3 : rest ≤ t
          · exact Or.inl w3
          right
          have hsplit : ∀ w, (Ch O df (m + 1 + 1) i rest U w ∧ w i < t + 1) ↔ (Ch O df (m + 1 + 1) i rest U w ∧ w i < t) ∨ (Ch O df (m + 1 + 1) i rest U w ∧ w i = t) := by
            intro w
            constructor
            · rintro ⟨z1, z2⟩
              rcases Nat.lt_or_ge (w i) t with q | q
              · exact Or.inl ⟨z1, q⟩
              · exact Or.inr ⟨z1, by omega⟩
            · rintro (⟨z1, z2⟩ | ⟨z1, z2⟩)
              · exact ⟨z1, by omega⟩
              · exact ⟨z1, by omega⟩
          -- skipping
          have skip : ∀ (h2 : PH) (Q2 : Nat → Nat → Bool), SvAt h2 v W nn O Q2 → Fr (fun k => k = v + 2) h h2 → (¬ ∃ w, Ch O df (m + 1 + 1) i rest U w ∧ w i = t) → (∀ j d, j < nn → isD d = true → (Q2 j d = true ↔ Q' j d = true)) →
              1 ≤ t + 1 ∧ ∃ b Q', s.1 = (if b then 1 else 0) ∧ SvAt h2 v W nn O Q' ∧ Fr (fun k => k = v + 2) h h2 ∧ (b = true ↔ ∃ w, Ch O df (m + 1 + 1) i rest U w ∧ w i < t + 1) ∧ ∀ j d, j < nn → isD d = true → (Q' j d = true ↔ Q j d = true ∨ (i ≤ j ∧ ∃ w, (Ch O df (m + 1 + 1) i rest U w ∧ w i < t + 1) ∧ w j = d)) := by
            intro h2 Q2 z1 z2 z3 z4
            refine ⟨by omega, b, Q2, y1, z1, z2, y4.trans ⟨fun ⟨w, z⟩ => ⟨w, (hsplit w).mpr (Or.inl z)⟩, fun ⟨w, z⟩ => ⟨w, ((hsplit w).mp z).elim id fun z => absurd ⟨w, z⟩ z3⟩⟩, fun j d hj hd' => ?_⟩
            rw [z4 j d hj hd', y5 j d hj hd']
            constructor
            · rintro (z | ⟨z, w, x, y⟩)
              · exact Or.inl z
              · exact Or.inr ⟨z, w, (hsplit w).mpr (Or.inl x), y⟩
            · rintro (z | ⟨z, w, x, y⟩)
              · exact Or.inl z
              · exact Or.inr ⟨z, w, ((hsplit w).mp x).elim id fun x => absurd ⟨w, x⟩ z3, y⟩
          by_cases w4 : (O i t && !U t) = true
          rotate_left
          · refine ⟨(s.1, s.2), skip s.2 Q' y2 y3 (fun ⟨w, z⟩ => w4 ((hchd t w hd).mp z).2.1) (fun _ _ _ _ => Iff.rfl), ?_⟩
            show f_Siv_fits_86 F (f_Siv_fits F n) (n' + 1) v (nI i) (nI rest) (nI (mkd U)) (nI (mkd fun d => O i d && !U d)) s.1 (nI t) s.2 = _
            rw [f_Siv_fits_86, b_Siv_fits_86, if_neg (show ¬ (6 : Int32) < nI t from nI_nlt (a := 6) (b := (t)) (by omega) (by omega)), if_neg (show ¬ nI rest ≤ nI t from nI_ge (by omega) (by omega)), bnd_s, if_pos ((bit_t _ hd).mpr (by simpa using w4)), b_Siv_fits_156, nI_1]
          have hU' : nI (mkd fun d => df && (U d || decide (d = t))) = if df then nI (mkd U) ||| (1 : Int32) <<< (nI t &&& 31) else 0 := by
            cases df
            · rfl
            · rw [if_pos rfl, mkd_1 hd, mkd_or]
              rfl
          obtain ⟨h2, Q2, b2, g1, g2, g3, g4, g5⟩ := ih (i + 1) (rest - t) (fun d => df && (U d || decide (d = t))) Q' n s.2 (by omega) (by omega) (by omega) (by omega) y2 (fun hdf' d => by simp [hdf'])
          have hcall : f_Siv_fits_86 F (f_Siv_fits F n) (n' + 1) v (nI i) (nI rest) (nI (mkd U)) (nI (mkd fun d => O i d && !U d)) s.1 (nI t) s.2 =
              (if (if b2 then (1 : Int32) else 0) = (0 : Int32) then f_Siv_fits_86 F (f_Siv_fits F n) n' v (nI i) (nI rest) (nI (mkd U)) (nI (mkd fun d => O i d && !U d)) s.1 (nI (t + 1)) h2 else
                bnd (gR h2 v 6 1) fun x3 => bnd (aI h2 x3 (nI i)) fun x4 => bnd (sI h2 x3 (nI i) (x4 ||| (1 : Int32) <<< (nI t &&& 31))) fun h5 => f_Siv_fits_86 F (f_Siv_fits F n) n' v (nI i) (nI rest) (nI (mkd U)) (nI (mkd fun d => O i d && !U d)) 1 (nI (t + 1)) h5) := by
            rw [f_Siv_fits_86, b_Siv_fits_86, if_neg (show ¬ (6 : Int32) < nI t from nI_nlt (a := 6) (b := (t)) (by omega) (by omega)), if_neg (show ¬ nI rest ≤ nI t from nI_ge (by omega) (by omega)), bnd_s, if_neg (fun z => by rw [(bit_t _ hd).mp z] at w4; cases w4), ob_I y2.1 (by omega) hdf, bnd_s]
            have g1' : f_Siv_fits F n v (nI i + 1) (nI rest - nI t) (nI (mkd fun d => df && (U d || decide (d = t)))) s.2 = some (if b2 then 1 else 0, h2) := by
              rw [nI_1, show nI rest - nI t = nI (rest - t) from pk_sub (by omega)]
              exact g1
            have h136 : ∀ u, u = nI (mkd fun d => df && (U d || decide (d = t))) → b_Siv_fits_136 F (f_Siv_fits F n) (f_Siv_fits_86 F (f_Siv_fits F n) n') v (nI i) (nI rest) (nI (mkd U)) (nI (mkd fun d => O i d && !U d)) s.1 (nI t) ((1 : Int32) <<< (nI t &&& 31)) u (nI rest - nI t) (nI i + 1) v s.2 =
              (if (if b2 then (1 : Int32) else 0) = (0 : Int32) then f_Siv_fits_86 F (f_Siv_fits F n) n' v (nI i) (nI rest) (nI (mkd U)) (nI (mkd fun d => O i d && !U d)) s.1 (nI (t + 1)) h2 else
                bnd (gR h2 v 6 1) fun x3 => bnd (aI h2 x3 (nI i)) fun x4 => bnd (sI h2 x3 (nI i) (x4 ||| (1 : Int32) <<< (nI t &&& 31))) fun h5 => f_Siv_fits_86 F (f_Siv_fits F n) n' v (nI i) (nI rest) (nI (mkd U)) (nI (mkd fun d => O i d && !U d)) 1 (nI (t + 1)) h5) := by
              intro u hu
              rw [hu, b_Siv_fits_136, g1', bnd2_s]
              simp only [b_Siv_fits_156, nI_1]
            by_cases hdd : df = true
            · rw [if_pos hdd, if_neg (by decide)]
              exact h136 _ (by rw [hU', if_pos hdd])
            · rw [if_neg hdd, if_pos (by rfl)]
              exact h136 _ (by rw [hU', if_neg hdd])
          cases hb2 : b2
          · refine ⟨(s.1, h2), skip h2 Q2 g2 (y3.tr g3) (fun ⟨w, z⟩ => ?_) (fun j d hj hd' => ?_), ?_⟩
            · have := (hchd t w hd).mp z
              have := g4.mpr ⟨w, this.2.2.2⟩
              rw [hb2] at this
              cases this
            · rw [g5 j d hj hd']
              exact ⟨fun z => z.elim id (fun ⟨_, w, z, _⟩ => by have := g4.mpr ⟨w, z⟩; rw [hb2] at this; cases this), Or.inl⟩
            · show f_Siv_fits_86 F (f_Siv_fits F n) (n' + 1) v (nI i) (nI rest) (nI (mkd U)) (nI (mkd fun d => O i d && !U d)) s.1 (nI t) s.2 = _
              rw [hcall, hb2, if_pos (by rfl)]
          · obtain ⟨l1, l2, l3, l4, l5⟩ := g2.k hin
            obtain ⟨h3, s1, s2, s3⟩ := g2.set hin fun d => Q2 i d || decide (d = t)
            obtain ⟨w0, hw0⟩ := g4.mp hb2
            have hwt : Ch O df (m + 1 + 1) i rest U (fun j => if j = i then t else w0 j) ∧ (fun j => if j = i then t else w0 j) i = t := (hchd t _ hd).mpr ⟨if_pos rfl, w4, by omega, Ch_up hw0⟩
            refine ⟨(1, h3), ⟨by omega, true, _, rfl, s2, (y3.tr g3).tr s3, iff_of_true rfl ⟨_, (hsplit _).mpr (Or.inr hwt)⟩, fun j d hj hd' => ?_⟩, ?_⟩
            · have hQ2 := g5 j d hj hd'
              unfold up2
              by_cases q : j = i
              · subst q
                rw [if_pos rfl, Bool.or_eq_true, hQ2, y5 j d hj hd', decide_eq_true_iff]
                constructor
                · rintro (((z | ⟨z, w, x, y⟩) | ⟨z, _⟩) | z)
                  · exact Or.inl z
                  · exact Or.inr ⟨z, w, (hsplit w).mpr (Or.inl x), y⟩
                  · omega
                  · subst z
                    exact Or.inr ⟨Nat.le_refl _, _, (hsplit _).mpr (Or.inr hwt), hwt.2⟩
                · rintro (z | ⟨z, w, x, y⟩)
                  · exact Or.inl (Or.inl (Or.inl z))
                  · rcases (hsplit w).mp x with x | x
                    · exact Or.inl (Or.inl (Or.inr ⟨z, w, x, y⟩))
                    · exact Or.inr (y.symm.trans x.2)
              · rw [if_neg q, hQ2, y5 j d hj hd']
                constructor
                · rintro ((z | ⟨z, w, x, y⟩) | ⟨z, w, x, y⟩)
                  · exact Or.inl z
                  · exact Or.inr ⟨z, w, (hsplit w).mpr (Or.inl x), y⟩
                  · exact Or.inr ⟨by omega, fun j => if j = i then t else w j, (hsplit _).mpr (Or.inr ((hchd t _ hd).mpr ⟨if_pos rfl, w4, by omega, Ch_up x⟩)), by show (if j = i then t else w j) = d; rw [if_neg q]; exact y⟩
                · rintro (z | ⟨z, w, x, y⟩)
                  · exact Or.inl (Or.inl z)
                  · rcases (hsplit w).mp x with x | x
                    · exact Or.inl (Or.inr ⟨z, w, x, y⟩)
                    · exact Or.inr ⟨by omega, w, ((hchd t w hd).mp x).2.2.2, y⟩
            · show f_Siv_fits_86 F (f_Siv_fits F n) (n' + 1) v (nI i) (nI rest) (nI (mkd U)) (nI (mkd fun d => O i d && !U d)) s.1 (nI t) s.2 = _
              rw [hcall, hb2, if_neg (by decide), l1, bnd_s, l2, bnd_s, mkd_1 hd, mkd_or, s1, bnd_s]) 6 1 (0, h) F rfl (by omega) ⟨by omega, false, Q, rfl, H, Fr.rf _ _, iff_of_false (by simp) (fun ⟨w, z, y⟩ => by have := isD_b z.1; omega), fun j d hj hd => ⟨Or.inl, fun z => z.elim id fun ⟨_, w, ⟨z, y⟩, _⟩ => by have := isD_b z.1; omega⟩⟩
      have hall : ∀ w, Ch O df (m + 1 + 1) i rest U w → w i < t := by
        intro w z
        have z1 := isD_b z.1
        have z2 := Ch_le z.2.2.2.2
        rcases Nat.lt_or_ge t 7 with q | q
        · have := t4 q
          omega
        · omega
      refine ⟨h', Q', b, ?_, y2, y3, y4.trans ⟨fun ⟨w, z, _⟩ => ⟨w, z⟩, fun ⟨w, z⟩ => ⟨w, z, hall w z⟩⟩, fun j d hj hd => (y5 j d hj hd).trans ⟨fun z => z.imp id fun ⟨x, w, ⟨y, _⟩, z⟩ => ⟨x, w, y, z⟩, fun z => z.imp id fun ⟨x, w, y, z⟩ => ⟨x, w, ⟨y, hall w y⟩, z⟩⟩⟩
      refine Eq.trans e1 ?_
      obtain ⟨k, hk⟩ : ∃ k, F - (t - 1) = k + 1 := ⟨F - (t - 1) - 1, by omega⟩
      show f_Siv_fits_86 F (f_Siv_fits F n) (F - (t - 1)) v (nI i) (nI rest) (nI (mkd U)) (nI (mkd fun d => O i d && !U d)) x5 (nI t) h' = _
      have hcz : cZ x5 = some () := by
        rw [show x5 = if b then 1 else 0 from y1]
        cases b <;> rfl
      rw [hk, f_Siv_fits_86, b_Siv_fits_86]
      rcases Nat.lt_or_ge t 7 with q | q
      · rw [if_neg (show ¬ (6 : Int32) < nI t from nI_nlt (a := 6) (b := (t)) (by omega) (by omega)), if_pos (show nI rest ≤ nI t from nI_le (t4 q) (by omega)), hcz, bnd_s, show x5 = if b then 1 else 0 from y1]
      · rw [if_pos (show (6 : Int32) < nI t from nI_lt (a := 6) (b := (t)) (by omega) (by omega)), hcz, bnd_s, show x5 = if b then 1 else 0 from y1]
