/-! The class's sieve: smallest, greatest, sweeps, sums. -/
theorem s_smallest (Y : Nat → Bool) {F : Nat} (hF : 40 ≤ F) : f_Siv_smallest F (nI (mkd Y)) = some (nI (lod Y)) := by
  obtain ⟨j, s, j1, j2, ⟨j3, j5⟩, j4, h1⟩ := LE (fun n i (_ : Unit) => f_Siv_smallest_2 F n (nI (mkd Y)) (nI i)) (fun i _ => 1 ≤ i ∧ ∀ e, isD e = true → e < i → Y e = false) (fun i _ => Y i = true) 7
    (fun n i s hi ⟨h1, h2⟩ => by
      have hd : isD i = true := isD_i h1 hi
      cases q : Y i
      · refine Or.inr ⟨(), ⟨by omega, fun e he hl => ?_⟩, ?_⟩
        · by_cases q2 : e = i
          · subst q2; exact q
          · exact h2 e he (by omega)
        · show f_Siv_smallest_2 F (n + 1) (nI (mkd Y)) (nI i) = _
          rw [f_Siv_smallest_2, b_Siv_smallest_2, if_neg (show ¬ (6 : Int32) < nI i from nI_nlt (a := 6) (b := (i)) (by omega) (by omega)), if_pos ((mkd_bit Y hd).mpr q), nI_1]
      · exact Or.inl rfl) 6 1 () F rfl (by omega) ⟨by omega, fun e he hl => by have := isD_b he; omega⟩
  unfold f_Siv_smallest
  refine Eq.trans h1 ?_
  obtain ⟨m, hm⟩ : ∃ m, F - (j - 1) = m + 1 := ⟨F - (j - 1) - 1, by omega⟩
  show f_Siv_smallest_2 F (F - (j - 1)) (nI (mkd Y)) (nI j) = _
  rw [hm, f_Siv_smallest_2, b_Siv_smallest_2]
  by_cases q : j < 7
  · have hd : isD j = true := isD_i j3 q
    rw [if_neg (show ¬ (6 : Int32) < nI j from nI_nlt (a := 6) (b := (j)) (by omega) (by omega)), if_neg (fun z => by rw [(mkd_bit Y hd).mp z] at j4; have := j4 q; cases this), lod_s hd (j4 q) j5]
  · rw [if_pos (show (6 : Int32) < nI j from nI_lt (a := 6) (b := (j)) (by omega) (by omega)), lod_n (sz_0.mpr fun d hd => j5 d hd (by have := isD_b hd; omega))]
    rfl
theorem hid_s {p : Nat → Bool} {d : Nat} (hd : isD d = true) (h1 : p d = true) (h2 : ∀ e, isD e = true → d < e → p e = false) : hid p = d := by
  have hz := sz_of hd h1
  obtain ⟨x1, x2, x3⟩ := hid_x hz
  rcases Nat.lt_trichotomy (hid p) d with q | q | q
  · rw [x3 d hd q] at h1; cases h1
  · exact q
  · rw [h2 _ x1 q] at x2; cases x2
theorem s_greatest (Y : Nat → Bool) {F : Nat} (hF : 40 ≤ F) : f_Siv_greatest F (nI (mkd Y)) = some (nI (hid Y)) := by
  obtain ⟨j, s, j1, j2, j5, j4, h1⟩ := LE (fun n i (_ : Unit) => f_Siv_greatest_3 F n (nI (mkd Y)) (nI (6 - i))) (fun i _ => ∀ e, isD e = true → 6 - i < e → Y e = false) (fun i _ => Y (6 - i) = true) 6
    (fun n i s hi h2 => by
      have hd : isD (6 - i) = true := isD_i (by omega) (by omega)
      cases q : Y (6 - i)
      · refine Or.inr ⟨(), fun e he hl => ?_, ?_⟩
        · by_cases q2 : e = 6 - i
          · subst q2; exact q
          · exact h2 e he (by omega)
        · show f_Siv_greatest_3 F (n + 1) (nI (mkd Y)) (nI (6 - i)) = _
          have e9 : nI (6 - i) + (-1 : Int32) = nI (6 - (i + 1)) := by
            rw [show 6 - i = 6 - (i + 1) + 1 by omega]
            exact pk_m1 _
          rw [f_Siv_greatest_3, b_Siv_greatest_3, if_neg (show ¬ nI (6 - i) < (1 : Int32) from nI_nlt (a := (6 - i)) (b := 1) (by omega) (by omega)), if_pos ((mkd_bit Y hd).mpr q), e9]
      · exact Or.inl rfl) 6 0 () F rfl (by omega) (fun e he hl => by have := isD_b he; omega)
  unfold f_Siv_greatest
  refine Eq.trans h1 ?_
  obtain ⟨m, hm⟩ : ∃ m, F - (j - 0) = m + 1 := ⟨F - (j - 0) - 1, by omega⟩
  show f_Siv_greatest_3 F (F - (j - 0)) (nI (mkd Y)) (nI (6 - j)) = _
  rw [hm, f_Siv_greatest_3, b_Siv_greatest_3]
  by_cases q : j < 6
  · have hd : isD (6 - j) = true := isD_i (by omega) (by omega)
    rw [if_neg (show ¬ nI (6 - j) < (1 : Int32) from nI_nlt (a := (6 - j)) (b := 1) (by omega) (by omega)), if_neg (fun z => by rw [(mkd_bit Y hd).mp z] at j4; have := j4 q; cases this), hid_s hd (j4 q) j5]
  · rw [if_pos (show nI (6 - j) < (1 : Int32) from nI_lt (a := (6 - j)) (b := 1) (by omega) (by omega)), hid_n (sz_0.mpr fun d hd => j5 d hd (by have := isD_b hd; omega))]
    rfl
theorem btw_b : ∀ a, a < 8 → ∀ b, b < 8 → ∀ i, i < 32 → bt ((((1 : Int32) <<< (nI b &&& 31)) - (1 : Int32)) &&& ((((2 : Int32) <<< (nI a &&& 31)) - (1 : Int32)) ^^^ (-1 : Int32))) i = (decide (a < i) && decide (i < b)) := by decide +kernel
theorem s_between {a b : Nat} (ha : a < 8) (hb : b < 8) : ∃ x, f_Siv_between (nI a) (nI b) = some x ∧ ∀ Y : Nat → Bool, nI (mkd Y) &&& x = nI (mkd fun d => Y d && (decide (a < d) && decide (d < b))) := by
  refine ⟨_, rfl, fun Y => mkd_of fun i hi => ?_⟩
  rw [b_and, btw_b a ha b hb i hi, mkd_b]
  cases isD i <;> simp
/-- the sieve: size, what the cells can be, what they keep -/
def SvAt (h : PH) (v : Nat) (W : Nat → Value) (n : Nat) (O Y : Nat → Nat → Bool) : Prop :=
  h.2 v = obj 6 4 W ∧ W 0 = .ref (v + 1) ∧ W 1 = .ref (v + 2) ∧ W 2 = .int (nI n) ∧ n ≤ 6 ∧ (∃ f, h.2 (v + 1) = oI 6 f ∧ ∀ j, j < n → f j = nI (mkd (O j))) ∧ ∃ g, h.2 (v + 2) = oI 6 g ∧ ∀ j, j < n → g j = nI (mkd (Y j))
def up2 (Y : Nat → Nat → Bool) (i : Nat) (p : Nat → Bool) : Nat → Nat → Bool := fun j => if j = i then p else Y j
theorem SvAt.set {h : PH} {v : Nat} {W : Nat → Value} {n : Nat} {O Y : Nat → Nat → Bool} (H : SvAt h v W n O Y) {i : Nat} (hi : i < n) (p : Nat → Bool) :
    ∃ h', sI h (v + 2) (nI i) (nI (mkd p)) = some h' ∧ SvAt h' v W n O (up2 Y i p) ∧ Fr (fun k => k = v + 2) h h' := by
  obtain ⟨a0, a1, a2, a3, a4, ⟨f, a5, a6⟩, g, a7, a8⟩ := H
  refine ⟨_, ar_sI _ a7 (by omega) (by omega), ⟨(hset_n _ _ (by omega)).trans a0, a1, a2, a3, a4, ⟨f, (hset_n _ _ (by omega)).trans a5, a6⟩, _, hset_s _ _ _, fun j hj => ?_⟩, (Fr.rf _ _).sq _⟩
  unfold up2
  by_cases q : j = i
  · subst q
    rw [pk_us, if_pos rfl]
  · rw [pk_un q, if_neg q, a8 j hj]
theorem SvAt.x {h : PH} {v : Nat} {W : Nat → Value} {n : Nat} {O Y Y' : Nat → Nat → Bool} (H : SvAt h v W n O Y) (e : ∀ j, j < n → ∀ d, isD d = true → Y j d = Y' j d) : SvAt h v W n O Y' := by
  obtain ⟨a0, a1, a2, a3, a4, a5, g, a7, a8⟩ := H
  exact ⟨a0, a1, a2, a3, a4, a5, g, a7, fun j hj => by rw [a8 j hj, mkd_ext (e j hj)]⟩
theorem SvAt.k {h : PH} {v : Nat} {W : Nat → Value} {n : Nat} {O Y : Nat → Nat → Bool} (H : SvAt h v W n O Y) {i : Nat} (hi : i < n) : gR h v 6 1 = some (v + 2) ∧ aI h (v + 2) (nI i) = some (nI (mkd (Y i))) ∧ gR h v 6 0 = some (v + 1) ∧ aI h (v + 1) (nI i) = some (nI (mkd (O i))) ∧ gI h v 6 2 = some (nI n) := by
  obtain ⟨a0, a1, a2, a3, a4, ⟨f, a5, a6⟩, g, a7, a8⟩ := H
  exact ⟨ob_R a0 (by omega) a2, by rw [ar_I a7 (by omega) (by omega), a8 i hi], ob_R a0 (by omega) a1, by rw [ar_I a5 (by omega) (by omega), a6 i hi], ob_I a0 (by omega) a3⟩
theorem lod_lt (p : Nat → Bool) : lod p < 8 := by
  unfold lod
  repeat (split; omega)
  omega
theorem hid_lt (p : Nat → Bool) : hid p < 8 := by
  unfold hid
  repeat (split; omega)
  omega
theorem nbr_ab {n : Nat} {Y : Nat → Nat → Bool} {i d : Nat} (hd : isD d = true) : nbr n Y i d = (decide ((if i = 0 then 0 else lod (Y (i - 1))) < d) && decide (d < (if n ≤ i + 1 then 7 else hid (Y (i + 1))))) := by
  have := isD_b hd
  unfold nbr
  congr 1
  · split
    · rename_i q; simp [q] <;> omega
    · rename_i q; simp [q]
  · split
    · rename_i q; simp [q] <;> omega
    · rename_i q; simp [q] <;> omega
theorem s_step {h : PH} {v : Nat} {W : Nat → Value} {nn : Nat} {O Y : Nat → Nat → Bool} (H : SvAt h v W nn O Y) {i : Nat} (hi : i < nn) (c : Bool) (rd : Int32) {F n : Nat} (hF : 40 ≤ F) (kk : Nat → Int32 → Int32 → PH → Option PH) :
    ∃ h' b, f_Siv_ascend_46 F kk (n + 1) v (if c then 1 else 0) rd (nI i) h = f_Siv_ascend_46 F kk n v (if c || b then 1 else 0) rd (nI (i + 1)) h' ∧ SvAt h' v W nn O (up2 Y i fun d => Y i d && nbr nn Y i d) ∧ Fr (fun k => k = v + 2) h h' ∧ (b = false ↔ ∀ d, isD d = true → Y i d = true → nbr nn Y i d = true) := by
  obtain ⟨k1, k2, k3, k4, k5⟩ := H.k hi
  have hn6 : nn ≤ 6 := H.2.2.2.2.1
  have hA : (if i = 0 then 0 else lod (Y (i - 1))) < 8 := by split; omega; exact lod_lt _
  have hB : (if nn ≤ i + 1 then 7 else hid (Y (i + 1))) < 8 := by split; omega; exact hid_lt _
  obtain ⟨x, g1, g2⟩ := s_between hA hB
  have hp : ∀ d, isD d = true → (Y i d && (decide ((if i = 0 then 0 else lod (Y (i - 1))) < d) && decide (d < (if nn ≤ i + 1 then 7 else hid (Y (i + 1)))))) = (Y i d && nbr nn Y i d) := fun d hd => by rw [nbr_ab hd]
  obtain ⟨h', s1, s2, s3⟩ := H.set hi fun d => Y i d && nbr nn Y i d
  have hx : nI (mkd (Y i)) &&& x = nI (mkd fun d => Y i d && nbr nn Y i d) := by rw [g2]; congr 1; exact mkd_ext hp
  have h101 : ∀ a b, (if i = 0 then 0 else lod (Y (i - 1))) = a → (if nn ≤ i + 1 then 7 else hid (Y (i + 1))) = b → ∃ bb : Bool, b_Siv_ascend_101 F (f_Siv_ascend_46 F kk n) v (if c then 1 else 0) rd (nI i) (nI a) (nI b) h = f_Siv_ascend_46 F kk n v (if c || bb then 1 else 0) rd (nI (i + 1)) h' ∧ (bb = false ↔ ∀ d, isD d = true → Y i d = true → nbr nn Y i d = true) := by
    intro a b ea eb
    subst ea eb
    have key : (nI (mkd fun d => Y i d && nbr nn Y i d) = nI (mkd (Y i))) ↔ ∀ d, isD d = true → Y i d = true → nbr nn Y i d = true := by
      have l1 := mkd_lt fun d => Y i d && nbr nn Y i d
      have l2 := mkd_lt (Y i)
      rw [nI_eq (by omega) (by omega)]
      constructor
      · intro q d hd hy
        have := mkd_inj q hd
        simpa [hy] using this
      · intro q
        apply mkd_ext
        intro d hd
        cases w : Y i d
        · rfl
        · rw [q d hd w]; rfl
    by_cases w : nI (mkd fun d => Y i d && nbr nn Y i d) = nI (mkd (Y i))
    · refine ⟨false, ?_, iff_of_true rfl (key.mp w)⟩
      cases c
      · rw [b_Siv_ascend_101, k1, bnd_s, k2, bnd_s, g1, bnd_s, if_pos (show (if false = true then 1 else 0 : Int32) = 0 from rfl), bnd_s, k2, bnd_s, hx, if_pos w, b_Siv_ascend_139, k1, bnd_s, s1, bnd_s, nI_1]
        exact congrArg (fun z => f_Siv_ascend_46 F kk n v z rd (nI (i + 1)) h') (show (0 : Int32) = (if (false || false) = true then 1 else 0) from rfl)
      · rw [b_Siv_ascend_101, k1, bnd_s, k2, bnd_s, g1, bnd_s, if_neg (show ¬ (if true = true then 1 else 0 : Int32) = 0 by decide), hx, b_Siv_ascend_134, b_Siv_ascend_139, k1, bnd_s, s1, bnd_s, nI_1]
        exact congrArg (fun z => f_Siv_ascend_46 F kk n v z rd (nI (i + 1)) h') (show (1 : Int32) = (if (true || false) = true then 1 else 0) from rfl)
    · refine ⟨true, ?_, iff_of_false (by simp) fun z => w (key.mpr z)⟩
      cases c
      · rw [b_Siv_ascend_101, k1, bnd_s, k2, bnd_s, g1, bnd_s, if_pos (show (if false = true then 1 else 0 : Int32) = 0 from rfl), bnd_s, k2, bnd_s, hx, if_neg w, b_Siv_ascend_134, b_Siv_ascend_139, k1, bnd_s, s1, bnd_s, nI_1]
        exact congrArg (fun z => f_Siv_ascend_46 F kk n v z rd (nI (i + 1)) h') (show (1 : Int32) = (if (false || true) = true then 1 else 0) from rfl)
      · rw [b_Siv_ascend_101, k1, bnd_s, k2, bnd_s, g1, bnd_s, if_neg (show ¬ (if true = true then 1 else 0 : Int32) = 0 by decide), hx, b_Siv_ascend_134, b_Siv_ascend_139, k1, bnd_s, s1, bnd_s, nI_1]
        exact congrArg (fun z => f_Siv_ascend_46 F kk n v z rd (nI (i + 1)) h') (show (1 : Int32) = (if (true || true) = true then 1 else 0) from rfl)
  have e1 : nI nn - (1 : Int32) = nI (nn - 1) := pk_sub (a := nn) (b := 1) (by omega)
  have h73 : ∀ a, (if i = 0 then 0 else lod (Y (i - 1))) = a → ∃ bb : Bool, b_Siv_ascend_73 F (f_Siv_ascend_46 F kk n) v (if c then 1 else 0) rd (nI i) (nI a) h = f_Siv_ascend_46 F kk n v (if c || bb then 1 else 0) rd (nI (i + 1)) h' ∧ (bb = false ↔ ∀ d, isD d = true → Y i d = true → nbr nn Y i d = true) := by
    intro a ea
    rw [b_Siv_ascend_73, k5, bnd_s, e1]
    by_cases w : nn ≤ i + 1
    · rw [if_pos (show nI (nn - 1) ≤ nI i from nI_le (a := (nn - 1)) (b := (i)) (by omega) (by omega))]
      exact h101 a 7 ea (if_pos w)
    · rw [if_neg (show ¬ nI (nn - 1) ≤ nI i from nI_ge (a := (i)) (b := (nn - 1)) (by omega) (by omega)), k1, bnd_s, nI_1, (H.k (show i + 1 < nn by omega)).2.1, bnd_s, s_greatest _ hF, bnd_s]
      exact h101 a _ ea (if_neg w)
  have hmain : ∃ bb : Bool, f_Siv_ascend_46 F kk (n + 1) v (if c then 1 else 0) rd (nI i) h = f_Siv_ascend_46 F kk n v (if c || bb then 1 else 0) rd (nI (i + 1)) h' ∧ (bb = false ↔ ∀ d, isD d = true → Y i d = true → nbr nn Y i d = true) := by
    rw [f_Siv_ascend_46, b_Siv_ascend_46, k5, bnd_s, if_neg (show ¬ nI nn ≤ nI i from nI_ge (a := (i)) (b := (nn)) (by omega) (by omega))]
    by_cases w : i = 0
    · rw [if_pos (show nI i ≤ (0 : Int32) from nI_le (a := (i)) (b := 0) (by omega) (by omega))]
      exact h73 0 (if_pos w)
    · have e2 : nI i - (1 : Int32) = nI (i - 1) := pk_sub (a := i) (b := 1) (by omega)
      rw [if_neg (show ¬ nI i ≤ (0 : Int32) from nI_ge (a := 0) (b := (i)) (by omega) (by omega)), k1, bnd_s, e2, (H.k (show i - 1 < nn by omega)).2.1, bnd_s, s_smallest _ hF, bnd_s]
      exact h73 _ (if_neg w)
  obtain ⟨bb, m1, m2⟩ := hmain
  exact ⟨h', bb, m1, s2, s3, m2⟩
def mzs (n : Nat) (Y : Nat → Nat → Bool) : Nat := smN (fun j => sz (Y j)) n
theorem nbr_x {n : Nat} {Y Z : Nat → Nat → Bool} (h : ∀ j, j < n → ∀ d, isD d = true → Y j d = Z j d) {i d : Nat} (hi : i < n) : nbr n Y i d = nbr n Z i d := by
  unfold nbr
  congr 1
  · by_cases q : i = 0
    · simp [q]
    · rw [lod_ext (h (i - 1) (by omega))]
  · by_cases q : n ≤ i + 1
    · simp [q]
    · rw [hid_ext (h (i + 1) (by omega))]
theorem s_round {h : PH} {v : Nat} {W : Nat → Value} {nn : Nat} {O Y : Nat → Nat → Bool} (H : SvAt h v W nn O Y) (hw : Swp nn O Y) (rd : Nat) {F : Nat} (hF : 40 ≤ F) (kk : Nat → Int32 → Int32 → PH → Option PH) :
    ∃ h' Y' c, f_Siv_ascend_46 F kk F v 0 (nI rd) (nI 0) h = kk v (if c then 1 else 0) (nI (rd + 1)) h' ∧ SvAt h' v W nn O Y' ∧ Swp nn O Y' ∧ Fr (fun k => k = v + 2) h h' ∧ (c = true → mzs nn Y' < mzs nn Y) ∧ (c = false → ∀ j, j < nn → ∀ d, isD d = true → Y' j d = true → nbr nn Y' j d = true) := by
  have hn6 : nn ≤ 6 := H.2.2.2.2.1
  obtain ⟨⟨cc, h'⟩, ⟨Y', c, i1, i2, i3, i4, i5, i6, i7⟩, h1⟩ := LC (fun n i (s : Int32 × PH) => f_Siv_ascend_46 F kk n v s.1 (nI rd) (nI i) s.2)
    (fun i s => ∃ Y' c, s.1 = (if c then 1 else 0) ∧ SvAt s.2 v W nn O Y' ∧ Swp nn O Y' ∧ Fr (fun k => k = v + 2) h s.2 ∧ mzs nn Y' ≤ mzs nn Y ∧ (c = true → mzs nn Y' < mzs nn Y) ∧ (c = false → (∀ j, j < nn → ∀ d, isD d = true → Y' j d = Y j d) ∧ ∀ j, j < i → ∀ d, isD d = true → Y j d = true → nbr nn Y j d = true)) nn
    (fun n i s hi ⟨Y', c, i1, i2, i3, i4, i5, i6, i7⟩ => by
      obtain ⟨h2, b, g1, g2, g3, g4⟩ := s_step (n := n) i2 hi c (nI rd) hF kk
      have hm : ∀ j, j < nn → sz (up2 Y' i (fun d => Y' i d && nbr nn Y' i d) j) ≤ sz (Y' j) := by
        intro j hj
        unfold up2
        split
        · rename_i q; subst q
          exact sz_mono fun d _ z => by rw [Bool.and_eq_true] at z; exact z.1
        · exact Nat.le_refl _
      refine ⟨(if c || b then 1 else 0, h2), ⟨up2 Y' i fun d => Y' i d && nbr nn Y' i d, c || b, rfl, g2, i3.s hi fun j _ d _ => ?_, i4.tr g3, Nat.le_trans (smN_le hm) i5, fun hcb => ?_, fun hcb => ?_⟩, ?_⟩
      · unfold up2
        by_cases q : j = i
        · subst q; simp
        · simp [q]
      · cases hc : c
        · rw [hc, Bool.false_or] at hcb
          have : ¬ ∀ d, isD d = true → Y' i d = true → nbr nn Y' i d = true := fun z => by rw [g4.mpr z] at hcb; cases hcb
          have h3 : ∃ d, isD d = true ∧ Y' i d = true ∧ nbr nn Y' i d = false := by
            apply Classical.byContradiction
            intro z
            apply this
            intro d hd hy
            cases q : nbr nn Y' i d
            · exact absurd ⟨d, hd, hy, q⟩ z
            · rfl
          obtain ⟨d, hd, hy, hq⟩ := h3
          refine Nat.lt_of_lt_of_le (smN_lt hm ⟨i, hi, ?_⟩) i5
          show sz (up2 Y' i (fun d => Y' i d && nbr nn Y' i d) i) < sz (Y' i)
          unfold up2
          rw [if_pos rfl]
          exact sz_lt (fun d _ z => by rw [Bool.and_eq_true] at z; exact z.1) hd hy (by simp [hq])
        · exact Nat.lt_of_le_of_lt (smN_le hm) (i6 hc)
      · rw [Bool.or_eq_false_iff] at hcb
        obtain ⟨j1, j2⟩ := i7 hcb.1
        have j3 := g4.mp hcb.2
        refine ⟨fun j hj d hd => ?_, fun j hj d hd hy => ?_⟩
        · unfold up2
          by_cases q : j = i
          · subst q
            rw [if_pos rfl, ← j1 j hj d hd]
            cases w : Y' j d
            · rfl
            · rw [j3 d hd w]; rfl
          · rw [if_neg q]
            exact j1 j hj d hd
        · by_cases q : j = i
          · subst q
            rw [← nbr_x j1 hi]
            exact j3 d hd (by rw [j1 j hi d hd]; exact hy)
          · exact j2 j (by omega) d hd hy
      · show f_Siv_ascend_46 F kk (n + 1) v s.1 (nI rd) (nI i) s.2 = _
        rw [i1]
        exact g1) nn 0 (0, h) F (by omega) (by omega) ⟨Y, false, rfl, H, hw, Fr.rf _ _, Nat.le_refl _, fun q => (by cases q), fun _ => ⟨fun _ _ _ _ => rfl, fun j hj => by omega⟩⟩
  refine ⟨h', Y', c, ?_, i2, i3, i4, i6, fun hc j hj d hd hy => ?_⟩
  · refine Eq.trans h1 ?_
    obtain ⟨m, hm⟩ : ∃ m, F - nn = m + 1 := ⟨F - nn - 1, by omega⟩
    show f_Siv_ascend_46 F kk (F - nn) v cc (nI rd) (nI nn) h' = _
    rw [hm, f_Siv_ascend_46, b_Siv_ascend_46, ob_I i2.1 (by omega) i2.2.2.2.1, bnd_s, if_pos (show nI nn ≤ nI nn from nI_le (a := (nn)) (b := (nn)) (by omega) (by omega)), nI_1, show cc = _ from i1]
  · obtain ⟨j1, j2⟩ := i7 hc
    rw [nbr_x j1 hj]
    exact j2 j hj d hd (by rw [← j1 j hj d hd]; exact hy)
theorem s_asc {v : Nat} {W : Nat → Value} {nn : Nat} {O : Nat → Nat → Bool} {F : Nat} (hF : 40 ≤ F) : ∀ M Y rd n h, SvAt h v W nn O Y → Swp nn O Y → mzs nn Y ≤ M → M + rd ≤ 36 → M + 2 ≤ n →
    ∃ h' Y', f_Siv_ascend_32 F n v 1 (nI rd) h = some h' ∧ SvAt h' v W nn O Y' ∧ Swp nn O Y' ∧ Fr (fun k => k = v + 2) h h' ∧ ∀ j, j < nn → ∀ d, isD d = true → Y' j d = true → nbr nn Y' j d = true := by
  intro M
  induction M with
  | zero =>
    intro Y rd n h H hw hM hr hn
    obtain ⟨n, rfl⟩ : ∃ k, n = k + 2 := ⟨n - 2, by omega⟩
    obtain ⟨h', Y', c, g1, g2, g3, g4, g5, g6⟩ := s_round H hw rd hF (f_Siv_ascend_32 F (n + 1))
    rw [f_Siv_ascend_32, b_Siv_ascend_32, if_neg (by decide), if_neg (show ¬ (36 : Int32) < nI rd from nI_nlt (a := 36) (b := (rd)) (by omega) (by omega))]
    refine ⟨h', Y', Eq.trans g1 ?_, g2, g3, g4, g6 ?_⟩
    · cases c
      · rw [f_Siv_ascend_32, b_Siv_ascend_32, if_pos (by rfl)]
      · exact absurd (g5 rfl) (by omega)
    · cases c
      · rfl
      · exact absurd (g5 rfl) (by omega)
  | succ M ih =>
    intro Y rd n h H hw hM hr hn
    obtain ⟨n, rfl⟩ : ∃ k, n = k + 2 := ⟨n - 2, by omega⟩
    obtain ⟨h', Y', c, g1, g2, g3, g4, g5, g6⟩ := s_round H hw rd hF (f_Siv_ascend_32 F (n + 1))
    rw [f_Siv_ascend_32, b_Siv_ascend_32, if_neg (by decide), if_neg (show ¬ (36 : Int32) < nI rd from nI_nlt (a := 36) (b := (rd)) (by omega) (by omega))]
    cases c
    · refine ⟨h', Y', Eq.trans g1 ?_, g2, g3, g4, g6 rfl⟩
      rw [f_Siv_ascend_32, b_Siv_ascend_32, if_pos (by rfl)]
    · have := g5 rfl
      obtain ⟨h2, Y2, k1, k2, k3, k4, k5⟩ := ih Y' (rd + 1) (n + 1) h' g2 g3 (by omega) (by omega) (by omega)
      exact ⟨h2, Y2, Eq.trans g1 k1, k2, k3, g4.tr k4, k5⟩
theorem s_ascend {h : PH} {v : Nat} {W : Nat → Value} {nn : Nat} {O Y : Nat → Nat → Bool} (H : SvAt h v W nn O Y) {F : Nat} (hF : 40 ≤ F) :
    ∃ h' Y', f_Siv_ascend F v h = some h' ∧ SvAt h' v W nn O Y' ∧ Swp nn O Y' ∧ Fr (fun k => k = v + 2) h h' ∧ ∀ j, j < nn → ∀ d, isD d = true → Y' j d = true → nbr nn Y' j d = true := by
  have hn6 : nn ≤ 6 := H.2.2.2.2.1
  obtain ⟨h1, ⟨Y1, i1, i2, i3⟩, e1⟩ := LC (fun n i h => f_Siv_ascend_2 F n v (nI i) h) (fun i h' => ∃ Y', SvAt h' v W nn O Y' ∧ (∀ j, j < i → Y' j = O j) ∧ Fr (fun k => k = v + 2) h h') nn
    (fun n i s hi ⟨Y1, i1, i2, i3⟩ => by
      obtain ⟨k1, k2, k3, k4, k5⟩ := i1.k hi
      obtain ⟨h', s1, s2, s3⟩ := i1.set hi (O i)
      refine ⟨h', ⟨_, s2, fun j hj => ?_, i3.tr s3⟩, ?_⟩
      · unfold up2
        by_cases q : j = i
        · rw [if_pos q, q]
        · rw [if_neg q, i2 j (by omega)]
      · show f_Siv_ascend_2 F (n + 1) v (nI i) s = _
        rw [f_Siv_ascend_2, b_Siv_ascend_2, k5, bnd_s, if_neg (show ¬ nI nn ≤ nI i from nI_ge (a := (i)) (b := (nn)) (by omega) (by omega)), k1, bnd_s, k3, bnd_s, k4, bnd_s, s1, bnd_s, nI_1]) nn 0 h F (by omega) (by omega) ⟨Y, H, fun j hj => by omega, Fr.rf _ _⟩
  have i1' : SvAt h1 v W nn O O := i1.x fun j hj d _ => by rw [i2 j hj]
  obtain ⟨h2, Y2, g1, g2, g3, g4, g5⟩ := s_asc hF 36 O 0 F h1 i1' ⟨fun _ _ _ _ q => q, fun w hw j hj => (hw.1 j hj).2⟩ (by
    have : mzs nn O ≤ smN (fun _ => 6) nn := smN_le fun c _ => sz_le _
    have h : ∀ k, smN (fun _ => 6) k = 6 * k := by
      intro k
      induction k with
      | zero => rfl
      | succ k ih => show smN (fun _ => 6) k + 6 = _; rw [ih]; omega
    rw [h] at this
    omega) (by omega) (by omega)
  refine ⟨h2, Y2, ?_, g2, g3, i3.tr g4, g5⟩
  unfold f_Siv_ascend
  refine Eq.trans e1 ?_
  obtain ⟨m, hm⟩ : ∃ m, F - nn = m + 1 := ⟨F - nn - 1, by omega⟩
  show f_Siv_ascend_2 F (F - nn) v (nI nn) h1 = _
  rw [hm, f_Siv_ascend_2, b_Siv_ascend_2, ob_I i1.1 (by omega) i1.2.2.2.1, bnd_s, if_pos (show nI nn ≤ nI nn from nI_le (a := (nn)) (b := (nn)) (by omega) (by omega))]
  exact g1
