/-! Math.min, a method of the JDK that the kit knows. -/
def MnL (own : String) (idx : Nat) : Prop := Cond.methodLink own idx Lib.Math.min.name ∈ w_S ∧ Cond.static Lib.Math.min.name ∈ w_S ∧ Cond.initialized "java/lang/Math" ∈ w_S ∧ Cond.code Lib.Math.min.name Lib.Math.min.code 2 (some .int) ∈ w_S
section GOM
variable {l : Launch} {E : ET} {M : MT} {R : Room} {K : KT} {h : PH} {x : Nat} {pc : Nat} {lv : List (Nat × Value)} {st : List Value}
theorem go_min {idx : Nat} {y z : Int32} (hd : decode M.2.1 pc = .ok (.invokestatic idx, 3)) (lk : MnL M.1.cls idx) (hR : 1 ≤ R.frames ∧ 60 ≤ R.locals) (hst : (st.map fun v => v.category).sum ≤ 8) (kk : Go l E M R K 0 0 h x (pc + 3) lv (.int (if z < y then z else y) :: st)) : Go l E M R K 0 0 h x pc lv (.int z :: .int y :: st) := by
  intro p e s m args below meth c C H locs hW hz hS ls hls
  obtain ⟨l1, l2, l3, l4⟩ := lk
  have hts := C.2.2.2.2.2.1
  have hst' := stc (E := E) hst
  exact va_mmin C.1 C.2.1 (by rw [C.2.2.2.1]; exact hls.1.symm) C.2.2.2.2.1 (hts _ l1) (hts _ l2) (hts _ l3) (hts _ l4) hR.1 (by omega) (Nat.zero_le _) (Nat.zero_le _) hd (kk p e s m args below meth c C H locs hW hz hS ls hls)
end GOM
theorem ml_Siv_23 : MnL "NumberPlace$Sieve" 23 := ⟨w_in 465 (by decide +kernel) (by decide +kernel), w_in 466 (by decide +kernel) (by decide +kernel), w_in 21 (by decide +kernel) (by decide +kernel), w_in 467 (by decide +kernel) (by decide +kernel)⟩
theorem ml_Sol_109 : MnL "NumberPlace$Solver" 109 := ⟨w_in 576 (by decide +kernel) (by decide +kernel), w_in 466 (by decide +kernel) (by decide +kernel), w_in 21 (by decide +kernel) (by decide +kernel), w_in 467 (by decide +kernel) (by decide +kernel)⟩
