/-! ldc of an int -/
theorem go_ldcI {l : Launch} {E : ET} {M : MT} {R : Room} {K : KT} {kc ks : Nat} {h : PH} {x : Nat} {pc : Nat} {lv : List (Nat × Value)} {st : List Value} {index : Nat} (v : Int32) (hd : decode M.2.1 pc = .ok (.ldc index, 2)) (hw : Cond.constant M.1.cls index v ∈ w_S) (k : Go l E M R K kc ks h x (pc + 2) lv (.int v :: st)) : Go l E M R K kc ks h x pc lv st := by
  intro p e s m args below meth c C H locs hW hz hS ls hls
  exact lv_ldc C.1 C.2.1 C.2.2.2.2.1 (C.2.2.2.2.2.1 _ hw) hd (k p e s m args below meth c C H locs hW hz hS ls hls)
theorem ki_Np_180 : Cond.constant "NumberPlace" 180 (999999) ∈ w_S := w_in 873 (by decide +kernel) (by decide +kernel)
theorem ki_Mo_244 : Cond.constant "NumberPlaceModel" 244 (999999) ∈ w_S := w_in 1180 (by decide +kernel) (by decide +kernel)
