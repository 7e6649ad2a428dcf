/-! THE START: what the Statement gives, as the judgement wants it. -/
theorem inst_in : ∀ ci, ci < cls_L.length → Cond.instantiable (cT ci).1 (cT ci).2.2 ∈ lw_tbl := by decide +kernel
theorem exS {s : State} {args : Array Value} (hts : ∀ w ∈ lw_tbl, w.before args s = true) : ∃ D : va_G, ∀ ci, ci < cls_L.length → u_Kn s (cT ci).1 (cT ci).2.1 (cT ci).2.2 (D.1 ci) (D.2 ci) := by
  have h : ∀ ci : Nat, ∃ q : ClassId × (Nat → Nat), ci < cls_L.length → u_Kn s (cT ci).1 (cT ci).2.1 (cT ci).2.2 q.1 q.2 := by
    intro ci
    by_cases hc : ci < cls_L.length
    · obtain ⟨cC, iS, h⟩ := u_known (C := (cT ci).1) (T := (cT ci).2.1) (N := (cT ci).2.2) (n := (cT ci).2.2) hts (fun w hw => (List.mem_filter.mp (w_lays ci hc w hw)).1) (hts _ (inst_in ci hc))
      exact ⟨(cC, iS), fun _ => h⟩
    · exact ⟨(0, fun _ => 0), fun z => absurd z hc⟩
  exact ⟨(fun k => (Classical.choose (h k)).1, fun k => (Classical.choose (h k)).2), fun ci hc => Classical.choose_spec (h ci) hc⟩
theorem arrP {s : State} {args : Array Value} {ty : FieldType} (h : (Cond.arrayClass ty).before args s = true) : ∃ cA, ArrOfT s cA ty ∧ s.vm.findClass ("[" ++ ty.toString) = some cA := by
  obtain ⟨cA, kA, comp, h1, h2, h3⟩ := Cond.arrayClass_spec h
  exact ⟨cA, fun n z => ⟨(fun k h => by cases h), kA, h2, comp, h3⟩, h1⟩
theorem arrQ {s : State} {args : Array Value} {C : String} (h : (Cond.arrayOver (.object C)).before args s = true) : ∃ cA, ArrOfT s cA (.object C) ∧ va_RA s cA (.object C) := by
  obtain ⟨comp, cA, kA, h1, _, h3, h4, h5⟩ := Cond.arrayOver_spec h
  exact ⟨cA, fun n z => ⟨(fun k h => by cases h), kA, h3, comp, h4⟩, kA, comp, h3, h4, h1, h5⟩
theorem str_in : ∀ q ∈ strL, Cond.stringRef q.1 q.2.1 q.2.2 ∈ tables_1 ∧ Cond.exactly (.string q.1 q.2.1) "java/lang/String" ∈ flatC (Jvm.Cond.and given_1 narrow_1) := by decide +kernel
theorem nc_in : ∀ q ∈ ncL, Cond.not (.castable q.1 q.2) ∈ flatC (Jvm.Cond.and given_1 narrow_1) := by decide +kernel
theorem u_in : ∀ j, j < 18 → Cond.eq (.elem (.static "NumberPlace$Grid" "UNIT_CELLS" "[J") (.int (Int32.ofNat j))) (.long (uVal j)) ∈ flatC (Jvm.Cond.and given_1 narrow_1) := by decide +kernel
