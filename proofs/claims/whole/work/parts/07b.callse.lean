/-! Calls whose answer and heap are told exactly. -/
section GOE
variable {l : Launch} {E : ET} {M Mc : MT} {R : Room} {K : KT} {kc ks : Nat} {h h1 : PH} {x : Nat} {pc : Nat} {lv : List (Nat × Value)} {st st0 : List Value} {d' n idx b : Nat} {As : List Value} {bn : Bool}
theorem go_callV_I {r : Int32} {ci : Nat} (hf : Fn l E Mc d' 0 0 (.ref b :: As) h x (PoE (some (.int r)) h1 x)) (lk : LkV bn M.1.cls idx Mc n) (hs : st0 = As.reverse ++ .ref b :: st) (hn : As.length = n) (hb : cK h b ci = some ()) (hci : ci < cls_L.length) (hcc : (cT ci).1 = Mc.1.cls) (hR : d' + 1 ≤ R.frames ∧ 60 * d' + 60 ≤ R.locals) (hst : (st.map fun v => v.category).sum ≤ 8) (hcell : kc + 0 ≤ R.cells ∧ ks + 0 ≤ R.slots) (hd : decode M.2.1 pc = .ok (.invokevirtual idx, 3))
    (kk : Go l E M R K kc ks h1 x (pc + 3) lv (.int r :: st)) : Go l E M R K kc ks h x pc lv st0 :=
  go_callV hf lk hs hn hb hci hcc hR hst hcell hd (fun v' h' x' q => by
    obtain ⟨q1, q2, q3⟩ := q
    subst q1; subst q2; subst q3
    exact kk)
theorem go_callV_L {r : Int64} {ci : Nat} (hf : Fn l E Mc d' 0 0 (.ref b :: As) h x (PoE (some (.long r)) h1 x)) (lk : LkV bn M.1.cls idx Mc n) (hs : st0 = As.reverse ++ .ref b :: st) (hn : As.length = n) (hb : cK h b ci = some ()) (hci : ci < cls_L.length) (hcc : (cT ci).1 = Mc.1.cls) (hR : d' + 1 ≤ R.frames ∧ 60 * d' + 60 ≤ R.locals) (hst : (st.map fun v => v.category).sum ≤ 8) (hcell : kc + 0 ≤ R.cells ∧ ks + 0 ≤ R.slots) (hd : decode M.2.1 pc = .ok (.invokevirtual idx, 3))
    (kk : Go l E M R K kc ks h1 x (pc + 3) lv (.long r :: st)) : Go l E M R K kc ks h x pc lv st0 :=
  go_callV hf lk hs hn hb hci hcc hR hst hcell hd (fun v' h' x' q => by
    obtain ⟨q1, q2, q3⟩ := q
    subst q1; subst q2; subst q3
    exact kk)
theorem go_callV_N {ci : Nat} (hf : Fn l E Mc d' 0 0 (.ref b :: As) h x (PoE none h1 x)) (lk : LkV bn M.1.cls idx Mc n) (hs : st0 = As.reverse ++ .ref b :: st) (hn : As.length = n) (hb : cK h b ci = some ()) (hci : ci < cls_L.length) (hcc : (cT ci).1 = Mc.1.cls) (hR : d' + 1 ≤ R.frames ∧ 60 * d' + 60 ≤ R.locals) (hst : (st.map fun v => v.category).sum ≤ 8) (hcell : kc + 0 ≤ R.cells ∧ ks + 0 ≤ R.slots) (hd : decode M.2.1 pc = .ok (.invokevirtual idx, 3))
    (kk : Go l E M R K kc ks h1 x (pc + 3) lv (st)) : Go l E M R K kc ks h x pc lv st0 :=
  go_callV hf lk hs hn hb hci hcc hR hst hcell hd (fun v' h' x' q => by
    obtain ⟨q1, q2, q3⟩ := q
    subst q1; subst q2; subst q3
    exact kk)
theorem go_callS_I {r : Int32} (hf : Fn l E Mc d' 0 0 (As) h x (PoE (some (.int r)) h1 x)) (lk : LkS bn M.1.cls idx Mc n) (hs : st0 = As.reverse ++ st) (hn : As.length = n) (hR : d' + 1 ≤ R.frames ∧ 60 * d' + 60 ≤ R.locals) (hst : (st.map fun v => v.category).sum ≤ 8) (hcell : kc + 0 ≤ R.cells ∧ ks + 0 ≤ R.slots) (hd : decode M.2.1 pc = .ok (.invokestatic idx, 3))
    (kk : Go l E M R K kc ks h1 x (pc + 3) lv (.int r :: st)) : Go l E M R K kc ks h x pc lv st0 :=
  go_callS hf lk hs hn hR hst hcell hd (fun v' h' x' q => by
    obtain ⟨q1, q2, q3⟩ := q
    subst q1; subst q2; subst q3
    exact kk)
theorem go_callS_L {r : Int64} (hf : Fn l E Mc d' 0 0 (As) h x (PoE (some (.long r)) h1 x)) (lk : LkS bn M.1.cls idx Mc n) (hs : st0 = As.reverse ++ st) (hn : As.length = n) (hR : d' + 1 ≤ R.frames ∧ 60 * d' + 60 ≤ R.locals) (hst : (st.map fun v => v.category).sum ≤ 8) (hcell : kc + 0 ≤ R.cells ∧ ks + 0 ≤ R.slots) (hd : decode M.2.1 pc = .ok (.invokestatic idx, 3))
    (kk : Go l E M R K kc ks h1 x (pc + 3) lv (.long r :: st)) : Go l E M R K kc ks h x pc lv st0 :=
  go_callS hf lk hs hn hR hst hcell hd (fun v' h' x' q => by
    obtain ⟨q1, q2, q3⟩ := q
    subst q1; subst q2; subst q3
    exact kk)
theorem go_callS_N (hf : Fn l E Mc d' 0 0 (As) h x (PoE none h1 x)) (lk : LkS bn M.1.cls idx Mc n) (hs : st0 = As.reverse ++ st) (hn : As.length = n) (hR : d' + 1 ≤ R.frames ∧ 60 * d' + 60 ≤ R.locals) (hst : (st.map fun v => v.category).sum ≤ 8) (hcell : kc + 0 ≤ R.cells ∧ ks + 0 ≤ R.slots) (hd : decode M.2.1 pc = .ok (.invokestatic idx, 3))
    (kk : Go l E M R K kc ks h1 x (pc + 3) lv (st)) : Go l E M R K kc ks h x pc lv st0 :=
  go_callS hf lk hs hn hR hst hcell hd (fun v' h' x' q => by
    obtain ⟨q1, q2, q3⟩ := q
    subst q1; subst q2; subst q3
    exact kk)
theorem go_callI_I {r : Int32} (hf : Fn l E Mc d' 0 0 (.ref b :: As) h x (PoE (some (.int r)) h1 x)) (lk : LkI bn M.1.cls idx Mc n) (hs : st0 = As.reverse ++ .ref b :: st) (hn : As.length = n) (hR : d' + 1 ≤ R.frames ∧ 60 * d' + 60 ≤ R.locals) (hst : (st.map fun v => v.category).sum ≤ 8) (hcell : kc + 0 ≤ R.cells ∧ ks + 0 ≤ R.slots) (hd : decode M.2.1 pc = .ok (.invokespecial idx, 3))
    (kk : Go l E M R K kc ks h1 x (pc + 3) lv (.int r :: st)) : Go l E M R K kc ks h x pc lv st0 :=
  go_callI hf lk hs hn hR hst hcell hd (fun v' h' x' q => by
    obtain ⟨q1, q2, q3⟩ := q
    subst q1; subst q2; subst q3
    exact kk)
theorem go_callI_L {r : Int64} (hf : Fn l E Mc d' 0 0 (.ref b :: As) h x (PoE (some (.long r)) h1 x)) (lk : LkI bn M.1.cls idx Mc n) (hs : st0 = As.reverse ++ .ref b :: st) (hn : As.length = n) (hR : d' + 1 ≤ R.frames ∧ 60 * d' + 60 ≤ R.locals) (hst : (st.map fun v => v.category).sum ≤ 8) (hcell : kc + 0 ≤ R.cells ∧ ks + 0 ≤ R.slots) (hd : decode M.2.1 pc = .ok (.invokespecial idx, 3))
    (kk : Go l E M R K kc ks h1 x (pc + 3) lv (.long r :: st)) : Go l E M R K kc ks h x pc lv st0 :=
  go_callI hf lk hs hn hR hst hcell hd (fun v' h' x' q => by
    obtain ⟨q1, q2, q3⟩ := q
    subst q1; subst q2; subst q3
    exact kk)
theorem go_callI_N (hf : Fn l E Mc d' 0 0 (.ref b :: As) h x (PoE none h1 x)) (lk : LkI bn M.1.cls idx Mc n) (hs : st0 = As.reverse ++ .ref b :: st) (hn : As.length = n) (hR : d' + 1 ≤ R.frames ∧ 60 * d' + 60 ≤ R.locals) (hst : (st.map fun v => v.category).sum ≤ 8) (hcell : kc + 0 ≤ R.cells ∧ ks + 0 ≤ R.slots) (hd : decode M.2.1 pc = .ok (.invokespecial idx, 3))
    (kk : Go l E M R K kc ks h1 x (pc + 3) lv (st)) : Go l E M R K kc ks h x pc lv st0 :=
  go_callI hf lk hs hn hR hst hcell hd (fun v' h' x' q => by
    obtain ⟨q1, q2, q3⟩ := q
    subst q1; subst q2; subst q3
    exact kk)
end GOE
