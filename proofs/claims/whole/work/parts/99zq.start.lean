/-! what the start gives -/
theorem tb {w : Cond} (i : Nat) (h : lw_tbl[i]? = some w) : w ∈ lw_tbl := List.mem_of_getElem? h
section FST
variable {s : State} {args : Array Value}
theorem f_nl (hts : ∀ w ∈ lw_tbl, w.before args s = true) : ∀ q ∈ nlL, va_Nw (.methodLinkNest q.1 q.2.1 q.2.2 "FarKeys") s := by
  intro q hq
  simp only [nlL, List.mem_cons, List.not_mem_nil, or_false] at hq
  rcases hq with rfl | rfl | rfl | rfl | rfl | rfl | rfl | rfl | rfl | rfl | rfl
  · exact va_Nw.of rfl (hts _ (tb 110 (by decide +kernel)))
  · exact va_Nw.of rfl (hts _ (tb 143 (by decide +kernel)))
  · exact va_Nw.of rfl (hts _ (tb 265 (by decide +kernel)))
  · exact va_Nw.of rfl (hts _ (tb 290 (by decide +kernel)))
  · exact va_Nw.of rfl (hts _ (tb 293 (by decide +kernel)))
  · exact va_Nw.of rfl (hts _ (tb 343 (by decide +kernel)))
  · exact va_Nw.of rfl (hts _ (tb 418 (by decide +kernel)))
  · exact va_Nw.of rfl (hts _ (tb 480 (by decide +kernel)))
  · exact va_Nw.of rfl (hts _ (tb 485 (by decide +kernel)))
  · exact va_Nw.of rfl (hts _ (tb 495 (by decide +kernel)))
  · exact va_Nw.of rfl (hts _ (tb 500 (by decide +kernel)))
theorem f_sl (hts : ∀ w ∈ lw_tbl, w.before args s = true) : ∀ q ∈ slL, va_Nw (.fieldLinkNest (clN q.1) q.2.1 "FarKeys" (stN q.2.2.1).1 (stN q.2.2.1).2 "FarKeys") s := by
  intro q hq
  simp only [slL, List.mem_cons, List.not_mem_nil, or_false] at hq
  rcases hq with rfl | rfl | rfl | rfl | rfl
  · exact va_Nw.of rfl (hts _ (tb 622 (by decide +kernel)))
  · exact va_Nw.of rfl (hts _ (tb 644 (by decide +kernel)))
  · exact va_Nw.of rfl (hts _ (tb 662 (by decide +kernel)))
  · exact va_Nw.of rfl (hts _ (tb 664 (by decide +kernel)))
  · exact va_Nw.of rfl (hts _ (tb 660 (by decide +kernel)))
theorem f_nw (hts : ∀ w ∈ lw_tbl, w.before args s = true) : ∀ q ∈ nwL, va_Nw q s := by
  intro q hq
  have hq2 := hq
  simp only [nwL, List.mem_cons, List.not_mem_nil, or_false] at hq
  rcases hq with rfl | rfl | rfl | rfl
  · exact va_Nw.of rfl (hts _ (tb 1265 (by decide +kernel)))
  · exact va_Nw.of rfl (hts _ (tb 1267 (by decide +kernel)))
  · exact va_Nw.of rfl (hts _ (tb 1269 (by decide +kernel)))
  · exact va_Nw.of rfl (hts _ (tb 1271 (by decide +kernel)))
theorem f_kn (hts : ∀ w ∈ G, w.before args s = true) : ∃ D : va_G, ∀ c : Nat, c < 13 → u_Kn s (clE c).1 (clE c).2.1 (clE c).2.2 (D.1 c) (D.2 c) := by
  have hi : ∀ c, c < 13 → Cond.instantiable (clE c).1 (clE c).2.2 ∈ G := fun c h => by
    rcases (show c = 0 ∨ c = 1 ∨ c = 2 ∨ c = 3 ∨ c = 4 ∨ c = 5 ∨ c = 6 ∨ c = 7 ∨ c = 8 ∨ c = 9 ∨ c = 10 ∨ c = 11 ∨ c = 12 by omega) with rfl | rfl | rfl | rfl | rfl | rfl | rfl | rfl | rfl | rfl | rfl | rfl | rfl
    · exact ct_0
    · exact ct_1
    · exact ct_2
    · exact ct_3
    · exact ct_4
    · exact ct_5
    · exact ct_6
    · exact ct_7
    · exact ct_8
    · exact ct_9
    · exact ct_10
    · exact ct_11
    · exact ct_12
  have h0 : ∀ c : Nat, ∃ q : ClassId × (Nat → Nat), c < 13 → u_Kn s (clE c).1 (clE c).2.1 (clE c).2.2 q.1 q.2 := fun c => by
    by_cases h : c < 13
    · obtain ⟨cC, iS, k⟩ := u_known hts (uE c h) (hts _ (hi c h))
      exact ⟨(cC, iS), fun _ => k⟩
    · obtain ⟨cC, iS, k⟩ := u_known hts (uE 0 (by decide)) (hts _ (hi 0 (by decide)))
      exact ⟨(cC, iS), fun z => absurd z h⟩
  obtain ⟨f, hf⟩ := Classical.axiomOfChoice h0
  exact ⟨(fun c => (f c).1, fun c => (f c).2), hf⟩
theorem f_ar {ty : FieldType} (h : (Cond.arrayClass ty).before args s = true) : ∃ cA : ClassId, ArrOfT s cA ty ∧ s.vm.findClass ("[" ++ ty.toString) = some cA := by
  obtain ⟨cA, kA, comp, h1, h2, h3⟩ := Cond.arrayClass_spec h
  exact ⟨cA, fun n z => ⟨fun k h => (by cases h), kA, h2, comp, h3⟩, h1⟩
theorem f_st0 (hts : ∀ w ∈ lw_tbl, w.before args s = true) (hgv : (Jvm.Cond.and given_1 narrow_1).before args s = true) {A : Nat → Prop} (hA : ∀ a : Nat, a < s.heap.size → ¬ A a) : ∃ t : Nat, va_Z "FarKeys" "WITHOUT_ITEM" "[I" (.ref t) A s s.heap ∧ va_T .int t 16 (fun j => .int (Int32.ofInt (cst 0 j))) A s s.heap := by
  have hs := flat_of_before _ hgv
  obtain ⟨t, ht, hT⟩ := va_Tof (tm := (Term.static "FarKeys" "WITHOUT_ITEM" "[I")) (ty := .int) (N := 16) (f := fun j => .int (Int32.ofInt (cst 0 j))) (A := A) (by decide) (hs _ (by decide +kernel)) (va_eqt (z := 16) (hs _ (by decide +kernel))) (fun j hj => by
    rcases (show j = 0 ∨ j = 1 ∨ j = 2 ∨ j = 3 ∨ j = 4 ∨ j = 5 ∨ j = 6 ∨ j = 7 ∨ j = 8 ∨ j = 9 ∨ j = 10 ∨ j = 11 ∨ j = 12 ∨ j = 13 ∨ j = 14 ∨ j = 15 by omega) with rfl | rfl | rfl | rfl | rfl | rfl | rfl | rfl | rfl | rfl | rfl | rfl | rfl | rfl | rfl | rfl
    · exact va_eqt (t := .elem (Term.static "FarKeys" "WITHOUT_ITEM" "[I") (.int 0)) (z := 10) (hs _ (by decide +kernel))
    · exact va_eqt (t := .elem (Term.static "FarKeys" "WITHOUT_ITEM" "[I") (.int 1)) (z := 0) (hs _ (by decide +kernel))
    · exact va_eqt (t := .elem (Term.static "FarKeys" "WITHOUT_ITEM" "[I") (.int 2)) (z := 0) (hs _ (by decide +kernel))
    · exact va_eqt (t := .elem (Term.static "FarKeys" "WITHOUT_ITEM" "[I") (.int 3)) (z := 0) (hs _ (by decide +kernel))
    · exact va_eqt (t := .elem (Term.static "FarKeys" "WITHOUT_ITEM" "[I") (.int 4)) (z := 0) (hs _ (by decide +kernel))
    · exact va_eqt (t := .elem (Term.static "FarKeys" "WITHOUT_ITEM" "[I") (.int 5)) (z := 0) (hs _ (by decide +kernel))
    · exact va_eqt (t := .elem (Term.static "FarKeys" "WITHOUT_ITEM" "[I") (.int 6)) (z := -1) (hs _ (by decide +kernel))
    · exact va_eqt (t := .elem (Term.static "FarKeys" "WITHOUT_ITEM" "[I") (.int 7)) (z := 0) (hs _ (by decide +kernel))
    · exact va_eqt (t := .elem (Term.static "FarKeys" "WITHOUT_ITEM" "[I") (.int 8)) (z := 0) (hs _ (by decide +kernel))
    · exact va_eqt (t := .elem (Term.static "FarKeys" "WITHOUT_ITEM" "[I") (.int 9)) (z := 0) (hs _ (by decide +kernel))
    · exact va_eqt (t := .elem (Term.static "FarKeys" "WITHOUT_ITEM" "[I") (.int 10)) (z := 0) (hs _ (by decide +kernel))
    · exact va_eqt (t := .elem (Term.static "FarKeys" "WITHOUT_ITEM" "[I") (.int 11)) (z := 0) (hs _ (by decide +kernel))
    · exact va_eqt (t := .elem (Term.static "FarKeys" "WITHOUT_ITEM" "[I") (.int 12)) (z := 2) (hs _ (by decide +kernel))
    · exact va_eqt (t := .elem (Term.static "FarKeys" "WITHOUT_ITEM" "[I") (.int 13)) (z := 1) (hs _ (by decide +kernel))
    · exact va_eqt (t := .elem (Term.static "FarKeys" "WITHOUT_ITEM" "[I") (.int 14)) (z := 0) (hs _ (by decide +kernel))
    · exact va_eqt (t := .elem (Term.static "FarKeys" "WITHOUT_ITEM" "[I") (.int 15)) (z := 0) (hs _ (by decide +kernel))) hA
  exact ⟨t, va_Zof (hts _ (tb 623 (by decide +kernel))) (hts _ (tb 80 (by decide +kernel))) ht hA, hT⟩
theorem f_st1 (hts : ∀ w ∈ lw_tbl, w.before args s = true) (hgv : (Jvm.Cond.and given_1 narrow_1).before args s = true) {A : Nat → Prop} (hA : ∀ a : Nat, a < s.heap.size → ¬ A a) : ∃ t : Nat, va_Z "FarKeys" "ITEM_LETTERS" "[C" (.ref t) A s s.heap ∧ va_T .char t 16 (fun j => .int (Int32.ofInt (cst 1 j))) A s s.heap := by
  have hs := flat_of_before _ hgv
  obtain ⟨t, ht, hT⟩ := va_Tof (tm := (Term.static "FarKeys" "ITEM_LETTERS" "[C")) (ty := .char) (N := 16) (f := fun j => .int (Int32.ofInt (cst 1 j))) (A := A) (by decide) (hs _ (by decide +kernel)) (va_eqt (z := 16) (hs _ (by decide +kernel))) (fun j hj => by
    rcases (show j = 0 ∨ j = 1 ∨ j = 2 ∨ j = 3 ∨ j = 4 ∨ j = 5 ∨ j = 6 ∨ j = 7 ∨ j = 8 ∨ j = 9 ∨ j = 10 ∨ j = 11 ∨ j = 12 ∨ j = 13 ∨ j = 14 ∨ j = 15 by omega) with rfl | rfl | rfl | rfl | rfl | rfl | rfl | rfl | rfl | rfl | rfl | rfl | rfl | rfl | rfl | rfl
    · exact va_eqt (t := .elem (Term.static "FarKeys" "ITEM_LETTERS" "[C") (.int 0)) (z := 112) (hs _ (by decide +kernel))
    · exact va_eqt (t := .elem (Term.static "FarKeys" "ITEM_LETTERS" "[C") (.int 1)) (z := 116) (hs _ (by decide +kernel))
    · exact va_eqt (t := .elem (Term.static "FarKeys" "ITEM_LETTERS" "[C") (.int 2)) (z := 0) (hs _ (by decide +kernel))
    · exact va_eqt (t := .elem (Term.static "FarKeys" "ITEM_LETTERS" "[C") (.int 3)) (z := 0) (hs _ (by decide +kernel))
    · exact va_eqt (t := .elem (Term.static "FarKeys" "ITEM_LETTERS" "[C") (.int 4)) (z := 116) (hs _ (by decide +kernel))
    · exact va_eqt (t := .elem (Term.static "FarKeys" "ITEM_LETTERS" "[C") (.int 5)) (z := 101) (hs _ (by decide +kernel))
    · exact va_eqt (t := .elem (Term.static "FarKeys" "ITEM_LETTERS" "[C") (.int 6)) (z := 111) (hs _ (by decide +kernel))
    · exact va_eqt (t := .elem (Term.static "FarKeys" "ITEM_LETTERS" "[C") (.int 7)) (z := 118) (hs _ (by decide +kernel))
    · exact va_eqt (t := .elem (Term.static "FarKeys" "ITEM_LETTERS" "[C") (.int 8)) (z := 115) (hs _ (by decide +kernel))
    · exact va_eqt (t := .elem (Term.static "FarKeys" "ITEM_LETTERS" "[C") (.int 9)) (z := 103) (hs _ (by decide +kernel))
    · exact va_eqt (t := .elem (Term.static "FarKeys" "ITEM_LETTERS" "[C") (.int 10)) (z := 100) (hs _ (by decide +kernel))
    · exact va_eqt (t := .elem (Term.static "FarKeys" "ITEM_LETTERS" "[C") (.int 11)) (z := 0) (hs _ (by decide +kernel))
    · exact va_eqt (t := .elem (Term.static "FarKeys" "ITEM_LETTERS" "[C") (.int 12)) (z := 110) (hs _ (by decide +kernel))
    · exact va_eqt (t := .elem (Term.static "FarKeys" "ITEM_LETTERS" "[C") (.int 13)) (z := 119) (hs _ (by decide +kernel))
    · exact va_eqt (t := .elem (Term.static "FarKeys" "ITEM_LETTERS" "[C") (.int 14)) (z := 0) (hs _ (by decide +kernel))
    · exact va_eqt (t := .elem (Term.static "FarKeys" "ITEM_LETTERS" "[C") (.int 15)) (z := 0) (hs _ (by decide +kernel))) hA
  exact ⟨t, va_Zof (hts _ (tb 661 (by decide +kernel))) (hts _ (tb 80 (by decide +kernel))) ht hA, hT⟩
theorem f_st2 (hts : ∀ w ∈ lw_tbl, w.before args s = true) (hgv : (Jvm.Cond.and given_1 narrow_1).before args s = true) {A : Nat → Prop} (hA : ∀ a : Nat, a < s.heap.size → ¬ A a) : ∃ t : Nat, va_Z "FarKeys" "LEAST_OF_ITEM" "[I" (.ref t) A s s.heap ∧ va_T .int t 16 (fun j => .int (Int32.ofInt (cst 2 j))) A s s.heap := by
  have hs := flat_of_before _ hgv
  obtain ⟨t, ht, hT⟩ := va_Tof (tm := (Term.static "FarKeys" "LEAST_OF_ITEM" "[I")) (ty := .int) (N := 16) (f := fun j => .int (Int32.ofInt (cst 2 j))) (A := A) (by decide) (hs _ (by decide +kernel)) (va_eqt (z := 16) (hs _ (by decide +kernel))) (fun j hj => by
    rcases (show j = 0 ∨ j = 1 ∨ j = 2 ∨ j = 3 ∨ j = 4 ∨ j = 5 ∨ j = 6 ∨ j = 7 ∨ j = 8 ∨ j = 9 ∨ j = 10 ∨ j = 11 ∨ j = 12 ∨ j = 13 ∨ j = 14 ∨ j = 15 by omega) with rfl | rfl | rfl | rfl | rfl | rfl | rfl | rfl | rfl | rfl | rfl | rfl | rfl | rfl | rfl | rfl
    · exact va_eqt (t := .elem (Term.static "FarKeys" "LEAST_OF_ITEM" "[I") (.int 0)) (z := 0) (hs _ (by decide +kernel))
    · exact va_eqt (t := .elem (Term.static "FarKeys" "LEAST_OF_ITEM" "[I") (.int 1)) (z := 0) (hs _ (by decide +kernel))
    · exact va_eqt (t := .elem (Term.static "FarKeys" "LEAST_OF_ITEM" "[I") (.int 2)) (z := 0) (hs _ (by decide +kernel))
    · exact va_eqt (t := .elem (Term.static "FarKeys" "LEAST_OF_ITEM" "[I") (.int 3)) (z := 0) (hs _ (by decide +kernel))
    · exact va_eqt (t := .elem (Term.static "FarKeys" "LEAST_OF_ITEM" "[I") (.int 4)) (z := 0) (hs _ (by decide +kernel))
    · exact va_eqt (t := .elem (Term.static "FarKeys" "LEAST_OF_ITEM" "[I") (.int 5)) (z := 0) (hs _ (by decide +kernel))
    · exact va_eqt (t := .elem (Term.static "FarKeys" "LEAST_OF_ITEM" "[I") (.int 6)) (z := 0) (hs _ (by decide +kernel))
    · exact va_eqt (t := .elem (Term.static "FarKeys" "LEAST_OF_ITEM" "[I") (.int 7)) (z := 0) (hs _ (by decide +kernel))
    · exact va_eqt (t := .elem (Term.static "FarKeys" "LEAST_OF_ITEM" "[I") (.int 8)) (z := 0) (hs _ (by decide +kernel))
    · exact va_eqt (t := .elem (Term.static "FarKeys" "LEAST_OF_ITEM" "[I") (.int 9)) (z := 0) (hs _ (by decide +kernel))
    · exact va_eqt (t := .elem (Term.static "FarKeys" "LEAST_OF_ITEM" "[I") (.int 10)) (z := 0) (hs _ (by decide +kernel))
    · exact va_eqt (t := .elem (Term.static "FarKeys" "LEAST_OF_ITEM" "[I") (.int 11)) (z := 0) (hs _ (by decide +kernel))
    · exact va_eqt (t := .elem (Term.static "FarKeys" "LEAST_OF_ITEM" "[I") (.int 12)) (z := 2) (hs _ (by decide +kernel))
    · exact va_eqt (t := .elem (Term.static "FarKeys" "LEAST_OF_ITEM" "[I") (.int 13)) (z := 0) (hs _ (by decide +kernel))
    · exact va_eqt (t := .elem (Term.static "FarKeys" "LEAST_OF_ITEM" "[I") (.int 14)) (z := 0) (hs _ (by decide +kernel))
    · exact va_eqt (t := .elem (Term.static "FarKeys" "LEAST_OF_ITEM" "[I") (.int 15)) (z := 0) (hs _ (by decide +kernel))) hA
  exact ⟨t, va_Zof (hts _ (tb 663 (by decide +kernel))) (hts _ (tb 80 (by decide +kernel))) ht hA, hT⟩
theorem f_st3 (hts : ∀ w ∈ lw_tbl, w.before args s = true) (hgv : (Jvm.Cond.and given_1 narrow_1).before args s = true) {A : Nat → Prop} (hA : ∀ a : Nat, a < s.heap.size → ¬ A a) : ∃ t : Nat, va_Z "FarKeys" "MOST_OF_ITEM" "[I" (.ref t) A s s.heap ∧ va_T .int t 16 (fun j => .int (Int32.ofInt (cst 3 j))) A s s.heap := by
  have hs := flat_of_before _ hgv
  obtain ⟨t, ht, hT⟩ := va_Tof (tm := (Term.static "FarKeys" "MOST_OF_ITEM" "[I")) (ty := .int) (N := 16) (f := fun j => .int (Int32.ofInt (cst 3 j))) (A := A) (by decide) (hs _ (by decide +kernel)) (va_eqt (z := 16) (hs _ (by decide +kernel))) (fun j hj => by
    rcases (show j = 0 ∨ j = 1 ∨ j = 2 ∨ j = 3 ∨ j = 4 ∨ j = 5 ∨ j = 6 ∨ j = 7 ∨ j = 8 ∨ j = 9 ∨ j = 10 ∨ j = 11 ∨ j = 12 ∨ j = 13 ∨ j = 14 ∨ j = 15 by omega) with rfl | rfl | rfl | rfl | rfl | rfl | rfl | rfl | rfl | rfl | rfl | rfl | rfl | rfl | rfl | rfl
    · exact va_eqt (t := .elem (Term.static "FarKeys" "MOST_OF_ITEM" "[I") (.int 0)) (z := 99) (hs _ (by decide +kernel))
    · exact va_eqt (t := .elem (Term.static "FarKeys" "MOST_OF_ITEM" "[I") (.int 1)) (z := 99) (hs _ (by decide +kernel))
    · exact va_eqt (t := .elem (Term.static "FarKeys" "MOST_OF_ITEM" "[I") (.int 2)) (z := 0) (hs _ (by decide +kernel))
    · exact va_eqt (t := .elem (Term.static "FarKeys" "MOST_OF_ITEM" "[I") (.int 3)) (z := 0) (hs _ (by decide +kernel))
    · exact va_eqt (t := .elem (Term.static "FarKeys" "MOST_OF_ITEM" "[I") (.int 4)) (z := 59) (hs _ (by decide +kernel))
    · exact va_eqt (t := .elem (Term.static "FarKeys" "MOST_OF_ITEM" "[I") (.int 5)) (z := 3) (hs _ (by decide +kernel))
    · exact va_eqt (t := .elem (Term.static "FarKeys" "MOST_OF_ITEM" "[I") (.int 6)) (z := 0) (hs _ (by decide +kernel))
    · exact va_eqt (t := .elem (Term.static "FarKeys" "MOST_OF_ITEM" "[I") (.int 7)) (z := 3) (hs _ (by decide +kernel))
    · exact va_eqt (t := .elem (Term.static "FarKeys" "MOST_OF_ITEM" "[I") (.int 8)) (z := 4) (hs _ (by decide +kernel))
    · exact va_eqt (t := .elem (Term.static "FarKeys" "MOST_OF_ITEM" "[I") (.int 9)) (z := 3) (hs _ (by decide +kernel))
    · exact va_eqt (t := .elem (Term.static "FarKeys" "MOST_OF_ITEM" "[I") (.int 10)) (z := 9) (hs _ (by decide +kernel))
    · exact va_eqt (t := .elem (Term.static "FarKeys" "MOST_OF_ITEM" "[I") (.int 11)) (z := 0) (hs _ (by decide +kernel))
    · exact va_eqt (t := .elem (Term.static "FarKeys" "MOST_OF_ITEM" "[I") (.int 12)) (z := 4) (hs _ (by decide +kernel))
    · exact va_eqt (t := .elem (Term.static "FarKeys" "MOST_OF_ITEM" "[I") (.int 13)) (z := 9) (hs _ (by decide +kernel))
    · exact va_eqt (t := .elem (Term.static "FarKeys" "MOST_OF_ITEM" "[I") (.int 14)) (z := 0) (hs _ (by decide +kernel))
    · exact va_eqt (t := .elem (Term.static "FarKeys" "MOST_OF_ITEM" "[I") (.int 15)) (z := 0) (hs _ (by decide +kernel))) hA
  exact ⟨t, va_Zof (hts _ (tb 665 (by decide +kernel))) (hts _ (tb 80 (by decide +kernel))) ht hA, hT⟩
theorem f_kt (hts : ∀ w ∈ lw_tbl, w.before args s = true) (hgv : (Jvm.Cond.and given_1 narrow_1).before args s = true) (w : Wd) {cur : ClassId} (hc : s.vm.findClass "FarKeys" = some cur) (hA : ∀ a : Nat, a < s.heap.size → ¬ inA w a) : ∃ sa : Nat, Kt w sa s := by
  have hs := flat_of_before _ hgv
  have h1 := hts _ (tb 1302 (w := .stringRef "FarKeys" 125 "no such SIGN, no such what") (by decide +kernel))
  obtain ⟨k, cf, i, sa, -, -, -, -, -, hev⟩ := Cond.stringRef_spec hc h1
  exact ⟨sa, vx_Zqof (hts _ (tb 1290 (by decide +kernel))) (hts _ (tb 94 (by decide +kernel))) (hs _ (by decide +kernel)) hA, vx_Zqof (hts _ (tb 1292 (by decide +kernel))) (hts _ (tb 94 (by decide +kernel))) (hs _ (by decide +kernel)) hA, vk_R.of h1 hev, f_nw hts⟩
end FST
