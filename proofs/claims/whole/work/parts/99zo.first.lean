/-! the first state -/
theorem fl_6 (cI cJ cZ : ClassId) (sz : Nat) : wnN6 cI cJ cZ sz = [(sz, .inl (cI, a0Of .int 4)), ((sz + 1), .inl (cI, a0Of .int 4)), ((sz + 2), .inl (cI, a0Of .int 4))] := rfl
theorem fl_2 (cI cJ cZ : ClassId) (sz : Nat) : wnN2 cI cJ cZ sz = [(sz, .inl (cI, a0Of .int 4)), ((sz + 1), .inl (cI, a0Of .int 4)), ((sz + 2), .inl (cI, a0Of .int 5)), ((sz + 3), .inl (cI, a0Of .int 5)), ((sz + 4), .inl (cI, a0Of .int 5)), ((sz + 5), .inl (cI, a0Of .int 5)), ((sz + 6), .inl (cI, a0Of .int 20))] := rfl
theorem fl_9 (cI cJ cZ : ClassId) (sz : Nat) : wnN9 cI cJ cZ sz = [(sz, .inl (cI, a0Of .int 160))] := rfl
theorem fl_5 (cI cJ cZ : ClassId) (sz : Nat) : wnN5 cI cJ cZ sz = [(sz, .inl (cI, a0Of .int 1280)), ((sz + 1), .inl (cI, a0Of .int 8)), ((sz + 2), .inl (cI, a0Of .int 8)), ((sz + 3), .inl (cI, a0Of .int 7)), ((sz + 4), .inl (cI, a0Of .int 7))] := rfl
theorem fl_8 (cI cJ cZ : ClassId) (sz : Nat) : wnN8 cI cJ cZ sz = [(sz, .inl (cI, a0Of .int 4)), ((sz + 1), .inl (cI, a0Of .int 4)), ((sz + 2), .inl (cI, a0Of .int 4)), ((sz + 3), .inl (cI, a0Of .int 4))] := rfl
theorem fl_0 (cI cJ cZ : ClassId) (sz : Nat) : wnN0 cI cJ cZ sz = [(sz, .inl (cI, 4, .inl (fun _ => Int32.ofInt (-1)))), ((sz + 1), .inl (cI, a0Of .int 10)), ((sz + 2), .inl (cI, a0Of .int 10)), ((sz + 3), .inl (cI, a0Of .int 10)), ((sz + 4), .inl (cI, a0Of .int 160)), ((sz + 5), .inl (cI, a0Of .int 40)), ((sz + 6), .inl (cJ, a0Of .long 40))] := rfl
theorem fl_4 (cI cJ cZ : ClassId) (sz : Nat) : wnN4 cI cJ cZ sz = [(sz, .inl (cI, a0Of .int 160))] := rfl
theorem fl_7 (cI cJ cZ : ClassId) (sz : Nat) : wnN7 cI cJ cZ sz = [(sz, .inl (cI, a0Of .int 50)), ((sz + 1), .inr (6, [.ref (sz + 2), .int 0, .ref (sz + 3), .ref (sz + 4), .int 0])), ((sz + 2), .inl (cI, a0Of .int 4)), ((sz + 3), .inl (cI, a0Of .int 4)), ((sz + 4), .inl (cI, a0Of .int 4))] := by
  unfold wnN7
  rw [fl_6]
  rfl
theorem fl_1 (cI cJ cZ : ClassId) (sz : Nat) : wnN1 cI cJ cZ sz = [(sz, .inl (cI, a0Of .int 2500)), ((sz + 1), .inl (cI, a0Of .int 2500)), ((sz + 2), .inl (cI, a0Of .int 2500)), ((sz + 3), .inl (cI, a0Of .int 50)), ((sz + 4), .inl (cI, a0Of .int 50)), ((sz + 5), .inr (6, [.ref (sz + 6), .int 0, .ref (sz + 7), .ref (sz + 8), .int 0])), ((sz + 6), .inl (cI, a0Of .int 4)), ((sz + 7), .inl (cI, a0Of .int 4)), ((sz + 8), .inl (cI, a0Of .int 4)), ((sz + 9), .inr (6, [.ref (sz + 10), .int 0, .ref (sz + 11), .ref (sz + 12), .int 0])), ((sz + 10), .inl (cI, a0Of .int 4)), ((sz + 11), .inl (cI, a0Of .int 4)), ((sz + 12), .inl (cI, a0Of .int 4))] := by
  unfold wnN1
  rw [fl_6]
  rfl
theorem fl_10 (cI cJ cZ : ClassId) (sz : Nat) : wnN10 cI cJ cZ sz = [(sz, .inl (cI, a0Of .int 4)), ((sz + 1), .inl (cI, a0Of .int 4)), ((sz + 2), .inl (cI, a0Of .int 5)), ((sz + 3), .inl (cI, a0Of .int 5)), ((sz + 4), .inl (cI, a0Of .int 5)), ((sz + 5), .inl (cI, a0Of .int 4)), ((sz + 6), .inr (6, [.ref (sz + 7), .int 0, .ref (sz + 8), .ref (sz + 9), .int 0])), ((sz + 7), .inl (cI, a0Of .int 4)), ((sz + 8), .inl (cI, a0Of .int 4)), ((sz + 9), .inl (cI, a0Of .int 4))] := by
  unfold wnN10
  rw [fl_6]
  rfl
theorem fl_3 (cI cJ cZ : ClassId) (sz : Nat) : wnN3 cI cJ cZ sz = [(sz, .inr (2, [.int 0, .int 0, .int 0, .int 0, .int 0, .int 0, .int 0, .int 0, .ref (sz + 1), .ref (sz + 2), .ref (sz + 3), .ref (sz + 4), .ref (sz + 5), .ref (sz + 6), .ref (sz + 7)])), ((sz + 1), .inl (cI, a0Of .int 4)), ((sz + 2), .inl (cI, a0Of .int 4)), ((sz + 3), .inl (cI, a0Of .int 5)), ((sz + 4), .inl (cI, a0Of .int 5)), ((sz + 5), .inl (cI, a0Of .int 5)), ((sz + 6), .inl (cI, a0Of .int 5)), ((sz + 7), .inl (cI, a0Of .int 20)), ((sz + 8), .inl (cI, a0Of .int 4))] := by
  unfold wnN3
  rw [fl_2]
  rfl
set_option maxHeartbeats 4000000 in
theorem fl_11 (cI cJ cZ : ClassId) (sz : Nat) : wnN11 cI cJ cZ sz = [(sz, .inr (9, [.ref (sz + 1), .int 0, .int 0, .int (Int32.ofInt (-1))])), ((sz + 1), .inl (cI, a0Of .int 160)), ((sz + 2), .inr (3, [.ref sz, .ref (sz + 3), .ref (sz + 11)])), ((sz + 3), .inr (2, [.int 0, .int 0, .int 0, .int 0, .int 0, .int 0, .int 0, .int 0, .ref (sz + 4), .ref (sz + 5), .ref (sz + 6), .ref (sz + 7), .ref (sz + 8), .ref (sz + 9), .ref (sz + 10)])), ((sz + 4), .inl (cI, a0Of .int 4)), ((sz + 5), .inl (cI, a0Of .int 4)), ((sz + 6), .inl (cI, a0Of .int 5)), ((sz + 7), .inl (cI, a0Of .int 5)), ((sz + 8), .inl (cI, a0Of .int 5)), ((sz + 9), .inl (cI, a0Of .int 5)), ((sz + 10), .inl (cI, a0Of .int 20)), ((sz + 11), .inl (cI, a0Of .int 4)), ((sz + 12), .inr (4, [.ref sz, .ref (sz + 13), .int 0, .int 0, .int 0, .int 0])), ((sz + 13), .inl (cI, a0Of .int 160)), ((sz + 14), .inr (5, [.ref (sz + 15), .ref (sz + 16), .ref (sz + 17), .int 0, .ref (sz + 18), .ref (sz + 19)])), ((sz + 15), .inl (cI, a0Of .int 1280)), ((sz + 16), .inl (cI, a0Of .int 8)), ((sz + 17), .inl (cI, a0Of .int 8)), ((sz + 18), .inl (cI, a0Of .int 7)), ((sz + 19), .inl (cI, a0Of .int 7)), ((sz + 20), .inr (2, [.int 0, .int 0, .int 0, .int 0, .int 0, .int 0, .int 0, .int 0, .ref (sz + 21), .ref (sz + 22), .ref (sz + 23), .ref (sz + 24), .ref (sz + 25), .ref (sz + 26), .ref (sz + 27)])), ((sz + 21), .inl (cI, a0Of .int 4)), ((sz + 22), .inl (cI, a0Of .int 4)), ((sz + 23), .inl (cI, a0Of .int 5)), ((sz + 24), .inl (cI, a0Of .int 5)), ((sz + 25), .inl (cI, a0Of .int 5)), ((sz + 26), .inl (cI, a0Of .int 5)), ((sz + 27), .inl (cI, a0Of .int 20)), ((sz + 28), .inr (2, [.int 0, .int 0, .int 0, .int 0, .int 0, .int 0, .int 0, .int 0, .ref (sz + 29), .ref (sz + 30), .ref (sz + 31), .ref (sz + 32), .ref (sz + 33), .ref (sz + 34), .ref (sz + 35)])), ((sz + 29), .inl (cI, a0Of .int 4)), ((sz + 30), .inl (cI, a0Of .int 4)), ((sz + 31), .inl (cI, a0Of .int 5)), ((sz + 32), .inl (cI, a0Of .int 5)), ((sz + 33), .inl (cI, a0Of .int 5)), ((sz + 34), .inl (cI, a0Of .int 5)), ((sz + 35), .inl (cI, a0Of .int 20)), ((sz + 36), .inl (cI, a0Of .int 4)), ((sz + 37), .inl (cI, a0Of .int 5)), ((sz + 38), .inr (0, [.ref (sz + 39), .int 0, .ref (sz + 40), .ref (sz + 41), .ref (sz + 42), .int 0, .ref (sz + 43), .ref (sz + 44), .ref (sz + 45), .long 0])), ((sz + 39), .inl (cI, 4, .inl (fun _ => Int32.ofInt (-1)))), ((sz + 40), .inl (cI, a0Of .int 10)), ((sz + 41), .inl (cI, a0Of .int 10)), ((sz + 42), .inl (cI, a0Of .int 10)), ((sz + 43), .inl (cI, a0Of .int 160)), ((sz + 44), .inl (cI, a0Of .int 40)), ((sz + 45), .inl (cJ, a0Of .long 40)), ((sz + 46), .inr (0, [.ref (sz + 47), .int 0, .ref (sz + 48), .ref (sz + 49), .ref (sz + 50), .int 0, .ref (sz + 51), .ref (sz + 52), .ref (sz + 53), .long 0])), ((sz + 47), .inl (cI, 4, .inl (fun _ => Int32.ofInt (-1)))), ((sz + 48), .inl (cI, a0Of .int 10)), ((sz + 49), .inl (cI, a0Of .int 10)), ((sz + 50), .inl (cI, a0Of .int 10)), ((sz + 51), .inl (cI, a0Of .int 160)), ((sz + 52), .inl (cI, a0Of .int 40)), ((sz + 53), .inl (cJ, a0Of .long 40)), ((sz + 54), .inr (10, [.ref (sz + 14), .ref (sz + 20), .int (Int32.ofInt (1)), .ref (sz + 55), .ref (sz + 56), .ref (sz + 57), .ref (sz + 58), .ref (sz + 59), .ref (sz + 60), .ref (sz + 61)])), ((sz + 55), .inl (cI, a0Of .int 4)), ((sz + 56), .inl (cI, a0Of .int 4)), ((sz + 57), .inl (cI, a0Of .int 5)), ((sz + 58), .inl (cI, a0Of .int 5)), ((sz + 59), .inl (cI, a0Of .int 5)), ((sz + 60), .inl (cI, a0Of .int 4)), ((sz + 61), .inr (6, [.ref (sz + 62), .int 0, .ref (sz + 63), .ref (sz + 64), .int 0])), ((sz + 62), .inl (cI, a0Of .int 4)), ((sz + 63), .inl (cI, a0Of .int 4)), ((sz + 64), .inl (cI, a0Of .int 4)), ((sz + 65), .inr (8, [.int 0, .int 0, .int 0, .ref (sz + 66), .ref (sz + 67), .ref (sz + 68), .ref (sz + 69), .int 0, .int 0, .int 0, .int 0, .int 0, .int 0, .int 0])), ((sz + 66), .inl (cI, a0Of .int 4)), ((sz + 67), .inl (cI, a0Of .int 4)), ((sz + 68), .inl (cI, a0Of .int 4)), ((sz + 69), .inl (cI, a0Of .int 4)), ((sz + 70), .inr (7, [.ref (sz + 71), .ref (sz + 72)])), ((sz + 71), .inl (cI, a0Of .int 50)), ((sz + 72), .inr (6, [.ref (sz + 73), .int 0, .ref (sz + 74), .ref (sz + 75), .int 0])), ((sz + 73), .inl (cI, a0Of .int 4)), ((sz + 74), .inl (cI, a0Of .int 4)), ((sz + 75), .inl (cI, a0Of .int 4)), ((sz + 76), .inr (1, [.int 0, .int 0, .int 0, .ref (sz + 77), .ref (sz + 78), .ref (sz + 79), .ref (sz + 80), .ref (sz + 81), .ref (sz + 82), .ref (sz + 86), .int 0, .int 0, .int 0])), ((sz + 77), .inl (cI, a0Of .int 2500)), ((sz + 78), .inl (cI, a0Of .int 2500)), ((sz + 79), .inl (cI, a0Of .int 2500)), ((sz + 80), .inl (cI, a0Of .int 50)), ((sz + 81), .inl (cI, a0Of .int 50)), ((sz + 82), .inr (6, [.ref (sz + 83), .int 0, .ref (sz + 84), .ref (sz + 85), .int 0])), ((sz + 83), .inl (cI, a0Of .int 4)), ((sz + 84), .inl (cI, a0Of .int 4)), ((sz + 85), .inl (cI, a0Of .int 4)), ((sz + 86), .inr (6, [.ref (sz + 87), .int 0, .ref (sz + 88), .ref (sz + 89), .int 0])), ((sz + 87), .inl (cI, a0Of .int 4)), ((sz + 88), .inl (cI, a0Of .int 4)), ((sz + 89), .inl (cI, a0Of .int 4))] := by
  unfold wnN11
  simp only [fl_9, fl_3, fl_4, fl_5, fl_2, fl_0, fl_10, fl_8, fl_7, fl_1, List.nil_append, List.cons_append]
  rfl
def offL : List Nat := [91, 92, 93, 94, 95, 96, 97, 98, 99, 100, 101, 102, 103, 104, 105, 106, 107, 108, 109, 110, 111, 112, 113, 114, 115, 116, 117, 118, 119, 120, 121, 122, 123, 124, 125, 126, 127, 128, 129, 130, 0, 37, 38, 1, 2, 3, 12, 4, 5, 6, 7, 8, 9, 10, 11, 13, 14, 15, 16, 17, 18, 19, 20, 21, 22, 23, 24, 25, 26, 27, 28, 29, 30, 31, 32, 33, 34, 35, 36, 39, 40, 41, 42, 43, 44, 45, 46, 47, 48, 49, 50, 51, 52, 53, 54, 55, 56, 57, 58, 59, 60, 61, 62, 63, 64, 65, 66, 67, 68, 69, 70, 71, 72, 73, 74, 75, 76, 77, 78, 79, 80, 81, 82, 83, 84, 85, 86, 87, 88, 89, 90, 131]
def ad0 (B : Nat) (st : Nat → Nat) (c : Nat) : Nat := if c < 132 then B + offL.getD c 0 else st (c - 144)
def S0 (c : Nat) (j : Int) : Int := match c with
  | 9 => -1
  | 14 => -1
  | 80 => -1
  | 88 => -1
  | 43 => if j = 3 then -1 else 0
  | 95 => if j = 2 then 1 else 0
  | _ => 0
def w0 (D : va_G) (B : Nat) (st : Nat → Nat) (cI cJ cZ : ClassId) : Wd := (D, ad0 B st, cI, cJ, cZ, st)
theorem ad0_ok (D : va_G) (B : Nat) (st : Nat → Nat) (cI cJ cZ : ClassId) : adOk (w0 D B st cI cJ cZ) := by
  refine ⟨fun i j hi hj e => ?_, fun n hn => ?_⟩
  · have hi' : i < 132 := hi
    have hj' : j < 132 := hj
    have e1 : ad0 B st i = ad0 B st j := e
    unfold ad0 at e1
    rw [if_pos hi', if_pos hj'] at e1
    have e2 : offL.getD i 0 = offL.getD j 0 := by omega
    have key : ∀ i, i < 132 → ∀ j, j < 132 → offL.getD i 0 = offL.getD j 0 → i = j := by decide +kernel
    exact key i hi' j hj' e2
  · show ad0 B st (144 + n) = st n
    unfold ad0
    rw [if_neg (by omega), Nat.add_sub_cancel_left]
theorem ad0_far (D : va_G) (B : Nat) (st : Nat → Nat) (cI cJ cZ : ClassId) : ∀ i, i < nC → B ≤ (w0 D B st cI cJ cZ).2.1 i := fun i hi => by
  show B ≤ ad0 B st i
  unfold ad0
  rw [if_pos (show i < 132 from hi)]
  omega
theorem cnK_0 (t : Nat) : cnK t 0 := by
  unfold cnK
  split
  · rfl
  · rfl
  · trivial
  · exact Or.inl rfl
theorem cnC_0 (c : Nat) (j : Int) : cnC c j 0 := by
  unfold cnC
  split
  · exact fun k _ _ => cnK_0 k.1
  · exact cnK_0 0
  · exact cnK_0 1
  · exact cnK_0 3
  · trivial
theorem S0_z (c : Nat) (j : Int) (h : c ≠ 9 ∧ c ≠ 14 ∧ c ≠ 80 ∧ c ≠ 88 ∧ c ≠ 43 ∧ c ≠ 95) : S0 c j = 0 := by
  unfold S0
  split <;> first | rfl | (exfalso; omega)
theorem S0_can : Can S0 := by
  intro c j
  by_cases h9 : c = 9
  · subst h9
    show i32 (-1) = -1
    rfl
  by_cases h14 : c = 14
  · subst h14
    show i32 (-1) = -1
    rfl
  by_cases h80 : c = 80
  · subst h80
    show i32 (-1) = -1
    rfl
  by_cases h88 : c = 88
  · subst h88
    show i32 (-1) = -1
    rfl
  by_cases h43 : c = 43
  · subst h43
    by_cases hj : j = 3
    · subst hj
      intro k hk e
      have hk : k ∈ [(2, 44, 0, 0), (0, 0, 0, 1), (0, 0, 0, 2), (0, 0, 0, 3)] := hk
      simp only [List.mem_cons, List.not_mem_nil, or_false] at hk
      rcases hk with rfl | rfl | rfl | rfl
      all_goals first | (exact absurd e (by decide)) | rfl
    · show cnC 43 j (if j = 3 then -1 else 0)
      rw [if_neg hj]
      exact cnC_0 43 j
  by_cases hw : c = 95
  · subst hw
    by_cases hj : j = 2
    · subst hj
      intro k hk e
      have hk : k ∈ [(2, 57, 0, 0), (4, 63, 71, 1), (0, 0, 0, 2), (2, 96, 0, 3), (2, 97, 0, 4), (2, 98, 0, 5), (2, 99, 0, 6), (2, 100, 0, 7), (2, 101, 0, 8), (2, 102, 0, 9)] := hk
      simp only [List.mem_cons, List.not_mem_nil, or_false] at hk
      rcases hk with rfl | rfl | rfl | rfl | rfl | rfl | rfl | rfl | rfl | rfl
      all_goals first | (exact absurd e (by decide)) | rfl
    · show cnC 95 j (if j = 2 then 1 else 0)
      rw [if_neg hj]
      exact cnC_0 95 j
  rw [S0_z c j ⟨h9, h14, h80, h88, h43, hw⟩]
  exact cnC_0 c j
theorem S0_no {p : Int} (h0 : 0 ≤ p) (h1 : p < 0) : False := by omega
theorem S0_rel : Rel S0 S0 := by
  refine ⟨⟨⟨fun h => absurd rfl h, fun _ => ⟨rfl, rfl, rfl, rfl, rfl, rfl, rfl⟩, ⟨⟨Int.le_refl 0, (by decide : (0 : Int) ≤ 8)⟩, fun p h0 h1 => (S0_no h0 h1).elim⟩, ⟨⟨Int.le_refl 0, (by decide : (0 : Int) ≤ 160)⟩, fun p h0 h1 => (S0_no h0 h1).elim⟩, ⟨⟨Int.le_refl 0, (by decide : (0 : Int) ≤ 10)⟩, fun p h0 h1 => (S0_no h0 h1).elim⟩, ⟨⟨Int.le_refl 0, (by decide : (0 : Int) ≤ 40)⟩, fun p g h0 h1 => (S0_no h0 h1).elim⟩, fun h => absurd rfl h⟩, ⟨rfl, rfl⟩, ⟨⟨rfl, rfl⟩, fun h => absurd rfl h⟩, ⟨rfl, ⟨Int.le_refl 0, (by decide : (0 : Int) ≤ 8)⟩, fun p h0 h1 => (S0_no h0 h1).elim⟩, ⟨fun g _ _ => rfl, ⟨rfl, fun p h0 h1 => (S0_no h0 h1).elim⟩, ⟨rfl, fun p h0 h1 => (S0_no h0 h1).elim⟩, rfl⟩, ⟨rfl, fun h => absurd rfl h⟩⟩, ⟨Or.inl rfl, Or.inl rfl, Or.inl rfl⟩⟩
