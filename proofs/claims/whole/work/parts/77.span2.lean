/-! windows of a row, counted -/
def inI (x y t : Int) : Bool := decide (x ≤ t ∧ t ≤ y)
theorem cn_win1 {x y : Int} : ∀ (l : List Int) (m : Nat), (∀ i j : Nat, i ≤ j → j < l.length → l.getD i 0 ≤ l.getD j 0) → 1 ≤ m → m ≤ l.countP (inI x y) → ∃ i, i + m ≤ l.length ∧ x ≤ l.getD i 0 ∧ l.getD (i + m - 1) 0 ≤ y
  | [], m, _, h1, h2 => by rw [List.countP_nil] at h2; omega
  | a :: l, m, hs, h1, h2 => by
    have hs' : ∀ i j : Nat, i ≤ j → j < l.length → l.getD i 0 ≤ l.getD j 0 := fun i j hij hj => by
      have := hs (i + 1) (j + 1) (by omega) (by rw [List.length_cons]; omega)
      simpa using this
    rw [List.countP_cons] at h2
    by_cases z : inI x y a = true
    · rw [if_pos z] at h2
      have hz := of_decide_eq_true z
      by_cases u : m = 1
      · refine ⟨0, by rw [List.length_cons]; omega, by simpa using hz.1, ?_⟩
        rw [u]
        simpa using hz.2
      · obtain ⟨i, i1, i2, i3⟩ := cn_win1 (x := x) (y := y) l (m - 1) hs' (by omega) (by omega)
        refine ⟨0, by rw [List.length_cons]; omega, by simpa using hz.1, ?_⟩
        have h5 := hs' (m - 2) (i + (m - 1) - 1) (by omega) (by omega)
        rw [show 0 + m - 1 = (m - 2) + 1 by omega, List.getD_cons_succ]
        omega
    · rw [if_neg z] at h2
      obtain ⟨i, i1, i2, i3⟩ := cn_win1 (x := x) (y := y) l m hs' h1 (by omega)
      refine ⟨i + 1, by rw [List.length_cons]; omega, by simpa using i2, ?_⟩
      rw [show i + 1 + m - 1 = (i + m - 1) + 1 by omega, List.getD_cons_succ]
      exact i3
theorem cn_win2 {x y : Int} {l : List Int} {m i : Nat} (hs : ∀ i j : Nat, i ≤ j → j < l.length → l.getD i 0 ≤ l.getD j 0) (h1 : 1 ≤ m) (hi : i + m ≤ l.length) (hx : x ≤ l.getD i 0) (hy : l.getD (i + m - 1) 0 ≤ y) : m ≤ l.countP (inI x y) := by
  have hsub : ((l.drop i).take m).Sublist l := (List.take_sublist _ _).trans (List.drop_sublist _ _)
  have hlen : ((l.drop i).take m).length = m := by rw [List.length_take, List.length_drop]; omega
  have hall : ((l.drop i).take m).countP (inI x y) = ((l.drop i).take m).length := by
    rw [List.countP_eq_length]
    intro a ha
    obtain ⟨j, hj, rfl⟩ := List.mem_iff_getElem.mp ha
    rw [hlen] at hj
    have e : ((l.drop i).take m)[j] = l.getD (i + j) 0 := by
      rw [List.getElem_take, List.getElem_drop, List.getD_eq_getElem?_getD, List.getElem?_eq_getElem (by omega)]
      rfl
    rw [e]
    have a1 := hs i (i + j) (by omega) (by omega)
    have a2 := hs (i + j) (i + m - 1) (by omega) (by omega)
    exact decide_eq_true ⟨by omega, by omega⟩
  have := hsub.countP_le (p := inI x y)
  omega
/-- it opens: so many turn within a breath -/
theorem wm_cn {n : Nat} {b : Int} {l : List Int} (hn : 1 ≤ n) (hb : b < 1000000) (hs : ∀ i j : Nat, i ≤ j → j < l.length → l.getD i 0 ≤ l.getD j 0) : wmF n l l.length ≤ b ↔ ∃ x, n ≤ l.countP (inI x (x + b)) := by
  rw [wm_ex hb]
  constructor
  · rintro ⟨i, i1, i2, i3⟩
    refine ⟨l.getD (i + 1 - n) 0, cn_win2 (i := i + 1 - n) hs hn (by omega) (Int.le_refl _) ?_⟩
    rw [show i + 1 - n + n - 1 = i by omega]
    omega
  · rintro ⟨x, hx⟩
    obtain ⟨i, i1, i2, i3⟩ := cn_win1 l n hs hn hx
    refine ⟨i + n - 1, by omega, by omega, ?_⟩
    rw [show i + n - 1 + 1 - n = i by omega]
    omega
