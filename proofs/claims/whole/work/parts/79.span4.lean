/-! the gathered rows, counted -/
theorem srtd_at : ∀ (l : List Int), srtd l → ∀ i j : Nat, i ≤ j → j < l.length → l.getD i 0 ≤ l.getD j 0
  | [], _, i, j, _, hj => absurd hj (by simp)
  | a :: l, h, 0, 0, _, _ => Int.le_refl _
  | a :: l, h, 0, j + 1, _, hj => by
    rw [List.getD_cons_succ, List.getD_cons_zero]
    refine h.1 _ ?_
    rw [List.length_cons] at hj
    rw [List.getD_eq_getElem?_getD, List.getElem?_eq_getElem (by omega)]
    exact List.getElem_mem _
  | a :: l, h, i + 1, 0, hij, _ => absurd hij (by omega)
  | a :: l, h, i + 1, j + 1, hij, hj => by
    rw [List.getD_cons_succ, List.getD_cons_succ]
    rw [List.length_cons] at hj
    exact srtd_at l h.2 i j (by omega) (by omega)
theorem ins_cn (q : Int → Bool) (x : Int) : ∀ l : List Int, (ins x l).countP q = l.countP q + (if q x = true then 1 else 0)
  | [] => by rw [ins, List.countP_cons]
  | y :: l => by
    rw [ins]
    split
    · rw [List.countP_cons]
    · rw [List.countP_cons, ins_cn q x l, List.countP_cons]
      omega
theorem gaF_cn (q : Int → Bool) (t : Int → Int) (p : Int → Bool) (k : Nat) : (gaF t p (k + 1)).countP q = (gaF t p k).countP q + (if (p k = true ∧ t k < 1000000) ∧ q (t k) = true then 1 else 0) := by
  rw [gaF]
  by_cases z : p k = true ∧ t k < 1000000
  · rw [if_pos z, ins_cn]
    simp [z]
  · rw [if_neg z, if_neg (fun h => z h.1)]
    rfl
/-- with guard g at u, counted -/
theorem gaF_one {q : Int → Bool} {t : Int → Int} {g u : Int} : ∀ k : Nat, (gaF (fun j => if j = g then u else t j) (fun _ => true) k).countP q = (gaF t (fun j => decide (¬ j = g)) k).countP q + (if (0 ≤ g ∧ g < k) ∧ u < 1000000 ∧ q u = true then 1 else 0)
  | 0 => by
    rw [if_neg (by omega)]
    rfl
  | k + 1 => by
    rw [gaF_cn, gaF_cn, gaF_one k]
    by_cases z : (k : Int) = g
    · have h1 : ¬ (0 ≤ g ∧ g < (k : Int)) := by omega
      have h2 : 0 ≤ g ∧ g < ((k + 1 : Nat) : Int) := by omega
      have h3 : decide (¬ (k : Int) = g) = false := decide_eq_false (fun h => h z)
      simp only [h1, h2, h3, if_pos z]
      simp
      intro h4
      omega
    · have h1 : (0 ≤ g ∧ g < (k : Int)) ↔ (0 ≤ g ∧ g < ((k + 1 : Nat) : Int)) := by omega
      have h2 : decide (¬ (k : Int) = g) = true := decide_eq_true z
      simp only [if_neg z, h1, h2]
      omega
