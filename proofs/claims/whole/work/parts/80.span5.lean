/-! with one guard at u it opens: as the spans of the others say -/
theorem op_one {n : Nat} {b : Int} {t : Int → Int} {g u : Int} {k : Nat} (hn : 2 ≤ n) (hb : 0 ≤ b ∧ b ≤ 9) (hg : 0 ≤ g ∧ g < k) (hu : u ≤ 1000000) (ht : ∀ j : Int, 0 ≤ j → j < k → t j = 1000000 ∨ (-5000 ≤ t j ∧ t j ≤ 5000)) : apF n (fun j => if j = g then u else t j) k ≤ b ↔ opP n b (gaF t (fun j => decide (¬ j = g)) k) u := by
  rw [ap_row (t := fun j => if j = g then u else t j) (by omega) (fun j j0 j1 => by show (if j = g then u else t j) ≤ 1000000; have := ht j j0 j1; split <;> omega), show ((n : Int)).toNat = n from rfl, wm_cn (by omega) (by omega) (srtd_at _ (gaF_srtd _ _ _))]
  unfold opP
  refine exists_congr (fun x => ?_)
  rw [gaF_one]
  by_cases z : u < 1000000
  · simp only [hg, z, true_and, and_self]
  · have hu2 : u = 1000000 := by omega
    rw [if_neg (fun h => z h.2.1)]
    by_cases y : inI x (x + b) u = true
    · have hy := of_decide_eq_true y
      have h0 : (gaF t (fun j => decide (¬ j = g)) k).countP (inI x (x + b)) = 0 := by
        rw [List.countP_eq_zero]
        intro a ha h
        have h1 := of_decide_eq_true h
        obtain ⟨j, j1, j2, j3, j4⟩ := (gaF_mem k a).mp ha
        have := ht j (by omega) (by omega)
        omega
      rw [h0, if_pos y]
      omega
    · rw [if_neg y]
