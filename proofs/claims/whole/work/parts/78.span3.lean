/-! spans and windows -/
/-- with one more at t, so many turn within a breath -/
def opP (n : Nat) (b : Int) (l : List Int) (t : Int) : Prop := ∃ x, n ≤ l.countP (inI x (x + b)) + (if inI x (x + b) t = true then 1 else 0)
theorem wn_op {n : Nat} {b : Int} {l : List Int} (hn : 2 ≤ n) (hs : ∀ i j : Nat, i ≤ j → j < l.length → l.getD i 0 ≤ l.getD j 0) (t : Int) (hno : ¬ ∃ x, n ≤ l.countP (inI x (x + b))) : wnP n b l (l.length + 2 - n) t ↔ opP n b l t := by
  constructor
  · rintro ⟨i, i1, i2, i3, i4⟩
    refine ⟨min (l.getD i 0) t, ?_⟩
    have h1 := cn_win2 (x := min (l.getD i 0) t) (y := min (l.getD i 0) t + b) (m := n - 1) (i := i) hs (by omega) (by omega) (by omega) (by rw [show i + (n - 1) - 1 = i + n - 2 by omega]; omega)
    have hb : 0 ≤ b := by
      have := hs i (i + n - 2) (by omega) (by omega)
      omega
    have h2 : inI (min (l.getD i 0) t) (min (l.getD i 0) t + b) t = true := decide_eq_true ⟨by omega, by omega⟩
    rw [if_pos h2]
    omega
  · rintro ⟨x, hx⟩
    by_cases z : inI x (x + b) t = true
    · rw [if_pos z] at hx
      have hz := of_decide_eq_true z
      obtain ⟨i, i1, i2, i3⟩ := cn_win1 (x := x) (y := x + b) l (n - 1) hs (by omega) (by omega)
      rw [show i + (n - 1) - 1 = i + n - 2 by omega] at i3
      exact ⟨i, by omega, by omega, by omega, by omega⟩
    · rw [if_neg z] at hx
      exact absurd ⟨x, hx⟩ hno
theorem sp_op {n : Nat} {b : Int} {l : List Int} (hn : 2 ≤ n) (hb : 0 ≤ b ∧ b ≤ 9) (hs : ∀ i j : Nat, i ≤ j → j < l.length → l.getD i 0 ≤ l.getD j 0) (hm : ∀ i : Nat, i < l.length → -5000 ≤ l.getD i 0 ∧ l.getD i 0 ≤ 5000) (t : Int) (ht : -2000000 ≤ t ∧ t ≤ 4000000) : (opP n b l t → cvL (spL n b l) t = 1) ∧ (¬ opP n b l t → cvL (spL n b l) t = 0) := by
  have hw := wm_cn (n := n) (b := b) (by omega) (by omega) hs
  unfold spL
  by_cases z : wmF n l l.length ≤ b
  · rw [if_pos z]
    have h1 : cvL [((-2000000 : Int), (4000000 : Int))] t = 1 := by
      rw [cvL, cvL, inB_t (show (-2000000 : Int) ≤ t ∧ t ≤ 4000000 from ht)]
      rfl
    refine ⟨fun _ => h1, fun q => absurd ?_ q⟩
    obtain ⟨x, hx⟩ := hw.mp z
    exact ⟨x, by omega⟩
  · rw [if_neg z]
    have hno : ¬ ∃ x, n ≤ l.countP (inI x (x + b)) := fun q => z (hw.mpr q)
    have e := wn_op hn hs t hno
    by_cases y : n ≤ l.length + 2
    · obtain ⟨⟨h1, h2⟩, _⟩ := sp_cov hn hb hs hm t (l.length + 2 - n) (by omega)
      exact ⟨fun q => h1 (e.mpr q), fun q => h2 (fun r => q (e.mp r))⟩
    · rw [show l.length + 2 - n = 0 by omega] at e ⊢
      refine ⟨fun q => ?_, fun _ => rfl⟩
      obtain ⟨i, i1, _⟩ := e.mpr q
      exact absurd i1 (by omega)
