/-! rows of turns -/
/-- a row holds these parts -/
def rwI (c t : Nat) (S : St) (l : List Int) : Prop := S c 1 = l.length ∧ ∀ j : Nat, j < l.length → S t j = l.getD j 0
theorem rwI_fr {c t : Nat} {S S' : St} {l : List Int} (h : rwI c t S l) (h1 : S' c 1 = S c 1) (h2 : S' t = S t) : rwI c t S' l := ⟨by rw [h1]; exact h.1, fun j hj => by rw [h2]; exact h.2 j hj⟩
/-- the turns of those that p names, rising, without those that never turn -/
def gaF (t : Int → Int) (p : Int → Bool) : Nat → List Int
  | 0 => []
  | k + 1 => if p k = true ∧ t k < 1000000 then ins (t k) (gaF t p k) else gaF t p k
theorem gaF_len (t : Int → Int) (p : Int → Bool) : ∀ k, (gaF t p k).length ≤ k
  | 0 => Nat.le_refl 0
  | k + 1 => by
    have := gaF_len t p k
    rw [gaF]
    split
    · rw [ins_len]; omega
    · omega
theorem gaF_srtd (t : Int → Int) (p : Int → Bool) : ∀ k, srtd (gaF t p k)
  | 0 => trivial
  | k + 1 => by
    rw [gaF]
    split
    · exact ins_srtd _ _ (gaF_srtd t p k)
    · exact gaF_srtd t p k
theorem gaF_mem {t : Int → Int} {p : Int → Bool} : ∀ (k : Nat) (x : Int), x ∈ gaF t p k ↔ ∃ j : Nat, j < k ∧ p j = true ∧ t j < 1000000 ∧ x = t j
  | 0, x => by simp [gaF]
  | k + 1, x => by
    rw [gaF]
    by_cases h : p k = true ∧ t k < 1000000
    · rw [if_pos h, ins_mem, gaF_mem k x]
      constructor
      · rintro (z | ⟨j, h1, h2⟩)
        · exact ⟨k, by omega, h.1, h.2, z⟩
        · exact ⟨j, by omega, h2⟩
      · rintro ⟨j, h1, h2, h3, h4⟩
        by_cases hj : j = k
        · subst hj; exact Or.inl h4
        · exact Or.inr ⟨j, by omega, h2, h3, h4⟩
    · rw [if_neg h, gaF_mem k x]
      constructor
      · rintro ⟨j, h1, h2⟩; exact ⟨j, by omega, h2⟩
      · rintro ⟨j, h1, h2, h3, h4⟩
        by_cases hj : j = k
        · subst hj; exact absurd ⟨h2, h3⟩ h
        · exact ⟨j, by omega, h2, h3, h4⟩
theorem gaF_congr {t t' : Int → Int} {p p' : Int → Bool} : ∀ (k : Nat), (∀ j : Int, 0 ≤ j → j < k → p j = p' j ∧ (p j = true → t j = t' j)) → gaF t p k = gaF t' p' k
  | 0, _ => rfl
  | k + 1, h => by
    have ih := gaF_congr k (fun j j0 j1 => h j j0 (by omega))
    have hk := h k (by omega) (by omega)
    rw [gaF, gaF, ih, ← hk.1]
    by_cases z : p k = true
    · rw [hk.2 z]
    · simp [z]
/-! the pure rows against the reference's -/
theorem fil_ins (x : Int) : ∀ l : List Int, srtd l → (∀ y ∈ l, y ≤ 1000000) → x ≤ 1000000 → (ins x l).filter (fun y => decide (y < 1000000)) = if x < 1000000 then ins x (l.filter (fun y => decide (y < 1000000))) else l.filter (fun y => decide (y < 1000000))
  | [], _, _, hx => by
    rw [ins]
    by_cases h : x < 1000000
    · rw [if_pos h]; simp [h, ins]
    · rw [if_neg h]; simp [h]
  | y :: l, hs, hb, hx => by
    rw [ins]
    have ih := fil_ins x l hs.2 (fun z hz => hb z (List.mem_cons_of_mem _ hz)) hx
    by_cases h : x < y
    · rw [if_pos h]
      have hy := hb y List.mem_cons_self
      have h1 : x < 1000000 := by omega
      rw [if_pos h1, List.filter_cons_of_pos (by simpa using h1)]
      by_cases h2 : y < 1000000
      · rw [List.filter_cons_of_pos (by simpa using h2), ins, if_pos h]
      · rw [List.filter_cons_of_neg (by simpa using h2)]
        have : l.filter (fun y => decide (y < 1000000)) = [] := by
          rw [List.filter_eq_nil_iff]
          intro z hz
          have := hs.1 z hz
          simp; omega
        rw [this, ins]
    · rw [if_neg h]
      by_cases h2 : y < 1000000
      · rw [List.filter_cons_of_pos (by simpa using h2), List.filter_cons_of_pos (by simpa using h2), ih]
        by_cases h1 : x < 1000000
        · rw [if_pos h1, if_pos h1, ins, if_neg h]
        · rw [if_neg h1, if_neg h1]
      · rw [List.filter_cons_of_neg (by simpa using h2), List.filter_cons_of_neg (by simpa using h2), ih]
theorem gaF_isF {t : Int → Int} : ∀ k : Nat, (∀ j : Int, 0 ≤ j → j < k → t j ≤ 1000000) → gaF t (fun _ => true) k = (isF t k).filter (fun y => decide (y < 1000000))
  | 0, _ => rfl
  | k + 1, h => by
    have ih := gaF_isF k (fun j j0 j1 => h j j0 (by omega))
    rw [gaF, isF, fil_ins _ _ (isF_srtd t k) (fun y hy => by obtain ⟨j, h1, h2⟩ := (isF_mem k y).mp hy; rw [h2]; exact h j (by omega) (by omega)) (h k (by omega) (by omega)), ih]
    by_cases z : t k < 1000000
    · rw [if_pos ⟨rfl, z⟩, if_pos z]
    · rw [if_neg (fun y => z y.2), if_neg z]
theorem fil_take : ∀ l : List Int, srtd l → (∀ y ∈ l, y ≤ 1000000) → l.filter (fun y => decide (y < 1000000)) = l.take (cnF l)
  | [], _, _ => rfl
  | x :: l, hs, hb => by
    have ih := fil_take l hs.2 (fun z hz => hb z (List.mem_cons_of_mem _ hz))
    have hx := hb x List.mem_cons_self
    rw [cnF]
    by_cases h : x = 1000000
    · rw [if_pos h, List.filter_cons_of_neg (by simp; omega), List.take_zero]
      rw [List.filter_eq_nil_iff]
      intro z hz
      have := hs.1 z hz
      simp; omega
    · rw [if_neg h, List.filter_cons_of_pos (by simp; omega), List.take_succ_cons, ih]
theorem wmF_congr {need : Nat} {l l' : List Int} (hn : 1 ≤ need) : ∀ i : Nat, (∀ j, j < i → l.getD j 0 = l'.getD j 0) → wmF need l i = wmF need l' i
  | 0, _ => rfl
  | i + 1, h => by
    rw [wmF, wmF, wmF_congr hn i (fun j hj => h j (by omega)), h i (by omega)]
    by_cases z : need ≤ i + 1
    · rw [if_pos z, if_pos z]
      rw [h (i + 1 - need) (by omega)]
    · rw [if_neg z, if_neg z]
theorem getD_take (l : List Int) {k j : Nat} (h : j < k) : (l.take k).getD j 0 = l.getD j 0 := by
  simp only [List.getD_eq_getElem?_getD]
  rw [List.getElem?_take_of_lt h]
/-- how near, by a row -/
theorem ap_row {need : Int} {t : Int → Int} {k : Nat} (hn : 1 ≤ need) (h : ∀ j : Int, 0 ≤ j → j < k → t j ≤ 1000000) : apF need t k = wmF need.toNat (gaF t (fun _ => true) k) (gaF t (fun _ => true) k).length := by
  have hb : ∀ y ∈ isF t k, y ≤ 1000000 := fun y hy => by obtain ⟨j, h1, h2⟩ := (isF_mem k y).mp hy; rw [h2]; exact h j (by omega) (by omega)
  rw [gaF_isF k h, fil_take _ (isF_srtd t k) hb, List.length_take, Nat.min_eq_left (cnF_le _)]
  unfold apF
  exact wmF_congr (by omega) _ (fun j hj => (getD_take _ hj).symm)
theorem moF_cut {need : Nat} {breath : Int} {l l' : List Int} {m : Nat} (hn : 1 ≤ need) (h1 : ∀ j, j < m → l.getD j 0 = l'.getD j 0) (h2 : ∀ j, j < m → ¬ l.getD j 0 = 1000000) : ∀ (d i : Nat), (∀ j, m ≤ j → j < i + d → l.getD j 0 = 1000000) → moF need breath l i d = moF need breath l' i (min d (m - i))
  | 0, i, _ => by rw [Nat.zero_min]; rfl
  | d + 1, i, h => by
    by_cases hi : i < m
    · rw [show min (d + 1) (m - i) = min d (m - (i + 1)) + 1 by omega, moF, moF, moF_cut hn h1 h2 d (i + 1) (fun j hj hj2 => h j hj (by omega)), h1 i hi, h1 (i + 1 - need) (by omega)]
    · have ih := moF_cut (breath := breath) hn h1 h2 d (i + 1) (fun j hj hj2 => h j hj (by omega))
      rw [show min d (m - (i + 1)) = 0 by omega] at ih
      rw [show min (d + 1) (m - i) = 0 by omega]
      show moF need breath l i (d + 1) = 1000000
      rw [moF, if_neg (fun z => z.1 (h i (by omega) (by omega))), ih]
      rfl
/-- the part at which it opens, by a row -/
theorem og_row {need breath : Int} {t : Int → Int} {k : Nat} (hn : 1 ≤ need) (h : ∀ j : Int, 0 ≤ j → j < k → t j ≤ 1000000) : ogF need breath t k = moF need.toNat breath (gaF t (fun _ => true) k) (need.toNat - 1) ((gaF t (fun _ => true) k).length + 1 - need.toNat) := by
  have hb : ∀ y ∈ isF t k, y ≤ 1000000 := fun y hy => by obtain ⟨j, h1, h2⟩ := (isF_mem k y).mp hy; rw [h2]; exact h j (by omega) (by omega)
  have hl := isF_len t k
  have hc := cnF_le (isF t k)
  rw [gaF_isF k h, fil_take _ (isF_srtd t k) hb, List.length_take, Nat.min_eq_left hc]
  unfold ogF
  by_cases hz : k + 1 < need.toNat
  · rw [show k + 1 - need.toNat = 0 by omega, show cnF (isF t k) + 1 - need.toNat = 0 by omega]
    rfl
  rw [moF_cut (l' := (isF t k).take (cnF (isF t k))) (m := cnF (isF t k)) (by omega) (fun j hj => (getD_take _ hj).symm) (fun j hj => cnF_lt _ j hj) _ _ (fun j hj hj2 => cnF_ge _ (isF_srtd t k) hb j hj (by omega))]
  congr 1
  omega
