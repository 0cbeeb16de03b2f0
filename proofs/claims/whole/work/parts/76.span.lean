/-! a key turned at a time opens with the others' row: the spans -/
/-- in how many spans the time lies -/
def cvL : List (Int × Int) → Int → Int
  | [], _ => 0
  | p :: sp, t => inB (decide (p.1 ≤ t ∧ t ≤ p.2)) + cvL sp t
theorem cvL_app (p : Int × Int) (t : Int) : ∀ sp : List (Int × Int), cvL (sp ++ [p]) t = cvL sp t + inB (decide (p.1 ≤ t ∧ t ≤ p.2))
  | [] => by show inB _ + 0 = 0 + inB _; omega
  | q :: sp => by
    rw [List.cons_append, cvL, cvL_app p t sp, cvL]
    omega
/-- some window of the row that the time fills up -/
def wnP (n : Nat) (b : Int) (l : List Int) (k : Nat) (t : Int) : Prop := ∃ i, i < k ∧ l.getD (i + n - 2) 0 - l.getD i 0 ≤ b ∧ l.getD (i + n - 2) 0 - b ≤ t ∧ t ≤ l.getD i 0 + b
theorem inB_t {p : Prop} [Decidable p] (h : p) : inB (decide p) = 1 := by unfold inB; rw [if_pos (decide_eq_true h)]
theorem inB_f {p : Prop} [Decidable p] (h : ¬ p) : inB (decide p) = 0 := by unfold inB; rw [if_neg (by simpa using h)]
theorem sp_cov {n : Nat} {b : Int} {l : List Int} (hn : 2 ≤ n) (hb : 0 ≤ b ∧ b ≤ 9) (hs : ∀ i j : Nat, i ≤ j → j < l.length → l.getD i 0 ≤ l.getD j 0) (hm : ∀ i : Nat, i < l.length → -5000 ≤ l.getD i 0 ∧ l.getD i 0 ≤ 5000) (t : Int) : ∀ k : Nat, k + n ≤ l.length + 2 →
    ((wnP n b l k t → cvL (spS n b l k).2 t = 1) ∧ (¬ wnP n b l k t → cvL (spS n b l k).2 t = 0)) ∧ (∀ i, i < k → l.getD (i + n - 2) 0 - l.getD i 0 ≤ b → l.getD i 0 + b ≤ (spS n b l k).1) ∧ ((spS n b l k).1 = -2000000 ∨ ∃ i, i < k ∧ l.getD (i + n - 2) 0 - l.getD i 0 ≤ b ∧ (spS n b l k).1 = l.getD i 0 + b)
  | 0, _ => by
    refine ⟨⟨fun h => ?_, fun _ => rfl⟩, fun i hi => absurd hi (by omega), Or.inl rfl⟩
    obtain ⟨i, hi, _⟩ := h
    exact absurd hi (by omega)
  | k + 1, hk => by
    obtain ⟨⟨h1, h2⟩, h3, h4⟩ := sp_cov hn hb hs hm t k (by omega)
    have hmk := hm k (by omega)
    have hmn := hm (k + n - 2) (by omega)
    rw [spS]
    by_cases z : l.getD (k + n - 2) 0 - l.getD k 0 ≤ b
    · rw [if_pos z]
      dsimp only
      rw [cvL_app]
      dsimp only
      have hlt : ∀ i, i < k → l.getD i 0 ≤ l.getD k 0 := fun i hi => hs i k (by omega) (by omega)
      have hlo : ∀ i, i < k → l.getD (i + n - 2) 0 ≤ l.getD (k + n - 2) 0 := fun i hi => hs _ _ (by omega) (by omega)
      refine ⟨?_, fun i hi hc => ?_, Or.inr ⟨k, by omega, z, rfl⟩⟩
      · by_cases y : wnP n b l k t
        · have hc := h1 y
          obtain ⟨i, i1, i2, i3, i4⟩ := y
          have h5 := h3 i i1 i2
          refine ⟨fun _ => ?_, fun q => absurd ⟨i, by omega, i2, i3, i4⟩ q⟩
          rw [hc, inB_f (by omega)]
          rfl
        · have hc := h2 y
          by_cases x : l.getD (k + n - 2) 0 - b ≤ t ∧ t ≤ l.getD k 0 + b
          · have hd : (spS n b l k).1 + 1 ≤ t := by
              rcases h4 with h4 | ⟨i, i1, i2, i3⟩
              · omega
              · by_cases u : (spS n b l k).1 + 1 ≤ t
                · exact u
                · have := hlo i i1
                  exact absurd ⟨i, i1, i2, by omega, by omega⟩ y
            refine ⟨fun _ => ?_, fun q => absurd ⟨k, by omega, z, x.1, x.2⟩ q⟩
            rw [hc, inB_t (by omega)]
            rfl
          · refine ⟨fun q => ?_, fun _ => ?_⟩
            · obtain ⟨i, i1, i2, i3, i4⟩ := q
              by_cases u : i = k
              · rw [u] at i3 i4
                exact absurd ⟨i3, i4⟩ x
              · exact absurd ⟨i, by omega, i2, i3, i4⟩ y
            · rw [hc, inB_f (by omega)]
              rfl
      · by_cases u : i = k
        · rw [u]; exact Int.le_refl _
        · have := hlt i (by omega)
          omega
    · rw [if_neg z]
      have e : wnP n b l (k + 1) t ↔ wnP n b l k t := by
        constructor
        · rintro ⟨i, i1, i2, i3⟩
          by_cases u : i = k
          · rw [u] at i2; exact absurd i2 z
          · exact ⟨i, by omega, i2, i3⟩
        · rintro ⟨i, i1, i2⟩
          exact ⟨i, by omega, i2⟩
      refine ⟨⟨fun q => h1 (e.mp q), fun q => h2 (fun r => q (e.mpr r))⟩, fun i hi hc => ?_, ?_⟩
      · by_cases u : i = k
        · rw [u] at hc; exact absurd hc z
        · exact h3 i (by omega) hc
      · rcases h4 with h4 | ⟨i, i1, i2⟩
        · exact Or.inl h4
        · exact Or.inr ⟨i, by omega, i2⟩
