/-! kinds, items -/
theorem t_kindOf (S : St) (c : Int) (Q : Option AV → St → Prop) (hQ : Q (some (.inl (kd c))) S) : Smm H_LandReader_kindOf 0 [some (.inl c)] [] S Q := by
  unfold kd at hQ
  refine sound ok_LandReader_kindOf [] 40 ?_
  refine ⟨fun h => ?_, fun h1 => ⟨fun h => ?_, fun h2 => ⟨fun h => ?_, fun h3 => ⟨fun h => ?_, fun h4 => ?_⟩⟩⟩⟩
  · rw [if_neg (by omega), if_neg (by omega), if_neg (by omega), if_pos h] at hQ; exact hQ
  · rw [if_pos h] at hQ; exact hQ
  · rw [if_neg (by omega), if_neg (by omega), if_pos h] at hQ; exact hQ
  · rw [if_neg (by omega), if_pos h] at hQ; exact hQ
  · rw [if_neg h2, if_neg h4, if_neg h3, if_neg h1] at hQ; exact hQ
theorem ix4 {k i : Int} (hk : 0 ≤ k ∧ k ≤ 3) (hi : 0 ≤ i ∧ i < 4) : i32 (i32 (k * 4) + i) = 4 * k + i ∧ 0 ≤ 4 * k + i ∧ 4 * k + i < 16 := by
  rw [i32_id (v := k * 4) (by omega) (by omega), i32_id (by omega) (by omega)]
  omega
theorem i4 {i : Int} (h : 0 ≤ i ∧ i < 4) : i = 0 ∨ i = 1 ∨ i = 2 ∨ i = 3 := by omega
theorem cst1_v : cst 1 (4 * 0 + 0) = 112 ∧ cst 1 (4 * 0 + 1) = 116 ∧ cst 1 (4 * 0 + 2) = 0 ∧ cst 1 (4 * 0 + 3) = 0 ∧ cst 1 (4 * 1 + 0) = 116 ∧ cst 1 (4 * 1 + 1) = 101 ∧ cst 1 (4 * 1 + 2) = 111 ∧ cst 1 (4 * 1 + 3) = 118 ∧ cst 1 (4 * 2 + 0) = 115 ∧ cst 1 (4 * 2 + 1) = 103 ∧ cst 1 (4 * 2 + 2) = 100 ∧ cst 1 (4 * 2 + 3) = 0 ∧ cst 1 (4 * 3 + 0) = 110 ∧ cst 1 (4 * 3 + 1) = 119 ∧ cst 1 (4 * 3 + 2) = 0 ∧ cst 1 (4 * 3 + 3) = 0 := by decide
theorem it_at {k i c : Int} (hk : 0 ≤ k ∧ k ≤ 3) (hi : 0 ≤ i ∧ i < 4) (hc : ¬ c = 0) (h : c = cst 1 (4 * k + i)) : itF k c = i := by
  obtain ⟨v0, v1, v2, v3, v4, v5, v6, v7, v8, v9, v10, v11, v12, v13, v14, v15⟩ := cst1_v
  rcases k4 hk.1 hk.2 with rfl | rfl | rfl | rfl <;> rcases i4 hi with rfl | rfl | rfl | rfl
  · rw [v0] at h; subst h; decide
  · rw [v1] at h; subst h; decide
  · rw [v2] at h; exact absurd h hc
  · rw [v3] at h; exact absurd h hc
  · rw [v4] at h; subst h; decide
  · rw [v5] at h; subst h; decide
  · rw [v6] at h; subst h; decide
  · rw [v7] at h; subst h; decide
  · rw [v8] at h; subst h; decide
  · rw [v9] at h; subst h; decide
  · rw [v10] at h; subst h; decide
  · rw [v11] at h; exact absurd h hc
  · rw [v12] at h; subst h; decide
  · rw [v13] at h; subst h; decide
  · rw [v14] at h; exact absurd h hc
  · rw [v15] at h; exact absurd h hc
theorem it_no {k c : Int} (hk : 0 ≤ k ∧ k ≤ 3) (h : ∀ i, 0 ≤ i → i < 4 → ¬ c = cst 1 (4 * k + i)) : itF k c = -1 := by
  obtain ⟨v0, v1, v2, v3, v4, v5, v6, v7, v8, v9, v10, v11, v12, v13, v14, v15⟩ := cst1_v
  have h0 := h 0 (by omega) (by omega)
  have h1 := h 1 (by omega) (by omega)
  have h2 := h 2 (by omega) (by omega)
  have h3 := h 3 (by omega) (by omega)
  rcases k4 hk.1 hk.2 with rfl | rfl | rfl | rfl
  · rw [v0] at h0; rw [v1] at h1; simp [itF, h0, h1]
  · rw [v4] at h0; rw [v5] at h1; rw [v6] at h2; rw [v7] at h3; simp [itF, h0, h1, h2, h3]
  · rw [v8] at h0; rw [v9] at h1; rw [v10] at h2; simp [itF, h0, h1, h2]
  · rw [v12] at h0; rw [v13] at h1; simp [itF, h0, h1]
set_option maxHeartbeats 1000000 in
theorem t_itemOf (S : St) (k c : Int) (Q : Option AV → St → Prop) (hk : 0 ≤ k ∧ k ≤ 3) (hc : ¬ c = 0) (hQ : Q (some (.inl (itF k c))) S) : Smm H_LandReader_itemOf 0 [some (.inl k), some (.inl c), none] [] S Q := by
  have loop : ∀ (i : Int) (_ : Unit), ((0 ≤ i ∧ i ≤ 4) ∧ ∀ j, 0 ≤ j → j < i → ¬ c = cst 1 (4 * k + j)) → Smm H_LandReader_itemOf 2 [some (.inl k), some (.inl c), some (.inl i)] [] S Q := by
    refine lp_up (P := fun i _ => Smm H_LandReader_itemOf 2 [some (.inl k), some (.inl c), some (.inl i)] [] S Q) _ 4 ?_ ?_
    · rintro i - hi ⟨hi2, d⟩
      rw [it_no hk (fun j j0 j1 => d j j0 (by omega))] at hQ
      refine sound ok_LandReader_itemOf [2] 20 ?_
      exact ⟨fun _ => hQ, fun z => absurd z (by omega)⟩
    · rintro i - hi ⟨hi2, d⟩ ih
      have hng : ¬ 4 ≤ i := by omega
      have hi3 : 0 ≤ i ∧ i < 4 := by omega
      have hi4 : 0 ≤ i + 1 ∧ i + 1 ≤ 4 := by omega
      obtain ⟨e1, e2⟩ := ix4 hk hi3
      have e : i + 1 = i32 (i + 1) := (i32_id (by clear e1; omega) (by clear e1; omega)).symm
      refine sound ok_LandReader_itemOf [2] 40 ?_
      refine ⟨fun z => absurd z hng, fun _ => ?_⟩
      refine ⟨by rw [e1]; exact e2, ?_⟩
      refine ⟨fun z => ?_, fun z => ?_⟩
      · rw [e1] at z
        refine Smm.sub (ih () ⟨hi4, fun j j0 j1 => ?_⟩) ⟨Or.inr rfl, Or.inr rfl, Or.inr (sI e), trivial⟩
        by_cases y : j = i
        · rw [y]; exact z
        · exact d j j0 (by clear e e1; omega)
      · rw [e1] at z
        rw [it_at hk hi3 hc z] at hQ
        exact hQ
  refine sound ok_LandReader_itemOf [2] 20 ?_
  exact loop 0 () ⟨by omega, fun j j0 j1 => absurd j1 (by omega)⟩
theorem t_clauseOver (S : St) (Q : Option AV → St → Prop) (h0 : 0 ≤ S 43 2) (hn : S 43 1 ≤ 160) (h1 : (ch (S 44) (S 43 1) (sk (S 44) (S 43 1) (S 43 2)) = -1 ∨ ch (S 44) (S 43 1) (sk (S 44) (S 43 1) (S 43 2)) = 59) → Q (some (.inl 1)) (up S 43 2 (sk (S 44) (S 43 1) (S 43 2)))) (h2 : ¬ (ch (S 44) (S 43 1) (sk (S 44) (S 43 1) (S 43 2)) = -1 ∨ ch (S 44) (S 43 1) (sk (S 44) (S 43 1) (S 43 2)) = 59) → Q (some (.inl 0)) (up S 43 2 (sk (S 44) (S 43 1) (S 43 2)))) : Smm H_LandReader_isClauseOver 0 [some (.inr (.inr 45)), none] [] S Q := by
  refine sound ok_LandReader_isClauseOver [] 40 ?_
  refine t_xNext S _ h0 hn ?_
  refine ⟨fun z => ⟨Or.inr rfl, h1 (Or.inl z)⟩, fun z => ?_⟩
  exact ⟨fun y => ⟨Or.inl rfl, h2 (fun q => q.elim z y)⟩, fun y => ⟨Or.inr rfl, h1 (Or.inr y)⟩⟩
def ctD (S : St) (k : Int) : Int := if k = 0 then S 47 0 else if k = 1 then S 47 1 else if k = 2 then S 47 2 else S 47 3
theorem t_isFull (S : St) (k : Int) (Q : Option AV → St → Prop) (hk : 0 ≤ k ∧ k ≤ 3) (h1 : mxK k ≤ ctD S k → Q (some (.inl 1)) S) (h0 : ¬ mxK k ≤ ctD S k → Q (some (.inl 0)) S) : Smm H_Land_isFull 0 [some (.inr (.inr 47)), some (.inl k)] [] S Q := by
  refine sound ok_Land_isFull [] 60 ?_
  rcases k4 hk.1 hk.2 with rfl | rfl | rfl | rfl
  · have e : ctD S 0 = S 47 0 := rfl
    have e2 : mxK 0 = 4 := rfl
    rw [e, e2] at h1 h0
    exact ⟨fun z => absurd z (by decide), fun _ => ⟨fun z => ⟨Or.inl rfl, h0 (by omega)⟩, fun z => ⟨Or.inr rfl, h1 z⟩⟩, fun z => absurd z (by decide), fun z => absurd z (by decide), trivial⟩
  · have e : ctD S 1 = S 47 1 := rfl
    have e2 : mxK 1 = 5 := rfl
    rw [e, e2] at h1 h0
    exact ⟨fun z => absurd z (by decide), fun z => absurd z (by decide), fun _ => ⟨fun z => ⟨Or.inl rfl, h0 (by omega)⟩, fun z => ⟨Or.inr rfl, h1 z⟩⟩, fun z => absurd z (by decide), trivial⟩
  · have e : ctD S 2 = S 47 2 := rfl
    have e2 : mxK 2 = 12 := rfl
    rw [e, e2] at h1 h0
    exact ⟨fun z => absurd z (by decide), fun z => absurd z (by decide), fun z => absurd z (by decide), fun _ => ⟨fun z => ⟨Or.inl rfl, h0 (by omega)⟩, fun z => ⟨Or.inr rfl, h1 z⟩⟩, trivial⟩
  · have e : ctD S 3 = S 47 3 := rfl
    have e2 : mxK 3 = 1 := rfl
    rw [e, e2] at h1 h0
    exact ⟨fun _ => ⟨fun z => ⟨Or.inl rfl, h0 (by omega)⟩, fun z => ⟨Or.inr rfl, h1 z⟩⟩, fun z => absurd z (by decide), fun z => absurd z (by decide), fun z => absurd z (by decide), trivial⟩
