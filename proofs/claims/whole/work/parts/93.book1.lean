/-! the books -/
set_option maxHeartbeats 2000000 in
theorem t_bkCopy_k (S : St) (Q : Option AV → St → Prop) (hQ : ∀ S', Fr [88, 89, 90, 91, 92, 93, 94] [(87, 1), (87, 5), (87, 9)] S S' → (S' 87 1 = S 79 1 ∧ S' 87 5 = S 79 5 ∧ S' 87 9 = S 79 9) → ((∀ j, 0 ≤ j → j < 4 → S' 88 j = S 80 j) ∧ (∀ j, 0 ≤ j → j < 10 → S' 89 j = S 81 j) ∧ (∀ j, 0 ≤ j → j < 10 → S' 90 j = S 82 j) ∧ (∀ j, 0 ≤ j → j < 10 → S' 91 j = S 83 j) ∧ (∀ j, 0 ≤ j → j < 160 → S' 92 j = S 84 j) ∧ (∀ j, 0 ≤ j → j < 40 → S' 93 j = S 85 j) ∧ (∀ j, 0 ≤ j → j < 40 → S' 94 j = S 86 j)) → Q none S') : Smm H_Book_copy 0 [some (.inr (.inr 87)), some (.inr (.inr 79))] [] S Q := by
  have hF : Fr [88, 89, 90, 91, 92, 93, 94] [(87, 1), (87, 5), (87, 9)] S (up (cpS (cpS (cpS (up (cpS (cpS (cpS (up (cpS S 80 0 88 0 4) 87 1 (S 79 1)) 81 0 89 0 10) 82 0 90 0 10) 83 0 91 0 10) 87 5 (S 79 5)) 84 0 92 0 160) 85 0 93 0 40) 86 0 94 0 40) 87 9 (S 79 9)) := (((((((((((Fr.rf _ _ S).cp _ _ _ _ _ rfl).up _ _ _ rfl).cp _ _ _ _ _ rfl).cp _ _ _ _ _ rfl).cp _ _ _ _ _ rfl).up _ _ _ rfl).cp _ _ _ _ _ rfl).cp _ _ _ _ _ rfl).cp _ _ _ _ _ rfl).up _ _ _ rfl)
  have hs : (up (cpS (cpS (cpS (up (cpS (cpS (cpS (up (cpS S 80 0 88 0 4) 87 1 (S 79 1)) 81 0 89 0 10) 82 0 90 0 10) 83 0 91 0 10) 87 5 (S 79 5)) 84 0 92 0 160) 85 0 93 0 40) 86 0 94 0 40) 87 9 (S 79 9)) 87 1 = S 79 1 ∧ (up (cpS (cpS (cpS (up (cpS (cpS (cpS (up (cpS S 80 0 88 0 4) 87 1 (S 79 1)) 81 0 89 0 10) 82 0 90 0 10) 83 0 91 0 10) 87 5 (S 79 5)) 84 0 92 0 160) 85 0 93 0 40) 86 0 94 0 40) 87 9 (S 79 9)) 87 5 = S 79 5 ∧ (up (cpS (cpS (cpS (up (cpS (cpS (cpS (up (cpS S 80 0 88 0 4) 87 1 (S 79 1)) 81 0 89 0 10) 82 0 90 0 10) 83 0 91 0 10) 87 5 (S 79 5)) 84 0 92 0 160) 85 0 93 0 40) 86 0 94 0 40) 87 9 (S 79 9)) 87 9 = S 79 9 := by
    refine ⟨?_, ?_, ?_⟩ <;> simp [upr, cpS]
  have ha0 : ∀ j, 0 ≤ j → j < 4 → (up (cpS (cpS (cpS (up (cpS (cpS (cpS (up (cpS S 80 0 88 0 4) 87 1 (S 79 1)) 81 0 89 0 10) 82 0 90 0 10) 83 0 91 0 10) 87 5 (S 79 5)) 84 0 92 0 160) 85 0 93 0 40) 86 0 94 0 40) 87 9 (S 79 9)) 88 j = S 80 j := fun j j0 j1 => by
    rw [up_o _ _ _ (by decide), cp_o _ _ _ _ _ (by decide), cp_o _ _ _ _ _ (by decide), cp_o _ _ _ _ _ (by decide), up_o _ _ _ (by decide), cp_o _ _ _ _ _ (by decide), cp_o _ _ _ _ _ (by decide), cp_o _ _ _ _ _ (by decide), up_o _ _ _ (by decide), cpS_in _ _ _ _ j0 j1]
  have ha1 : ∀ j, 0 ≤ j → j < 10 → (up (cpS (cpS (cpS (up (cpS (cpS (cpS (up (cpS S 80 0 88 0 4) 87 1 (S 79 1)) 81 0 89 0 10) 82 0 90 0 10) 83 0 91 0 10) 87 5 (S 79 5)) 84 0 92 0 160) 85 0 93 0 40) 86 0 94 0 40) 87 9 (S 79 9)) 89 j = S 81 j := fun j j0 j1 => by
    rw [up_o _ _ _ (by decide), cp_o _ _ _ _ _ (by decide), cp_o _ _ _ _ _ (by decide), cp_o _ _ _ _ _ (by decide), up_o _ _ _ (by decide), cp_o _ _ _ _ _ (by decide), cp_o _ _ _ _ _ (by decide), cpS_in _ _ _ _ j0 j1, up_o _ _ _ (by decide), cp_o _ _ _ _ _ (by decide)]
  have ha2 : ∀ j, 0 ≤ j → j < 10 → (up (cpS (cpS (cpS (up (cpS (cpS (cpS (up (cpS S 80 0 88 0 4) 87 1 (S 79 1)) 81 0 89 0 10) 82 0 90 0 10) 83 0 91 0 10) 87 5 (S 79 5)) 84 0 92 0 160) 85 0 93 0 40) 86 0 94 0 40) 87 9 (S 79 9)) 90 j = S 82 j := fun j j0 j1 => by
    rw [up_o _ _ _ (by decide), cp_o _ _ _ _ _ (by decide), cp_o _ _ _ _ _ (by decide), cp_o _ _ _ _ _ (by decide), up_o _ _ _ (by decide), cp_o _ _ _ _ _ (by decide), cpS_in _ _ _ _ j0 j1, cp_o _ _ _ _ _ (by decide), up_o _ _ _ (by decide), cp_o _ _ _ _ _ (by decide)]
  have ha3 : ∀ j, 0 ≤ j → j < 10 → (up (cpS (cpS (cpS (up (cpS (cpS (cpS (up (cpS S 80 0 88 0 4) 87 1 (S 79 1)) 81 0 89 0 10) 82 0 90 0 10) 83 0 91 0 10) 87 5 (S 79 5)) 84 0 92 0 160) 85 0 93 0 40) 86 0 94 0 40) 87 9 (S 79 9)) 91 j = S 83 j := fun j j0 j1 => by
    rw [up_o _ _ _ (by decide), cp_o _ _ _ _ _ (by decide), cp_o _ _ _ _ _ (by decide), cp_o _ _ _ _ _ (by decide), up_o _ _ _ (by decide), cpS_in _ _ _ _ j0 j1, cp_o _ _ _ _ _ (by decide), cp_o _ _ _ _ _ (by decide), up_o _ _ _ (by decide), cp_o _ _ _ _ _ (by decide)]
  have ha4 : ∀ j, 0 ≤ j → j < 160 → (up (cpS (cpS (cpS (up (cpS (cpS (cpS (up (cpS S 80 0 88 0 4) 87 1 (S 79 1)) 81 0 89 0 10) 82 0 90 0 10) 83 0 91 0 10) 87 5 (S 79 5)) 84 0 92 0 160) 85 0 93 0 40) 86 0 94 0 40) 87 9 (S 79 9)) 92 j = S 84 j := fun j j0 j1 => by
    rw [up_o _ _ _ (by decide), cp_o _ _ _ _ _ (by decide), cp_o _ _ _ _ _ (by decide), cpS_in _ _ _ _ j0 j1, up_o _ _ _ (by decide), cp_o _ _ _ _ _ (by decide), cp_o _ _ _ _ _ (by decide), cp_o _ _ _ _ _ (by decide), up_o _ _ _ (by decide), cp_o _ _ _ _ _ (by decide)]
  have ha5 : ∀ j, 0 ≤ j → j < 40 → (up (cpS (cpS (cpS (up (cpS (cpS (cpS (up (cpS S 80 0 88 0 4) 87 1 (S 79 1)) 81 0 89 0 10) 82 0 90 0 10) 83 0 91 0 10) 87 5 (S 79 5)) 84 0 92 0 160) 85 0 93 0 40) 86 0 94 0 40) 87 9 (S 79 9)) 93 j = S 85 j := fun j j0 j1 => by
    rw [up_o _ _ _ (by decide), cp_o _ _ _ _ _ (by decide), cpS_in _ _ _ _ j0 j1, cp_o _ _ _ _ _ (by decide), up_o _ _ _ (by decide), cp_o _ _ _ _ _ (by decide), cp_o _ _ _ _ _ (by decide), cp_o _ _ _ _ _ (by decide), up_o _ _ _ (by decide), cp_o _ _ _ _ _ (by decide)]
  have ha6 : ∀ j, 0 ≤ j → j < 40 → (up (cpS (cpS (cpS (up (cpS (cpS (cpS (up (cpS S 80 0 88 0 4) 87 1 (S 79 1)) 81 0 89 0 10) 82 0 90 0 10) 83 0 91 0 10) 87 5 (S 79 5)) 84 0 92 0 160) 85 0 93 0 40) 86 0 94 0 40) 87 9 (S 79 9)) 94 j = S 86 j := fun j j0 j1 => by
    rw [up_o _ _ _ (by decide), cpS_in _ _ _ _ j0 j1, cp_o _ _ _ _ _ (by decide), cp_o _ _ _ _ _ (by decide), up_o _ _ _ (by decide), cp_o _ _ _ _ _ (by decide), cp_o _ _ _ _ _ (by decide), cp_o _ _ _ _ _ (by decide), up_o _ _ _ (by decide), cp_o _ _ _ _ _ (by decide)]
  have hq := hQ _ hF hs ⟨ha0, ha1, ha2, ha3, ha4, ha5, ha6⟩
  refine sound ok_Book_copy [] 100 ?_
  refine ⟨by decide, ?_⟩
  refine ⟨by decide, ?_⟩
  refine ⟨by decide, ?_⟩
  refine ⟨by decide, ?_⟩
  refine ⟨by decide, ?_⟩
  refine ⟨by decide, ?_⟩
  refine ⟨by decide, ?_⟩
  exact hq
set_option maxHeartbeats 2000000 in
theorem t_bkCopy_b (S : St) (Q : Option AV → St → Prop) (hQ : ∀ S', Fr [80, 81, 82, 83, 84, 85, 86] [(79, 1), (79, 5), (79, 9)] S S' → (S' 79 1 = S 87 1 ∧ S' 79 5 = S 87 5 ∧ S' 79 9 = S 87 9) → ((∀ j, 0 ≤ j → j < 4 → S' 80 j = S 88 j) ∧ (∀ j, 0 ≤ j → j < 10 → S' 81 j = S 89 j) ∧ (∀ j, 0 ≤ j → j < 10 → S' 82 j = S 90 j) ∧ (∀ j, 0 ≤ j → j < 10 → S' 83 j = S 91 j) ∧ (∀ j, 0 ≤ j → j < 160 → S' 84 j = S 92 j) ∧ (∀ j, 0 ≤ j → j < 40 → S' 85 j = S 93 j) ∧ (∀ j, 0 ≤ j → j < 40 → S' 86 j = S 94 j)) → Q none S') : Smm H_Book_copy 0 [some (.inr (.inr 79)), some (.inr (.inr 87))] [] S Q := by
  have hF : Fr [80, 81, 82, 83, 84, 85, 86] [(79, 1), (79, 5), (79, 9)] S (up (cpS (cpS (cpS (up (cpS (cpS (cpS (up (cpS S 88 0 80 0 4) 79 1 (S 87 1)) 89 0 81 0 10) 90 0 82 0 10) 91 0 83 0 10) 79 5 (S 87 5)) 92 0 84 0 160) 93 0 85 0 40) 94 0 86 0 40) 79 9 (S 87 9)) := (((((((((((Fr.rf _ _ S).cp _ _ _ _ _ rfl).up _ _ _ rfl).cp _ _ _ _ _ rfl).cp _ _ _ _ _ rfl).cp _ _ _ _ _ rfl).up _ _ _ rfl).cp _ _ _ _ _ rfl).cp _ _ _ _ _ rfl).cp _ _ _ _ _ rfl).up _ _ _ rfl)
  have hs : (up (cpS (cpS (cpS (up (cpS (cpS (cpS (up (cpS S 88 0 80 0 4) 79 1 (S 87 1)) 89 0 81 0 10) 90 0 82 0 10) 91 0 83 0 10) 79 5 (S 87 5)) 92 0 84 0 160) 93 0 85 0 40) 94 0 86 0 40) 79 9 (S 87 9)) 79 1 = S 87 1 ∧ (up (cpS (cpS (cpS (up (cpS (cpS (cpS (up (cpS S 88 0 80 0 4) 79 1 (S 87 1)) 89 0 81 0 10) 90 0 82 0 10) 91 0 83 0 10) 79 5 (S 87 5)) 92 0 84 0 160) 93 0 85 0 40) 94 0 86 0 40) 79 9 (S 87 9)) 79 5 = S 87 5 ∧ (up (cpS (cpS (cpS (up (cpS (cpS (cpS (up (cpS S 88 0 80 0 4) 79 1 (S 87 1)) 89 0 81 0 10) 90 0 82 0 10) 91 0 83 0 10) 79 5 (S 87 5)) 92 0 84 0 160) 93 0 85 0 40) 94 0 86 0 40) 79 9 (S 87 9)) 79 9 = S 87 9 := by
    refine ⟨?_, ?_, ?_⟩ <;> simp [upr, cpS]
  have ha0 : ∀ j, 0 ≤ j → j < 4 → (up (cpS (cpS (cpS (up (cpS (cpS (cpS (up (cpS S 88 0 80 0 4) 79 1 (S 87 1)) 89 0 81 0 10) 90 0 82 0 10) 91 0 83 0 10) 79 5 (S 87 5)) 92 0 84 0 160) 93 0 85 0 40) 94 0 86 0 40) 79 9 (S 87 9)) 80 j = S 88 j := fun j j0 j1 => by
    rw [up_o _ _ _ (by decide), cp_o _ _ _ _ _ (by decide), cp_o _ _ _ _ _ (by decide), cp_o _ _ _ _ _ (by decide), up_o _ _ _ (by decide), cp_o _ _ _ _ _ (by decide), cp_o _ _ _ _ _ (by decide), cp_o _ _ _ _ _ (by decide), up_o _ _ _ (by decide), cpS_in _ _ _ _ j0 j1]
  have ha1 : ∀ j, 0 ≤ j → j < 10 → (up (cpS (cpS (cpS (up (cpS (cpS (cpS (up (cpS S 88 0 80 0 4) 79 1 (S 87 1)) 89 0 81 0 10) 90 0 82 0 10) 91 0 83 0 10) 79 5 (S 87 5)) 92 0 84 0 160) 93 0 85 0 40) 94 0 86 0 40) 79 9 (S 87 9)) 81 j = S 89 j := fun j j0 j1 => by
    rw [up_o _ _ _ (by decide), cp_o _ _ _ _ _ (by decide), cp_o _ _ _ _ _ (by decide), cp_o _ _ _ _ _ (by decide), up_o _ _ _ (by decide), cp_o _ _ _ _ _ (by decide), cp_o _ _ _ _ _ (by decide), cpS_in _ _ _ _ j0 j1, up_o _ _ _ (by decide), cp_o _ _ _ _ _ (by decide)]
  have ha2 : ∀ j, 0 ≤ j → j < 10 → (up (cpS (cpS (cpS (up (cpS (cpS (cpS (up (cpS S 88 0 80 0 4) 79 1 (S 87 1)) 89 0 81 0 10) 90 0 82 0 10) 91 0 83 0 10) 79 5 (S 87 5)) 92 0 84 0 160) 93 0 85 0 40) 94 0 86 0 40) 79 9 (S 87 9)) 82 j = S 90 j := fun j j0 j1 => by
    rw [up_o _ _ _ (by decide), cp_o _ _ _ _ _ (by decide), cp_o _ _ _ _ _ (by decide), cp_o _ _ _ _ _ (by decide), up_o _ _ _ (by decide), cp_o _ _ _ _ _ (by decide), cpS_in _ _ _ _ j0 j1, cp_o _ _ _ _ _ (by decide), up_o _ _ _ (by decide), cp_o _ _ _ _ _ (by decide)]
  have ha3 : ∀ j, 0 ≤ j → j < 10 → (up (cpS (cpS (cpS (up (cpS (cpS (cpS (up (cpS S 88 0 80 0 4) 79 1 (S 87 1)) 89 0 81 0 10) 90 0 82 0 10) 91 0 83 0 10) 79 5 (S 87 5)) 92 0 84 0 160) 93 0 85 0 40) 94 0 86 0 40) 79 9 (S 87 9)) 83 j = S 91 j := fun j j0 j1 => by
    rw [up_o _ _ _ (by decide), cp_o _ _ _ _ _ (by decide), cp_o _ _ _ _ _ (by decide), cp_o _ _ _ _ _ (by decide), up_o _ _ _ (by decide), cpS_in _ _ _ _ j0 j1, cp_o _ _ _ _ _ (by decide), cp_o _ _ _ _ _ (by decide), up_o _ _ _ (by decide), cp_o _ _ _ _ _ (by decide)]
  have ha4 : ∀ j, 0 ≤ j → j < 160 → (up (cpS (cpS (cpS (up (cpS (cpS (cpS (up (cpS S 88 0 80 0 4) 79 1 (S 87 1)) 89 0 81 0 10) 90 0 82 0 10) 91 0 83 0 10) 79 5 (S 87 5)) 92 0 84 0 160) 93 0 85 0 40) 94 0 86 0 40) 79 9 (S 87 9)) 84 j = S 92 j := fun j j0 j1 => by
    rw [up_o _ _ _ (by decide), cp_o _ _ _ _ _ (by decide), cp_o _ _ _ _ _ (by decide), cpS_in _ _ _ _ j0 j1, up_o _ _ _ (by decide), cp_o _ _ _ _ _ (by decide), cp_o _ _ _ _ _ (by decide), cp_o _ _ _ _ _ (by decide), up_o _ _ _ (by decide), cp_o _ _ _ _ _ (by decide)]
  have ha5 : ∀ j, 0 ≤ j → j < 40 → (up (cpS (cpS (cpS (up (cpS (cpS (cpS (up (cpS S 88 0 80 0 4) 79 1 (S 87 1)) 89 0 81 0 10) 90 0 82 0 10) 91 0 83 0 10) 79 5 (S 87 5)) 92 0 84 0 160) 93 0 85 0 40) 94 0 86 0 40) 79 9 (S 87 9)) 85 j = S 93 j := fun j j0 j1 => by
    rw [up_o _ _ _ (by decide), cp_o _ _ _ _ _ (by decide), cpS_in _ _ _ _ j0 j1, cp_o _ _ _ _ _ (by decide), up_o _ _ _ (by decide), cp_o _ _ _ _ _ (by decide), cp_o _ _ _ _ _ (by decide), cp_o _ _ _ _ _ (by decide), up_o _ _ _ (by decide), cp_o _ _ _ _ _ (by decide)]
  have ha6 : ∀ j, 0 ≤ j → j < 40 → (up (cpS (cpS (cpS (up (cpS (cpS (cpS (up (cpS S 88 0 80 0 4) 79 1 (S 87 1)) 89 0 81 0 10) 90 0 82 0 10) 91 0 83 0 10) 79 5 (S 87 5)) 92 0 84 0 160) 93 0 85 0 40) 94 0 86 0 40) 79 9 (S 87 9)) 86 j = S 94 j := fun j j0 j1 => by
    rw [up_o _ _ _ (by decide), cpS_in _ _ _ _ j0 j1, cp_o _ _ _ _ _ (by decide), cp_o _ _ _ _ _ (by decide), up_o _ _ _ (by decide), cp_o _ _ _ _ _ (by decide), cp_o _ _ _ _ _ (by decide), cp_o _ _ _ _ _ (by decide), up_o _ _ _ (by decide), cp_o _ _ _ _ _ (by decide)]
  have hq := hQ _ hF hs ⟨ha0, ha1, ha2, ha3, ha4, ha5, ha6⟩
  refine sound ok_Book_copy [] 100 ?_
  refine ⟨by decide, ?_⟩
  refine ⟨by decide, ?_⟩
  refine ⟨by decide, ?_⟩
  refine ⟨by decide, ?_⟩
  refine ⟨by decide, ?_⟩
  refine ⟨by decide, ?_⟩
  refine ⟨by decide, ?_⟩
  exact hq
set_option maxHeartbeats 2000000 in
theorem t_bkLeave (S : St) (Q : Option AV → St → Prop) (hQ : ∀ S', Fr [80] [(79, 1), (79, 5)] S S' → (S' 79 1 = 0 ∧ S' 79 5 = 0) → (∀ j, 0 ≤ j → j < 4 → S' 80 j = -1) → Q none S') : Smm H_Book_leaveLand 0 [some (.inr (.inr 79)), none] [] S Q := by
  have loop : ∀ (i : Int) (S1 : St), ((0 ≤ i ∧ i ≤ 4) ∧ Fr [80] [] S S1 ∧ ∀ j, 0 ≤ j → j < i → S1 80 j = -1) → Smm H_Book_leaveLand 2 [some (.inr (.inr 79)), some (.inl i)] [] S1 Q := by
    refine lp_up (P := fun i S1 => Smm H_Book_leaveLand 2 [some (.inr (.inr 79)), some (.inl i)] [] S1 Q) _ 4 ?_ ?_
    · rintro i S1 hi1 ⟨hi2, hF, d⟩
      refine sound ok_Book_leaveLand [2] 20 ?_
      refine ⟨fun _ => ?_, fun z => absurd z (by omega)⟩
      have hF2 : Fr [] [(79, 1), (79, 5)] S1 (up (up S1 79 1 0) 79 5 0) := ((Fr.rf _ _ _).up _ _ _ rfl).up _ _ _ rfl
      refine hQ _ ((hF.mo rfl rfl).tr (hF2.mo rfl rfl)) ⟨by rw [up_n _ _ _ (by decide), up_s], up_s _ _ _ _⟩ (fun j j0 j1 => ?_)
      rw [hF2.c 80 rfl]
      exact d j j0 (by omega)
    · rintro i S1 hi1 ⟨hi2, hF, d⟩ ih
      have hc : ¬ 4 ≤ i := by omega
      have hix : 0 ≤ i ∧ i < 4 := by omega
      have h1 : 0 ≤ i + 1 ∧ i + 1 ≤ 4 := by omega
      have hnew : ∀ j, 0 ≤ j → j < i + 1 → up S1 80 i (-1) 80 j = -1 := fun j j0 j1 => by
        by_cases z : j = i
        · rw [z, up_s]
        · rw [up_n _ _ _ z]; exact d j j0 (by omega)
      have e : i + 1 = i32 (i + 1) := (i32_id (by omega) (by omega)).symm
      refine sound ok_Book_leaveLand [2] 20 ?_
      refine ⟨fun z => absurd z hc, fun _ => ?_⟩
      refine ⟨hix, ?_⟩
      exact Smm.sub (ih _ ⟨h1, hF.up _ _ _ rfl, hnew⟩) ⟨Or.inr rfl, Or.inr (sI e), trivial⟩
  refine sound ok_Book_leaveLand [2] 20 ?_
  exact loop 0 S ⟨by omega, Fr.rf _ _ _, fun j j0 j1 => absurd j1 (by omega)⟩
theorem t_bkScratch (S : St) (g s p : Int) (Q : Option AV → St → Prop) (h : 0 ≤ S 79 1 ∧ S 79 1 < 10) (hQ : Q none (up (up (up (up S 81 (S 79 1) g) 82 (S 79 1) s) 83 (S 79 1) p) 79 1 (S 79 1 + 1))) : Smm H_Book_addScratch 0 [some (.inr (.inr 79)), some (.inl g), some (.inl s), some (.inl p)] [] S Q := by
  have hc : ¬ 10 ≤ S 79 1 := by omega
  have e : i32 (S 79 1 + 1) = S 79 1 + 1 := i32_id (by omega) (by omega)
  rw [← e] at hQ
  refine sound ok_Book_addScratch [] 40 ?_
  refine ⟨fun z => absurd z hc, fun _ => ?_⟩
  refine ⟨h, ?_⟩
  refine ⟨h, ?_⟩
  refine ⟨h, ?_⟩
  exact hQ
theorem t_bkDraw (S : St) (m : Int) (Q : Option AV → St → Prop) (hm : 1 ≤ m ∧ m ≤ 7) (hQ : Q (some (.inl (drV (drN (S 79 9)) m))) (up S 79 9 (drN (S 79 9)))) : Smm H_Book_draw 0 [some (.inr (.inr 79)), some (.inl m)] [] S Q := by
  refine sound ok_Book_draw [] 60 ?_
  refine ⟨fun _ => ?_, fun z => absurd z (by omega)⟩
  refine ⟨by omega, ?_⟩
  exact hQ
theorem nt32 {n : Int} (h : 0 ≤ n ∧ n < 40) : i32 (n * 4) = 4 * n := by rw [i32_id (by omega) (by omega)]; omega
theorem t_bkNight (S : St) (a v : Int) (Q : Option AV → St → Prop) (h : 0 ≤ S 79 5 ∧ S 79 5 < 40) (hQ : ∀ S', Fr [84, 85, 86] [(79, 5)] S S' → (S' 79 5 = S 79 5 + 1) → (∀ j, S' 84 j = if 4 * S 79 5 ≤ j ∧ j < 4 * S 79 5 + 4 then S 101 (j - 4 * S 79 5) else S 84 j) → (∀ j, S' 85 j = if j = S 79 5 then v else S 85 j) → (∀ j, S' 86 j = if j = S 79 5 then a else S 86 j) → Q (some (.inl v)) S') : Smm H_Book_addNight 0 [some (.inr (.inr 79)), some (.inr (.inl a)), none, some (.inr (.inr 101)), some (.inl v)] [] S Q := by
  have hc : ¬ 40 ≤ S 79 5 := by omega
  have hb : (0 : Int) ≤ 0 ∧ 0 ≤ 4 * S 79 5 ∧ (0 : Int) ≤ 4 ∧ (0 : Int) + 4 ≤ 4 ∧ 4 * S 79 5 + 4 ≤ 160 := by omega
  have e : i32 (S 79 5 + 1) = S 79 5 + 1 := i32_id (by omega) (by omega)
  have e4 := nt32 h
  have hq := hQ (up (up (up (cpS S 101 0 84 (4 * S 79 5) 4) 85 (S 79 5) v) 86 (S 79 5) a) 79 5 (S 79 5 + 1)) (((((Fr.rf _ _ S).cp _ _ _ _ _ rfl).up _ _ _ rfl).up _ _ _ rfl).up _ _ _ rfl) (up_s _ _ _ _) (fun j => ?_) (fun j => ?_) (fun j => ?_)
  · rw [← e4, ← e] at hq
    rw [← e4] at hb
    refine sound ok_Book_addNight [] 60 ?_
    refine ⟨fun z => absurd z hc, fun _ => ?_⟩
    refine ⟨hb, ?_⟩
    refine ⟨h, ?_⟩
    refine ⟨h, ?_⟩
    exact hq
  · rw [up_o _ _ _ (by decide), up_o _ _ _ (by decide), up_o _ _ _ (by decide), cpS_c]
    show (if _ then _ else _) = _
    by_cases z : 4 * S 79 5 ≤ j ∧ j < 4 * S 79 5 + 4
    · rw [if_pos z, if_pos z, Int.zero_add]
    · rw [if_neg z, if_neg z]
  · rw [up_o _ _ _ (by decide), up_o _ _ _ (by decide)]
    by_cases z : j = S 79 5
    · rw [if_pos z, z, up_s]
    · rw [if_neg z, up_n _ _ _ z, cp_o _ _ _ _ _ (by decide)]
  · rw [up_o _ _ _ (by decide)]
    by_cases z : j = S 79 5
    · rw [if_pos z, z, up_s]
    · rw [if_neg z, up_n _ _ _ z, up_o _ _ _ (by decide), cp_o _ _ _ _ _ (by decide)]
theorem t_bkDrop (S : St) (Q : Option AV → St → Prop) (h : 0 < S 79 5 ∧ S 79 5 ≤ 40) (hQ : Q (some (.inl (S 79 5 - 1))) (up (up S 79 5 (S 79 5 - 1)) 79 9 (S 86 (S 79 5 - 1)))) : Smm H_Book_dropNight 0 [some (.inr (.inr 79))] [] S Q := by
  have hb : 0 ≤ S 79 5 - 1 ∧ S 79 5 - 1 < 40 := by omega
  have e : i32 (S 79 5 - 1) = S 79 5 - 1 := i32_id (by omega) (by omega)
  rw [← e] at hQ hb
  refine sound ok_Book_dropNight [] 60 ?_
  refine ⟨fun z => absurd z (by omega), fun _ => ?_⟩
  refine ⟨hb, ?_⟩
  exact hQ
/-- how many of the nights opened -/
def smF (t : Int → Int) : Nat → Int
  | 0 => 0
  | k + 1 => smF t k + t k
theorem smF_nz {t t' : Int → Int} : ∀ k : Nat, (∀ j : Int, 0 ≤ j → j < k → t j = if t' j = 0 then 0 else 1) → smF t k = nzF t' k
  | 0, _ => rfl
  | k + 1, h => by
    rw [smF, nzF, smF_nz k (fun j j0 j1 => h j j0 (by omega)), h k (by omega) (by omega)]
    split <;> omega
set_option maxHeartbeats 2000000 in
theorem t_bkOpened (S : St) (t' : Int → Int) (k : Nat) (Q : Option AV → St → Prop) (hk : S 79 5 = k ∧ k ≤ 40) (h : ∀ j : Int, 0 ≤ j → j < k → S 85 j = if t' j = 0 then 0 else 1) (hQ : Q (some (.inl (nzF t' k))) S) : Smm H_Book_countOpened 0 [some (.inr (.inr 79)), none, none] [] S Q := by
  rw [← smF_nz k h] at hQ
  have loop : ∀ (d i : Nat), i + d = k → Smm H_Book_countOpened 4 [some (.inr (.inr 79)), some (.inl (smF (S 85) i)), some (.inl (i : Int))] [] S Q := by
    intro d
    induction d with
    | zero =>
      intro i hi
      have : i = k := by omega
      subst this
      refine sound ok_Book_countOpened [4] 20 ?_
      exact ⟨fun _ => hQ, fun z => absurd z (by rw [hk.1]; exact Int.lt_irrefl _)⟩
    | succ d ih =>
      intro i hi
      have hng : ¬ S 79 5 ≤ (i : Int) := by rw [hk.1]; omega
      have hix : (0 : Int) ≤ i ∧ (i : Int) < 40 := by omega
      have hb := nzF_b t' i
      rw [← smF_nz i (fun j j0 j1 => h j j0 (by omega))] at hb
      have hv := h i (by omega) (by omega)
      have e1 : smF (S 85) i + S 85 i = i32 (smF (S 85) i + S 85 i) := (i32_id (by rw [hv]; split <;> omega) (by rw [hv]; split <;> omega)).symm
      have ih := ih (i + 1) (by clear e1; omega)
      rw [smF] at ih
      have e : ((i + 1 : Nat) : Int) = i32 ((i : Int) + 1) := i32_s (by clear e1; omega)
      refine sound ok_Book_countOpened [4] 20 ?_
      refine ⟨fun z => absurd z hng, fun _ => ?_⟩
      refine ⟨hix, ?_⟩
      exact Smm.sub ih ⟨Or.inr rfl, Or.inr (sI e1), Or.inr (sI e), trivial⟩
  refine sound ok_Book_countOpened [4] 20 ?_
  exact loop k 0 (by omega)
