/-! the sets that open in all ways -/
theorem os_c {p o : Nat → Bool} {s : Nat} (h : p s = false ∨ o s = true) (j : Nat) : (p j && (decide ((s : Int) ≤ j) || o j)) = (p j && (decide ((s : Int) + 1 ≤ j) || o j)) := by
  by_cases z : j = s
  · rw [z]
    rcases h with h | h
    · rw [h]; rfl
    · rw [h]; simp
  · rw [show decide ((s : Int) ≤ j) = decide ((s : Int) + 1 ≤ j) from decide_eq_decide.mpr (by omega)]
theorem os_d {p o : Nat → Bool} {s : Nat} (h : o s = false) (j : Nat) : ((p j && (decide ((s : Int) ≤ j) || o j)) && decide (¬ j = s)) = (p j && (decide ((s : Int) + 1 ≤ j) || o j)) := by
  by_cases z : j = s
  · rw [z, h, show decide ((s : Int) + 1 ≤ s) = false from decide_eq_false (by omega)]; simp
  · rw [show decide ((s : Int) ≤ j) = decide ((s : Int) + 1 ≤ j) from decide_eq_decide.mpr (by omega), show decide (¬ j = s) = true from decide_eq_true z, Bool.and_true]
set_option maxHeartbeats 2000000 in
theorem os_body (T S : St) (f : Int → Int) (pre : List (Int → Int)) (w K : Nat) (x5 x6 : Int) (x7 : Option AV) (Q : Option AV → St → Prop) (hT : mAs T) (hf : ofOk (T 0 20) f) (hW : wkI_l T S f) (hw : 2 ≤ w ∧ w ≤ 4) (hKe : 2 ^ w = K) (hI : BtI (S 106 13) (pS T w pre))
    (hQ : ∀ (S' : St) (y : Option AV), Fr [103] [(102, 1), (106, 13)] S S' → BtI (S' 106 13) (pS T w (pre ++ [f])) → Smm H_Survey_openSets 108 [some (.inr (.inr 106)), some (.inr (.inr 95)), some (.inr (.inr 63)), some (.inr (.inr 80)), some (.inl (K : Int)), some (.inl x5), some (.inl x6), y] [] S' Q) : Smm H_Survey_openSets 56 [some (.inr (.inr 106)), some (.inr (.inr 95)), some (.inr (.inr 63)), some (.inr (.inr 80)), some (.inl (K : Int)), some (.inl x5), some (.inl x6), x7] [] S Q := by
  have hK := pw2 hw
  rw [hKe] at hK
  have sets : ∀ (i : Int) (S1 : St), ((1 ≤ i ∧ i ≤ K) ∧ Fr [103] [(102, 1), (106, 13)] S S1 ∧ BtI (S1 106 13) (fun j => pS T w pre j && (decide (i ≤ j) || opS T f j))) → Smm H_Survey_openSets 59 [some (.inr (.inr 106)), some (.inr (.inr 95)), some (.inr (.inr 63)), some (.inr (.inr 80)), some (.inl (K : Int)), some (.inl x5), some (.inl x6), some (.inl i)] [] S1 Q := by
    refine lp_up (P := fun i (S1 : St) => Smm H_Survey_openSets 59 [some (.inr (.inr 106)), some (.inr (.inr 95)), some (.inr (.inr 63)), some (.inr (.inr 80)), some (.inl (K : Int)), some (.inl x5), some (.inl x6), some (.inl i)] [] S1 Q) _ K ?_ ?_
    · rintro i S1 hi ⟨hi2, hF1, hI1⟩
      rw [show i = K by omega] at hI1 ⊢
      refine sound ok_Survey_openSets [108] 20 ?_
      refine ⟨fun _ => hQ S1 _ hF1 (hI1.congr (fun j => ?_)), fun z => absurd z (Int.lt_irrefl _)⟩
      unfold pS
      rw [List.all_append, List.all_cons, List.all_nil, hKe]
      by_cases z : 1 ≤ j ∧ j < K
      · have : ¬ (K : Int) ≤ j := by omega
        simp [z, this]
      · simp [z]
    · rintro i S1 hi ⟨hi2, hF1, hI1⟩ ih
      obtain ⟨s, rfl⟩ : ∃ k : Nat, i = k := ⟨i.toNat, by omega⟩
      have hs : s < K := by omega
      have hs1 : 1 ≤ s := by omega
      have hK16 := hK.2
      clear hi hi2
      have hW1 := wkI_fr_l hW hF1 rfl rfl
      have hbit := hI1.bit (k := s) (by omega)
      have go : ∀ S3 : St, Fr [103] [(102, 1), (106, 13)] S S3 → BtI (S3 106 13) (fun j => pS T w pre j && (decide ((s : Int) + 1 ≤ j) || opS T f j)) → Smm H_Survey_openSets 102 [some (.inr (.inr 106)), some (.inr (.inr 95)), some (.inr (.inr 63)), some (.inr (.inr 80)), some (.inl (K : Int)), some (.inl x5), some (.inl x6), some (.inl (s : Int))] [] S3 Q := by
        intro S3 g1 g4
        refine sound ok_Survey_openSets [59] 20 ?_
        exact Smm.sub (ih S3 ⟨by omega, g1, g4⟩) ⟨Or.inr rfl, Or.inr rfl, Or.inr rfl, Or.inr rfl, Or.inr rfl, Or.inr rfl, Or.inr rfl, Or.inr (sI (i32_id (by omega) (by omega)).symm), trivial⟩
      refine sound ok_Survey_openSets [102] 60 ?_
      refine ⟨fun z => absurd z (by omega), fun _ => ?_⟩
      refine ⟨fun z => ?_, fun z => ?_⟩
      · refine go S1 hF1 (hI1.congr (os_c (Or.inl ?_)))
        rw [hbit] at z
        by_cases y : pS T w pre s = true
        · rw [if_pos (by rw [y]; simp)] at z
          exact absurd z (by decide)
        · simpa using y
      · refine t_isOpenBy T S1 f s _ hT hf hW1 (fun S2 hF2 hop => ?_) (fun S2 hF2 hop => ?_)
        · refine ⟨fun _ => ?_, fun z => absurd z (by decide)⟩
          refine go S2 (hF1.tr (hF2.mo rfl rfl)) ?_
          rw [hF2.c 106 rfl]
          exact hI1.congr (os_c (Or.inr hop))
        · refine ⟨fun z => absurd rfl z, fun _ => ?_⟩
          refine go _ ((hF1.tr (hF2.mo rfl rfl)).up 106 13 _ rfl) ?_
          rw [up_s, hF2.c 106 rfl]
          exact (hI1.clr (k := s) (by omega)).congr (os_d hop)
  refine sound ok_Survey_openSets [59] 20 ?_
  refine sets 1 S ⟨by omega, Fr.rf _ _ _, hI.congr (fun j => ?_)⟩
  unfold pS
  by_cases z : 1 ≤ j ∧ j < 2 ^ w
  · have : (1 : Int) ≤ j := by omega
    simp [this]
  · simp [z]
