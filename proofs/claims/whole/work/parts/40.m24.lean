/-! the reference: images, the tape, the land laid -/
def imS (S T : St) : Prop := Fr [35, 36, 37, 38, 39] [(0, 0), (0, 56), (0, 57), (0, 58), (0, 59)] S T ∧ (T 0 56 = 1 ∧ T 0 57 = S 0 52 ∧ T 0 58 = S 0 49 ∧ T 0 59 = S 0 51) ∧ (∀ j, 0 ≤ j → j < 4 → T 35 j = S 9 j) ∧ (∀ j, 0 ≤ j → j < 30 → T 36 j = S 30 j) ∧ (∀ j, 0 ≤ j → j < 160 → T 37 j = S 32 j) ∧ (∀ j, 0 ≤ j → j < 40 → T 38 j = S 33 j ∧ T 39 j = S 34 j)
set_option maxHeartbeats 2000000 in
theorem t_M_image (S : St) (Q : Option AV → St → Prop) (h0 : S 0 18 = 0 → Q (some (.inl (-1))) (th S)) (h1 : ¬ S 0 18 = 0 → ∀ T, imS S T → Q (some (.inl (S 0 52))) T) : Smm H_M_image 0 [some (.inr (.inr 0)), none] [] S Q := by
  have e18 : th S 0 18 = S 0 18 := th_0 S (by decide)
  refine sound ok_M_image [14] 30 ?_
  refine ⟨fun g1 => ?_, fun g1 => h0 (e18 ▸ g1)⟩
  replace g1 : ¬ S 0 18 = 0 := fun z => g1 (e18.trans z)
  have B : ∀ c, c ≠ 0 → (up (up (up (up (th S) 0 56 1) 0 57 (S 0 52)) 0 58 (S 0 49)) 0 59 (S 0 51)) c = S c := fun c hc => by rw [up_o _ _ _ hc, up_o _ _ _ hc, up_o _ _ _ hc, up_o _ _ _ hc, th_c S hc]
  have out : ∀ T, Fr [35, 36, 37, 38, 39] [] (up (up (up (up (th S) 0 56 1) 0 57 (S 0 52)) 0 58 (S 0 49)) 0 59 (S 0 51)) T → (∀ j, 0 ≤ j → j < 4 → T 35 j = S 9 j) → (∀ j, 0 ≤ j → j < 30 → T 36 j = S 30 j) → (∀ j, 0 ≤ j → j < 160 → T 37 j = S 32 j) → (∀ j, 0 ≤ j → j < 40 → T 38 j = S 33 j ∧ T 39 j = S 34 j) → Q (some (.inl (T 0 52))) T := by
    intro T hF d0 d1 d2 d3
    have hq := h1 g1 T ⟨?_, ⟨?_, ?_, ?_, ?_⟩, d0, d1, d2, d3⟩
    · have : T 0 52 = S 0 52 := by rw [hF.c 0 rfl, up_n _ _ _ (by decide), up_n _ _ _ (by decide), up_n _ _ _ (by decide), up_n _ _ _ (by decide)]; exact th_0 S (by decide)
      rw [this]
      exact hq
    · exact ((((((Fr.rf _ _ S).up _ _ _ rfl).up _ _ _ rfl).up _ _ _ rfl).up _ _ _ rfl).up _ _ _ rfl).tr (hF.mo rfl rfl)
    · rw [hF.c 0 rfl, up_n _ _ _ (by decide), up_n _ _ _ (by decide), up_n _ _ _ (by decide), up_s]
    · rw [hF.c 0 rfl, up_n _ _ _ (by decide), up_n _ _ _ (by decide), up_s]
    · rw [hF.c 0 rfl, up_n _ _ _ (by decide), up_s]
    · rw [hF.c 0 rfl, up_s]
  have lp3 : ∀ (i : Int) (T : St), ((0 ≤ i ∧ i ≤ 40) ∧ Fr [35, 36, 37, 38, 39] [] (up (up (up (up (th S) 0 56 1) 0 57 (S 0 52)) 0 58 (S 0 49)) 0 59 (S 0 51)) T ∧ (∀ j, 0 ≤ j → j < 4 → T 35 j = S 9 j) ∧ (∀ j, 0 ≤ j → j < 30 → T 36 j = S 30 j) ∧ (∀ j, 0 ≤ j → j < 160 → T 37 j = S 32 j) ∧ (∀ j, 0 ≤ j → j < i → T 38 j = S 33 j ∧ T 39 j = S 34 j)) → Smm H_M_image 123 [some (.inr (.inr 0)), some (.inl i)] [] T Q := by
    refine lp_up (P := fun i T => Smm H_M_image 123 [some (.inr (.inr 0)), some (.inl i)] [] T Q) _ 40 ?_ ?_
    · rintro i T hi ⟨hi2, hF, d0, d1, d2, d3⟩
      refine sound ok_M_image [] 30 ?_
      refine ⟨fun _ => ?_, fun h3 => absurd h3 (by omega)⟩
      exact out T hF d0 d1 d2 (fun j j0 j1 => d3 j j0 (by omega))
    · rintro i T hi ⟨hi2, hF, d0, d1, d2, d3⟩ ih
      have es : T 33 = S 33 := by rw [hF.c 33 rfl]; exact B 33 (by decide)
      have es2 : T 34 = S 34 := by rw [hF.c 34 rfl]; exact B 34 (by decide)
      refine Smm.can (fun hC => ?_)
      refine sound ok_M_image [123] 60 ?_
      refine ⟨fun h3 => absurd h3 (by omega), fun _ => ?_⟩
      have bi : 0 ≤ i ∧ i < 40 := by omega
      refine ⟨bi, ?_⟩
      refine ⟨bi, ?_⟩
      refine ⟨hC 33 i, ?_⟩
      refine ⟨bi, ?_⟩
      refine ⟨bi, ?_⟩
      have es3 : up T 38 i (T 33 i) 34 = S 34 := by rw [up_o _ _ _ (by decide), es2]
      refine Smm.sub (ih (up (up T 38 i (T 33 i)) 39 i (up T 38 i (T 33 i) 34 i)) ⟨by omega, (hF.up _ _ _ rfl).up _ _ _ rfl, fun j j0 j1 => ?_, fun j j0 j1 => ?_, fun j j0 j1 => ?_, fun j j0 j1 => ?_⟩) ⟨Or.inr rfl, Or.inr (sI (i32_id (by omega) (by omega)).symm), trivial⟩
      · rw [up_o _ _ _ (by decide), up_o _ _ _ (by decide)]; exact d0 j j0 j1
      · rw [up_o _ _ _ (by decide), up_o _ _ _ (by decide)]; exact d1 j j0 j1
      · rw [up_o _ _ _ (by decide), up_o _ _ _ (by decide)]; exact d2 j j0 j1
      · by_cases hj : j = i
        · rw [hj, up_o _ _ _ (by decide), up_s, up_s, es3, es]
          exact ⟨rfl, rfl⟩
        · rw [up_o _ _ _ (by decide), up_n _ _ _ hj, up_n _ _ _ hj, up_o _ _ _ (by decide)]
          exact d3 j j0 (by omega)
  have lp2 : ∀ (i : Int) (T : St), ((0 ≤ i ∧ i ≤ 160) ∧ Fr [35, 36, 37, 38, 39] [] (up (up (up (up (th S) 0 56 1) 0 57 (S 0 52)) 0 58 (S 0 49)) 0 59 (S 0 51)) T ∧ (∀ j, 0 ≤ j → j < 4 → T 35 j = S 9 j) ∧ (∀ j, 0 ≤ j → j < 30 → T 36 j = S 30 j) ∧ (∀ j, 0 ≤ j → j < i → T 37 j = S 32 j)) → Smm H_M_image 96 [some (.inr (.inr 0)), some (.inl i)] [] T Q := by
    refine lp_up (P := fun i T => Smm H_M_image 96 [some (.inr (.inr 0)), some (.inl i)] [] T Q) _ 160 ?_ ?_
    · rintro i T hi ⟨hi2, hF, d0, d1, d2⟩
      refine sound ok_M_image [123] 30 ?_
      refine ⟨fun _ => ?_, fun h3 => absurd h3 (by omega)⟩
      exact lp3 0 T ⟨by omega, hF, d0, d1, fun j j0 j1 => d2 j j0 (by omega), fun j j0 j1 => absurd j1 (by omega)⟩
    · rintro i T hi ⟨hi2, hF, d0, d1, d2⟩ ih
      have es : T 32 = S 32 := by rw [hF.c 32 rfl]; exact B 32 (by decide)
      have bi : 0 ≤ i ∧ i < 160 := by omega
      refine sound ok_M_image [96] 60 ?_
      refine ⟨fun h3 => absurd h3 (by omega), fun _ => ?_⟩
      refine ⟨bi, ?_⟩
      refine ⟨bi, ?_⟩
      refine Smm.sub (ih (up T 37 i (T 32 i)) ⟨by omega, hF.up _ _ _ rfl, fun j j0 j1 => ?_, fun j j0 j1 => ?_, fun j j0 j1 => ?_⟩) ⟨Or.inr rfl, Or.inr (sI (i32_id (by omega) (by omega)).symm), trivial⟩
      · rw [up_o _ _ _ (by decide)]; exact d0 j j0 j1
      · rw [up_o _ _ _ (by decide)]; exact d1 j j0 j1
      · by_cases hj : j = i
        · rw [hj, up_s, es]
        · rw [up_n _ _ _ hj]
          exact d2 j j0 (by omega)
  have lp1 : ∀ (i : Int) (T : St), ((0 ≤ i ∧ i ≤ 30) ∧ Fr [35, 36, 37, 38, 39] [] (up (up (up (up (th S) 0 56 1) 0 57 (S 0 52)) 0 58 (S 0 49)) 0 59 (S 0 51)) T ∧ (∀ j, 0 ≤ j → j < 4 → T 35 j = S 9 j) ∧ (∀ j, 0 ≤ j → j < i → T 36 j = S 30 j)) → Smm H_M_image 70 [some (.inr (.inr 0)), some (.inl i)] [] T Q := by
    refine lp_up (P := fun i T => Smm H_M_image 70 [some (.inr (.inr 0)), some (.inl i)] [] T Q) _ 30 ?_ ?_
    · rintro i T hi ⟨hi2, hF, d0, d1⟩
      refine sound ok_M_image [96] 30 ?_
      refine ⟨fun _ => ?_, fun h3 => absurd h3 (by omega)⟩
      exact lp2 0 T ⟨by omega, hF, d0, fun j j0 j1 => d1 j j0 (by omega), fun j j0 j1 => absurd j1 (by omega)⟩
    · rintro i T hi ⟨hi2, hF, d0, d1⟩ ih
      have es : T 30 = S 30 := by rw [hF.c 30 rfl]; exact B 30 (by decide)
      have bi : 0 ≤ i ∧ i < 30 := by omega
      refine sound ok_M_image [70] 60 ?_
      refine ⟨fun h3 => absurd h3 (by omega), fun _ => ?_⟩
      refine ⟨bi, ?_⟩
      refine ⟨bi, ?_⟩
      refine Smm.sub (ih (up T 36 i (T 30 i)) ⟨by omega, hF.up _ _ _ rfl, fun j j0 j1 => ?_, fun j j0 j1 => ?_⟩) ⟨Or.inr rfl, Or.inr (sI (i32_id (by omega) (by omega)).symm), trivial⟩
      · rw [up_o _ _ _ (by decide)]; exact d0 j j0 j1
      · by_cases hj : j = i
        · rw [hj, up_s, es]
        · rw [up_n _ _ _ hj]
          exact d1 j j0 (by omega)
  have lp0 : ∀ (i : Int) (T : St), ((0 ≤ i ∧ i ≤ 4) ∧ Fr [35, 36, 37, 38, 39] [] (up (up (up (up (th S) 0 56 1) 0 57 (S 0 52)) 0 58 (S 0 49)) 0 59 (S 0 51)) T ∧ (∀ j, 0 ≤ j → j < i → T 35 j = S 9 j)) → Smm H_M_image 45 [some (.inr (.inr 0)), some (.inl i)] [] T Q := by
    refine lp_up (P := fun i T => Smm H_M_image 45 [some (.inr (.inr 0)), some (.inl i)] [] T Q) _ 4 ?_ ?_
    · rintro i T hi ⟨hi2, hF, d0⟩
      refine sound ok_M_image [70] 30 ?_
      refine ⟨fun _ => ?_, fun h3 => absurd h3 (by omega)⟩
      exact lp1 0 T ⟨by omega, hF, fun j j0 j1 => d0 j j0 (by omega), fun j j0 j1 => absurd j1 (by omega)⟩
    · rintro i T hi ⟨hi2, hF, d0⟩ ih
      have es : T 9 = S 9 := by rw [hF.c 9 rfl]; exact B 9 (by decide)
      have bi : 0 ≤ i ∧ i < 4 := by omega
      refine sound ok_M_image [45] 60 ?_
      refine ⟨fun h3 => absurd h3 (by omega), fun _ => ?_⟩
      refine ⟨bi, ?_⟩
      refine ⟨bi, ?_⟩
      refine Smm.sub (ih (up T 35 i (T 9 i)) ⟨by omega, hF.up _ _ _ rfl, fun j j0 j1 => ?_⟩) ⟨Or.inr rfl, Or.inr (sI (i32_id (by omega) (by omega)).symm), trivial⟩
      · by_cases hj : j = i
        · rw [hj, up_s, es]
        · rw [up_n _ _ _ hj]
          exact d0 j j0 (by omega)
  have go := lp0 0 (up (up (up (up (th S) 0 56 1) 0 57 (S 0 52)) 0 58 (S 0 49)) 0 59 (S 0 51)) ⟨by omega, Fr.rf _ _ _, fun j j0 j1 => absurd j1 (by omega)⟩
  have f1 : up (th S) 0 56 1 0 52 = S 0 52 := by rw [up_n _ _ _ (by decide)]; exact th_0 S (by decide)
  have f2 : up (up (th S) 0 56 1) 0 57 (S 0 52) 0 49 = S 0 49 := by rw [up_n _ _ _ (by decide), up_n _ _ _ (by decide)]; exact th_0 S (by decide)
  have f3 : up (up (up (th S) 0 56 1) 0 57 (S 0 52)) 0 58 (S 0 49) 0 51 = S 0 51 := by rw [up_n _ _ _ (by decide), up_n _ _ _ (by decide), up_n _ _ _ (by decide)]; exact th_0 S (by decide)
  rw [← f3, ← f2, ← f1] at go
  refine sound ok_M_image [45] 60 ?_
  exact ⟨Or.inr rfl, go⟩
def bkS (S T : St) : Prop := Fr [9, 30, 32, 33, 34] [(0, 0), (0, 49), (0, 51), (0, 52)] S T ∧ (T 0 52 = S 0 57 ∧ T 0 49 = S 0 58 ∧ T 0 51 = S 0 59) ∧ (∀ j, 0 ≤ j → j < 4 → T 9 j = S 35 j) ∧ (∀ j, 0 ≤ j → j < 30 → T 30 j = S 36 j) ∧ (∀ j, 0 ≤ j → j < 160 → T 32 j = S 37 j) ∧ (∀ j, 0 ≤ j → j < 40 → T 33 j = S 38 j ∧ T 34 j = S 39 j)
set_option maxHeartbeats 2000000 in
theorem t_M_back (S : St) (Q : Option AV → St → Prop) (h0 : (S 0 18 = 0 ∨ S 0 56 = 0) → Q (some (.inl (-1))) (th S)) (h1 : ¬ S 0 18 = 0 → ¬ S 0 56 = 0 → ∀ T, bkS S T → Q (some (.inl (S 0 57))) T) : Smm H_M_back 0 [some (.inr (.inr 0)), none] [] S Q := by
  have e18 : th S 0 18 = S 0 18 := th_0 S (by decide)
  have e56 : th S 0 56 = S 0 56 := th_0 S (by decide)
  refine sound ok_M_back [21] 30 ?_
  refine ⟨fun g1 => h0 (Or.inl (e18 ▸ g1)), fun g1 => ?_⟩
  refine ⟨fun g2 => ?_, fun g2 => h0 (Or.inr (e56 ▸ g2))⟩
  replace g1 : ¬ S 0 18 = 0 := fun z => g1 (e18.trans z)
  replace g2 : ¬ S 0 56 = 0 := fun z => g2 (e56.trans z)
  have B : ∀ c, c ≠ 0 → (up (up (up (th S) 0 52 (S 0 57)) 0 49 (S 0 58)) 0 51 (S 0 59)) c = S c := fun c hc => by rw [up_o _ _ _ hc, up_o _ _ _ hc, up_o _ _ _ hc, th_c S hc]
  have out : ∀ T, Fr [9, 30, 32, 33, 34] [] (up (up (up (th S) 0 52 (S 0 57)) 0 49 (S 0 58)) 0 51 (S 0 59)) T → (∀ j, 0 ≤ j → j < 4 → T 9 j = S 35 j) → (∀ j, 0 ≤ j → j < 30 → T 30 j = S 36 j) → (∀ j, 0 ≤ j → j < 160 → T 32 j = S 37 j) → (∀ j, 0 ≤ j → j < 40 → T 33 j = S 38 j ∧ T 34 j = S 39 j) → Q (some (.inl (T 0 52))) T := by
    intro T hF d0 d1 d2 d3
    have hq := h1 g1 g2 T ⟨?_, ⟨?_, ?_, ?_⟩, d0, d1, d2, d3⟩
    · have : T 0 52 = S 0 57 := by rw [hF.c 0 rfl, up_n _ _ _ (by decide), up_n _ _ _ (by decide), up_s]
      rw [this]
      exact hq
    · exact (((((Fr.rf _ _ S).up _ _ _ rfl).up _ _ _ rfl).up _ _ _ rfl).up _ _ _ rfl).tr (hF.mo rfl rfl)
    · rw [hF.c 0 rfl, up_n _ _ _ (by decide), up_n _ _ _ (by decide), up_s]
    · rw [hF.c 0 rfl, up_n _ _ _ (by decide), up_s]
    · rw [hF.c 0 rfl, up_s]
  have lp3 : ∀ (i : Int) (T : St), ((0 ≤ i ∧ i ≤ 40) ∧ Fr [9, 30, 32, 33, 34] [] (up (up (up (th S) 0 52 (S 0 57)) 0 49 (S 0 58)) 0 51 (S 0 59)) T ∧ (∀ j, 0 ≤ j → j < 4 → T 9 j = S 35 j) ∧ (∀ j, 0 ≤ j → j < 30 → T 30 j = S 36 j) ∧ (∀ j, 0 ≤ j → j < 160 → T 32 j = S 37 j) ∧ (∀ j, 0 ≤ j → j < i → T 33 j = S 38 j ∧ T 34 j = S 39 j)) → Smm H_M_back 125 [some (.inr (.inr 0)), some (.inl i)] [] T Q := by
    refine lp_up (P := fun i T => Smm H_M_back 125 [some (.inr (.inr 0)), some (.inl i)] [] T Q) _ 40 ?_ ?_
    · rintro i T hi ⟨hi2, hF, d0, d1, d2, d3⟩
      refine sound ok_M_back [] 30 ?_
      refine ⟨fun _ => ?_, fun h3 => absurd h3 (by omega)⟩
      exact out T hF d0 d1 d2 (fun j j0 j1 => d3 j j0 (by omega))
    · rintro i T hi ⟨hi2, hF, d0, d1, d2, d3⟩ ih
      have es : T 38 = S 38 := by rw [hF.c 38 rfl]; exact B 38 (by decide)
      have es2 : T 39 = S 39 := by rw [hF.c 39 rfl]; exact B 39 (by decide)
      refine Smm.can (fun hC => ?_)
      refine sound ok_M_back [125] 60 ?_
      refine ⟨fun h3 => absurd h3 (by omega), fun _ => ?_⟩
      have bi : 0 ≤ i ∧ i < 40 := by omega
      refine ⟨bi, ?_⟩
      refine ⟨bi, ?_⟩
      refine ⟨hC 38 i, ?_⟩
      refine ⟨bi, ?_⟩
      refine ⟨bi, ?_⟩
      have es3 : up T 33 i (T 38 i) 39 = S 39 := by rw [up_o _ _ _ (by decide), es2]
      refine Smm.sub (ih (up (up T 33 i (T 38 i)) 34 i (up T 33 i (T 38 i) 39 i)) ⟨by omega, (hF.up _ _ _ rfl).up _ _ _ rfl, fun j j0 j1 => ?_, fun j j0 j1 => ?_, fun j j0 j1 => ?_, fun j j0 j1 => ?_⟩) ⟨Or.inr rfl, Or.inr (sI (i32_id (by omega) (by omega)).symm), trivial⟩
      · rw [up_o _ _ _ (by decide), up_o _ _ _ (by decide)]; exact d0 j j0 j1
      · rw [up_o _ _ _ (by decide), up_o _ _ _ (by decide)]; exact d1 j j0 j1
      · rw [up_o _ _ _ (by decide), up_o _ _ _ (by decide)]; exact d2 j j0 j1
      · by_cases hj : j = i
        · rw [hj, up_o _ _ _ (by decide), up_s, up_s, es3, es]
          exact ⟨rfl, rfl⟩
        · rw [up_o _ _ _ (by decide), up_n _ _ _ hj, up_n _ _ _ hj, up_o _ _ _ (by decide)]
          exact d3 j j0 (by omega)
  have lp2 : ∀ (i : Int) (T : St), ((0 ≤ i ∧ i ≤ 160) ∧ Fr [9, 30, 32, 33, 34] [] (up (up (up (th S) 0 52 (S 0 57)) 0 49 (S 0 58)) 0 51 (S 0 59)) T ∧ (∀ j, 0 ≤ j → j < 4 → T 9 j = S 35 j) ∧ (∀ j, 0 ≤ j → j < 30 → T 30 j = S 36 j) ∧ (∀ j, 0 ≤ j → j < i → T 32 j = S 37 j)) → Smm H_M_back 98 [some (.inr (.inr 0)), some (.inl i)] [] T Q := by
    refine lp_up (P := fun i T => Smm H_M_back 98 [some (.inr (.inr 0)), some (.inl i)] [] T Q) _ 160 ?_ ?_
    · rintro i T hi ⟨hi2, hF, d0, d1, d2⟩
      refine sound ok_M_back [125] 30 ?_
      refine ⟨fun _ => ?_, fun h3 => absurd h3 (by omega)⟩
      exact lp3 0 T ⟨by omega, hF, d0, d1, fun j j0 j1 => d2 j j0 (by omega), fun j j0 j1 => absurd j1 (by omega)⟩
    · rintro i T hi ⟨hi2, hF, d0, d1, d2⟩ ih
      have es : T 37 = S 37 := by rw [hF.c 37 rfl]; exact B 37 (by decide)
      have bi : 0 ≤ i ∧ i < 160 := by omega
      refine sound ok_M_back [98] 60 ?_
      refine ⟨fun h3 => absurd h3 (by omega), fun _ => ?_⟩
      refine ⟨bi, ?_⟩
      refine ⟨bi, ?_⟩
      refine Smm.sub (ih (up T 32 i (T 37 i)) ⟨by omega, hF.up _ _ _ rfl, fun j j0 j1 => ?_, fun j j0 j1 => ?_, fun j j0 j1 => ?_⟩) ⟨Or.inr rfl, Or.inr (sI (i32_id (by omega) (by omega)).symm), trivial⟩
      · rw [up_o _ _ _ (by decide)]; exact d0 j j0 j1
      · rw [up_o _ _ _ (by decide)]; exact d1 j j0 j1
      · by_cases hj : j = i
        · rw [hj, up_s, es]
        · rw [up_n _ _ _ hj]
          exact d2 j j0 (by omega)
  have lp1 : ∀ (i : Int) (T : St), ((0 ≤ i ∧ i ≤ 30) ∧ Fr [9, 30, 32, 33, 34] [] (up (up (up (th S) 0 52 (S 0 57)) 0 49 (S 0 58)) 0 51 (S 0 59)) T ∧ (∀ j, 0 ≤ j → j < 4 → T 9 j = S 35 j) ∧ (∀ j, 0 ≤ j → j < i → T 30 j = S 36 j)) → Smm H_M_back 72 [some (.inr (.inr 0)), some (.inl i)] [] T Q := by
    refine lp_up (P := fun i T => Smm H_M_back 72 [some (.inr (.inr 0)), some (.inl i)] [] T Q) _ 30 ?_ ?_
    · rintro i T hi ⟨hi2, hF, d0, d1⟩
      refine sound ok_M_back [98] 30 ?_
      refine ⟨fun _ => ?_, fun h3 => absurd h3 (by omega)⟩
      exact lp2 0 T ⟨by omega, hF, d0, fun j j0 j1 => d1 j j0 (by omega), fun j j0 j1 => absurd j1 (by omega)⟩
    · rintro i T hi ⟨hi2, hF, d0, d1⟩ ih
      have es : T 36 = S 36 := by rw [hF.c 36 rfl]; exact B 36 (by decide)
      have bi : 0 ≤ i ∧ i < 30 := by omega
      refine sound ok_M_back [72] 60 ?_
      refine ⟨fun h3 => absurd h3 (by omega), fun _ => ?_⟩
      refine ⟨bi, ?_⟩
      refine ⟨bi, ?_⟩
      refine Smm.sub (ih (up T 30 i (T 36 i)) ⟨by omega, hF.up _ _ _ rfl, fun j j0 j1 => ?_, fun j j0 j1 => ?_⟩) ⟨Or.inr rfl, Or.inr (sI (i32_id (by omega) (by omega)).symm), trivial⟩
      · rw [up_o _ _ _ (by decide)]; exact d0 j j0 j1
      · by_cases hj : j = i
        · rw [hj, up_s, es]
        · rw [up_n _ _ _ hj]
          exact d1 j j0 (by omega)
  have lp0 : ∀ (i : Int) (T : St), ((0 ≤ i ∧ i ≤ 4) ∧ Fr [9, 30, 32, 33, 34] [] (up (up (up (th S) 0 52 (S 0 57)) 0 49 (S 0 58)) 0 51 (S 0 59)) T ∧ (∀ j, 0 ≤ j → j < i → T 9 j = S 35 j)) → Smm H_M_back 47 [some (.inr (.inr 0)), some (.inl i)] [] T Q := by
    refine lp_up (P := fun i T => Smm H_M_back 47 [some (.inr (.inr 0)), some (.inl i)] [] T Q) _ 4 ?_ ?_
    · rintro i T hi ⟨hi2, hF, d0⟩
      refine sound ok_M_back [72] 30 ?_
      refine ⟨fun _ => ?_, fun h3 => absurd h3 (by omega)⟩
      exact lp1 0 T ⟨by omega, hF, fun j j0 j1 => d0 j j0 (by omega), fun j j0 j1 => absurd j1 (by omega)⟩
    · rintro i T hi ⟨hi2, hF, d0⟩ ih
      have es : T 35 = S 35 := by rw [hF.c 35 rfl]; exact B 35 (by decide)
      have bi : 0 ≤ i ∧ i < 4 := by omega
      refine sound ok_M_back [47] 60 ?_
      refine ⟨fun h3 => absurd h3 (by omega), fun _ => ?_⟩
      refine ⟨bi, ?_⟩
      refine ⟨bi, ?_⟩
      refine Smm.sub (ih (up T 9 i (T 35 i)) ⟨by omega, hF.up _ _ _ rfl, fun j j0 j1 => ?_⟩) ⟨Or.inr rfl, Or.inr (sI (i32_id (by omega) (by omega)).symm), trivial⟩
      · by_cases hj : j = i
        · rw [hj, up_s, es]
        · rw [up_n _ _ _ hj]
          exact d0 j j0 (by omega)
  have go := lp0 0 (up (up (up (th S) 0 52 (S 0 57)) 0 49 (S 0 58)) 0 51 (S 0 59)) ⟨by omega, Fr.rf _ _ _, fun j j0 j1 => absurd j1 (by omega)⟩
  have f1 : th S 0 57 = S 0 57 := th_0 S (by decide)
  have f2 : up (th S) 0 52 (S 0 57) 0 58 = S 0 58 := by rw [up_n _ _ _ (by decide)]; exact th_0 S (by decide)
  have f3 : up (up (th S) 0 52 (S 0 57)) 0 49 (S 0 58) 0 59 = S 0 59 := by rw [up_n _ _ _ (by decide), up_n _ _ _ (by decide)]; exact th_0 S (by decide)
  rw [← f3, ← f2, ← f1] at go
  refine sound ok_M_back [47] 60 ?_
  exact go
