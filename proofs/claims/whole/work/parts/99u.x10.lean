/-! the class: images -/
/-- the land as it is tried, over cells that stay -/
theorem tl_sm {R U : St} (e19 : U 0 19 = R 0 19) (e20 : U 0 20 = R 0 20) (e21 : U 0 21 = R 0 21) (e22 : U 0 22 = R 0 22) (kb : U 12 = R 12) (ks : U 13 = R 13) (kp : U 10 = R 10) (ke : U 11 = R 11) (kl : U 14 = R 14) (kg : ∀ g, 0 ≤ g → g < 4 → U 9 g = R 9 g) (hc : ∀ p, 0 ≤ p → p < R 0 31 → U 16 p = R 16 p ∧ ∀ i : Nat, (i : Int) < R 16 p → U 15 (160 * p + i) = R 15 (160 * p + i)) : SmR (tl R) (tl U) := by
  refine ⟨⟨e19, e20, e21, e22, rfl⟩, ⟨kb, ks, hc⟩, fun s s0 s1 => ?_, fun j j0 j1 => ?_, fun g g0 g1 => ?_⟩
  · have s1' : s < R 0 20 := s1
    have x1 : tl R 17 s = R 10 s := if_pos ⟨s0, s1'⟩
    have x2 : tl R 18 s = R 11 s := if_pos ⟨s0, s1'⟩
    have x3 : tl U 17 s = U 10 s := if_pos ⟨s0, by rw [show (th U) 0 20 = U 0 20 from rfl, e20]; exact s1'⟩
    have x4 : tl U 18 s = U 11 s := if_pos ⟨s0, by rw [show (th U) 0 20 = U 0 20 from rfl, e20]; exact s1'⟩
    rw [x1, x2, x3, x4, kp, ke]
    exact ⟨rfl, rfl⟩
  · have x1 : tl R 19 j = R 14 j := if_pos ⟨j0, j1⟩
    have x2 : tl U 19 j = U 14 j := if_pos ⟨j0, j1⟩
    rw [x1, x2, kl]
  · have x1 : tl R 20 g = (if g < R 0 19 then R 9 g else -1) := if_pos ⟨g0, g1⟩
    have x2 : tl U 20 g = (if g < U 0 19 then U 9 g else -1) := if_pos ⟨g0, g1⟩
    rw [x1, x2, e19, kg g g0 g1]
set_option maxHeartbeats 2000000 in
theorem t_X_image (R S : St) (Q : Option AV → St → Prop) (h : Rel R S) (h0 : R 0 18 = 0 → Q (some (.inl (-1))) S) (h1 : ¬ R 0 18 = 0 → ∀ S', Xs S S' → (∀ U, imS R U → Rel U S') → Q (some (.inl (R 0 52))) S') : Smm H_X_image 0 [some (.inr (.inr 40))] [] S Q := by
  refine sound ok_X_image [] 40 ?_
  refine t_told R S _ h.1 (fun hl => ⟨fun _ => ?_, fun z => absurd z (by decide)⟩) (fun hl => ⟨fun z => absurd rfl z, fun _ => h0 hl⟩)
  refine t_bkCopy_k S _ (fun S1 hF1 hs ha => ?_)
  refine ⟨Or.inr rfl, ?_⟩
  have hF2 : Fr [] [(40, 10)] S1 (up S1 40 10 1) := (Fr.rf _ _ _).up _ _ _ rfl
  have e5 : up S1 40 10 1 79 5 = R 0 52 := by
    rw [hF2.c 79 rfl, hF1.c 79 rfl]
    exact h.1.2.2.2.2.1.2.2.1.1
  have hq := h1 hl (up S1 40 10 1) ((Xs.of hF1 rfl).tr (Xs.of hF2 rfl)) (fun U hU => ?_)
  · rw [← e5] at hq
    exact hq
  obtain ⟨hFU, ⟨i1, i2, i3, i4⟩, ip, is, it, io⟩ := hU
  obtain ⟨k, ks⟩ := fr_get hFU (A := [1, 7, 8, 9, 10, 11, 12, 13, 14, 15, 16, 30, 32, 33, 34]) (B := [(0, 2), (0, 18), (0, 19), (0, 20), (0, 21), (0, 22), (0, 31), (0, 49), (0, 51), (0, 52)]) rfl
  have hc0 : caX R (up S1 40 10 1) := (h.2.fr hF1 rfl).fr hF2 rfl
  have hc := ca_sm hc0 h.1.1 (ks (0, 18) (by simp)) (ks (0, 19) (by simp)) (ks (0, 20) (by simp)) (fun _ => tl_sm (ks (0, 19) (by simp)) (ks (0, 20) (by simp)) (ks (0, 21) (by simp)) (ks (0, 22) (by simp)) (k 12 (by simp)) (k 13 (by simp)) (k 10 (by simp)) (k 11 (by simp)) (k 14 (by simp)) (fun g _ _ => congrFun (k 9 (by simp)) g) (fun p _ _ => ⟨congrFun (k 16 (by simp)) p, fun i _ => congrFun (k 15 (by simp)) _⟩))
  refine ⟨?_, hc⟩
  have hl0 := h.1.1.1 hl
  obtain ⟨⟨r1, r2, r3, r4, r5, r6, r7⟩, t, l, pl, b, i⟩ := h.1
  have hS : ∀ c ∈ [43, 44, 63, 66, 67, 68, 69, 70, 64, 65, 57, 58, 59, 60, 79, 80, 81, 82, 83, 84, 85, 86], up S1 40 10 1 c = S c := fun c hc => by
    have h1 := (fr_get hF1 (A := [43, 44, 63, 66, 67, 68, 69, 70, 64, 65, 57, 58, 59, 60, 79, 80, 81, 82, 83, 84, 85, 86]) (B := []) rfl).1 c hc
    have h2 := (fr_get hF2 (A := [43, 44, 63, 66, 67, 68, 69, 70, 64, 65, 57, 58, 59, 60, 79, 80, 81, 82, 83, 84, 85, 86]) (B := []) rfl).1 c hc
    rw [h2, h1]
  have n40 := r6.1
  have s10 := r5.1
  have hRI : rI U := by
    unfold rI
    refine ⟨?_, ?_, ?_, ?_, ?_, ?_, ?_⟩
    · intro _
      unfold ldM at hl0 ⊢
      rw [ks (0, 19) (by simp), ks (0, 20) (by simp), ks (0, 21) (by simp), ks (0, 22) (by simp), ks (0, 31) (by simp), k 10 (by simp), k 11 (by simp), k 12 (by simp), k 13 (by simp), k 14 (by simp), k 9 (by simp), k 7 (by simp), k 8 (by simp)]
      exact hl0
    · rw [ks (0, 18) (by simp)]
      exact fun z => absurd z hl
    · unfold plM at r3 ⊢
      rw [ks (0, 31) (by simp), k 16 (by simp), k 15 (by simp)]
      exact r3
    · unfold tpM at r4 ⊢
      rw [ks (0, 2) (by simp), k 1 (by simp)]
      exact r4
    · rw [ks (0, 19) (by simp), ks (0, 20) (by simp), ks (0, 49) (by simp), k 30 (by simp)]
      exact r5
    · rw [ks (0, 19) (by simp), ks (0, 52) (by simp), k 32 (by simp)]
      exact r6
    · intro _
      rw [ks (0, 19) (by simp), ks (0, 20) (by simp), ks (0, 31) (by simp), i2, i3]
      refine ⟨fun g g0 g1 => ?_, ⟨s10, fun k' k0 k1 => ?_⟩, ⟨n40, fun n g n0 n1 g0 g1 => ?_⟩⟩
      · rw [ip g g0 g1]
        exact hl0.2.2.2.2.2.1 g g0 g1
      · rw [is (3 * k') (by omega) (by omega), is (3 * k' + 1) (by omega) (by omega), is (3 * k' + 2) (by omega) (by omega)]
        exact r5.2 k' k0 k1
      · have g1' : g < R 0 19 := g1
        have hk := hl0.1
        rw [it (4 * n + g) (by omega) (by omega)]
        exact r6.2 n g n0 n1 g0 g1
  refine ⟨hRI, ?_, ?_, ?_, ?_, ?_⟩
  · unfold tpR
    rw [hS 43 (by simp), hS 44 (by simp), ks (0, 2) (by simp), k 1 (by simp)]
    exact t
  · unfold ldX
    rw [hS 63 (by simp), hS 66 (by simp), hS 67 (by simp), hS 68 (by simp), hS 69 (by simp), hS 70 (by simp), hS 64 (by simp), hS 65 (by simp), ks (0, 19) (by simp), ks (0, 20) (by simp), ks (0, 18) (by simp), ks (0, 21) (by simp), ks (0, 22) (by simp), k 10 (by simp), k 11 (by simp), k 12 (by simp), k 13 (by simp), k 14 (by simp), k 7 (by simp), k 8 (by simp)]
    exact l
  · unfold PlR plR1
    rw [hS 57 (by simp), hS 58 (by simp), hS 59 (by simp), hS 60 (by simp), ks (0, 31) (by simp), k 16 (by simp), k 15 (by simp)]
    exact pl
  · unfold bkX bkI
    rw [hS 79 (by simp), hS 80 (by simp), hS 81 (by simp), hS 82 (by simp), hS 83 (by simp), hS 84 (by simp), hS 85 (by simp), hS 86 (by simp), ks (0, 19) (by simp), ks (0, 49) (by simp), ks (0, 52) (by simp), ks (0, 51) (by simp), k 9 (by simp), k 30 (by simp), k 32 (by simp), k 33 (by simp), k 34 (by simp)]
    exact b
  · refine ⟨by rw [up_s, i1], fun _ => ?_⟩
    obtain ⟨b1, ⟨b2, b3⟩, ⟨b4, b5⟩, b6⟩ := b
    obtain ⟨a0, a1, a2, a3, a4, a5, a6⟩ := ha
    obtain ⟨s1, s5, s9⟩ := hs
    unfold kpX bkI
    rw [hF2.c 87 rfl, hF2.c 88 rfl, hF2.c 89 rfl, hF2.c 90 rfl, hF2.c 91 rfl, hF2.c 92 rfl, hF2.c 93 rfl, hF2.c 94 rfl, ks (0, 19) (by simp), i2, i3, i4]
    refine ⟨fun g g0 g1 => ?_, ⟨by rw [s1]; exact b2, fun j j0 j1 => ?_⟩, ⟨by rw [s5]; exact b4, fun n n0 n1 => ⟨fun g g0 g1 => ?_, ?_, ?_⟩⟩, by rw [s9]; exact b6⟩
    · rw [a0 g g0 g1, ip g g0 g1]
      exact b1 g g0 g1
    · rw [a1 j j0 (by omega), a2 j j0 (by omega), a3 j j0 (by omega), is (3 * j) (by omega) (by omega), is (3 * j + 1) (by omega) (by omega), is (3 * j + 2) (by omega) (by omega)]
      exact b3 j j0 j1
    · have hk := hl0.1
      have g1' : g < R 0 19 := g1
      rw [a4 (4 * n + g) (by omega) (by omega), it (4 * n + g) (by omega) (by omega)]
      exact (b5 n n0 n1).1 g g0 g1
    · rw [a5 n n0 (by omega), (io n n0 (by omega)).1]
      exact (b5 n n0 n1).2.1
    · rw [a6 n n0 (by omega), (io n n0 (by omega)).2]
      exact (b5 n n0 n1).2.2
set_option maxHeartbeats 2000000 in
theorem t_X_back (R S : St) (Q : Option AV → St → Prop) (h : Rel R S) (h0 : (R 0 18 = 0 ∨ R 0 56 = 0) → Q (some (.inl (-1))) S) (h1 : ¬ R 0 18 = 0 → ¬ R 0 56 = 0 → ∀ S', Xs S S' → (∀ U, bkS R U → Rel U S') → Q (some (.inl (R 0 57))) S') : Smm H_X_back 0 [some (.inr (.inr 40))] [] S Q := by
  have e10 : S 40 10 = R 0 56 := h.1.2.2.2.2.2.1
  refine sound ok_X_back [] 40 ?_
  refine ⟨fun z => ?_, fun z => h0 (Or.inr (by rw [← e10]; exact z))⟩
  have him : ¬ R 0 56 = 0 := fun q => z (by rw [e10]; exact q)
  have hl : ¬ R 0 18 = 0 := fun q => him (h.1.1.2.1 q).2.2.2.2.2.2
  have hkp := h.1.2.2.2.2.2.2 him
  have hl0 := h.1.1.1 hl
  refine t_bkCopy_b S _ (fun S1 hF1 hs ha => ?_)
  refine t_forget S1 _ ?_
  have hF2 := fo_fr S1
  obtain ⟨⟨r1, r2, r3, r4, r5, r6, r7⟩, t, l, pl, b, i⟩ := h.1
  obtain ⟨q1, q2, q3⟩ := r7 him
  obtain ⟨b1, ⟨b2, b3⟩, ⟨b4, b5⟩, b6⟩ := hkp
  obtain ⟨a0, a1, a2, a3, a4, a5, a6⟩ := ha
  obtain ⟨s1, s5, s9⟩ := hs
  have e5 : up (up (up S1 106 0 0) 106 1 0) 117 0 0 79 5 = R 0 57 := by
    rw [hF2.c 79 rfl, s5]
    exact b4
  have hq := h1 hl him _ ((Xs.of hF1 rfl).tr (Xs.of hF2 rfl)) (fun U hU => ?_)
  · rw [← e5] at hq
    exact hq
  obtain ⟨hFU, ⟨i2, i3, i4⟩, ip, is, it, io⟩ := hU
  obtain ⟨k, ks⟩ := fr_get hFU (A := [1, 7, 8, 10, 11, 12, 13, 14, 15, 16, 35, 36, 37, 38, 39]) (B := [(0, 2), (0, 18), (0, 19), (0, 20), (0, 21), (0, 22), (0, 31), (0, 56), (0, 57), (0, 58), (0, 59)]) rfl
  refine ⟨?_, ca_0 _ _⟩
  have hS : ∀ c ∈ [43, 44, 63, 66, 67, 68, 69, 70, 64, 65, 57, 58, 59, 60, 40, 87, 88, 89, 90, 91, 92, 93, 94], up (up (up S1 106 0 0) 106 1 0) 117 0 0 c = S c := fun c hc => by
    have h1 := (fr_get hF1 (A := [43, 44, 63, 66, 67, 68, 69, 70, 64, 65, 57, 58, 59, 60, 40, 87, 88, 89, 90, 91, 92, 93, 94]) (B := []) rfl).1 c hc
    have h2 := (fr_get hF2 (A := [43, 44, 63, 66, 67, 68, 69, 70, 64, 65, 57, 58, 59, 60, 40, 87, 88, 89, 90, 91, 92, 93, 94]) (B := []) rfl).1 c hc
    rw [h2, h1]
  have n40 := q3.1
  have s10 := q2.1
  have hk4 := hl0.1
  have hRI : rI U := by
    unfold rI
    refine ⟨?_, ?_, ?_, ?_, ?_, ?_, ?_⟩
    · intro _
      obtain ⟨d1, d2, d3, d4, d5, d6, d7⟩ := hl0
      unfold ldM
      rw [ks (0, 19) (by simp), ks (0, 20) (by simp), ks (0, 21) (by simp), ks (0, 22) (by simp), ks (0, 31) (by simp), k 10 (by simp), k 11 (by simp), k 12 (by simp), k 13 (by simp), k 14 (by simp), k 7 (by simp), k 8 (by simp)]
      refine ⟨d1, d2, d3, d4, d5, fun g g0 g1 => ?_, d7⟩
      rw [ip g g0 g1]
      exact q1 g g0 g1
    · rw [ks (0, 18) (by simp)]
      exact fun z => absurd z hl
    · unfold plM at r3 ⊢
      rw [ks (0, 31) (by simp), k 16 (by simp), k 15 (by simp)]
      exact r3
    · unfold tpM at r4 ⊢
      rw [ks (0, 2) (by simp), k 1 (by simp)]
      exact r4
    · rw [ks (0, 19) (by simp), ks (0, 20) (by simp), i3]
      refine ⟨s10, fun k' k0 k1 => ?_⟩
      rw [is (3 * k') (by omega) (by omega), is (3 * k' + 1) (by omega) (by omega), is (3 * k' + 2) (by omega) (by omega)]
      exact q2.2 k' k0 k1
    · rw [ks (0, 19) (by simp), i2]
      refine ⟨n40, fun n g n0 n1 g0 g1 => ?_⟩
      have g1' : g < R 0 19 := g1
      rw [it (4 * n + g) (by omega) (by omega)]
      exact q3.2 n g n0 n1 g0 g1
    · rw [ks (0, 56) (by simp), ks (0, 19) (by simp), ks (0, 20) (by simp), ks (0, 31) (by simp), k 35 (by simp), ks (0, 58) (by simp), k 36 (by simp), ks (0, 57) (by simp), k 37 (by simp)]
      exact r7
  refine ⟨hRI, ?_, ?_, ?_, ?_, ?_⟩
  · unfold tpR
    rw [hS 43 (by simp), hS 44 (by simp), ks (0, 2) (by simp), k 1 (by simp)]
    exact t
  · unfold ldX
    rw [hS 63 (by simp), hS 66 (by simp), hS 67 (by simp), hS 68 (by simp), hS 69 (by simp), hS 70 (by simp), hS 64 (by simp), hS 65 (by simp), ks (0, 19) (by simp), ks (0, 20) (by simp), ks (0, 18) (by simp), ks (0, 21) (by simp), ks (0, 22) (by simp), k 10 (by simp), k 11 (by simp), k 12 (by simp), k 13 (by simp), k 14 (by simp), k 7 (by simp), k 8 (by simp)]
    exact l
  · unfold PlR plR1
    rw [hS 57 (by simp), hS 58 (by simp), hS 59 (by simp), hS 60 (by simp), ks (0, 31) (by simp), k 16 (by simp), k 15 (by simp)]
    exact pl
  · unfold bkX bkI
    rw [hF2.c 79 rfl, hF2.c 80 rfl, hF2.c 81 rfl, hF2.c 82 rfl, hF2.c 83 rfl, hF2.c 84 rfl, hF2.c 85 rfl, hF2.c 86 rfl, ks (0, 19) (by simp), i2, i3, i4]
    refine ⟨fun g g0 g1 => ?_, ⟨by rw [s1]; exact b2, fun j j0 j1 => ?_⟩, ⟨by rw [s5]; exact b4, fun n n0 n1 => ⟨fun g g0 g1 => ?_, ?_, ?_⟩⟩, by rw [s9]; exact b6⟩
    · rw [a0 g g0 g1, ip g g0 g1]
      exact b1 g g0 g1
    · rw [a1 j j0 (by omega), a2 j j0 (by omega), a3 j j0 (by omega), is (3 * j) (by omega) (by omega), is (3 * j + 1) (by omega) (by omega), is (3 * j + 2) (by omega) (by omega)]
      exact b3 j j0 j1
    · have g1' : g < R 0 19 := g1
      rw [a4 (4 * n + g) (by omega) (by omega), it (4 * n + g) (by omega) (by omega)]
      exact (b5 n n0 n1).1 g g0 g1
    · rw [a5 n n0 (by omega), (io n n0 (by omega)).1]
      exact (b5 n n0 n1).2.1
    · rw [a6 n n0 (by omega), (io n n0 (by omega)).2]
      exact (b5 n n0 n1).2.2
  · unfold kpX bkI
    rw [hS 40 (by simp), hS 87 (by simp), hS 88 (by simp), hS 89 (by simp), hS 90 (by simp), hS 91 (by simp), hS 92 (by simp), hS 93 (by simp), hS 94 (by simp), ks (0, 56) (by simp), ks (0, 19) (by simp), ks (0, 58) (by simp), ks (0, 57) (by simp), ks (0, 59) (by simp), k 35 (by simp), k 36 (by simp), k 37 (by simp), k 38 (by simp), k 39 (by simp)]
    exact i
