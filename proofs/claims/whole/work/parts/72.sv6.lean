/-! a way of the survey, taken -/
theorem wm_le (n : Nat) (l : List Int) : ∀ k : Nat, wmF n l k ≤ 1000000
  | 0 => Int.le_refl _
  | k + 1 => by
    have := wm_le n l k
    rw [wmF]
    split <;> omega
theorem ap_le (T : St) (f : Int → Int) : apM T f ≤ 1000000 := by
  unfold apM apF
  exact wm_le _ _ _
set_option maxHeartbeats 2000000 in
theorem tk_body (T S : St) (f : Int → Int) (pre : List (Int → Int)) (w : Int) (N : Nat) (x4 x5 : Int) (x6 : Option AV) (Q : Option AV → St → Prop) (hT : mAs T) (hpre : ∀ f ∈ pre, ofOk (T 0 20) f) (hf : ofOk (T 0 20) f) (hW : wkI_l T S f) (hw2 : S 95 2 = w) (hw : 1 ≤ w ∧ w ≤ 16807) (hl : pre.length ≤ N) (hN : w * (N : Int) ≤ 16807) (h : svP T w pre S)
    (hQ : ∀ (S' : St) (v : Int), Fr [107, 108, 109, 110, 103] [(102, 1), (106, 2), (106, 7), (106, 8), (106, 9), (106, 10), (106, 11), (106, 12)] S S' → svP T w (pre ++ [f]) S' → Smm H_Survey_take 102 [some (.inr (.inr 106)), some (.inr (.inr 95)), some (.inr (.inr 63)), some (.inr (.inr 80)), some (.inl x4), some (.inl x5), some (.inl v)] [] S' Q) : Smm H_Survey_take 23 [some (.inr (.inr 106)), some (.inr (.inr 95)), some (.inr (.inr 63)), some (.inr (.inr 80)), some (.inl x4), some (.inl x5), x6] [] S Q := by
  have hTo := hT.1
  have hk4 := hTo.2.1
  have hnd := hT.2.1
  obtain ⟨k, hk⟩ : ∃ k : Nat, T 0 19 = k := ⟨(T 0 19).toNat, by omega⟩
  obtain ⟨n, hn⟩ : ∃ n : Nat, T 0 21 = n := ⟨(T 0 21).toNat, by omega⟩
  have hsv := h
  obtain ⟨⟨h2, h7, h8, h9, h10, h11, h12⟩, hg⟩ := h
  have b2 : 0 ≤ S 106 2 ∧ S 106 2 ≤ 16807 := by
    rw [h2, cnt_sm]
    exact wg_sm hw.1 (fun f' _ => inB_b _) hl hN
  have b12 : -40000000 ≤ S 106 12 ∧ S 106 12 ≤ 40000000 := by
    rw [h12]
    refine og_sm hw.1 (fun f' hf' => ?_) hl hN
    have := og_b hT (hpre f' hf')
    unfold ogV
    split <;> omega
  have bg : ∀ g, 0 ≤ g → g < T 0 19 → S 107 g ≤ 1000000 ∧ 0 ≤ S 109 g ∧ S 109 g ≤ 40000 := fun g g0 g1 => by
    obtain ⟨k1, k2, k3, k4⟩ := hg g g0 g1
    have h1 := wg_sm (v := fun f => inB (!(fnB (tnV T g) f))) hw.1 (fun f' _ => inB_b _) hl hN
    have h3 := mnL_d (tnV T g) 1000000 pre
    rw [k1, k3]
    omega
  have bf : ∀ g, 0 ≤ g → g < T 0 19 → 0 ≤ S 110 g ∧ S 110 g ≤ 40000 := fun g g0 g1 => by
    obtain ⟨k1, k2, k3, k4⟩ := hg g g0 g1
    have h1 := wg_sm (v := fun f => inB (!(opM T f) && decide (fsM T f = g))) hw.1 (fun f' _ => inB_b _) hl hN
    rw [k4]
    omega
  have hob := og_b hT hf
  have hal := ap_le T f
  refine sound ok_Survey_take [102] 60 ?_
  refine t_seeTurns T S f w _ hTo hf hW ⟨hw2, hw⟩ bg (fun S1 hF1 ht1 => ?_)
  have hW1 := wkI_fr_l hW hF1 rfl rfl
  obtain ⟨go1, go2, go3⟩ := tk_row hT hf hW1 hk hn
  have w2 : S1 63 0 = k := by rw [← hk]; exact hW1.1.2.1.1.1
  rw [← w2] at go1
  refine go1 _ (fun S2 hF2 hr2 => ?_)
  have hW2 := wkI_fr_l hW1 hF2 rfl rfl
  have w6 : S2 63 4 = n := by rw [← hn]; exact hW2.1.2.1.1.2.2.1
  have go2' := fun Q' => go2 S2 Q' hr2
  rw [← w6] at go2'
  refine go2' _ ?_
  refine t_seeSpread2 S2 (apM T f) _ hal (fun S3 hF3 e7 e8 e9 => ?_)
  have hW3 := wkI_fr_l hW2 hF3 rfl rfl
  have w7 : S3 63 4 = n := by rw [← hn]; exact hW3.1.2.1.1.2.2.1
  have w8 : S3 63 5 = T 0 22 := hW3.1.2.1.1.2.2.2.1
  have hr3 : rwI 102 103 S3 (gaF (tnM T (smM T f)) (fun _ => true) k) := by
    refine ⟨?_, fun j hj => ?_⟩
    · rw [hF3.c 102 rfl]; exact hr2.1
    · rw [hF3.c 103 rfl]; exact hr2.2 j hj
  have go3' := fun Q' => go3 S3 Q' hr3
  rw [← w7, ← w8] at go3'
  refine go3' _ ?_
  have hFS3 : Fr [107, 108, 109, 110, 103] [(102, 1), (106, 2), (106, 7), (106, 8), (106, 9), (106, 10), (106, 11), (106, 12)] S S3 := ((hF1.mo rfl rfl).tr (hF2.mo rfl rfl)).tr (hF3.mo rfl rfl)
  have q2 : S3 106 2 = S 106 2 := by rw [hF3.s 106 2 rfl, hF2.c 106 rfl, hF1.c 106 rfl]
  have q10 : S3 106 10 = S 106 10 := by rw [hF3.s 106 10 rfl, hF2.c 106 rfl, hF1.c 106 rfl]
  have q11 : S3 106 11 = S 106 11 := by rw [hF3.s 106 11 rfl, hF2.c 106 rfl, hF1.c 106 rfl]
  have q12 : S3 106 12 = S 106 12 := by rw [hF3.s 106 12 rfl, hF2.c 106 rfl, hF1.c 106 rfl]
  have qw : S3 95 2 = w := by rw [hF3.c 95 rfl, hF2.c 95 rfl, hF1.c 95 rfl]; exact hw2
  have qS : S2 106 = S 106 := by rw [hF2.c 106 rfl, hF1.c 106 rfl]
  rw [qS] at e7 e8 e9
  have qe : S3 107 = S1 107 := by rw [hF3.c 107 rfl, hF2.c 107 rfl]
  have ql : S3 108 = S1 108 := by rw [hF3.c 108 rfl, hF2.c 108 rfl]
  have qn : S3 109 = S1 109 := by rw [hF3.c 109 rfl, hF2.c 109 rfl]
  have qf : S3 110 = S 110 := by rw [hF3.c 110 rfl, hF2.c 110 rfl, hF1.c 110 rfl]
  have hoo := op_og hT hf
  refine ⟨fun z => ?_, fun z => ?_⟩
  · have hz : ogM T f = 1000000 := by omega
    have ho : opM T f = false := by
      by_cases y : opM T f = true
      · exact absurd hz (hoo.mp y)
      · simpa using y
    refine t_seeFirst T S3 f w _ hTo hf hW3 ⟨qw, hw⟩ (fun g g0 g1 => by rw [qf]; exact bf g g0 g1) (fun S4 hF4 e4 => ?_)
    refine hQ S4 _ (hFS3.tr (hF4.mo rfl rfl)) (sv_step hT hpre hf hal (by omega) hsv ?_ ?_ ?_ ?_ ?_ ?_ ?_ (fun g g0 g1 => ?_))
    · rw [hF4.c 106 rfl, q2, ho]; simp [inB]
    · rw [hF4.c 106 rfl]; exact e7
    · rw [hF4.c 106 rfl]; exact e8
    · rw [hF4.c 106 rfl]; exact e9
    · rw [hF4.c 106 rfl, if_pos hz]; exact q10
    · rw [hF4.c 106 rfl, if_pos hz]; exact q11
    · rw [hF4.c 106 rfl, q12]; unfold ogV; rw [if_pos hz, Int.mul_zero, Int.add_zero]
    · obtain ⟨a1, a2, a3⟩ := ht1 g g0 g1
      rw [hF4.c 107 rfl, hF4.c 108 rfl, hF4.c 109 rfl, qe, ql, qn, e4 g g0 g1, qf, ho]
      exact ⟨a1, a2, a3, rfl⟩
  · have hz : ¬ ogM T f = 1000000 := by omega
    have ho : opM T f = true := hoo.mpr hz
    have go4 : ∀ Q' : Option AV → St → Prop, (∀ S4, Fr [] [(106, 2), (106, 10), (106, 11), (106, 12)] S3 S4 → S4 106 2 = S3 106 2 + w → S4 106 10 = min (S3 106 10) (ogM T f) → S4 106 11 = max (S3 106 11) (ogM T f) → S4 106 12 = S3 106 12 + w * ogM T f → Q' none S4) → Smm H_Survey_seeMoment 0 [some (.inr (.inr 106)), some (.inl (ogM T f)), some (.inl (S3 95 2))] [] S3 Q' := by
      intro Q' hq'
      rw [qw]
      exact t_seeMoment2 S3 (ogM T f) w Q' (by rw [q2]; omega) hw (og_w hw (by omega)) (by rw [q12]; exact b12) hq'
    refine go4 _ (fun S4 hF4 c2 c10 c11 c12 => ?_)
    refine hQ S4 _ (hFS3.tr (hF4.mo rfl rfl)) (sv_step hT hpre hf hal (by omega) hsv ?_ ?_ ?_ ?_ ?_ ?_ ?_ (fun g g0 g1 => ?_))
    · rw [c2, q2, ho]; simp [inB]
    · rw [hF4.s 106 7 rfl]; exact e7
    · rw [hF4.s 106 8 rfl]; exact e8
    · rw [hF4.s 106 9 rfl]; exact e9
    · rw [if_neg hz, c10, q10]
    · rw [if_neg hz, c11, q11]
    · unfold ogV; rw [c12, q12, if_neg hz]
    · obtain ⟨a1, a2, a3⟩ := ht1 g g0 g1
      rw [hF4.c 107 rfl, hF4.c 108 rfl, hF4.c 109 rfl, hF4.c 110 rfl, qe, ql, qn, qf, ho]
      exact ⟨a1, a2, a3, by simp [inB]⟩
