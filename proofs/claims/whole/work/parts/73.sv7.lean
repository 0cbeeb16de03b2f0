/-! the survey taken -/
set_option maxHeartbeats 2000000 in
theorem t_svTake (T S : St) (Q : Option AV → St → Prop) (hT : mAs T) (hR : lr_l T S) (hP : PlR T S) (hpo : ∀ g, 0 ≤ g → g < T 0 19 → S 80 g = T 20 g) (hQ : ∀ S', Fr [107, 108, 109, 110, 61, 62, 99, 100, 101, 103, 96, 97, 98] [(102, 1), (106, 2), (106, 7), (106, 8), (106, 9), (106, 10), (106, 11), (106, 12), (106, 0), (95, 1), (95, 2)] S S' → svP T 1 (wyM T) S' → S' 106 0 = 1 → Q none S') : Smm H_Survey_take 0 [some (.inr (.inr 106)), some (.inr (.inr 95)), some (.inr (.inr 63)), some (.inr (.inr 80)), none, none, none] [] S Q := by
  have hn := hT.1.1.1
  refine sound ok_Survey_take [16] 40 ?_
  refine t_svClear S _ (fun S0 hF0 z0 zg => ?_)
  have hR0 : lr_l T S0 := lr_sm_l hR (hF0.c _ rfl) (hF0.c _ rfl) (hF0.c _ rfl) (hF0.c _ rfl) (hF0.c _ rfl) (hF0.c _ rfl) (hF0.c _ rfl) (hF0.c _ rfl)
  have hP0 : PlR T S0 := PlR_sm hP (hF0.c _ rfl) (hF0.c _ rfl) (hF0.c _ rfl) (hF0.c _ rfl)
  refine t_start_lb T S0 0 _ hT hR0 hP0 (fun g g0 g1 => by rw [hF0.c 80 rfl]; exact hpo g g0 g1) (by decide) (fun S1 y hF1 hy hW1 hr1 hg1 => ?_)
  obtain ⟨g1, g2, g3, g4⟩ := wX_b hT y
  have hs1 : svP T (wgX T y) [] S1 := sv_nil hT.1 _ (by rw [hF1.c 106 rfl]; exact z0) (fun g g0 g1 => by rw [hF1.c 107 rfl, hF1.c 108 rfl, hF1.c 109 rfl, hF1.c 110 rfl]; exact zg g g0 g1)
  have hFA : Fr [107, 108, 109, 110, 61, 62, 99, 100, 101, 103, 96, 97, 98] [(102, 1), (106, 2), (106, 7), (106, 8), (106, 9), (106, 10), (106, 11), (106, 12), (106, 0), (95, 1), (95, 2)] S S1 := (hF0.mo rfl rfl).tr (hF1.mo rfl rfl)
  have loop : ∀ (post pre : List (Int → Int)) (f : Int → Int) (q : St × Int × Option AV), wyX T y = pre ++ f :: post → (Fr [107, 108, 109, 110, 61, 62, 99, 100, 101, 103] [(102, 1), (106, 2), (106, 7), (106, 8), (106, 9), (106, 10), (106, 11), (106, 12)] S1 q.1 ∧ wkI_l T q.1 f ∧ svP T (wgX T y) pre q.1 ∧ q.2.1 = pre.length) → Smm H_Survey_take 16 [some (.inr (.inr 106)), some (.inr (.inr 95)), some (.inr (.inr 63)), some (.inr (.inr 80)), some (.inl ((wyX T y).length : Int)), some (.inl q.2.1), q.2.2] [] q.1 Q := by
    refine lp_wy (P := fun _ (q : St × Int × Option AV) => Smm H_Survey_take 16 [some (.inr (.inr 106)), some (.inr (.inr 95)), some (.inr (.inr 63)), some (.inr (.inr 80)), some (.inl ((wyX T y).length : Int)), some (.inl q.2.1), q.2.2] [] q.1 Q) (fun pre f q => Fr [107, 108, 109, 110, 61, 62, 99, 100, 101, 103] [(102, 1), (106, 2), (106, 7), (106, 8), (106, 9), (106, 10), (106, 11), (106, 12)] S1 q.1 ∧ wkI_l T q.1 f ∧ svP T (wgX T y) pre q.1 ∧ q.2.1 = pre.length) ?_
    rintro pre f post ⟨S2, i, x6⟩ hl ⟨hF2, hW2, ha, hi⟩ ih
    dsimp only at hF2 hW2 ha hi ⊢
    have hfm : f ∈ wyX T y := by rw [hl]; exact List.mem_append_right _ List.mem_cons_self
    have hof := bd_of (T := T) (wX_mem hT hfm).2.1
    have hopre : ∀ f' ∈ pre, ofOk (T 0 20) f' := fun f' hf' => bd_of (T := T) (wX_mem (y := y) hT (by rw [hl]; exact List.mem_append_left _ hf')).2.1
    have hlen : (wyX T y).length = pre.length + (post.length + 1) := by rw [hl]; simp
    have hlt : ¬ ((wyX T y).length : Int) ≤ i := by omega
    have hwt : S2 95 2 = wgX T y := by rw [hF2.c 95 rfl]; exact hg1
    refine sound ok_Survey_take [23] 40 ?_
    refine ⟨fun z => absurd z hlt, fun _ => ?_⟩
    refine tk_body T S2 f pre (wgX T y) (wyX T y).length _ i x6 Q hT hopre hof hW2 hwt g1 (by omega) g4 ha (fun S3 v hF3 hs3 => ?_)
    have hW3 := wkI_fr_l hW2 hF3 rfl rfl
    have hFS := hF2.tr (hF3.mo rfl rfl : Fr [107, 108, 109, 110, 61, 62, 99, 100, 101, 103] [(102, 1), (106, 2), (106, 7), (106, 8), (106, 9), (106, 10), (106, 11), (106, 12)] S2 S3)
    have e : ((pre.length + 1 : Nat) : Int) = i32 (i + 1) := by rw [hi]; exact i32_s (by omega)
    refine sound ok_Survey_take [16] 20 ?_
    refine t_step_l T S3 f (rcN (nb y) (T 18)) pre post _ hT hW3 (fun s s0 s1 => ⟨by rw [hFS.c 98 rfl]; exact hr1 s s0 s1, ?_⟩) hl (fun S4 f' hF4 hW4 hp => ?_)
    · have := g3 s.toNat (by clear e; omega)
      rw [show ((s.toNat : Nat) : Int) = s by clear e; omega] at this
      exact this
    · have hFS4 := hFS.tr (hF4.mo rfl rfl : Fr [107, 108, 109, 110, 61, 62, 99, 100, 101, 103] [(102, 1), (106, 2), (106, 7), (106, 8), (106, 9), (106, 10), (106, 11), (106, 12)] S3 S4)
      have hs4 : svP T (wgX T y) (pre ++ [f]) S4 := by
        unfold svP
        rw [hF4.c 106 rfl, hF4.c 107 rfl, hF4.c 108 rfl, hF4.c 109 rfl, hF4.c 110 rfl]
        exact hs3
      rcases hp with hp | ⟨post', hp⟩
      · have hend : i32 (i + 1) = ((wyX T y).length : Int) := by rw [← e, hlen, hp]; rfl
        rw [hp] at hl
        rw [← hl] at hs4
        have hs5 := sv_X hT hW1.1.2.2.1 hy hs4
        have hs6 : svP T 1 (wyM T) (up S4 106 0 1) := by
          have hF5 : Fr [] [(106, 0)] S4 (up S4 106 0 1) := Fr.up (Fr.rf _ _ _) _ _ _ rfl
          unfold svP
          rw [hF5.s 106 2 rfl, hF5.s 106 7 rfl, hF5.s 106 8 rfl, hF5.s 106 9 rfl, hF5.s 106 10 rfl, hF5.s 106 11 rfl, hF5.s 106 12 rfl, hF5.c 107 rfl, hF5.c 108 rfl, hF5.c 109 rfl, hF5.c 110 rfl]
          exact hs5
        have hq := hQ _ ((hFA.tr (hFS4.mo rfl rfl)).up 106 0 1 rfl) hs6 (up_s _ _ _ _)
        refine sound ok_Survey_take [] 20 ?_
        exact ⟨fun _ => ⟨Or.inr rfl, hq⟩, fun z => absurd z (by rw [hend]; exact Int.lt_irrefl _)⟩
      · exact Smm.sub (ih f' post' (S4, ((pre.length + 1 : Nat) : Int), some (.inl v)) hp ⟨hFS4, hW4, hs4, by simp⟩) ⟨Or.inr rfl, Or.inr rfl, Or.inr rfl, Or.inr rfl, Or.inr rfl, Or.inr (sI e), Or.inr rfl, trivial⟩
  obtain ⟨r, hr⟩ := wy_first (err := rcN (nb y) (T 18)) (T 0 20).toNat (fun i hi => (g3 i hi).1)
  exact loop r [] _ (S1, 0, none) hr ⟨Fr.rf _ _ _, hW1, hs1, rfl⟩
