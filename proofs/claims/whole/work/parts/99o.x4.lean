/-! the class: another land tried -/
/-- the copy -/
theorem t_cp (R S : St) (Q : Option AV → St → Prop) (h : Rel R S) (hl : ¬ R 0 18 = 0) (hQ : ∀ S', Fr [72, 73, 74, 75, 76, 77, 78] [(71, 0), (71, 1), (71, 2), (71, 3), (71, 4), (71, 5), (71, 6), (71, 7)] S S' → Rel R S' → lr_o (tl R) S' → Q none S') : Smm H_Land_copy 0 [some (.inr (.inr 71)), some (.inr (.inr 63))] [] S Q := by
  obtain ⟨hl0, hp, hT, hR, hP, hpo⟩ := h.1.land hl
  exact t_copy_o S Q (fun S' hF h0 h1 => hQ S' hF (h.fr hF rfl rfl) (lr_copy hR hT.1 h0 h1))
/-- the tally, of what is tried in the other land -/
theorem t_ta (R S T : St) (Q : Option AV → St → Prop) (h : Rel R S) (hl : ¬ R 0 18 = 0) (hT : mAs T) (hR : lr_o T S) (hP : PlR T S = PlR (tl R) S) (hg : T 0 19 = (tl R) 0 19) (ha : T 20 = (tl R) 20) (hQ : ∀ S', Xs S S' → Rel R S' → Q (some (.inl (cntM T))) S') : Smm H_Walk_tally 0 [some (.inr (.inr 95)), some (.inr (.inr 71)), some (.inr (.inr 80)), none, none, none] [] S Q := by
  obtain ⟨hl0, hp, hT0, hR0, hP0, hpo⟩ := h.1.land hl
  refine t_tally_ob T S Q hT hR (by rw [hP]; exact hP0) (fun g g0 g1 => by rw [ha]; exact hpo g g0 (by rw [← hg]; exact g1)) (fun S' hF => ?_)
  exact hQ S' (Xs.of hF rfl) (h.fr hF rfl rfl)
theorem lo_ap {T S : St} (h : lr_o T S) {i v : Int} : lr_o (up T 17 i v) (up S 74 i v) := by
  obtain ⟨h1, h2, h3, h4⟩ := h
  refine ⟨h1, fun s s0 s1 => ?_, h3, h4⟩
  obtain ⟨a, b, c, d⟩ := h2 s s0 s1
  refine ⟨?_, b, c, d⟩
  by_cases z : s = i
  · rw [z, up_s, up_s]
  · rw [up_n _ _ _ z, up_n _ _ _ z]; exact a
theorem lo_ae {T S : St} (h : lr_o T S) {i v : Int} : lr_o (up T 18 i v) (up S 75 i v) := by
  obtain ⟨h1, h2, h3, h4⟩ := h
  refine ⟨h1, fun s s0 s1 => ?_, h3, h4⟩
  obtain ⟨a, b, c, d⟩ := h2 s s0 s1
  refine ⟨a, ?_, c, d⟩
  by_cases z : s = i
  · rw [z, up_s, up_s]
  · rw [up_n _ _ _ z, up_n _ _ _ z]; exact b
theorem lo_al {T S : St} (h : lr_o T S) {i v : Int} (hv : 0 ≤ v) : lr_o (up T 19 i v) (up S 78 i v) := by
  obtain ⟨h1, h2, h3, h4⟩ := h
  refine ⟨h1, h2, fun j j0 j1 => ?_, h4⟩
  by_cases z : j = i
  · rw [z, up_s, up_s, dl_id hv]
  · rw [up_n _ _ _ z, up_n _ _ _ z]; exact h3 j j0 j1
theorem lo_gone {T S : St} (h : lr_o T S) {v : Int} : lr_o (up T 0 38 v) (up S 71 7 v) := by
  obtain ⟨⟨a, b, c, d, e⟩, h2, h3, h4⟩ := h
  refine ⟨⟨?_, ?_, ?_, ?_, ?_⟩, h2, h3, h4⟩
  · rw [up_n _ _ _ (by decide), up_n _ _ _ (by decide)]; exact a
  · rw [up_n _ _ _ (by decide), up_n _ _ _ (by decide)]; exact b
  · rw [up_n _ _ _ (by decide), up_n _ _ _ (by decide)]; exact c
  · rw [up_n _ _ _ (by decide), up_n _ _ _ (by decide)]; exact d
  · rw [up_s, up_s]
theorem lo_df {T S S' : St} (h : lr_o T S) (g : Int) (hF : Fr [78] [] S S') (hd : ∀ j, S' 78 j = if 5 * g ≤ j ∧ j < 5 * g + 5 then 2000000 else S 78 j) : lr_o (stC T 19 (dfF (T 19) g 5)) S' := by
  obtain ⟨h1, h2, h3, h4⟩ := h
  unfold lr_o lrI
  rw [hF.c 71 rfl, hF.c 74 rfl, hF.c 75 rfl, hF.c 76 rfl, hF.c 77 rfl, hF.c 72 rfl, hF.c 73 rfl]
  refine ⟨h1, h2, fun j j0 j1 => ?_, h4⟩
  rw [hd j, stC_s]
  unfold dfF
  by_cases z : 5 * g ≤ j ∧ j < 5 * g + 5
  · rw [if_pos z, if_pos z]; rfl
  · rw [if_neg z, if_neg z]; exact h3 j j0 j1
set_option maxHeartbeats 1000000 in
theorem t_X_shift (R S : St) (s b : Int) (Q : Option AV → St → Prop) (h : Rel R S) (hQ : ∀ S', Xs S S' → Rel R S' → Q (some (.inl (aM_shift R s b))) S') : Smm H_X_shift 0 [some (.inr (.inr 40)), some (.inl s), some (.inl b)] [] S Q := by
  have no : (¬ (¬ R 0 18 = 0 ∧ 0 ≤ s ∧ s < R 0 20) ∨ b < -9 ∨ 9 < b) → Q (some (.inl (-1))) S := fun hz => by
    have := hQ S (Xs.rf S) h
    unfold aM_shift at this
    rwa [if_pos hz] at this
  refine sound ok_X_shift [] 80 ?_
  refine t_xSign R S s _ h.1 (fun h1 => ⟨fun z => absurd z (by decide), fun _ => ?_⟩) (fun h1 => ⟨fun _ => no (Or.inl h1), fun z => absurd rfl z⟩)
  refine ⟨fun z => no (Or.inr (Or.inl z)), fun z => ?_⟩
  refine ⟨fun y => ?_, fun y => no (Or.inr (Or.inr y))⟩
  unfold aM_shift at hQ
  rw [if_neg (fun q => q.elim (fun q => q h1) (by omega))] at hQ
  refine t_cp R S _ h h1.1 (fun S1 hF1 hr1 ho1 => ?_)
  obtain ⟨hl0, hp, hT, hR, hP, hpo⟩ := hr1.1.land h1.1
  have p20 : tl R 0 20 = R 0 20 := tl_0 R (by decide) (by decide)
  have hs5 : 0 ≤ s ∧ s < 5 := by have := hl0.2.1; omega
  have hsb := hl0.2.2.2.1 s h1.2.1 h1.2.2
  have e1 : S1 74 s = R 10 s := by
    rw [(ho1.2.1 s h1.2.1 (by rw [p20]; exact h1.2.2)).1]
    exact if_pos ⟨h1.2.1, h1.2.2⟩
  have e2 : i32 (S1 74 s + b) = R 10 s + b := by rw [e1]; exact i32_id (by omega) (by omega)
  refine ⟨hs5, ?_⟩
  refine ⟨hs5, ?_⟩
  have hF2 : Fr [74] [] S1 (up S1 74 s (R 10 s + b)) := (Fr.rf _ _ _).up _ _ _ rfl
  have go := fun Q' hq' => t_ta R (up S1 74 s (R 10 s + b)) (up (tl R) 17 s (R 10 s + b)) Q' (hr1.fr hF2 rfl rfl) h1.1 (mAs_ap hT (by clear e2; omega)) (lo_ap ho1) rfl rfl rfl hq'
  rw [← e2] at go
  refine go _ (fun S3 hx3 hr3 => ?_)
  rw [e2] at hx3 ⊢
  exact hQ S3 (((Xs.of hF1 rfl).tr (Xs.of hF2 rfl)).tr hx3) hr3
set_option maxHeartbeats 2000000 in
theorem t_X_idle (R S : St) (Q : Option AV → St → Prop) (h : Rel R S) (hQ : ∀ S', Xs S S' → Rel R S' → Q (some (.inl (aM_idle R))) S') : Smm H_X_idle 0 [some (.inr (.inr 40)), none, none, none] [] S Q := by
  have no : R 0 18 = 0 → Q (some (.inl (-1))) S := fun hz => by
    have := hQ S (Xs.rf S) h
    unfold aM_idle at this
    rwa [if_pos hz] at this
  refine sound ok_X_idle [21] 80 ?_
  refine t_told R S _ h.1 (fun h1 => ⟨fun _ => ?_, fun z => absurd z (by decide)⟩) (fun h1 => ⟨fun z => absurd rfl z, fun _ => no h1⟩)
  unfold aM_idle at hQ
  rw [if_neg h1] at hQ
  refine t_surveyed R S _ h h1 (fun S1 hx1 hr1 hs1 => ?_)
  obtain ⟨hl0, hp, hT, hR, hP, hpo⟩ := hr1.1.land h1
  have hs5 := hl0.2.1
  obtain ⟨n, hn⟩ : ∃ n : Nat, R 0 20 = n := ⟨(R 0 20).toNat, by omega⟩
  rw [show (R 0 20).toNat = n by omega] at hQ
  have ew : S1 106 2 = cntM (tl R) := by rw [hs1.1.1, Int.one_mul]; rfl
  generalize hpp : (fun s : Nat => decide (cntM (tl R) ≤ cntM (up (tl R) 0 38 (ishl 1 s)))) = p at hQ
  have loop : ∀ (d k : Nat) (S2 : St), k + d = n → Xs S S2 → Rel R S2 → Smm H_X_idle 21 [some (.inr (.inr 40)), some (.inl (cntM (tl R))), some (.inl (bitF p k)), some (.inl (k : Int))] [] S2 Q := by
    intro d
    induction d with
    | zero =>
      intro k S2 hk hx hr
      have e1 : S2 63 1 = n := by rw [← hn]; exact hr.1.2.2.1.1.2
      have : k = n := by omega
      subst this
      refine sound ok_X_idle [21] 20 ?_
      exact ⟨fun _ => hQ S2 hx hr, fun z => absurd z (by rw [e1]; exact Int.lt_irrefl _)⟩
    | succ d ih =>
      intro k S2 hk hx hr
      have e1 : S2 63 1 = n := by rw [← hn]; exact hr.1.2.2.1.1.2
      have hng : ¬ S2 63 1 ≤ (k : Int) := by rw [e1]; omega
      have e : ((k + 1 : Nat) : Int) = i32 ((k : Int) + 1) := i32_s (by omega)
      have hpk : p k = decide (cntM (tl R) ≤ cntM (up (tl R) 0 38 (ishl 1 k))) := by rw [← hpp]
      refine sound ok_X_idle [21] 60 ?_
      refine ⟨fun z => absurd z hng, fun _ => ?_⟩
      refine t_cp R S2 _ hr h1 (fun S3 hF3 hr3 ho3 => ?_)
      have hF4 : Fr [] [(71, 7)] S3 (up S3 71 7 (ishl 1 (k : Int))) := (Fr.rf _ _ _).up _ _ _ rfl
      refine t_ta R (up S3 71 7 (ishl 1 (k : Int))) (up (tl R) 0 38 (ishl 1 (k : Int))) _ (hr3.fr hF4 rfl rfl) h1 (mAs_gone hT _) (lo_gone ho3) rfl rfl rfl (fun S5 hx5 hr5 => ?_)
      have hxx : Xs S S5 := ((hx.tr (Xs.of hF3 rfl)).tr (Xs.of hF4 rfl)).tr hx5
      have ih := ih (k + 1) S5 (by clear e; omega) hxx hr5
      rw [bitF] at ih
      refine ⟨fun z => ?_, fun z => ?_⟩
      · rw [if_neg (by rw [hpk]; simpa using z)] at ih
        exact Smm.sub ih ⟨Or.inr rfl, Or.inr rfl, Or.inr rfl, Or.inr (sI e), trivial⟩
      · rw [if_pos (by rw [hpk]; exact decide_eq_true z)] at ih
        exact Smm.sub ih ⟨Or.inr rfl, Or.inr rfl, Or.inr rfl, Or.inr (sI e), trivial⟩
  have go := loop n 0 S1 (by omega) hx1 hr1
  rw [← ew] at go
  exact go
set_option maxHeartbeats 2000000 in
theorem t_X_deaf (R S : St) (Q : Option AV → St → Prop) (h : Rel R S) (hQ : ∀ S', Xs S S' → Rel R S' → Q (some (.inl (aM_deaf R))) S') : Smm H_X_deaf 0 [some (.inr (.inr 40)), none, none, none] [] S Q := by
  have no : R 0 18 = 0 → Q (some (.inl (-1))) S := fun hz => by
    have := hQ S (Xs.rf S) h
    unfold aM_deaf at this
    rwa [if_pos hz] at this
  refine sound ok_X_deaf [21] 80 ?_
  refine t_told R S _ h.1 (fun h1 => ⟨fun _ => ?_, fun z => absurd z (by decide)⟩) (fun h1 => ⟨fun z => absurd rfl z, fun _ => no h1⟩)
  unfold aM_deaf at hQ
  rw [if_neg h1] at hQ
  refine t_surveyed R S _ h h1 (fun S1 hx1 hr1 hs1 => ?_)
  obtain ⟨hl0, hp, hT, hR, hP, hpo⟩ := hr1.1.land h1
  have hk4 := hl0.1
  obtain ⟨n, hn⟩ : ∃ n : Nat, R 0 19 = n := ⟨(R 0 19).toNat, by omega⟩
  rw [show (R 0 19).toNat = n by omega] at hQ
  have ew : S1 106 2 = cntM (tl R) := by rw [hs1.1.1, Int.one_mul]; rfl
  generalize hpp : (fun g : Nat => decide (cntDf R g < cntM (tl R))) = p at hQ
  have loop : ∀ (d k : Nat) (S2 : St), k + d = n → Xs S S2 → Rel R S2 → Smm H_X_deaf 21 [some (.inr (.inr 40)), some (.inl (cntM (tl R))), some (.inl (bitF p k)), some (.inl (k : Int))] [] S2 Q := by
    intro d
    induction d with
    | zero =>
      intro k S2 hk hx hr
      have e1 : S2 63 0 = n := by rw [← hn]; exact hr.1.2.2.1.1.1
      have : k = n := by omega
      subst this
      refine sound ok_X_deaf [21] 20 ?_
      exact ⟨fun _ => hQ S2 hx hr, fun z => absurd z (by rw [e1]; exact Int.lt_irrefl _)⟩
    | succ d ih =>
      intro k S2 hk hx hr
      have e1 : S2 63 0 = n := by rw [← hn]; exact hr.1.2.2.1.1.1
      have hng : ¬ S2 63 0 ≤ (k : Int) := by rw [e1]; omega
      have hkx : (0 : Int) ≤ k ∧ (k : Int) < 4 := by omega
      have e : ((k + 1 : Nat) : Int) = i32 ((k : Int) + 1) := i32_s (by omega)
      have hpk : p k = decide (cntDf R k < cntM (tl R)) := by rw [← hpp]
      refine sound ok_X_deaf [21] 60 ?_
      refine ⟨fun z => absurd z hng, fun _ => ?_⟩
      refine t_cp R S2 _ hr h1 (fun S3 hF3 hr3 ho3 => ?_)
      refine t_makeDeaf S3 (k : Int) _ hkx (fun S4 hF4 hd4 => ?_)
      refine t_ta R S4 (stC (tl R) 19 (dfF (tl R 19) k 5)) _ (hr3.fr hF4 rfl rfl) h1 (mAs_df hT _) (lo_df ho3 k hF4 hd4) rfl rfl rfl (fun S5 hx5 hr5 => ?_)
      have hxx : Xs S S5 := ((hx.tr (Xs.of hF3 rfl)).tr (Xs.of hF4 rfl)).tr hx5
      have ih := ih (k + 1) S5 (by clear e; omega) hxx hr5
      rw [bitF] at ih
      refine ⟨fun z => ?_, fun z => ?_⟩
      · have z' : cntM (tl R) ≤ cntDf R k := z
        rw [if_neg (by rw [hpk, decide_eq_false (Int.not_lt.mpr z')]; decide)] at ih
        exact Smm.sub ih ⟨Or.inr rfl, Or.inr rfl, Or.inr rfl, Or.inr (sI e), trivial⟩
      · rw [if_pos (by rw [hpk]; exact decide_eq_true z)] at ih
        exact Smm.sub ih ⟨Or.inr rfl, Or.inr rfl, Or.inr rfl, Or.inr (sI e), trivial⟩
  have go := loop n 0 S1 (by omega) hx1 hr1
  rw [← ew] at go
  exact go
set_option maxHeartbeats 1000000 in
theorem t_withPlan (R S : St) (g p : Int) (Q : Option AV → St → Prop) (h : Rel R S) (hl : ¬ R 0 18 = 0) (hg : 0 ≤ g ∧ g < R 0 19) (hpp : 0 ≤ p ∧ p < R 0 31) (hQ : ∀ S', Xs S S' → Rel R S' → Q (some (.inl (cntM (up (tl R) 20 g p)))) S') : Smm H_X_tallyWithPlan 0 [some (.inr (.inr 40)), some (.inl g), some (.inl p), none] [] S Q := by
  obtain ⟨hl0, hp, hT, hR, hP, hpo⟩ := h.1.land hl
  have hk4 := hl0.1
  have p19 : tl R 0 19 = R 0 19 := tl_0 R (by decide) (by decide)
  have loop : ∀ (i : Int) (S1 : St), ((0 ≤ i ∧ i ≤ 4) ∧ Fr [41] [] S S1 ∧ ∀ j, 0 ≤ j → j < i → S1 41 j = if j = g then p else S 80 j) → Smm H_X_tallyWithPlan 2 [some (.inr (.inr 40)), some (.inl g), some (.inl p), some (.inl i)] [] S1 Q := by
    refine lp_up (P := fun i S1 => Smm H_X_tallyWithPlan 2 [some (.inr (.inr 40)), some (.inl g), some (.inl p), some (.inl i)] [] S1 Q) _ 4 ?_ ?_
    · rintro i S1 hi ⟨hi2, hF, d⟩
      have hr : Rel R S1 := h.fr hF rfl rfl
      obtain ⟨_, _, _, hR1, hP1, hpo1⟩ := hr.1.land hl
      refine sound ok_X_tallyWithPlan [2] 40 ?_
      refine ⟨fun _ => ?_, fun z => absurd z (by omega)⟩
      refine t_tally_lp (up (tl R) 20 g p) S1 _ (mAs_pl hT (by show -1 ≤ p ∧ p < R 0 31; omega)) hR1 hP1 (fun g' g0 g1 => ?_) (fun S2 hF2 => hQ S2 ((Xs.of hF rfl).tr (Xs.of hF2 rfl)) (hr.fr hF2 rfl rfl))
      have g1' : g' < R 0 19 := by rw [← p19]; exact g1
      rw [d g' g0 (by omega)]
      by_cases z : g' = g
      · rw [if_pos z, z, up_s]
      · rw [if_neg z, up_n _ _ _ z]
        exact hpo g' g0 (by rw [p19]; exact g1')
    · rintro i S1 hi ⟨hi2, hF, d⟩ ih
      have hng : ¬ 4 ≤ i := by omega
      have hix : 0 ≤ i ∧ i < 4 := by omega
      have hi3 : 0 ≤ i + 1 ∧ i + 1 ≤ 4 := by omega
      have e : i + 1 = i32 (i + 1) := (i32_id (by omega) (by omega)).symm
      have eb : S1 80 = S 80 := hF.c _ rfl
      have nx : ∀ v, v = (if i = g then p else S 80 i) → Smm H_X_tallyWithPlan 2 [some (.inr (.inr 40)), some (.inl g), some (.inl p), some (.inl (i32 (i + 1)))] [] (up S1 41 i v) Q := fun v hv => by
        refine Smm.sub (ih (up S1 41 i v) ⟨hi3, hF.up _ _ _ rfl, fun j j0 j1 => ?_⟩) ⟨Or.inr rfl, Or.inr rfl, Or.inr rfl, Or.inr (sI e), trivial⟩
        by_cases y : j = i
        · rw [y, up_s, hv]
        · rw [up_n _ _ _ y]
          exact d j j0 (by clear e; omega)
      refine sound ok_X_tallyWithPlan [2] 40 ?_
      refine ⟨fun z => absurd z hng, fun _ => ?_⟩
      refine ⟨fun z => ?_, fun z => ?_⟩
      · refine ⟨hix, ?_⟩
        refine ⟨hix, ?_⟩
        exact nx _ (by rw [if_neg z, eb])
      · refine ⟨hix, ?_⟩
        exact nx _ (by rw [if_pos z])
  refine sound ok_X_tallyWithPlan [2] 20 ?_
  exact loop 0 S ⟨by omega, Fr.rf _ _ _, fun j j0 j1 => absurd j1 (by omega)⟩
theorem t_X_better (R S : St) (g one other : Int) (Q : Option AV → St → Prop) (h : Rel R S) (hQ : ∀ S', Xs S S' → Rel R S' → Q (some (.inl (aM_better R g one other))) S') : Smm H_X_better 0 [some (.inr (.inr 40)), some (.inl g), some (.inl one), some (.inl other)] [] S Q := by
  have no : (¬ (¬ R 0 18 = 0 ∧ 0 ≤ g ∧ g < R 0 19) ∨ one < 0 ∨ R 0 31 ≤ one ∨ other < 0 ∨ R 0 31 ≤ other) → Q (some (.inl (-1000000))) S := fun hz => by
    have := hQ S (Xs.rf S) h
    unfold aM_better at this
    rwa [if_pos hz] at this
  refine sound ok_X_better [] 60 ?_
  refine t_xGuard R S g _ h.1 (fun h1 => ⟨fun z => absurd z (by decide), fun _ => ?_⟩) (fun h1 => ⟨fun _ => no (Or.inl h1), fun z => absurd rfl z⟩)
  refine t_xPlan R S one _ h.1 (fun h2 => ⟨fun z => absurd z (by decide), fun _ => ?_⟩) (fun h2 => ⟨fun _ => no (Or.inr (by omega)), fun z => absurd rfl z⟩)
  refine t_xPlan R S other _ h.1 (fun h3 => ⟨fun _ => ?_, fun z => absurd z (by decide)⟩) (fun h3 => ⟨fun z => absurd rfl z, fun _ => no (Or.inr (by omega))⟩)
  unfold aM_better at hQ
  rw [if_neg (fun q => q.elim (fun q => q h1) (by omega))] at hQ
  obtain ⟨hl0, hp, hT, hR, hP, hpo⟩ := h.1.land h1.1
  refine t_withPlan R S g one _ h h1.1 h1.2 h2 (fun S1 hx1 hr1 => ?_)
  refine t_withPlan R S1 g other _ hr1 h1.1 h1.2 h3 (fun S2 hx2 hr2 => ?_)
  have b1 := cntM_b (mAs_pl (g := g) hT (show -1 ≤ one ∧ one < tl R 0 31 by show -1 ≤ one ∧ one < R 0 31; omega))
  have b2 := cntM_b (mAs_pl (g := g) hT (show -1 ≤ other ∧ other < tl R 0 31 by show -1 ≤ other ∧ other < R 0 31; omega))
  have e : i32 (cntM (up (tl R) 20 g one) - cntM (up (tl R) 20 g other)) = cntM (up (tl R) 20 g one) - cntM (up (tl R) 20 g other) := i32_id (by omega) (by omega)
  have hq := hQ S2 (hx1.tr hx2) hr2
  rw [← e] at hq
  exact hq
