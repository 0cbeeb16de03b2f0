/-! the class: best, thief, waits, sets -/
set_option maxHeartbeats 1000000 in
theorem t_X_best (R S : St) (g what : Int) (Q : Option AV → St → Prop) (h : Rel R S) (hQ : ∀ S', Xs S S' → Rel R S' → Q (some (.inl (aM_best R 0 g what))) S') : Smm H_X_best 0 [some (.inr (.inr 40)), some (.inl g), some (.inl what)] [] S Q := by
  have no : (¬ (¬ R 0 18 = 0 ∧ 0 ≤ g ∧ g < R 0 19) ∨ ¬ (0 ≤ what ∧ what ≤ 1)) → Q (some (.inl (-1))) S := fun hz => by
    have := hQ S (Xs.rf S) h
    unfold aM_best at this
    rwa [if_pos hz] at this
  refine sound ok_X_best [] 80 ?_
  refine t_xGuard R S g _ h.1 (fun h1 => ⟨fun z => absurd z (by decide), fun _ => ?_⟩) (fun h1 => ⟨fun _ => no (Or.inl h1), fun z => absurd rfl z⟩)
  refine t_within S what 1 _ (fun h2 => ⟨fun _ => ?_, fun z => absurd z (by decide)⟩) (fun h2 => ⟨fun z => absurd rfl z, fun _ => no (Or.inr h2)⟩)
  have hn : ¬ (¬ (¬ R 0 18 = 0 ∧ 0 ≤ g ∧ g < R 0 19) ∨ ¬ (0 ≤ what ∧ what ≤ 1)) := fun z => z.elim (fun z => z h1) (fun z => z h2)
  unfold aM_best at hQ
  rw [if_neg hn] at hQ
  obtain ⟨hl0, hp, hT, hR, hP, hpo⟩ := h.1.land h1.1
  have hs := hl0.2.1
  have p19 : tl R 0 19 = R 0 19 := tl_0 R (by decide) (by decide)
  have p20 : tl R 0 20 = R 0 20 := tl_0 R (by decide) (by decide)
  refine t_trySimple (tl R) S g 0 _ hT hR hP hpo (by rw [p19]; exact h1.2) (by decide) (fun S' hF ho => ?_)
  have hr : Rel R S' := h.fr hF rfl rfl
  have e1 : S' 63 1 = R 0 20 := hr.1.2.2.1.1.2
  obtain ⟨N, hN⟩ : ∃ N : Nat, 10 * R 0 20 = N := ⟨(10 * R 0 20).toNat, by omega⟩
  have e10 : i32 (S' 63 1 * 10) = (N : Int) := by rw [e1, ← hN, i32_id (by omega) (by omega)]; omega
  have hq := hQ S' (Xs.of hF rfl) hr
  rw [show (10 * R 0 20).toNat = N by clear e10; omega] at hq
  have hbm := bmF_congr (t := S' 112) (t' := fun k => ((wyM (tl R)).countP (beP (tl R) g 0 k) : Int)) N (fun j j0 j1 => ho j j0 (by rw [p20]; clear e10; omega))
  have hbb := bmF_b (fun k => ((wyM (tl R)).countP (beP (tl R) g 0 k) : Int)) N
  have hv := ho (bmF (fun k => ((wyM (tl R)).countP (beP (tl R) g 0 k) : Int)) N) hbb.1 (by rw [p20]; clear e10; omega)
  have go := fun Q' hq' => t_soAnswer S' N what Q' (by clear e10; omega) hq'
  rw [← e10] at go
  refine go _ ?_
  rw [hbm, hv]
  exact hq
set_option maxHeartbeats 1000000 in
theorem t_X_thief (R S : St) (g what : Int) (Q : Option AV → St → Prop) (h : Rel R S) (hQ : ∀ S', Xs S S' → Rel R S' → Q (some (.inl (aM_best R 1 g what))) S') : Smm H_X_thief 0 [some (.inr (.inr 40)), some (.inl g), some (.inl what)] [] S Q := by
  have no : (¬ (¬ R 0 18 = 0 ∧ 0 ≤ g ∧ g < R 0 19) ∨ ¬ (0 ≤ what ∧ what ≤ 1)) → Q (some (.inl (-1))) S := fun hz => by
    have := hQ S (Xs.rf S) h
    unfold aM_best at this
    rwa [if_pos hz] at this
  refine sound ok_X_thief [] 80 ?_
  refine t_xGuard R S g _ h.1 (fun h1 => ⟨fun z => absurd z (by decide), fun _ => ?_⟩) (fun h1 => ⟨fun _ => no (Or.inl h1), fun z => absurd rfl z⟩)
  refine t_within S what 1 _ (fun h2 => ⟨fun _ => ?_, fun z => absurd z (by decide)⟩) (fun h2 => ⟨fun z => absurd rfl z, fun _ => no (Or.inr h2)⟩)
  have hn : ¬ (¬ (¬ R 0 18 = 0 ∧ 0 ≤ g ∧ g < R 0 19) ∨ ¬ (0 ≤ what ∧ what ≤ 1)) := fun z => z.elim (fun z => z h1) (fun z => z h2)
  unfold aM_best at hQ
  rw [if_neg hn] at hQ
  obtain ⟨hl0, hp, hT, hR, hP, hpo⟩ := h.1.land h1.1
  have hs := hl0.2.1
  have p19 : tl R 0 19 = R 0 19 := tl_0 R (by decide) (by decide)
  have p20 : tl R 0 20 = R 0 20 := tl_0 R (by decide) (by decide)
  refine t_trySimple (tl R) S g 1 _ hT hR hP hpo (by rw [p19]; exact h1.2) (by decide) (fun S' hF ho => ?_)
  have hr : Rel R S' := h.fr hF rfl rfl
  have e1 : S' 63 1 = R 0 20 := hr.1.2.2.1.1.2
  obtain ⟨N, hN⟩ : ∃ N : Nat, 10 * R 0 20 = N := ⟨(10 * R 0 20).toNat, by omega⟩
  have e10 : i32 (S' 63 1 * 10) = (N : Int) := by rw [e1, ← hN, i32_id (by omega) (by omega)]; omega
  have hq := hQ S' (Xs.of hF rfl) hr
  rw [show (10 * R 0 20).toNat = N by clear e10; omega] at hq
  have hbm := bmF_congr (t := S' 112) (t' := fun k => ((wyM (tl R)).countP (beP (tl R) g 1 k) : Int)) N (fun j j0 j1 => ho j j0 (by rw [p20]; clear e10; omega))
  have hbb := bmF_b (fun k => ((wyM (tl R)).countP (beP (tl R) g 1 k) : Int)) N
  have hv := ho (bmF (fun k => ((wyM (tl R)).countP (beP (tl R) g 1 k) : Int)) N) hbb.1 (by rw [p20]; clear e10; omega)
  have go := fun Q' hq' => t_soAnswer S' N what Q' (by clear e10; omega) hq'
  rw [← e10] at go
  refine go _ ?_
  rw [hbm, hv]
  exact hq
set_option maxHeartbeats 1000000 in
theorem t_X_waits (R S : St) (g what : Int) (Q : Option AV → St → Prop) (h : Rel R S) (hQ : ∀ S', Xs S S' → Rel R S' → Q (some (.inl (aM_waits R g what))) S') : Smm H_X_waits 0 [some (.inr (.inr 40)), some (.inl g), some (.inl what)] [] S Q := by
  have no : (¬ (¬ R 0 18 = 0 ∧ 0 ≤ g ∧ g < R 0 19) ∨ ¬ (0 ≤ what ∧ what ≤ 1)) → Q (some (.inl (-1))) S := fun hz => by
    have := hQ S (Xs.rf S) h
    unfold aM_waits at this
    rwa [if_pos hz] at this
  refine sound ok_X_waits [] 80 ?_
  refine t_xGuard R S g _ h.1 (fun h1 => ⟨fun z => absurd z (by decide), fun _ => ?_⟩) (fun h1 => ⟨fun _ => no (Or.inl h1), fun z => absurd rfl z⟩)
  refine t_within S what 1 _ (fun h2 => ⟨fun _ => ?_, fun z => absurd z (by decide)⟩) (fun h2 => ⟨fun z => absurd rfl z, fun _ => no (Or.inr h2)⟩)
  have hn : ¬ (¬ (¬ R 0 18 = 0 ∧ 0 ≤ g ∧ g < R 0 19) ∨ ¬ (0 ≤ what ∧ what ≤ 1)) := fun z => z.elim (fun z => z h1) (fun z => z h2)
  unfold aM_waits at hQ
  rw [if_neg hn] at hQ
  obtain ⟨hl0, hp, hT, hR, hP, hpo⟩ := h.1.land h1.1
  have p19 : tl R 0 19 = R 0 19 := tl_0 R (by decide) (by decide)
  refine t_tryWaiting (tl R) S g _ hT hR hP hpo (by rw [p19]; exact h1.2) (fun S' hF ho => ?_)
  have hr : Rel R S' := h.fr hF rfl rfl
  have hq := hQ S' (Xs.of hF rfl) hr
  have hbm := bmF_congr (t := S' 112) (t' := fun n => ((wyM (tl R)).countP (waP (tl R) g n) : Int)) 10 (fun j j0 j1 => ho j j0 (by omega))
  have hbb := bmF_b (fun n => ((wyM (tl R)).countP (waP (tl R) g n) : Int)) 10
  have hv := ho (bmF (fun n => ((wyM (tl R)).countP (waP (tl R) g n) : Int)) 10) hbb.1 (by omega)
  refine t_soAnswer S' 10 what _ (by omega) ?_
  rw [hbm, hv]
  exact hq
set_option maxHeartbeats 2000000 in
theorem t_X_sets (R S : St) (i : Int) (Q : Option AV → St → Prop) (h : Rel R S) (hQ : ∀ S', Xs S S' → Rel R S' → Q (some (.inl (aM_sets R i))) S') : Smm H_X_sets 0 [some (.inr (.inr 40)), some (.inl i), none, none, none] [] S Q := by
  have no : (R 0 18 = 0 ∨ i < -1) → Q (some (.inl (-1))) S := fun hz => by
    have := hQ S (Xs.rf S) h
    unfold aM_sets at this
    rwa [if_pos hz] at this
  refine sound ok_X_sets [42] 80 ?_
  refine t_told R S _ h.1 (fun h1 => ⟨fun z => absurd z (by decide), fun _ => ?_⟩) (fun h1 => ⟨fun _ => no (Or.inl h1), fun z => absurd rfl z⟩)
  refine ⟨fun h2 => ?_, fun h2 => no (Or.inr h2)⟩
  have hn : ¬ (R 0 18 = 0 ∨ i < -1) := fun z => z.elim h1 (fun z => absurd z (by omega))
  unfold aM_sets at hQ
  rw [if_neg hn] at hQ
  refine t_surveyed R S _ h h1 (fun S1 hx1 hr1 hs1 => ?_)
  obtain ⟨hl0, hp, hT, hR, hP, hpo⟩ := hr1.1.land h1
  have hk := hl0.1
  have p19 : tl R 0 19 = R 0 19 := tl_0 R (by decide) (by decide)
  obtain ⟨w, hw⟩ : ∃ w : Nat, R 0 19 = w := ⟨(R 0 19).toNat, by omega⟩
  rw [show (R 0 19).toNat = w by omega] at hQ
  have hca := hr1.2.2.1
  rw [show (R 0 19).toNat = w by omega] at hca
  refine t_openSets (tl R) S1 w _ hT hR hP hpo ⟨by rw [p19]; exact hw, by omega⟩ (hca.elim Or.inl (fun q => Or.inr ⟨q.1, q.2.2⟩)) (fun S2 hF2 f1 hb => ?_)
  have hr2 : Rel R S2 := by
    refine ⟨hr1.1.fr hF2 rfl, ?_, Or.inr ⟨f1, h1, by rw [show (R 0 19).toNat = w by omega]; exact hb⟩, ?_⟩
    · have := hr1.2.1
      unfold svP at this ⊢
      rw [hF2.s 106 0 rfl, hF2.s 106 2 rfl, hF2.s 106 7 rfl, hF2.s 106 8 rfl, hF2.s 106 9 rfl, hF2.s 106 10 rfl, hF2.s 106 11 rfl, hF2.s 106 12 rfl, hF2.c 107 rfl, hF2.c 108 rfl, hF2.c 109 rfl, hF2.c 110 rfl]
      exact this
    · have := hr1.2.2.2
      unfold dI at this ⊢
      rw [hF2.c 117 rfl, hF2.c 118 rfl, hF2.c 119 rfl, hF2.c 120 rfl]
      exact this
  have hq := hQ S2 (hx1.tr (Xs.of hF2 rfl)) hr2
  generalize hpp : pS (tl R) w (wyM (tl R)) = p at hq hb
  have hp0 : p 0 = false := by
    rw [← hpp]
    unfold pS
    rw [decide_eq_false (by omega), Bool.false_and]
  have e2 : S2 63 0 = w := by rw [← hw]; exact hr2.1.2.2.1.1.1
  have hwb : 2 ≤ w ∧ w ≤ 4 := by omega
  obtain ⟨K, hKe⟩ : ∃ K : Nat, 2 ^ w = K := ⟨_, rfl⟩
  have hK := pw2 hwb
  rw [hKe] at hK hq
  have eK : ishl 1 (S2 63 0) = (K : Int) := by rw [e2, ishl_nat (by omega), hKe]
  have loop : ∀ (d k : Nat), k + d = K → (s1F p i k).2 < 0 → Smm H_X_sets 42 [some (.inr (.inr 40)), some (.inl i), some (.inl (S2 106 13)), some (.inl (s1F p i k).1), some (.inl (k : Int))] [] S2 Q := by
    intro d
    induction d with
    | zero =>
      intro k hk2 hneg
      have hkK : k = K := by omega
      subst hkK
      unfold anS at hq
      rw [if_neg (by omega)] at hq
      refine sound ok_X_sets [42] 40 ?_
      refine ⟨fun _ => ?_, fun z => absurd z (by rw [eK]; exact Int.lt_irrefl _)⟩
      refine ⟨fun z => ?_, fun z => ?_⟩
      · rw [if_neg z] at hq; exact hq
      · rw [if_pos z] at hq; exact hq
    | succ d ih =>
      intro k hk2 hneg
      have hng : ¬ ishl 1 (S2 63 0) ≤ (k : Int) := by rw [eK]; omega
      have hbit := hb.bit (k := k) (by omega)
      have hsb := s1F_b p i k
      have hst : s1F p i (k + 1) = srS (p k) i k (s1F p i k) := rfl
      have hfin := s1F_e p i (k := k + 1)
      have ih := ih (k + 1) (by omega)
      rw [hst] at ih hfin
      generalize s1F p i k = q at hsb ih hfin hneg
      unfold srS at ih hfin
      rw [if_neg (show ¬ 0 ≤ q.2 by omega)] at ih hfin
      have e : ((k + 1 : Nat) : Int) = i32 ((k : Int) + 1) := i32_s (by omega)
      have e1 : q.1 + 1 = i32 (q.1 + 1) := (i32_id (by clear e; omega) (by clear e; omega)).symm
      refine sound ok_X_sets [42] 40 ?_
      refine ⟨fun z => absurd z hng, fun _ => ?_⟩
      refine ⟨fun z => ?_, fun z => ?_⟩
      · rw [hbit] at z
        have hpk : ¬ p k = true := fun y => by rw [if_pos y] at z; exact absurd z (by decide)
        rw [if_neg hpk] at ih
        exact Smm.sub (ih hneg) ⟨Or.inr rfl, Or.inr rfl, Or.inr rfl, Or.inr rfl, Or.inr (sI e), trivial⟩
      · rw [hbit] at z
        have hpk : p k = true := by
          by_cases y : p k = true
          · exact y
          · rw [if_neg y] at z; exact absurd rfl z
        rw [if_pos hpk] at ih hfin
        refine ⟨fun y => ?_, fun y => ?_⟩
        · rw [if_neg y] at ih
          exact Smm.sub (ih hneg) ⟨Or.inr rfl, Or.inr rfl, Or.inr rfl, Or.inr (sI e1), Or.inr (sI e), trivial⟩
        · rw [if_pos y] at hfin
          have h3 := hfin (show (0 : Int) ≤ (k : Int) by clear e e1; omega) (K - (k + 1))
          rw [show k + 1 + (K - (k + 1)) = K by clear e e1; omega] at h3
          rw [h3] at hq
          unfold anS at hq
          rw [if_pos (show (0 : Int) ≤ (k : Int) by clear e e1; omega)] at hq
          exact hq
  have s1 : s1F p i 1 = (0, -1) := by
    show srS (p 0) i 0 (s1F p i 0) = (0, -1)
    rw [hp0]
    rfl
  have go := loop (K - 1) 1 (by omega) (by rw [s1]; decide)
  rw [s1] at go
  exact go
/-! the class: pairs -/
theorem t_xPair (R S : St) (one other : Int) (Q : Option AV → St → Prop) (h : RelB R S) (h1 : prM R one other → Q (some (.inl 1)) S) (h0 : ¬ prM R one other → Q (some (.inl 0)) S) : Smm H_X_isPair 0 [some (.inr (.inr 40)), some (.inl one), some (.inl other)] [] S Q := by
  refine sound ok_X_isPair [] 40 ?_
  refine t_xGuard R S one _ h (fun g1 => ⟨fun z => absurd z (by decide), fun _ => ?_⟩) (fun g1 => ⟨fun _ => ⟨Or.inl rfl, h0 (fun q => g1 ⟨q.1, q.2.1⟩)⟩, fun z => absurd rfl z⟩)
  refine t_xGuard R S other _ h (fun g2 => ⟨fun z => absurd z (by decide), fun _ => ?_⟩) (fun g2 => ⟨fun _ => ⟨Or.inl rfl, h0 (fun q => g2 ⟨q.1, q.2.2.1⟩)⟩, fun z => absurd rfl z⟩)
  obtain ⟨hl0, hp, hT, hR, hP, hpo⟩ := h.land g1.1
  refine ⟨fun z => ⟨Or.inl rfl, h0 (fun q => q.2.2.2.1 z)⟩, fun z => ?_⟩
  refine t_allWays_l (tl R) S _ hT hR ?_
  exact ⟨fun y => ⟨Or.inl rfl, h0 (fun q => absurd q.2.2.2.2 (by omega))⟩, fun y => ⟨Or.inr rfl, h1 ⟨g1.1, g1.2, g2.2, z, y⟩⟩⟩
set_option maxHeartbeats 1000000 in
theorem t_dueled (R S : St) (one other : Int) (Q : Option AV → St → Prop) (h : Rel R S) (hpr : prM R one other) (hQ : ∀ S', Xs S S' → Rel R S' → S' 117 1 = one → S' 117 2 = other → S' 117 10 = 10 * R 0 20 → dI (tl R) one other 1 (wyM (tl R)) S' → Q (some (.inr (.inr 117))) S') : Smm H_X_dueled 0 [some (.inr (.inr 40)), some (.inl one), some (.inl other)] [] S Q := by
  obtain ⟨hl0, hp, hT, hR, hP, hpo⟩ := h.1.land hpr.1
  have p19 : tl R 0 19 = R 0 19 := tl_0 R (by decide) (by decide)
  have p20 : tl R 0 20 = R 0 20 := tl_0 R (by decide) (by decide)
  obtain ⟨k, hk⟩ : ∃ k : Nat, R 0 19 = k := ⟨(R 0 19).toNat, by have := hl0.1; omega⟩
  have fill : Smm H_X_dueled 32 [some (.inr (.inr 40)), some (.inl one), some (.inl other)] [] S Q := by
    refine sound ok_X_dueled [] 40 ?_
    refine t_dFill (tl R) S one other k _ hT hR hP hpo (by rw [p19]; exact hk) (by rw [← hk]; exact hpr.2.1) (by rw [← hk]; exact hpr.2.2.1) hpr.2.2.2.1 (fun S' hF f0 f1 f2 f10 hd => ?_)
    rw [p20] at f10
    refine hQ S' (Xs.of hF rfl) ⟨h.1.fr hF rfl, ?_, ?_, Or.inr ⟨f0, hpr.1, by rw [f1]; exact hpr.2.1, by rw [f2]; exact hpr.2.2.1, f10, by rw [f1, f2]; exact hd⟩⟩ f1 f2 f10 hd
    · have := h.2.1
      unfold svP at this ⊢
      rw [hF.c 106 rfl, hF.c 107 rfl, hF.c 108 rfl, hF.c 109 rfl, hF.c 110 rfl]
      exact this
    · rw [hF.c 106 rfl]
      exact h.2.2.1
  refine sound ok_X_dueled [32] 40 ?_
  refine ⟨fun z => fill, fun z => ?_⟩
  refine ⟨fun y => fill, fun y => ?_⟩
  refine ⟨fun x => ?_, fun x => fill⟩
  rcases h.2.2.2 with q | ⟨q0, q1, q2, q3, q4, q5⟩
  · exact absurd q z
  · rw [y, x] at q5
    exact hQ S (Xs.rf S) h y x q4 q5
theorem t_X_pair (R S : St) (one other what : Int) (Q : Option AV → St → Prop) (h : Rel R S) (hQ : ∀ S', Xs S S' → Rel R S' → Q (some (.inl (aM_pair R one other what))) S') : Smm H_X_pair 0 [some (.inr (.inr 40)), some (.inl one), some (.inl other), some (.inl what), none, none] [] S Q := by
  have no : (¬ (0 ≤ what ∧ what ≤ 1) ∨ ¬ prM R one other) → Q (some (.inl (-1))) S := fun hz => by
    have := hQ S (Xs.rf S) h
    unfold aM_pair at this
    rwa [if_pos hz] at this
  refine sound ok_X_pair [] 80 ?_
  refine t_xPair R S one other _ h.1 (fun h1 => ⟨fun z => absurd z (by decide), fun _ => ?_⟩) (fun h1 => ⟨fun _ => no (Or.inr h1), fun z => absurd rfl z⟩)
  refine t_within S what 1 _ (fun h2 => ⟨fun _ => ?_, fun z => absurd z (by decide)⟩) (fun h2 => ⟨fun z => absurd rfl z, fun _ => no (Or.inl h2)⟩)
  have hn : ¬ (¬ (0 ≤ what ∧ what ≤ 1) ∨ ¬ prM R one other) := fun z => z.elim (fun z => z h2) (fun z => z h1)
  unfold aM_pair at hQ
  rw [if_neg hn] at hQ
  refine t_dueled R S one other _ h h1 (fun S' hx hr f1 f2 f10 hd => ?_)
  have hs := (hr.1.1.1 h1.1).2.1
  obtain ⟨w, hw⟩ : ∃ w : Nat, 10 * R 0 20 = w := ⟨(10 * R 0 20).toNat, by omega⟩
  have hq := hQ S' hx hr
  rw [show (10 * R 0 20).toNat = w by omega] at hq
  have hop : ∀ k, 0 ≤ k → k < 2500 → S' 118 k = pwM R one other k := fun k k0 k1 => by
    rw [(hd k k0 k1).1, Int.one_mul]
    rfl
  have ec := bpA_congr hop (w := w) (by omega) w (by omega)
  have hbb := bpA_b (S' 118) (w := w) (by omega) w (by omega)
  rw [← ec, ← hop _ hbb.1 hbb.2] at hq
  refine t_mostOpen S' w _ ⟨by rw [f10]; exact hw, by omega⟩ ?_
  refine ⟨fun z => ?_, fun z => ?_⟩
  · rw [if_neg z] at hq
    exact ⟨hbb, hq⟩
  · rw [if_pos z] at hq
    exact t_codeOf S' _ _ hbb hq
theorem t_X_sure (R S : St) (one other : Int) (Q : Option AV → St → Prop) (h : Rel R S) (hQ : ∀ S', Xs S S' → Rel R S' → Q (some (.inl (aM_sure R one other))) S') : Smm H_X_sure 0 [some (.inr (.inr 40)), some (.inl one), some (.inl other)] [] S Q := by
  have no : ¬ prM R one other → Q (some (.inl (-1))) S := fun hz => by
    have := hQ S (Xs.rf S) h
    unfold aM_sure at this
    rwa [if_pos hz] at this
  refine sound ok_X_sure [] 60 ?_
  refine t_xPair R S one other _ h.1 (fun h1 => ⟨fun _ => ?_, fun z => absurd z (by decide)⟩) (fun h1 => ⟨fun z => absurd rfl z, fun _ => no h1⟩)
  unfold aM_sure at hQ
  rw [if_neg (fun z => z h1)] at hQ
  refine t_dueled R S one other _ h h1 (fun S' hx hr f1 f2 f10 hd => ?_)
  obtain ⟨hl0, hp, hT, hR, hP, hpo⟩ := hr.1.land h1.1
  have hs := hl0.2.1
  have p20 : tl R 0 20 = R 0 20 := tl_0 R (by decide) (by decide)
  obtain ⟨w, hw⟩ : ∃ w : Nat, 10 * R 0 20 = w := ⟨(10 * R 0 20).toNat, by omega⟩
  have hq := hQ S' hx hr
  have hlb := cntM_b hT
  have hop : ∀ k, 0 ≤ k → k < 2500 → S' 118 k = pwM R one other k := fun k k0 k1 => by
    rw [(hd k k0 k1).1, Int.one_mul]
    rfl
  rw [← ctF_congr (t := S' 118) (t' := pwM R one other) (lenM (tl R)) 2500 (fun j j0 j1 => hop j j0 (by omega))] at hq
  refine t_allWays_l (tl R) S' _ hT hR ?_
  refine t_countIn S' w (lenM (tl R)) _ ⟨by rw [f10]; exact hw, by omega⟩ (fun k k0 k1 hk => ?_) hq
  rw [(hd k k0 k1).1, Int.one_mul]
  have hz : smL (wP (tl R) one other k) (wyM (tl R)) = 0 := by
    rw [smL_congr (g := wP (tl R) one other k) (g' := fun _ => 0) (wyM (tl R)) (fun f _ => by unfold wP; rw [p20, if_neg (by omega)])]
    have := smL_b (g := fun _ => 0) (c := 0) (fun _ => ⟨Int.le_refl _, Int.le_refl _⟩) (wyM (tl R))
    omega
  rw [hz]
  omega
theorem wG_sum (T : St) (one other g k : Int) : ∀ l : List (Int → Int), smL (wG T one other g k) l = T 7 g * smL (wP T one other k) l + T 8 g * smL (wF T one other g k) l
  | [] => by rw [smL, smL, smL]; simp
  | f :: l => by
    rw [smL, smL, smL, wG_sum T one other g k l, Int.mul_add, Int.mul_add]
    have e : wG T one other g k f = T 7 g * wP T one other k f + T 8 g * wF T one other g k f := by
      unfold wG wP wF
      by_cases z : k / 50 < 10 * T 0 20 ∧ k % 50 < 10 * T 0 20
      · rw [if_pos z, if_pos z, if_pos z]
        by_cases y : op2 T f one other (k / 50) (k % 50) = true
        · rw [if_pos y, if_pos y, if_pos y, Int.mul_one, Int.mul_zero, Int.add_zero]
        · rw [if_neg y, if_neg y, if_neg y, Int.mul_zero, Int.zero_add]
          split
          · rw [Int.mul_one]
          · rw [Int.mul_zero]
      · rw [if_neg z, if_neg z, if_neg z, Int.mul_zero, Int.mul_zero]
        rfl
    rw [e]
    omega
theorem t_X_rest (R S : St) (one other i : Int) (Q : Option AV → St → Prop) (h : Rel R S) (hQ : ∀ S', Xs S S' → Rel R S' → Q (some (.inl (aM_rest R one other i))) S') : Smm H_X_rest 0 [some (.inr (.inr 40)), some (.inl one), some (.inl other), some (.inl i)] [] S Q := by
  have no : (i < -1 ∨ ¬ prM R one other) → Q (some (.inl (-1))) S := fun hz => by
    have := hQ S (Xs.rf S) h
    unfold aM_rest at this
    rwa [if_pos hz] at this
  refine sound ok_X_rest [] 60 ?_
  refine t_xPair R S one other _ h.1 (fun h1 => ⟨fun z => absurd z (by decide), fun _ => ?_⟩) (fun h1 => ⟨fun _ => no (Or.inr h1), fun z => absurd rfl z⟩)
  refine ⟨fun h2 => ?_, fun h2 => no (Or.inl h2)⟩
  have hn : ¬ (i < -1 ∨ ¬ prM R one other) := fun z => z.elim (fun z => absurd z (by omega)) (fun z => z h1)
  unfold aM_rest at hQ
  rw [if_neg hn] at hQ
  refine t_dueled R S one other _ h h1 (fun S' hx hr f1 f2 f10 hd => ?_)
  obtain ⟨hl0, hp, hT, hR, hP, hpo⟩ := hr.1.land h1.1
  have hs := hl0.2.1
  have hk := hl0.1
  obtain ⟨w, hw⟩ : ∃ w : Nat, 10 * R 0 20 = w := ⟨(10 * R 0 20).toNat, by omega⟩
  rw [show (10 * R 0 20).toNat = w by omega] at hQ
  have hlen := wyM_len hT
  have hg : gnI S' one other (pgM R one other one) (pgM R one other other) := by
    refine ⟨f1, f2, fun k k0 k1 => ?_⟩
    obtain ⟨d1, d2, d3⟩ := hd k k0 k1
    rw [Int.one_mul] at d1 d2 d3
    have b1 := smL_b (g := wP (tl R) one other k) (c := 1) (fun f => (wPF_b (tl R) one other one k f).1) (wyM (tl R))
    have b2 := smL_b (g := wF (tl R) one other one k) (c := 1) (fun f => (wPF_b (tl R) one other one k f).2) (wyM (tl R))
    have b3 := smL_b (g := wF (tl R) one other other k) (c := 1) (fun f => (wPF_b (tl R) one other other k f).2) (wyM (tl R))
    have x1 := hl0.2.2.2.2.2.2 one h1.2.1.1 h1.2.1.2
    have x2 := hl0.2.2.2.2.2.2 other h1.2.2.1.1 h1.2.2.1.2
    obtain ⟨c1, c2⟩ := (hr.1.2.2.1.2 h1.1).2.2.2 one h1.2.1.1 h1.2.1.2
    obtain ⟨c3, c4⟩ := (hr.1.2.2.1.2 h1.1).2.2.2 other h1.2.2.1.1 h1.2.2.1.2
    have g1 := ga32 (p := R 7 one) (t := R 8 one) (a := S' 118 k) (b := S' 119 k) (by omega) (by omega) (by rw [d1]; omega) (by rw [d2]; omega)
    have g2 := ga32 (p := R 7 other) (t := R 8 other) (a := S' 118 k) (b := S' 120 k) (by omega) (by omega) (by rw [d1]; omega) (by rw [d3]; omega)
    have e1 : pgM R one other one k = R 7 one * S' 118 k + R 8 one * S' 119 k := by
      unfold pgM
      rw [wG_sum, d1, d2]
      rfl
    have e2 : pgM R one other other k = R 7 other * S' 118 k + R 8 other * S' 120 k := by
      unfold pgM
      rw [wG_sum, d1, d3]
      rfl
    rw [c1, c2, c3, c4, g1.1, g2.1, e1, e2]
    exact ⟨⟨rfl, g1.2⟩, ⟨rfl, g2.2⟩⟩
  refine t_findRest S' one other i (pgM R one other one) (pgM R one other other) w _ ⟨by rw [f10]; exact hw, by omega⟩ (by omega) (by omega) hg (fun S2 hF2 => ?_)
  exact hQ S2 (hx.tr (Xs.of hF2 rfl)) (hr.fr hF2 rfl rfl)
