/-! the class: helper, exact, lossy -/
set_option maxHeartbeats 1000000 in
theorem t_withHearing (R S : St) (g s : Nat) (Q : Option AV → St → Prop) (h : Rel R S) (hl : ¬ R 0 18 = 0) (hg : g < 4) (hs : s < 5) (h1 : 0 ≤ R 14 (5 * g + s) → Q (some (.inl (-1))) S) (h0 : ¬ 0 ≤ R 14 (5 * g + s) → ∀ S', Xs S S' → Rel R S' → Q (some (.inl (cntM (up (tl R) 19 (5 * g + s) 0)))) S') : Smm H_X_tallyWithHearing 0 [some (.inr (.inr 40)), some (.inl (g : Int)), some (.inl (s : Int)), none] [] S Q := by
  obtain ⟨hl0, hp, hT, hR, hP, hpo⟩ := h.1.land hl
  obtain ⟨x1, x2⟩ := g5x (g := (g : Int)) (s := (s : Int)) (by omega) (by omega)
  have hd := (h.1.2.2.1.2 hl).2.2.1 (5 * (g : Int) + s) x2.1 x2.2
  have hlb := hl0.2.2.2.2.1 (5 * (g : Int) + s) x2.1 x2.2
  refine sound ok_X_tallyWithHearing [] 60 ?_
  refine ⟨by rw [x1]; exact x2, ?_⟩
  refine ⟨fun z => ?_, fun z => ?_⟩
  · rw [x1, hd] at z
    have hn : ¬ 0 ≤ R 14 (5 * (g : Int) + s) := fun q => by
      rw [dl_id q] at z
      clear x1
      omega
    refine t_cp R S _ h hl (fun S1 hF1 hr1 ho1 => ?_)
    refine ⟨by rw [x1]; exact x2, ?_⟩
    have hF2 : Fr [78] [] S1 (up S1 78 (5 * (g : Int) + s) 0) := (Fr.rf _ _ _).up _ _ _ rfl
    have go := fun Q' hq' => t_ta R (up S1 78 (5 * (g : Int) + s) 0) (up (tl R) 19 (5 * (g : Int) + s) 0) Q' (hr1.fr hF2 rfl rfl) hl (mAs_al hT (by decide)) (lo_al ho1 (by decide)) rfl rfl rfl hq'
    have go2 : ∀ Q' : Option AV → St → Prop, (∀ S', Xs (up S1 78 (5 * (g : Int) + s) 0) S' → Rel R S' → Q' (some (.inl (cntM (up (tl R) 19 (5 * (g : Int) + s) 0)))) S') → Smm H_Walk_tally 0 [some (.inr (.inr 95)), some (.inr (.inr 71)), some (.inr (.inr 80)), none, none, none] [] (up S1 78 (i32 (i32 ((g : Int) * 5) + s)) 0) Q' := by
      intro Q' hq'
      rw [x1]
      exact go Q' hq'
    refine go2 _ (fun S3 hx3 hr3 => ?_)
    exact h0 hn S3 (((Xs.of hF1 rfl).tr (Xs.of hF2 rfl)).tr hx3) hr3
  · rw [x1, hd] at z
    refine h1 ?_
    by_cases y : 0 ≤ R 14 (5 * (g : Int) + s)
    · exact y
    · exfalso
      apply z
      unfold dl
      rw [if_pos (by clear x1; omega)]
theorem hpF_b {R : St} (hT : mAs (tl R)) (g : Nat) {r : Int × Int} (hr : -1 ≤ r.2) : ∀ s : Nat, -1 ≤ (hpF R g s r).2
  | 0 => hr
  | s + 1 => by
    have ih := hpF_b hT g hr s
    rw [hpF]
    split
    · exact ih
    · split
      · have := cntM_b (mAs_al (j := 5 * (g : Int) + s) (v := 0) hT (by decide))
        dsimp only
        omega
      · exact ih
theorem hqF_b {R : St} (hT : mAs (tl R)) (n : Nat) : ∀ g : Nat, -1 ≤ (hqF R n g).2
  | 0 => by show -1 ≤ (-1 : Int); omega
  | g + 1 => hpF_b hT g (hqF_b hT n g) n
theorem g10 {a b : Nat} (ha : a < 10) (hb : b < 10) : i32 (i32 (10 * (a : Int)) + b) = 10 * a + b := by
  rw [i32_id (v := 10 * (a : Int)) (by omega) (by omega), i32_id (by omega) (by omega)]
set_option maxHeartbeats 2000000 in
theorem t_X_helper (R S : St) (what : Int) (Q : Option AV → St → Prop) (h : Rel R S) (hQ : ∀ S', Xs S S' → Rel R S' → Q (some (.inl (aM_helper R what))) S') : Smm H_X_helper 0 [some (.inr (.inr 40)), some (.inl what), none, none, none, none, none] [] S Q := by
  have no : (R 0 18 = 0 ∨ ¬ (0 ≤ what ∧ what ≤ 1)) → Q (some (.inl (-1))) S := fun hz => by
    have := hQ S (Xs.rf S) h
    unfold aM_helper at this
    rwa [if_pos hz] at this
  refine sound ok_X_helper [24] 60 ?_
  refine t_told R S _ h.1 (fun h1 => ⟨fun z => absurd z (by decide), fun _ => ?_⟩) (fun h1 => ⟨fun _ => no (Or.inl h1), fun z => absurd rfl z⟩)
  refine t_within S what 1 _ (fun h2 => ⟨fun _ => ?_, fun z => absurd z (by decide)⟩) (fun h2 => ⟨fun z => absurd rfl z, fun _ => no (Or.inr h2)⟩)
  unfold aM_helper at hQ
  rw [if_neg (fun q => q.elim h1 (fun q => q h2))] at hQ
  obtain ⟨hl0, hp, hT, hR, hP, hpo⟩ := h.1.land h1
  have hk4 := hl0.1
  have hs5 := hl0.2.1
  obtain ⟨n, hn⟩ : ∃ n : Nat, R 0 20 = n := ⟨(R 0 20).toNat, by omega⟩
  obtain ⟨k, hk⟩ : ∃ k : Nat, R 0 19 = k := ⟨(R 0 19).toNat, by omega⟩
  rw [show (R 0 20).toNat = n by omega, show (R 0 19).toNat = k by omega] at hQ
  refine lp_g2 (σ := St × Option AV × Option AV) (PO := fun a s => Smm H_X_helper 24 [some (.inr (.inr 40)), some (.inl what), some (.inl (hqF R n a).1), some (.inl (hqF R n a).2), some (.inl (a : Int)), s.2.1, s.2.2] [] s.1 Q) (PI := fun a b s => Smm H_X_helper 39 [some (.inr (.inr 40)), some (.inl what), some (.inl (hpF R a b (hqF R n a)).1), some (.inl (hpF R a b (hqF R n a)).2), some (.inl (a : Int)), some (.inl (b : Int)), s.2.2] [] s.1 Q) k n (fun _ s => Xs S s.1 ∧ Rel R s.1) (fun _ _ s => Xs S s.1 ∧ Rel R s.1) ?_ ?_ ?_ ?_ (S, none, none) ⟨Xs.rf S, h⟩
  · rintro ⟨S1, y5, y6⟩ ⟨hx, hr⟩
    dsimp only at hx hr ⊢
    have e0 : S1 63 0 = k := by rw [← hk]; exact hr.1.2.2.1.1.1
    have hq := hQ S1 hx hr
    refine sound ok_X_helper [24] 20 ?_
    refine ⟨fun _ => ?_, fun z => absurd z (by rw [e0]; exact Int.lt_irrefl _)⟩
    refine ⟨fun z => ?_, fun z => ?_⟩
    · rw [if_neg z] at hq; exact hq
    · rw [if_pos z] at hq; exact hq
  · rintro a ⟨S1, y5, y6⟩ ha ⟨hx, hr⟩ ih
    dsimp only at hx hr ⊢
    have e0 : S1 63 0 = k := by rw [← hk]; exact hr.1.2.2.1.1.1
    refine sound ok_X_helper [39] 20 ?_
    exact ⟨fun z => absurd z (by rw [e0]; exact gd_l ha), fun _ => ih (S1, y5, y6) ⟨hx, hr⟩⟩
  · rintro a ⟨S1, y5, y6⟩ ha ⟨hx, hr⟩ ih
    dsimp only at hx hr ⊢
    have e1 : S1 63 1 = n := by rw [← hn]; exact hr.1.2.2.1.1.2
    refine sound ok_X_helper [24] 20 ?_
    refine ⟨fun _ => ?_, fun z => absurd z (by rw [e1]; exact Int.lt_irrefl _)⟩
    exact Smm.sub (ih (S1, some (.inl (n : Int)), y6) ⟨hx, hr⟩) ⟨Or.inr rfl, Or.inr rfl, Or.inr rfl, Or.inr rfl, Or.inr (sI (i32_s (by omega))), Or.inr rfl, Or.inr rfl, trivial⟩
  · rintro a b ⟨S1, y5, y6⟩ ha hb ⟨hx, hr⟩ ih
    dsimp only at hx hr ih ⊢
    have e1 : S1 63 1 = n := by rw [← hn]; exact hr.1.2.2.1.1.2
    have hm := hpF_b hT a (hqF_b hT n a) b
    have e10 := g10 (a := a) (b := b) (by omega) (by omega)
    have eb : ((b + 1 : Nat) : Int) = i32 ((b : Int) + 1) := i32_s (by clear e10; omega)
    rw [hpF] at ih
    generalize hpF R a b (hqF R n a) = q at ih hm ⊢
    refine sound ok_X_helper [39] 40 ?_
    refine ⟨fun z => absurd z (by rw [e1]; exact gd_l hb), fun _ => ?_⟩
    refine t_withHearing R S1 a b _ hr h1 (by clear e10 eb; omega) (by clear e10 eb; omega) (fun hz => ?_) (fun hz S2 hx2 hr2 => ?_)
    · rw [if_pos hz] at ih
      refine ⟨fun _ => ?_, fun z => absurd z (by clear e10 eb; omega)⟩
      exact Smm.sub (ih (S1, y5, some (.inl (-1))) ⟨hx, hr⟩) ⟨Or.inr rfl, Or.inr rfl, Or.inr rfl, Or.inr rfl, Or.inr rfl, Or.inr (sI eb), Or.inr rfl, trivial⟩
    · rw [if_neg hz] at ih
      have ih := ih (S2, y5, some (.inl (cntM (up (tl R) 19 (5 * (a : Int) + b) 0)))) ⟨hx.tr hx2, hr2⟩
      refine ⟨fun z => ?_, fun z => ?_⟩
      · rw [if_neg (Int.not_lt.mpr z)] at ih
        exact Smm.sub ih ⟨Or.inr rfl, Or.inr rfl, Or.inr rfl, Or.inr rfl, Or.inr rfl, Or.inr (sI eb), Or.inr rfl, trivial⟩
      · rw [if_pos z] at ih
        exact Smm.sub ih ⟨Or.inr rfl, Or.inr rfl, Or.inr (sI e10.symm), Or.inr rfl, Or.inr rfl, Or.inr (sI eb), Or.inr rfl, trivial⟩
theorem ex64 {a b : Int} (ha : 0 ≤ a ∧ a ≤ 16807) (hb : 0 ≤ b ∧ b ≤ 16807) : i64 (a * b) = a * b := by
  have h1 : 0 ≤ a * b := Int.mul_nonneg ha.1 hb.1
  have h2 : a * b ≤ 16807 * 16807 := Int.mul_le_mul ha.2 hb.2 hb.1 (by decide)
  exact i64_id (by omega) (by omega)
set_option maxHeartbeats 2000000 in
theorem t_X_exact (R S : St) (what : Int) (Q : Option AV → St → Prop) (h : Rel R S) (hQ : ∀ S', Xs S S' → Rel R S' → Q (some (.inl (aM_exact R what))) S') : Smm H_X_exact 0 [some (.inr (.inr 40)), some (.inl what), none, none, none, none, none, none] [] S Q := by
  have no : (R 0 18 = 0 ∨ ¬ (0 ≤ what ∧ what ≤ 2)) → Q (some (.inl (-1))) S := fun hz => by
    have := hQ S (Xs.rf S) h
    unfold aM_exact at this
    rwa [if_pos hz] at this
  refine sound ok_X_exact [27] 60 ?_
  refine t_told R S _ h.1 (fun h1 => ⟨fun z => absurd z (by decide), fun _ => ?_⟩) (fun h1 => ⟨fun _ => no (Or.inl h1), fun z => absurd rfl z⟩)
  refine t_within S what 2 _ (fun h2 => ⟨fun _ => ?_, fun z => absurd z (by decide)⟩) (fun h2 => ⟨fun z => absurd rfl z, fun _ => no (Or.inr h2)⟩)
  unfold aM_exact at hQ
  rw [if_neg (fun q => q.elim h1 (fun q => q h2))] at hQ
  obtain ⟨hl0, hp, hT, hR, hP, hpo⟩ := h.1.land h1
  have hs5 := hl0.2.1
  obtain ⟨n, hn⟩ : ∃ n : Nat, R 0 20 = n := ⟨(R 0 20).toNat, by omega⟩
  rw [show (R 0 20).toNat = n by omega] at hQ
  have loop : ∀ (d k : Nat) (S2 : St) (y6 y7 : Option AV), k + d = n → Xs S S2 → Rel R S2 → Smm H_X_exact 27 [some (.inr (.inr 40)), some (.inl what), some (.inl (exF R k).1), some (.inl (exF R k).2.1), some (.inl (exF R k).2.2), some (.inl (k : Int)), y6, y7] [] S2 Q := by
    intro d
    induction d with
    | zero =>
      intro k S2 y6 y7 hk hx hr
      have e1 : S2 63 1 = n := by rw [← hn]; exact hr.1.2.2.1.1.2
      have : k = n := by omega
      subst this
      have hb := exF_b hT k
      have hq := hQ S2 hx hr
      refine sound ok_X_exact [27] 40 ?_
      refine ⟨fun _ => ?_, fun z => absurd z (by rw [e1]; exact Int.lt_irrefl _)⟩
      refine ⟨fun z => ?_, fun z => ?_⟩
      · have e2 : i32 (what - 1) = what - 1 := i32_id (by omega) (by omega)
        rw [if_neg z] at hq
        refine t_fraction S2 _ _ _ _ (by clear e2; omega) (by clear e2; omega) ?_
        rw [e2]
        clear e2
        by_cases y : what = 1
        · rw [if_pos y] at hq
          rw [if_pos (by omega)]
          exact hq
        · rw [if_neg y] at hq
          rw [if_neg (by omega)]
          exact hq
      · rw [if_pos z] at hq
        exact hq
    | succ d ih =>
      intro k S2 y6 y7 hk hx hr
      have e1 : S2 63 1 = n := by rw [← hn]; exact hr.1.2.2.1.1.2
      have hng : ¬ S2 63 1 ≤ (k : Int) := by rw [e1]; omega
      have hkx : (0 : Int) ≤ k ∧ (k : Int) < 5 := by omega
      have hb := exF_b hT k
      have hT2 := mAs_ae (j := (k : Int)) (v := 0) hT (by decide)
      have hcb := cntM_b hT2
      have ih := fun S2 y6 y7 => ih (k + 1) S2 y6 y7 (by omega)
      rw [exF] at ih
      generalize exF R k = q at ih hb ⊢
      have c1 := ex64 (a := cntM (up (tl R) 18 k 0)) (b := q.2.2) (by omega) (by omega)
      have c2 := ex64 (a := q.2.1) (b := lenM (up (tl R) 18 k 0)) (by omega) (by omega)
      have e : ((k + 1 : Nat) : Int) = i32 ((k : Int) + 1) := i32_s (by omega)
      refine sound ok_X_exact [27] 80 ?_
      refine ⟨fun z => absurd z hng, fun _ => ?_⟩
      refine t_cp R S2 _ hr h1 (fun S3 hF3 hr3 ho3 => ?_)
      refine ⟨hkx, ?_⟩
      have hF4 : Fr [75] [] S3 (up S3 75 k 0) := (Fr.rf _ _ _).up _ _ _ rfl
      have ho4 : lr_o (up (tl R) 18 k 0) (up S3 75 k 0) := lo_ae ho3
      have hr4 := hr3.fr hF4 rfl rfl
      obtain ⟨_, _, _, _, hP4, hpo4⟩ := hr4.1.land h1
      refine t_tally_ob (up (tl R) 18 k 0) (up S3 75 k 0) _ hT2 ho4 hP4 hpo4 (fun S5 hF5 => ?_)
      have ho5 : lr_o (up (tl R) 18 k 0) S5 := by
        unfold lr_o lrI at ho4 ⊢
        rw [hF5.c 71 rfl, hF5.c 74 rfl, hF5.c 75 rfl, hF5.c 76 rfl, hF5.c 77 rfl, hF5.c 78 rfl, hF5.c 72 rfl, hF5.c 73 rfl]
        exact ho4
      have hr5 := hr4.fr hF5 rfl rfl
      have hxx : Xs S S5 := ((hx.tr (Xs.of hF3 rfl)).tr (Xs.of hF4 rfl)).tr (Xs.of hF5 rfl)
      refine t_allWays_o (up (tl R) 18 k 0) S5 _ hT2 ho5 ?_
      have ih := ih S5 (some (.inl (cntM (up (tl R) 18 k 0)))) (some (.inl (lenM (up (tl R) 18 k 0)))) hxx hr5
      refine ⟨fun z => ?_, fun z => ?_⟩
      · rw [if_neg (fun y => absurd y.1 (by rw [z]; decide))] at ih
        exact Smm.sub ih ⟨Or.inr rfl, Or.inr rfl, Or.inr rfl, Or.inr rfl, Or.inr rfl, Or.inr (sI e), Or.inr rfl, Or.inr rfl, trivial⟩
      · refine ⟨fun y => ?_, fun y => ?_⟩
        · rw [c1, c2] at y
          have hle : cntM (up (tl R) 18 k 0) * q.2.2 ≤ q.2.1 * lenM (up (tl R) 18 k 0) := by
            unfold jcmp at y
            clear c1 c2 e
            split at y
            · exact absurd y (by decide)
            · omega
          rw [if_pos ⟨by clear c1 c2 e; omega, hle⟩] at ih
          exact Smm.sub ih ⟨Or.inr rfl, Or.inr rfl, Or.inr rfl, Or.inr rfl, Or.inr rfl, Or.inr (sI e), Or.inr rfl, Or.inr rfl, trivial⟩
        · rw [c1, c2] at y
          have hle : ¬ cntM (up (tl R) 18 k 0) * q.2.2 ≤ q.2.1 * lenM (up (tl R) 18 k 0) := by
            unfold jcmp at y
            clear c1 c2 e
            split at y
            · omega
            · split at y
              · exact absurd y (by decide)
              · exact absurd y (by decide)
          rw [if_neg (fun w => hle w.2)] at ih
          exact Smm.sub ih ⟨Or.inr rfl, Or.inr rfl, Or.inr rfl, Or.inr rfl, Or.inr rfl, Or.inr (sI e), Or.inr rfl, Or.inr rfl, trivial⟩
  exact loop n 0 S none none (by omega) (Xs.rf S) h
