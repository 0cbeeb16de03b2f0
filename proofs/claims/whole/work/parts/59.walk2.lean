/-! the walk: entering, what is needed -/
theorem t_lettersOf (S : St) (p : Int) (Q : Option AV → St → Prop) (hc : 0 ≤ S 57 3 ∧ S 57 3 ≤ 8) (hQ : Q (some (.inl (if 0 ≤ p ∧ p < S 57 3 then S 60 p else 0))) S) : Smm H_Plans_lettersOf 0 [some (.inr (.inr 57)), some (.inl p)] [] S Q := by
  refine sound ok_Plans_lettersOf [] 30 ?_
  refine ⟨fun g => ?_, fun g => ?_⟩
  · rw [if_neg (by omega)] at hQ; exact hQ
  · refine ⟨fun g2 => ?_, fun g2 => ?_⟩
    · rw [if_neg (by omega)] at hQ; exact hQ
    · rw [if_pos ⟨g, g2⟩] at hQ
      exact ⟨by omega, hQ⟩
/-- the bits of a plan's letters that are heard -/
theorem us_of {T S : St} (hT : mOk T) (hP : PlR T S) {g : Int} (hg : 0 ≤ g ∧ g < 4) : ∃ x : Nat, iand (if 0 ≤ T 20 g ∧ T 20 g < S 57 3 then S 60 (T 20 g) else 0) (bitF (fun s => decide (0 ≤ T 19 (5 * g + s))) (T 0 20).toNat) = x ∧ x < 32 ∧ ∀ s : Nat, x.testBit s = true ↔ usB T S g s := by
  have hn5 := hT.1.1
  obtain ⟨a1, a2⟩ := hT.2.2.1 g hg.1 hg.2
  obtain ⟨y, y1, y2, y3⟩ := bitF_add (p := fun s => decide (0 ≤ T 19 (5 * g + s))) (T 0 20).toNat (by omega)
  have hp5 : 2 ^ (T 0 20).toNat ≤ 2 ^ 5 := Nat.pow_le_pow_right (by omega) (by omega)
  have yb : ∀ s : Nat, y.testBit s = true ↔ ((s : Int) < T 0 20 ∧ 0 ≤ T 19 (5 * g + s)) := fun s => by
    rw [tb_div, y3 s]
    by_cases z : s < (T 0 20).toNat ∧ decide (0 ≤ T 19 (5 * g + s)) = true
    · rw [if_pos z]
      have := of_decide_eq_true z.2
      simp; omega
    · rw [if_neg z]
      simp
      intro h1
      by_cases w : 0 ≤ T 19 (5 * g + s)
      · exact absurd ⟨by omega, decide_eq_true w⟩ z
      · omega
  rw [y1]
  by_cases hpl : 0 ≤ T 20 g
  · rw [if_pos ⟨hpl, by rw [hP.1]; exact a2⟩]
    obtain ⟨rc, xc, q1, q2, q3, q4, q5⟩ := hP.2.2 _ hpl a2
    obtain ⟨x, x1, x2, x3⟩ := q5.2.2.2.2.2.2.1
    dsimp only at x1
    rw [x1, iand_nat (by omega) (by omega)]
    refine ⟨_, rfl, Nat.and_lt_two_pow (n := 5) x (by omega), fun s => ?_⟩
    rw [Nat.testBit_and, Bool.and_eq_true, yb s]
    unfold usB
    constructor
    · intro h; exact ⟨hpl, ⟨x, x1, h.1⟩, h.2⟩
    · rintro ⟨h1, ⟨x', h2, h3⟩, h4⟩
      have : x' = x := by rw [x1] at h2; exact (Int.ofNat.inj h2).symm
      subst this
      exact ⟨h3, h4⟩
  · rw [if_neg (fun z => hpl z.1)]
    have := iand_nat (a := 0) (b := y) (by omega) (by omega)
    rw [show ((0 : Nat) : Int) = 0 from rfl] at this
    rw [this, Nat.zero_and]
    refine ⟨0, rfl, by decide, fun s => ?_⟩
    rw [Nat.zero_testBit]
    unfold usB
    constructor
    · intro h; exact absurd h (by decide)
    · intro h; exact absurd h.1 hpl
set_option maxHeartbeats 2000000 in
theorem t_enter_lb (T S : St) (Q : Option AV → St → Prop) (hT : mOk T) (hR : lr_l T S) (hP : PlR T S) (hpo : ∀ g, 0 ≤ g → g < T 0 19 → S 80 g = T 20 g) (hQ : ∀ S', Fr [96, 97, 99, 100, 101] [(95, 1)] S S' → wkB_l T S' → (∀ s, 0 ≤ s → s < 5 → S' 99 s = 0 ∧ S' 100 s = 1000000) → (∀ g, 0 ≤ g → g < T 0 19 → S' 101 g = 1000000) → Q none S') : Smm H_Walk_enter 0 [some (.inr (.inr 95)), some (.inr (.inr 63)), some (.inr (.inr 80)), none] [] S Q := by
  have hk4 := hT.2.1
  have hn5 := hT.1.1
  have keep : ∀ S1, Fr [96, 97, 99, 100, 101] [(95, 1)] S S1 → lr_l T S1 ∧ PlR T S1 := fun S1 h =>
    ⟨lr_sm_l hR (h.c _ rfl) (h.c _ rfl) (h.c _ rfl) (h.c _ rfl) (h.c _ rfl) (h.c _ rfl) (h.c _ rfl) (h.c _ rfl), PlR_sm hP (h.c _ rfl) (h.c _ rfl) (h.c _ rfl) (h.c _ rfl)⟩
  have l2 : ∀ (i : Int) (S1 : St), ((0 ≤ i ∧ i ≤ 5) ∧ Fr [96, 97, 99, 100, 101] [(95, 1)] S S1 ∧ S1 95 1 = 0 ∧ (∀ g, 0 ≤ g → g < T 0 19 → S1 96 g = T 20 g ∧ usI T S1 g ∧ S1 101 g = 1000000) ∧ ∀ s, 0 ≤ s → s < i → S1 99 s = 0 ∧ S1 100 s = 1000000) → Smm H_Walk_enter 71 [some (.inr (.inr 95)), some (.inr (.inr 63)), some (.inr (.inr 80)), some (.inl i)] [] S1 Q := by
    refine lp_up (P := fun i S1 => Smm H_Walk_enter 71 [some (.inr (.inr 95)), some (.inr (.inr 63)), some (.inr (.inr 80)), some (.inl i)] [] S1 Q) _ 5 ?_ ?_
    · rintro i S1 hi ⟨hi2, hF, w1, d1, d2⟩
      refine sound ok_Walk_enter [71] 20 ?_
      refine ⟨fun _ => ?_, fun z => absurd z (by omega)⟩
      exact hQ S1 hF ⟨w1, (keep S1 hF).1, (keep S1 hF).2, fun g g0 g1 => ⟨(d1 g g0 g1).1, (d1 g g0 g1).2.1⟩⟩ (fun s s0 s1 => d2 s s0 (by omega)) (fun g g0 g1 => (d1 g g0 g1).2.2)
    · rintro i S1 hi ⟨hi2, hF, w1, d1, d2⟩ ih
      have bi : 0 ≤ i ∧ i < 5 := by omega
      have e : i + 1 = i32 (i + 1) := (i32_id (by omega) (by omega)).symm
      refine sound ok_Walk_enter [71] 40 ?_
      refine ⟨fun z => absurd z (Int.not_le.mpr hi), fun _ => ?_⟩
      refine ⟨bi, ?_⟩
      refine ⟨bi, ?_⟩
      refine Smm.sub (ih (up (up S1 99 i 0) 100 i 1000000) ⟨⟨Int.le_add_one bi.1, hi⟩, (hF.up _ _ _ rfl).up _ _ _ rfl, by rw [up_o _ _ _ (by decide), up_o _ _ _ (by decide)]; exact w1, fun g g0 g1 => ?_, fun s s0 s1 => ?_⟩) ⟨Or.inr rfl, Or.inr rfl, Or.inr rfl, Or.inr (sI e), trivial⟩
      · have := d1 g g0 g1
        unfold usI usB at this ⊢
        rw [up_o _ _ _ (by decide), up_o _ _ _ (by decide), up_o _ _ _ (by decide), up_o _ _ _ (by decide), up_o _ _ _ (by decide), up_o _ _ _ (by decide), up_o _ _ _ (by decide), up_o _ _ _ (by decide)]
        exact this
      · by_cases z : s = i
        · rw [z, up_s, up_o _ _ _ (by decide), up_s]; exact ⟨rfl, rfl⟩
        · rw [up_n _ _ _ z, up_o _ _ _ (by decide), up_n _ _ _ z, up_o _ _ _ (by decide)]
          exact d2 s s0 (by clear e; omega)
  have l1 : ∀ (i : Int) (S1 : St), ((0 ≤ i ∧ i ≤ T 0 19) ∧ Fr [96, 97, 101] [(95, 1)] S S1 ∧ S1 95 1 = 0 ∧ ∀ g, 0 ≤ g → g < i → S1 96 g = T 20 g ∧ usI T S1 g ∧ S1 101 g = 1000000) → Smm H_Walk_enter 7 [some (.inr (.inr 95)), some (.inr (.inr 63)), some (.inr (.inr 80)), some (.inl i)] [] S1 Q := by
    refine lp_up (P := fun i S1 => Smm H_Walk_enter 7 [some (.inr (.inr 95)), some (.inr (.inr 63)), some (.inr (.inr 80)), some (.inl i)] [] S1 Q) _ (T 0 19) ?_ ?_
    · rintro i S1 hi ⟨hi2, hF, w1, d1⟩
      have w2 : S1 63 0 = T 0 19 := (keep S1 (hF.mo rfl rfl)).1.1.1
      refine sound ok_Walk_enter [71] 20 ?_
      refine ⟨fun _ => ?_, fun z => absurd (w1.symm.trans z) (by decide)⟩
      refine ⟨fun _ => ?_, fun z => absurd z (by rw [w2]; omega)⟩
      exact l2 0 S1 ⟨by omega, hF.mo rfl rfl, w1, fun g g0 g1 => d1 g g0 (by omega), fun s s0 s1 => absurd s1 (by omega)⟩
    · rintro i S1 hi ⟨hi2, hF, w1, d1⟩ ih
      obtain ⟨k1, k2⟩ := keep S1 (hF.mo rfl rfl)
      have w2 : S1 63 0 = T 0 19 := k1.1.1
      have bi : 0 ≤ i ∧ i < 4 := by omega
      have hni : ¬ S1 63 0 ≤ i := by rw [w2]; omega
      have hpi : S1 80 i = T 20 i := by rw [hF.c 80 rfl]; exact hpo i bi.1 hi
      have e : i + 1 = i32 (i + 1) := (i32_id (by omega) (by omega)).symm
      generalize hS2 : up S1 96 i (S1 80 i) = S2
      have hF2 : Fr [96, 97, 101] [(95, 1)] S S2 := by rw [← hS2]; exact hF.up _ _ _ rfl
      obtain ⟨k3, k4⟩ := keep S2 (hF2.mo rfl rfl)
      have w3 : S2 95 1 = 0 := by rw [← hS2, up_o _ _ _ (by decide)]; exact w1
      have vp : S2 96 i = T 20 i := by rw [← hS2, up_s, hpi]
      obtain ⟨x, x1, x2, x3⟩ := us_of hT k4 (g := i) bi
      have go1 : ∀ Q' : Option AV → St → Prop, Q' (some (.inl (if 0 ≤ T 20 i ∧ T 20 i < S2 57 3 then S2 60 (T 20 i) else 0))) S2 → Smm H_Plans_lettersOf 0 [some (.inr (.inr 57)), some (.inl (S2 96 i))] [] S2 Q' := by
        intro Q' hq'
        rw [vp]
        exact t_lettersOf S2 _ Q' (by rw [k4.1]; exact k4.2.1) hq'
      have go2 : ∀ Q' : Option AV → St → Prop, Q' (some (.inl (bitF (fun s => decide (0 ≤ T 19 (5 * i + s))) (T 0 20).toNat))) S2 → Smm H_Land_heardBy 0 [some (.inr (.inr 63)), some (.inl i), none, none] [] S2 Q' := fun Q' hq' => t_heardBy_l T S2 i Q' hT k3 bi hq'
      have fin := ih (up (up S2 97 i (iand (if 0 ≤ T 20 i ∧ T 20 i < S2 57 3 then S2 60 (T 20 i) else 0) (bitF (fun s => decide (0 ≤ T 19 (5 * i + s))) (T 0 20).toNat))) 101 i 1000000) ⟨⟨Int.le_add_one bi.1, hi⟩, (hF2.up _ _ _ rfl).up _ _ _ rfl, by rw [up_o _ _ _ (by decide), up_o _ _ _ (by decide)]; exact w3, fun g g0 g1 => ?_⟩
      · rw [← hS2] at go1 go2 fin w3
        refine sound ok_Walk_enter [7] 60 ?_
        refine ⟨fun _ => ?_, fun z => absurd (w1.symm.trans z) (by decide)⟩
        refine ⟨fun z => absurd z hni, fun _ => ?_⟩
        refine ⟨bi, ?_⟩
        refine ⟨bi, ?_⟩
        refine ⟨bi, ?_⟩
        refine go1 _ ?_
        refine ⟨fun _ => ?_, fun z => absurd (w3.symm.trans z) (by decide)⟩
        refine go2 _ ?_
        refine ⟨bi, ?_⟩
        refine ⟨bi, ?_⟩
        exact Smm.sub fin ⟨Or.inr rfl, Or.inr rfl, Or.inr rfl, Or.inr (sI e), trivial⟩
      · have hus : ∀ s : Nat, usB T (up (up S2 97 i (iand (if 0 ≤ T 20 i ∧ T 20 i < S2 57 3 then S2 60 (T 20 i) else 0) (bitF (fun s => decide (0 ≤ T 19 (5 * i + s))) (T 0 20).toNat))) 101 i 1000000) g s ↔ usB T S2 g s := fun s => by
          unfold usB
          rw [up_o _ _ _ (by decide), up_o _ _ _ (by decide)]
        by_cases z : g = i
        · subst z
          refine ⟨by rw [up_o _ _ _ (by decide), up_o _ _ _ (by decide)]; exact vp, ⟨x, by rw [up_o _ _ _ (by decide), up_s, x1], x2, fun s => by rw [hus s]; exact x3 s⟩, up_s _ _ _ _⟩
        · obtain ⟨v1, ⟨y, v2, v3, v4⟩, v5⟩ := d1 g g0 (by clear e; omega)
          refine ⟨by rw [up_o _ _ _ (by decide), up_o _ _ _ (by decide), ← hS2, up_n _ _ _ z]; exact v1, ⟨y, by rw [up_o _ _ _ (by decide), up_n _ _ _ z, ← hS2, up_o _ _ _ (by decide)]; exact v2, v3, fun s => by rw [hus s, v4 s, ← hS2]; unfold usB; rw [up_o _ _ _ (by decide)]⟩, by rw [up_n _ _ _ z, up_o _ _ _ (by decide), ← hS2, up_o _ _ _ (by decide)]; exact v5⟩
  refine sound ok_Walk_enter [7] 20 ?_
  exact l1 0 (up S 95 1 0) ⟨by omega, (Fr.rf _ _ _).up _ _ _ rfl, up_s _ _ _ _, fun g g0 g1 => absurd g1 (by omega)⟩
set_option maxHeartbeats 2000000 in
theorem t_enter_lp (T S : St) (Q : Option AV → St → Prop) (hT : mOk T) (hR : lr_l T S) (hP : PlR T S) (hpo : ∀ g, 0 ≤ g → g < T 0 19 → S 41 g = T 20 g) (hQ : ∀ S', Fr [96, 97, 99, 100, 101] [(95, 1)] S S' → wkB_l T S' → (∀ s, 0 ≤ s → s < 5 → S' 99 s = 0 ∧ S' 100 s = 1000000) → (∀ g, 0 ≤ g → g < T 0 19 → S' 101 g = 1000000) → Q none S') : Smm H_Walk_enter 0 [some (.inr (.inr 95)), some (.inr (.inr 63)), some (.inr (.inr 41)), none] [] S Q := by
  have hk4 := hT.2.1
  have hn5 := hT.1.1
  have keep : ∀ S1, Fr [96, 97, 99, 100, 101] [(95, 1)] S S1 → lr_l T S1 ∧ PlR T S1 := fun S1 h =>
    ⟨lr_sm_l hR (h.c _ rfl) (h.c _ rfl) (h.c _ rfl) (h.c _ rfl) (h.c _ rfl) (h.c _ rfl) (h.c _ rfl) (h.c _ rfl), PlR_sm hP (h.c _ rfl) (h.c _ rfl) (h.c _ rfl) (h.c _ rfl)⟩
  have l2 : ∀ (i : Int) (S1 : St), ((0 ≤ i ∧ i ≤ 5) ∧ Fr [96, 97, 99, 100, 101] [(95, 1)] S S1 ∧ S1 95 1 = 0 ∧ (∀ g, 0 ≤ g → g < T 0 19 → S1 96 g = T 20 g ∧ usI T S1 g ∧ S1 101 g = 1000000) ∧ ∀ s, 0 ≤ s → s < i → S1 99 s = 0 ∧ S1 100 s = 1000000) → Smm H_Walk_enter 71 [some (.inr (.inr 95)), some (.inr (.inr 63)), some (.inr (.inr 41)), some (.inl i)] [] S1 Q := by
    refine lp_up (P := fun i S1 => Smm H_Walk_enter 71 [some (.inr (.inr 95)), some (.inr (.inr 63)), some (.inr (.inr 41)), some (.inl i)] [] S1 Q) _ 5 ?_ ?_
    · rintro i S1 hi ⟨hi2, hF, w1, d1, d2⟩
      refine sound ok_Walk_enter [71] 20 ?_
      refine ⟨fun _ => ?_, fun z => absurd z (by omega)⟩
      exact hQ S1 hF ⟨w1, (keep S1 hF).1, (keep S1 hF).2, fun g g0 g1 => ⟨(d1 g g0 g1).1, (d1 g g0 g1).2.1⟩⟩ (fun s s0 s1 => d2 s s0 (by omega)) (fun g g0 g1 => (d1 g g0 g1).2.2)
    · rintro i S1 hi ⟨hi2, hF, w1, d1, d2⟩ ih
      have bi : 0 ≤ i ∧ i < 5 := by omega
      have e : i + 1 = i32 (i + 1) := (i32_id (by omega) (by omega)).symm
      refine sound ok_Walk_enter [71] 40 ?_
      refine ⟨fun z => absurd z (Int.not_le.mpr hi), fun _ => ?_⟩
      refine ⟨bi, ?_⟩
      refine ⟨bi, ?_⟩
      refine Smm.sub (ih (up (up S1 99 i 0) 100 i 1000000) ⟨⟨Int.le_add_one bi.1, hi⟩, (hF.up _ _ _ rfl).up _ _ _ rfl, by rw [up_o _ _ _ (by decide), up_o _ _ _ (by decide)]; exact w1, fun g g0 g1 => ?_, fun s s0 s1 => ?_⟩) ⟨Or.inr rfl, Or.inr rfl, Or.inr rfl, Or.inr (sI e), trivial⟩
      · have := d1 g g0 g1
        unfold usI usB at this ⊢
        rw [up_o _ _ _ (by decide), up_o _ _ _ (by decide), up_o _ _ _ (by decide), up_o _ _ _ (by decide), up_o _ _ _ (by decide), up_o _ _ _ (by decide), up_o _ _ _ (by decide), up_o _ _ _ (by decide)]
        exact this
      · by_cases z : s = i
        · rw [z, up_s, up_o _ _ _ (by decide), up_s]; exact ⟨rfl, rfl⟩
        · rw [up_n _ _ _ z, up_o _ _ _ (by decide), up_n _ _ _ z, up_o _ _ _ (by decide)]
          exact d2 s s0 (by clear e; omega)
  have l1 : ∀ (i : Int) (S1 : St), ((0 ≤ i ∧ i ≤ T 0 19) ∧ Fr [96, 97, 101] [(95, 1)] S S1 ∧ S1 95 1 = 0 ∧ ∀ g, 0 ≤ g → g < i → S1 96 g = T 20 g ∧ usI T S1 g ∧ S1 101 g = 1000000) → Smm H_Walk_enter 7 [some (.inr (.inr 95)), some (.inr (.inr 63)), some (.inr (.inr 41)), some (.inl i)] [] S1 Q := by
    refine lp_up (P := fun i S1 => Smm H_Walk_enter 7 [some (.inr (.inr 95)), some (.inr (.inr 63)), some (.inr (.inr 41)), some (.inl i)] [] S1 Q) _ (T 0 19) ?_ ?_
    · rintro i S1 hi ⟨hi2, hF, w1, d1⟩
      have w2 : S1 63 0 = T 0 19 := (keep S1 (hF.mo rfl rfl)).1.1.1
      refine sound ok_Walk_enter [71] 20 ?_
      refine ⟨fun _ => ?_, fun z => absurd (w1.symm.trans z) (by decide)⟩
      refine ⟨fun _ => ?_, fun z => absurd z (by rw [w2]; omega)⟩
      exact l2 0 S1 ⟨by omega, hF.mo rfl rfl, w1, fun g g0 g1 => d1 g g0 (by omega), fun s s0 s1 => absurd s1 (by omega)⟩
    · rintro i S1 hi ⟨hi2, hF, w1, d1⟩ ih
      obtain ⟨k1, k2⟩ := keep S1 (hF.mo rfl rfl)
      have w2 : S1 63 0 = T 0 19 := k1.1.1
      have bi : 0 ≤ i ∧ i < 4 := by omega
      have hni : ¬ S1 63 0 ≤ i := by rw [w2]; omega
      have hpi : S1 41 i = T 20 i := by rw [hF.c 41 rfl]; exact hpo i bi.1 hi
      have e : i + 1 = i32 (i + 1) := (i32_id (by omega) (by omega)).symm
      generalize hS2 : up S1 96 i (S1 41 i) = S2
      have hF2 : Fr [96, 97, 101] [(95, 1)] S S2 := by rw [← hS2]; exact hF.up _ _ _ rfl
      obtain ⟨k3, k4⟩ := keep S2 (hF2.mo rfl rfl)
      have w3 : S2 95 1 = 0 := by rw [← hS2, up_o _ _ _ (by decide)]; exact w1
      have vp : S2 96 i = T 20 i := by rw [← hS2, up_s, hpi]
      obtain ⟨x, x1, x2, x3⟩ := us_of hT k4 (g := i) bi
      have go1 : ∀ Q' : Option AV → St → Prop, Q' (some (.inl (if 0 ≤ T 20 i ∧ T 20 i < S2 57 3 then S2 60 (T 20 i) else 0))) S2 → Smm H_Plans_lettersOf 0 [some (.inr (.inr 57)), some (.inl (S2 96 i))] [] S2 Q' := by
        intro Q' hq'
        rw [vp]
        exact t_lettersOf S2 _ Q' (by rw [k4.1]; exact k4.2.1) hq'
      have go2 : ∀ Q' : Option AV → St → Prop, Q' (some (.inl (bitF (fun s => decide (0 ≤ T 19 (5 * i + s))) (T 0 20).toNat))) S2 → Smm H_Land_heardBy 0 [some (.inr (.inr 63)), some (.inl i), none, none] [] S2 Q' := fun Q' hq' => t_heardBy_l T S2 i Q' hT k3 bi hq'
      have fin := ih (up (up S2 97 i (iand (if 0 ≤ T 20 i ∧ T 20 i < S2 57 3 then S2 60 (T 20 i) else 0) (bitF (fun s => decide (0 ≤ T 19 (5 * i + s))) (T 0 20).toNat))) 101 i 1000000) ⟨⟨Int.le_add_one bi.1, hi⟩, (hF2.up _ _ _ rfl).up _ _ _ rfl, by rw [up_o _ _ _ (by decide), up_o _ _ _ (by decide)]; exact w3, fun g g0 g1 => ?_⟩
      · rw [← hS2] at go1 go2 fin w3
        refine sound ok_Walk_enter [7] 60 ?_
        refine ⟨fun _ => ?_, fun z => absurd (w1.symm.trans z) (by decide)⟩
        refine ⟨fun z => absurd z hni, fun _ => ?_⟩
        refine ⟨bi, ?_⟩
        refine ⟨bi, ?_⟩
        refine ⟨bi, ?_⟩
        refine go1 _ ?_
        refine ⟨fun _ => ?_, fun z => absurd (w3.symm.trans z) (by decide)⟩
        refine go2 _ ?_
        refine ⟨bi, ?_⟩
        refine ⟨bi, ?_⟩
        exact Smm.sub fin ⟨Or.inr rfl, Or.inr rfl, Or.inr rfl, Or.inr (sI e), trivial⟩
      · have hus : ∀ s : Nat, usB T (up (up S2 97 i (iand (if 0 ≤ T 20 i ∧ T 20 i < S2 57 3 then S2 60 (T 20 i) else 0) (bitF (fun s => decide (0 ≤ T 19 (5 * i + s))) (T 0 20).toNat))) 101 i 1000000) g s ↔ usB T S2 g s := fun s => by
          unfold usB
          rw [up_o _ _ _ (by decide), up_o _ _ _ (by decide)]
        by_cases z : g = i
        · subst z
          refine ⟨by rw [up_o _ _ _ (by decide), up_o _ _ _ (by decide)]; exact vp, ⟨x, by rw [up_o _ _ _ (by decide), up_s, x1], x2, fun s => by rw [hus s]; exact x3 s⟩, up_s _ _ _ _⟩
        · obtain ⟨v1, ⟨y, v2, v3, v4⟩, v5⟩ := d1 g g0 (by clear e; omega)
          refine ⟨by rw [up_o _ _ _ (by decide), up_o _ _ _ (by decide), ← hS2, up_n _ _ _ z]; exact v1, ⟨y, by rw [up_o _ _ _ (by decide), up_n _ _ _ z, ← hS2, up_o _ _ _ (by decide)]; exact v2, v3, fun s => by rw [hus s, v4 s, ← hS2]; unfold usB; rw [up_o _ _ _ (by decide)]⟩, by rw [up_n _ _ _ z, up_o _ _ _ (by decide), ← hS2, up_o _ _ _ (by decide)]; exact v5⟩
  refine sound ok_Walk_enter [7] 20 ?_
  exact l1 0 (up S 95 1 0) ⟨by omega, (Fr.rf _ _ _).up _ _ _ rfl, up_s _ _ _ _, fun g g0 g1 => absurd g1 (by omega)⟩
set_option maxHeartbeats 2000000 in
theorem t_enter_ob (T S : St) (Q : Option AV → St → Prop) (hT : mOk T) (hR : lr_o T S) (hP : PlR T S) (hpo : ∀ g, 0 ≤ g → g < T 0 19 → S 80 g = T 20 g) (hQ : ∀ S', Fr [96, 97, 99, 100, 101] [(95, 1)] S S' → wkB_o T S' → (∀ s, 0 ≤ s → s < 5 → S' 99 s = 0 ∧ S' 100 s = 1000000) → (∀ g, 0 ≤ g → g < T 0 19 → S' 101 g = 1000000) → Q none S') : Smm H_Walk_enter 0 [some (.inr (.inr 95)), some (.inr (.inr 71)), some (.inr (.inr 80)), none] [] S Q := by
  have hk4 := hT.2.1
  have hn5 := hT.1.1
  have keep : ∀ S1, Fr [96, 97, 99, 100, 101] [(95, 1)] S S1 → lr_o T S1 ∧ PlR T S1 := fun S1 h =>
    ⟨lr_sm_o hR (h.c _ rfl) (h.c _ rfl) (h.c _ rfl) (h.c _ rfl) (h.c _ rfl) (h.c _ rfl) (h.c _ rfl) (h.c _ rfl), PlR_sm hP (h.c _ rfl) (h.c _ rfl) (h.c _ rfl) (h.c _ rfl)⟩
  have l2 : ∀ (i : Int) (S1 : St), ((0 ≤ i ∧ i ≤ 5) ∧ Fr [96, 97, 99, 100, 101] [(95, 1)] S S1 ∧ S1 95 1 = 1 ∧ (∀ g, 0 ≤ g → g < T 0 19 → S1 96 g = T 20 g ∧ usI T S1 g ∧ S1 101 g = 1000000) ∧ ∀ s, 0 ≤ s → s < i → S1 99 s = 0 ∧ S1 100 s = 1000000) → Smm H_Walk_enter 71 [some (.inr (.inr 95)), some (.inr (.inr 71)), some (.inr (.inr 80)), some (.inl i)] [] S1 Q := by
    refine lp_up (P := fun i S1 => Smm H_Walk_enter 71 [some (.inr (.inr 95)), some (.inr (.inr 71)), some (.inr (.inr 80)), some (.inl i)] [] S1 Q) _ 5 ?_ ?_
    · rintro i S1 hi ⟨hi2, hF, w1, d1, d2⟩
      refine sound ok_Walk_enter [71] 20 ?_
      refine ⟨fun _ => ?_, fun z => absurd z (by omega)⟩
      exact hQ S1 hF ⟨w1, (keep S1 hF).1, (keep S1 hF).2, fun g g0 g1 => ⟨(d1 g g0 g1).1, (d1 g g0 g1).2.1⟩⟩ (fun s s0 s1 => d2 s s0 (by omega)) (fun g g0 g1 => (d1 g g0 g1).2.2)
    · rintro i S1 hi ⟨hi2, hF, w1, d1, d2⟩ ih
      have bi : 0 ≤ i ∧ i < 5 := by omega
      have e : i + 1 = i32 (i + 1) := (i32_id (by omega) (by omega)).symm
      refine sound ok_Walk_enter [71] 40 ?_
      refine ⟨fun z => absurd z (Int.not_le.mpr hi), fun _ => ?_⟩
      refine ⟨bi, ?_⟩
      refine ⟨bi, ?_⟩
      refine Smm.sub (ih (up (up S1 99 i 0) 100 i 1000000) ⟨⟨Int.le_add_one bi.1, hi⟩, (hF.up _ _ _ rfl).up _ _ _ rfl, by rw [up_o _ _ _ (by decide), up_o _ _ _ (by decide)]; exact w1, fun g g0 g1 => ?_, fun s s0 s1 => ?_⟩) ⟨Or.inr rfl, Or.inr rfl, Or.inr rfl, Or.inr (sI e), trivial⟩
      · have := d1 g g0 g1
        unfold usI usB at this ⊢
        rw [up_o _ _ _ (by decide), up_o _ _ _ (by decide), up_o _ _ _ (by decide), up_o _ _ _ (by decide), up_o _ _ _ (by decide), up_o _ _ _ (by decide), up_o _ _ _ (by decide), up_o _ _ _ (by decide)]
        exact this
      · by_cases z : s = i
        · rw [z, up_s, up_o _ _ _ (by decide), up_s]; exact ⟨rfl, rfl⟩
        · rw [up_n _ _ _ z, up_o _ _ _ (by decide), up_n _ _ _ z, up_o _ _ _ (by decide)]
          exact d2 s s0 (by clear e; omega)
  have l1 : ∀ (i : Int) (S1 : St), ((0 ≤ i ∧ i ≤ T 0 19) ∧ Fr [96, 97, 101] [(95, 1)] S S1 ∧ S1 95 1 = 1 ∧ ∀ g, 0 ≤ g → g < i → S1 96 g = T 20 g ∧ usI T S1 g ∧ S1 101 g = 1000000) → Smm H_Walk_enter 7 [some (.inr (.inr 95)), some (.inr (.inr 71)), some (.inr (.inr 80)), some (.inl i)] [] S1 Q := by
    refine lp_up (P := fun i S1 => Smm H_Walk_enter 7 [some (.inr (.inr 95)), some (.inr (.inr 71)), some (.inr (.inr 80)), some (.inl i)] [] S1 Q) _ (T 0 19) ?_ ?_
    · rintro i S1 hi ⟨hi2, hF, w1, d1⟩
      have w2 : S1 71 0 = T 0 19 := (keep S1 (hF.mo rfl rfl)).1.1.1
      refine sound ok_Walk_enter [71] 20 ?_
      refine ⟨fun z => absurd (w1.symm.trans z) (by decide), fun _ => ?_⟩
      refine ⟨fun _ => ?_, fun z => absurd z (by rw [w2]; omega)⟩
      exact l2 0 S1 ⟨by omega, hF.mo rfl rfl, w1, fun g g0 g1 => d1 g g0 (by omega), fun s s0 s1 => absurd s1 (by omega)⟩
    · rintro i S1 hi ⟨hi2, hF, w1, d1⟩ ih
      obtain ⟨k1, k2⟩ := keep S1 (hF.mo rfl rfl)
      have w2 : S1 71 0 = T 0 19 := k1.1.1
      have bi : 0 ≤ i ∧ i < 4 := by omega
      have hni : ¬ S1 71 0 ≤ i := by rw [w2]; omega
      have hpi : S1 80 i = T 20 i := by rw [hF.c 80 rfl]; exact hpo i bi.1 hi
      have e : i + 1 = i32 (i + 1) := (i32_id (by omega) (by omega)).symm
      generalize hS2 : up S1 96 i (S1 80 i) = S2
      have hF2 : Fr [96, 97, 101] [(95, 1)] S S2 := by rw [← hS2]; exact hF.up _ _ _ rfl
      obtain ⟨k3, k4⟩ := keep S2 (hF2.mo rfl rfl)
      have w3 : S2 95 1 = 1 := by rw [← hS2, up_o _ _ _ (by decide)]; exact w1
      have vp : S2 96 i = T 20 i := by rw [← hS2, up_s, hpi]
      obtain ⟨x, x1, x2, x3⟩ := us_of hT k4 (g := i) bi
      have go1 : ∀ Q' : Option AV → St → Prop, Q' (some (.inl (if 0 ≤ T 20 i ∧ T 20 i < S2 57 3 then S2 60 (T 20 i) else 0))) S2 → Smm H_Plans_lettersOf 0 [some (.inr (.inr 57)), some (.inl (S2 96 i))] [] S2 Q' := by
        intro Q' hq'
        rw [vp]
        exact t_lettersOf S2 _ Q' (by rw [k4.1]; exact k4.2.1) hq'
      have go2 : ∀ Q' : Option AV → St → Prop, Q' (some (.inl (bitF (fun s => decide (0 ≤ T 19 (5 * i + s))) (T 0 20).toNat))) S2 → Smm H_Land_heardBy 0 [some (.inr (.inr 71)), some (.inl i), none, none] [] S2 Q' := fun Q' hq' => t_heardBy_o T S2 i Q' hT k3 bi hq'
      have fin := ih (up (up S2 97 i (iand (if 0 ≤ T 20 i ∧ T 20 i < S2 57 3 then S2 60 (T 20 i) else 0) (bitF (fun s => decide (0 ≤ T 19 (5 * i + s))) (T 0 20).toNat))) 101 i 1000000) ⟨⟨Int.le_add_one bi.1, hi⟩, (hF2.up _ _ _ rfl).up _ _ _ rfl, by rw [up_o _ _ _ (by decide), up_o _ _ _ (by decide)]; exact w3, fun g g0 g1 => ?_⟩
      · rw [← hS2] at go1 go2 fin w3
        refine sound ok_Walk_enter [7] 60 ?_
        refine ⟨fun z => absurd (w1.symm.trans z) (by decide), fun _ => ?_⟩
        refine ⟨fun z => absurd z hni, fun _ => ?_⟩
        refine ⟨bi, ?_⟩
        refine ⟨bi, ?_⟩
        refine ⟨bi, ?_⟩
        refine go1 _ ?_
        refine ⟨fun z => absurd (w3.symm.trans z) (by decide), fun _ => ?_⟩
        refine go2 _ ?_
        refine ⟨bi, ?_⟩
        refine ⟨bi, ?_⟩
        exact Smm.sub fin ⟨Or.inr rfl, Or.inr rfl, Or.inr rfl, Or.inr (sI e), trivial⟩
      · have hus : ∀ s : Nat, usB T (up (up S2 97 i (iand (if 0 ≤ T 20 i ∧ T 20 i < S2 57 3 then S2 60 (T 20 i) else 0) (bitF (fun s => decide (0 ≤ T 19 (5 * i + s))) (T 0 20).toNat))) 101 i 1000000) g s ↔ usB T S2 g s := fun s => by
          unfold usB
          rw [up_o _ _ _ (by decide), up_o _ _ _ (by decide)]
        by_cases z : g = i
        · subst z
          refine ⟨by rw [up_o _ _ _ (by decide), up_o _ _ _ (by decide)]; exact vp, ⟨x, by rw [up_o _ _ _ (by decide), up_s, x1], x2, fun s => by rw [hus s]; exact x3 s⟩, up_s _ _ _ _⟩
        · obtain ⟨v1, ⟨y, v2, v3, v4⟩, v5⟩ := d1 g g0 (by clear e; omega)
          refine ⟨by rw [up_o _ _ _ (by decide), up_o _ _ _ (by decide), ← hS2, up_n _ _ _ z]; exact v1, ⟨y, by rw [up_o _ _ _ (by decide), up_n _ _ _ z, ← hS2, up_o _ _ _ (by decide)]; exact v2, v3, fun s => by rw [hus s, v4 s, ← hS2]; unfold usB; rw [up_o _ _ _ (by decide)]⟩, by rw [up_n _ _ _ z, up_o _ _ _ (by decide), ← hS2, up_o _ _ _ (by decide)]; exact v5⟩
  refine sound ok_Walk_enter [7] 20 ?_
  exact l1 0 (up S 95 1 1) ⟨by omega, (Fr.rf _ _ _).up _ _ _ rfl, up_s _ _ _ _, fun g g0 g1 => absurd g1 (by omega)⟩
