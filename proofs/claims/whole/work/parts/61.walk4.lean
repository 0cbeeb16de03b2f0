/-! the walk: its start -/
def nb (y : Nat) : Int → Bool := fun s => y.testBit s.toNat
theorem mu32 {a b : Int} (ha : 0 ≤ a ∧ a ≤ 16807) (hb : 0 ≤ b ∧ b ≤ 7) : i32 (a * b) = a * b := by
  have h1 : 0 ≤ a * b := Int.mul_nonneg ha.1 hb.1
  have h2 : a * b ≤ 16807 * 7 := Int.mul_le_mul ha.2 hb.2 hb.1 (by decide)
  exact i32_id (by omega) (by omega)
theorem er32 {e : Int} (h : 0 ≤ e ∧ e ≤ 3) : i32 (i32 (2 * e) + 1) = 2 * e + 1 ∧ i32 (-e) = -e := by
  rw [i32_id (v := 2 * e) (by omega) (by omega)]
  exact ⟨i32_id (by omega) (by omega), i32_id (by omega) (by omega)⟩
/-- numbers of ways stay small -/
theorem wn_b {T : St} (hT : mAs T) (nd : Int → Bool) (k : Nat) (hk : (k : Int) ≤ T 0 20) : (1 ≤ wgN nd (T 18) k ∧ wgN nd (T 18) k ≤ 16807) ∧ (1 ≤ ((wyF (rcN nd (T 18)) k).length : Int) ∧ ((wyF (rcN nd (T 18)) k).length : Int) ≤ 16807) ∧ (∀ i : Nat, i < k → 0 ≤ rcN nd (T 18) i ∧ rcN nd (T 18) i ≤ 3) := by
  have hn5 := hT.1.1.1
  have he : ∀ i : Nat, i < k → 0 ≤ T 18 i ∧ T 18 i ≤ 3 := fun i hi => hT.2.2 i (by omega) (by omega)
  have hr : ∀ i : Nat, i < k → 0 ≤ rcN nd (T 18) i ∧ rcN nd (T 18) i ≤ 3 := fun i hi => by
    have := he i hi
    unfold rcN
    split <;> omega
  obtain ⟨w1, w2⟩ := wgN_b (nd := nd) k he
  obtain ⟨l1, l2⟩ := wy_len k he
  obtain ⟨r1, r2⟩ := wy_len k hr
  have h7 : 7 ^ k ≤ 7 ^ 5 := Nat.pow_le_pow_right (by omega) (by omega)
  have h75 : 7 ^ 5 = 16807 := rfl
  refine ⟨⟨w1, ?_⟩, ⟨by omega, by omega⟩, hr⟩
  have : wgN nd (T 18) k * 1 ≤ wgN nd (T 18) k * ((wyF (rcN nd (T 18)) k).length : Int) := Int.mul_le_mul_of_nonneg_left (by omega) (by omega)
  omega
set_option maxHeartbeats 4000000 in
theorem t_start_lb (T S : St) (a : Nat) (Q : Option AV → St → Prop) (hT : mAs T) (hR : lr_l T S) (hP : PlR T S) (hpo : ∀ g, 0 ≤ g → g < T 0 19 → S 80 g = T 20 g) (ha : a < 32)
    (hQ : ∀ (S' : St) (y : Nat), Fr [61, 62, 96, 97, 98, 99, 100, 101] [(95, 1), (95, 2)] S S' → ndI T S' a y → wkI_l T S' (fsF (rcN (nb y) (T 18)) (T 0 20).toNat) → (∀ s, 0 ≤ s → s < T 0 20 → S' 98 s = rcN (nb y) (T 18) s) → S' 95 2 = wgN (nb y) (T 18) (T 0 20).toNat → Q (some (.inl ((wyF (rcN (nb y) (T 18)) (T 0 20).toNat).length : Int))) S') : Smm H_Walk_start 0 [some (.inr (.inr 95)), some (.inr (.inr 63)), some (.inr (.inr 80)), some (.inl (a : Int)), none, none, none, none, none] [] S Q := by
  have hTo := hT.1
  have hn5 := hTo.1.1
  have hk4 := hTo.2.1
  refine sound ok_Walk_start [29] 60 ?_
  refine t_enter_lb T S _ hTo hR hP hpo (fun S1 hF1 hB1 ho1 ht1 => ?_)
  refine t_settle_l T S1 (fun _ => 0) 0 _ hTo hB1 (ofz hTo) (by omega) (fun s s0 s1 => (ho1 s s0 (by omega)).1) (fun s s0 s1 => absurd s1 (by omega)) (fun s s0 s1 => (ho1 s (by omega) s1).2) (fun g g0 g1 hu => ?_) (fun S2 hF2 hW2 => ?_)
  · rw [ht1 g g0 g1]
    exact (tn_never hTo hB1.2.2.1 (sm_bd hTo (ofz hTo)) (by omega) (fun s hs => absurd (hu s hs) (by omega))).symm
  refine t_needed_l T S2 a _ hTo hW2 ha (fun y hy => ?_)
  have hFS : Fr [61, 62, 96, 97, 98, 99, 100, 101] [(95, 1), (95, 2)] S S2 := (hF1.mo rfl rfl).tr (hF2.mo rfl rfl)
  have hbit : ∀ k : Nat, k < 5 → iand (ishr (y : Int) (k : Int)) 1 = ((y / 2 ^ k % 2 : Nat) : Int) := fun k hk => bit_nat (by have := hy.1; omega) (by omega)
  have hbit2 : ∀ k : Nat, k < 5 → (iand (ishr (y : Int) (k : Int)) 1 = 0 ↔ ¬ nb y k = true) := fun k hk => by
    rw [hbit k hk]
    unfold nb
    rw [show ((k : Int)).toNat = k from rfl, tb_div]
    constructor
    · intro h1 h2
      have := of_decide_eq_true h2
      omega
    · intro h1
      by_cases z : y / 2 ^ k % 2 = 1
      · exact absurd (decide_eq_true z) h1
      · omega
  generalize hnd : nb y = nd at hbit2
  have hQ := fun S' => hQ S' y
  rw [hnd] at hQ
  have loop : ∀ (i : Int) (q : St × Option AV × Option AV), ((0 ≤ i ∧ i ≤ T 0 20) ∧ Fr [98, 99] [(95, 2)] S2 q.1 ∧ (∀ s, 0 ≤ s → s < i → q.1 98 s = rcN nd (T 18) s ∧ q.1 99 s = -rcN nd (T 18) s) ∧ q.1 95 2 = wgN nd (T 18) i.toNat) → Smm H_Walk_start 29 [some (.inr (.inr 95)), some (.inr (.inr 63)), some (.inr (.inr 80)), some (.inl (a : Int)), some (.inl (y : Int)), some (.inl ((wyF (rcN nd (T 18)) i.toNat).length : Int)), some (.inl i), q.2.1, q.2.2] [] q.1 Q := by
    refine lp_up (P := fun i (q : St × Option AV × Option AV) => Smm H_Walk_start 29 [some (.inr (.inr 95)), some (.inr (.inr 63)), some (.inr (.inr 80)), some (.inl (a : Int)), some (.inl (y : Int)), some (.inl ((wyF (rcN nd (T 18)) i.toNat).length : Int)), some (.inl i), q.2.1, q.2.2] [] q.1 Q) _ (T 0 20) ?_ ?_
    · rintro i ⟨S3, x7, x8⟩ hi ⟨hi2, hF3, d1, d2⟩
      dsimp only at hF3 d1 d2 ⊢
      rw [show i = T 0 20 by omega] at d1 d2 ⊢
      have hB3 := wkB_fr_l hW2.1 hF3 rfl
      have w1 : S3 95 1 = 0 := hB3.1
      have w3 : S3 63 1 = T 0 20 := hB3.2.1.1.2.1
      have hr := (wn_b hT nd (T 0 20).toNat (by omega)).2.2
      have hfs : ∀ s, 0 ≤ s → s < T 0 20 → fsF (rcN nd (T 18)) (T 0 20).toNat s = -rcN nd (T 18) s := fun s s0 s1 => fsF_v _ s s0 (by omega)
      have hof : ofOk (T 0 20) (fsF (rcN nd (T 18)) (T 0 20).toNat) := fun s s0 s1 => by
        rw [hfs s s0 s1]
        have := hr s.toNat (by omega)
        rw [show ((s.toNat : Nat) : Int) = s by omega] at this
        omega
      have hle : ¬ S3 63 1 > T 0 20 := by omega
      refine sound ok_Walk_start [] 40 ?_
      refine ⟨fun _ => ?_, fun z => absurd (w1.symm.trans z) (by decide)⟩
      refine ⟨fun _ => ?_, fun z => absurd z (by rw [w3]; omega)⟩
      refine t_settle_l T S3 (fsF (rcN nd (T 18)) (T 0 20).toNat) 0 _ hTo hB3 hof (by omega) (fun s s0 s1 => by rw [(d1 s s0 s1).2, hfs s s0 s1]) (fun s s0 s1 => absurd s1 (by omega)) (fun s s0 s1 => by rw [hF3.c 100 rfl]; exact hW2.2.2.2.1 s s0 s1) (fun g g0 g1 hu => ?_) (fun S4 hF4 hW4 => ?_)
      · have hnone : ∀ s : Nat, ¬ usB T S3 g s := fun s hs => absurd (hu s hs) (by omega)
        rw [hF3.c 101 rfl, hW2.2.2.2.2 g g0 g1, tn_never hTo hB3.2.2.1 (sm_bd hTo (ofz hTo)) (by omega) hnone, tn_never hTo hB3.2.2.1 (sm_bd hTo hof) (by omega) hnone]
      · refine hQ S4 ((hFS.tr (hF3.mo rfl rfl)).tr (hF4.mo rfl rfl)) ?_ hW4 (fun s s0 s1 => by rw [hF4.c 98 rfl]; exact (d1 s s0 s1).1) (by rw [hF4.c 95 rfl]; exact d2)
        unfold ndI usB at hy ⊢
        rw [hF4.c 60 rfl, hF3.c 60 rfl]
        exact hy
    · rintro i ⟨S3, x7, x8⟩ hi ⟨hi2, hF3, d1, d2⟩ ih
      dsimp only at hF3 d1 d2 ih ⊢
      obtain ⟨k, rfl⟩ : ∃ k : Nat, i = k := ⟨i.toNat, by omega⟩
      rw [show ((k : Int)).toNat = k from rfl] at d2 ⊢
      rw [show ((k : Int) + 1).toNat = k + 1 by omega, wy_lenS, wgN] at ih
      have hB3 := wkB_fr_l hW2.1 hF3 rfl
      have w1 : S3 95 1 = 0 := hB3.1
      have w3 : S3 63 1 = T 0 20 := hB3.2.1.1.2.1
      have ee : S3 67 k = T 18 k := (hB3.2.1.2.1 k (by omega) hi).2.1
      have he := hT.2.2 k (by omega) hi
      obtain ⟨n1, n2, n3⟩ := wn_b hT nd k (by omega)
      have bk : 0 ≤ (k : Int) ∧ (k : Int) < 5 := by omega
      have hk5 : k < 5 := by omega
      have hni : ¬ S3 63 1 ≤ (k : Int) := by rw [w3]; omega
      have hk1 : 0 ≤ (k : Int) + 1 ∧ (k : Int) + 1 ≤ T 0 20 := by omega
      have b7 : 0 ≤ 2 * T 18 k + 1 ∧ 2 * T 18 k + 1 ≤ 7 := by omega
      have t1 : ((2 * T 18 k + 1).toNat : Int) = 2 * T 18 k + 1 := by omega
      have hb2 := hbit2 k hk5
      have e : (k : Int) + 1 = i32 ((k : Int) + 1) := i32_s' (by omega)
      obtain ⟨r1, r2⟩ := er32 he
      generalize hN : ((wyF (rcN nd (T 18)) k).length : Int) = N at *
      generalize hG : wgN nd (T 18) k = G at *
      have m1 : i32 (N * (2 * T 18 k + 1)) = N * (2 * T 18 k + 1) := mu32 ⟨by clear e r1 r2; omega, n2.2⟩ b7
      have m2 : i32 (G * (2 * T 18 k + 1)) = G * (2 * T 18 k + 1) := mu32 ⟨by clear e r1 r2 m1; omega, n1.2⟩ b7
      have m3 : i32 (N * 1) = N := by rw [mu32 ⟨by clear e r1 r2 m1 m2; omega, n2.2⟩ (by decide), Int.mul_one]
      have m4 : i32 (G * 1) = G := by rw [mu32 ⟨by clear e r1 r2 m1 m2 m3; omega, n1.2⟩ (by decide), Int.mul_one]
      have up2 : ∀ (r v : Int) (y7 y8 : Option AV) (N' : Int), rcN nd (T 18) k = r → i32 (-r) = -r → v = (if nd k = true then G else G * (2 * T 18 k + 1)) → N' = (((wyF (rcN nd (T 18)) k).length * (2 * rcN nd (T 18) k + 1).toNat : Nat) : Int) → Smm H_Walk_start 29 [some (.inr (.inr 95)), some (.inr (.inr 63)), some (.inr (.inr 80)), some (.inl (a : Int)), some (.inl (y : Int)), some (.inl N'), some (.inl (i32 ((k : Int) + 1))), y7, y8] [] (up (up (up S3 98 k r) 99 k (i32 (-(up S3 98 k r 98 k)))) 95 2 v) Q := by
        intro r v y7 y8 N' hr1 hr2 hv hN'
        have er : i32 (-(up S3 98 k r 98 k)) = -r := by rw [up_s, hr2]
        rw [er]
        have f := ih (up (up (up S3 98 k r) 99 k (-r)) 95 2 v, y7, y8) ⟨hk1, ((hF3.up _ _ _ rfl).up _ _ _ rfl).up _ _ _ rfl, fun s s0 s1 => ?_, ?_⟩
        · exact Smm.sub f ⟨Or.inr rfl, Or.inr rfl, Or.inr rfl, Or.inr rfl, Or.inr rfl, Or.inr (sI hN'.symm), Or.inr (sI e), Or.inr rfl, Or.inr rfl, trivial⟩
        · dsimp only
          have q1 : up (up (up S3 98 k r) 99 k (-r)) 95 2 v 98 = up S3 98 k r 98 := by rw [up_o _ _ _ (by decide), up_o _ _ _ (by decide)]
          have q2 : up (up (up S3 98 k r) 99 k (-r)) 95 2 v 99 = up (up S3 98 k r) 99 k (-r) 99 := up_o _ _ _ (by decide)
          rw [q1, q2]
          by_cases z : s = k
          · rw [z, up_s, up_s, hr1]; exact ⟨rfl, rfl⟩
          · rw [up_n _ _ _ z, up_n _ _ _ z, up_o _ _ _ (by decide)]
            exact d1 s s0 (by clear e r1 r2 m1 m2 m3 m4 er; omega)
        · dsimp only
          rw [up_s, hv]
      refine sound ok_Walk_start [29] 100 ?_
      refine ⟨fun _ => ?_, fun z => absurd (w1.symm.trans z) (by decide)⟩
      refine ⟨fun z => absurd z hni, fun _ => ?_⟩
      refine ⟨fun _ => ?_, fun z => absurd (w1.symm.trans z) (by decide)⟩
      refine ⟨bk, ?_⟩
      refine ⟨fun z => ?_, fun z => ?_⟩
      · -- not walked
        have hn : ¬ nd k = true := hb2.mp z
        have er0 : rcN nd (T 18) k = 0 := by unfold rcN; rw [if_neg hn]
        have f := up2 0 (i32 (G * i32 (i32 (2 * S3 67 k) + 1))) (some (.inl (i32 (i32 (2 * S3 67 k) + 1)))) (some (.inl 0)) (i32 (N * 1)) er0 rfl (by rw [if_neg hn, ee, r1, m2]) (by rw [m3, er0, ← hN]; simp)
        refine ⟨fun _ => ?_, fun y => absurd rfl y⟩
        refine ⟨bk, ?_⟩
        refine ⟨bk, ?_⟩
        refine ⟨bk, ?_⟩
        refine ⟨fun _ => ?_, fun y => absurd rfl y⟩
        refine ⟨fun _ => ?_, fun y => absurd rfl y⟩
        rw [← d2] at f
        exact f
      · have hn : nd k = true := by
          by_cases h : nd k = true
          · exact h
          · exact absurd (hb2.mpr h) z
        have er0 : rcN nd (T 18) k = T 18 k := by unfold rcN; rw [if_pos hn]
        have f := up2 (S3 67 k) (i32 (G * 1)) (some (.inl (i32 (i32 (2 * S3 67 k) + 1)))) (some (.inl 1)) (i32 (N * i32 (i32 (2 * S3 67 k) + 1))) (by rw [er0, ee]) (by rw [ee, r2]) (by rw [if_pos hn, m4]) (by rw [ee, r1, m1, er0, ← hN]; push_cast; rw [t1])
        refine ⟨fun y => absurd y (by decide), fun _ => ?_⟩
        refine ⟨fun _ => ?_, fun z => absurd (w1.symm.trans z) (by decide)⟩
        refine ⟨bk, ?_⟩
        refine ⟨bk, ?_⟩
        refine ⟨bk, ?_⟩
        refine ⟨bk, ?_⟩
        refine ⟨fun y => absurd y (by decide), fun _ => ?_⟩
        refine ⟨fun y => absurd y (by decide), fun _ => ?_⟩
        rw [← d2] at f
        exact f
  exact loop 0 (up S2 95 2 1, none, none) ⟨by omega, (Fr.rf _ _ _).up _ _ _ rfl, fun s s0 s1 => absurd s1 (by omega), by dsimp only; rw [up_s]; rfl⟩
set_option maxHeartbeats 4000000 in
theorem t_start_lp (T S : St) (a : Nat) (Q : Option AV → St → Prop) (hT : mAs T) (hR : lr_l T S) (hP : PlR T S) (hpo : ∀ g, 0 ≤ g → g < T 0 19 → S 41 g = T 20 g) (ha : a < 32)
    (hQ : ∀ (S' : St) (y : Nat), Fr [61, 62, 96, 97, 98, 99, 100, 101] [(95, 1), (95, 2)] S S' → ndI T S' a y → wkI_l T S' (fsF (rcN (nb y) (T 18)) (T 0 20).toNat) → (∀ s, 0 ≤ s → s < T 0 20 → S' 98 s = rcN (nb y) (T 18) s) → S' 95 2 = wgN (nb y) (T 18) (T 0 20).toNat → Q (some (.inl ((wyF (rcN (nb y) (T 18)) (T 0 20).toNat).length : Int))) S') : Smm H_Walk_start 0 [some (.inr (.inr 95)), some (.inr (.inr 63)), some (.inr (.inr 41)), some (.inl (a : Int)), none, none, none, none, none] [] S Q := by
  have hTo := hT.1
  have hn5 := hTo.1.1
  have hk4 := hTo.2.1
  refine sound ok_Walk_start [29] 60 ?_
  refine t_enter_lp T S _ hTo hR hP hpo (fun S1 hF1 hB1 ho1 ht1 => ?_)
  refine t_settle_l T S1 (fun _ => 0) 0 _ hTo hB1 (ofz hTo) (by omega) (fun s s0 s1 => (ho1 s s0 (by omega)).1) (fun s s0 s1 => absurd s1 (by omega)) (fun s s0 s1 => (ho1 s (by omega) s1).2) (fun g g0 g1 hu => ?_) (fun S2 hF2 hW2 => ?_)
  · rw [ht1 g g0 g1]
    exact (tn_never hTo hB1.2.2.1 (sm_bd hTo (ofz hTo)) (by omega) (fun s hs => absurd (hu s hs) (by omega))).symm
  refine t_needed_l T S2 a _ hTo hW2 ha (fun y hy => ?_)
  have hFS : Fr [61, 62, 96, 97, 98, 99, 100, 101] [(95, 1), (95, 2)] S S2 := (hF1.mo rfl rfl).tr (hF2.mo rfl rfl)
  have hbit : ∀ k : Nat, k < 5 → iand (ishr (y : Int) (k : Int)) 1 = ((y / 2 ^ k % 2 : Nat) : Int) := fun k hk => bit_nat (by have := hy.1; omega) (by omega)
  have hbit2 : ∀ k : Nat, k < 5 → (iand (ishr (y : Int) (k : Int)) 1 = 0 ↔ ¬ nb y k = true) := fun k hk => by
    rw [hbit k hk]
    unfold nb
    rw [show ((k : Int)).toNat = k from rfl, tb_div]
    constructor
    · intro h1 h2
      have := of_decide_eq_true h2
      omega
    · intro h1
      by_cases z : y / 2 ^ k % 2 = 1
      · exact absurd (decide_eq_true z) h1
      · omega
  generalize hnd : nb y = nd at hbit2
  have hQ := fun S' => hQ S' y
  rw [hnd] at hQ
  have loop : ∀ (i : Int) (q : St × Option AV × Option AV), ((0 ≤ i ∧ i ≤ T 0 20) ∧ Fr [98, 99] [(95, 2)] S2 q.1 ∧ (∀ s, 0 ≤ s → s < i → q.1 98 s = rcN nd (T 18) s ∧ q.1 99 s = -rcN nd (T 18) s) ∧ q.1 95 2 = wgN nd (T 18) i.toNat) → Smm H_Walk_start 29 [some (.inr (.inr 95)), some (.inr (.inr 63)), some (.inr (.inr 41)), some (.inl (a : Int)), some (.inl (y : Int)), some (.inl ((wyF (rcN nd (T 18)) i.toNat).length : Int)), some (.inl i), q.2.1, q.2.2] [] q.1 Q := by
    refine lp_up (P := fun i (q : St × Option AV × Option AV) => Smm H_Walk_start 29 [some (.inr (.inr 95)), some (.inr (.inr 63)), some (.inr (.inr 41)), some (.inl (a : Int)), some (.inl (y : Int)), some (.inl ((wyF (rcN nd (T 18)) i.toNat).length : Int)), some (.inl i), q.2.1, q.2.2] [] q.1 Q) _ (T 0 20) ?_ ?_
    · rintro i ⟨S3, x7, x8⟩ hi ⟨hi2, hF3, d1, d2⟩
      dsimp only at hF3 d1 d2 ⊢
      rw [show i = T 0 20 by omega] at d1 d2 ⊢
      have hB3 := wkB_fr_l hW2.1 hF3 rfl
      have w1 : S3 95 1 = 0 := hB3.1
      have w3 : S3 63 1 = T 0 20 := hB3.2.1.1.2.1
      have hr := (wn_b hT nd (T 0 20).toNat (by omega)).2.2
      have hfs : ∀ s, 0 ≤ s → s < T 0 20 → fsF (rcN nd (T 18)) (T 0 20).toNat s = -rcN nd (T 18) s := fun s s0 s1 => fsF_v _ s s0 (by omega)
      have hof : ofOk (T 0 20) (fsF (rcN nd (T 18)) (T 0 20).toNat) := fun s s0 s1 => by
        rw [hfs s s0 s1]
        have := hr s.toNat (by omega)
        rw [show ((s.toNat : Nat) : Int) = s by omega] at this
        omega
      have hle : ¬ S3 63 1 > T 0 20 := by omega
      refine sound ok_Walk_start [] 40 ?_
      refine ⟨fun _ => ?_, fun z => absurd (w1.symm.trans z) (by decide)⟩
      refine ⟨fun _ => ?_, fun z => absurd z (by rw [w3]; omega)⟩
      refine t_settle_l T S3 (fsF (rcN nd (T 18)) (T 0 20).toNat) 0 _ hTo hB3 hof (by omega) (fun s s0 s1 => by rw [(d1 s s0 s1).2, hfs s s0 s1]) (fun s s0 s1 => absurd s1 (by omega)) (fun s s0 s1 => by rw [hF3.c 100 rfl]; exact hW2.2.2.2.1 s s0 s1) (fun g g0 g1 hu => ?_) (fun S4 hF4 hW4 => ?_)
      · have hnone : ∀ s : Nat, ¬ usB T S3 g s := fun s hs => absurd (hu s hs) (by omega)
        rw [hF3.c 101 rfl, hW2.2.2.2.2 g g0 g1, tn_never hTo hB3.2.2.1 (sm_bd hTo (ofz hTo)) (by omega) hnone, tn_never hTo hB3.2.2.1 (sm_bd hTo hof) (by omega) hnone]
      · refine hQ S4 ((hFS.tr (hF3.mo rfl rfl)).tr (hF4.mo rfl rfl)) ?_ hW4 (fun s s0 s1 => by rw [hF4.c 98 rfl]; exact (d1 s s0 s1).1) (by rw [hF4.c 95 rfl]; exact d2)
        unfold ndI usB at hy ⊢
        rw [hF4.c 60 rfl, hF3.c 60 rfl]
        exact hy
    · rintro i ⟨S3, x7, x8⟩ hi ⟨hi2, hF3, d1, d2⟩ ih
      dsimp only at hF3 d1 d2 ih ⊢
      obtain ⟨k, rfl⟩ : ∃ k : Nat, i = k := ⟨i.toNat, by omega⟩
      rw [show ((k : Int)).toNat = k from rfl] at d2 ⊢
      rw [show ((k : Int) + 1).toNat = k + 1 by omega, wy_lenS, wgN] at ih
      have hB3 := wkB_fr_l hW2.1 hF3 rfl
      have w1 : S3 95 1 = 0 := hB3.1
      have w3 : S3 63 1 = T 0 20 := hB3.2.1.1.2.1
      have ee : S3 67 k = T 18 k := (hB3.2.1.2.1 k (by omega) hi).2.1
      have he := hT.2.2 k (by omega) hi
      obtain ⟨n1, n2, n3⟩ := wn_b hT nd k (by omega)
      have bk : 0 ≤ (k : Int) ∧ (k : Int) < 5 := by omega
      have hk5 : k < 5 := by omega
      have hni : ¬ S3 63 1 ≤ (k : Int) := by rw [w3]; omega
      have hk1 : 0 ≤ (k : Int) + 1 ∧ (k : Int) + 1 ≤ T 0 20 := by omega
      have b7 : 0 ≤ 2 * T 18 k + 1 ∧ 2 * T 18 k + 1 ≤ 7 := by omega
      have t1 : ((2 * T 18 k + 1).toNat : Int) = 2 * T 18 k + 1 := by omega
      have hb2 := hbit2 k hk5
      have e : (k : Int) + 1 = i32 ((k : Int) + 1) := i32_s' (by omega)
      obtain ⟨r1, r2⟩ := er32 he
      generalize hN : ((wyF (rcN nd (T 18)) k).length : Int) = N at *
      generalize hG : wgN nd (T 18) k = G at *
      have m1 : i32 (N * (2 * T 18 k + 1)) = N * (2 * T 18 k + 1) := mu32 ⟨by clear e r1 r2; omega, n2.2⟩ b7
      have m2 : i32 (G * (2 * T 18 k + 1)) = G * (2 * T 18 k + 1) := mu32 ⟨by clear e r1 r2 m1; omega, n1.2⟩ b7
      have m3 : i32 (N * 1) = N := by rw [mu32 ⟨by clear e r1 r2 m1 m2; omega, n2.2⟩ (by decide), Int.mul_one]
      have m4 : i32 (G * 1) = G := by rw [mu32 ⟨by clear e r1 r2 m1 m2 m3; omega, n1.2⟩ (by decide), Int.mul_one]
      have up2 : ∀ (r v : Int) (y7 y8 : Option AV) (N' : Int), rcN nd (T 18) k = r → i32 (-r) = -r → v = (if nd k = true then G else G * (2 * T 18 k + 1)) → N' = (((wyF (rcN nd (T 18)) k).length * (2 * rcN nd (T 18) k + 1).toNat : Nat) : Int) → Smm H_Walk_start 29 [some (.inr (.inr 95)), some (.inr (.inr 63)), some (.inr (.inr 41)), some (.inl (a : Int)), some (.inl (y : Int)), some (.inl N'), some (.inl (i32 ((k : Int) + 1))), y7, y8] [] (up (up (up S3 98 k r) 99 k (i32 (-(up S3 98 k r 98 k)))) 95 2 v) Q := by
        intro r v y7 y8 N' hr1 hr2 hv hN'
        have er : i32 (-(up S3 98 k r 98 k)) = -r := by rw [up_s, hr2]
        rw [er]
        have f := ih (up (up (up S3 98 k r) 99 k (-r)) 95 2 v, y7, y8) ⟨hk1, ((hF3.up _ _ _ rfl).up _ _ _ rfl).up _ _ _ rfl, fun s s0 s1 => ?_, ?_⟩
        · exact Smm.sub f ⟨Or.inr rfl, Or.inr rfl, Or.inr rfl, Or.inr rfl, Or.inr rfl, Or.inr (sI hN'.symm), Or.inr (sI e), Or.inr rfl, Or.inr rfl, trivial⟩
        · dsimp only
          have q1 : up (up (up S3 98 k r) 99 k (-r)) 95 2 v 98 = up S3 98 k r 98 := by rw [up_o _ _ _ (by decide), up_o _ _ _ (by decide)]
          have q2 : up (up (up S3 98 k r) 99 k (-r)) 95 2 v 99 = up (up S3 98 k r) 99 k (-r) 99 := up_o _ _ _ (by decide)
          rw [q1, q2]
          by_cases z : s = k
          · rw [z, up_s, up_s, hr1]; exact ⟨rfl, rfl⟩
          · rw [up_n _ _ _ z, up_n _ _ _ z, up_o _ _ _ (by decide)]
            exact d1 s s0 (by clear e r1 r2 m1 m2 m3 m4 er; omega)
        · dsimp only
          rw [up_s, hv]
      refine sound ok_Walk_start [29] 100 ?_
      refine ⟨fun _ => ?_, fun z => absurd (w1.symm.trans z) (by decide)⟩
      refine ⟨fun z => absurd z hni, fun _ => ?_⟩
      refine ⟨fun _ => ?_, fun z => absurd (w1.symm.trans z) (by decide)⟩
      refine ⟨bk, ?_⟩
      refine ⟨fun z => ?_, fun z => ?_⟩
      · -- not walked
        have hn : ¬ nd k = true := hb2.mp z
        have er0 : rcN nd (T 18) k = 0 := by unfold rcN; rw [if_neg hn]
        have f := up2 0 (i32 (G * i32 (i32 (2 * S3 67 k) + 1))) (some (.inl (i32 (i32 (2 * S3 67 k) + 1)))) (some (.inl 0)) (i32 (N * 1)) er0 rfl (by rw [if_neg hn, ee, r1, m2]) (by rw [m3, er0, ← hN]; simp)
        refine ⟨fun _ => ?_, fun y => absurd rfl y⟩
        refine ⟨bk, ?_⟩
        refine ⟨bk, ?_⟩
        refine ⟨bk, ?_⟩
        refine ⟨fun _ => ?_, fun y => absurd rfl y⟩
        refine ⟨fun _ => ?_, fun y => absurd rfl y⟩
        rw [← d2] at f
        exact f
      · have hn : nd k = true := by
          by_cases h : nd k = true
          · exact h
          · exact absurd (hb2.mpr h) z
        have er0 : rcN nd (T 18) k = T 18 k := by unfold rcN; rw [if_pos hn]
        have f := up2 (S3 67 k) (i32 (G * 1)) (some (.inl (i32 (i32 (2 * S3 67 k) + 1)))) (some (.inl 1)) (i32 (N * i32 (i32 (2 * S3 67 k) + 1))) (by rw [er0, ee]) (by rw [ee, r2]) (by rw [if_pos hn, m4]) (by rw [ee, r1, m1, er0, ← hN]; push_cast; rw [t1])
        refine ⟨fun y => absurd y (by decide), fun _ => ?_⟩
        refine ⟨fun _ => ?_, fun z => absurd (w1.symm.trans z) (by decide)⟩
        refine ⟨bk, ?_⟩
        refine ⟨bk, ?_⟩
        refine ⟨bk, ?_⟩
        refine ⟨bk, ?_⟩
        refine ⟨fun y => absurd y (by decide), fun _ => ?_⟩
        refine ⟨fun y => absurd y (by decide), fun _ => ?_⟩
        rw [← d2] at f
        exact f
  exact loop 0 (up S2 95 2 1, none, none) ⟨by omega, (Fr.rf _ _ _).up _ _ _ rfl, fun s s0 s1 => absurd s1 (by omega), by dsimp only; rw [up_s]; rfl⟩
set_option maxHeartbeats 4000000 in
theorem t_start_ob (T S : St) (a : Nat) (Q : Option AV → St → Prop) (hT : mAs T) (hR : lr_o T S) (hP : PlR T S) (hpo : ∀ g, 0 ≤ g → g < T 0 19 → S 80 g = T 20 g) (ha : a < 32)
    (hQ : ∀ (S' : St) (y : Nat), Fr [61, 62, 96, 97, 98, 99, 100, 101] [(95, 1), (95, 2)] S S' → ndI T S' a y → wkI_o T S' (fsF (rcN (nb y) (T 18)) (T 0 20).toNat) → (∀ s, 0 ≤ s → s < T 0 20 → S' 98 s = rcN (nb y) (T 18) s) → S' 95 2 = wgN (nb y) (T 18) (T 0 20).toNat → Q (some (.inl ((wyF (rcN (nb y) (T 18)) (T 0 20).toNat).length : Int))) S') : Smm H_Walk_start 0 [some (.inr (.inr 95)), some (.inr (.inr 71)), some (.inr (.inr 80)), some (.inl (a : Int)), none, none, none, none, none] [] S Q := by
  have hTo := hT.1
  have hn5 := hTo.1.1
  have hk4 := hTo.2.1
  refine sound ok_Walk_start [29] 60 ?_
  refine t_enter_ob T S _ hTo hR hP hpo (fun S1 hF1 hB1 ho1 ht1 => ?_)
  refine t_settle_o T S1 (fun _ => 0) 0 _ hTo hB1 (ofz hTo) (by omega) (fun s s0 s1 => (ho1 s s0 (by omega)).1) (fun s s0 s1 => absurd s1 (by omega)) (fun s s0 s1 => (ho1 s (by omega) s1).2) (fun g g0 g1 hu => ?_) (fun S2 hF2 hW2 => ?_)
  · rw [ht1 g g0 g1]
    exact (tn_never hTo hB1.2.2.1 (sm_bd hTo (ofz hTo)) (by omega) (fun s hs => absurd (hu s hs) (by omega))).symm
  refine t_needed_o T S2 a _ hTo hW2 ha (fun y hy => ?_)
  have hFS : Fr [61, 62, 96, 97, 98, 99, 100, 101] [(95, 1), (95, 2)] S S2 := (hF1.mo rfl rfl).tr (hF2.mo rfl rfl)
  have hbit : ∀ k : Nat, k < 5 → iand (ishr (y : Int) (k : Int)) 1 = ((y / 2 ^ k % 2 : Nat) : Int) := fun k hk => bit_nat (by have := hy.1; omega) (by omega)
  have hbit2 : ∀ k : Nat, k < 5 → (iand (ishr (y : Int) (k : Int)) 1 = 0 ↔ ¬ nb y k = true) := fun k hk => by
    rw [hbit k hk]
    unfold nb
    rw [show ((k : Int)).toNat = k from rfl, tb_div]
    constructor
    · intro h1 h2
      have := of_decide_eq_true h2
      omega
    · intro h1
      by_cases z : y / 2 ^ k % 2 = 1
      · exact absurd (decide_eq_true z) h1
      · omega
  generalize hnd : nb y = nd at hbit2
  have hQ := fun S' => hQ S' y
  rw [hnd] at hQ
  have loop : ∀ (i : Int) (q : St × Option AV × Option AV), ((0 ≤ i ∧ i ≤ T 0 20) ∧ Fr [98, 99] [(95, 2)] S2 q.1 ∧ (∀ s, 0 ≤ s → s < i → q.1 98 s = rcN nd (T 18) s ∧ q.1 99 s = -rcN nd (T 18) s) ∧ q.1 95 2 = wgN nd (T 18) i.toNat) → Smm H_Walk_start 29 [some (.inr (.inr 95)), some (.inr (.inr 71)), some (.inr (.inr 80)), some (.inl (a : Int)), some (.inl (y : Int)), some (.inl ((wyF (rcN nd (T 18)) i.toNat).length : Int)), some (.inl i), q.2.1, q.2.2] [] q.1 Q := by
    refine lp_up (P := fun i (q : St × Option AV × Option AV) => Smm H_Walk_start 29 [some (.inr (.inr 95)), some (.inr (.inr 71)), some (.inr (.inr 80)), some (.inl (a : Int)), some (.inl (y : Int)), some (.inl ((wyF (rcN nd (T 18)) i.toNat).length : Int)), some (.inl i), q.2.1, q.2.2] [] q.1 Q) _ (T 0 20) ?_ ?_
    · rintro i ⟨S3, x7, x8⟩ hi ⟨hi2, hF3, d1, d2⟩
      dsimp only at hF3 d1 d2 ⊢
      rw [show i = T 0 20 by omega] at d1 d2 ⊢
      have hB3 := wkB_fr_o hW2.1 hF3 rfl
      have w1 : S3 95 1 = 1 := hB3.1
      have w3 : S3 71 1 = T 0 20 := hB3.2.1.1.2.1
      have hr := (wn_b hT nd (T 0 20).toNat (by omega)).2.2
      have hfs : ∀ s, 0 ≤ s → s < T 0 20 → fsF (rcN nd (T 18)) (T 0 20).toNat s = -rcN nd (T 18) s := fun s s0 s1 => fsF_v _ s s0 (by omega)
      have hof : ofOk (T 0 20) (fsF (rcN nd (T 18)) (T 0 20).toNat) := fun s s0 s1 => by
        rw [hfs s s0 s1]
        have := hr s.toNat (by omega)
        rw [show ((s.toNat : Nat) : Int) = s by omega] at this
        omega
      have hle : ¬ S3 71 1 > T 0 20 := by omega
      refine sound ok_Walk_start [] 40 ?_
      refine ⟨fun z => absurd (w1.symm.trans z) (by decide), fun _ => ?_⟩
      refine ⟨fun _ => ?_, fun z => absurd z (by rw [w3]; omega)⟩
      refine t_settle_o T S3 (fsF (rcN nd (T 18)) (T 0 20).toNat) 0 _ hTo hB3 hof (by omega) (fun s s0 s1 => by rw [(d1 s s0 s1).2, hfs s s0 s1]) (fun s s0 s1 => absurd s1 (by omega)) (fun s s0 s1 => by rw [hF3.c 100 rfl]; exact hW2.2.2.2.1 s s0 s1) (fun g g0 g1 hu => ?_) (fun S4 hF4 hW4 => ?_)
      · have hnone : ∀ s : Nat, ¬ usB T S3 g s := fun s hs => absurd (hu s hs) (by omega)
        rw [hF3.c 101 rfl, hW2.2.2.2.2 g g0 g1, tn_never hTo hB3.2.2.1 (sm_bd hTo (ofz hTo)) (by omega) hnone, tn_never hTo hB3.2.2.1 (sm_bd hTo hof) (by omega) hnone]
      · refine hQ S4 ((hFS.tr (hF3.mo rfl rfl)).tr (hF4.mo rfl rfl)) ?_ hW4 (fun s s0 s1 => by rw [hF4.c 98 rfl]; exact (d1 s s0 s1).1) (by rw [hF4.c 95 rfl]; exact d2)
        unfold ndI usB at hy ⊢
        rw [hF4.c 60 rfl, hF3.c 60 rfl]
        exact hy
    · rintro i ⟨S3, x7, x8⟩ hi ⟨hi2, hF3, d1, d2⟩ ih
      dsimp only at hF3 d1 d2 ih ⊢
      obtain ⟨k, rfl⟩ : ∃ k : Nat, i = k := ⟨i.toNat, by omega⟩
      rw [show ((k : Int)).toNat = k from rfl] at d2 ⊢
      rw [show ((k : Int) + 1).toNat = k + 1 by omega, wy_lenS, wgN] at ih
      have hB3 := wkB_fr_o hW2.1 hF3 rfl
      have w1 : S3 95 1 = 1 := hB3.1
      have w3 : S3 71 1 = T 0 20 := hB3.2.1.1.2.1
      have ee : S3 75 k = T 18 k := (hB3.2.1.2.1 k (by omega) hi).2.1
      have he := hT.2.2 k (by omega) hi
      obtain ⟨n1, n2, n3⟩ := wn_b hT nd k (by omega)
      have bk : 0 ≤ (k : Int) ∧ (k : Int) < 5 := by omega
      have hk5 : k < 5 := by omega
      have hni : ¬ S3 71 1 ≤ (k : Int) := by rw [w3]; omega
      have hk1 : 0 ≤ (k : Int) + 1 ∧ (k : Int) + 1 ≤ T 0 20 := by omega
      have b7 : 0 ≤ 2 * T 18 k + 1 ∧ 2 * T 18 k + 1 ≤ 7 := by omega
      have t1 : ((2 * T 18 k + 1).toNat : Int) = 2 * T 18 k + 1 := by omega
      have hb2 := hbit2 k hk5
      have e : (k : Int) + 1 = i32 ((k : Int) + 1) := i32_s' (by omega)
      obtain ⟨r1, r2⟩ := er32 he
      generalize hN : ((wyF (rcN nd (T 18)) k).length : Int) = N at *
      generalize hG : wgN nd (T 18) k = G at *
      have m1 : i32 (N * (2 * T 18 k + 1)) = N * (2 * T 18 k + 1) := mu32 ⟨by clear e r1 r2; omega, n2.2⟩ b7
      have m2 : i32 (G * (2 * T 18 k + 1)) = G * (2 * T 18 k + 1) := mu32 ⟨by clear e r1 r2 m1; omega, n1.2⟩ b7
      have m3 : i32 (N * 1) = N := by rw [mu32 ⟨by clear e r1 r2 m1 m2; omega, n2.2⟩ (by decide), Int.mul_one]
      have m4 : i32 (G * 1) = G := by rw [mu32 ⟨by clear e r1 r2 m1 m2 m3; omega, n1.2⟩ (by decide), Int.mul_one]
      have up2 : ∀ (r v : Int) (y7 y8 : Option AV) (N' : Int), rcN nd (T 18) k = r → i32 (-r) = -r → v = (if nd k = true then G else G * (2 * T 18 k + 1)) → N' = (((wyF (rcN nd (T 18)) k).length * (2 * rcN nd (T 18) k + 1).toNat : Nat) : Int) → Smm H_Walk_start 29 [some (.inr (.inr 95)), some (.inr (.inr 71)), some (.inr (.inr 80)), some (.inl (a : Int)), some (.inl (y : Int)), some (.inl N'), some (.inl (i32 ((k : Int) + 1))), y7, y8] [] (up (up (up S3 98 k r) 99 k (i32 (-(up S3 98 k r 98 k)))) 95 2 v) Q := by
        intro r v y7 y8 N' hr1 hr2 hv hN'
        have er : i32 (-(up S3 98 k r 98 k)) = -r := by rw [up_s, hr2]
        rw [er]
        have f := ih (up (up (up S3 98 k r) 99 k (-r)) 95 2 v, y7, y8) ⟨hk1, ((hF3.up _ _ _ rfl).up _ _ _ rfl).up _ _ _ rfl, fun s s0 s1 => ?_, ?_⟩
        · exact Smm.sub f ⟨Or.inr rfl, Or.inr rfl, Or.inr rfl, Or.inr rfl, Or.inr rfl, Or.inr (sI hN'.symm), Or.inr (sI e), Or.inr rfl, Or.inr rfl, trivial⟩
        · dsimp only
          have q1 : up (up (up S3 98 k r) 99 k (-r)) 95 2 v 98 = up S3 98 k r 98 := by rw [up_o _ _ _ (by decide), up_o _ _ _ (by decide)]
          have q2 : up (up (up S3 98 k r) 99 k (-r)) 95 2 v 99 = up (up S3 98 k r) 99 k (-r) 99 := up_o _ _ _ (by decide)
          rw [q1, q2]
          by_cases z : s = k
          · rw [z, up_s, up_s, hr1]; exact ⟨rfl, rfl⟩
          · rw [up_n _ _ _ z, up_n _ _ _ z, up_o _ _ _ (by decide)]
            exact d1 s s0 (by clear e r1 r2 m1 m2 m3 m4 er; omega)
        · dsimp only
          rw [up_s, hv]
      refine sound ok_Walk_start [29] 100 ?_
      refine ⟨fun z => absurd (w1.symm.trans z) (by decide), fun _ => ?_⟩
      refine ⟨fun z => absurd z hni, fun _ => ?_⟩
      refine ⟨fun z => absurd (w1.symm.trans z) (by decide), fun _ => ?_⟩
      refine ⟨bk, ?_⟩
      refine ⟨fun z => ?_, fun z => ?_⟩
      · -- not walked
        have hn : ¬ nd k = true := hb2.mp z
        have er0 : rcN nd (T 18) k = 0 := by unfold rcN; rw [if_neg hn]
        have f := up2 0 (i32 (G * i32 (i32 (2 * S3 75 k) + 1))) (some (.inl (i32 (i32 (2 * S3 75 k) + 1)))) (some (.inl 0)) (i32 (N * 1)) er0 rfl (by rw [if_neg hn, ee, r1, m2]) (by rw [m3, er0, ← hN]; simp)
        refine ⟨fun _ => ?_, fun y => absurd rfl y⟩
        refine ⟨bk, ?_⟩
        refine ⟨bk, ?_⟩
        refine ⟨bk, ?_⟩
        refine ⟨fun _ => ?_, fun y => absurd rfl y⟩
        refine ⟨fun _ => ?_, fun y => absurd rfl y⟩
        rw [← d2] at f
        exact f
      · have hn : nd k = true := by
          by_cases h : nd k = true
          · exact h
          · exact absurd (hb2.mpr h) z
        have er0 : rcN nd (T 18) k = T 18 k := by unfold rcN; rw [if_pos hn]
        have f := up2 (S3 75 k) (i32 (G * 1)) (some (.inl (i32 (i32 (2 * S3 75 k) + 1)))) (some (.inl 1)) (i32 (N * i32 (i32 (2 * S3 75 k) + 1))) (by rw [er0, ee]) (by rw [ee, r2]) (by rw [if_pos hn, m4]) (by rw [ee, r1, m1, er0, ← hN]; push_cast; rw [t1])
        refine ⟨fun y => absurd y (by decide), fun _ => ?_⟩
        refine ⟨fun z => absurd (w1.symm.trans z) (by decide), fun _ => ?_⟩
        refine ⟨bk, ?_⟩
        refine ⟨bk, ?_⟩
        refine ⟨bk, ?_⟩
        refine ⟨bk, ?_⟩
        refine ⟨fun y => absurd y (by decide), fun _ => ?_⟩
        refine ⟨fun y => absurd y (by decide), fun _ => ?_⟩
        rw [← d2] at f
        exact f
  exact loop 0 (up S2 95 2 1, none, none) ⟨by omega, (Fr.rf _ _ _).up _ _ _ rfl, fun s s0 s1 => absurd s1 (by omega), by dsimp only; rw [up_s]; rfl⟩
