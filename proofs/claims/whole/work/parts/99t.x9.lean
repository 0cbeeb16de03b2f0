/-! the class: the tape, plans, scratches, draws, images -/
theorem t_X_end (R S : St) (n : Int) (Q : Option AV → St → Prop) (h : Rel R S) (h0 : ¬ (0 ≤ n ∧ n ≤ R 0 2) → Q (some (.inl 0)) S) (h1 : 0 ≤ n ∧ n ≤ R 0 2 → ∀ S', Xs S S' → Rel (up (th R) 0 2 n) S' → Q (some (.inl 1)) S') : Smm H_X_end 0 [some (.inr (.inr 40)), some (.inl n)] [] S Q := by
  have e : S 43 1 = R 0 2 := h.1.2.1.1
  refine sound ok_X_end [] 40 ?_
  refine ⟨fun z => ⟨Or.inl rfl, h0 (by omega)⟩, fun z => ?_⟩
  refine ⟨fun y => ⟨Or.inr rfl, ?_⟩, fun y => ⟨Or.inl rfl, h0 (by omega)⟩⟩
  have hF : Fr [] [(43, 1)] S (up S 43 1 n) := (Fr.rf _ _ _).up _ _ _ rfl
  obtain ⟨⟨r1, r2, r3, r4, r5, r6, r7⟩, t, l, p, b, i⟩ := h.1
  refine h1 (by omega) _ (Xs.of hF rfl) ⟨⟨⟨r1, r2, r3, ⟨⟨z, ?_⟩, fun j j0 j1 => ?_⟩, r5, r6, r7⟩, ⟨up_s _ _ _ _, t.2⟩, l, p, b, i⟩, ca_sm (h.2.fr hF rfl) h.1.1 rfl rfl rfl (fun _ => (⟨⟨rfl, rfl, rfl, rfl, rfl⟩, ⟨rfl, rfl, fun _ _ _ => ⟨rfl, fun _ _ => rfl⟩⟩, fun _ _ _ => ⟨rfl, rfl⟩, fun _ _ _ => rfl, fun _ _ _ => rfl⟩))⟩
  · have := r4.1
    show n ≤ 160
    omega
  · have j1' : j < n := j1
    exact r4.2 j j0 (by omega)
/-- one byte more on both tapes -/
theorem rel_cm {R S : St} (h : Rel R S) {b : Int} (hb : 0 ≤ b ∧ b ≤ 255) (hn : R 0 2 + zb b ≤ 160) : Rel (cmB R b) (cxB S b) := by
  unfold cmB cxB
  by_cases z : b = 0
  · rw [if_pos z, if_pos z]
    exact h
  · rw [if_neg z, if_neg z]
    have hz : zb b = 1 := by unfold zb; rw [if_neg z]
    rw [hz] at hn
    obtain ⟨⟨r1, r2, r3, r4, r5, r6, r7⟩, t, l, p, bk, i⟩ := h.1
    have e : S 43 1 = R 0 2 := t.1
    have hF : Fr [44] [(43, 1)] S (up (up S 44 (S 43 1) b) 43 1 (S 43 1 + 1)) := ((Fr.rf _ _ _).up _ _ _ rfl).up _ _ _ rfl
    refine ⟨⟨⟨r1, r2, r3, ⟨⟨?_, ?_⟩, fun j j0 j1 => ?_⟩, r5, r6, r7⟩, ⟨?_, ?_⟩, l, p, bk, i⟩, ca_sm (h.2.fr hF rfl) h.1.1 rfl rfl rfl (fun _ => (⟨⟨rfl, rfl, rfl, rfl, rfl⟩, ⟨rfl, rfl, fun _ _ _ => ⟨rfl, fun _ _ => rfl⟩⟩, fun _ _ _ => ⟨rfl, rfl⟩, fun _ _ _ => rfl, fun _ _ _ => rfl⟩))⟩
    · have := r4.1
      show 0 ≤ R 0 2 + 1
      omega
    · show R 0 2 + 1 ≤ 160
      exact hn
    · have j1' : j < R 0 2 + 1 := j1
      show 1 ≤ up R 1 (R 0 2) b 1 j ∧ up R 1 (R 0 2) b 1 j ≤ 255
      by_cases y : j = R 0 2
      · rw [y, up_s]
        omega
      · rw [up_n _ _ _ y]
        exact r4.2 j j0 (by omega)
    · rw [up_s, e]
      rfl
    · show up S 44 (S 43 1) b 44 = up R 1 (R 0 2) b 1
      rw [up_c, up_c, t.2, e]
theorem byt_b (w : Int) {k : Int} (hk : k = 0 ∨ k = 8 ∨ k = 16 ∨ k = 24) : 0 ≤ byt w k ∧ byt w k ≤ 255 := by
  have e : byt w k = (((Int32.ofInt (ishr w k)).toBitVec &&& 255#32)).toInt := rfl
  have hn : ((Int32.ofInt (ishr w k)).toBitVec &&& 255#32).toNat ≤ 255 := by
    rw [BitVec.toNat_and]
    exact Nat.and_le_right
  rw [e, BitVec.toInt_eq_toNat_of_lt (by omega)]
  omega
theorem cm_n (R : St) (b : Int) : cmB R b 0 2 = R 0 2 + zb b := cmB_n R b
theorem rel_cs {R S : St} (h : Rel R S) {w : Int} (hn : R 0 2 + lvN w ≤ 160) : Rel (cmS R w) (cxS S w) := by
  have z0 := zb_b (byt w 0)
  have z1 := zb_b (byt w 8)
  have z2 := zb_b (byt w 16)
  have z3 := zb_b (byt w 24)
  unfold lvN at hn
  have h1 := rel_cm h (byt_b w (Or.inr (Or.inr (Or.inr rfl)))) (by omega)
  have n1 := cmB_n R (byt w 24)
  have h2 := rel_cm h1 (byt_b w (Or.inr (Or.inr (Or.inl rfl)))) (by rw [n1]; omega)
  have n2 := cmB_n (cmB R (byt w 24)) (byt w 16)
  have h3 := rel_cm h2 (byt_b w (Or.inr (Or.inl rfl))) (by rw [n2, n1]; omega)
  have n3 := cmB_n (cmB (cmB R (byt w 24)) (byt w 16)) (byt w 8)
  exact rel_cm h3 (byt_b w (Or.inl rfl)) (by rw [n3, n2, n1]; omega)
theorem cxB_fr (S : St) (b : Int) : Fr [44] [(43, 1)] S (cxB S b) := by
  unfold cxB
  split
  · exact Fr.rf _ _ _
  · exact ((Fr.rf _ _ _).up _ _ _ rfl).up _ _ _ rfl
theorem cxS_fr (S : St) (w : Int) : Fr [44] [(43, 1)] S (cxS S w) := ((((cxB_fr S _).tr (cxB_fr _ _)).tr (cxB_fr _ _)).tr (cxB_fr _ _))
theorem fe32 {a b c d e n : Int} (ha : 0 ≤ a ∧ a ≤ 4) (hb : 0 ≤ b ∧ b ≤ 4) (hc : 0 ≤ c ∧ c ≤ 4) (hd : 0 ≤ d ∧ d ≤ 4) (he : 0 ≤ e ∧ e ≤ 4) (hn : 0 ≤ n ∧ n ≤ 160) : i32 (i32 (i32 (i32 (a + b) + c) + d) + e) = a + b + c + d + e ∧ i32 (n + (a + b + c + d + e)) = n + a + b + c + d + e := by
  rw [i32_id (v := a + b) (by omega) (by omega), i32_id (v := a + b + c) (by omega) (by omega), i32_id (v := a + b + c + d) (by omega) (by omega), i32_id (v := a + b + c + d + e) (by omega) (by omega), i32_id (by omega) (by omega)]
  omega
set_option maxHeartbeats 2000000 in
theorem t_X_feed (R S : St) (a b c d e : Int) (Q : Option AV → St → Prop) (h : Rel R S) (h0 : 160 < fdN R a b c d e → Q (some (.inl (-1))) S) (h1 : fdN R a b c d e ≤ 160 → ∀ S', Xs S S' → Rel (fdS R a b c d e) S' → Q (some (.inl (fdN R a b c d e))) S') : Smm H_X_feed 0 [some (.inr (.inr 40)), some (.inl a), some (.inl b), some (.inl c), some (.inl d), some (.inl e), none] [] S Q := by
  have e1 : S 43 1 = R 0 2 := h.1.2.1.1
  have hn := h.1.1.2.2.2.1.1
  have la := lvN_b a
  have lb := lvN_b b
  have lc := lvN_b c
  have ld := lvN_b d
  have le := lvN_b e
  obtain ⟨f1, f2⟩ := fe32 la lb lc ld le hn
  have f3 : i32 (S 43 1 + i32 (i32 (i32 (i32 (lvN a + lvN b) + lvN c) + lvN d) + lvN e)) = fdN R a b c d e := by rw [f1, e1, f2]; rfl
  clear f1 f2
  refine sound ok_X_feed [46] 60 ?_
  refine t_filled S a _ ?_
  refine t_filled S b _ ?_
  refine t_filled S c _ ?_
  refine t_filled S d _ ?_
  refine t_filled S e _ ?_
  refine ⟨fun z => ?_, fun z => ?_⟩
  · rw [f3] at z
    clear f3
    have hth := rel_th h
    have n0 : th R 0 2 = R 0 2 := th_0 R (by decide)
    unfold fdN at z
    have k1 := rel_cs (w := a) hth (by rw [n0]; omega)
    have n1 := cmS_n (th R) a
    have k2 := rel_cs (w := b) k1 (by rw [n1, n0]; omega)
    have n2 := cmS_n (cmS (th R) a) b
    have k3 := rel_cs (w := c) k2 (by rw [n2, n1, n0]; omega)
    have n3 := cmS_n (cmS (cmS (th R) a) b) c
    have k4 := rel_cs (w := d) k3 (by rw [n3, n2, n1, n0]; omega)
    have n4 := cmS_n (cmS (cmS (cmS (th R) a) b) c) d
    have k5 := rel_cs (w := e) k4 (by rw [n4, n3, n2, n1, n0]; omega)
    have m1 := cxS_n S a
    have m2 := cxS_n (cxS S a) b
    have m3 := cxS_n (cxS (cxS S a) b) c
    have m4 := cxS_n (cxS (cxS (cxS S a) b) c) d
    have m5 := cxS_n (cxS (cxS (cxS (cxS S a) b) c) d) e
    refine sound ok_X_feed [] 60 ?_
    refine t_xAdd S a _ (by omega) (by omega) ?_
    refine t_xAdd _ b _ (by omega) (by omega) ?_
    refine t_xAdd _ c _ (by omega) (by omega) ?_
    refine t_xAdd _ d _ (by omega) (by omega) ?_
    refine t_xAdd _ e _ (by omega) (by omega) ?_
    have hq := h1 (by unfold fdN; omega) _ (Xs.of (((((cxS_fr S a).tr (cxS_fr _ b)).tr (cxS_fr _ c)).tr (cxS_fr _ d)).tr (cxS_fr _ e)) rfl) k5
    have ef : cxS (cxS (cxS (cxS (cxS S a) b) c) d) e 43 1 = fdN R a b c d e := by unfold fdN; omega
    rw [← ef] at hq
    exact hq
  · rw [f3] at z
    exact h0 z
theorem t_forget (S : St) (Q : Option AV → St → Prop) (hQ : Q none (up (up (up S 106 0 0) 106 1 0) 117 0 0)) : Smm H_X_forgetAnswers 0 [some (.inr (.inr 40))] [] S Q := by
  refine sound ok_X_forgetAnswers [] 20 ?_
  refine ⟨Or.inl rfl, ?_⟩
  refine ⟨Or.inl rfl, ?_⟩
  refine ⟨Or.inl rfl, ?_⟩
  exact hQ
theorem ca_0 (R S : St) : caX R (up (up (up S 106 0 0) 106 1 0) 117 0 0) := ⟨Or.inl rfl, Or.inl rfl, Or.inl rfl⟩
theorem fo_fr (S : St) : Fr [] [(106, 0), (106, 1), (117, 0)] S (up (up (up S 106 0 0) 106 1 0) 117 0 0) := (((Fr.rf _ _ _).up _ _ _ rfl).up _ _ _ rfl).up _ _ _ rfl
set_option maxHeartbeats 1000000 in
theorem t_X_plan (R S : St) (g p : Int) (Q : Option AV → St → Prop) (h : Rel R S) (h0 : ¬ okPl R g p → Q (some (.inl 0)) S) (h1 : okPl R g p → ∀ S', Xs S S' → Rel (up (th R) 9 g p) S' → Q (some (.inl 1)) S') : Smm H_X_plan 0 [some (.inr (.inr 40)), some (.inl g), some (.inl p)] [] S Q := by
  have main : okPl R g p → Smm H_X_plan 23 [some (.inr (.inr 40)), some (.inl g), some (.inl p)] [] S Q := by
    intro hok
    have hl0 := h.1.1.1 hok.1.1
    have hk := hl0.1
    have hg4 : 0 ≤ g ∧ g < 4 := by have := hok.1.2; omega
    refine sound ok_X_plan [] 40 ?_
    refine ⟨hg4, ?_⟩
    refine t_forget _ _ ?_
    refine ⟨Or.inr rfl, ?_⟩
    have hF : Fr [80] [] S (up S 80 g p) := (Fr.rf _ _ _).up _ _ _ rfl
    have hF2 := fo_fr (up S 80 g p)
    refine h1 hok _ ((Xs.of hF rfl).tr (Xs.of hF2 rfl)) ⟨?_, ca_0 _ _⟩
    obtain ⟨⟨r1, r2, r3, r4, r5, r6, r7⟩, t, l, pl, b, i⟩ := h.1
    obtain ⟨b1, b2⟩ := b
    obtain ⟨d1, d2, d3, d4, d5, d6, d7⟩ := hl0
    refine ⟨⟨fun hl => ⟨d1, d2, d3, d4, d5, fun g' g0 g1 => ?_, d7⟩, r2, r3, r4, r5, r6, r7⟩, t, l, pl, ⟨fun g' g0 g1 => ?_, b2⟩, i⟩
    · show -1 ≤ up R 9 g p 9 g' ∧ up R 9 g p 9 g' < R 0 31
      by_cases z : g' = g
      · rw [z, up_s]; exact hok.2
      · rw [up_n _ _ _ z]; exact d6 g' g0 g1
    · show up S 80 g p 80 g' = up R 9 g p 9 g'
      by_cases z : g' = g
      · rw [z, up_s, up_s]
      · rw [up_n _ _ _ z, up_n _ _ _ z]; exact b1 g' g0 g1
  refine sound ok_X_plan [23] 40 ?_
  refine t_xGuard R S g _ h.1 (fun g1 => ⟨fun z => absurd z (by decide), fun _ => ?_⟩) (fun g1 => ⟨fun _ => ⟨Or.inl rfl, h0 (fun q => g1 q.1)⟩, fun z => absurd rfl z⟩)
  have hp8 := h.1.1.2.2.1.1
  refine ⟨fun z => main ⟨g1, by rw [z]; omega⟩, fun z => ?_⟩
  refine t_xPlan R S p _ h.1 (fun g2 => ⟨fun _ => main ⟨g1, by omega⟩, fun y => absurd y (by decide)⟩) (fun g2 => ⟨fun y => absurd rfl y, fun _ => ⟨Or.inl rfl, h0 (fun q => by have := q.2; omega)⟩⟩)
set_option maxHeartbeats 1000000 in
theorem t_X_scratch (R S : St) (g s p : Int) (Q : Option AV → St → Prop) (h : Rel R S) (h0 : ¬ okSc R g s p → Q (some (.inl (-1))) S) (h1 : okSc R g s p → ∀ S', Xs S S' → Rel (scS R g s p) S' → Q (some (.inl (R 0 49 + 1))) S') : Smm H_X_scratch 0 [some (.inr (.inr 40)), some (.inl g), some (.inl s), some (.inl p)] [] S Q := by
  have e1 : S 79 1 = R 0 49 := h.1.2.2.2.2.1.2.1.1
  have hsb := h.1.1.2.2.2.2.1.1
  have main : (¬ R 0 18 = 0 ∧ 0 ≤ g ∧ g < R 0 19) → (s = -1 ∨ (0 ≤ s ∧ s < R 0 20)) → Smm H_X_scratch 23 [some (.inr (.inr 40)), some (.inl g), some (.inl s), some (.inl p)] [] S Q := by
    intro g1 g2
    refine sound ok_X_scratch [] 40 ?_
    refine ⟨fun z => h0 (fun q => by have := q.2.2.1; omega), fun z => ?_⟩
    refine ⟨fun y => h0 (fun q => by have := q.2.2.1; omega), fun y => ?_⟩
    refine ⟨fun x => ?_, fun x => h0 (fun q => q.2.2.2 (by omega))⟩
    have hok : okSc R g s p := ⟨g1, g2, ⟨z, y⟩, by omega⟩
    refine t_bkScratch S g s p _ (by omega) ?_
    have hF : Fr [81, 82, 83] [(79, 1)] S (up (up (up (up S 81 (S 79 1) g) 82 (S 79 1) s) 83 (S 79 1) p) 79 1 (S 79 1 + 1)) := ((((Fr.rf _ _ _).up _ _ _ rfl).up _ _ _ rfl).up _ _ _ rfl).up _ _ _ rfl
    have hq := h1 hok _ (Xs.of hF rfl)
    have ev : up (up (up (up S 81 (S 79 1) g) 82 (S 79 1) s) 83 (S 79 1) p) 79 1 (S 79 1 + 1) 79 1 = R 0 49 + 1 := by rw [up_s, e1]
    rw [← ev] at hq
    refine hq ⟨?_, ca_sm (h.2.fr hF rfl) h.1.1 rfl rfl rfl (fun _ => (⟨⟨rfl, rfl, rfl, rfl, rfl⟩, ⟨rfl, rfl, fun _ _ _ => ⟨rfl, fun _ _ => rfl⟩⟩, fun _ _ _ => ⟨rfl, rfl⟩, fun _ _ _ => rfl, fun _ _ _ => rfl⟩))⟩
    obtain ⟨⟨r1, r2, r3, r4, r5, r6, r7⟩, t, l, pl, b, i⟩ := h.1
    obtain ⟨b1, ⟨b2, b3⟩, b4⟩ := b
    have row : ∀ k, 0 ≤ k → k < R 0 49 + 1 → (scS R g s p) 30 (3 * k) = (if k = R 0 49 then g else R 30 (3 * k)) ∧ (scS R g s p) 30 (3 * k + 1) = (if k = R 0 49 then s else R 30 (3 * k + 1)) ∧ (scS R g s p) 30 (3 * k + 2) = (if k = R 0 49 then p else R 30 (3 * k + 2)) := fun k k0 k1 => by
      show up (up (up R 30 (3 * R 0 49) g) 30 (3 * R 0 49 + 1) s) 30 (3 * R 0 49 + 2) p 30 (3 * k) = _ ∧ up (up (up R 30 (3 * R 0 49) g) 30 (3 * R 0 49 + 1) s) 30 (3 * R 0 49 + 2) p 30 (3 * k + 1) = _ ∧ up (up (up R 30 (3 * R 0 49) g) 30 (3 * R 0 49 + 1) s) 30 (3 * R 0 49 + 2) p 30 (3 * k + 2) = _
      by_cases z : k = R 0 49
      · rw [if_pos z, if_pos z, if_pos z, z]
        refine ⟨?_, ?_, up_s _ _ _ _⟩
        · rw [up_n _ _ _ (by omega), up_n _ _ _ (by omega), up_s]
        · rw [up_n _ _ _ (by omega), up_s]
      · rw [if_neg z, if_neg z, if_neg z]
        refine ⟨?_, ?_, ?_⟩ <;> rw [up_n _ _ _ (by omega), up_n _ _ _ (by omega), up_n _ _ _ (by omega)]
    refine ⟨⟨r1, fun z => absurd z g1.1, r3, r4, ⟨⟨?_, ?_⟩, fun k k0 k1 => ?_⟩, r6, r7⟩, t, l, pl, ⟨b1, ⟨?_, fun k k0 k1 => ?_⟩, b4⟩, i⟩
    · show 0 ≤ R 0 49 + 1
      omega
    · show R 0 49 + 1 ≤ 10
      omega
    · obtain ⟨c1, c2, c3⟩ := row k k0 k1
      rw [c1, c2, c3]
      have k1' : k < R 0 49 + 1 := k1
      by_cases z' : k = R 0 49
      · rw [if_pos z', if_pos z', if_pos z']
        refine ⟨g1.2, ?_, z, y⟩
        show -1 ≤ s ∧ s < R 0 20
        have hs := (r1 g1.1).2.1
        omega
      · rw [if_neg z', if_neg z', if_neg z']
        exact r5.2 k k0 (by omega)
    · rw [up_s, e1]
      rfl
    · obtain ⟨c1, c2, c3⟩ := row k k0 k1
      rw [c1, c2, c3]
      have k1' : k < R 0 49 + 1 := k1
      rw [e1]
      by_cases z' : k = R 0 49
      · rw [if_pos z', if_pos z', if_pos z', z']
        simp [upr]
      · rw [if_neg z', if_neg z', if_neg z']
        simp only [upr, z', and_false, if_false]
        exact b3 k k0 (by omega)
  refine sound ok_X_scratch [23] 40 ?_
  refine t_xGuard R S g _ h.1 (fun g1 => ⟨fun z => absurd z (by decide), fun _ => ?_⟩) (fun g1 => ⟨fun _ => h0 (fun q => g1 q.1), fun z => absurd rfl z⟩)
  refine ⟨fun z => main g1 (Or.inl z), fun z => ?_⟩
  refine t_xSign R S s _ h.1 (fun g2 => ⟨fun _ => main g1 (Or.inr g2.2), fun y => absurd y (by decide)⟩) (fun g2 => ⟨fun y => absurd rfl y, fun _ => h0 (fun q => q.2.1.elim z (fun q => g2 ⟨g1.1, q⟩))⟩)
theorem t_X_seed (R S : St) (v : Int) (Q : Option AV → St → Prop) (h : Rel R S) (hQ : ∀ S', Xs S S' → Rel (up (th R) 0 51 v) S' → Q (some (.inl 1)) S') : Smm H_X_seed 0 [some (.inr (.inr 40)), some (.inr (.inl v)), none] [] S Q := by
  have hF : Fr [] [(79, 9)] S (up S 79 9 v) := (Fr.rf _ _ _).up _ _ _ rfl
  obtain ⟨⟨r1, r2, r3, r4, r5, r6, r7⟩, t, l, pl, ⟨b1, b2, b3, b4⟩, i⟩ := h.1
  refine sound ok_X_seed [] 20 ?_
  exact ⟨Or.inr rfl, hQ _ (Xs.of hF rfl) ⟨⟨⟨r1, r2, r3, r4, r5, r6, r7⟩, t, l, pl, ⟨b1, b2, b3, up_s _ _ _ _⟩, i⟩, ca_sm (h.2.fr hF rfl) h.1.1 rfl rfl rfl (fun _ => (⟨⟨rfl, rfl, rfl, rfl, rfl⟩, ⟨rfl, rfl, fun _ _ _ => ⟨rfl, fun _ _ => rfl⟩⟩, fun _ _ _ => ⟨rfl, rfl⟩, fun _ _ _ => rfl, fun _ _ _ => rfl⟩))⟩⟩
set_option maxHeartbeats 1000000 in
theorem t_X_undo (R S : St) (Q : Option AV → St → Prop) (h : Rel R S) (h0 : ¬ (¬ R 0 18 = 0 ∧ 0 < R 0 52) → Q (some (.inl (-1))) S) (h1 : (¬ R 0 18 = 0 ∧ 0 < R 0 52) → ∀ S', Xs S S' → Rel (up (up (th R) 0 52 (R 0 52 - 1)) 0 51 (R 34 (R 0 52 - 1))) S' → Q (some (.inl (R 0 52 - 1))) S') : Smm H_X_undo 0 [some (.inr (.inr 40))] [] S Q := by
  have e5 : S 79 5 = R 0 52 := h.1.2.2.2.2.1.2.2.1.1
  have hnb := h.1.1.2.2.2.2.2.1.1
  refine sound ok_X_undo [] 40 ?_
  refine ⟨fun z => ?_, fun z => h0 (fun q => by omega)⟩
  have hl : ¬ R 0 18 = 0 := fun q => z (by rw [e5]; exact (h.1.1.2.1 q).2.2.2.2.2.1)
  have hF : Fr [] [(79, 5), (79, 9)] S (up (up S 79 5 (S 79 5 - 1)) 79 9 (S 86 (S 79 5 - 1))) := ((Fr.rf _ _ _).up _ _ _ rfl).up _ _ _ rfl
  refine t_bkDrop S _ (by omega) ?_
  have hq := h1 ⟨hl, by omega⟩ _ (Xs.of hF rfl)
  rw [e5] at hq ⊢
  refine hq ⟨?_, ca_sm (h.2.fr (by rw [← e5]; exact hF) rfl) h.1.1 rfl rfl rfl (fun _ => (⟨⟨rfl, rfl, rfl, rfl, rfl⟩, ⟨rfl, rfl, fun _ _ _ => ⟨rfl, fun _ _ => rfl⟩⟩, fun _ _ _ => ⟨rfl, rfl⟩, fun _ _ _ => rfl, fun _ _ _ => rfl⟩))⟩
  obtain ⟨⟨r1, r2, r3, r4, r5, r6, r7⟩, t, l, pl, ⟨b1, b2, b3, b4⟩, i⟩ := h.1
  refine ⟨⟨r1, fun q => absurd q hl, r3, r4, r5, ⟨⟨?_, ?_⟩, fun n g n0 n1 g0 g1 => ?_⟩, r7⟩, t, l, pl, ⟨b1, b2, ⟨?_, fun n n0 n1 => ?_⟩, ?_⟩, i⟩
  · show 0 ≤ R 0 52 - 1
    omega
  · show R 0 52 - 1 ≤ 40
    omega
  · have n1' : n < R 0 52 - 1 := n1
    exact r6.2 n g n0 (by omega) g0 g1
  · rw [up_n _ _ _ (by decide), up_s]
    rfl
  · have n1' : n < R 0 52 - 1 := n1
    exact b3.2 n n0 (by omega)
  · rw [up_s]
    show S 86 (R 0 52 - 1) = R 34 (R 0 52 - 1)
    exact (b3.2 (R 0 52 - 1) (by omega) (by omega)).2.2
