/-! the class: nights -/
theorem ng_b {R : St} (hl0 : ldM R) {s : Int} (h0 : 0 ≤ s) (h1 : s < R 0 20) : -3 ≤ ngO R s ∧ ngO R s ≤ 3 := by
  have hb := hl0.2.2.2.1 s h0 h1
  have := drV_b (dxF (R 0 51) (s.toNat + 1)) (m := 2 * R 11 s + 1) (by omega)
  unfold ngO
  omega
theorem er31 {e v : Int} (h : 0 ≤ e ∧ e ≤ 3) (hv : 0 ≤ v ∧ v ≤ 7) : i32 (i32 (2 * e) + 1) = 2 * e + 1 ∧ i32 (v - e) = v - e := by
  rw [i32_id (v := 2 * e) (by omega) (by omega)]
  exact ⟨i32_id (by omega) (by omega), i32_id (by omega) (by omega)⟩
set_option maxHeartbeats 4000000 in
theorem t_X_night (R S : St) (Q : Option AV → St → Prop) (h : Rel R S) (h0 : (R 0 18 = 0 ∨ R 0 52 = 40) → Q (some (.inl (-1))) S) (h1 : ¬ R 0 18 = 0 → ¬ R 0 52 = 40 → ∀ S', Xs S S' → (∀ U, ngS R U → Rel U S') → Q (some (.inl (ngB R))) S') : Smm H_X_night 0 [some (.inr (.inr 40)), none, none, none] [] S Q := by
  have e5 : S 79 5 = R 0 52 := h.1.2.2.2.2.1.2.2.1.1
  have e9 : S 79 9 = R 0 51 := h.1.2.2.2.2.1.2.2.2
  have hnb := h.1.1.2.2.2.2.2.1.1
  refine sound ok_X_night [31] 60 ?_
  refine t_told R S _ h.1 (fun hl => ⟨fun z => absurd z (by decide), fun _ => ?_⟩) (fun hl => ⟨fun _ => h0 (Or.inl hl), fun z => absurd rfl z⟩)
  refine ⟨fun hn40 => ?_, fun hn40 => h0 (Or.inr (by omega))⟩
  rw [e5] at hn40
  have hl0 := h.1.1.1 hl
  have hs5 := hl0.2.1
  have hk4 := hl0.1
  have hT := tl_mAs hl0 h.1.1.2.2.1
  have p19 : tl R 0 19 = R 0 19 := tl_0 R (by decide) (by decide)
  have p20 : tl R 0 20 = R 0 20 := tl_0 R (by decide) (by decide)
  obtain ⟨n, hn⟩ : ∃ n : Nat, R 0 20 = n := ⟨(R 0 20).toNat, by omega⟩
  have hof : ofOk (tl R 0 20) (ngO R) := fun s s0 s1 => ng_b hl0 s0 (by rw [← p20]; exact s1)
  have loop : ∀ (d k : Nat) (S1 : St), k + d = n → Fr [42] [(79, 9)] S S1 → S1 79 9 = dxF (R 0 51) k → (∀ s : Int, 0 ≤ s → s < k → S1 42 s = ngO R s) → Smm H_X_night 31 [some (.inr (.inr 40)), some (.inr (.inl (R 0 51))), none, some (.inl (k : Int))] [] S1 Q := by
    intro d
    induction d with
    | zero =>
      intro k S1 hk hF1 hd1 ho1
      have hkn : k = n := by omega
      subst hkn
      have e1 : S1 63 1 = k := by rw [hF1.c 63 rfl, ← hn]; exact h.1.2.2.1.1.2
      -- what stays
      obtain ⟨⟨r1, r2, r3, r4, r5, r6, r7⟩, t, l, pl, b, i⟩ := h.1
      obtain ⟨b1, ⟨b2, b3⟩, ⟨b4, b5⟩, b6⟩ := b
      have hR1 : lr_l (tl R) S1 := lr_sm_l (h.1.land hl).2.2.2.1 (hF1.c _ rfl) (hF1.c _ rfl) (hF1.c _ rfl) (hF1.c _ rfl) (hF1.c _ rfl) (hF1.c _ rfl) (hF1.c _ rfl) (hF1.c _ rfl)
      have hP1 : PlR (tl R) S1 := PlR_sm (h.1.land hl).2.2.2.2.1 (hF1.c _ rfl) (hF1.c _ rfl) (hF1.c _ rfl) (hF1.c _ rfl)
      have hpo1 := (h.1.land hl).2.2.2.2.2
      refine sound ok_X_night [] 80 ?_
      refine ⟨fun _ => ?_, fun z => absurd z (by rw [e1]; exact Int.lt_irrefl _)⟩
      refine t_place (tl R) S1 (ngO R) _ hT.1 hR1 hP1 (fun g g0 g1 => by rw [hF1.c 80 rfl]; exact hpo1 g g0 g1) hof (fun s s0 s1 => ho1 s s0 (by rw [← hn, ← p20]; exact s1)) (fun S2 hF2 hW2 => ?_)
      have fin : ∀ (S3 : St) (v : Int) (Q' : Option AV → St → Prop), Fr [103] [(102, 1)] S2 S3 → v = ngB R → (∀ S4, Q (some (.inl v)) S4 → Q' (some (.inl v)) S4) → Smm H_Book_addNight 0 [some (.inr (.inr 79)), some (.inr (.inl (R 0 51))), none, some (.inr (.inr 101)), some (.inl v)] [] S3 Q' := by
        intro S3 v Q' hF3 hv hQ'
        have e53 : S3 79 5 = R 0 52 := by rw [hF3.c 79 rfl, hF2.c 79 rfl, hF1.s 79 5 rfl]; exact e5
        refine t_bkNight S3 (R 0 51) v _ (by rw [e53]; omega) (fun S4 hF4 c5 ct co ca => ?_)
        rw [e53] at c5 ct co ca
        have hxx : Xs S S4 := (((Xs.of hF1 rfl).tr (Xs.of hF2 rfl)).tr (Xs.of hF3 rfl)).tr (Xs.of hF4 rfl)
        have hq := h1 hl (by omega) S4 hxx (fun U hU => ?_)
        · rw [← hv] at hq
          exact hQ' S4 hq
        obtain ⟨hFU, u1, u2, ⟨u3, u4⟩, ⟨u5, u6⟩, u7, u8⟩ := hU
        obtain ⟨k', ks⟩ := fr_get hFU (A := [1, 7, 8, 9, 10, 11, 12, 13, 14, 15, 16, 30, 35, 36, 37, 38, 39]) (B := [(0, 2), (0, 18), (0, 19), (0, 20), (0, 21), (0, 22), (0, 31), (0, 49), (0, 56), (0, 57), (0, 58), (0, 59)]) rfl
        have hS : ∀ c ∈ [43, 44, 63, 66, 67, 68, 69, 70, 64, 65, 57, 58, 59, 60, 40, 87, 88, 89, 90, 91, 92, 93, 94, 80, 81, 82, 83], S4 c = S c := fun c hc => by
          have q1 := (fr_get hF1 (A := [43, 44, 63, 66, 67, 68, 69, 70, 64, 65, 57, 58, 59, 60, 40, 87, 88, 89, 90, 91, 92, 93, 94, 80, 81, 82, 83]) (B := []) rfl).1 c hc
          have q2 := (fr_get hF2 (A := [43, 44, 63, 66, 67, 68, 69, 70, 64, 65, 57, 58, 59, 60, 40, 87, 88, 89, 90, 91, 92, 93, 94, 80, 81, 82, 83]) (B := []) rfl).1 c hc
          have q3 := (fr_get hF3 (A := [43, 44, 63, 66, 67, 68, 69, 70, 64, 65, 57, 58, 59, 60, 40, 87, 88, 89, 90, 91, 92, 93, 94, 80, 81, 82, 83]) (B := []) rfl).1 c hc
          have q4 := (fr_get hF4 (A := [43, 44, 63, 66, 67, 68, 69, 70, 64, 65, 57, 58, 59, 60, 40, 87, 88, 89, 90, 91, 92, 93, 94, 80, 81, 82, 83]) (B := []) rfl).1 c hc
          rw [q4, q3, q2, q1]
        have hc0 : caX R S4 := (((h.2.fr hF1 rfl).fr hF2 rfl).fr hF3 rfl).fr hF4 rfl
        have hc := ca_sm hc0 h.1.1 (ks (0, 18) (by simp)) (ks (0, 19) (by simp)) (ks (0, 20) (by simp)) (fun _ => tl_sm (ks (0, 19) (by simp)) (ks (0, 20) (by simp)) (ks (0, 21) (by simp)) (ks (0, 22) (by simp)) (k' 12 (by simp)) (k' 13 (by simp)) (k' 10 (by simp)) (k' 11 (by simp)) (k' 14 (by simp)) (fun g _ _ => congrFun (k' 9 (by simp)) g) (fun p _ _ => ⟨congrFun (k' 16 (by simp)) p, fun i _ => congrFun (k' 15 (by simp)) _⟩))
        have tb : ∀ g, 0 ≤ g → g < R 0 19 → tnM (tl R) (smM (tl R) (ngO R)) g ≤ 1000000 := fun g g0 g1 => by
          have := tnM_b hT.1 hof (g := g) g0 (by omega)
          omega
        have hRI : rI U := by
          unfold rI
          refine ⟨?_, ?_, ?_, ?_, ?_, ?_, ?_⟩
          · intro _
            have hl1 := hl0
            unfold ldM at hl1 ⊢
            rw [ks (0, 19) (by simp), ks (0, 20) (by simp), ks (0, 21) (by simp), ks (0, 22) (by simp), ks (0, 31) (by simp), k' 10 (by simp), k' 11 (by simp), k' 12 (by simp), k' 13 (by simp), k' 14 (by simp), k' 9 (by simp), k' 7 (by simp), k' 8 (by simp)]
            exact hl1
          · rw [ks (0, 18) (by simp)]
            exact fun z => absurd z hl
          · unfold plM at r3 ⊢
            rw [ks (0, 31) (by simp), k' 16 (by simp), k' 15 (by simp)]
            exact r3
          · unfold tpM at r4 ⊢
            rw [ks (0, 2) (by simp), k' 1 (by simp)]
            exact r4
          · rw [ks (0, 19) (by simp), ks (0, 20) (by simp), ks (0, 49) (by simp), k' 30 (by simp)]
            exact r5
          · rw [ks (0, 19) (by simp), u1]
            refine ⟨by omega, fun m g n0 n1 g0 g1 => ?_⟩
            have g1' : g < R 0 19 := g1
            by_cases z : m = R 0 52
            · rw [z, u7 g g0 g1']
              exact tb g g0 g1'
            · rw [u8 (4 * m + g) (by omega)]
              exact r6.2 m g n0 (by omega) g0 g1'
          · rw [ks (0, 56) (by simp), ks (0, 19) (by simp), ks (0, 20) (by simp), ks (0, 31) (by simp), k' 35 (by simp), ks (0, 58) (by simp), k' 36 (by simp), ks (0, 57) (by simp), k' 37 (by simp)]
            exact r7
        refine ⟨⟨hRI, ?_, ?_, ?_, ?_, ?_⟩, hc⟩
        · unfold tpR
          rw [hS 43 (by simp), hS 44 (by simp), ks (0, 2) (by simp), k' 1 (by simp)]
          exact t
        · unfold ldX
          rw [hS 63 (by simp), hS 66 (by simp), hS 67 (by simp), hS 68 (by simp), hS 69 (by simp), hS 70 (by simp), hS 64 (by simp), hS 65 (by simp), ks (0, 19) (by simp), ks (0, 20) (by simp), ks (0, 18) (by simp), ks (0, 21) (by simp), ks (0, 22) (by simp), k' 10 (by simp), k' 11 (by simp), k' 12 (by simp), k' 13 (by simp), k' 14 (by simp), k' 7 (by simp), k' 8 (by simp)]
          exact l
        · unfold PlR plR1
          rw [hS 57 (by simp), hS 58 (by simp), hS 59 (by simp), hS 60 (by simp), ks (0, 31) (by simp), k' 16 (by simp), k' 15 (by simp)]
          exact pl
        · unfold bkX bkI
          rw [hS 80 (by simp), hS 81 (by simp), hS 82 (by simp), hS 83 (by simp), ks (0, 19) (by simp), ks (0, 49) (by simp), k' 9 (by simp), k' 30 (by simp), u1, u2]
          refine ⟨b1, ⟨?_, b3⟩, ⟨c5, fun m n0 n1 => ⟨fun g g0 g1 => ?_, ?_, ?_⟩⟩, ?_⟩
          · rw [hF4.s 79 1 rfl, hF3.c 79 rfl, hF2.c 79 rfl, hF1.s 79 1 rfl]
            exact b2
          · have g1' : g < R 0 19 := g1
            rw [ct]
            by_cases z : m = R 0 52
            · rw [z, if_pos (by omega), u7 g g0 g1', show 4 * R 0 52 + g - 4 * R 0 52 = g by omega, hF3.c 101 rfl]
              exact hW2.2.2.2.2 g g0 (by rw [p19]; exact g1')
            · rw [if_neg (by omega), u8 (4 * m + g) (by omega), hF3.c 84 rfl, hF2.c 84 rfl, hF1.c 84 rfl]
              exact (b5 m n0 (by omega)).1 g g0 g1'
          · rw [co]
            by_cases z : m = R 0 52
            · rw [if_pos z, z, u5, hv]
              unfold ngB
              split <;> rfl
            · rw [if_neg z, u6 m z, hF3.c 85 rfl, hF2.c 85 rfl, hF1.c 85 rfl]
              exact (b5 m n0 (by omega)).2.1
          · rw [ca]
            by_cases z : m = R 0 52
            · rw [if_pos z, z, u3]
            · rw [if_neg z, u4 m z, hF3.c 86 rfl, hF2.c 86 rfl, hF1.c 86 rfl]
              exact (b5 m n0 (by omega)).2.2
          · rw [hF4.s 79 9 rfl, hF3.c 79 rfl, hF2.c 79 rfl, hd1, show (R 0 20).toNat = k by omega]
        · unfold kpX bkI
          rw [hS 40 (by simp), hS 87 (by simp), hS 88 (by simp), hS 89 (by simp), hS 90 (by simp), hS 91 (by simp), hS 92 (by simp), hS 93 (by simp), hS 94 (by simp), ks (0, 56) (by simp), ks (0, 19) (by simp), ks (0, 58) (by simp), ks (0, 57) (by simp), ks (0, 59) (by simp), k' 35 (by simp), k' 36 (by simp), k' 37 (by simp), k' 38 (by simp), k' 39 (by simp)]
          exact i
      refine t_isOpen_l (tl R) S2 (ngO R) _ hT hof hW2 (fun S3 hF3 hop => ?_) (fun S3 hF3 hop => ?_)
      · refine ⟨fun z => absurd z (by decide), fun _ => ?_⟩
        have hng : (1 : Int) = ngB R := by
          have : apM (tl R) (ngO R) ≤ R 0 22 := of_decide_eq_true hop
          unfold ngB
          rw [if_pos this]
        exact fin S3 1 _ hF3 hng (fun S4 hq => hq)
      · refine ⟨fun _ => ?_, fun z => absurd rfl z⟩
        have hng : (0 : Int) = ngB R := by
          have : ¬ apM (tl R) (ngO R) ≤ R 0 22 := of_decide_eq_false hop
          unfold ngB
          rw [if_neg this]
        exact fin S3 0 _ hF3 hng (fun S4 hq => hq)
    | succ d ih =>
      intro k S1 hk hF1 hd1 ho1
      have e1 : S1 63 1 = n := by rw [hF1.c 63 rfl, ← hn]; exact h.1.2.2.1.1.2
      have hng : ¬ S1 63 1 ≤ (k : Int) := by rw [e1]; omega
      have hkx : (0 : Int) ≤ k ∧ (k : Int) < 5 := by omega
      have hks : (k : Int) < R 0 20 := by omega
      have heb := hl0.2.2.2.1 k (by omega) hks
      have ee : S1 67 k = R 11 k := by rw [hF1.c 67 rfl]; exact ((h.1.2.2.1.2 hl).2.1 k (by omega) hks).2.1
      have hdv := drV_b (drN (dxF (R 0 51) k)) (m := 2 * R 11 k + 1) (by omega)
      obtain ⟨x1, x2⟩ := er31 (e := R 11 k) (v := drV (drN (dxF (R 0 51) k)) (2 * R 11 k + 1)) (by omega) (by omega)
      have hno : ngO R k = drV (drN (dxF (R 0 51) k)) (2 * R 11 k + 1) - R 11 k := by
        unfold ngO
        rw [show ((k : Int)).toNat = k from rfl, dxF]
      have e : ((k + 1 : Nat) : Int) = i32 ((k : Int) + 1) := i32_s (by clear x1 x2; omega)
      have ex : i32 (i32 (2 * S1 67 k) + 1) = 2 * R 11 k + 1 := by rw [ee]; exact x1
      have go := fun Q' hq' => t_bkDraw S1 (2 * R 11 k + 1) Q' (by clear x1 x2 e ex; omega) hq'
      rw [← ex] at go
      refine sound ok_X_night [31] 60 ?_
      refine ⟨fun z => absurd z hng, fun _ => ?_⟩
      refine ⟨hkx, ?_⟩
      refine go _ ?_
      refine ⟨hkx, ?_⟩
      refine ⟨hkx, ?_⟩
      have hF2 : Fr [42] [(79, 9)] S1 (up (up S1 79 9 (drN (dxF (R 0 51) k))) 42 k (ngO R k)) := ((Fr.rf _ _ _).up _ _ _ rfl).up _ _ _ rfl
      have ih := ih (k + 1) (up (up S1 79 9 (drN (dxF (R 0 51) k))) 42 k (ngO R k)) (by clear x1 x2 e ex; omega) (hF1.tr hF2) (by rw [up_o _ _ _ (by decide), up_s, dxF]) (fun s s0 s1 => by
        by_cases z : s = k
        · rw [z, up_s]
        · rw [up_n _ _ _ z, up_o _ _ _ (by decide)]
          exact ho1 s s0 (by clear x1 x2 e ex; omega))
      have ev : ngO R k = i32 (drV (drN (S1 79 9)) (i32 (i32 (2 * S1 67 k) + 1)) - S1 67 k) := by rw [hd1, ex, ee, x2, hno]
      rw [ev, ← hd1] at ih
      exact Smm.sub ih ⟨Or.inr rfl, Or.inr rfl, Or.inr rfl, Or.inr (sI e), trivial⟩
  have go := loop n 0 S (by omega) (Fr.rf _ _ _) (by rw [e9]; rfl) (fun s s0 s1 => absurd s1 (by omega))
  rw [← e9] at go
  exact go
