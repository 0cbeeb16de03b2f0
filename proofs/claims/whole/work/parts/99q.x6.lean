/-! the class: lossy, fits, lies -/
set_option maxHeartbeats 1000000 in
theorem t_partsOf (R S : St) (lost risk : Int) (n : Nat) (Q : Option AV → St → Prop) (h : Rel R S) (hn : R 0 20 = n) (hn5 : n ≤ 5) (hQ : Q (some (.inr (.inl (shF lost risk n)))) S) : Smm H_X_partsOfSet 0 [some (.inr (.inr 40)), some (.inl lost), some (.inl risk), none, none, none, none, none] [] S Q := by
  have e1 : S 63 1 = n := by rw [← hn]; exact h.1.2.2.1.1.2
  have loop : ∀ (d k : Nat) (y6 : Option AV), k + d = n → (y6 = none ∨ ∃ v : Int, y6 = some (.inr (.inl v))) → Smm H_X_partsOfSet 7 [some (.inr (.inr 40)), some (.inl lost), some (.inl risk), some (.inr (.inl (shF lost risk k))), none, some (.inl (k : Int)), y6, none] [] S Q := by
    intro d
    induction d with
    | zero =>
      intro k y6 hk hy
      have : k = n := by omega
      subst this
      refine sound ok_X_partsOfSet [7] 20 ?_
      exact ⟨fun _ => hQ, fun z => absurd z (by rw [e1]; exact Int.lt_irrefl _)⟩
    | succ d ih =>
      intro k y6 hk hy
      have hng : ¬ S 63 1 ≤ (k : Int) := by rw [e1]; omega
      have e : ((k + 1 : Nat) : Int) = i32 ((k : Int) + 1) := i32_s (by omega)
      have ih := ih (k + 1) (some (.inr (.inl (jdiv (i64 (shF lost risk k * risk)) 100)))) (by clear e; omega) (Or.inr ⟨_, rfl⟩)
      rw [shF] at ih
      have h01 := iand1_01 (ishr lost (k : Int))
      refine sound ok_X_partsOfSet [7] 40 ?_
      refine ⟨fun z => absurd z hng, fun _ => ?_⟩
      refine ⟨by decide, ?_⟩
      refine ⟨fun z => ?_, fun z => ?_⟩
      · rw [if_neg (by rw [z]; decide)] at ih
        exact Smm.sub ih ⟨Or.inr rfl, Or.inr rfl, Or.inr rfl, Or.inr rfl, Or.inr rfl, Or.inr (sI e), Or.inr rfl, Or.inr rfl, trivial⟩
      · rw [if_pos (h01.resolve_left z)] at ih
        exact Smm.sub ih ⟨Or.inr rfl, Or.inr rfl, Or.inr rfl, Or.inr rfl, Or.inr rfl, Or.inr (sI e), Or.inr rfl, Or.inr rfl, trivial⟩
  refine sound ok_X_partsOfSet [7] 20 ?_
  exact loop n 0 none (by omega) (Or.inl rfl)
set_option maxHeartbeats 2000000 in
theorem t_X_lossy (R S : St) (risk : Int) (Q : Option AV → St → Prop) (h : Rel R S) (hQ : ∀ S', Xs S S' → Rel R S' → Q (some (.inl (aM_lossy R risk))) S') : Smm H_X_lossy 0 [some (.inr (.inr 40)), some (.inl risk), none, none, none, none, none, none, none] [] S Q := by
  have no : (R 0 18 = 0 ∨ risk < 0 ∨ 100 < risk) → Q (some (.inl (-1))) S := fun hz => by
    have := hQ S (Xs.rf S) h
    unfold aM_lossy at this
    rwa [if_pos hz] at this
  refine sound ok_X_lossy [37] 60 ?_
  refine t_told R S _ h.1 (fun h1 => ⟨fun z => absurd z (by decide), fun _ => ?_⟩) (fun h1 => ⟨fun _ => no (Or.inl h1), fun z => absurd rfl z⟩)
  refine t_within S risk 100 _ (fun h2 => ⟨fun _ => ?_, fun z => absurd z (by decide)⟩) (fun h2 => ⟨fun z => absurd rfl z, fun _ => no (Or.inr (by omega))⟩)
  unfold aM_lossy at hQ
  rw [if_neg (fun q => q.elim h1 (by omega))] at hQ
  obtain ⟨hl0, hp, hT, hR, hP, hpo⟩ := h.1.land h1
  have hs5 := hl0.2.1
  obtain ⟨n, hn⟩ : ∃ n : Nat, R 0 20 = n := ⟨(R 0 20).toNat, by omega⟩
  rw [show (R 0 20).toNat = n by omega] at hQ
  have hlb := cntM_b hT
  obtain ⟨K, hKe⟩ : ∃ K : Nat, 2 ^ n = K := ⟨_, rfl⟩
  have hK : K ≤ 32 := by
    have : 2 ^ n ≤ 2 ^ 5 := Nat.pow_le_pow_right (by omega) (by omega)
    omega
  rw [hKe] at hQ
  have loop : ∀ (d k : Nat) (S2 : St) (y7 : Option AV), k + d = K → (y7 = none ∨ ∃ v : Int, y7 = some (.inr (.inl v))) → Xs S S2 → Rel R S2 → Smm H_X_lossy 37 [some (.inr (.inr 40)), some (.inl risk), some (.inr (.inl (lenM (tl R)))), none, some (.inr (.inl (lsF R risk k))), none, some (.inl (k : Int)), y7, none] [] S2 Q := by
    intro d
    induction d with
    | zero =>
      intro k S2 y7 hk hy hx hr
      have e1 : S2 63 1 = n := by rw [← hn]; exact hr.1.2.2.1.1.2
      have eK : ishl 1 (S2 63 1) = (K : Int) := by rw [e1, ishl_nat (by omega), hKe]
      have : k = K := by omega
      subst this
      refine sound ok_X_lossy [37] 20 ?_
      exact ⟨fun _ => hQ S2 hx hr, fun z => absurd z (by rw [eK]; exact Int.lt_irrefl _)⟩
    | succ d ih =>
      intro k S2 y7 hk hy hx hr
      have e1 : S2 63 1 = n := by rw [← hn]; exact hr.1.2.2.1.1.2
      have eK : ishl 1 (S2 63 1) = (K : Int) := by rw [e1, ishl_nat (by omega), hKe]
      have hng : ¬ ishl 1 (S2 63 1) ≤ (k : Int) := by rw [eK]; omega
      have e : ((k + 1 : Nat) : Int) = i32 ((k : Int) + 1) := i32_s (by clear eK; omega)
      have ih := fun S2 => ih (k + 1) S2 (some (.inr (.inl (shF (k : Int) risk n)))) (by clear e eK; omega) (Or.inr ⟨_, rfl⟩)
      rw [lsF, show (R 0 20).toNat = n by clear e eK; omega] at ih
      refine sound ok_X_lossy [37] 80 ?_
      refine ⟨fun z => absurd z hng, fun _ => ?_⟩
      refine t_partsOf R S2 (k : Int) risk n _ hr hn (by clear e eK; omega) ?_
      refine ⟨fun z => ?_, fun z => ?_⟩
      · have hle : ¬ 0 < shF (k : Int) risk n := by
          unfold jcmp at z
          clear e eK
          split at z
          · exact absurd z (by decide)
          · omega
        have ih := ih S2 hx hr
        rw [if_neg hle] at ih
        exact Smm.sub ih ⟨Or.inr rfl, Or.inr rfl, Or.inr rfl, Or.inr rfl, Or.inr rfl, Or.inr rfl, Or.inr (sI e), Or.inr rfl, Or.inr rfl, trivial⟩
      · have hle : 0 < shF (k : Int) risk n := by
          unfold jcmp at z
          clear e eK
          split at z
          · assumption
          · split at z
            · exact absurd z (by decide)
            · exact absurd z (by decide)
        refine t_cp R S2 _ hr h1 (fun S3 hF3 hr3 ho3 => ?_)
        have hF4 : Fr [] [(71, 7)] S3 (up S3 71 7 (k : Int)) := (Fr.rf _ _ _).up _ _ _ rfl
        refine t_ta R (up S3 71 7 (k : Int)) (up (tl R) 0 38 (k : Int)) _ (hr3.fr hF4 rfl rfl) h1 (mAs_gone hT _) (lo_gone ho3) rfl rfl rfl (fun S5 hx5 hr5 => ?_)
        have ih := ih S5 (((hx.tr (Xs.of hF3 rfl)).tr (Xs.of hF4 rfl)).tr hx5) hr5
        rw [if_pos hle] at ih
        refine ⟨by clear e eK; omega, ?_⟩
        exact Smm.sub ih ⟨Or.inr rfl, Or.inr rfl, Or.inr rfl, Or.inr rfl, Or.inr rfl, Or.inr rfl, Or.inr (sI e), Or.inr rfl, Or.inr rfl, trivial⟩
  refine t_allWays_l (tl R) S _ hT hR ?_
  have em : max (lenM (tl R)) 1 = lenM (tl R) := by omega
  have go := loop K 0 S none (by omega) (Or.inl rfl) (Xs.rf S) h
  refine Smm.sub go ⟨Or.inr rfl, Or.inr rfl, Or.inr (sJ em.symm), Or.inr rfl, Or.inr rfl, Or.inr rfl, Or.inr rfl, Or.inr rfl, Or.inr rfl, trivial⟩
theorem Rel.sc {R S : St} (h : Rel R S) : scOk (tl R) ∧ scR (tl R) S := ⟨h.1.1.2.2.2.2.1, h.1.2.2.2.2.1.2.1⟩
set_option maxHeartbeats 2000000 in
theorem t_X_fits (R S : St) (sign : Int) (Q : Option AV → St → Prop) (h : Rel R S) (hQ : ∀ S', Xs S S' → Rel R S' → Q (some (.inl (aM_fits R sign))) S') : Smm H_X_fits 0 [some (.inr (.inr 40)), some (.inl sign), none, none, none, none] [] S Q := by
  have no : (R 0 18 = 0 ∨ (¬ sign = -1 ∧ ¬ (0 ≤ sign ∧ sign < R 0 20))) → Q (some (.inl (-1))) S := fun hz => by
    have := hQ S (Xs.rf S) h
    unfold aM_fits at this
    rwa [if_pos hz] at this
  have main : ¬ R 0 18 = 0 → (sign = -1 ∨ (0 ≤ sign ∧ sign < R 0 20)) → Smm H_X_fits 22 [some (.inr (.inr 40)), some (.inl sign), none, none, none, none] [] S Q := by
    intro h1 h2
    unfold aM_fits at hQ
    rw [if_neg (fun q => q.elim h1 (fun q => by omega))] at hQ
    obtain ⟨hl0, hp, hT, hR, hP, hpo⟩ := h.1.land h1
    obtain ⟨hS, hSR⟩ := h.sc
    have hs5 := hl0.2.1
    have hn := hT.1.1.1
    have p20 : tl R 0 20 = R 0 20 := tl_0 R (by decide) (by decide)
    refine sound ok_X_fits [56] 60 ?_
    refine t_scratched (tl R) S _ (by rw [p20]; omega) hS hSR (fun xa hxa hA => ?_)
    refine t_start_lb (tl R) S xa _ hT hR hP hpo hxa (fun S1 y hF1 hy hW1 hr1 hg1 => ?_)
    have hRel1 : Rel R S1 := h.fr hF1 rfl rfl
    obtain ⟨g1, g2, g3, g4⟩ := wX_b hT y
    have hcn := cn_X hT (y := y) (P := mf0 (tl R)) (fun f hf => by unfold mf0; rw [nd_mf hT.1 hW1.1.2.2.1 hy hf hS hA])
    have hlen0 := wyM_len hT
    obtain ⟨xr, hxr, hxr2, hxr3⟩ := ft_fold (T := tl R) (sign := sign) (wyM (tl R)) 0 0 (by decide) (by omega) (by decide) (fun f hf => wy_bd (er_b hT) hf sign)
    rw [show ((0 : Nat) : Int) = 0 from rfl, Int.zero_add] at hxr
    rw [hxr] at hQ
    dsimp only at hQ
    -- at the end
    have fin : ∀ (S4 : St) (bits : Nat) (i : Int), Xs S S4 → Rel R S4 → bits < 128 → (∀ j : Nat, bits.testBit j = (decide (0 ≤ sign) && (wyX (tl R) y).any (fun f => mf0 (tl R) f && ofB (rcN (nb y) ((tl R) 18) sign) ((tl R) 18 sign) sign f j))) → Smm H_X_fits 121 [some (.inr (.inr 40)), some (.inl sign), some (.inl ((wyX (tl R) y).length : Int)), some (.inl (wgX (tl R) y * (((wyX (tl R) y).countP (mf0 (tl R)) : Nat) : Int))), some (.inl (bits : Int)), some (.inl i)] [] S4 Q := by
      intro S4 bits i hx hr hb1 hb2
      have hq := hQ S4 hx hr
      refine sound ok_X_fits [] 20 ?_
      refine ⟨fun z => ?_, fun z => ?_⟩
      · rw [if_neg z] at hq
        have hs : 0 ≤ sign ∧ sign < tl R 0 20 := by rw [p20]; omega
        have eb : bits = xr := by
          refine Nat.eq_of_testBit_eq (fun j => ?_)
          rw [hb2 j, hxr3 j, Nat.zero_testBit, Bool.false_or, ft_X hT hW1.1.2.2.1 hy hS hA hs j]
        rw [eb]
        exact hq
      · rw [if_pos z, ← hcn] at hq
        exact hq
    have loop : ∀ (post pre : List (Int → Int)) (f : Int → Int) (q : St × Nat × Int × Int), wyX (tl R) y = pre ++ f :: post → (Fr [61, 62, 99, 100, 101] [] S1 q.1 ∧ wkI_l (tl R) q.1 f ∧ (q.2.1 < 128 ∧ ∀ j : Nat, q.2.1.testBit j = (decide (0 ≤ sign) && pre.any (fun f => mf0 (tl R) f && ofB (rcN (nb y) ((tl R) 18) sign) ((tl R) 18 sign) sign f j))) ∧ q.2.2.1 = wgX (tl R) y * ((pre.countP (mf0 (tl R)) : Nat) : Int) ∧ q.2.2.2 = pre.length) → Smm H_X_fits 56 [some (.inr (.inr 40)), some (.inl sign), some (.inl ((wyX (tl R) y).length : Int)), some (.inl q.2.2.1), some (.inl (q.2.1 : Int)), some (.inl q.2.2.2)] [] q.1 Q := by
      refine lp_wy (P := fun _ (q : St × Nat × Int × Int) => Smm H_X_fits 56 [some (.inr (.inr 40)), some (.inl sign), some (.inl ((wyX (tl R) y).length : Int)), some (.inl q.2.2.1), some (.inl (q.2.1 : Int)), some (.inl q.2.2.2)] [] q.1 Q) (fun pre f q => Fr [61, 62, 99, 100, 101] [] S1 q.1 ∧ wkI_l (tl R) q.1 f ∧ (q.2.1 < 128 ∧ ∀ j : Nat, q.2.1.testBit j = (decide (0 ≤ sign) && pre.any (fun f => mf0 (tl R) f && ofB (rcN (nb y) ((tl R) 18) sign) ((tl R) 18 sign) sign f j))) ∧ q.2.2.1 = wgX (tl R) y * ((pre.countP (mf0 (tl R)) : Nat) : Int) ∧ q.2.2.2 = pre.length) ?_
      rintro pre f post ⟨S2, bits, fit, i⟩ hl ⟨hF2, hW2, ⟨hb1, hb2⟩, hfit, hi⟩ ih
      dsimp only at hF2 hW2 hb1 hb2 hfit hi ⊢
      have hRel2 : Rel R S2 := hRel1.fr hF2 rfl rfl
      obtain ⟨hS2, hSR2⟩ := hRel2.sc
      have hfm : f ∈ wyX (tl R) y := by rw [hl]; exact List.mem_append_right _ List.mem_cons_self
      have hof := bd_of (T := tl R) (wX_mem hT hfm).2.1
      have hlen : (wyX (tl R) y).length = pre.length + (post.length + 1) := by rw [hl]; simp
      have hlt : ¬ ((wyX (tl R) y).length : Int) ≤ i := by omega
      have hwt : S2 95 2 = wgX (tl R) y := by rw [hF2.c 95 rfl]; exact hg1
      have m2 := wg_mul (a := (pre ++ [f]).countP (mf0 (tl R))) g1.1 (Nat.le_trans List.countP_le_length (show (pre ++ [f]).length ≤ (wyX (tl R) y).length by rw [hlen, List.length_append, List.length_singleton]; omega)) g4
      have next : ∀ (fit' : Int) (bits' : Nat), fit' = wgX (tl R) y * (((pre ++ [f]).countP (mf0 (tl R)) : Nat) : Int) → bits' < 128 → (∀ j : Nat, bits'.testBit j = (decide (0 ≤ sign) && (pre ++ [f]).any (fun f => mf0 (tl R) f && ofB (rcN (nb y) ((tl R) 18) sign) ((tl R) 18 sign) sign f j))) → Smm H_X_fits 108 [some (.inr (.inr 40)), some (.inl sign), some (.inl ((wyX (tl R) y).length : Int)), some (.inl fit'), some (.inl (bits' : Int)), some (.inl i)] [] S2 Q := by
        intro fit' bits' hf' hb1' hb2'
        have e : ((pre.length + 1 : Nat) : Int) = i32 (i + 1) := by rw [hi]; exact i32_s (by omega)
        refine sound ok_X_fits [56] 20 ?_
        refine t_step_l (tl R) S2 f (rcN (nb y) ((tl R) 18)) pre post _ hT hW2 (fun s s0 s1 => ⟨by rw [hF2.c 98 rfl]; exact hr1 s s0 s1, ?_⟩) hl (fun S4 f' hF4 hW4 hp => ?_)
        · have := g3 s.toNat (by clear e; omega)
          rw [show ((s.toNat : Nat) : Int) = s by clear e; omega] at this
          exact this
        · have hFS4 := hF2.tr (hF4.mo rfl rfl : Fr [61, 62, 99, 100, 101] [] S2 S4)
          rcases hp with hp | ⟨post', hp⟩
          · have hend : i32 (i + 1) = ((wyX (tl R) y).length : Int) := by rw [← e, hlen, hp]; rfl
            rw [hp] at hl
            rw [← hl] at hf' hb2'
            refine sound ok_X_fits [121] 20 ?_
            refine ⟨fun _ => ?_, fun z => absurd z (by rw [hend]; exact Int.lt_irrefl _)⟩
            rw [hf']
            exact fin S4 bits' _ ((Xs.of hF1 rfl).tr (Xs.of hFS4 rfl)) (hRel1.fr hFS4 rfl rfl) hb1' hb2'
          · exact Smm.sub (ih f' post' (S4, bits', fit', ((pre.length + 1 : Nat) : Int)) hp ⟨hFS4, hW4, ⟨hb1', hb2'⟩, hf', by simp⟩) ⟨Or.inr rfl, Or.inr rfl, Or.inr rfl, Or.inr rfl, Or.inr rfl, Or.inr (sI e), trivial⟩
      refine sound ok_X_fits [108] 60 ?_
      refine ⟨fun z => absurd z hlt, fun _ => ?_⟩
      refine t_unlike (tl R) S2 f _ hT hof hW2 hS2 hSR2 ?_
      refine ⟨fun z => ?_, fun z => ?_⟩
      · have hm : mf0 (tl R) f = false := decide_eq_false z
        refine next fit bits ?_ hb1 (fun j => ?_)
        · rw [hfit, cnt_1, hm]
          show _ = _ * (_ + 0)
          rw [Int.add_zero]
        · rw [hb2 j, List.any_append, List.any_cons, List.any_nil, hm, Bool.false_and, Bool.or_false, Bool.or_false]
      · have hm : mf0 (tl R) f = true := decide_eq_true z
        have efit : i32 (fit + S2 95 2) = wgX (tl R) y * (((pre ++ [f]).countP (mf0 (tl R)) : Nat) : Int) := by
          have e0 : fit + S2 95 2 = wgX (tl R) y * (((pre ++ [f]).countP (mf0 (tl R)) : Nat) : Int) := by
            rw [hfit, hwt, cnt_1, hm]
            show _ = _ * (_ + 1)
            rw [Int.mul_add, Int.mul_one]
          rw [e0]
          exact i32_id (by omega) (by omega)
        refine ⟨fun y1 => ?_, fun y1 => ?_⟩
        · have hs : 0 ≤ sign ∧ sign < tl R 0 20 := by rw [p20]; clear efit; omega
          have hbx := (wy_mem (err := rcN (nb y) ((tl R) 18)) ((tl R) 0 20).toNat (fun i hi => (g3 i hi).1) f hfm).1 sign hs.1 (by clear efit; omega)
          have hrb := g3 sign.toNat (by clear efit; omega)
          rw [show ((sign.toNat : Nat) : Int) = sign by clear efit; omega] at hrb
          refine t_offBits (tl R) S2 f sign (rcN (nb y) ((tl R) 18) sign) _ hT hW2 hs (by rw [hF2.c 98 rfl]; exact hr1 sign hs.1 hs.2) (by clear efit; omega) (fun xo hxo hxo2 => ?_)
          obtain ⟨o1, o2⟩ := ior128 hb1 hxo
          have := next _ (bits ||| xo) efit o2 (fun j => by
            rw [Nat.testBit_or, hb2 j, hxo2 j, List.any_append, List.any_cons, List.any_nil, hm, Bool.true_and, Bool.or_false, decide_eq_true hs.1, Bool.true_and, Bool.true_and]
            rfl)
          exact Smm.sub this ⟨Or.inr rfl, Or.inr rfl, Or.inr rfl, Or.inr rfl, Or.inr (sI o1.symm), Or.inr rfl, trivial⟩
        · have hs : ¬ 0 ≤ sign := by clear efit; omega
          have o1 : ior (bits : Int) 0 = (bits : Int) := by
            have := (ior128 hb1 (show 0 < 128 by decide)).1
            rw [Nat.or_zero] at this
            exact this
          have := next _ bits efit hb1 (fun j => by
            rw [hb2 j, decide_eq_false hs, Bool.false_and, Bool.false_and])
          exact Smm.sub this ⟨Or.inr rfl, Or.inr rfl, Or.inr rfl, Or.inr rfl, Or.inr (sI o1.symm), Or.inr rfl, trivial⟩
    obtain ⟨r, hr⟩ := wy_first (err := rcN (nb y) ((tl R) 18)) ((tl R) 0 20).toNat (fun i hi => (g3 i hi).1)
    exact loop r [] _ (S1, 0, 0, 0) hr ⟨Fr.rf _ _ _, hW1, ⟨by show 0 < 128; decide, fun j => by dsimp only; rw [Nat.zero_testBit, List.any_nil, Bool.and_false]⟩, by dsimp only; rw [List.countP_nil]; simp, rfl⟩
  refine sound ok_X_fits [22] 40 ?_
  refine t_told R S _ h.1 (fun h1 => ⟨fun z => absurd z (by decide), fun _ => ?_⟩) (fun h1 => ⟨fun _ => no (Or.inl h1), fun z => absurd rfl z⟩)
  refine ⟨fun z => main h1 (Or.inl z), fun z => ?_⟩
  refine t_xSign R S sign _ h.1 (fun h2 => ⟨fun _ => main h1 (Or.inr h2.2), fun y => absurd y (by decide)⟩) (fun h2 => ⟨fun y => absurd rfl y, fun _ => no (Or.inr ⟨z, fun q => h2 ⟨h1, q⟩⟩)⟩)
