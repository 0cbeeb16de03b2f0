/-! the reference: sets and what is plain -/
/-- bits counted -/
theorem bcF_ct : ∀ (d x : Nat), bcF d x = (List.range d).countP (fun j => x.testBit j)
  | 0, _ => rfl
  | d + 1, x => by
    rw [bcF, bcF_ct d (x / 2), List.range_succ_eq_map, List.countP_cons, List.countP_map]
    have e : ((fun j => x.testBit j) ∘ Nat.succ) = (fun j => (x / 2).testBit j) := by
      funext j
      show x.testBit (j + 1) = _
      rw [Nat.testBit_succ]
    rw [e, Nat.testBit_zero]
    by_cases h : x % 2 = 1
    · simp [h]; omega
    · simp [h]; omega
/-- the i-th in a row, and how many there are -/
def s1F (p : Nat → Bool) (i : Int) : Nat → Int × Int
  | 0 => (0, -1)
  | k + 1 => srS (p k) i k (s1F p i k)
theorem s1F_b (p : Nat → Bool) (i : Int) : ∀ k : Nat, 0 ≤ (s1F p i k).1 ∧ (s1F p i k).1 ≤ k ∧ -1 ≤ (s1F p i k).2
  | 0 => by rw [s1F]; exact ⟨by decide, by decide, by decide⟩
  | k + 1 => by
    have := srS_b (p k) i k (s1F_b p i k) (by omega)
    rw [s1F]
    omega
theorem s1F_e (p : Nat → Bool) (i : Int) {k : Nat} (h : 0 ≤ (s1F p i k).2) : ∀ d, s1F p i (k + d) = s1F p i k
  | 0 => rfl
  | d + 1 => by rw [show k + (d + 1) = (k + d) + 1 by omega, s1F, s1F_e p i h d, srS_f _ _ _ h]
theorem s1F_ct (p : Nat → Bool) : ∀ k, s1F p (-1) k = ((((List.range k).countP p : Nat) : Int), -1)
  | 0 => rfl
  | k + 1 => by
    rw [s1F, s1F_ct p k, List.range_succ, List.countP_append, List.countP_cons, List.countP_nil]
    unfold srS
    rw [if_neg (show ¬ (0 : Int) ≤ -1 by decide)]
    by_cases h : p k = true
    · rw [if_pos h, if_neg (by dsimp only; omega), if_pos h]
      simp
    · rw [if_neg h, if_neg h]
      simp
theorem s1F_congr {p p' : Nat → Bool} (i : Int) : ∀ k, (∀ j, j < k → p j = p' j) → s1F p i k = s1F p' i k
  | 0, _ => rfl
  | k + 1, h => by rw [s1F, s1F, s1F_congr i k (fun j hj => h j (by omega)), h k (by omega)]
def aM_sets (S : St) (i : Int) : Int := if S 0 18 = 0 ∨ i < -1 then -1 else anS i (s1F (pS (tl S) (S 0 19).toNat (wyM (tl S))) i (2 ^ (S 0 19).toNat))
theorem rg_cut (p : Nat → Bool) (K : Nat) (h : ∀ j, K ≤ j → p j = false) : ∀ d, (List.range (K + d)).countP p = (List.range K).countP p
  | 0 => rfl
  | d + 1 => by
    rw [show K + (d + 1) = (K + d) + 1 by omega, List.range_succ, List.countP_append, List.countP_cons, List.countP_nil, rg_cut p K h d, h (K + d) (by omega)]
    simp
set_option maxHeartbeats 2000000 in
theorem t_M_sets (S : St) (i : Int) (Q : Option AV → St → Prop) (hL : ¬ S 0 18 = 0 → ldM S) (hp : plM S) (hQ : ∀ S', Fr [17, 18, 19, 20, 21, 22, 23, 24, 25, 26, 27, 28, 29, 31] [(0, 0), (0, 38)] S S' → Q (some (.inl (aM_sets S i))) S') : Smm H_M_sets 0 [some (.inr (.inr 0)), some (.inl i), none, none, none] [] S Q := by
  have e18 : th S 0 18 = S 0 18 := th_0 S (by decide)
  have no : (S 0 18 = 0 ∨ i < -1) → Q (some (.inl (-1))) (th S) := fun hz => by
    have := hQ (th S) (th_fr S)
    unfold aM_sets at this
    rwa [if_pos hz] at this
  refine sound ok_M_sets [39] 60 ?_
  refine ⟨fun h1 => no (Or.inl (e18 ▸ h1)), fun h1 => ?_⟩
  replace h1 : ¬ S 0 18 = 0 := fun z => h1 (e18.trans z)
  refine ⟨fun h2 => ?_, fun h2 => no (Or.inr h2)⟩
  have hl0 := hL h1
  have hk4 := hl0.1
  refine t_M_setBits S _ hl0 hp (fun T v hF hv => ?_)
  have hq := hQ T hF
  unfold aM_sets at hq
  rw [if_neg (fun z => z.elim h1 (fun z => absurd z (by omega)))] at hq
  obtain ⟨w, hw⟩ : ∃ w : Nat, S 0 19 = w := ⟨(S 0 19).toNat, by omega⟩
  have hwb : 2 ≤ w ∧ w ≤ 4 := by omega
  have hK := pw2 hwb
  have eK : ishl 1 (T 0 19) = ((2 ^ w : Nat) : Int) := by rw [hF.s 0 19 rfl, hw, ishl_nat (by omega)]
  rw [show (S 0 19).toNat = w by omega] at hq hv
  have hP0 : pS (tl S) w (wyM (tl S)) 0 = false := by unfold pS; simp
  have hPK : ∀ j, 2 ^ w ≤ j → pS (tl S) w (wyM (tl S)) j = false := fun j hj => by unfold pS; simp [show ¬ j < 2 ^ w by omega]
  clear hw
  generalize pS (tl S) w (wyM (tl S)) = P at hv hq hP0 hPK
  generalize 2 ^ w = K at hK eK hq hPK
  refine ⟨fun h3 => ?_, fun h3 => ?_⟩
  · have h0 : s1F P i 1 = (0, -1) := by
      show srS (P 0) i ((0 : Nat) : Int) (0, -1) = _
      rw [hP0]
      rfl
    have hfin : ∀ k, 0 ≤ (s1F P i k).2 → k ≤ K → s1F P i K = s1F P i k := fun k hk hkK => by
      have := s1F_e P i hk (K - k)
      rwa [show k + (K - k) = K by omega] at this
    have loop : ∀ (j : Int) (_ : Unit), ((1 ≤ j ∧ j ≤ K) ∧ (s1F P i j.toNat).2 < 0) → Smm H_M_sets 39 [some (.inr (.inr 0)), some (.inl i), some (.inl v), some (.inl (s1F P i j.toNat).1), some (.inl j)] [] T Q := by
      refine lp_up (P := fun j _ => Smm H_M_sets 39 [some (.inr (.inr 0)), some (.inl i), some (.inl v), some (.inl (s1F P i j.toNat).1), some (.inl j)] [] T Q) (fun j _ => (1 ≤ j ∧ j ≤ K) ∧ (s1F P i j.toNat).2 < 0) K ?_ ?_
      · rintro j - hj ⟨hj2, hr⟩
        rw [show j.toNat = K by omega] at hr
        unfold anS at hq
        rw [if_neg (by omega), if_neg h3] at hq
        refine sound ok_M_sets [39] 20 ?_
        exact ⟨fun _ => hq, fun h4 => absurd h4 (by rw [eK]; omega)⟩
      · rintro j - hj ⟨hj2, hr⟩ ih
        obtain ⟨k, rfl⟩ : ∃ k : Nat, j = k := ⟨j.toNat, by omega⟩
        rw [show ((k : Int)).toNat = k by omega] at hr ⊢
        have ih := ih ()
        rw [show ((k : Int) + 1).toNat = k + 1 by omega] at ih
        have hst : s1F P i (k + 1) = srS (P k) i k (s1F P i k) := rfl
        have hfk := hfin (k + 1)
        have hbd := s1F_b P i k
        rw [hst] at ih hfk
        generalize s1F P i k = q at hr ih hfk hbd
        unfold srS at ih hfk
        rw [if_neg (by omega)] at ih hfk
        have hbit := hv.bit (k := k) (by omega)
        have hkK : k < K := by omega
        refine sound ok_M_sets [39] 40 ?_
        refine ⟨fun h4 => absurd h4 (by rw [eK]; exact nle_n hkK), fun _ => ?_⟩
        by_cases hz : P k = true
        · rw [if_pos hz] at ih hfk hbit
          refine ⟨fun _ => ?_, fun h4 => absurd (hbit.symm.trans h4) (by decide)⟩
          refine ⟨fun h4 => ?_, fun h4 => ?_⟩
          · rw [if_neg h4] at ih
            exact Smm.sub (ih ⟨by omega, hr⟩) ⟨Or.inr rfl, Or.inr rfl, Or.inr rfl, Or.inr (sI (i32_id (by omega) (by omega)).symm), Or.inr (sI (i32_id (by omega) (by omega)).symm), trivial⟩
          · rw [if_pos h4] at hfk
            have hfk := hfk (show (0 : Int) ≤ k by omega) (by omega)
            rw [hfk] at hq
            unfold anS at hq
            rw [if_pos (show (0 : Int) ≤ k by omega)] at hq
            exact hq
        · rw [if_neg hz] at ih hbit
          refine ⟨fun h4 => absurd hbit h4, fun _ => ?_⟩
          exact Smm.sub (ih ⟨by omega, hr⟩) ⟨Or.inr rfl, Or.inr rfl, Or.inr rfl, Or.inr rfl, Or.inr (sI (i32_id (by omega) (by omega)).symm), trivial⟩
    refine Smm.sub (loop 1 () ⟨by omega, by rw [show (1 : Int).toNat = 1 from rfl, h0]; decide⟩) ⟨Or.inr rfl, Or.inr rfl, Or.inr rfl, Or.inr (sI ?_), Or.inr rfl, trivial⟩
    rw [show (1 : Int).toNat = 1 from rfl, h0]
  · rw [h3, s1F_ct] at hq
    unfold anS at hq
    rw [if_neg (show ¬ (0 : Int) ≤ -1 by decide), if_pos rfl] at hq
    obtain ⟨x, hx1, hx2, hx3⟩ := hv
    have e : ((bcF 30 x : Nat) : Int) = ((List.range K).countP P : Nat) := by
      rw [bcF_ct, List.countP_congr (l := List.range 30) (p := fun j => x.testBit j) (q := P) (fun j _ => by rw [hx3 j])]
      have := rg_cut P K hPK (30 - K)
      rw [show K + (30 - K) = 30 by omega] at this
      rw [this]
    rw [hx1]
    refine t_M_bitsOf T x _ (by omega) ?_
    rw [e]
    exact hq
def aM_guard (S : St) (g what : Int) : Int := if ¬ (¬ S 0 18 = 0 ∧ 0 ≤ g ∧ g < S 0 19) ∨ ¬ (0 ≤ what ∧ what ≤ 2) then -1 else if what = 0 then S 7 g else if what = 1 then S 8 g else S 9 g
theorem t_M_guard (S : St) (g what : Int) (Q : Option AV → St → Prop) (hL : ¬ S 0 18 = 0 → ldM S) (hQ : Q (some (.inl (aM_guard S g what))) (th S)) : Smm H_M_guard 0 [some (.inr (.inr 0)), some (.inl g), some (.inl what)] [] S Q := by
  have e18 : th S 0 18 = S 0 18 := th_0 S (by decide)
  have e19 : th S 0 19 = S 0 19 := th_0 S (by decide)
  unfold aM_guard at hQ
  refine sound ok_M_guard [] 60 ?_
  refine t_M_isGuard (th S) g _ (fun h1 => ?_) (fun h1 => by
    rw [e18, e19] at h1
    rw [if_pos (Or.inl h1)] at hQ
    exact ⟨fun _ => hQ, fun z => absurd rfl z⟩)
  rw [e18, e19] at h1
  have hk4 := (hL h1.1).1
  refine ⟨fun z => absurd z (by decide), fun _ => ?_⟩
  refine t_M_isPart _ _ _ _ (fun h2 => ?_) (fun h2 => by
    rw [if_pos (Or.inr h2)] at hQ
    exact ⟨fun z => absurd rfl z, fun _ => hQ⟩)
  rw [if_neg (by omega)] at hQ
  refine ⟨fun _ => ?_, fun z => absurd z (by decide)⟩
  refine ⟨fun h3 => ?_, fun h3 => ?_⟩
  · rw [if_neg h3] at hQ
    refine ⟨fun h4 => ?_, fun h4 => ?_⟩
    · rw [if_neg h4] at hQ
      exact ⟨by omega, hQ⟩
    · rw [if_pos h4] at hQ
      exact ⟨by omega, hQ⟩
  · rw [if_pos h3] at hQ
    exact ⟨by omega, hQ⟩
def okSg (S : St) (s what : Int) : Prop := (¬ S 0 18 = 0 ∧ 0 ≤ s ∧ s < S 0 20) ∧ 0 ≤ what ∧ what ≤ 3
def aM_sign (S : St) (s what : Int) : Int := if what = 0 then S 10 s else if what = 1 then S 11 s else if what = 2 then S 12 s else S 13 s
theorem t_M_sign (S : St) (s what : Int) (Q : Option AV → St → Prop) (hL : ¬ S 0 18 = 0 → ldM S) (h0 : ¬ okSg S s what → Q (some (.inl 0)) (up (th S) 0 0 1)) (h1 : okSg S s what → Q (some (.inl (aM_sign S s what))) (th S)) : Smm H_M_sign 0 [some (.inr (.inr 0)), some (.inl s), some (.inl what)] [] S Q := by
  have e18 : th S 0 18 = S 0 18 := th_0 S (by decide)
  have e20 : th S 0 20 = S 0 20 := th_0 S (by decide)
  refine sound ok_M_sign [] 60 ?_
  refine t_M_isSign (th S) s _ (fun g1 => ?_) (fun g1 => by
    rw [e18, e20] at g1
    exact ⟨fun _ => h0 (fun z => g1 z.1), fun z => absurd rfl z⟩)
  rw [e18, e20] at g1
  have hn5 := (hL g1.1).2.1
  refine ⟨fun z => absurd z (by decide), fun _ => ?_⟩
  refine t_M_isPart _ _ _ _ (fun h2 => ?_) (fun h2 => ⟨fun z => absurd rfl z, fun _ => h0 (fun z => h2 z.2)⟩)
  have hQ := h1 ⟨g1, h2⟩
  unfold aM_sign at hQ
  refine ⟨fun _ => ?_, fun z => absurd z (by decide)⟩
  refine ⟨fun h3 => ?_, fun h3 => ?_⟩
  · rw [if_neg h3] at hQ
    refine ⟨fun h4 => ?_, fun h4 => ?_⟩
    · rw [if_neg h4] at hQ
      refine ⟨fun h5 => ?_, fun h5 => ?_⟩
      · rw [if_neg h5] at hQ
        exact ⟨by omega, hQ⟩
      · rw [if_pos h5] at hQ
        exact ⟨by omega, hQ⟩
    · rw [if_pos h4] at hQ
      exact ⟨by omega, hQ⟩
  · rw [if_pos h3] at hQ
    exact ⟨by omega, hQ⟩
def aM_hears (S : St) (g s : Int) : Int := if ¬ S 0 18 = 0 ∧ (0 ≤ g ∧ g < S 0 19) ∧ 0 ≤ s ∧ s < S 0 20 then S 14 (5 * g + s) else -1
theorem t_M_hears (S : St) (g s : Int) (Q : Option AV → St → Prop) (hL : ¬ S 0 18 = 0 → ldM S) (hQ : Q (some (.inl (aM_hears S g s))) (th S)) : Smm H_M_hears 0 [some (.inr (.inr 0)), some (.inl g), some (.inl s)] [] S Q := by
  have e18 : th S 0 18 = S 0 18 := th_0 S (by decide)
  have e19 : th S 0 19 = S 0 19 := th_0 S (by decide)
  have e20 : th S 0 20 = S 0 20 := th_0 S (by decide)
  unfold aM_hears at hQ
  refine sound ok_M_hears [] 60 ?_
  refine t_M_isGuard (th S) g _ (fun h1 => ?_) (fun h1 => by
    rw [e18, e19] at h1
    rw [if_neg (fun z => h1 ⟨z.1, z.2.1⟩)] at hQ
    exact ⟨fun _ => hQ, fun z => absurd rfl z⟩)
  rw [e18, e19] at h1
  have hk4 := (hL h1.1).1
  have hn5 := (hL h1.1).2.1
  refine ⟨fun z => absurd z (by decide), fun _ => ?_⟩
  refine t_M_isSign (th S) s _ (fun h2 => ?_) (fun h2 => by
    rw [e18, e20] at h2
    rw [if_neg (fun z => h2 ⟨z.1, z.2.2⟩)] at hQ
    exact ⟨fun _ => hQ, fun z => absurd rfl z⟩)
  rw [e18, e20] at h2
  rw [if_pos ⟨h1.1, h1.2, h2.2⟩] at hQ
  have e1 : i32 (i32 (5 * g) + s) = 5 * g + s := by unfold i32; omega
  refine ⟨fun z => absurd z (by decide), fun _ => ?_⟩
  refine ⟨by rw [e1]; omega, ?_⟩
  rw [← e1] at hQ
  exact hQ
def okPl (S : St) (g p : Int) : Prop := (¬ S 0 18 = 0 ∧ 0 ≤ g ∧ g < S 0 19) ∧ -1 ≤ p ∧ p < S 0 31
theorem t_M_plan (S : St) (g p : Int) (Q : Option AV → St → Prop) (hL : ¬ S 0 18 = 0 → ldM S) (h0 : ¬ okPl S g p → Q (some (.inl 0)) (th S)) (h1 : okPl S g p → Q (some (.inl 1)) (up (th S) 9 g p)) : Smm H_M_plan 0 [some (.inr (.inr 0)), some (.inl g), some (.inl p)] [] S Q := by
  have e18 : th S 0 18 = S 0 18 := th_0 S (by decide)
  have e19 : th S 0 19 = S 0 19 := th_0 S (by decide)
  have e31 : th S 0 31 = S 0 31 := th_0 S (by decide)
  refine sound ok_M_plan [] 60 ?_
  refine t_M_isGuard (th S) g _ (fun g1 => ?_) (fun g1 => by
    rw [e18, e19] at g1
    exact ⟨fun _ => ⟨Or.inl rfl, h0 (fun z => g1 z.1)⟩, fun z => absurd rfl z⟩)
  rw [e18, e19] at g1
  have hk4 := (hL g1.1).1
  refine ⟨fun z => absurd z (by decide), fun _ => ?_⟩
  refine ⟨fun h3 => ⟨Or.inl rfl, h0 (fun z => absurd z.2.1 (by omega))⟩, fun h3 => ?_⟩
  refine ⟨fun h4 => ?_, fun h4 => ⟨Or.inl rfl, h0 (fun z => absurd z.2.2 (by omega))⟩⟩
  refine ⟨by omega, ?_⟩
  exact ⟨Or.inr rfl, h1 ⟨g1, h3, by rw [← e31]; exact h4⟩⟩
def okSc (S : St) (g s p : Int) : Prop := (¬ S 0 18 = 0 ∧ 0 ≤ g ∧ g < S 0 19) ∧ (s = -1 ∨ (0 ≤ s ∧ s < S 0 20)) ∧ (-99 ≤ p ∧ p ≤ 199) ∧ ¬ S 0 49 = 10
def scS (S : St) (g s p : Int) : St := up (up (up (up (th S) 30 (3 * S 0 49) g) 30 (3 * S 0 49 + 1) s) 30 (3 * S 0 49 + 2) p) 0 49 (S 0 49 + 1)
theorem t_M_scratch (S : St) (g s p : Int) (Q : Option AV → St → Prop) (hS : 0 ≤ S 0 49 ∧ S 0 49 ≤ 10) (h0 : ¬ okSc S g s p → Q (some (.inl (-1))) (th S)) (h1 : okSc S g s p → Q (some (.inl (S 0 49 + 1))) (scS S g s p)) : Smm H_M_scratch 0 [some (.inr (.inr 0)), some (.inl g), some (.inl s), some (.inl p)] [] S Q := by
  have e18 : th S 0 18 = S 0 18 := th_0 S (by decide)
  have e19 : th S 0 19 = S 0 19 := th_0 S (by decide)
  have e20 : th S 0 20 = S 0 20 := th_0 S (by decide)
  have e49 : th S 0 49 = S 0 49 := th_0 S (by decide)
  have rest : (¬ S 0 18 = 0 ∧ 0 ≤ g ∧ g < S 0 19) → (s = -1 ∨ (0 ≤ s ∧ s < S 0 20)) → Smm H_M_scratch 26 [some (.inr (.inr 0)), some (.inl g), some (.inl s), some (.inl p)] [] (th S) Q := by
    intro g1 g2
    refine sound ok_M_scratch [50] 60 ?_
    refine ⟨fun h3 => h0 (fun z => absurd z.2.2.1.1 (by omega)), fun h3 => ?_⟩
    refine ⟨fun h4 => h0 (fun z => absurd z.2.2.1.2 (by omega)), fun h4 => ?_⟩
    refine ⟨fun h5 => ?_, fun h5 => h0 (fun z => z.2.2.2 (by rw [← e49]; exact h5))⟩
    rw [e49] at h5
    have hq := h1 ⟨g1, g2, ⟨h3, h4⟩, h5⟩
    unfold scS at hq
    have d1 : up (th S) 30 (3 * S 0 49) g 0 = th S 0 := up_o _ _ _ (by decide)
    generalize hk : S 0 49 = k at hq hS h5 e49 d1
    have f0 : i32 (3 * k) = 3 * k := i32_id (by omega) (by omega)
    have f1 : i32 (i32 (3 * k) + 1) = 3 * k + 1 := by rw [f0]; exact i32_id (by omega) (by omega)
    have f2 : i32 (i32 (3 * k) + 2) = 3 * k + 2 := by rw [f0]; exact i32_id (by omega) (by omega)
    have f3 : i32 (k + 1) = k + 1 := i32_id (by omega) (by omega)
    have b0 : 0 ≤ 3 * k ∧ 3 * k < 30 := by omega
    have b1 : 0 ≤ 3 * k + 1 ∧ 3 * k + 1 < 30 := by omega
    have b2 : 0 ≤ 3 * k + 2 ∧ 3 * k + 2 < 30 := by omega
    have at0 : ∀ T : St, T 0 49 = k → ∀ x, Smm H_M_scratch 62 x [] (up T 30 (i32 (3 * k)) g) Q → True := fun _ _ _ _ => trivial
    clear at0
    refine Smm.can (fun hC => ?_)
    rw [← e49] at hq f0 f1 f2 f3 b0 b1 b2
    rw [← f1, ← f2, ← f3] at hq
    rw [← f0] at b0
    rw [← f1] at b1
    rw [← f2] at b2
    have hq2 : Q (some (.inl (i32 (th S 0 49 + 1)))) (up (up (up (up (th S) 30 (i32 (3 * th S 0 49)) g) 30 (i32 (i32 (3 * th S 0 49) + 1)) s) 30 (i32 (i32 (3 * th S 0 49) + 2)) p) 0 49 (i32 (th S 0 49 + 1))) := by
      rw [f0]; rw [f0] at hq; exact hq
    clear hq f0 f1 f2 f3
    refine sound ok_M_scratch [] 60 ?_
    refine ⟨b0, ?_⟩
    refine ⟨b1, ?_⟩
    refine ⟨b2, ?_⟩
    exact hq2
  refine sound ok_M_scratch [26] 60 ?_
  refine t_M_isGuard (th S) g _ (fun g1 => ?_) (fun g1 => by
    rw [e18, e19] at g1
    exact ⟨fun _ => h0 (fun z => g1 z.1), fun z => absurd rfl z⟩)
  rw [e18, e19] at g1
  refine ⟨fun z => absurd z (by decide), fun _ => ?_⟩
  refine ⟨fun h3 => rest g1 (Or.inl h3), fun h3 => ?_⟩
  refine t_M_isSign (th S) s _ (fun g2 => ?_) (fun g2 => ?_)
  · rw [e18, e20] at g2
    exact ⟨fun z => absurd z (by decide), fun _ => rest g1 (Or.inr g2.2)⟩
  · rw [e18, e20] at g2
    exact ⟨fun _ => h0 (fun z => g2 ⟨g1.1, z.2.1.resolve_left h3⟩), fun z => absurd rfl z⟩
theorem t_M_seed (S : St) (v : Int) (Q : Option AV → St → Prop) (hQ : Q (some (.inl 1)) (up (th S) 0 51 v)) : Smm H_M_seed 0 [some (.inr (.inr 0)), some (.inr (.inl v)), none] [] S Q := by
  refine sound ok_M_seed [] 30 ?_
  exact ⟨Or.inr rfl, hQ⟩
theorem t_M_isNight (S : St) (g : Int) (Q : Option AV → St → Prop) (h1 : ¬ S 0 18 = 0 ∧ 0 ≤ g ∧ g < S 0 52 → Q (some (.inl 1)) S) (h0 : ¬ (¬ S 0 18 = 0 ∧ 0 ≤ g ∧ g < S 0 52) → Q (some (.inl 0)) S) : Smm H_M_isNight 0 [some (.inr (.inr 0)), some (.inl g)] [] S Q := by
  refine sound ok_M_isNight [] 40 ?_
  refine ⟨fun h2 => ⟨Or.inl rfl, h0 (by omega)⟩, fun h2 => ?_⟩
  refine ⟨fun h3 => ⟨Or.inl rfl, h0 (by omega)⟩, fun h3 => ?_⟩
  exact ⟨fun h4 => ⟨Or.inl rfl, h0 (by omega)⟩, fun h4 => ⟨Or.inr rfl, h1 (by omega)⟩⟩
def aM_turned (S : St) (n g : Int) : Int := if ¬ (¬ S 0 18 = 0 ∧ 0 ≤ n ∧ n < S 0 52) ∨ ¬ (0 ≤ g ∧ g < S 0 19) ∨ S 32 (4 * n + g) = 1000000 then -1000000 else S 32 (4 * n + g)
theorem t_M_turned (S : St) (n g : Int) (Q : Option AV → St → Prop) (hN : S 0 52 ≤ 40) (hL : ¬ S 0 18 = 0 → ldM S) (hQ : Q (some (.inl (aM_turned S n g))) (th S)) : Smm H_M_turned 0 [some (.inr (.inr 0)), some (.inl n), some (.inl g)] [] S Q := by
  have e18 : th S 0 18 = S 0 18 := th_0 S (by decide)
  have e19 : th S 0 19 = S 0 19 := th_0 S (by decide)
  have e52 : th S 0 52 = S 0 52 := th_0 S (by decide)
  unfold aM_turned at hQ
  refine sound ok_M_turned [] 60 ?_
  refine t_M_isNight (th S) n _ (fun h1 => ?_) (fun h1 => by
    rw [e18, e52] at h1
    rw [if_pos (Or.inl h1)] at hQ
    exact ⟨fun _ => hQ, fun z => absurd rfl z⟩)
  rw [e18, e52] at h1
  have hk4 := (hL h1.1).1
  refine ⟨fun z => absurd z (by decide), fun _ => ?_⟩
  refine t_M_isGuard (th S) g _ (fun h2 => ?_) (fun h2 => by
    rw [e18, e19] at h2
    rw [if_pos (Or.inr (Or.inl (fun z => h2 ⟨h1.1, z⟩)))] at hQ
    exact ⟨fun _ => hQ, fun z => absurd rfl z⟩)
  rw [e18, e19] at h2
  have e1 : i32 (i32 (4 * n) + g) = 4 * n + g := by unfold i32; omega
  have b1 : 0 ≤ 4 * n + g ∧ 4 * n + g < 160 := by omega
  rw [← e1] at hQ
  refine ⟨fun z => absurd z (by decide), fun _ => ?_⟩
  refine ⟨by rw [e1]; exact b1, ?_⟩
  have e32 : th S 32 = S 32 := th_c S (by decide)
  rw [← e32] at hQ
  refine ⟨fun h3 => ?_, fun h3 => ?_⟩
  · rw [if_neg (fun z => z.elim (fun z => z h1) (fun z => z.elim (fun z => z h2.2) (fun z => h3 z)))] at hQ
    exact ⟨by rw [e1]; exact b1, hQ⟩
  · rw [if_pos (Or.inr (Or.inr h3))] at hQ
    exact hQ
def aM_opened (S : St) (n : Int) : Int := if ¬ (¬ S 0 18 = 0 ∧ 0 ≤ n ∧ n < S 0 52) then -1 else if S 33 n = 0 then 0 else 1
theorem t_M_opened (S : St) (n : Int) (Q : Option AV → St → Prop) (hN : S 0 52 ≤ 40) (hQ : Q (some (.inl (aM_opened S n))) (th S)) : Smm H_M_opened 0 [some (.inr (.inr 0)), some (.inl n)] [] S Q := by
  have e18 : th S 0 18 = S 0 18 := th_0 S (by decide)
  have e52 : th S 0 52 = S 0 52 := th_0 S (by decide)
  unfold aM_opened at hQ
  refine sound ok_M_opened [] 60 ?_
  refine t_M_isNight (th S) n _ (fun h1 => ?_) (fun h1 => by
    rw [e18, e52] at h1
    rw [if_pos h1] at hQ
    exact ⟨fun z => absurd rfl z, fun _ => hQ⟩)
  rw [e18, e52] at h1
  rw [if_neg (fun z => z h1)] at hQ
  refine ⟨fun _ => ?_, fun z => absurd z (by decide)⟩
  refine ⟨by omega, ?_⟩
  have e33 : th S 33 = S 33 := th_c S (by decide)
  rw [← e33] at hQ
  refine ⟨fun h3 => ?_, fun h3 => ?_⟩
  · rw [if_pos h3] at hQ
    exact hQ
  · rw [if_neg h3] at hQ
    exact hQ
theorem t_M_undo (S : St) (Q : Option AV → St → Prop) (hN : 0 ≤ S 0 52 ∧ S 0 52 ≤ 40) (h0 : ¬ (¬ S 0 18 = 0 ∧ 0 < S 0 52) → Q (some (.inl (-1))) (th S)) (h1 : ¬ S 0 18 = 0 ∧ 0 < S 0 52 → Q (some (.inl (S 0 52 - 1))) (up (up (th S) 0 52 (S 0 52 - 1)) 0 51 (S 34 (S 0 52 - 1)))) : Smm H_M_undo 0 [some (.inr (.inr 0))] [] S Q := by
  have e18 : th S 0 18 = S 0 18 := th_0 S (by decide)
  have e52 : th S 0 52 = S 0 52 := th_0 S (by decide)
  refine sound ok_M_undo [] 60 ?_
  refine t_M_isNight (th S) 0 _ (fun g1 => ?_) (fun g1 => by
    rw [e18, e52] at g1
    exact ⟨fun z => absurd rfl z, fun _ => h0 (fun z => g1 ⟨z.1, Int.le_refl _, z.2⟩)⟩)
  rw [e18, e52] at g1
  have hq := h1 ⟨g1.1, g1.2.2⟩
  have e1 : i32 (th S 0 52 - 1) = S 0 52 - 1 := by rw [e52]; exact i32_id (by omega) (by omega)
  have b1 : 0 ≤ S 0 52 - 1 ∧ S 0 52 - 1 < 40 := by omega
  rw [← e1] at hq b1
  refine ⟨fun _ => ?_, fun z => absurd z (by decide)⟩
  refine ⟨b1, ?_⟩
  exact hq
/-- how many are not 0 -/
def nzF (t : Int → Int) : Nat → Int
  | 0 => 0
  | k + 1 => if t k = 0 then nzF t k else nzF t k + 1
theorem nzF_b (t : Int → Int) : ∀ k : Nat, 0 ≤ nzF t k ∧ nzF t k ≤ k
  | 0 => by rw [nzF]; omega
  | k + 1 => by
    have := nzF_b t k
    rw [nzF]
    split <;> omega
def aM_count (S : St) (what : Int) : Int := if what = 0 then S 0 19 else if what = 1 then S 0 20 else if what = 2 then S 0 31 else if what = 3 then S 0 2 else if what = 4 then S 0 21 else if what = 5 then S 0 22 else if what = 6 then S 0 49 else if what = 7 then S 0 52 else if what = 8 then nzF (S 33) (S 0 52).toNat else -1000000
theorem t_M_count (S : St) (what : Int) (Q : Option AV → St → Prop) (hN : 0 ≤ S 0 52 ∧ S 0 52 ≤ 40) (hQ : Q (some (.inl (aM_count S what))) (th S)) : Smm H_M_count 0 [some (.inr (.inr 0)), some (.inl what), none, none] [] S Q := by
  have e52 : th S 0 52 = S 0 52 := th_0 S (by decide)
  have e33 : th S 33 = S 33 := th_c S (by decide)
  have loop : what = 8 → ∀ (i : Int) (_ : Unit), (0 ≤ i ∧ i ≤ S 0 52) → Smm H_M_count 100 [some (.inr (.inr 0)), some (.inl what), some (.inl (nzF (S 33) i.toNat)), some (.inl i)] [] (th S) Q := by
    intro h8
    refine lp_up (P := fun i _ => Smm H_M_count 100 [some (.inr (.inr 0)), some (.inl what), some (.inl (nzF (S 33) i.toNat)), some (.inl i)] [] (th S) Q) (fun i _ => 0 ≤ i ∧ i ≤ S 0 52) (S 0 52) ?_ ?_
    · rintro i - hi hi2
      refine sound ok_M_count [100] 30 ?_
      refine ⟨fun _ => ?_, fun h3 => absurd h3 (by omega)⟩
      unfold aM_count at hQ
      rw [h8] at hQ
      rw [show i = S 0 52 by omega]
      exact hQ
    · rintro i - hi hi2 ih
      obtain ⟨k, rfl⟩ : ∃ k : Nat, i = k := ⟨i.toNat, by omega⟩
      have ih := ih () (by omega)
      rw [show ((k : Int) + 1).toNat = k + 1 by omega, nzF] at ih
      rw [show ((k : Int)).toNat = k by omega]
      have hb := nzF_b (S 33) k
      refine sound ok_M_count [100] 40 ?_
      refine ⟨fun h3 => absurd h3 (by omega), fun _ => ?_⟩
      refine ⟨by omega, ?_⟩
      refine ⟨fun h3 => ?_, fun h3 => ?_⟩
      · rw [if_pos (e33 ▸ h3)] at ih
        exact Smm.sub ih ⟨Or.inr rfl, Or.inr rfl, Or.inr rfl, Or.inr (sI (i32_id (by omega) (by omega)).symm), trivial⟩
      · rw [if_neg (e33 ▸ h3)] at ih
        exact Smm.sub ih ⟨Or.inr rfl, Or.inr rfl, Or.inr (sI (i32_id (by omega) (by omega)).symm), Or.inr (sI (i32_id (by omega) (by omega)).symm), trivial⟩
  have at_ : ∀ v, what = v → Q (some (.inl (aM_count S v))) (th S) := fun v h => h ▸ hQ
  refine sound ok_M_count [100] 30 ?_
  refine ⟨fun h => ?_, fun h => at_ 0 h, fun h => at_ 1 h, fun h => at_ 2 h, fun h => at_ 3 h, fun h => at_ 4 h, fun h => at_ 5 h, fun h => at_ 6 h, fun h => at_ 7 h, fun h => loop h 0 () (by omega), trivial⟩
  unfold aM_count at hQ
  rw [if_neg (by omega), if_neg (by omega), if_neg (by omega), if_neg (by omega), if_neg (by omega), if_neg (by omega), if_neg (by omega), if_neg (by omega), if_neg (by omega)] at hQ
  exact hQ
theorem t_M_thrown (S : St) (Q : Option AV → St → Prop) (hQ : Q (some (.inl (S 0 0))) S) : Smm H_M_thrown 0 [some (.inr (.inr 0))] [] S Q := by
  refine sound ok_M_thrown [] 10 ?_
  exact hQ
