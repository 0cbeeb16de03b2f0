/-! the class: what is told, what is asked -/
theorem t_told (R S : St) (Q : Option AV → St → Prop) (h : RelB R S) (h1 : ¬ R 0 18 = 0 → Q (some (.inl 1)) S) (h0 : R 0 18 = 0 → Q (some (.inl 0)) S) : Smm H_X_isTold 0 [some (.inr (.inr 40))] [] S Q := by
  have e : S 63 0 = R 0 19 := h.2.2.1.1.1
  refine sound ok_X_isTold [] 20 ?_
  refine ⟨fun z => ⟨Or.inl rfl, h0 ?_⟩, fun z => ⟨Or.inr rfl, h1 ?_⟩⟩
  · by_cases y : R 0 18 = 0
    · exact y
    · have := (h.1.1 y).1
      omega
  · intro y
    have := (h.1.2.1 y).1
    omega
theorem t_xGuard (R S : St) (g : Int) (Q : Option AV → St → Prop) (h : RelB R S) (h1 : (¬ R 0 18 = 0 ∧ 0 ≤ g ∧ g < R 0 19) → Q (some (.inl 1)) S) (h0 : ¬ (¬ R 0 18 = 0 ∧ 0 ≤ g ∧ g < R 0 19) → Q (some (.inl 0)) S) : Smm H_X_isGuard 0 [some (.inr (.inr 40)), some (.inl g)] [] S Q := by
  have e : S 63 0 = R 0 19 := h.2.2.1.1.1
  refine sound ok_X_isGuard [] 20 ?_
  refine ⟨fun z => ⟨Or.inl rfl, h0 (fun q => absurd q.2.1 (by omega))⟩, fun z => ?_⟩
  refine ⟨fun y => ⟨Or.inl rfl, h0 (fun q => absurd q.2.2 (by omega))⟩, fun y => ⟨Or.inr rfl, h1 ⟨fun w => ?_, z, by omega⟩⟩⟩
  have := (h.1.2.1 w).1
  omega
theorem t_xSign (R S : St) (s : Int) (Q : Option AV → St → Prop) (h : RelB R S) (h1 : (¬ R 0 18 = 0 ∧ 0 ≤ s ∧ s < R 0 20) → Q (some (.inl 1)) S) (h0 : ¬ (¬ R 0 18 = 0 ∧ 0 ≤ s ∧ s < R 0 20) → Q (some (.inl 0)) S) : Smm H_X_isSign 0 [some (.inr (.inr 40)), some (.inl s)] [] S Q := by
  have e : S 63 1 = R 0 20 := h.2.2.1.1.2
  refine sound ok_X_isSign [] 20 ?_
  refine ⟨fun z => ⟨Or.inl rfl, h0 (fun q => absurd q.2.1 (by omega))⟩, fun z => ?_⟩
  refine ⟨fun y => ⟨Or.inl rfl, h0 (fun q => absurd q.2.2 (by omega))⟩, fun y => ⟨Or.inr rfl, h1 ⟨fun w => ?_, z, by omega⟩⟩⟩
  have := (h.1.2.1 w).2.1
  omega
theorem t_xPlan (R S : St) (p : Int) (Q : Option AV → St → Prop) (h : RelB R S) (h1 : (0 ≤ p ∧ p < R 0 31) → Q (some (.inl 1)) S) (h0 : ¬ (0 ≤ p ∧ p < R 0 31) → Q (some (.inl 0)) S) : Smm H_X_isPlan 0 [some (.inr (.inr 40)), some (.inl p)] [] S Q := by
  have e : S 57 3 = R 0 31 := h.2.2.2.1.1
  refine sound ok_X_isPlan [] 20 ?_
  refine ⟨fun z => ⟨Or.inl rfl, h0 (by omega)⟩, fun z => ?_⟩
  exact ⟨fun y => ⟨Or.inl rfl, h0 (by omega)⟩, fun y => ⟨Or.inr rfl, h1 (by omega)⟩⟩
theorem t_xNight (R S : St) (n : Int) (Q : Option AV → St → Prop) (h : RelB R S) (h1 : (¬ R 0 18 = 0 ∧ 0 ≤ n ∧ n < R 0 52) → Q (some (.inl 1)) S) (h0 : ¬ (¬ R 0 18 = 0 ∧ 0 ≤ n ∧ n < R 0 52) → Q (some (.inl 0)) S) : Smm H_X_isNight 0 [some (.inr (.inr 40)), some (.inl n)] [] S Q := by
  have e : S 79 5 = R 0 52 := h.2.2.2.2.1.2.2.1.1
  refine sound ok_X_isNight [] 20 ?_
  refine ⟨fun z => ⟨Or.inl rfl, h0 (fun q => absurd q.2.1 (by omega))⟩, fun z => ?_⟩
  refine ⟨fun y => ⟨Or.inl rfl, h0 (fun q => absurd q.2.2 (by omega))⟩, fun y => ⟨Or.inr rfl, h1 ⟨fun w => ?_, z, by omega⟩⟩⟩
  have := (h.1.2.1 w).2.2.2.2.2.1
  omega
theorem t_within (S : St) (a b : Int) (Q : Option AV → St → Prop) (h1 : (0 ≤ a ∧ a ≤ b) → Q (some (.inl 1)) S) (h0 : ¬ (0 ≤ a ∧ a ≤ b) → Q (some (.inl 0)) S) : Smm H_X_isWithin 0 [some (.inl a), some (.inl b)] [] S Q := by
  refine sound ok_X_isWithin [] 20 ?_
  refine ⟨fun z => ⟨Or.inl rfl, h0 (by omega)⟩, fun z => ?_⟩
  exact ⟨fun y => ⟨Or.inl rfl, h0 (by omega)⟩, fun y => ⟨Or.inr rfl, h1 (by omega)⟩⟩
theorem t_orHidden (S : St) (p : Int) (Q : Option AV → St → Prop) (hQ : Q (some (.inl (if 1000000 ≤ p then -1000000 else p))) S) : Smm H_X_orHidden 0 [some (.inl p)] [] S Q := by
  refine sound ok_X_orHidden [] 20 ?_
  refine ⟨fun z => ?_, fun z => ?_⟩
  · rw [if_neg (by omega)] at hQ; exact hQ
  · rw [if_pos z] at hQ; exact hQ
set_option maxHeartbeats 1000000 in
theorem t_surveyed (R S : St) (Q : Option AV → St → Prop) (h : Rel R S) (hl : ¬ R 0 18 = 0) (hQ : ∀ S', Xs S S' → Rel R S' → svP (tl R) 1 (wyM (tl R)) S' → Q (some (.inr (.inr 106))) S') : Smm H_X_surveyed 0 [some (.inr (.inr 40))] [] S Q := by
  obtain ⟨hl0, hp, hT, hR, hP, hpo⟩ := h.1.land hl
  refine sound ok_X_surveyed [] 40 ?_
  refine ⟨fun z => ?_, fun z => ?_⟩
  · rcases h.2.1 with q | ⟨q1, q2, q3⟩
    · exact absurd q z
    · exact hQ S (Xs.rf S) h q3
  · refine t_svTake (tl R) S _ hT hR hP hpo (fun S' hF hs hf => ?_)
    refine hQ S' (Xs.of hF rfl) ⟨h.1.fr hF rfl, Or.inr ⟨hf, hl, hs⟩, ?_, ?_⟩ hs
    · rw [hF.s 106 1 rfl, hF.s 106 13 rfl]
      exact h.2.2.1
    · have := h.2.2.2
      unfold dI at this ⊢
      rw [hF.c 117 rfl, hF.c 118 rfl, hF.c 119 rfl, hF.c 120 rfl]
      exact this
/-! the greatest common divisor, in so many steps -/
set_option maxHeartbeats 1000000 in
theorem t_gcd (S : St) (a b : Nat) (Q : Option AV → St → Prop) (ha : a < 1000000) (hb : b < 32768) (hQ : Q (some (.inl ((Nat.gcd a b : Nat) : Int))) S) : Smm H_X_commonDivisor 0 [some (.inl (a : Int)), some (.inl (b : Int)), none, none, none, none] [] S Q := by
  have ex : ∀ (i l : Nat) (x : Option AV), Nat.gcd a b = l → Smm H_X_commonDivisor 7 [some (.inl (a : Int)), some (.inl (b : Int)), some (.inl (l : Int)), some (.inl 0), some (.inl (i : Int)), x] [] S Q := by
    intro i l x hl
    rw [hl] at hQ
    refine sound ok_X_commonDivisor [7] 20 ?_
    refine ⟨fun _ => hQ, fun _ => ?_⟩
    exact ⟨fun _ => hQ, fun z => absurd rfl z⟩
  have st : ∀ (i l r : Nat) (x : Option AV), i < 64 → l < 1000000 → r < 1000000 → ¬ r = 0 → (∀ y, Smm H_X_commonDivisor 7 [some (.inl (a : Int)), some (.inl (b : Int)), some (.inl (r : Int)), some (.inl ((l % r : Nat) : Int)), some (.inl ((i + 1 : Nat) : Int)), y] [] S Q) → Smm H_X_commonDivisor 7 [some (.inl (a : Int)), some (.inl (b : Int)), some (.inl (l : Int)), some (.inl (r : Int)), some (.inl (i : Int)), x] [] S Q := by
    intro i l r x hi hl hr h0 nx
    have e1 : irem (l : Int) (r : Int) = ((l % r : Nat) : Int) := by
      rw [irem_pos (by omega) (by omega) (by omega) (by omega)]
      exact (Int.natCast_emod l r).symm
    have e : ((i + 1 : Nat) : Int) = i32 ((i : Int) + 1) := i32_s (by clear e1; omega)
    refine sound ok_X_commonDivisor [7] 40 ?_
    refine ⟨fun z => absurd z (by clear e e1; omega), fun _ => ?_⟩
    refine ⟨fun z => absurd z (by clear e e1; omega), fun _ => ?_⟩
    refine ⟨by clear e e1; omega, ?_⟩
    exact Smm.sub (nx (some (.inl (irem (l : Int) (r : Int))))) ⟨Or.inr rfl, Or.inr rfl, Or.inr rfl, Or.inr (sI e1.symm), Or.inr (sI e), Or.inr rfl, trivial⟩
  have loop : ∀ (k i l r : Nat) (x : Option AV), r < 2 ^ k → k ≤ 15 → i + 2 * k ≤ 62 → l < 1000000 → Nat.gcd a b = Nat.gcd l r → Smm H_X_commonDivisor 7 [some (.inl (a : Int)), some (.inl (b : Int)), some (.inl (l : Int)), some (.inl (r : Int)), some (.inl (i : Int)), x] [] S Q := by
    intro k
    induction k with
    | zero =>
      intro i l r x hr _ _ _ hg
      have : r = 0 := by omega
      subst this
      rw [Nat.gcd_zero_right] at hg
      exact ex i l x hg
    | succ k ih =>
      intro i l r x hr hk hi hl hg
      have hp : 2 ^ (k + 1) ≤ 2 ^ 15 := Nat.pow_le_pow_right (by omega) hk
      by_cases z : r = 0
      · subst z
        rw [Nat.gcd_zero_right] at hg
        exact ex i l x hg
      · refine st i l r x (by omega) hl (by omega) z (fun y => ?_)
        have hg2 : Nat.gcd a b = Nat.gcd r (l % r) := by rw [hg, Nat.gcd_comm l r, Nat.gcd_rec r l, Nat.gcd_comm]
        have hm := Nat.mod_lt l (show 0 < r by omega)
        by_cases w : l % r = 0
        · rw [w] at hg2 ⊢
          rw [Nat.gcd_zero_right] at hg2
          exact ex (i + 1) r y hg2
        · refine st (i + 1) r (l % r) y (by omega) (by omega) (by omega) w (fun y2 => ?_)
          have hg3 : Nat.gcd a b = Nat.gcd (l % r) (r % (l % r)) := by rw [hg2, Nat.gcd_comm r (l % r), Nat.gcd_rec (l % r) r, Nat.gcd_comm]
          have hm2 := Nat.mod_lt r (show 0 < l % r by omega)
          have hd := Nat.div_add_mod r (l % r)
          have hq : 1 ≤ r / (l % r) := Nat.div_pos (by omega) (by omega)
          have hmul : (l % r) * 1 ≤ (l % r) * (r / (l % r)) := Nat.mul_le_mul_left _ hq
          have hh : r % (l % r) < 2 ^ k := by
            rw [Nat.pow_succ] at hr
            omega
          exact ih (i + 2) (l % r) (r % (l % r)) y2 hh (by omega) (by omega) (by omega) hg3
  refine sound ok_X_commonDivisor [7] 20 ?_
  exact loop 15 0 a b none (by omega) (by omega) (by omega) ha rfl
theorem t_fraction (S : St) (a b : Int) (part : Int) (Q : Option AV → St → Prop) (ha : 0 ≤ a ∧ a ≤ 16807) (hb : 1 ≤ b ∧ b ≤ 16807) (hQ : Q (some (.inl (if part = 0 then a / Nat.gcd b.toNat a.toNat else b / Nat.gcd b.toNat a.toNat))) S) : Smm H_X_partOfFraction 0 [some (.inl a), some (.inl b), some (.inl part), none] [] S Q := by
  obtain ⟨n, rfl⟩ : ∃ n : Nat, a = n := ⟨a.toNat, by omega⟩
  obtain ⟨m, rfl⟩ : ∃ m : Nat, b = m := ⟨b.toNat, by omega⟩
  rw [show ((n : Int)).toNat = n from rfl, show ((m : Int)).toNat = m from rfl] at hQ
  have hg : 0 < Nat.gcd m n := Nat.gcd_pos_of_pos_left n (by omega)
  have hg2 : Nat.gcd m n ≤ m := Nat.gcd_le_left n (by omega)
  refine sound ok_X_partOfFraction [] 40 ?_
  refine t_gcd S m n _ (by omega) (by omega) ?_
  refine ⟨fun _ => ?_, fun z => absurd z (by omega)⟩
  refine ⟨fun z => ?_, fun z => ?_⟩
  · rw [if_neg z] at hQ
    refine ⟨by omega, ?_⟩
    rw [← idiv_pos (a := (m : Int)) (b := ((Nat.gcd m n : Nat) : Int)) (by omega) (by omega) (by omega) (by omega)] at hQ
    exact hQ
  · rw [if_pos z] at hQ
    refine ⟨by omega, ?_⟩
    rw [← idiv_pos (a := (n : Int)) (b := ((Nat.gcd m n : Nat) : Int)) (by omega) (by omega) (by omega) (by omega)] at hQ
    exact hQ
