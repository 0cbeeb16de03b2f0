/-! scratches, offs as bits, bits counted -/
def scR (T S : St) : Prop := S 79 1 = T 0 49 ∧ ∀ i, 0 ≤ i → i < T 0 49 → S 81 i = T 30 (3 * i) ∧ S 82 i = T 30 (3 * i + 1) ∧ S 83 i = T 30 (3 * i + 2)
theorem ior_z {b : Nat} (hb : b < 32) : ior (b : Int) 0 = (b : Int) := by
  have := (ior32 hb (show 0 < 32 by decide)).1
  rw [Nat.or_zero] at this
  exact this
set_option maxHeartbeats 2000000 in
theorem t_scratched (T S : St) (Q : Option AV → St → Prop) (hn5 : T 0 20 ≤ 5) (hS : scOk T) (hR : scR T S) (hQ : ∀ x : Nat, x < 32 → (∀ i, 0 ≤ i → i < T 0 49 → ∀ s : Nat, T 30 (3 * i + 1) = s → x.testBit s = true) → Q (some (.inl (x : Int))) S) : Smm H_Book_scratchedSigns 0 [some (.inr (.inr 79)), none, none] [] S Q := by
  obtain ⟨hs1, hs2⟩ := hS
  obtain ⟨r1, r2⟩ := hR
  have loop : ∀ (i : Int) (x : Nat), ((0 ≤ i ∧ i ≤ T 0 49) ∧ x < 32 ∧ ∀ j, 0 ≤ j → j < i → ∀ s : Nat, T 30 (3 * j + 1) = s → x.testBit s = true) → Smm H_Book_scratchedSigns 4 [some (.inr (.inr 79)), some (.inl (x : Int)), some (.inl i)] [] S Q := by
    refine lp_up (P := fun i (x : Nat) => Smm H_Book_scratchedSigns 4 [some (.inr (.inr 79)), some (.inl (x : Int)), some (.inl i)] [] S Q) _ (T 0 49) ?_ ?_
    · rintro i x hi ⟨hi2, hx, d⟩
      refine sound ok_Book_scratchedSigns [4] 20 ?_
      exact ⟨fun _ => hQ x hx (fun j j0 j1 => d j j0 (by omega)), fun z => absurd z (by rw [r1]; omega)⟩
    · rintro i x hi ⟨hi2, hx, d⟩ ih
      have hng : ¬ S 79 1 ≤ i := by rw [r1]; omega
      have hix : 0 ≤ i ∧ i < 10 := by omega
      have hi3 : 0 ≤ i + 1 ∧ i + 1 ≤ T 0 49 := by omega
      obtain ⟨a1, a2, a3⟩ := r2 i hi2.1 hi
      obtain ⟨b1, b2, b3⟩ := hs2 i hi2.1 hi
      have e : i + 1 = i32 (i + 1) := (i32_id (by omega) (by omega)).symm
      refine sound ok_Book_scratchedSigns [4] 40 ?_
      refine ⟨fun z => absurd z hng, fun _ => ?_⟩
      refine ⟨hix, ?_⟩
      refine ⟨fun z => ?_, fun z => ?_⟩
      · rw [a2] at z
        obtain ⟨s, hs⟩ : ∃ s : Nat, T 30 (3 * i + 1) = s := ⟨(T 30 (3 * i + 1)).toNat, by clear e; omega⟩
        have hs5 : s < 5 := by clear e; omega
        have hsh : ishl 1 (S 82 i) = ((2 ^ s : Nat) : Int) := by rw [a2, hs]; exact ishl_nat (by clear e; omega)
        obtain ⟨o1, o2⟩ := ior32 hx (pw32 hs5)
        refine ⟨hix, ?_⟩
        refine Smm.sub (ih (x ||| 2 ^ s) ⟨hi3, o2, fun j j0 j1 s' hs' => ?_⟩) ⟨Or.inr rfl, Or.inr (sI (by rw [hsh, o1])), Or.inr (sI e), trivial⟩
        rw [Nat.testBit_or]
        by_cases y : j = i
        · have : s' = s := by rw [y, hs] at hs'; clear e; omega
          rw [this, Nat.testBit_two_pow_self, Bool.or_true]
        · rw [d j j0 (by clear e; omega) s' hs', Bool.true_or]
      · rw [a2] at z
        refine Smm.sub (ih x ⟨hi3, hx, fun j j0 j1 s' hs' => ?_⟩) ⟨Or.inr rfl, Or.inr (sI (ior_z hx).symm), Or.inr (sI e), trivial⟩
        by_cases y : j = i
        · exfalso; rw [y] at hs'; clear e; omega
        · exact d j j0 (by clear e; omega) s' hs'
  refine sound ok_Book_scratchedSigns [4] 20 ?_
  exact loop 0 0 ⟨by omega, by decide, fun j j0 j1 => absurd j1 (by omega)⟩
set_option maxHeartbeats 2000000 in
theorem t_unlike (T S : St) (f : Int → Int) (Q : Option AV → St → Prop) (hT : mAs T) (hf : ofOk (T 0 20) f) (hW : wkI_l T S f) (hS : scOk T) (hR : scR T S) (hQ : Q (some (.inl (mfM T f))) S) : Smm H_Book_unlike 0 [some (.inr (.inr 79)), some (.inr (.inr 95)), none, none, none, none] [] S Q := by
  have hk4 := hT.1.2.1
  obtain ⟨hs1, hs2⟩ := hS
  obtain ⟨r1, r2⟩ := hR
  unfold mfM at hQ
  obtain ⟨n, hn⟩ : ∃ n : Nat, T 0 49 = n := ⟨(T 0 49).toNat, by omega⟩
  rw [hn, show ((n : Int)).toNat = n from rfl] at hQ
  generalize hp : (fun k : Nat => decide (¬ svM T f k = T 30 (3 * k + 2))) = p at hQ
  have loop : ∀ (d i : Nat) (x4 x5 : Option AV), i + d = n → Smm H_Book_unlike 4 [some (.inr (.inr 79)), some (.inr (.inr 95)), some (.inl (bitF p i)), some (.inl (i : Int)), x4, x5] [] S Q := by
    intro d
    induction d with
    | zero =>
      intro i x4 x5 hi
      have : i = n := by omega
      subst this
      refine sound ok_Book_unlike [4] 20 ?_
      exact ⟨fun _ => hQ, fun z => absurd z (by rw [r1, hn]; exact Int.lt_irrefl _)⟩
    | succ d ih =>
      intro i x4 x5 hi
      have hng : ¬ S 79 1 ≤ (i : Int) := by rw [r1, hn]; omega
      have hix : (0 : Int) ≤ i ∧ (i : Int) < 10 := by omega
      obtain ⟨a1, a2, a3⟩ := r2 i (by omega) (by omega)
      obtain ⟨b1, b2, b3⟩ := hs2 i (by omega) (by omega)
      have hg4 : 0 ≤ S 81 i ∧ S 81 i < 4 := by rw [a1]; omega
      have hpi : p i = decide (¬ svM T f i = T 30 (3 * i + 2)) := by rw [← hp]
      have e : ((i + 1 : Nat) : Int) = i32 ((i : Int) + 1) := i32_s (by omega)
      have at51 : ∀ v : Int, (v = T 30 (3 * i + 2) ↔ svM T f i = T 30 (3 * i + 2)) → Smm H_Book_unlike 51 [some (.inr (.inr 79)), some (.inr (.inr 95)), some (.inl (bitF p i)), some (.inl (i : Int)), some (.inl (S 81 i)), x5] [.inl v] S Q := by
        intro v hv
        have ih := ih (i + 1) (some (.inl (S 81 i))) (some (.inl v)) (by clear e; omega)
        rw [bitF] at ih
        refine sound ok_Book_unlike [4] 40 ?_
        refine ⟨hix, ?_⟩
        refine ⟨fun z => ?_, fun z => ?_⟩
        · rw [a3] at z
          rw [if_neg (by rw [hpi]; simp [hv.mp z])] at ih
          exact Smm.sub ih ⟨Or.inr rfl, Or.inr rfl, Or.inr rfl, Or.inr (sI e), Or.inr rfl, Or.inr rfl, trivial⟩
        · rw [a3] at z
          rw [if_pos (by rw [hpi]; exact decide_eq_true (fun q => z (hv.mpr q)))] at ih
          exact Smm.sub ih ⟨Or.inr rfl, Or.inr rfl, Or.inr rfl, Or.inr (sI e), Or.inr rfl, Or.inr rfl, trivial⟩
      refine sound ok_Book_unlike [51] 40 ?_
      refine ⟨fun z => absurd z hng, fun _ => ?_⟩
      refine ⟨hix, ?_⟩
      refine ⟨hix, ?_⟩
      refine ⟨fun z => ?_, fun z => ?_⟩
      · rw [a2] at z
        have bs : 0 ≤ T 30 (3 * i + 1) ∧ T 30 (3 * i + 1) < T 0 20 := by clear e; omega
        have hg : 0 ≤ T 30 (3 * i) ∧ T 30 (3 * i) < 4 := by clear e; omega
        have hb := be_h hT.1 hf hg bs
        have go := fun Q' hq' => t_hearing T S f (T 30 (3 * i)) (T 30 (3 * i + 1)) Q' hT.1 hf hW hg bs hq'
        have a51 := at51 (smM T f (T 30 (3 * i + 1)) + dl (T 19 (5 * T 30 (3 * i) + T 30 (3 * i + 1)))) (by
          unfold svM
          clear e
          rw [if_neg (show ¬ T 30 (3 * (i : Int) + 1) = -1 by omega)]
          omega)
        rw [← a1, ← a2] at go a51
        refine ⟨hix, ?_⟩
        refine go _ ?_
        exact a51
      · rw [a2] at z
        refine ⟨hg4, ?_⟩
        refine at51 _ ?_
        have et := hW.2.2.2.2 (T 30 (3 * i)) b1.1 b1.2
        rw [a1, et]
        unfold svM
        clear e
        rw [if_pos (show T 30 (3 * (i : Int) + 1) = -1 by omega)]
  refine sound ok_Book_unlike [4] 20 ?_
  exact loop n 0 none none (by omega)
theorem ob32 {a b : Int} (ha : -3 ≤ a ∧ a ≤ 3) (hb : -3 ≤ b ∧ b ≤ 3) : i32 (i32 (a + b) + 3) = a + b + 3 := by
  rw [i32_id (v := a + b) (by omega) (by omega)]
  exact i32_id (by omega) (by omega)
theorem pw128 {k : Nat} (h : k < 7) : 2 ^ k < 128 := by
  have : 2 ^ k ≤ 2 ^ 6 := Nat.pow_le_pow_right (by omega) (by omega)
  omega
theorem ior128 {a b : Nat} (ha : a < 128) (hb : b < 128) : ior (a : Int) (b : Int) = ((a ||| b : Nat) : Int) ∧ a ||| b < 128 := ⟨ior_nat (by omega) (by omega), Nat.or_lt_two_pow (n := 7) ha hb⟩
set_option maxHeartbeats 2000000 in
theorem t_offBits (T S : St) (f : Int → Int) (s r : Int) (Q : Option AV → St → Prop) (hT : mAs T) (hW : wkI_l T S f) (hs : 0 ≤ s ∧ s < T 0 20) (hr : S 98 s = r) (hf : (0 < r ∧ -3 ≤ f s ∧ f s ≤ 3) ∨ (r ≤ 0 ∧ f s = 0)) (hQ : ∀ x : Nat, x < 128 → (∀ j : Nat, x.testBit j = decide (f s - (if 0 < r then 0 else T 18 s) ≤ (j : Int) - 3 ∧ (j : Int) - 3 ≤ f s + (if 0 < r then 0 else T 18 s))) → Q (some (.inl (x : Int))) S) : Smm H_Walk_offBits 0 [some (.inr (.inr 95)), some (.inl s), none, none, none] [] S Q := by
  have hn5 := hT.1.1.1
  have hs5 : 0 ≤ s ∧ s < 5 := by omega
  have w1 : S 95 1 = 0 := hW.1.1
  have ee := (hW.1.2.1.2.1 s hs.1 hs.2).2.1
  have eb := hT.2.2 s hs.1 hs.2
  have eo := hW.2.1 s hs.1 hs.2
  have main : ∀ e : Int, (0 ≤ e ∧ e ≤ 3) → (e = if 0 < r then 0 else T 18 s) → Smm H_Walk_offBits 24 [some (.inr (.inr 95)), some (.inl s), some (.inl ((0 : Nat) : Int)), none, none] [.inl e] S Q := by
    intro e he hee
    rw [← hee] at hQ
    have hfe : -3 ≤ f s - e ∧ f s + e ≤ 3 := by
      rcases hf with h | h
      · rw [if_pos h.1] at hee; omega
      · omega
    have loop : ∀ (i : Int) (x : Nat), ((-e ≤ i ∧ i ≤ e + 1) ∧ x < 128 ∧ ∀ j : Nat, x.testBit j = decide (f s - e ≤ (j : Int) - 3 ∧ (j : Int) - 3 < f s + i)) → Smm H_Walk_offBits 29 [some (.inr (.inr 95)), some (.inl s), some (.inl (x : Int)), some (.inl e), some (.inl i)] [] S Q := by
      refine lp_up (P := fun i (x : Nat) => Smm H_Walk_offBits 29 [some (.inr (.inr 95)), some (.inl s), some (.inl (x : Int)), some (.inl e), some (.inl i)] [] S Q) _ (e + 1) ?_ ?_
      · rintro i x hi ⟨hi2, hx, d⟩
        refine sound ok_Walk_offBits [29] 20 ?_
        refine ⟨fun _ => hQ x hx (fun j => ?_), fun z => absurd z (by omega)⟩
        rw [d j]
        have : (f s - e ≤ (j : Int) - 3 ∧ (j : Int) - 3 < f s + i) ↔ (f s - e ≤ (j : Int) - 3 ∧ (j : Int) - 3 ≤ f s + e) := by omega
        simp only [this]
      · rintro i x hi ⟨hi2, hx, d⟩ ih
        have hc : ¬ e < i := by omega
        have hi3 : -e ≤ i + 1 ∧ i + 1 ≤ e + 1 := by omega
        have bi : -3 ≤ i ∧ i ≤ 3 := by omega
        have bf : -3 ≤ f s ∧ f s ≤ 3 := by omega
        obtain ⟨k, hk⟩ : ∃ k : Nat, f s + i + 3 = k := ⟨(f s + i + 3).toNat, by omega⟩
        have hk7 : k < 7 := by omega
        obtain ⟨o1, o2⟩ := ior128 hx (pw128 hk7)
        have nd : ∀ j : Nat, (x ||| 2 ^ k).testBit j = decide (f s - e ≤ (j : Int) - 3 ∧ (j : Int) - 3 < f s + (i + 1)) := fun j => by
          rw [Nat.testBit_or, d j, Nat.testBit_two_pow]
          by_cases z : k = j
          · rw [decide_eq_true z, Bool.or_true]
            exact (decide_eq_true (by omega)).symm
          · rw [decide_eq_false z, Bool.or_false]
            have : (f s - e ≤ (j : Int) - 3 ∧ (j : Int) - 3 < f s + i) ↔ (f s - e ≤ (j : Int) - 3 ∧ (j : Int) - 3 < f s + (i + 1)) := by omega
            simp only [this]
        have e1 := ob32 bf bi
        have e2 : ishl 1 (i32 (i32 (S 99 s + i) + 3)) = ((2 ^ k : Nat) : Int) := by rw [eo, e1, hk]; exact ishl_nat (by clear e1; omega)
        have e3 : i + 1 = i32 (i + 1) := (i32_id (by clear e1 e2; omega) (by clear e1 e2; omega)).symm
        refine sound ok_Walk_offBits [29] 40 ?_
        refine ⟨fun z => absurd z hc, fun _ => ?_⟩
        refine ⟨hs5, ?_⟩
        exact Smm.sub (ih (x ||| 2 ^ k) ⟨hi3, o2, nd⟩) ⟨Or.inr rfl, Or.inr rfl, Or.inr (sI (by rw [e2, o1])), Or.inr rfl, Or.inr (sI e3), trivial⟩
    have e0 : i32 (-e) = -e := i32_id (by omega) (by omega)
    have go := loop (-e) 0 ⟨by clear e0; omega, by decide, fun j => by
      rw [Nat.zero_testBit]
      exact (decide_eq_false (by clear e0; omega)).symm⟩
    rw [← e0] at go
    refine sound ok_Walk_offBits [29] 20 ?_
    exact go
  refine sound ok_Walk_offBits [24] 40 ?_
  refine ⟨hs5, ?_⟩
  refine ⟨fun z => ?_, fun z => ?_⟩
  · rw [hr] at z
    refine ⟨fun _ => ?_, fun z => absurd (w1.symm.trans z) (by decide)⟩
    refine ⟨hs5, ?_⟩
    rw [← ee] at main
    exact main _ (by rw [ee]; exact eb) (by rw [if_neg (by omega)])
  · rw [hr] at z
    exact main 0 (by omega) (by rw [if_pos z])
/-- bits counted the fast way -/
def bcI (x : Int) : Int :=
  let a := i32 (x - iand (iushr x 1) 1431655765)
  let b := i32 (iand a 858993459 + iand (iushr a 2) 858993459)
  let c := iand (i32 (b + iushr b 4)) 252645135
  let d := i32 (c + iushr c 8)
  let e := i32 (d + iushr d 16)
  iand e 63
