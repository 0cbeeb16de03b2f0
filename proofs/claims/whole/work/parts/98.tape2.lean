/-! bytes come onto the class's tape -/
theorem byt_v {x : BitVec 32} {k : Nat} (hk : k ≤ 24) : (x >>> k) &&& 255#32 = (x.sshiftRight k) &&& 255#32 := by
  apply BitVec.eq_of_getLsbD_eq
  intro i hi
  rw [BitVec.getLsbD_and, BitVec.getLsbD_and]
  by_cases h8 : i < 8
  · rw [BitVec.getLsbD_ushiftRight, BitVec.getLsbD_sshiftRight]
    have h1 : ¬ 32 ≤ i := by omega
    have h2 : k + i < 32 := by omega
    simp [h1, h2]
  · have : (255#32).getLsbD i = false := by
      have : i = 8 ∨ i = 9 ∨ i = 10 ∨ i = 11 ∨ i = 12 ∨ i = 13 ∨ i = 14 ∨ i = 15 ∨ i = 16 ∨ i = 17 ∨ i = 18 ∨ i = 19 ∨ i = 20 ∨ i = 21 ∨ i = 22 ∨ i = 23 ∨ i = 24 ∨ i = 25 ∨ i = 26 ∨ i = 27 ∨ i = 28 ∨ i = 29 ∨ i = 30 ∨ i = 31 := by omega
      rcases this with h | h | h | h | h | h | h | h | h | h | h | h | h | h | h | h | h | h | h | h | h | h | h | h <;> (rw [h]; rfl)
    rw [this, Bool.and_false, Bool.and_false]
theorem byt_u (w : Int) {k : Int} (hk : k = 0 ∨ k = 8 ∨ k = 16 ∨ k = 24) : iand (iushr w k) 255 = byt w k := by
  unfold byt iand iushr ishr
  rw [Int32.ofInt_toInt, Int32.ofInt_toInt]
  refine congrArg Int32.toInt (Int32.toBitVec_inj.mp ?_)
  rw [Int32.toBitVec_and, Int32.toBitVec_and]
  generalize Int32.ofInt w = a
  rcases hk with rfl | rfl | rfl | rfl
  · exact byt_v (x := a.toBitVec) (k := 0) (by decide)
  · exact byt_v (x := a.toBitVec) (k := 8) (by decide)
  · exact byt_v (x := a.toBitVec) (k := 16) (by decide)
  · exact byt_v (x := a.toBitVec) (k := 24) (by decide)
theorem sh8 {s : Int} (hs : s = 0 ∨ s = 8 ∨ s = 16 ∨ s = 24) : ¬ 32 ≤ s ∧ s + 8 = i32 (s + 8) ∧ ¬ s < 0 ∧ s - 8 = i32 (s + -8) := by
  rcases hs with rfl | rfl | rfl | rfl <;> decide
set_option maxHeartbeats 1000000 in
theorem t_filled (S : St) (w : Int) (Q : Option AV → St → Prop) (hQ : Q (some (.inl (lvN w))) S) : Smm H_Tape_filled 0 [some (.inl w), none, none] [] S Q := by
  have step : ∀ (f s s' : Int), s + 8 = s' → (0 ≤ f ∧ f ≤ 3) → (s = 0 ∨ s = 8 ∨ s = 16 ∨ s = 24) → Smm H_Tape_filled 4 [some (.inl w), some (.inl (f + zb (byt w s))), some (.inl s')] [] S Q → Smm H_Tape_filled 4 [some (.inl w), some (.inl f), some (.inl s)] [] S Q := by
    intro f s s' hs' hf hs nx
    subst hs'
    obtain ⟨c1, c2, _⟩ := sh8 hs
    have eb := byt_u w hs
    have e1 : f + 1 = i32 (f + 1) := (i32_id (by clear c2; omega) (by clear c2; omega)).symm
    refine sound ok_Tape_filled [4] 30 ?_
    refine ⟨fun z => absurd z c1, fun _ => ?_⟩
    refine ⟨fun z => ?_, fun z => ?_⟩
    · rw [eb] at z
      have : f + zb (byt w s) = f := by unfold zb; rw [if_pos z, Int.add_zero]
      rw [this] at nx
      exact Smm.sub nx ⟨Or.inr rfl, Or.inr rfl, Or.inr (sI c2), trivial⟩
    · rw [eb] at z
      have : f + zb (byt w s) = f + 1 := by unfold zb; rw [if_neg z]
      rw [this] at nx
      exact Smm.sub nx ⟨Or.inr rfl, Or.inr (sI e1), Or.inr (sI c2), trivial⟩
  have b0 := zb_b (byt w 0)
  have b1 := zb_b (byt w 8)
  have b2 := zb_b (byt w 16)
  have e : lvN w = 0 + zb (byt w 0) + zb (byt w 8) + zb (byt w 16) + zb (byt w 24) := by unfold lvN; omega
  rw [e] at hQ
  refine sound ok_Tape_filled [4] 20 ?_
  refine step 0 0 8 rfl (by omega) (Or.inl rfl) ?_
  refine step _ 8 16 rfl (by omega) (Or.inr (Or.inl rfl)) ?_
  refine step _ 16 24 rfl (by omega) (Or.inr (Or.inr (Or.inl rfl))) ?_
  refine step _ 24 32 rfl (by omega) (Or.inr (Or.inr (Or.inr rfl))) ?_
  refine sound ok_Tape_filled [4] 20 ?_
  exact ⟨fun _ => hQ, fun z => absurd z (by decide)⟩
def cxB (S : St) (b : Int) : St := if b = 0 then S else up (up S 44 (S 43 1) b) 43 1 (S 43 1 + 1)
theorem cxB_n (S : St) (b : Int) : cxB S b 43 1 = S 43 1 + zb b := by
  unfold cxB zb
  by_cases z : b = 0
  · rw [if_pos z, if_pos z, Int.add_zero]
  · rw [if_neg z, if_neg z, up_s]
def cxS (S : St) (w : Int) : St := cxB (cxB (cxB (cxB S (byt w 24)) (byt w 16)) (byt w 8)) (byt w 0)
theorem cxS_n (S : St) (w : Int) : cxS S w 43 1 = S 43 1 + lvN w := by
  unfold cxS lvN
  rw [cxB_n, cxB_n, cxB_n, cxB_n]
  omega
set_option maxHeartbeats 1000000 in
theorem t_xAdd (S : St) (w : Int) (Q : Option AV → St → Prop) (h0 : 0 ≤ S 43 1) (h1 : S 43 1 + lvN w ≤ 160) (hQ : Q none (cxS S w)) : Smm H_Tape_add 0 [some (.inr (.inr 43)), some (.inl w), none, none] [] S Q := by
  have step : ∀ (S : St) (s s' : Int) (x : Option AV), s - 8 = s' → (0 ≤ S 43 1 ∧ S 43 1 + zb (byt w s) ≤ 160) → (s = 0 ∨ s = 8 ∨ s = 16 ∨ s = 24) → (∀ y, Smm H_Tape_add 3 [some (.inr (.inr 43)), some (.inl w), some (.inl s'), y] [] (cxB S (byt w s)) Q) → Smm H_Tape_add 3 [some (.inr (.inr 43)), some (.inl w), some (.inl s), x] [] S Q := by
    intro S s s' x hs' hS hs nx
    subst hs'
    obtain ⟨_, _, c1, c2⟩ := sh8 hs
    have eb := byt_u w hs
    have nx := nx (some (.inl (iand (iushr w s) 255)))
    refine sound ok_Tape_add [3] 40 ?_
    refine ⟨fun z => absurd z c1, fun _ => ?_⟩
    refine ⟨fun z => ?_, fun z => ?_⟩
    · rw [eb] at z
      unfold cxB at nx
      rw [if_pos z] at nx
      exact Smm.sub nx ⟨Or.inr rfl, Or.inr rfl, Or.inr (sI c2), Or.inr rfl, trivial⟩
    · rw [eb] at z
      have hz : zb (byt w s) = 1 := by unfold zb; rw [if_neg z]
      rw [hz] at hS
      have hng : ¬ 160 ≤ S 43 1 := by clear c2; omega
      have hix : 0 ≤ S 43 1 ∧ S 43 1 < 160 := by clear c2; omega
      have e1 : i32 (S 43 1 + 1) = S 43 1 + 1 := i32_id (by clear c2; omega) (by clear c2; omega)
      unfold cxB at nx
      rw [if_neg z, ← eb, ← e1] at nx
      refine ⟨fun y => absurd y hng, fun _ => ?_⟩
      refine ⟨hix, ?_⟩
      exact Smm.sub nx ⟨Or.inr rfl, Or.inr rfl, Or.inr (sI c2), Or.inr rfl, trivial⟩
  have b0 := zb_b (byt w 0)
  have b1 := zb_b (byt w 8)
  have b2 := zb_b (byt w 16)
  have b3 := zb_b (byt w 24)
  unfold lvN at h1
  have n1 := cxB_n S (byt w 24)
  have n2 := cxB_n (cxB S (byt w 24)) (byt w 16)
  have n3 := cxB_n (cxB (cxB S (byt w 24)) (byt w 16)) (byt w 8)
  refine sound ok_Tape_add [3] 20 ?_
  refine step S 24 16 none rfl (by omega) (Or.inr (Or.inr (Or.inr rfl))) (fun y1 => ?_)
  refine step _ 16 8 y1 rfl (by rw [n1]; omega) (Or.inr (Or.inr (Or.inl rfl))) (fun y2 => ?_)
  refine step _ 8 0 y2 rfl (by rw [n2, n1]; omega) (Or.inr (Or.inl rfl)) (fun y3 => ?_)
  refine step _ 0 (-8) y3 rfl (by rw [n3, n2, n1]; omega) (Or.inl rfl) (fun y4 => ?_)
  refine sound ok_Tape_add [3] 20 ?_
  exact ⟨fun _ => hQ, fun z => absurd z (by decide)⟩
