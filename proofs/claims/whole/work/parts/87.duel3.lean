/-! the duel: one way added -/
theorem dw_0 {fr to' st base j w c X : Int} : X + (if st ≤ j ∧ j ≤ st + 9 then w * c else 0) + (if st + max (fr - base) 0 ≤ j ∧ j ≤ st + min (to' - base) 9 then w else 0) = X + (if st ≤ j ∧ j ≤ st + 9 then w * (c + inB (decide (fr ≤ base + (j - st) ∧ base + (j - st) ≤ to'))) else 0) := by
  by_cases z : st ≤ j ∧ j ≤ st + 9
  · rw [if_pos z, if_pos z]
    by_cases y : fr ≤ base + (j - st) ∧ base + (j - st) ≤ to'
    · rw [inB_t y, if_pos (by omega), Int.mul_add, Int.mul_one]
      omega
    · rw [inB_f y, if_neg (by omega), Int.add_zero, Int.add_zero]
  · rw [if_neg z, if_neg z, if_neg (by omega), Int.add_zero]
theorem dw_o {fr to' st base j w c X A : Int} : X + (if st ≤ j ∧ j ≤ st + 9 then (if base + (j - st) ≤ A then w - w * c else 0) else 0) + (if st + max (fr - base) 0 ≤ j ∧ j ≤ st + min (min (to' - base) (A - base)) 9 then -w else 0) = X + (if st ≤ j ∧ j ≤ st + 9 then (if base + (j - st) ≤ A then w - w * (c + inB (decide (fr ≤ base + (j - st) ∧ base + (j - st) ≤ to'))) else 0) else 0) := by
  by_cases z : st ≤ j ∧ j ≤ st + 9
  · rw [if_pos z, if_pos z]
    by_cases x : base + (j - st) ≤ A
    · rw [if_pos x, if_pos x]
      by_cases y : fr ≤ base + (j - st) ∧ base + (j - st) ≤ to'
      · rw [inB_t y, if_pos (by omega), Int.mul_add, Int.mul_one]
        omega
      · rw [inB_f y, if_neg (by omega), Int.add_zero, Int.add_zero]
    · rw [if_neg x, if_neg x, if_neg (by omega), Int.add_zero]
  · rw [if_neg z, if_neg z, if_neg (by omega), Int.add_zero]
theorem dw_1 {fr to' st base j w c X A : Int} : X + (if st ≤ j ∧ j ≤ st + 9 then (if A < base + (j - st) then w - w * c else 0) else 0) + (if st + max (max (fr - base) (A + 1 - base)) 0 ≤ j ∧ j ≤ st + min (to' - base) 9 then -w else 0) = X + (if st ≤ j ∧ j ≤ st + 9 then (if A < base + (j - st) then w - w * (c + inB (decide (fr ≤ base + (j - st) ∧ base + (j - st) ≤ to'))) else 0) else 0) := by
  by_cases z : st ≤ j ∧ j ≤ st + 9
  · rw [if_pos z, if_pos z]
    by_cases x : A < base + (j - st)
    · rw [if_pos x, if_pos x]
      by_cases y : fr ≤ base + (j - st) ∧ base + (j - st) ≤ to'
      · rw [inB_t y, if_pos (by omega), Int.mul_add, Int.mul_one]
        omega
      · rw [inB_f y, if_neg (by omega), Int.add_zero, Int.add_zero]
    · rw [if_neg x, if_neg x, if_neg (by omega), Int.add_zero]
  · rw [if_neg z, if_neg z, if_neg (by omega), Int.add_zero]
theorem aw32 {A b : Int} (ha : -5000 ≤ A ∧ A ≤ 1000000) (hb : -5000 ≤ b ∧ b ≤ 3000000) : i32 (A - b) = A - b ∧ i32 (i32 (A + 1) - b) = A + 1 - b := by
  rw [i32_id (v := A + 1) (by omega) (by omega)]
  exact ⟨i32_id (by omega) (by omega), i32_id (by omega) (by omega)⟩
theorem nw32 {w : Int} (h : 0 ≤ w ∧ w ≤ 16807) : i32 (-w) = -w := i32_id (by omega) (by omega)
/-- what a way adds -/
def dwO (sp : List (Int × Int)) (st base w j : Int) : Int := if st ≤ j ∧ j ≤ st + 9 then w * cvL sp (base + (j - st)) else 0
def dwX (sp : List (Int × Int)) (st base w A j : Int) : Int := if st ≤ j ∧ j ≤ st + 9 then (if base + (j - st) ≤ A then w - w * cvL sp (base + (j - st)) else 0) else 0
def dwY (sp : List (Int × Int)) (st base w A j : Int) : Int := if st ≤ j ∧ j ≤ st + 9 then (if A < base + (j - st) then w - w * cvL sp (base + (j - st)) else 0) else 0
theorem dw_b {sp : List (Int × Int)} {st base w A : Int} (hw : 0 ≤ w ∧ w ≤ 16807) (hl : sp.length ≤ 4) (j : Int) : (-100000 ≤ dwO sp st base w j ∧ dwO sp st base w j ≤ 100000) ∧ (-100000 ≤ dwX sp st base w A j ∧ dwX sp st base w A j ≤ 100000) ∧ (-100000 ≤ dwY sp st base w A j ∧ dwY sp st base w A j ≤ 100000) := by
  have h := cv_mul (base + (j - st)) hw hl
  unfold dwO dwX dwY
  refine ⟨?_, ?_, ?_⟩
  · split <;> omega
  · split
    · split <;> omega
    · omega
  · split
    · split <;> omega
    · omega
set_option maxHeartbeats 4000000 in
theorem t_dWay (S : St) (sp : List (Int × Int)) (st base A w b : Int) (Q : Option AV → St → Prop) (hS : spI 127 129 130 S sp) (hl : sp.length ≤ 4) (hp : ∀ j : Nat, j < sp.length → (-2000000 ≤ (sp.getD j (0, 0)).1 ∧ (sp.getD j (0, 0)).1 ≤ 4000000) ∧ (-2000000 ≤ (sp.getD j (0, 0)).2 ∧ (sp.getD j (0, 0)).2 ≤ 4000000)) (hst : 0 ≤ st ∧ st + 10 ≤ 2500) (hba : -5000 ≤ base ∧ base ≤ 3000000) (hA : -5000 ≤ A ∧ A ≤ 1000000) (hw : 0 ≤ w ∧ w ≤ 16807) (hb : (b = 1 ∧ S 117 11 = S 117 1) ∨ (b = 0 ∧ ¬ S 117 11 = S 117 1)) (hv : ∀ j, 0 ≤ j → j < 2500 → (0 ≤ S 118 j ∧ S 118 j ≤ 16807) ∧ (0 ≤ S 119 j ∧ S 119 j ≤ 16807) ∧ (0 ≤ S 120 j ∧ S 120 j ≤ 16807)) (hQ : ∀ S', Fr [118, 119, 120] [] S S' → (∀ j, S' 118 j = S 118 j + dwO sp st base w j ∧ S' 120 j = S 120 j + dwX sp st base w A j ∧ S' 119 j = S 119 j + if b = 1 then dwY sp st base w A j else 0) → Q none S') : Smm H_Duel_addWay 0 [some (.inr (.inr 117)), some (.inl st), some (.inl base), some (.inl A), some (.inl w), none, none, none, none] [] S Q := by
  have hw1 : -100000 ≤ w ∧ w ≤ 100000 := by omega
  have hw2 : -100000 ≤ i32 (-w) ∧ i32 (-w) ≤ 100000 := by rw [nw32 hw]; omega
  have loop : ∀ (d i : Nat) (S1 : St) (x7 x8 : Option AV), i + d = sp.length → Fr [118, 119, 120] [] S S1 → (∀ j, S1 118 j = S 118 j + dwO (sp.take i) st base w j ∧ S1 120 j = S 120 j + dwX (sp.take i) st base w A j ∧ S1 119 j = S 119 j + if b = 1 then dwY (sp.take i) st base w A j else 0) → Smm H_Duel_addWay 58 [some (.inr (.inr 117)), some (.inl st), some (.inl base), some (.inl A), some (.inl w), some (.inl b), some (.inl (i : Int)), x7, x8] [] S1 Q := by
    intro d
    induction d with
    | zero =>
      intro i S1 x7 x8 hi hF dd
      have hsz : S1 127 4 = (sp.length : Int) := by rw [hF.c 127 rfl]; exact hS.1
      rw [show i = sp.length by omega] at dd
      rw [List.take_length] at dd
      refine sound ok_Duel_addWay [58] 20 ?_
      exact ⟨fun _ => hQ S1 hF dd, fun z => absurd z (by rw [hsz]; omega)⟩
    | succ d ih =>
      intro i S1 x7 x8 hi hF dd
      have hlt : i < sp.length := by omega
      have hsz : S1 127 4 = (sp.length : Int) := by rw [hF.c 127 rfl]; exact hS.1
      have hng : ¬ S1 127 4 ≤ (i : Int) := by rw [hsz]; omega
      have hix : (0 : Int) ≤ i ∧ (i : Int) < 4 := by omega
      obtain ⟨fr, hfr⟩ : ∃ fr, (sp.getD i (0, 0)).1 = fr := ⟨_, rfl⟩
      obtain ⟨to', hto⟩ : ∃ to', (sp.getD i (0, 0)).2 = to' := ⟨_, rfl⟩
      have ef : S1 129 i = fr := by rw [hF.c 129 rfl, ← hfr]; exact (hS.2 i hlt).1
      have et : S1 130 i = to' := by rw [hF.c 130 rfl, ← hto]; exact (hS.2 i hlt).2
      have hpi := hp i hlt
      rw [hfr, hto] at hpi
      have hlt2 : (sp.take i).length ≤ 4 := by rw [List.length_take]; omega
      have tk : ∀ t, cvL (sp.take (i + 1)) t = cvL (sp.take i) t + inB (decide (fr ≤ t ∧ t ≤ to')) := fun t => by rw [take_s hlt, cvL_app, hfr, hto]
      have bv := fun j => dw_b (st := st) (base := base) (A := A) hw hlt2 j
      have e1 := so32 hpi.1 hba
      have e2 := so32 hpi.2 hba
      rw [← ef] at e1
      rw [← et] at e2
      obtain ⟨e3, e4⟩ := aw32 hA hba
      have en := nw32 hw
      have e : ((i + 1 : Nat) : Int) = i32 ((i : Int) + 1) := i32_s (by clear e1 e2 e3 e4 en; omega)
      have v0 : ∀ j, st ≤ j → j ≤ st + 9 → -1000000 ≤ S1 118 j ∧ S1 118 j ≤ 1000000 := fun j j0 j1 => by
        clear e1 e2 e3 e4 en e
        have h1 := hv j (by omega) (by omega)
        have h2 := bv j
        rw [(dd j).1]
        omega
      have v1 : ∀ j, st ≤ j → j ≤ st + 9 → -1000000 ≤ S1 120 j ∧ S1 120 j ≤ 1000000 := fun j j0 j1 => by
        clear e1 e2 e3 e4 en e
        have h1 := hv j (by omega) (by omega)
        have h2 := bv j
        rw [(dd j).2.1]
        omega
      have v2 : ∀ j, st ≤ j → j ≤ st + 9 → -1000000 ≤ S1 119 j ∧ S1 119 j ≤ 1000000 := fun j j0 j1 => by
        clear e1 e2 e3 e4 en e
        have h1 := hv j (by omega) (by omega)
        have h2 := bv j
        rw [(dd j).2.2]
        split <;> omega
      refine sound ok_Duel_addWay [58] 80 ?_
      refine ⟨fun z => absurd z hng, fun _ => ?_⟩
      refine ⟨hix, ?_⟩
      refine ⟨hix, ?_⟩
      refine t_dSpan_do S1 st _ _ w _ hst v0 hw1 (fun S2 hF2 d2 => ?_)
      refine t_dSpan_d2 S2 st _ _ _ _ hst (fun j j0 j1 => by rw [hF2.c 120 rfl]; exact v1 j j0 j1) hw2 (fun S3 hF3 d3 => ?_)
      rw [e1, e2, ef, et] at d2
      rw [e1, e2, e3, en, ef, et] at d3
      have a0 : ∀ j, S3 118 j = S 118 j + dwO (sp.take (i + 1)) st base w j := fun j => by
        rw [hF3.c 118 rfl, d2 j, (dd j).1]
        unfold dwO
        rw [tk]
        exact dw_0
      have a1 : ∀ j, S3 120 j = S 120 j + dwX (sp.take (i + 1)) st base w A j := fun j => by
        rw [d3 j, hF2.c 120 rfl, (dd j).2.1]
        unfold dwX
        rw [tk]
        exact dw_o
      have hFS : Fr [118, 119, 120] [] S S3 := (hF.tr (hF2.mo rfl rfl)).tr (hF3.mo rfl rfl)
      refine ⟨fun z => ?_, fun z => ?_⟩
      · have hb1 : ¬ b = 1 := by rw [z]; decide
        refine Smm.sub (ih (i + 1) S3 _ _ (by clear e1 e2 e3 e4 en e; omega) hFS (fun j => ⟨a0 j, a1 j, ?_⟩)) ⟨Or.inr rfl, Or.inr rfl, Or.inr rfl, Or.inr rfl, Or.inr rfl, Or.inr rfl, Or.inr (sI e), Or.inr rfl, Or.inr rfl, trivial⟩
        rw [hF3.c 119 rfl, hF2.c 119 rfl, (dd j).2.2, if_neg hb1, if_neg hb1]
      · have hb1 : b = 1 := by rcases hb with hb | hb
                               · exact hb.1
                               · exact absurd hb.1 z
        refine t_dSpan_d1 S3 st _ _ _ _ hst (fun j j0 j1 => by rw [hF3.c 119 rfl, hF2.c 119 rfl]; exact v2 j j0 j1) hw2 (fun S4 hF4 d4 => ?_)
        rw [e1, e2, e4, en, ef, et] at d4
        refine Smm.sub (ih (i + 1) S4 _ _ (by clear e1 e2 e3 e4 en e; omega) (hFS.tr (hF4.mo rfl rfl)) (fun j => ⟨?_, ?_, ?_⟩)) ⟨Or.inr rfl, Or.inr rfl, Or.inr rfl, Or.inr rfl, Or.inr rfl, Or.inr rfl, Or.inr (sI e), Or.inr rfl, Or.inr rfl, trivial⟩
        · rw [hF4.c 118 rfl]; exact a0 j
        · rw [hF4.c 120 rfl]; exact a1 j
        · rw [d4 j, hF3.c 119 rfl, hF2.c 119 rfl, (dd j).2.2, if_pos hb1, if_pos hb1]
          unfold dwY
          rw [tk]
          exact dw_1
  have at16 : Smm H_Duel_addWay 16 [some (.inr (.inr 117)), some (.inl st), some (.inl base), some (.inl A), some (.inl w), none, none, none, none] [.inl b] S Q := by
    obtain ⟨e3, e4⟩ := aw32 hA hba
    refine sound ok_Duel_addWay [58] 80 ?_
    refine t_dSpan_d2 S st _ _ w _ hst (fun j j0 j1 => by have := hv j (by clear e3 e4; omega) (by clear e3 e4; omega); clear e3 e4; omega) hw1 (fun S2 hF2 d2 => ?_)
    rw [e3] at d2
    have hFS : Fr [118, 119, 120] [] S S2 := hF2.mo rfl rfl
    have b0 : ∀ j, S2 118 j = S 118 j + dwO (sp.take 0) st base w j := fun j => by
      rw [hF2.c 118 rfl]
      unfold dwO
      rw [List.take_zero, cvL, Int.mul_zero]
      split <;> rw [Int.add_zero]
    have b1 : ∀ j, S2 120 j = S 120 j + dwX (sp.take 0) st base w A j := fun j => by
      rw [d2 j]
      unfold dwX
      rw [List.take_zero, cvL, Int.mul_zero, Int.sub_zero]
      clear e3 e4
      by_cases z : st ≤ j ∧ j ≤ st + 9
      · rw [if_pos z]
        by_cases y : base + (j - st) ≤ A
        · rw [if_pos y, if_pos (by omega)]
        · rw [if_neg y, if_neg (by omega)]
      · rw [if_neg z, if_neg (by omega)]
    refine ⟨fun z => ?_, fun z => ?_⟩
    · have hb1 : ¬ b = 1 := by rw [z]; decide
      exact loop sp.length 0 S2 none none (by clear e3 e4; omega) hFS (fun j => ⟨b0 j, b1 j, by rw [hF2.c 119 rfl, if_neg hb1, Int.add_zero]⟩)
    · have hb1 : b = 1 := by rcases hb with hb | hb
                             · exact hb.1
                             · exact absurd hb.1 z
      refine t_dSpan_d1 S2 st _ _ w _ hst (fun j j0 j1 => by rw [hF2.c 119 rfl]; have := hv j (by clear e3 e4; omega) (by clear e3 e4; omega); clear e3 e4; omega) hw1 (fun S3 hF3 d3 => ?_)
      rw [e4] at d3
      refine loop sp.length 0 S3 none none (by clear e3 e4; omega) (hFS.tr (hF3.mo rfl rfl)) (fun j => ⟨?_, ?_, ?_⟩)
      · rw [hF3.c 118 rfl]; exact b0 j
      · rw [hF3.c 120 rfl]; exact b1 j
      · rw [d3 j, hF2.c 119 rfl, if_pos hb1]
        unfold dwY
        rw [List.take_zero, cvL, Int.mul_zero, Int.sub_zero]
        clear e3 e4
        by_cases z : st ≤ j ∧ j ≤ st + 9
        · rw [if_pos z]
          by_cases y : A < base + (j - st)
          · rw [if_pos y, if_pos (by omega)]
          · rw [if_neg y, if_neg (by omega)]
        · rw [if_neg z, if_neg (by omega)]
  refine sound ok_Duel_addWay [16] 20 ?_
  rcases hb with ⟨hb1, hb2⟩ | ⟨hb1, hb2⟩
  · rw [hb1] at at16
    exact ⟨fun z => absurd hb2 z, fun _ => at16⟩
  · rw [hb1] at at16
    exact ⟨fun _ => at16, fun z => absurd z hb2⟩
