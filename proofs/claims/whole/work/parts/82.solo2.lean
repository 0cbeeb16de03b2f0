/-! one key more, by spans -/
theorem opP_far {n : Nat} {b : Int} {l : List Int} (hn : 2 ≤ n) (hb : 0 ≤ b ∧ b ≤ 9) (hm : ∀ x ∈ l, -5000 ≤ x ∧ x ≤ 5000) {t : Int} (ht : 1000000 ≤ t) : opP n b l t ↔ ∃ x, n ≤ l.countP (inI x (x + b)) := by
  unfold opP
  constructor
  · rintro ⟨x, hx⟩
    by_cases y : inI x (x + b) t = true
    · have hy := of_decide_eq_true y
      have h0 : l.countP (inI x (x + b)) = 0 := by
        rw [List.countP_eq_zero]
        intro a ha h
        have h1 := of_decide_eq_true h
        have h2 := hm a ha
        omega
      rw [h0, if_pos y] at hx
      omega
    · rw [if_neg y] at hx
      exact ⟨x, by omega⟩
  · rintro ⟨x, hx⟩
    exact ⟨x, by omega⟩
theorem rw_bd {T : St} {f : Int → Int} (hT : mOk T) (hf : ofOk (T 0 20) f) {p : Int → Bool} {k : Nat} (hk : k ≤ 4) : ∀ x ∈ gaF (tnM T (smM T f)) p k, -5000 ≤ x ∧ x ≤ 5000 := fun x hx => by
  obtain ⟨j, h1, h2, h3, h4⟩ := (gaF_mem _ _).mp hx
  have := tnM_b hT hf (g := j) (by omega) (by omega)
  omega
theorem lm_at {l : List Int} (h : ∀ x ∈ l, -5000 ≤ x ∧ x ≤ 5000) : ∀ i : Nat, i < l.length → -5000 ≤ l.getD i 0 ∧ l.getD i 0 ≤ 5000 := fun i hi => by
  rw [List.getD_eq_getElem?_getD, List.getElem?_eq_getElem hi]
  exact h _ (List.getElem_mem hi)
/-- the spans of the others tell of each turn of guard g whether it opens -/
theorem so_cov {T : St} {f : Int → Int} (hT : mAs T) (hf : ofOk (T 0 20) f) {n k : Nat} (hn : T 0 21 = n) (hk : T 0 19 = k) {g : Int} (hg : 0 ≤ g ∧ g < k) {h base d : Int} (hd : 0 ≤ d ∧ d ≤ 9) (hh : (h = 1000000 ∧ 1000000 ≤ base ∧ base ≤ 3000000) ∨ (base = h ∧ -2000 ≤ h ∧ h ≤ 2000)) : cvL (spL n (T 0 22) (gaF (tnM T (smM T f)) (fun j => decide (¬ j = g)) k)) (base + d) = inB (op1 T f g (plN h d)) := by
  have hnd := hT.2.1
  have hk4 := hT.1.2.1
  have hrw := rw_bd hT.1 hf (p := fun j => decide (¬ j = g)) (k := k) (by omega)
  have hsp := sp_op (n := n) (b := T 0 22) (l := gaF (tnM T (smM T f)) (fun j => decide (¬ j = g)) k) (by omega) (by omega) (srtd_at _ (gaF_srtd _ _ _)) (lm_at hrw) (base + d) (by omega)
  have hone := op_one (n := n) (b := T 0 22) (t := tnM T (smM T f)) (g := g) (u := plN h d) (k := k) (by omega) (by omega) hg (by unfold plN; split <;> omega) (fun j j0 j1 => by have := tnM_b hT.1 hf (g := j) j0 (by omega); omega)
  have hop : opP n (T 0 22) (gaF (tnM T (smM T f)) (fun j => decide (¬ j = g)) k) (plN h d) ↔ opP n (T 0 22) (gaF (tnM T (smM T f)) (fun j => decide (¬ j = g)) k) (base + d) := by
    rcases hh with hh | hh
    · have : plN h d = 1000000 := by unfold plN; rw [if_pos hh.1]
      rw [this, opP_far (by omega) (by omega) hrw (Int.le_refl _), opP_far (by omega) (by omega) hrw (by omega)]
    · have : plN h d = base + d := by unfold plN; rw [if_neg (by omega)]; omega
      rw [this]
  have hu : op1 T f g (plN h d) = decide (apF (n : Int) (fun j => if j = g then plN h d else tnM T (smM T f) j) k ≤ T 0 22) := by
    unfold op1
    rw [hn, hk]
    rfl
  rw [hu]
  by_cases z : apF (n : Int) (fun j => if j = g then plN h d else tnM T (smM T f) j) k ≤ T 0 22
  · rw [inB_t z]
    exact hsp.1 (hop.mp (hone.mp z))
  · rw [inB_f z]
    exact hsp.2 (fun q => z (hone.mpr (hop.mpr q)))
/-! the solo -/
set_option maxHeartbeats 2000000 in
theorem t_soClear (S : St) (Q : Option AV → St → Prop) (hQ : ∀ S', Fr [112] [] S S' → (∀ j, 0 ≤ j → j < 50 → S' 112 j = 0) → Q none S') : Smm H_Solo_clear 0 [some (.inr (.inr 111)), none] [] S Q := by
  have loop : ∀ (i : Int) (S1 : St), ((0 ≤ i ∧ i ≤ 50) ∧ Fr [112] [] S S1 ∧ ∀ j, 0 ≤ j → j < i → S1 112 j = 0) → Smm H_Solo_clear 2 [some (.inr (.inr 111)), some (.inl i)] [] S1 Q := by
    refine lp_up (P := fun i S1 => Smm H_Solo_clear 2 [some (.inr (.inr 111)), some (.inl i)] [] S1 Q) _ 50 ?_ ?_
    · rintro i S1 hi1 ⟨hi2, hF, d⟩
      refine sound ok_Solo_clear [2] 20 ?_
      exact ⟨fun _ => hQ S1 hF (fun j j0 j1 => d j j0 (by omega)), fun z => absurd z (by omega)⟩
    · rintro i S1 hi1 ⟨hi2, hF, d⟩ ih
      have hc : ¬ 50 ≤ i := by omega
      have hix : 0 ≤ i ∧ i < 50 := by omega
      have h1 : 0 ≤ i + 1 ∧ i + 1 ≤ 50 := by omega
      have hnew : ∀ j, 0 ≤ j → j < i + 1 → up S1 112 i 0 112 j = 0 := fun j j0 j1 => by
        by_cases z : j = i
        · rw [z, up_s]
        · rw [up_n _ _ _ z]; exact d j j0 (by omega)
      have e : i + 1 = i32 (i + 1) := (i32_id (by omega) (by omega)).symm
      refine sound ok_Solo_clear [2] 20 ?_
      refine ⟨fun z => absurd z hc, fun _ => ?_⟩
      refine ⟨hix, ?_⟩
      exact Smm.sub (ih _ ⟨h1, hF.up _ _ _ rfl, hnew⟩) ⟨Or.inr rfl, Or.inr (sI e), trivial⟩
  refine sound ok_Solo_clear [2] 20 ?_
  exact loop 0 S ⟨by omega, Fr.rf _ _ _, fun j j0 j1 => absurd j1 (by omega)⟩
set_option maxHeartbeats 2000000 in
theorem t_soFind (T S : St) (f : Int → Int) (g : Int) (n k : Nat) (Q : Option AV → St → Prop) (hT : mAs T) (hf : ofOk (T 0 20) f) (hW : wkI_l T S f) (hn : T 0 21 = n) (hk : T 0 19 = k) (hQ : ∀ S', Fr [114, 115, 116] [(113, 1), (113, 4)] S S' → spI 113 115 116 S' (spL n (T 0 22) (gaF (tnM T (smM T f)) (fun j => decide (¬ j = g)) k)) → Q none S') : Smm H_Solo_findSpans 0 [some (.inr (.inr 111)), some (.inr (.inr 95)), some (.inl g)] [] S Q := by
  have hnd := hT.2.1
  have hk4 := hT.1.2.1
  have w1 : S 95 1 = 0 := hW.1.1
  have w2 : S 63 0 = k := by rw [← hk]; exact hW.1.2.1.1.1
  have eg : gaF (S 101) (fun j => decide (¬ j = g ∧ ¬ j = -1)) k = gaF (tnM T (smM T f)) (fun j => decide (¬ j = g)) k := by
    refine gaF_congr k (fun j j0 j1 => ⟨?_, fun _ => hW.2.2.2.2 j j0 (by omega)⟩)
    have : (¬ j = g ∧ ¬ j = -1) ↔ ¬ j = g := by omega
    simp only [this]
  have go1 := fun Q' hq' => t_gather_s S k g (-1) Q' (by omega) hq'
  rw [eg, ← w2] at go1
  refine sound ok_Solo_findSpans [] 60 ?_
  refine ⟨fun _ => ?_, fun z => absurd (w1.symm.trans z) (by decide)⟩
  refine go1 _ (fun S1 hF1 hr1 => ?_)
  have hW1 := wkI_fr_l hW hF1 rfl rfl
  have w3 : S1 95 1 = 0 := hW1.1.1
  have w6 : S1 63 4 = n := by rw [← hn]; exact hW1.1.2.1.1.2.2.1
  have w7 : S1 63 5 = T 0 22 := hW1.1.2.1.1.2.2.2.1
  have go2 := fun Q' hq' => t_findSpans_s S1 (gaF (tnM T (smM T f)) (fun j => decide (¬ j = g)) k) n (T 0 22) Q' hr1 (Nat.le_trans (gaF_len _ _ _) (by omega)) (rw_bd hT.1 hf (by omega)) (by omega) (by omega) hq'
  rw [← w6, ← w7] at go2
  refine ⟨fun _ => ?_, fun z => absurd (w3.symm.trans z) (by decide)⟩
  refine ⟨fun _ => ?_, fun z => absurd (w3.symm.trans z) (by decide)⟩
  refine go2 _ (fun S2 hF2 hs2 => ?_)
  rw [w7] at hs2
  exact hQ S2 ((hF1.mo rfl rfl).tr (hF2.mo rfl rfl)) hs2
theorem so32 {a b : Int} (ha : -2000000 ≤ a ∧ a ≤ 4000000) (hb : -5000 ≤ b ∧ b ≤ 3000000) : i32 (a - b) = a - b := i32_id (by omega) (by omega)
theorem cvL_b (t : Int) : ∀ sp : List (Int × Int), 0 ≤ cvL sp t ∧ cvL sp t ≤ sp.length
  | [] => by simp [cvL]
  | p :: sp => by
    have := cvL_b t sp
    have h2 := inB_b (decide (p.1 ≤ t ∧ t ≤ p.2))
    rw [cvL, List.length_cons]
    omega
theorem cv_mul {w : Int} {sp : List (Int × Int)} (t : Int) (hw : 0 ≤ w ∧ w ≤ 16807) (hl : sp.length ≤ 4) : 0 ≤ w * cvL sp t ∧ w * cvL sp t ≤ 70000 := by
  have h := cvL_b t sp
  have h1 : 0 ≤ w * cvL sp t := Int.mul_nonneg hw.1 h.1
  have h2 : w * cvL sp t ≤ w * 4 := Int.mul_le_mul_of_nonneg_left (by omega) hw.1
  omega
theorem take_s {l : List (Int × Int)} {i : Nat} (h : i < l.length) : l.take (i + 1) = l.take i ++ [l.getD i (0, 0)] := by
  rw [List.take_add_one, List.getD_eq_getElem?_getD, List.getElem?_eq_getElem h]
  rfl
set_option maxHeartbeats 2000000 in
theorem t_soAdd (S : St) (sp : List (Int × Int)) (st base w : Int) (Q : Option AV → St → Prop) (hS : spI 113 115 116 S sp) (hl : sp.length ≤ 4) (hp : ∀ j : Nat, j < sp.length → (-2000000 ≤ (sp.getD j (0, 0)).1 ∧ (sp.getD j (0, 0)).1 ≤ 4000000) ∧ (-2000000 ≤ (sp.getD j (0, 0)).2 ∧ (sp.getD j (0, 0)).2 ≤ 4000000)) (hst : 0 ≤ st ∧ st + 10 ≤ 50) (hba : -5000 ≤ base ∧ base ≤ 3000000) (hw : 0 ≤ w ∧ w ≤ 16807) (hv : ∀ j, 0 ≤ j → j < 50 → 0 ≤ S 112 j ∧ S 112 j ≤ 16807) (hQ : ∀ S', Fr [112] [] S S' → (∀ j, S' 112 j = S 112 j + if st ≤ j ∧ j ≤ st + 9 then w * cvL sp (base + (j - st)) else 0) → Q none S') : Smm H_Solo_addOpen 0 [some (.inr (.inr 111)), some (.inl st), some (.inl base), some (.inl w), none] [] S Q := by
  have loop : ∀ (d i : Nat) (S1 : St), i + d = sp.length → Fr [112] [] S S1 → (∀ j, S1 112 j = S 112 j + if st ≤ j ∧ j ≤ st + 9 then w * cvL (sp.take i) (base + (j - st)) else 0) → Smm H_Solo_addOpen 3 [some (.inr (.inr 111)), some (.inl st), some (.inl base), some (.inl w), some (.inl (i : Int))] [] S1 Q := by
    intro d
    induction d with
    | zero =>
      intro i S1 hi hF dd
      have hsz : S1 113 4 = (sp.length : Int) := by rw [hF.c 113 rfl]; exact hS.1
      refine sound ok_Solo_addOpen [3] 20 ?_
      refine ⟨fun _ => hQ S1 hF (fun j => ?_), fun z => absurd z (by rw [hsz]; omega)⟩
      rw [dd j, show i = sp.length by omega, List.take_length]
    | succ d ih =>
      intro i S1 hi hF dd
      have hlt : i < sp.length := by omega
      have hsz : S1 113 4 = (sp.length : Int) := by rw [hF.c 113 rfl]; exact hS.1
      have hng : ¬ S1 113 4 ≤ (i : Int) := by rw [hsz]; omega
      have hix : (0 : Int) ≤ i ∧ (i : Int) < 4 := by omega
      have ef : S1 115 i = (sp.getD i (0, 0)).1 := by rw [hF.c 115 rfl]; exact (hS.2 i hlt).1
      have et : S1 116 i = (sp.getD i (0, 0)).2 := by rw [hF.c 116 rfl]; exact (hS.2 i hlt).2
      have hpi := hp i hlt
      have hlt2 : (sp.take i).length ≤ 4 := by rw [List.length_take]; omega
      have hv1 : ∀ j, st ≤ j → j ≤ st + 9 → -1000000 ≤ S1 112 j ∧ S1 112 j ≤ 1000000 := fun j j0 j1 => by
        have h1 := hv j (by omega) (by omega)
        have h2 := cv_mul (base + (j - st)) hw hlt2
        rw [dd j, if_pos ⟨j0, j1⟩]
        omega
      have fin : ∀ S2, Fr [112] [] S1 S2 → (∀ j, S2 112 j = S1 112 j + if st + max ((sp.getD i (0, 0)).1 - base) 0 ≤ j ∧ j ≤ st + min ((sp.getD i (0, 0)).2 - base) 9 then w else 0) → Smm H_Solo_addOpen 3 [some (.inr (.inr 111)), some (.inl st), some (.inl base), some (.inl w), some (.inl ((i + 1 : Nat) : Int))] [] S2 Q := fun S2 hF2 d2 => by
        refine ih (i + 1) S2 (by omega) (hF.tr hF2) (fun j => ?_)
        rw [d2 j, dd j, take_s hlt, cvL_app]
        by_cases z : st ≤ j ∧ j ≤ st + 9
        · rw [if_pos z, if_pos z]
          by_cases y : (sp.getD i (0, 0)).1 ≤ base + (j - st) ∧ base + (j - st) ≤ (sp.getD i (0, 0)).2
          · rw [inB_t y, if_pos (by omega), Int.mul_add, Int.mul_one]
            omega
          · rw [inB_f y, if_neg (by omega), Int.add_zero, Int.add_zero]
        · rw [if_neg z, if_neg z, if_neg (by omega), Int.add_zero]
      have e : ((i + 1 : Nat) : Int) = i32 ((i : Int) + 1) := i32_s (by omega)
      have e1 := so32 hpi.1 hba
      have e2 := so32 hpi.2 hba
      rw [← ef] at e1
      rw [← et] at e2
      rw [← ef, ← et] at fin
      have go := fun Q' hq' => t_dSpan_so S1 st (S1 115 i - base) (S1 116 i - base) w Q' hst hv1 (by clear e e1 e2; omega) hq'
      rw [← e1, ← e2] at go fin
      refine sound ok_Solo_addOpen [3] 60 ?_
      refine ⟨fun z => absurd z hng, fun _ => ?_⟩
      refine ⟨hix, ?_⟩
      refine ⟨hix, ?_⟩
      refine go _ (fun S2 hF2 d2 => ?_)
      exact Smm.sub (fin S2 hF2 d2) ⟨Or.inr rfl, Or.inr rfl, Or.inr rfl, Or.inr rfl, Or.inr (sI e), trivial⟩
  refine sound ok_Solo_addOpen [3] 20 ?_
  refine loop sp.length 0 S (by omega) (Fr.rf _ _ _) (fun j => ?_)
  rw [List.take_zero, cvL, Int.mul_zero]
  split <;> omega
