/-! a way of the survey -/
theorem t_seeSpread2 (S : St) (d : Int) (Q : Option AV → St → Prop) (hd : d ≤ 1000000) (hQ : ∀ S', Fr [] [(106, 7), (106, 8), (106, 9)] S S' → (S' 106 7 = if d = 1000000 then S 106 7 else min (S 106 7) d) → (S' 106 8 = if d = 1000000 then S 106 8 else max (S 106 8) d) → (S' 106 9 = if d = 1000000 then 1 else S 106 9) → Q none S') : Smm H_Survey_seeSpread 0 [some (.inr (.inr 106)), some (.inl d)] [] S Q := by
  refine t_seeSpread S d Q (fun z => hQ _ (Fr.up (Fr.rf _ _ _) _ _ _ rfl) ?_ ?_ ?_) (fun z => hQ _ (Fr.up (Fr.up (Fr.rf _ _ _) _ _ _ rfl) _ _ _ rfl) ?_ ?_ ?_)
  · rw [if_pos (show d = 1000000 by omega)]; rfl
  · rw [if_pos (show d = 1000000 by omega)]; rfl
  · rw [if_pos (show d = 1000000 by omega)]; rfl
  · rw [if_neg (show ¬ d = 1000000 by omega)]; rfl
  · rw [if_neg (show ¬ d = 1000000 by omega)]; rfl
  · rw [if_neg (show ¬ d = 1000000 by omega)]; rfl
theorem t_seeMoment2 (S : St) (v w : Int) (Q : Option AV → St → Prop) (h2 : 0 ≤ S 106 2 ∧ S 106 2 ≤ 40000) (hw : 1 ≤ w ∧ w ≤ 16807) (hvw : -16807000 ≤ w * v ∧ w * v ≤ 16807000) (h12 : -40000000 ≤ S 106 12 ∧ S 106 12 ≤ 40000000) (hQ : ∀ S', Fr [] [(106, 2), (106, 10), (106, 11), (106, 12)] S S' → S' 106 2 = S 106 2 + w → S' 106 10 = min (S 106 10) v → S' 106 11 = max (S 106 11) v → S' 106 12 = S 106 12 + w * v → Q none S') : Smm H_Survey_seeMoment 0 [some (.inr (.inr 106)), some (.inl v), some (.inl w)] [] S Q := by
  refine t_seeMoment S v w Q (hQ _ (Fr.up (Fr.up (Fr.up (Fr.up (Fr.rf _ _ _) _ _ _ rfl) _ _ _ rfl) _ _ _ rfl) _ _ _ rfl) ?_ rfl rfl ?_)
  · show i32 (S 106 2 + w) = S 106 2 + w
    exact i32_id (by omega) (by omega)
  · show i32 (S 106 12 + i32 (v * w)) = S 106 12 + w * v
    rw [Int.mul_comm v w, show i32 (w * v) = w * v from i32_id (by omega) (by omega)]
    exact i32_id (by omega) (by omega)
theorem og_w {w v : Int} (hw : 1 ≤ w ∧ w ≤ 16807) (hv : -1000 ≤ v ∧ v ≤ 1000) : -16807000 ≤ w * v ∧ w * v ≤ 16807000 := by
  have h1 : w * v ≤ w * 1000 := Int.mul_le_mul_of_nonneg_left hv.2 (by omega)
  have h2 : w * (-1000) ≤ w * v := Int.mul_le_mul_of_nonneg_left hv.1 (by omega)
  omega
theorem og_sm {w : Int} {v : (Int → Int) → Int} {l : List (Int → Int)} {N : Nat} (hw : 1 ≤ w) (hv : ∀ f ∈ l, -1000 ≤ v f ∧ v f ≤ 1000) (hl : l.length ≤ N) (hN : w * (N : Int) ≤ 16807) : -40000000 ≤ w * smL v l ∧ w * smL v l ≤ 40000000 := by
  have h := sm_len (c := 1000) (by omega) l hv
  have h1 : w * smL v l ≤ w * (1000 * (N : Int)) := Int.mul_le_mul_of_nonneg_left (by omega) (by omega)
  have h2 : w * (-(1000 * (N : Int))) ≤ w * smL v l := Int.mul_le_mul_of_nonneg_left (by omega) (by omega)
  have h3 : w * (1000 * (N : Int)) = 1000 * (w * (N : Int)) := by rw [Int.mul_left_comm]
  have h4 : w * (-(1000 * (N : Int))) = -(1000 * (w * (N : Int))) := by rw [Int.mul_neg, h3]
  omega
/-- the row of a way: gathered, its spread, its moment -/
theorem tk_row {T S : St} {f : Int → Int} (hT : mAs T) (hf : ofOk (T 0 20) f) (hW : wkI_l T S f) {w n : Nat} (hw : T 0 19 = w) (hn : T 0 21 = n) :
    (∀ Q' : Option AV → St → Prop, (∀ S', Fr [103] [(102, 1)] S S' → rwI 102 103 S' (gaF (tnM T (smM T f)) (fun _ => true) w) → Q' none S') → Smm H_Row_gather 0 [some (.inr (.inr 102)), some (.inr (.inr 101)), some (.inl (w : Int)), some (.inl (-1)), some (.inl (-1)), none] [] S Q') ∧
    (∀ (S1 : St) (Q' : Option AV → St → Prop), rwI 102 103 S1 (gaF (tnM T (smM T f)) (fun _ => true) w) → Q' (some (.inl (apM T f))) S1 → Smm H_Row_spread 0 [some (.inr (.inr 102)), some (.inl (n : Int)), none, none] [] S1 Q') ∧
    (∀ (S1 : St) (Q' : Option AV → St → Prop), rwI 102 103 S1 (gaF (tnM T (smM T f)) (fun _ => true) w) → Q' (some (.inl (ogM T f))) S1 → Smm H_Row_momentOf 0 [some (.inr (.inr 102)), some (.inl (n : Int)), some (.inl (T 0 22)), none] [] S1 Q') := by
  have hTo := hT.1
  have hk4 := hTo.2.1
  have hnd := hT.2.1
  obtain ⟨hB, hoff, hat, hrest, htn⟩ := hW
  have hw4 : w ≤ 4 := by omega
  have hn24 : 2 ≤ n ∧ n ≤ 4 := by omega
  have htb : ∀ g, 0 ≤ g → g < (w : Int) → S 101 g = tnM T (smM T f) g ∧ (tnM T (smM T f) g = 1000000 ∨ (-1000 ≤ tnM T (smM T f) g ∧ tnM T (smM T f) g ≤ 1000)) := fun g g0 g1 => ⟨htn g g0 (by omega), tnM_b hTo hf g0 (by omega)⟩
  have hga : gaF (S 101) (fun k => decide (¬ k = -1 ∧ ¬ k = -1)) w = gaF (tnM T (smM T f)) (fun _ => true) w := gaF_congr w (fun j j0 j1 => ⟨decide_eq_true (by omega), fun _ => (htb j j0 j1).1⟩)
  have hap : wmF n (gaF (tnM T (smM T f)) (fun _ => true) w) (gaF (tnM T (smM T f)) (fun _ => true) w).length = apM T f := by
    unfold apM
    rw [hn, show (T 0 19).toNat = w by omega, ap_row (by omega) (fun j j0 j1 => by have := (htb j j0 j1).2; omega)]
    rfl
  have hog : moF n (T 0 22) (gaF (tnM T (smM T f)) (fun _ => true) w) (n - 1) ((gaF (tnM T (smM T f)) (fun _ => true) w).length + 1 - n) = ogM T f := by
    unfold ogM
    rw [hn, show (T 0 19).toNat = w by omega, og_row (by omega) (fun j j0 j1 => by have := (htb j j0 j1).2; omega)]
    rfl
  have hgl := gaF_len (tnM T (smM T f)) (fun _ => true) w
  have hgm : ∀ x ∈ gaF (tnM T (smM T f)) (fun _ => true) w, -5000 ≤ x ∧ x ≤ 5000 := fun x hx => by
    obtain ⟨j, j1, _, j3, j4⟩ := (gaF_mem w x).mp hx
    have := (htb j (by omega) (by omega)).2
    rw [j4]; omega
  refine ⟨fun Q' hq' => ?_, fun S1 Q' hr hq' => ?_, fun S1 Q' hr hq' => ?_⟩
  · refine t_gather_w S w (-1) (-1) Q' hw4 (fun S' hF hr => hq' S' hF ?_)
    rw [← hga]; exact hr
  · refine t_spread_w S1 _ n Q' hr (by omega) hgm hn24 ?_
    rw [hap]; exact hq'
  · refine t_momentOf_w S1 _ n (T 0 22) Q' hr (by omega) hgm hn24 ?_
    rw [hog]; exact hq'
