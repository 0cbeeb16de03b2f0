/-! the survey taken, way after way -/
theorem mnL_d (v : (Int → Int) → Int) (d : Int) (l : List (Int → Int)) : mnL v d l ≤ d := ((mnL_le v l d _).mp (Int.le_refl _)).1
theorem mx_none {v : (Int → Int) → Int} {l : List (Int → Int)} (hb : ∀ f ∈ l, v f ≤ 1000000) (hm : mnL v 1000000 l = 1000000) (d : Int) : mxL (fnB v) v d l ≤ d := by
  refine (mxL_le (fnB v) v l d d).mpr ⟨Int.le_refl _, fun f hf hp => ?_⟩
  have h1 := ((mnL_le v l 1000000 1000000).mp (by omega)).2 f hf
  have h2 := hb f hf
  unfold fnB at hp
  have h3 := of_decide_eq_true hp
  omega
theorem lt_step {v : (Int → Int) → Int} {l : List (Int → Int)} {f : Int → Int} {e t : Int} (hb : ∀ f ∈ l, v f ≤ 1000000) (hf : v f = 1000000 ∨ (-1000 ≤ v f ∧ v f ≤ 1000)) (he : e = mnL v 1000000 l) (ht : t = if mnL v 1000000 l = 1000000 then 1000000 else mxL (fnB v) v (-1000000) l) : (if v f = 1000000 then t else if 1000000 ≤ e then v f else max t (v f)) = if mnL v 1000000 (l ++ [f]) = 1000000 then 1000000 else mxL (fnB v) v (-1000000) (l ++ [f]) := by
  have hd := mnL_d v 1000000 l
  rw [mnL_app, mxL_app]
  by_cases z : v f = 1000000
  · rw [if_pos z, z, show min (mnL v 1000000 l) 1000000 = mnL v 1000000 l by omega, if_neg (show ¬ fnB v f = true by unfold fnB; rw [z]; decide), ht]
  · rw [if_neg z, if_neg (show ¬ min (mnL v 1000000 l) (v f) = 1000000 by omega), if_pos (show fnB v f = true by unfold fnB; exact decide_eq_true z)]
    by_cases y : mnL v 1000000 l = 1000000
    · have := mx_none hb y (-1000000)
      rw [if_pos (show (1000000 : Int) ≤ e by omega)]
      omega
    · rw [if_neg (show ¬ (1000000 : Int) ≤ e by omega), ht, if_neg y]
/-- one more way -/
theorem sv_step {T S S' : St} {w : Int} {pre : List (Int → Int)} {f : Int → Int} (hT : mAs T) (hpre : ∀ f ∈ pre, ofOk (T 0 20) f) (hf : ofOk (T 0 20) f) (hap : apM T f ≤ 1000000) (hog : ogM T f ≤ 1000000) (h : svP T w pre S) (e2 : S' 106 2 = S 106 2 + w * inB (opM T f)) (e7 : S' 106 7 = if apM T f = 1000000 then S 106 7 else min (S 106 7) (apM T f)) (e8 : S' 106 8 = if apM T f = 1000000 then S 106 8 else max (S 106 8) (apM T f)) (e9 : S' 106 9 = if apM T f = 1000000 then 1 else S 106 9) (e10 : S' 106 10 = if ogM T f = 1000000 then S 106 10 else min (S 106 10) (ogM T f)) (e11 : S' 106 11 = if ogM T f = 1000000 then S 106 11 else max (S 106 11) (ogM T f)) (e12 : S' 106 12 = S 106 12 + w * ogV T f) (eg : ∀ g, 0 ≤ g → g < T 0 19 → S' 107 g = min (S 107 g) (tnV T g f) ∧ S' 109 g = S 109 g + w * inB (!(fnB (tnV T g) f)) ∧ (S' 108 g = if tnV T g f = 1000000 then S 108 g else if 1000000 ≤ S 107 g then tnV T g f else max (S 108 g) (tnV T g f)) ∧ S' 110 g = S 110 g + w * inB (!(opM T f) && decide (fsM T f = g))) : svP T w (pre ++ [f]) S' := by
  obtain ⟨⟨h2, h7, h8, h9, h10, h11, h12⟩, h8g⟩ := h
  refine ⟨⟨?_, ?_, ?_, ?_, ?_, ?_, ?_⟩, fun g g0 g1 => ?_⟩
  · rw [e2, h2, cnt_sm, cnt_sm, smL_app1, Int.mul_add]
  · rw [e7, h7, mnL_app]
    have := mnL_d (apM T) 1000000 pre
    split <;> omega
  · rw [e8, h8, mxL_app]
    by_cases z : apM T f = 1000000
    · rw [if_pos z, if_neg (show ¬ fnB (apM T) f = true by unfold fnB; rw [z]; decide)]
    · rw [if_neg z, if_pos (show fnB (apM T) f = true by unfold fnB; exact decide_eq_true z)]
  · rw [e9, h9, List.any_append]
    by_cases z : apM T f = 1000000
    · rw [if_pos z, List.any_cons, show fnB (apM T) f = false by unfold fnB; rw [z]; decide]
      simp [inB]
    · rw [if_neg z, List.any_cons, show fnB (apM T) f = true by unfold fnB; exact decide_eq_true z]
      simp
  · rw [e10, h10, mnL_app]
    have := mnL_d (ogM T) 1000000 pre
    split <;> omega
  · rw [e11, h11, mxL_app]
    by_cases z : ogM T f = 1000000
    · rw [if_pos z, if_neg (show ¬ fnB (ogM T) f = true by unfold fnB; rw [z]; decide)]
    · rw [if_neg z, if_pos (show fnB (ogM T) f = true by unfold fnB; exact decide_eq_true z)]
  · rw [e12, h12, smL_app1, Int.mul_add]
  · obtain ⟨k1, k2, k3, k4⟩ := h8g g g0 g1
    obtain ⟨j1, j2, j3, j4⟩ := eg g g0 g1
    refine ⟨by rw [j1, k1, mnL_app], ?_, by rw [j2, k3, smL_app1, Int.mul_add], by rw [j4, k4, smL_app1, Int.mul_add]⟩
    rw [j3]
    refine lt_step (fun f' hf' => ?_) (tnM_b hT.1 hf g0 (by have := hT.1.2.1; omega)) k1 k2
    have := tnM_b hT.1 (hpre f' hf') g0 (show g < 4 by have := hT.1.2.1; omega)
    unfold tnV
    omega
/-- none yet -/
theorem sv_nil {T S : St} (hT : mOk T) (w : Int) (h : S 106 2 = 0 ∧ S 106 7 = 1000000 ∧ S 106 8 = 0 ∧ S 106 9 = 0 ∧ S 106 10 = 1000000 ∧ S 106 11 = -1000000 ∧ S 106 12 = 0) (hg : ∀ g, 0 ≤ g → g < 4 → S 107 g = 1000000 ∧ S 108 g = 1000000 ∧ S 109 g = 0 ∧ S 110 g = 0) : svP T w [] S := by
  have hk4 := hT.2.1
  obtain ⟨h2, h7, h8, h9, h10, h11, h12⟩ := h
  refine ⟨⟨?_, h7, h8, h9, h10, h11, ?_⟩, fun g g0 g1 => ?_⟩
  · rw [h2]; simp
  · rw [h12, smL]; simp
  · obtain ⟨k1, k2, k3, k4⟩ := hg g g0 (by omega)
    refine ⟨k1, ?_, ?_, ?_⟩
    · rw [k2]; rfl
    · rw [k3, smL]; simp
    · rw [k4, smL]; simp
