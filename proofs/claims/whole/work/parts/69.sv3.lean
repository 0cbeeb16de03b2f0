/-! the survey of all ways -/
theorem wkI_fr_l {X : List Nat} {Y : List (Nat × Int)} {T S S' : St} {f : Int → Int} (h : wkI_l T S f) (hF : Fr X Y S S') (hX : ([63, 66, 67, 68, 69, 70, 64, 65, 57, 58, 59, 60, 96, 97].all (fun c => !(X.contains c || Y.any (fun q => Nat.beq q.1 c))) && !(X.contains 95 || Y.contains (95, 1))) = true) (hX2 : ([99, 100, 101].all (fun c => !(X.contains c || Y.any (fun q => Nat.beq q.1 c)))) = true) : wkI_l T S' f := by
  have key : ∀ c ∈ ([99, 100, 101] : List Nat), S' c = S c := by
    intro c hc
    have := List.all_eq_true.mp hX2 c hc
    exact hF.c c (by simpa using this)
  obtain ⟨a1, a2, a3, a4, a5⟩ := h
  refine ⟨wkB_fr_l a1 hF hX, ?_, ?_, ?_, ?_⟩
  · rw [key 99 (by simp)]; exact a2
  · rw [key 100 (by simp)]; exact a3
  · rw [key 100 (by simp)]; exact a4
  · rw [key 101 (by simp)]; exact a5
/-- what the survey holds of these ways, each standing for w -/
def svP (T : St) (w : Int) (l : List (Int → Int)) (S : St) : Prop := (S 106 2 = w * ((l.countP (opM T) : Nat) : Int) ∧ S 106 7 = mnL (apM T) 1000000 l ∧ S 106 8 = mxL (fnB (apM T)) (apM T) 0 l ∧ S 106 9 = inB (l.any (fun f => !(fnB (apM T) f))) ∧ S 106 10 = mnL (ogM T) 1000000 l ∧ S 106 11 = mxL (fnB (ogM T)) (ogM T) (-1000000) l ∧ S 106 12 = w * smL (ogV T) l) ∧ ∀ g, 0 ≤ g → g < T 0 19 → S 107 g = mnL (tnV T g) 1000000 l ∧ S 108 g = (if mnL (tnV T g) 1000000 l = 1000000 then 1000000 else mxL (fnB (tnV T g)) (tnV T g) (-1000000) l) ∧ S 109 g = w * smL (fun f => inB (!(fnB (tnV T g) f))) l ∧ S 110 g = w * smL (fun f => inB (!(opM T f) && decide (fsM T f = g))) l
theorem inB_b (b : Bool) : 0 ≤ inB b ∧ inB b ≤ 1 := by unfold inB; split <;> omega
theorem sm_len {v : (Int → Int) → Int} {c : Int} (hc : 0 ≤ c) : ∀ l : List (Int → Int), (∀ f ∈ l, -c ≤ v f ∧ v f ≤ c) → -(c * l.length) ≤ smL v l ∧ smL v l ≤ c * l.length
  | [], _ => by rw [smL]; simp
  | f :: l, h => by
    have ih := sm_len hc l (fun f' hf => h f' (List.mem_cons_of_mem _ hf))
    have hf := h f List.mem_cons_self
    rw [smL, List.length_cons]
    push_cast
    rw [Int.mul_add, Int.mul_one]
    omega
theorem any_X {T : St} (hT : mAs T) {y : Nat} {p : (Int → Int) → Bool} (hp : ∀ f, bd3 f → p f = p (prN (nb y) f)) : (wyM T).any p = (wyX T y).any p := by
  have h1 : (wyM T).any p = true ↔ (wyX T y).any p = true := by
    rw [List.any_eq_true, List.any_eq_true]
    constructor
    · rintro ⟨f, h1, h2⟩
      obtain ⟨c1, c2⟩ := wM_mem (y := y) hT h1
      exact ⟨_, c1, by rw [← hp f c2]; exact h2⟩
    · rintro ⟨f, h1, h2⟩
      exact ⟨f, (wX_mem hT h1).1, h2⟩
  by_cases z : (wyM T).any p = true
  · rw [z, h1.mp z]
  · have z2 : ¬ (wyX T y).any p = true := fun q => z (h1.mpr q)
    simp only [Bool.not_eq_true] at z z2
    rw [z, z2]
/-- of all ways -/
theorem sv_X {T S S2 : St} (hT : mAs T) (hP : PlR T S2) {a y : Nat} (hy : ndI T S2 a y) (h : svP T (wgX T y) (wyX T y) S) : svP T 1 (wyM T) S := by
  obtain ⟨⟨h1, h2, h3, h4, h5, h6, h7⟩, h8⟩ := h
  have hap : ∀ f, bd3 f → apM T f = apM T (prN (nb y) f) := fun f hf => nd_ap hT.1 hP hy hf
  have hog : ∀ f, bd3 f → ogM T f = ogM T (prN (nb y) f) := fun f hf => nd_og hT.1 hP hy hf
  have hop : ∀ f, bd3 f → opM T f = opM T (prN (nb y) f) := fun f hf => nd_op hT.1 hP hy hf
  have hfs : ∀ f, bd3 f → fsM T f = fsM T (prN (nb y) f) := fun f hf => nd_fs hT.1 hP hy hf
  have fb : ∀ v : (Int → Int) → Int, (∀ f, bd3 f → v f = v (prN (nb y) f)) → ∀ f, bd3 f → fnB v f = fnB v (prN (nb y) f) := fun v hv f hf => by unfold fnB; rw [hv f hf]
  refine ⟨⟨?_, ?_, ?_, ?_, ?_, ?_, ?_⟩, fun g g0 g1 => ?_⟩
  · rw [h1, Int.one_mul, ← cnt_X hT hP hy]; rfl
  · rw [h2, mn_X hT hap]
  · rw [h3, mx_X hT (fb _ hap) hap]
  · rw [h4, any_X hT (fun f hf => by rw [fb _ hap f hf])]
  · rw [h5, mn_X hT hog]
  · rw [h6, mx_X hT (fb _ hog) hog]
  · rw [h7, Int.one_mul, wX_sum hT (φ := ogV T) (fun f hf => by unfold ogV; rw [hog f hf])]
  · obtain ⟨k1, k2, k3, k4⟩ := h8 g g0 g1
    have htn : ∀ f, bd3 f → tnV T g f = tnV T g (prN (nb y) f) := fun f hf => nd_tn hT.1 hP hy hf ⟨g0, g1⟩
    refine ⟨by rw [k1, mn_X hT htn], by rw [k2, mn_X hT htn, mx_X hT (fb _ htn) htn], ?_, ?_⟩
    · rw [k3, Int.one_mul, wX_sum hT (φ := fun f => inB (!(fnB (tnV T g) f))) (fun f hf => by rw [fb _ htn f hf])]
    · rw [k4, Int.one_mul, wX_sum hT (φ := fun f => inB (!(opM T f) && decide (fsM T f = g))) (fun f hf => by rw [hop f hf, hfs f hf])]
theorem wg_sm {w : Int} {v : (Int → Int) → Int} {l : List (Int → Int)} {N : Nat} (hw : 1 ≤ w) (hv : ∀ f ∈ l, 0 ≤ v f ∧ v f ≤ 1) (hl : l.length ≤ N) (hN : w * (N : Int) ≤ 16807) : 0 ≤ w * smL v l ∧ w * smL v l ≤ 16807 := by
  have h1 : 0 ≤ smL v l ∧ smL v l ≤ l.length := by
    induction l with
    | nil => rw [smL]; simp
    | cons f l ih =>
      have ih := ih (fun f' hf => hv f' (List.mem_cons_of_mem _ hf)) (by simp at hl; omega)
      have := hv f List.mem_cons_self
      rw [smL, List.length_cons]
      push_cast
      omega
  have h2 : 0 ≤ w * smL v l := Int.mul_nonneg (by omega) h1.1
  have h3 : w * smL v l ≤ w * (N : Int) := Int.mul_le_mul_of_nonneg_left (by omega) (by omega)
  omega
theorem og_b {T : St} (hT : mAs T) {f : Int → Int} (hf : ofOk (T 0 20) f) : ogM T f = 1000000 ∨ (-1000 ≤ ogM T f ∧ ogM T f ≤ 1000) := by
  have hk4 := hT.1.2.1
  have hnd := hT.2.1
  unfold ogM ogF
  by_cases hz : (T 0 19).toNat + 1 < (T 0 21).toNat
  · rw [show (T 0 19).toNat + 1 - (T 0 21).toNat = 0 by omega]
    exact Or.inl rfl
  · refine moF_b (B := 1000) (fun j hj => ?_) _ _ (by rw [isF_len]; omega)
    have hm : (isF (tnM T (smM T f)) (T 0 19).toNat).getD j 0 ∈ isF (tnM T (smM T f)) (T 0 19).toNat := by
      rw [List.getD_eq_getElem?_getD, List.getElem?_eq_getElem hj]
      exact List.getElem_mem hj
    obtain ⟨i, i1, i2⟩ := (isF_mem _ _).mp hm
    rw [i2]
    exact tnM_b hT.1 hf (by omega) (by omega)
