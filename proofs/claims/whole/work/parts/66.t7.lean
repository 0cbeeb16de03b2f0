/-! least and greatest over ways; the reference's folds in these words -/
def mnL (v : (Int → Int) → Int) (d : Int) (l : List (Int → Int)) : Int := l.foldl (fun a f => min a (v f)) d
def mxL (p : (Int → Int) → Bool) (v : (Int → Int) → Int) (d : Int) (l : List (Int → Int)) : Int := l.foldl (fun a f => if p f = true then max a (v f) else a) d
theorem mnL_le (v : (Int → Int) → Int) : ∀ (l : List (Int → Int)) (d x : Int), x ≤ mnL v d l ↔ x ≤ d ∧ ∀ f ∈ l, x ≤ v f
  | [], d, x => by simp [mnL]
  | f :: l, d, x => by
    have ih := mnL_le v l (min d (v f)) x
    show x ≤ mnL v (min d (v f)) l ↔ _
    rw [ih]
    constructor
    · rintro ⟨h1, h2⟩
      refine ⟨by omega, fun f' hf => ?_⟩
      rcases List.mem_cons.mp hf with z | z
      · rw [z]; omega
      · exact h2 f' z
    · rintro ⟨h1, h2⟩
      have := h2 f List.mem_cons_self
      exact ⟨by omega, fun f' hf => h2 f' (List.mem_cons_of_mem _ hf)⟩
theorem mxL_le (p : (Int → Int) → Bool) (v : (Int → Int) → Int) : ∀ (l : List (Int → Int)) (d x : Int), mxL p v d l ≤ x ↔ d ≤ x ∧ ∀ f ∈ l, p f = true → v f ≤ x
  | [], d, x => by simp [mxL]
  | f :: l, d, x => by
    have ih := mxL_le p v l (if p f = true then max d (v f) else d) x
    show mxL p v (if p f = true then max d (v f) else d) l ≤ x ↔ _
    rw [ih]
    constructor
    · rintro ⟨h1, h2⟩
      refine ⟨?_, fun f' hf hp => ?_⟩
      · split at h1 <;> omega
      · rcases List.mem_cons.mp hf with z | z
        · subst z
          rw [if_pos hp] at h1; omega
        · exact h2 f' z hp
    · rintro ⟨h1, h2⟩
      refine ⟨?_, fun f' hf => h2 f' (List.mem_cons_of_mem _ hf)⟩
      split
      · rename_i hp
        have := h2 f List.mem_cons_self hp
        omega
      · exact h1
theorem mnL_app (v : (Int → Int) → Int) (d : Int) (l : List (Int → Int)) (f : Int → Int) : mnL v d (l ++ [f]) = min (mnL v d l) (v f) := by
  unfold mnL
  rw [List.foldl_append]
  rfl
theorem mxL_app (p : (Int → Int) → Bool) (v : (Int → Int) → Int) (d : Int) (l : List (Int → Int)) (f : Int → Int) : mxL p v d (l ++ [f]) = if p f = true then max (mxL p v d l) (v f) else mxL p v d l := by
  unfold mxL
  rw [List.foldl_append]
  rfl
/-- over the ways walked they are the same -/
theorem mn_X {T : St} (hT : mAs T) {y : Nat} {v : (Int → Int) → Int} (hv : ∀ f, bd3 f → v f = v (prN (nb y) f)) (d : Int) : mnL v d (wyM T) = mnL v d (wyX T y) := by
  have h1 : ∀ x, x ≤ mnL v d (wyM T) ↔ x ≤ mnL v d (wyX T y) := fun x => by
    rw [mnL_le, mnL_le]
    constructor
    · rintro ⟨a, b⟩
      exact ⟨a, fun f hf => b f (wX_mem hT hf).1⟩
    · rintro ⟨a, b⟩
      refine ⟨a, fun f hf => ?_⟩
      obtain ⟨c1, c2⟩ := wM_mem (y := y) hT hf
      rw [hv f c2]
      exact b _ c1
  have a := (h1 (mnL v d (wyM T))).mp (Int.le_refl _)
  have b := (h1 (mnL v d (wyX T y))).mpr (Int.le_refl _)
  omega
theorem mx_X {T : St} (hT : mAs T) {y : Nat} {p : (Int → Int) → Bool} {v : (Int → Int) → Int} (hp : ∀ f, bd3 f → p f = p (prN (nb y) f)) (hv : ∀ f, bd3 f → v f = v (prN (nb y) f)) (d : Int) : mxL p v d (wyM T) = mxL p v d (wyX T y) := by
  have h1 : ∀ x, mxL p v d (wyM T) ≤ x ↔ mxL p v d (wyX T y) ≤ x := fun x => by
    rw [mxL_le, mxL_le]
    constructor
    · rintro ⟨a, b⟩
      exact ⟨a, fun f hf => b f (wX_mem hT hf).1⟩
    · rintro ⟨a, b⟩
      refine ⟨a, fun f hf hpf => ?_⟩
      obtain ⟨c1, c2⟩ := wM_mem (y := y) hT hf
      rw [hv f c2]
      exact b _ c1 (by rw [← hp f c2]; exact hpf)
  have a := (h1 (mxL p v d (wyM T))).mp (Int.le_refl _)
  have b := (h1 (mxL p v d (wyX T y))).mpr (Int.le_refl _)
  omega
theorem smL_app1 (g : (Int → Int) → Int) (l : List (Int → Int)) (f : Int → Int) : smL g (l ++ [f]) = smL g l + g f := by rw [smL_app, smL, smL]; omega
/-! the reference's folds -/
theorem en_fold (T : St) : ∀ (l : List (Int → Int)) (a : Int), l.foldl (enF T) a = mxL (fun _ => true) (apM T) a l
  | [], a => rfl
  | f :: l, a => by
    show l.foldl (enF T) (enF T a f) = mxL (fun _ => true) (apM T) (if true = true then max a (apM T f) else a) l
    rw [en_fold T l, if_pos rfl]
    congr 1
    unfold enF
    split <;> omega
def fnB (v : (Int → Int) → Int) (f : Int → Int) : Bool := decide (¬ v f = 1000000)
theorem nr_fold (T : St) : ∀ (l : List (Int → Int)) (a : Int × Int), l.foldl (nrF T) a = (mnL (apM T) a.1 l, mxL (fnB (apM T)) (apM T) a.2 l)
  | [], a => rfl
  | f :: l, a => by
    show l.foldl (nrF T) (nrF T a f) = (mnL (apM T) (min a.1 (apM T f)) l, mxL (fnB (apM T)) (apM T) (if fnB (apM T) f = true then max a.2 (apM T f) else a.2) l)
    rw [nr_fold T l]
    unfold nrF
    dsimp only
    congr 1
    · congr 1
      split <;> omega
    · congr 1
      unfold fnB
      by_cases h : apM T f = 1000000
      · rw [if_neg (fun z => z.1 h), if_neg (by simp [h])]
      · rw [if_pos (decide_eq_true h)]
        split <;> omega
def tnV (T : St) (g : Int) (f : Int → Int) : Int := tnM T (smM T f) g
theorem wn_fold (T : St) (g : Int) : ∀ (l : List (Int → Int)) (a : Int × Int × Int), l.foldl (wnF T g) a = (mnL (tnV T g) a.1 l, mxL (fnB (tnV T g)) (tnV T g) a.2.1 l, a.2.2 + smL (fun f => inB (!(fnB (tnV T g) f))) l)
  | [], a => by
    show a = (a.1, a.2.1, a.2.2 + 0)
    rw [Int.add_zero]
  | f :: l, a => by
    show l.foldl (wnF T g) (wnF T g a f) = (mnL (tnV T g) (min a.1 (tnV T g f)) l, mxL (fnB (tnV T g)) (tnV T g) (if fnB (tnV T g) f = true then max a.2.1 (tnV T g f) else a.2.1) l, a.2.2 + (inB (!(fnB (tnV T g) f)) + smL (fun f => inB (!(fnB (tnV T g) f))) l))
    rw [wn_fold T g l]
    have e : tnM T (smM T f) g = tnV T g f := rfl
    unfold wnF
    rw [e]
    dsimp only
    by_cases h : tnV T g f = 1000000
    · have hb : fnB (tnV T g) f = false := decide_eq_false (fun z => z h)
      rw [hb, if_neg (show ¬ (¬ tnV T g f = 1000000 ∧ a.2.1 < tnV T g f) from fun z => z.1 h), if_pos h, if_neg (show ¬ (false = true) by decide)]
      have hi : inB (!false) = 1 := rfl
      rw [hi]
      congr 1
      · congr 1
        split <;> omega
      · congr 1
        omega
    · have hb : fnB (tnV T g) f = true := decide_eq_true h
      rw [hb, if_neg h, if_pos rfl]
      have hi : inB (!true) = 0 := rfl
      rw [hi]
      congr 1
      · congr 1
        split <;> omega
      · congr 1
        · congr 1
          split <;> omega
        · omega
def gnV (T : St) (g : Int) (f : Int → Int) : Int := if opM T f = true then T 7 g else if fsM T f = g then T 8 g else 0
theorem gn_fold (T : St) (g : Int) : ∀ (l : List (Int → Int)) (a : Int), l.foldl (gnF T g) a = a + smL (gnV T g) l
  | [], a => by show a = a + 0; omega
  | f :: l, a => by
    show l.foldl (gnF T g) (gnF T g a f) = a + (gnV T g f + smL (gnV T g) l)
    rw [gn_fold T g l]
    unfold gnF gnV
    split
    · omega
    · split <;> omega
def ogV (T : St) (f : Int → Int) : Int := if ogM T f = 1000000 then 0 else ogM T f
theorem ms_fold (T : St) : ∀ (l : List (Int → Int)) (a : Int × Int × Int), (∀ f ∈ l, ogM T f = 1000000 ∨ (-2000 ≤ ogM T f ∧ ogM T f ≤ 2000)) → -100000000 + 2000 * (l.length : Int) ≤ a.2.2 → a.2.2 ≤ 100000000 - 2000 * (l.length : Int) → l.foldl (msF T) a = (mnL (ogM T) a.1 l, mxL (fnB (ogM T)) (ogM T) a.2.1 l, a.2.2 + smL (ogV T) l) := by
  intro l
  induction l with
  | nil =>
    intro a _ _ _
    show a = (a.1, a.2.1, a.2.2 + 0)
    rw [Int.add_zero]
  | cons f l ih =>
    intro a h h1 h2
    have hf := h f List.mem_cons_self
    rw [List.length_cons] at h1 h2
    push_cast at h1 h2
    show l.foldl (msF T) (msF T a f) = (mnL (ogM T) (min a.1 (ogM T f)) l, mxL (fnB (ogM T)) (ogM T) (if fnB (ogM T) f = true then max a.2.1 (ogM T f) else a.2.1) l, a.2.2 + (ogV T f + smL (ogV T) l))
    have hs : (msF T a f).2.2 = a.2.2 + ogV T f := by
      unfold msF ogV
      dsimp only
      split
      · omega
      · exact i32_id (by omega) (by omega)
    have hb : -2000 ≤ ogV T f ∧ ogV T f ≤ 2000 := by unfold ogV; split <;> omega
    rw [ih _ (fun f' hf' => h f' (List.mem_cons_of_mem _ hf')) (by rw [hs]; omega) (by rw [hs]; omega), hs]
    unfold msF
    dsimp only
    by_cases hz : ogM T f = 1000000
    · have hbb : fnB (ogM T) f = false := decide_eq_false (fun z => z hz)
      rw [hbb, if_neg (show ¬ (¬ ogM T f = 1000000 ∧ a.2.1 < ogM T f) from fun z => z.1 hz), if_neg (show ¬ (false = true) by decide)]
      congr 1
      · congr 1
        split <;> omega
      · congr 1
        omega
    · have hbb : fnB (ogM T) f = true := decide_eq_true hz
      rw [hbb, if_pos rfl]
      congr 1
      · congr 1
        split <;> omega
      · congr 1
        · congr 1
          split <;> omega
        · omega
