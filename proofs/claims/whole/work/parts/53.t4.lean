/-! plans: the class's steps and the reference's codes have the same value -/
def pkL (hear : Int → Int) : List Int → List Int
  | [] => []
  | c :: rs => stR hear c (pkL hear rs)
def dpL : List Int → Nat
  | [] => 0
  | c :: rs => if 0 ≤ c then dpL rs + 1 else dpL rs - 1
def wfL : List Int → Prop
  | [] => True
  | c :: rs => wfL rs ∧ ((0 ≤ c ∧ c ≤ 499) ∨ ((c = -1 ∨ c = -2) ∧ 2 ≤ dpL rs))
theorem pkL_len (hear : Int → Int) : ∀ rc, wfL rc → (pkL hear rc).length = dpL rc
  | [], _ => rfl
  | c :: rs, h => by
    have ih := pkL_len hear rs h.1
    rw [pkL, dpL]
    unfold stR
    rcases h.2 with q | q
    · rw [if_pos q.1, if_pos q.1, List.length_cons, ih]
    · rw [if_neg (by omega), if_neg (by omega)]
      match hp : pkL hear rs with
      | [] => rw [hp] at ih; simp at ih; omega
      | [a] => rw [hp] at ih; simp at ih; omega
      | b :: a :: r => rw [hp] at ih; simp at ih ⊢; omega
/-- the class: levels, each the earliest and the latest -/
def stX (h : Int → Int) (c : Int) (st : List (Int × Int)) : List (Int × Int) := match st with
  | [] => []
  | q :: r => if 0 ≤ c then (q.1, max q.2 (h (c / 128) + c % 128)) :: r
    else if c = -3 then (min q.1 q.2, -1000000) :: r
    else if c = -1 then (1000000, -1000000) :: q :: r
    else match r with
      | [] => [q]
      | q2 :: r2 => (q2.1, max q2.2 (min q.1 q.2)) :: r2
def pkX (h : Int → Int) : List Int → List (Int × Int)
  | [] => [(1000000, -1000000)]
  | c :: xs => stX h c (pkX h xs)
/-- what is heard, as the class has it -/
def gdH (h : Int → Int) : Prop := ∀ s, 0 ≤ s → s < 5 → 1000000 ≤ h s ∨ (-5000 ≤ h s ∧ h s ≤ 5000)
def mnH (h : Int → Int) : Int → Int := fun s => min 1000000 (h s)
def lvR (u : Bool) (seg ops : List Int) (e l : Int) : Prop := (-1000000 ≤ l ∧ -1000000 ≤ e) ∧
  if u = true then (seg = [] ∧ ops = [] ∧ e = 1000000 ∧ l = -1000000) ∨ (seg = [-1] ∧ ∃ a, ops = [a] ∧ e = 1000000 ∧ a = min 1000000 l) ∨ (seg = [-2] ∧ ∃ a, ops = [a] ∧ e = a ∧ a ≤ 1000000 ∧ l = -1000000) ∨ (seg = [-1, -2] ∧ ∃ b a, ops = [b, a] ∧ e = a ∧ a ≤ 1000000 ∧ b = min 1000000 l)
  else (seg = [] ∧ ∃ x, ops = [x] ∧ e = 1000000 ∧ x = min 1000000 l) ∨ (seg = [-1] ∧ ∃ x a, ops = [x, a] ∧ e = 1000000 ∧ max a x = min 1000000 l) ∨ (seg = [-2] ∧ ∃ x a, ops = [x, a] ∧ e = a ∧ a ≤ 1000000 ∧ x = min 1000000 l) ∨ (seg = [-1, -2] ∧ ∃ x b a, ops = [x, b, a] ∧ e = a ∧ a ≤ 1000000 ∧ max b x = min 1000000 l)
def SR : Bool → List Int → List Int → List (Int × Int) → Prop
  | _, _, _, [] => False
  | u, wt, P, q :: X => ∃ seg rest ops P', wt = seg ++ rest ∧ P = ops ++ P' ∧ lvR u seg ops q.1 q.2 ∧ ((X = [] ∧ rest = [] ∧ P' = []) ∨ ∃ wt', rest = -3 :: wt' ∧ SR true wt' P' X)
theorem co_rest (l : Int) (hl : l = -1 ∨ l = -2) {rest : List Int} (hr : rest = [] ∨ ∃ w, rest = -3 :: w) (rc : List Int) : coF l rest rc = (rest, rc) := by
  rcases hr with rfl | ⟨w, rfl⟩
  · rfl
  · rw [coF, if_pos (by omega)]
theorem stR_op {hear : Int → Int} {c a b : Int} {r : List Int} (hc : c = -1 ∨ c = -2) : stR hear c (b :: a :: r) = (if c = -1 then max a b else min a b) :: r := by
  unfold stR
  rw [if_neg (by omega)]
theorem wfL_op {c : Int} {rc : List Int} {hear : Int → Int} {b a : Int} {r : List Int} (hc : c = -1 ∨ c = -2) (hw : wfL rc) (hp : pkL hear rc = b :: a :: r) : wfL (c :: rc) := by
  refine ⟨hw, Or.inr ⟨hc, ?_⟩⟩
  rw [← pkL_len hear rc hw, hp]
  simp
/-- all of a level comes out -/
theorem co2 {hear : Int → Int} {seg rest ops P' : List Int} {e l : Int} (hl : lvR false seg ops e l) (hr : rest = [] ∨ ∃ w, rest = -3 :: w) {rc : List Int} (hp : pkL hear rc = ops ++ P') (hw : wfL rc) : (coF (-2) (seg ++ rest) rc).1 = rest ∧ pkL hear (coF (-2) (seg ++ rest) rc).2 = min e l :: P' ∧ wfL (coF (-2) (seg ++ rest) rc).2 := by
  have cr := co_rest (-2) (Or.inr rfl) hr
  obtain ⟨h0, hl⟩ := hl
  rw [if_neg (by decide)] at hl
  rcases hl with ⟨rfl, x, rfl, he, hx⟩ | ⟨rfl, x, a, rfl, he, hx⟩ | ⟨rfl, x, a, rfl, he, ha, hx⟩ | ⟨rfl, x, b, a, rfl, he, ha, hx⟩
  · rw [List.nil_append, cr]
    refine ⟨rfl, ?_, hw⟩
    rw [hp, he, ← hx]; rfl
  · have hp' : pkL hear rc = x :: a :: P' := hp
    have e1 : coF (-2) ([-1] ++ rest) rc = (rest, -1 :: rc) := by
      show coF (-2) (-1 :: rest) rc = _
      rw [coF, if_neg (by decide), cr]
    rw [e1]
    refine ⟨rfl, ?_, wfL_op (Or.inl rfl) hw hp'⟩
    rw [pkL, hp', stR_op (Or.inl rfl), if_pos rfl, he, ← hx]
  · have hp' : pkL hear rc = x :: a :: P' := hp
    have e1 : coF (-2) ([-2] ++ rest) rc = (rest, -2 :: rc) := by
      show coF (-2) (-2 :: rest) rc = _
      rw [coF, if_neg (by decide), cr]
    rw [e1]
    refine ⟨rfl, ?_, wfL_op (Or.inr rfl) hw hp'⟩
    rw [pkL, hp', stR_op (Or.inr rfl), if_neg (by decide), he]
    congr 1
    omega
  · have hp' : pkL hear rc = x :: b :: a :: P' := hp
    have e1 : coF (-2) ([-1, -2] ++ rest) rc = (rest, -2 :: -1 :: rc) := by
      show coF (-2) (-1 :: -2 :: rest) rc = _
      rw [coF, if_neg (by decide), coF, if_neg (by decide), cr]
    rw [e1]
    have hw1 := wfL_op (c := -1) (Or.inl rfl) hw hp'
    have hp1 : pkL hear (-1 :: rc) = max b x :: a :: P' := by rw [pkL, hp', stR_op (Or.inl rfl), if_pos rfl]
    refine ⟨rfl, ?_, wfL_op (Or.inr rfl) hw1 hp1⟩
    rw [pkL, hp1, stR_op (Or.inr rfl), if_neg (by decide), he, hx]
    congr 1
    omega
/-- behind an and -/
theorem co1 {hear : Int → Int} {seg rest ops P' : List Int} {e l : Int} (hl : lvR false seg ops e l) (hr : rest = [] ∨ ∃ w, rest = -3 :: w) {rc : List Int} (hp : pkL hear rc = ops ++ P') (hw : wfL rc) : ∃ seg' ops', -1 :: (coF (-1) (seg ++ rest) rc).1 = seg' ++ rest ∧ pkL hear (coF (-1) (seg ++ rest) rc).2 = ops' ++ P' ∧ lvR true seg' ops' e l ∧ wfL (coF (-1) (seg ++ rest) rc).2 := by
  have cr := co_rest (-1) (Or.inl rfl) hr
  obtain ⟨h0, hl⟩ := hl
  rw [if_neg (by decide)] at hl
  rcases hl with ⟨rfl, x, rfl, he, hx⟩ | ⟨rfl, x, a, rfl, he, hx⟩ | ⟨rfl, x, a, rfl, he, ha, hx⟩ | ⟨rfl, x, b, a, rfl, he, ha, hx⟩
  · rw [List.nil_append, cr]
    exact ⟨[-1], [x], rfl, hp, ⟨h0, by rw [if_pos rfl]; exact Or.inr (Or.inl ⟨rfl, x, rfl, he, hx⟩)⟩, hw⟩
  · have hp' : pkL hear rc = x :: a :: P' := hp
    have e1 : coF (-1) ([-1] ++ rest) rc = (rest, -1 :: rc) := by
      show coF (-1) (-1 :: rest) rc = _
      rw [coF, if_neg (by decide), cr]
    rw [e1]
    refine ⟨[-1], [max a x], rfl, ?_, ⟨h0, by rw [if_pos rfl]; exact Or.inr (Or.inl ⟨rfl, _, rfl, he, hx⟩)⟩, wfL_op (Or.inl rfl) hw hp'⟩
    rw [pkL, hp', stR_op (Or.inl rfl), if_pos rfl]; rfl
  · have e1 : coF (-1) ([-2] ++ rest) rc = (-2 :: rest, rc) := by
      show coF (-1) (-2 :: rest) rc = _
      rw [coF, if_pos (by decide)]
    rw [e1]
    exact ⟨[-1, -2], [x, a], rfl, hp, ⟨h0, by rw [if_pos rfl]; exact Or.inr (Or.inr (Or.inr ⟨rfl, x, a, rfl, he, ha, hx⟩))⟩, hw⟩
  · have hp' : pkL hear rc = x :: b :: a :: P' := hp
    have e1 : coF (-1) ([-1, -2] ++ rest) rc = (-2 :: rest, -1 :: rc) := by
      show coF (-1) (-1 :: -2 :: rest) rc = _
      rw [coF, if_neg (by decide), coF, if_pos (by decide)]
    rw [e1]
    refine ⟨[-1, -2], [max b x, a], rfl, ?_, ⟨h0, by rw [if_pos rfl]; exact Or.inr (Or.inr (Or.inr ⟨rfl, _, a, rfl, he, ha, hx⟩))⟩, wfL_op (Or.inl rfl) hw hp'⟩
    rw [pkL, hp', stR_op (Or.inl rfl), if_pos rfl]; rfl
/-- a unit comes to a level -/
theorem lv_unit {seg ops : List Int} {e l v p : Int} (hl : lvR true seg ops e l) (hv : v = min 1000000 p) (hp : -1000000 ≤ p) : lvR false seg (v :: ops) e (max l p) := by
  obtain ⟨h0, hl⟩ := hl
  rw [if_pos rfl] at hl
  refine ⟨by omega, ?_⟩
  rw [if_neg (by decide)]
  rcases hl with ⟨rfl, rfl, he, hx⟩ | ⟨rfl, a, rfl, he, hx⟩ | ⟨rfl, a, rfl, he, ha, hx⟩ | ⟨rfl, b, a, rfl, he, ha, hx⟩
  · exact Or.inl ⟨rfl, v, rfl, he, by omega⟩
  · exact Or.inr (Or.inl ⟨rfl, v, a, rfl, he, by omega⟩)
  · exact Or.inr (Or.inr (Or.inl ⟨rfl, v, a, rfl, he, ha, by omega⟩))
  · exact Or.inr (Or.inr (Or.inr ⟨rfl, v, b, a, rfl, he, ha, by omega⟩))
theorem rest_of {X : List (Int × Int)} {rest P' : List Int} (h : (X = [] ∧ rest = [] ∧ P' = []) ∨ ∃ wt', rest = -3 :: wt' ∧ SR true wt' P' X) : rest = [] ∨ ∃ w, rest = -3 :: w := by
  rcases h with h | ⟨w, h, _⟩
  · exact Or.inl h.2.1
  · exact Or.inr ⟨w, h⟩
/-- a letter -/
theorem SR_unit {wt P : List Int} {X : List (Int × Int)} {v p : Int} (h : SR true wt P X) (hv : v = min 1000000 p) (hp : -1000000 ≤ p) : ∃ q r, X = q :: r ∧ SR false wt (v :: P) ((q.1, max q.2 p) :: r) := by
  match X, h with
  | q :: r, ⟨seg, rest, ops, P', h1, h2, h3, h4⟩ =>
    exact ⟨q, r, rfl, seg, rest, v :: ops, P', h1, by rw [h2]; rfl, lv_unit h3 hv hp, h4⟩
/-- what an inner plan comes to -/
theorem lv_val {seg ops : List Int} {e l : Int} (hl : lvR false seg ops e l) : min e l ≤ 1000000 ∧ -1000000 ≤ min e l := by
  obtain ⟨h0, hl⟩ := hl
  rw [if_neg (by decide)] at hl
  rcases hl with ⟨rfl, x, rfl, he, hx⟩ | ⟨rfl, x, a, rfl, he, hx⟩ | ⟨rfl, x, a, rfl, he, ha, hx⟩ | ⟨rfl, x, b, a, rfl, he, ha, hx⟩ <;> omega
def lvL : List Int → Nat
  | [] => 1
  | c :: xs => if c = -1 then lvL xs + 1 else if c = -2 then lvL xs - 1 else lvL xs
def wfX : List Int → Prop
  | [] => True
  | c :: xs => wfX xs ∧ ((0 ≤ c ∧ c / 128 < 5 ∧ c % 128 ≤ 99) ∨ c = -1 ∨ c = -2 ∨ c = -3) ∧ (c = -1 → lvL xs ≤ 6) ∧ (c = -2 → 2 ≤ lvL xs)
theorem pkX_len (h : Int → Int) : ∀ xs, wfX xs → (pkX h xs).length = lvL xs ∧ 1 ≤ lvL xs
  | [], _ => ⟨rfl, Nat.le_refl 1⟩
  | c :: xs, hw => by
    obtain ⟨ih, i1⟩ := pkX_len h xs hw.1
    rw [pkX, lvL]
    match hp : pkX h xs with
    | [] => rw [hp] at ih; simp at ih; omega
    | q :: r =>
      rw [hp] at ih
      rw [List.length_cons] at ih
      unfold stX
      rcases hw.2.1 with z | z | z | z
      · rw [if_neg (by omega), if_neg (by omega)]
        dsimp only
        rw [if_pos z.1, List.length_cons]
        omega
      · subst z
        rw [if_pos rfl]
        dsimp only
        rw [if_neg (by decide), if_neg (by decide), if_pos rfl]
        simp
        omega
      · subst z
        have h2 := hw.2.2.2 rfl
        rw [if_neg (by decide), if_pos rfl]
        dsimp only
        rw [if_neg (by decide), if_neg (by decide), if_neg (by decide)]
        match r with
        | [] => simp at ih; omega
        | q2 :: r2 => simp at ih ⊢; omega
      · subst z
        rw [if_neg (by decide), if_neg (by decide)]
        dsimp only
        rw [if_neg (by decide), if_pos rfl, List.length_cons]
        omega
def lok (xs : List Int) (lt : Int) : Prop := ∃ x : Nat, lt = x ∧ x < 32 ∧ ∀ c ∈ xs, 0 ≤ c → x.testBit (c / 128).toNat = true
theorem lok_m {xs : List Int} {lt c : Int} (h : lok xs lt) (hc : c < 0) : lok (c :: xs) lt := by
  obtain ⟨x, h1, h2, h3⟩ := h
  exact ⟨x, h1, h2, fun c' hc' h0 => by
    rcases List.mem_cons.mp hc' with z | z
    · omega
    · exact h3 c' z h0⟩
theorem lok_s {xs : List Int} {lt s v : Int} (h : lok xs lt) (hs : 0 ≤ s ∧ s < 5) (hv : 0 ≤ v ∧ v ≤ 99) : lok ((128 * s + v) :: xs) (ior lt (ishl 1 s)) := by
  obtain ⟨x, h1, h2, h3⟩ := h
  obtain ⟨k, rfl⟩ : ∃ k : Nat, s = k := ⟨s.toNat, by omega⟩
  have hp : 2 ^ k ≤ 2 ^ 4 := Nat.pow_le_pow_right (by omega) (by omega)
  rw [h1, ishl_nat (by omega), ior_nat (by omega) (by omega)]
  refine ⟨_, rfl, Nat.or_lt_two_pow (n := 5) h2 (by omega), fun c' hc' h0 => ?_⟩
  rw [Nat.testBit_or, Nat.testBit_two_pow]
  rcases List.mem_cons.mp hc' with z | z
  · have : (c' / 128).toNat = k := by omega
    rw [this]; simp
  · rw [h3 c' z h0]; simp
/-- what holds of a plan that is being read -/
def JT (n : Int) (u : Bool) (q : PT) : Prop := (0 ≤ q.1.1 ∧ q.1.1 ≤ n) ∧ (0 ≤ q.1.2 ∧ q.1.2 ≤ 6) ∧ (q.2.1.1.length : Int) + q.2.1.2.length ≤ q.1.1 ∧ (q.2.2.1.length : Int) ≤ q.1.1 ∧ wfL q.2.1.2 ∧ wfX q.2.2.1 ∧ (lvL q.2.2.1 : Int) = q.1.2 + 1 ∧ lok q.2.2.1 q.2.2.2 ∧ ∀ h, gdH h → SR u q.2.1.1 (pkL (mnH h) q.2.1.2) (pkX h q.2.2.1)
/-- what holds of a plan -/
def FT (n : Int) (q : PT) : Prop := (q.2.1.2.length : Int) ≤ n ∧ 1 ≤ q.2.1.2.length ∧ (q.2.2.1.length : Int) ≤ n ∧ wfL q.2.1.2 ∧ dpL q.2.1.2 = 1 ∧ wfX q.2.2.1 ∧ lok q.2.2.1 q.2.2.2 ∧ ∀ h, gdH h → ∃ e l, pkX h q.2.2.1 = [(e, l)] ∧ pkL (mnH h) q.2.1.2 = [min e l]
theorem gd0 : gdH (fun _ => 0) := fun s _ _ => Or.inr ⟨show (-5000 : Int) ≤ 0 by decide, show (0 : Int) ≤ 5000 by decide⟩
theorem JT_0 {n : Int} (hn : 0 ≤ n) : JT n true q0 := by
  refine ⟨⟨Int.le_refl _, hn⟩, ⟨Int.le_refl _, by decide⟩, Int.le_refl _, Int.le_refl _, trivial, trivial, rfl, ⟨0, rfl, by decide, fun c hc => absurd hc (by simp [q0])⟩, fun h _ => ?_⟩
  exact ⟨[], [], [], [], rfl, rfl, ⟨⟨Int.le_refl _, by decide⟩, by rw [if_pos rfl]; exact Or.inl ⟨rfl, rfl, rfl, rfl⟩⟩, Or.inl ⟨rfl, rfl, rfl⟩⟩
/-- the reference's value of a letter -/
theorem pk_let {h : Int → Int} (hg : gdH h) {s v : Int} (hs : 0 ≤ s ∧ s < 5) (hv : 0 ≤ v ∧ v ≤ 99) (rc : List Int) (xs : List Int) {q : Int × Int} {r : List (Int × Int)} (hx : pkX h xs = q :: r) : pkL (mnH h) ((100 * s + v) :: rc) = min 1000000 (h s + v) :: pkL (mnH h) rc ∧ pkX h ((128 * s + v) :: xs) = (q.1, max q.2 (h s + v)) :: r ∧ -1000000 ≤ h s + v := by
  have g := hg s hs.1 hs.2
  refine ⟨?_, ?_, by omega⟩
  · rw [pkL]
    unfold stR mnH
    rw [if_pos (by omega), show (100 * s + v) / 100 = s by omega, show (100 * s + v) % 100 = v by omega]
    congr 1
    split <;> omega
  · rw [pkX, hx]
    unfold stX
    dsimp only
    rw [if_pos (by omega), show (128 * s + v) / 128 = s by omega, show (128 * s + v) % 128 = v by omega]
theorem JT_let {n a' s v : Int} {q : PT} (hq : JT n true q) (hs : 0 ≤ s ∧ s < 5) (hv : 0 ≤ v ∧ v ≤ 99) (ha : q.1.1 < a' ∧ a' ≤ n) : JT n false ((a', q.1.2), (q.2.1.1, (100 * s + v) :: q.2.1.2), ((128 * s + v) :: q.2.2.1, ior q.2.2.2 (ishl 1 s))) := by
  obtain ⟨h1, h2, h3, h4, h5, h6, h7, h8, h9⟩ := hq
  refine ⟨by dsimp only; omega, h2, by dsimp only; rw [List.length_cons]; push_cast; omega, by dsimp only; rw [List.length_cons]; push_cast; omega, ⟨h5, Or.inl (by omega)⟩, ⟨h6, Or.inl (by omega), fun z => absurd z (by omega), fun z => absurd z (by omega)⟩, ?_, lok_s h8 hs hv, fun h hg => ?_⟩
  · dsimp only
    rw [lvL, if_neg (by omega), if_neg (by omega)]
    exact h7
  · have g := h9 h hg
    dsimp only
    match hx : pkX h q.2.2.1, g with
    | q' :: r, g =>
      obtain ⟨p1, p2, p3⟩ := pk_let hg hs hv q.2.1.2 q.2.2.1 hx
      obtain ⟨q2, r2, e1, e2⟩ := SR_unit g rfl p3
      cases e1
      rw [p1, p2]
      exact e2
theorem JT_in {n s : Int} {q : PT} (hq : JT n true q) (h6' : q.1.2 < 6) (ha : q.1.1 ≤ s ∧ s + 1 ≤ n) : JT n true ((s + 1, q.1.2 + 1), (-3 :: q.2.1.1, q.2.1.2), (-1 :: q.2.2.1, q.2.2.2)) := by
  obtain ⟨h1, h2, h3, h4, h5, h6, h7, h8, h9⟩ := hq
  refine ⟨by dsimp only; omega, by dsimp only; omega, by dsimp only; rw [List.length_cons]; push_cast; omega, by dsimp only; rw [List.length_cons]; push_cast; omega, h5, ⟨h6, Or.inr (Or.inl rfl), fun _ => by omega, fun z => absurd z (by decide)⟩, ?_, lok_m h8 (by decide), fun h hg => ?_⟩
  · dsimp only
    rw [lvL, if_pos rfl]
    push_cast
    omega
  · have g := h9 h hg
    dsimp only
    match hx : pkX h q.2.2.1, g with
    | q' :: r, g =>
      have e : pkX h (-1 :: q.2.2.1) = (1000000, -1000000) :: q' :: r := by
        rw [pkX, hx]; rfl
      rw [e]
      exact ⟨[], -3 :: q.2.1.1, [], pkL (mnH h) q.2.1.2, rfl, rfl, ⟨⟨Int.le_refl _, by decide⟩, by rw [if_pos rfl]; exact Or.inl ⟨rfl, rfl, rfl, rfl⟩⟩, Or.inr ⟨q.2.1.1, rfl, g⟩⟩
theorem JT_out {n s : Int} {q : PT} (hq : JT n false q) (h0 : 0 < q.1.2) (ha : q.1.1 ≤ s ∧ s + 1 ≤ n) : JT n false ((s + 1, q.1.2 - 1), ((coF (-2) q.2.1.1 q.2.1.2).1.tail, (coF (-2) q.2.1.1 q.2.1.2).2), (-2 :: q.2.2.1, q.2.2.2)) := by
  obtain ⟨h1, h2, h3, h4, h5, h6, h7, h8, h9⟩ := hq
  have hlen := coF_len (-2) q.2.1.1 q.2.1.2
  have hl2 : 2 ≤ lvL q.2.2.1 := by omega
  have key : ∀ h, gdH h → wfL (coF (-2) q.2.1.1 q.2.1.2).2 ∧ SR false (coF (-2) q.2.1.1 q.2.1.2).1.tail (pkL (mnH h) (coF (-2) q.2.1.1 q.2.1.2).2) (pkX h (-2 :: q.2.2.1)) := by
    intro h hg
    have g := h9 h hg
    have hxl := (pkX_len h _ h6).1
    match hx : pkX h q.2.2.1, g, hxl with
    | q' :: r, ⟨seg, rest, ops, P', w1, w2, w3, w4⟩, hxl =>
      obtain ⟨c1, c2, c3⟩ := co2 w3 (rest_of w4) w2 h5
      rw [← w1] at c1 c2 c3
      refine ⟨c3, ?_⟩
      rcases w4 with w4 | ⟨wt', w5, w6⟩
      · rw [w4.1] at hxl; simp at hxl; omega
      · match r, w6 with
        | q2 :: r2, w6 =>
          have e : pkX h (-2 :: q.2.2.1) = (q2.1, max q2.2 (min q'.1 q'.2)) :: r2 := by
            rw [pkX, hx]; rfl
          have hv := lv_val w3
          obtain ⟨q3, r3, e1, e2⟩ := SR_unit (v := min q'.1 q'.2) (p := min q'.1 q'.2) w6 (by omega) hv.2
          cases e1
          rw [e, c1, c2, w5]
          exact e2
  refine ⟨by dsimp only; omega, by dsimp only; omega, ?_, by dsimp only; rw [List.length_cons]; push_cast; omega, (key _ gd0).1, ⟨h6, Or.inr (Or.inr (Or.inl rfl)), fun z => absurd z (by decide), fun _ => hl2⟩, ?_, lok_m h8 (by decide), fun h hg => (key h hg).2⟩
  · dsimp only
    rw [List.length_tail]
    omega
  · dsimp only
    rw [lvL, if_neg (by decide), if_pos rfl]
    omega
theorem JT_and {n s : Int} {q : PT} (hq : JT n false q) (ha : q.1.1 ≤ s ∧ s + 1 ≤ n) : JT n true ((s + 1, q.1.2), (-1 :: (coF (-1) q.2.1.1 q.2.1.2).1, (coF (-1) q.2.1.1 q.2.1.2).2), (q.2.2.1, q.2.2.2)) := by
  obtain ⟨h1, h2, h3, h4, h5, h6, h7, h8, h9⟩ := hq
  have hlen := coF_len (-1) q.2.1.1 q.2.1.2
  have key : ∀ h, gdH h → wfL (coF (-1) q.2.1.1 q.2.1.2).2 ∧ SR true (-1 :: (coF (-1) q.2.1.1 q.2.1.2).1) (pkL (mnH h) (coF (-1) q.2.1.1 q.2.1.2).2) (pkX h q.2.2.1) := by
    intro h hg
    have g := h9 h hg
    match hx : pkX h q.2.2.1, g with
    | q' :: r, ⟨seg, rest, ops, P', w1, w2, w3, w4⟩ =>
      obtain ⟨seg', ops', c1, c2, c3, c4⟩ := co1 w3 (rest_of w4) w2 h5
      rw [← w1] at c1 c2 c4
      exact ⟨c4, seg', rest, ops', P', c1, c2, c3, w4⟩
  refine ⟨by dsimp only; omega, h2, by dsimp only; rw [List.length_cons]; push_cast; omega, by dsimp only; omega, (key _ gd0).1, h6, h7, h8, fun h hg => (key h hg).2⟩
theorem JT_or {n s : Int} {q : PT} (hq : JT n false q) (ha : q.1.1 ≤ s ∧ s + 1 ≤ n) : JT n true ((s + 1, q.1.2), (-2 :: (coF (-2) q.2.1.1 q.2.1.2).1, (coF (-2) q.2.1.1 q.2.1.2).2), (-3 :: q.2.2.1, q.2.2.2)) := by
  obtain ⟨h1, h2, h3, h4, h5, h6, h7, h8, h9⟩ := hq
  have hlen := coF_len (-2) q.2.1.1 q.2.1.2
  have key : ∀ h, gdH h → wfL (coF (-2) q.2.1.1 q.2.1.2).2 ∧ SR true (-2 :: (coF (-2) q.2.1.1 q.2.1.2).1) (pkL (mnH h) (coF (-2) q.2.1.1 q.2.1.2).2) (pkX h (-3 :: q.2.2.1)) := by
    intro h hg
    have g := h9 h hg
    match hx : pkX h q.2.2.1, g with
    | q' :: r, ⟨seg, rest, ops, P', w1, w2, w3, w4⟩ =>
      obtain ⟨c1, c2, c3⟩ := co2 w3 (rest_of w4) w2 h5
      rw [← w1] at c1 c2 c3
      have hv := lv_val w3
      have e : pkX h (-3 :: q.2.2.1) = (min q'.1 q'.2, -1000000) :: r := by
        rw [pkX, hx]; rfl
      rw [e, c1, c2]
      exact ⟨c3, [-2], rest, [min q'.1 q'.2], P', rfl, rfl, ⟨⟨Int.le_refl _, hv.2⟩, by rw [if_pos rfl]; exact Or.inr (Or.inr (Or.inl ⟨rfl, _, rfl, rfl, hv.1, rfl⟩))⟩, w4⟩
  refine ⟨by dsimp only; omega, h2, by dsimp only; rw [List.length_cons]; push_cast; omega, by dsimp only; rw [List.length_cons]; push_cast; omega, (key _ gd0).1, ⟨h6, Or.inr (Or.inr (Or.inr rfl)), fun z => absurd z (by decide), fun z => absurd z (by decide)⟩, ?_, lok_m h8 (by decide), fun h hg => (key h hg).2⟩
  dsimp only
  rw [lvL, if_neg (by decide), if_neg (by decide)]
  exact h7
theorem FT_end {n a : Int} {q : PT} (hq : JT n false q) (h0 : ¬ 0 < q.1.2) : FT n ((a, q.1.2), coF (-2) q.2.1.1 q.2.1.2, q.2.2) := by
  obtain ⟨h1, h2, h3, h4, h5, h6, h7, h8, h9⟩ := hq
  have hlen := coF_len (-2) q.2.1.1 q.2.1.2
  have key : ∀ h, gdH h → wfL (coF (-2) q.2.1.1 q.2.1.2).2 ∧ ∃ e l, pkX h q.2.2.1 = [(e, l)] ∧ pkL (mnH h) (coF (-2) q.2.1.1 q.2.1.2).2 = [min e l] := by
    intro h hg
    have g := h9 h hg
    have hxl := (pkX_len h _ h6).1
    match hx : pkX h q.2.2.1, g, hxl with
    | q' :: r, ⟨seg, rest, ops, P', w1, w2, w3, w4⟩, hxl =>
      obtain ⟨c1, c2, c3⟩ := co2 w3 (rest_of w4) w2 h5
      rw [← w1] at c1 c2 c3
      have hr : r = [] := by
        cases r with
        | nil => rfl
        | cons x y => simp at hxl; omega
      subst hr
      rcases w4 with w4 | ⟨wt', w5, w6⟩
      · rw [w4.2.2] at c2
        exact ⟨c3, q'.1, q'.2, rfl, c2⟩
      · exact absurd w6 (by simp [SR])
  have k0 := key _ gd0
  obtain ⟨e, l, k1, k2⟩ := k0.2
  have hd := pkL_len (mnH (fun _ => 0)) _ k0.1
  rw [k2] at hd
  refine ⟨by dsimp only; omega, ?_, by dsimp only; omega, k0.1, hd.symm, h6, h8, fun h hg => (key h hg).2⟩
  dsimp only
  cases hz : (coF (-2) q.2.1.1 q.2.1.2).2 with
  | nil => rw [hz] at k2; simp [pkL] at k2
  | cons x y => simp
theorem plR_inv {t : Int → Int} {n : Int} : ∀ (d : Nat) (u : Bool) (q : PT), n - q.1.1 < d → JT n u q → (plR t n d u q).1 = -1 → FT n (plR t n d u q).2
  | 0, u, q, hd, hq, _ => by have := hq.1; omega
  | d + 1, true, q, hd, hq, hw => by
    have hsb := sk_b t n q.1.1
    have hq1 := hq.1
    rw [plR] at hw ⊢
    have chn : 0 ≤ ch t n (sk t n q.1.1) → sk t n q.1.1 < n := fun h => by
      unfold ch at h
      by_cases z : sk t n q.1.1 < n
      · exact z
      · rw [if_neg z] at h; exact absurd h (by decide)
    generalize sk t n q.1.1 = s at *
    generalize ch t n s = c at *
    by_cases g1 : c = 40 ∧ q.1.2 < 6
    · rw [if_pos g1] at hw ⊢
      have := chn (by omega)
      exact plR_inv d true _ (by dsimp only; omega) (JT_in hq g1.2 (by omega)) hw
    · rw [if_neg g1] at hw ⊢
      by_cases g2 : 97 ≤ c ∧ c ≤ 101
      · rw [if_pos g2] at hw ⊢
        have hsn := chn (by omega)
        have hsb2 := sk_b t n (s + 1)
        generalize hb : sk t n (s + 1) = b at *
        by_cases g3 : ch t n b = 43
        · rw [if_pos g3] at hw ⊢
          by_cases g4 : nmW t n 0 99 (b + 1) = -1
          · rw [if_pos g4] at hw ⊢
            have hf := nm_fine (by omega) g4
            exact plR_inv d false _ (by dsimp only; omega) (JT_let hq (by omega) ⟨hf.2.2.1, hf.2.2.2.1⟩ ⟨by omega, hf.2.2.2.2.2⟩) hw
          · rw [if_neg g4] at hw
            exact absurd hw g4
        · rw [if_neg g3] at hw ⊢
          have hJ := JT_let (s := c - 97) (v := 0) (a' := b) hq (by omega) (by omega) (by omega)
          rw [Int.add_zero, Int.add_zero] at hJ
          exact plR_inv d false _ (by dsimp only; omega) hJ hw
      · rw [if_neg g2] at hw
        exact absurd hw (by dsimp only; omega)
  | d + 1, false, q, hd, hq, hw => by
    have hsb := sk_b t n q.1.1
    have hq1 := hq.1
    rw [plR] at hw ⊢
    have chn : 0 ≤ ch t n (sk t n q.1.1) → sk t n q.1.1 < n := fun h => by
      unfold ch at h
      by_cases z : sk t n q.1.1 < n
      · exact z
      · rw [if_neg z] at h; exact absurd h (by decide)
    generalize sk t n q.1.1 = s at *
    generalize ch t n s = c at *
    by_cases g1 : c = 41 ∧ 0 < q.1.2
    · rw [if_pos g1] at hw ⊢
      have := chn (by omega)
      exact plR_inv d false _ (by dsimp only; omega) (JT_out hq g1.2 (by omega)) hw
    · rw [if_neg g1] at hw ⊢
      by_cases g2 : c = -1
      · rw [if_pos g2] at hw ⊢
        by_cases g3 : 0 < q.1.2
        · rw [if_pos g3] at hw
          exact absurd hw (by dsimp only; omega)
        · rw [if_neg g3]
          have := FT_end (a := s) hq g3
          exact this
      · rw [if_neg g2] at hw ⊢
        by_cases g3 : c = 38 ∨ c = 124
        · rw [if_pos g3] at hw ⊢
          have := chn (by omega)
          rcases g3 with g3 | g3
          · subst g3
            have hJ := JT_and (s := s) hq (by omega)
            exact plR_inv d true _ (by dsimp only; omega) hJ hw
          · subst g3
            have hJ := JT_or (s := s) hq (by omega)
            exact plR_inv d true _ (by dsimp only; omega) hJ hw
        · rw [if_neg g3] at hw
          exact absurd hw (by dsimp only; omega)
/-- a plan that is read -/
theorem rdT_ok {t : Int → Int} {n : Int} (hn : 0 ≤ n) (hw : (rdT t n).1 = -1) : FT n (rdT t n).2 := plR_inv _ true q0 (by show n - 0 < _; omega) (JT_0 hn) hw
