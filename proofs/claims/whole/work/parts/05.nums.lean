/-! numbers: 32 and 64 bits -/
theorem toInt_i32 (v : Int) : (Int32.ofInt v).toInt = i32 v := by
  rw [Int32.toInt_ofInt]
  simp only [Int.bmod, i32, Int32.size]
  split <;> omega
theorem toInt_i64 (v : Int) : (Int64.ofInt v).toInt = i64 v := by
  rw [Int64.toInt_ofInt]
  simp only [Int.bmod, i64, Int64.size]
  split <;> omega
theorem ofInt_i32 (v : Int) : Int32.ofInt (i32 v) = Int32.ofInt v := by rw [← toInt_i32, Int32.ofInt_toInt]
theorem ofInt_i64 (v : Int) : Int64.ofInt (i64 v) = Int64.ofInt v := by rw [← toInt_i64, Int64.ofInt_toInt]
theorem can32 {v : Int} : i32 v = v ↔ -2147483648 ≤ v ∧ v ≤ 2147483647 := by unfold i32; omega
theorem can64 {v : Int} : i64 v = v ↔ -9223372036854775808 ≤ v ∧ v ≤ 9223372036854775807 := by unfold i64; omega
theorem i32_id {v : Int} (h : -2147483648 ≤ v) (h2 : v ≤ 2147483647) : i32 v = v := can32.mpr ⟨h, h2⟩
theorem i64_id {v : Int} (h : -9223372036854775808 ≤ v) (h2 : v ≤ 9223372036854775807) : i64 v = v := can64.mpr ⟨h, h2⟩
theorem i32_i32 (v : Int) : i32 (i32 v) = i32 v := by unfold i32; omega
theorem i64_i64 (v : Int) : i64 (i64 v) = i64 v := by unfold i64; omega
theorem can_toInt32 (x : Int32) : i32 x.toInt = x.toInt := by rw [← toInt_i32, Int32.ofInt_toInt]
theorem can_toInt64 (x : Int64) : i64 x.toInt = x.toInt := by rw [← toInt_i64, Int64.ofInt_toInt]
theorem i64_of32 {v : Int} (h : i32 v = v) : i64 v = v := by rw [can32] at h; rw [can64]; omega
theorem lt32 {a b : Int} (ha : i32 a = a) (hb : i32 b = b) : Int32.ofInt a < Int32.ofInt b ↔ a < b := by rw [Int32.lt_iff_toInt_lt, toInt_i32, toInt_i32, ha, hb]
theorem le32 {a b : Int} (ha : i32 a = a) (hb : i32 b = b) : Int32.ofInt a ≤ Int32.ofInt b ↔ a ≤ b := by rw [Int32.le_iff_toInt_le, toInt_i32, toInt_i32, ha, hb]
theorem eq32 {a b : Int} (ha : i32 a = a) (hb : i32 b = b) : Int32.ofInt a = Int32.ofInt b ↔ a = b := by rw [← Int32.toInt_inj, toInt_i32, toInt_i32, ha, hb]
theorem eq64 {a b : Int} (ha : i64 a = a) (hb : i64 b = b) : Int64.ofInt a = Int64.ofInt b ↔ a = b := by rw [← Int64.toInt_inj, toInt_i64, toInt_i64, ha, hb]
theorem lt64 {a b : Int} (ha : i64 a = a) (hb : i64 b = b) : Int64.ofInt a < Int64.ofInt b ↔ a < b := by rw [Int64.lt_iff_toInt_lt, toInt_i64, toInt_i64, ha, hb]
theorem of0 : (0 : Int32) = Int32.ofInt 0 := rfl
theorem c0 : i32 0 = 0 := rfl
theorem clamp32 {i : Int} (hi : i32 i = i) (h : 0 ≤ i) : (Int32.ofInt i).toNatClampNeg = i.toNat := by
  rw [can32] at hi
  exact Int32.toNatClampNeg_ofInt_of_le (by omega) (by omega)
theorem vpin {i : Int} {n : Nat} (hi : i32 i = i) (h : 0 ≤ i ∧ i < (n : Int)) : vp_in (Int32.ofInt i) n := by
  rw [vp_in_iff, toInt_i32, hi]
  exact h
theorem Int32_0 {b : Int} (hb : i32 b = b) (h : ¬ b = 0) : ¬ Int32.ofInt b = 0 := fun q => h ((eq32 hb c0).mp q)
theorem Int64_0 {b : Int} (hb : i64 b = b) (h : ¬ b = 0) : ¬ Int64.ofInt b = 0 := fun q => h ((eq64 hb (by rfl)).mp q)
theorem of_lcmp {a b : Int} (ha : i64 a = a) (hb : i64 b = b) : lg_cmp (Int64.ofInt a) (Int64.ofInt b) = Int32.ofInt (jcmp a b) := by
  unfold lg_cmp jcmp
  simp only [lt64 hb ha, eq64 ha hb]
  split
  · rfl
  · split <;> rfl
theorem can_jcmp (a b : Int) : i32 (jcmp a b) = jcmp a b := by
  unfold jcmp
  split
  · rfl
  · split <;> rfl
theorem of_max {a b : Int} (ha : i32 a = a) (hb : i32 b = b) : (if Int32.ofInt a < Int32.ofInt b then Int32.ofInt b else Int32.ofInt a) = Int32.ofInt (max a b) := by
  by_cases h : a < b
  · rw [if_pos ((lt32 ha hb).mpr h), Int.max_eq_right (by omega)]
  · rw [if_neg (fun q => h ((lt32 ha hb).mp q)), Int.max_eq_left (by omega)]
/-! locals and stack -/
theorem pI_spec {st : List AV} {f : Int → List AV → Prop} (h : pI st f) : ∃ a r, st = .inl a :: r ∧ f a r := by
  unfold pI at h
  split at h
  · exact ⟨_, _, rfl, h⟩
  · exact h.elim
theorem pII_spec {st : List AV} {f : Int → Int → List AV → Prop} (h : pII st f) : ∃ a b r, st = .inl b :: .inl a :: r ∧ f a b r := by
  unfold pII at h
  split at h
  · exact ⟨_, _, _, rfl, h⟩
  · exact h.elim
theorem pJ_spec {st : List AV} {f : Int → List AV → Prop} (h : pJ st f) : ∃ a r, st = .inr (.inl a) :: r ∧ f a r := by
  unfold pJ at h
  split at h
  · exact ⟨_, _, rfl, h⟩
  · exact h.elim
theorem pJJ_spec {st : List AV} {f : Int → Int → List AV → Prop} (h : pJJ st f) : ∃ a b r, st = .inr (.inl b) :: .inr (.inl a) :: r ∧ f a b r := by
  unfold pJJ at h
  split at h
  · exact ⟨_, _, _, rfl, h⟩
  · exact h.elim
theorem pIJ_spec {st : List AV} {f : Int → Int → List AV → Prop} (h : pIJ st f) : ∃ a b r, st = .inl b :: .inr (.inl a) :: r ∧ f a b r := by
  unfold pIJ at h
  split at h
  · exact ⟨_, _, _, rfl, h⟩
  · exact h.elim
theorem pR_spec {st : List AV} {f : Nat → List AV → Prop} (h : pR st f) : ∃ a r, st = .inr (.inr a) :: r ∧ f a r := by
  unfold pR at h
  split at h
  · exact ⟨_, _, rfl, h⟩
  · exact h.elim
theorem pIR_spec {st : List AV} {f : Int → Nat → List AV → Prop} (h : pIR st f) : ∃ i c r, st = .inl i :: .inr (.inr c) :: r ∧ f i c r := by
  unfold pIR at h
  split at h
  · exact ⟨_, _, _, rfl, h⟩
  · exact h.elim
theorem pN_spec {f : List AV → List AV → Prop} : ∀ (n : Nat) (st acc : List AV), pN n st acc f → ∃ as r, as.length = n ∧ st = as.reverse ++ r ∧ f (as ++ acc) r
  | 0, st, acc, h => ⟨[], st, rfl, rfl, h⟩
  | n + 1, v :: st, acc, h => by
    obtain ⟨as, r, h1, h2, h3⟩ := pN_spec n st (v :: acc) h
    exact ⟨as ++ [v], r, by simp [h1], by simp [h2], by simpa using h3⟩
  | n + 1, [], acc, h => False.elim h
theorem ldI_spec {f : Int → Prop} : ∀ (L : LL) (i : Nat), ldI L i f → ∃ a, L[i]? = some (some (.inl a)) ∧ f a
  | [], _, h => False.elim h
  | some (.inl a) :: _, 0, h => ⟨a, rfl, h⟩
  | some (.inr _) :: _, 0, h => False.elim h
  | none :: _, 0, h => False.elim h
  | x :: L, i + 1, h => by
    obtain ⟨a, h1, h2⟩ := ldI_spec L i h
    exact ⟨a, by simpa using h1, h2⟩
theorem ldJ_spec {f : Int → Prop} : ∀ (L : LL) (i : Nat), ldJ L i f → ∃ a, L[i]? = some (some (.inr (.inl a))) ∧ f a
  | [], _, h => False.elim h
  | some (.inr (.inl a)) :: _, 0, h => ⟨a, rfl, h⟩
  | some (.inr (.inr _)) :: _, 0, h => False.elim h
  | some (.inl _) :: _, 0, h => False.elim h
  | none :: _, 0, h => False.elim h
  | x :: L, i + 1, h => by
    obtain ⟨a, h1, h2⟩ := ldJ_spec L i h
    exact ⟨a, by simpa using h1, h2⟩
theorem ldR_spec {f : Nat → Prop} : ∀ (L : LL) (i : Nat), ldR L i f → ∃ a, L[i]? = some (some (.inr (.inr a))) ∧ f a
  | [], _, h => False.elim h
  | some (.inr (.inr a)) :: _, 0, h => ⟨a, rfl, h⟩
  | some (.inr (.inl _)) :: _, 0, h => False.elim h
  | some (.inl _) :: _, 0, h => False.elim h
  | none :: _, 0, h => False.elim h
  | x :: L, i + 1, h => by
    obtain ⟨a, h1, h2⟩ := ldR_spec L i h
    exact ⟨a, by simpa using h1, h2⟩
theorem clr_spec {f : Option AV → Prop} (x : Option AV) (h : clr x f) : ∃ x', f x' ∧ ∀ u, x' = some u → x = some u ∧ ¬ cat u = 2 := by
  unfold clr at h
  split at h
  · exact ⟨none, h, fun u q => by cases q⟩
  · exact ⟨_, h, fun u q => by cases q; exact ⟨rfl, by simp [cat]⟩⟩
  · exact ⟨_, h, fun u q => by cases q; exact ⟨rfl, by simp [cat]⟩⟩
  · exact ⟨none, h, fun u q => by cases q⟩
theorem st1_spec {v : AV} : ∀ (L : LL) (i : Nat) (f : LL → Prop), st1 L i v f → ∃ L', f L' ∧ ∀ j u, L'[j]? = some (some u) → (j = i ∧ u = v) ∨ (j ≠ i ∧ L[j]? = some (some u) ∧ ¬ (j + 1 = i ∧ cat u = 2))
  | [], _, _, h => False.elim h
  | x :: L, 0, f, h => ⟨some v :: L, h, fun j u q => by
    cases j with
    | zero => exact Or.inl ⟨rfl, by simpa using q.symm⟩
    | succ j => exact Or.inr ⟨by omega, by simpa using q, by omega⟩⟩
  | x :: [], 1, f, h => False.elim h
  | x :: y :: L, 1, f, h => by
    obtain ⟨x', h1, h2⟩ := clr_spec (f := fun x => f (x :: some v :: L)) x h
    refine ⟨x' :: some v :: L, h1, fun j u q => ?_⟩
    match j, q with
    | 0, q =>
      have q : x' = some u := by simpa using q
      exact Or.inr ⟨by omega, by simpa using (h2 u q).1, fun z => (h2 u q).2 z.2⟩
    | 1, q => exact Or.inl ⟨rfl, by simpa using q.symm⟩
    | j + 2, q => exact Or.inr ⟨by omega, by simpa using q, by omega⟩
  | x :: L, i + 2, f, h => by
    obtain ⟨L', h1, h2⟩ := st1_spec L (i + 1) (fun L => f (x :: L)) h
    refine ⟨x :: L', h1, fun j u q => ?_⟩
    cases j with
    | zero => exact Or.inr ⟨by omega, by simpa using q, by omega⟩
    | succ j =>
      rcases h2 j u (by simpa using q) with ⟨a, b⟩ | ⟨a, b, d⟩
      · exact Or.inl ⟨by omega, b⟩
      · exact Or.inr ⟨by omega, by simpa using b, fun z => d ⟨by omega, z.2⟩⟩
theorem st2_spec {v : AV} : ∀ (L : LL) (i : Nat) (f : LL → Prop), st2 L i v f → ∃ L', f L' ∧ ∀ j u, L'[j]? = some (some u) → (j = i ∧ u = v) ∨ (j ≠ i ∧ j ≠ i + 1 ∧ L[j]? = some (some u) ∧ ¬ (j + 1 = i ∧ cat u = 2))
  | [], _, _, h => False.elim h
  | x :: [], 0, f, h => False.elim h
  | x :: y :: L, 0, f, h => ⟨some v :: none :: L, h, fun j u q => by
    match j, q with
    | 0, q => exact Or.inl ⟨rfl, by simpa using q.symm⟩
    | 1, q => simp at q
    | j + 2, q => exact Or.inr ⟨by omega, by omega, by simpa using q, by omega⟩⟩
  | x :: [], 1, f, h => False.elim h
  | x :: y :: [], 1, f, h => False.elim h
  | x :: y :: z :: L, 1, f, h => by
    obtain ⟨x', h1, h2⟩ := clr_spec (f := fun x => f (x :: some v :: none :: L)) x h
    refine ⟨x' :: some v :: none :: L, h1, fun j u q => ?_⟩
    match j, q with
    | 0, q =>
      have q : x' = some u := by simpa using q
      exact Or.inr ⟨by omega, by omega, by simpa using (h2 u q).1, fun z => (h2 u q).2 z.2⟩
    | 1, q => exact Or.inl ⟨rfl, by simpa using q.symm⟩
    | 2, q => simp at q
    | j + 3, q => exact Or.inr ⟨by omega, by omega, by simpa using q, by omega⟩
  | x :: L, i + 2, f, h => by
    obtain ⟨L', h1, h2⟩ := st2_spec L (i + 1) (fun L => f (x :: L)) h
    refine ⟨x :: L', h1, fun j u q => ?_⟩
    cases j with
    | zero => exact Or.inr ⟨by omega, by omega, by simpa using q, by omega⟩
    | succ j =>
      rcases h2 j u (by simpa using q) with ⟨a, b⟩ | ⟨a, a2, b, d⟩
      · exact Or.inl ⟨by omega, b⟩
      · exact Or.inr ⟨by omega, by omega, by simpa using b, fun z => d ⟨by omega, z.2⟩⟩
theorem mem_al {ad : Nat → Nat} : ∀ (L : LL) (i : Nat) (q : Nat × Value), q ∈ al ad i L ↔ ∃ j u, q = (i + j, cv ad u) ∧ L[j]? = some (some u)
  | [], i, q => by simp [al]
  | none :: L, i, q => by
    rw [al, mem_al L (i + 1) q]
    constructor
    · rintro ⟨j, u, h1, h2⟩
      exact ⟨j + 1, u, by rw [h1]; congr 1; omega, by simpa using h2⟩
    · rintro ⟨j, u, h1, h2⟩
      cases j with
      | zero => simp at h2
      | succ j => exact ⟨j, u, by rw [h1]; congr 1; omega, by simpa using h2⟩
  | some v :: L, i, q => by
    rw [al, List.mem_cons, mem_al L (i + 1) q]
    constructor
    · rintro (h | ⟨j, u, h1, h2⟩)
      · exact ⟨0, v, by rw [h]; rfl, rfl⟩
      · exact ⟨j + 1, u, by rw [h1]; congr 1; omega, by simpa using h2⟩
    · rintro ⟨j, u, h1, h2⟩
      cases j with
      | zero =>
        have e : v = u := by simpa using h2
        exact Or.inl (by rw [h1, e]; rfl)
      | succ j => exact Or.inr ⟨j, u, by rw [h1]; congr 1; omega, by simpa using h2⟩
theorem cat_cv (ad : Nat → Nat) (v : AV) : (cv ad v).category = cat v := by
  rcases v with a | a | a <;> rfl
theorem lvp_get {ad : Nat → Nat} {ls : Array Slot} {nL : Nat} {L : LL} {i : Nat} {v : AV} (h : lvp ad ls nL L) (hi : L[i]? = some (some v)) : ls[i]? = some (.val (cv ad v)) :=
  h.2.2 (i, cv ad v) ((mem_al L 0 _).mpr ⟨i, v, by rw [Nat.zero_add], hi⟩)
theorem lvp_st1 {ad : Nat → Nat} {ls' : Array Slot} {nL i : Nat} {L L' : LL} {v : AV} (h : lv_has ls' nL ((i, cv ad v) :: (al ad 0 L).filter (fun q => !(q.1 == i) && !(q.1 + 1 == i && q.2.category == 2))))
    (hs : ∀ j u, L'[j]? = some (some u) → (j = i ∧ u = v) ∨ (j ≠ i ∧ L[j]? = some (some u) ∧ ¬ (j + 1 = i ∧ cat u = 2))) : lvp ad ls' nL L' := by
  refine ⟨h.1, h.2.1, fun q hq => ?_⟩
  obtain ⟨j, u, e, hj⟩ := (mem_al L' 0 q).mp hq
  rw [Nat.zero_add] at e
  subst e
  refine h.2.2 _ ?_
  rcases hs j u hj with ⟨a, b⟩ | ⟨a, b, d⟩
  · rw [a, b]; exact List.mem_cons_self
  · refine List.mem_cons_of_mem _ (List.mem_filter.mpr ⟨(mem_al L 0 _).mpr ⟨j, u, by rw [Nat.zero_add], b⟩, ?_⟩)
    simp only [cat_cv, Bool.and_eq_true, Bool.not_eq_true', beq_eq_false_iff_ne, ne_eq, Bool.and_eq_false_iff]
    refine ⟨a, ?_⟩
    by_cases z : j + 1 = i
    · exact Or.inr (fun z2 => d ⟨z, z2⟩)
    · exact Or.inl z
theorem lvp_st2 {ad : Nat → Nat} {ls' : Array Slot} {nL i : Nat} {L L' : LL} {v : AV} (h : lv_has ls' nL ((i, cv ad v) :: (al ad 0 L).filter (fun q => !(q.1 == i) && (!(q.1 == i + 1) && !(q.1 + 1 == i && q.2.category == 2)))))
    (hs : ∀ j u, L'[j]? = some (some u) → (j = i ∧ u = v) ∨ (j ≠ i ∧ j ≠ i + 1 ∧ L[j]? = some (some u) ∧ ¬ (j + 1 = i ∧ cat u = 2))) : lvp ad ls' nL L' := by
  refine ⟨h.1, h.2.1, fun q hq => ?_⟩
  obtain ⟨j, u, e, hj⟩ := (mem_al L' 0 q).mp hq
  rw [Nat.zero_add] at e
  subst e
  refine h.2.2 _ ?_
  rcases hs j u hj with ⟨a, b⟩ | ⟨a, a2, b, d⟩
  · rw [a, b]; exact List.mem_cons_self
  · refine List.mem_cons_of_mem _ (List.mem_filter.mpr ⟨(mem_al L 0 _).mpr ⟨j, u, by rw [Nat.zero_add], b⟩, ?_⟩)
    simp only [cat_cv, Bool.and_eq_true, Bool.not_eq_true', beq_eq_false_iff_ne, ne_eq, Bool.and_eq_false_iff]
    refine ⟨a, a2, ?_⟩
    by_cases z : j + 1 = i
    · exact Or.inr (fun z2 => d ⟨z, z2⟩)
    · exact Or.inl z
theorem cnL_get {L : LL} {i : Nat} {v : AV} (h : cnL L) (hi : L[i]? = some (some v)) : cnV v := h v (List.mem_of_getElem? hi)
theorem cnL_st {L L' : LL} {i : Nat} {v : AV} (h : cnL L) (hv : cnV v) (hs : ∀ j u, L'[j]? = some (some u) → (j = i ∧ u = v) ∨ (L[j]? = some (some u))) : cnL L' := by
  intro u hu
  obtain ⟨j, hj⟩ := List.getElem?_of_mem hu
  rcases hs j u hj with ⟨-, a⟩ | a
  · rw [a]; exact hv
  · exact h u (List.mem_of_getElem? a)
