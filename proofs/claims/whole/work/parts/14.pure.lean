/-! the pure words: times of signs, plans, turns, what opens -/
/-- when guard g hears sign s; 1000000: never -/
def hdM (al f : Int → Int) (g s : Int) : Int := if al (5 * g + s) < 0 ∨ f s = 1000000 then 1000000 else f s + al (5 * g + s)
def uf (f : Int → Int) (i v : Int) : Int → Int := fun j => if j = i then v else f j
/-- the time of sign i, by those ahead of it -/
def sgb (beh snd al f : Int → Int) (i : Int) : Int := if beh i < 0 then 0 else hdM al f (snd i) (beh i)
def sgv (beh snd ap al : Int → Int) (gone : Int) (off f : Int → Int) (i : Int) : Int :=
  if sgb beh snd al f i = 1000000 ∨ iand (ishr gone i) 1 = 1 then 1000000 else sgb beh snd al f i + ap i + off i
def snF (beh snd ap al : Int → Int) (gone : Int) (off : Int → Int) : Nat → Int → Int
  | 0 => fun _ => 0
  | k + 1 => uf (snF beh snd ap al gone off k) k (sgv beh snd ap al gone off (snF beh snd ap al gone off k) k)
/-- a land's signs within their bounds -/
def sgOk (n : Int) (beh snd ap al : Int → Int) : Prop := (0 ≤ n ∧ n ≤ 5) ∧ (∀ i, 0 ≤ i → i < n → -1 ≤ beh i ∧ beh i < i ∧ 0 ≤ snd i ∧ snd i ≤ 3 ∧ -9 ≤ ap i ∧ ap i ≤ 68) ∧ ∀ j, 0 ≤ j → j < 20 → -1 ≤ al j ∧ al j ≤ 9
def ofOk (n : Int) (off : Int → Int) : Prop := ∀ i, 0 ≤ i → i < n → -3 ≤ off i ∧ off i ≤ 3
theorem hdM_b {al f : Int → Int} {g s b : Int} (hb : 0 ≤ b) (hf : f s = 1000000 ∨ (-b ≤ f s ∧ f s ≤ b)) (hl : -1 ≤ al (5 * g + s) ∧ al (5 * g + s) ≤ 9) : hdM al f g s = 1000000 ∨ (-b ≤ hdM al f g s ∧ hdM al f g s ≤ b + 9) := by
  unfold hdM
  split
  · exact Or.inl rfl
  · omega
theorem snF_lt {beh snd ap al : Int → Int} {gone : Int} {off : Int → Int} (k : Nat) (j : Int) (hj : j < k) : ∀ d : Nat, snF beh snd ap al gone off (k + d) j = snF beh snd ap al gone off k j
  | 0 => rfl
  | d + 1 => by
    rw [show k + (d + 1) = (k + d) + 1 by omega, snF, uf, if_neg (by omega)]
    exact snF_lt k j hj d
theorem snF_b {n : Int} {beh snd ap al : Int → Int} {gone : Int} {off : Int → Int} (h1 : sgOk n beh snd ap al) (h2 : ofOk n off) : ∀ (k : Nat), (k : Int) ≤ n → ∀ j : Int, 0 ≤ j → j < k → snF beh snd ap al gone off k j = 1000000 ∨ (-(100 * (j + 1)) ≤ snF beh snd ap al gone off k j ∧ snF beh snd ap al gone off k j ≤ 100 * (j + 1)) := by
  intro k
  induction k with
  | zero => intro _ j h0 hj; omega
  | succ k ih =>
    intro hk j h0 hj
    by_cases hjk : j = k
    · subst hjk
      rw [snF, uf, if_pos rfl]
      have hn := h1.1
      obtain ⟨b1, b2, b3, b4, b5, b6⟩ := h1.2.1 k h0 (by omega)
      obtain ⟨o1, o2⟩ := h2 k h0 (by omega)
      unfold sgv
      split
      · exact Or.inl rfl
      · rename_i hz
        by_cases hb : beh k < 0
        · unfold sgb
          rw [if_pos hb]
          omega
        · unfold sgb at hz ⊢
          rw [if_neg hb] at hz ⊢
          have h3 := hdM_b (al := al) (f := snF beh snd ap al gone off k) (g := snd k) (s := beh k) (b := 100 * (beh k + 1)) (by omega) (ih (by omega) (beh k) (by omega) (by omega)) (h1.2.2 (5 * snd k + beh k) (by omega) (by omega))
          omega
    · rw [snF, uf, if_neg hjk]
      exact ih (by omega) j h0 (by omega)
/-! plans: a row of codes, gone through with a pile -/
/-- what a guard hears of each sign (never: of those that are not there) -/
def hrF (n : Int) (al f : Int → Int) (g s : Int) : Int := if s < n then hdM al f g s else 1000000
def stR (hear : Int → Int) (c : Int) (st : List Int) : List Int :=
  if 0 ≤ c then (if hear (c / 100) = 1000000 then 1000000 else hear (c / 100) + c % 100) :: st
  else match st with
    | b :: a :: r => (if c = -1 then max a b else min a b) :: r
    | st => st
def pkR (code hear : Int → Int) : Nat → List Int
  | 0 => []
  | k + 1 => stR hear (code k) (pkR code hear k)
def dpR (code : Int → Int) : Nat → Nat
  | 0 => 0
  | k + 1 => if 0 ≤ code k then dpR code k + 1 else dpR code k - 1
/-- a row of codes that is a plan -/
def cdOk (code : Int → Int) (m : Nat) : Prop := 1 ≤ m ∧ m ≤ 160 ∧ dpR code m = 1 ∧ ∀ k : Nat, k < m → (0 ≤ code k ∧ code k ≤ 499) ∨ ((code k = -1 ∨ code k = -2) ∧ 2 ≤ dpR code k)
theorem pkR_len {code hear : Int → Int} {m : Nat} (h : cdOk code m) : ∀ k : Nat, k ≤ m → (pkR code hear k).length = dpR code k := by
  intro k
  induction k with
  | zero => intro _; rfl
  | succ k ih =>
    intro hk
    have h1 := ih (by omega)
    rw [pkR, dpR]
    unfold stR
    rcases h.2.2.2 k (by omega) with q | q
    · rw [if_pos q.1, if_pos q.1, List.length_cons, h1]
    · rw [if_neg (by omega), if_neg (by omega)]
      match hp : pkR code hear k with
      | [] => rw [hp] at h1; simp at h1; omega
      | [a] => rw [hp] at h1; simp at h1; omega
      | b :: a :: r => rw [hp] at h1; simp at h1 ⊢; omega
theorem dpR_le {code : Int → Int} : ∀ k : Nat, dpR code k ≤ k
  | 0 => Nat.le_refl 0
  | k + 1 => by
    have := dpR_le (code := code) k
    rw [dpR]
    split <;> omega
/-- the value of a plan -/
def plV (code : Int → Int) (m : Nat) (hear : Int → Int) : Int := (pkR code hear m).getD 0 1000000
/-! turns in order, and how near they are -/
def ins (x : Int) : List Int → List Int
  | [] => [x]
  | y :: l => if x < y then x :: y :: l else y :: ins x l
def isF (t : Int → Int) : Nat → List Int
  | 0 => []
  | k + 1 => ins (t k) (isF t k)
def srtd : List Int → Prop
  | [] => True
  | x :: l => (∀ y ∈ l, x ≤ y) ∧ srtd l
theorem ins_len (x : Int) : ∀ l : List Int, (ins x l).length = l.length + 1
  | [] => rfl
  | y :: l => by
    rw [ins]
    split
    · rfl
    · rw [List.length_cons, ins_len x l, List.length_cons]
theorem ins_mem (x : Int) : ∀ (l : List Int) (z : Int), z ∈ ins x l ↔ z = x ∨ z ∈ l
  | [], z => by simp [ins]
  | y :: l, z => by
    rw [ins]
    split
    · simp
    · rw [List.mem_cons, ins_mem x l z, List.mem_cons]
      constructor
      · rintro (h | h | h)
        · exact Or.inr (Or.inl h)
        · exact Or.inl h
        · exact Or.inr (Or.inr h)
      · rintro (h | h | h)
        · exact Or.inr (Or.inl h)
        · exact Or.inl h
        · exact Or.inr (Or.inr h)
theorem ins_srtd (x : Int) : ∀ l : List Int, srtd l → srtd (ins x l)
  | [], _ => ⟨fun y h => by simp at h, trivial⟩
  | y :: l, h => by
    rw [ins]
    split
    · rename_i hx
      exact ⟨fun z hz => by
        rcases List.mem_cons.mp hz with q | q
        · omega
        · have := h.1 z q; omega, h⟩
    · rename_i hx
      refine ⟨fun z hz => ?_, ins_srtd x l h.2⟩
      rcases (ins_mem x l z).mp hz with q | q
      · omega
      · exact h.1 z q
theorem isF_srtd (t : Int → Int) : ∀ k, srtd (isF t k)
  | 0 => trivial
  | k + 1 => ins_srtd _ _ (isF_srtd t k)
theorem isF_len (t : Int → Int) : ∀ k, (isF t k).length = k
  | 0 => rfl
  | k + 1 => by rw [isF, ins_len, isF_len t k]
/-- in a sorted list: put behind what is not above it -/
theorem ins_at (x : Int) : ∀ (l : List Int) (k : Nat), srtd l → k ≤ l.length → (∀ j, k ≤ j → j < l.length → x < l.getD j 0) → (k = 0 ∨ l.getD (k - 1) 0 ≤ x) → ins x l = l.take k ++ x :: l.drop k
  | [], k, _, hk, _, _ => by
    have : k = 0 := by simpa using hk
    subst this
    rfl
  | y :: l, 0, _, _, h1, _ => by
    rw [ins, if_pos (by simpa using h1 0 (by omega) (by simp))]
    rfl
  | y :: l, k + 1, hs, hk, h1, h2 => by
    have hy : y ≤ x := by
      rcases h2 with q | q
      · omega
      · cases k with
        | zero => simpa using q
        | succ k =>
          have hlt : k < l.length := by simp at hk; omega
          have hm : l.getD k 0 ∈ l := by
            rw [List.getD_eq_getElem?_getD, List.getElem?_eq_getElem hlt]
            exact List.getElem_mem hlt
          have := hs.1 _ hm
          have q' : l.getD k 0 ≤ x := by simpa using q
          omega
    rw [ins, if_neg (by omega)]
    have := ins_at x l k hs.2 (by simpa using hk) (fun j hj hjl => by
      have := h1 (j + 1) (by omega) (by simpa using hjl)
      simpa using this) (by
      rcases h2 with q | q
      · omega
      · cases k with
        | zero => exact Or.inl rfl
        | succ k => exact Or.inr (by simpa using q))
    rw [this]
    rfl
/-- the least span of so many in a row, from place k on; 1000000: there are fewer -/
def spF (need : Nat) : List Int → Int
  | [] => 1000000
  | x :: l => if need ≤ (x :: l).length then min ((x :: l).getD (need - 1) 0 - x) (spF need l) else 1000000
theorem plV_congr {code hear hear' : Int → Int} {m : Nat} (h : cdOk code m) (hh : ∀ s, 0 ≤ s → s < 5 → hear s = hear' s) : plV code m hear = plV code m hear' := by
  have key : ∀ k : Nat, k ≤ m → pkR code hear k = pkR code hear' k := by
    intro k
    induction k with
    | zero => intro _; rfl
    | succ k ih =>
      intro hk
      rw [pkR, pkR, ih (by omega)]
      unfold stR
      by_cases hc : 0 ≤ code k
      · rcases h.2.2.2 k (by omega) with q | q
        · rw [if_pos hc, if_pos hc, hh (code k / 100) (by omega) (by omega)]
        · omega
      · rw [if_neg hc, if_neg hc]
  unfold plV
  rw [key m (Nat.le_refl m)]
theorem hdM_congr {al f f' : Int → Int} {g s : Int} (h : f s = f' s) : hdM al f g s = hdM al f' g s := by unfold hdM; rw [h]
/-- the least span of windows of so many that end ahead of place i -/
def wmF (need : Nat) (l : List Int) : Nat → Int
  | 0 => 1000000
  | i + 1 => if need ≤ i + 1 then min (wmF need l i) (l.getD i 0 - l.getD (i + 1 - need) 0) else wmF need l i
/-- how many turn at all (the list rises, 1000000 stands for never) -/
def cnF : List Int → Nat
  | [] => 0
  | x :: l => if x = 1000000 then 0 else cnF l + 1
theorem cnF_le : ∀ l : List Int, cnF l ≤ l.length
  | [] => Nat.le_refl 0
  | x :: l => by
    rw [cnF]
    split
    · omega
    · have := cnF_le l; simp; omega
theorem cnF_lt : ∀ (l : List Int) (j : Nat), j < cnF l → l.getD j 0 ≠ 1000000
  | [], j, h => by simp [cnF] at h
  | x :: l, 0, h => by
    rw [cnF] at h
    split at h
    · omega
    · rename_i hx; simpa using hx
  | x :: l, j + 1, h => by
    rw [cnF] at h
    split at h
    · omega
    · have := cnF_lt l j (by omega); simpa using this
theorem cnF_ge : ∀ (l : List Int), srtd l → (∀ x ∈ l, x ≤ 1000000) → ∀ (j : Nat), cnF l ≤ j → j < l.length → l.getD j 0 = 1000000
  | [], _, _, j, _, h => by simp at h
  | x :: l, hs, hb, j, h1, h2 => by
    by_cases hx : x = 1000000
    · have hm : ∀ y ∈ (x :: l), y = 1000000 := fun y hy => by
        rcases List.mem_cons.mp hy with q | q
        · omega
        · have := hs.1 y q; have := hb y hy; omega
      have : (x :: l).getD j 0 ∈ (x :: l) := by
        rw [List.getD_eq_getElem?_getD, List.getElem?_eq_getElem h2]
        exact List.getElem_mem h2
      exact hm _ this
    · rw [cnF, if_neg hx] at h1
      cases j with
      | zero => omega
      | succ j =>
        have := cnF_ge l hs.2 (fun y hy => hb y (List.mem_cons_of_mem _ hy)) j (by omega) (by simpa using h2)
        simpa using this
theorem isF_mem {t : Int → Int} : ∀ (k : Nat) (x : Int), x ∈ isF t k ↔ ∃ j : Nat, j < k ∧ x = t j
  | 0, x => by simp [isF]
  | k + 1, x => by
    rw [isF, ins_mem, isF_mem k x]
    constructor
    · rintro (h | ⟨j, h1, h2⟩)
      · exact ⟨k, by omega, h⟩
      · exact ⟨j, by omega, h2⟩
    · rintro ⟨j, h1, h2⟩
      by_cases hj : j = k
      · subst hj; exact Or.inl h2
      · exact Or.inr ⟨j, by omega, h2⟩
theorem isF_congr {t t' : Int → Int} : ∀ (k : Nat), (∀ j : Int, 0 ≤ j → j < k → t j = t' j) → isF t k = isF t' k
  | 0, _ => rfl
  | k + 1, h => by rw [isF, isF, isF_congr k (fun j h0 hj => h j h0 (by omega)), h k (by omega) (by omega)]
/-- how far those nearest to one another, so many as are needed, are apart; 1000000: fewer turn -/
def apF (need : Int) (t : Int → Int) (k : Nat) : Int := wmF need.toNat (isF t k) (cnF (isF t k))
theorem apF_congr {need : Int} {t t' : Int → Int} {k : Nat} (h : ∀ j : Int, 0 ≤ j → j < k → t j = t' j) : apF need t k = apF need t' k := by unfold apF; rw [isF_congr k h]
theorem getD_ins (l : List Int) (v : Int) (k j : Nat) (hk : k ≤ l.length) : (l.take k ++ v :: l.drop k).getD j 0 = if j < k then l.getD j 0 else if j = k then v else l.getD (j - 1) 0 := by
  simp only [List.getD_eq_getElem?_getD]
  by_cases h1 : j < k
  · rw [if_pos h1, List.getElem?_append_left (by rw [List.length_take]; omega), List.getElem?_take_of_lt h1]
  · rw [if_neg h1, List.getElem?_append_right (by rw [List.length_take]; omega), List.length_take, Nat.min_eq_left hk]
    by_cases h2 : j = k
    · rw [if_pos h2, h2, Nat.sub_self]
      rfl
    · rw [if_neg h2, show j - k = (j - k - 1) + 1 by omega, List.getElem?_cons_succ, List.getElem?_drop, show k + (j - k - 1) = j - 1 by omega]
