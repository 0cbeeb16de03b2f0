/-! all ways: the offs of each sign, each with each -/
def nxF (err : Int → Int) : Nat → (Int → Int) → Option (Int → Int)
  | 0, _ => none
  | k + 1, f => if f k = err k then nxF err k (uf f k (-err k)) else some (uf f k (f k + 1))
def blF (e : Int) (n : Nat) (f : Int → Int) : List (Int → Int) := (List.range (2 * e + 1).toNat).map (fun (i : Nat) => uf f n ((i : Int) - e))
def wyF (err : Int → Int) : Nat → List (Int → Int)
  | 0 => [fun _ => 0]
  | n + 1 => (wyF err n).flatMap (blF (err n) n)
def fsF (err : Int → Int) : Nat → Int → Int
  | 0 => fun _ => 0
  | n + 1 => uf (fsF err n) n (-err n)
theorem uf_s (f : Int → Int) (i v : Int) : uf f i v i = v := by unfold uf; rw [if_pos rfl]
theorem uf_n (f : Int → Int) {i j : Int} (v : Int) (h : j ≠ i) : uf f i v j = f j := by unfold uf; rw [if_neg h]
theorem uf_uf (f : Int → Int) (i v w : Int) : uf (uf f i v) i w = uf f i w := by
  funext j
  by_cases h : j = i
  · rw [h, uf_s, uf_s]
  · rw [uf_n _ _ h, uf_n _ _ h, uf_n _ _ h]
theorem uf_cm (f : Int → Int) {i j : Int} (v w : Int) (h : i ≠ j) : uf (uf f i v) j w = uf (uf f j w) i v := by
  funext k
  by_cases h1 : k = j
  · subst h1
    rw [uf_s, uf_n _ _ (Ne.symm h), uf_s]
  · rw [uf_n _ _ h1]
    by_cases h2 : k = i
    · rw [h2, uf_s, uf_s]
    · rw [uf_n _ _ h2, uf_n _ _ h2, uf_n _ _ h1]
theorem nxF_up {err : Int → Int} : ∀ (n : Nat) (f : Int → Int) (m : Int) (v : Int), n ≤ m → nxF err n (uf f m v) = (nxF err n f).map (fun g => uf g m v)
  | 0, f, m, v, _ => rfl
  | n + 1, f, m, v, h => by
    have hne : ((n : Int)) ≠ m := by omega
    rw [nxF, nxF, uf_n _ _ hne]
    by_cases hf : f n = err n
    · rw [if_pos hf, if_pos hf, uf_cm _ _ _ (Ne.symm hne), nxF_up n _ m v (by omega)]
    · rw [if_neg hf, if_neg hf, Option.map_some, uf_cm _ _ _ (Ne.symm hne)]
theorem blF_len (e : Int) (n : Nat) (f : Int → Int) : (blF e n f).length = (2 * e + 1).toNat := by simp [blF]
/-- in a list that was put together of blocks: where a place lies -/
theorem fm_split {α β : Type} (g : α → List β) : ∀ (l : List α) (pre : List β) (b : β) (post : List β), l.flatMap g = pre ++ b :: post → ∃ l1 a l2 p1 p2, l = l1 ++ a :: l2 ∧ g a = p1 ++ b :: p2 ∧ pre = l1.flatMap g ++ p1 ∧ post = p2 ++ l2.flatMap g
  | [], pre, b, post, h => by simp at h
  | a :: l, pre, b, post, h => by
    rw [List.flatMap_cons] at h
    rcases List.append_eq_append_iff.mp h with ⟨m, h1, h2⟩ | ⟨m, h1, h2⟩
    · obtain ⟨l1, a', l2, p1, p2, e1, e2, e3, e4⟩ := fm_split g l m b post h2
      exact ⟨a :: l1, a', l2, p1, p2, by rw [e1]; rfl, e2, by rw [h1, e3, List.flatMap_cons, List.append_assoc], e4⟩
    · cases m with
      | nil =>
        rw [List.append_nil] at h1
        have h2' : l.flatMap g = [] ++ b :: post := by simpa using h2.symm
        obtain ⟨l1, a', l2, p1, p2, e1, e2, e3, e4⟩ := fm_split g l [] b post h2'
        exact ⟨a :: l1, a', l2, p1, p2, by rw [e1]; rfl, e2, by rw [List.flatMap_cons, List.append_assoc, ← e3, List.append_nil]; exact h1.symm, e4⟩
      | cons x m =>
        have h3 : b :: post = x :: (m ++ l.flatMap g) := by simpa using h2
        cases h3
        exact ⟨[], a, l, pre, m, rfl, h1, rfl, rfl⟩
theorem blF_split {e : Int} (he : 0 ≤ e) {n : Nat} {f b : Int → Int} {p1 p2 : List (Int → Int)} (h : blF e n f = p1 ++ b :: p2) : b = uf f n (p1.length - e) ∧ (p1.length : Int) ≤ 2 * e ∧ (p2 = [] → (p1.length : Int) = 2 * e) ∧ ∀ c p3, p2 = c :: p3 → c = uf f n (p1.length + 1 - e) ∧ (p1.length : Int) < 2 * e := by
  have hl := blF_len e n f
  rw [h] at hl
  simp only [List.length_append, List.length_cons] at hl
  have key : ∀ (j : Nat) (x : Int → Int), (p1 ++ b :: p2)[j]? = some x → x = uf f n (j - e) := by
    intro j x hx
    rw [← h] at hx
    unfold blF at hx
    rw [List.getElem?_map] at hx
    cases hq : (List.range (2 * e + 1).toNat)[j]? with
    | none => rw [hq] at hx; cases hx
    | some i =>
      rw [hq] at hx
      have hi : i = j := by
        have := List.getElem?_eq_some_iff.mp hq
        obtain ⟨h1, h2⟩ := this
        rw [List.getElem_range] at h2
        exact h2.symm
      subst hi
      exact (Option.some.inj hx).symm
  refine ⟨key p1.length b (by simp), by omega, fun hp => by rw [hp] at hl; simp at hl; omega, fun c p3 hp => ?_⟩
  subst hp
  refine ⟨?_, by simp at hl; omega⟩
  have := key (p1.length + 1) c (by simp)
  rw [this]
  congr 1
theorem blF_cons {e : Int} (he : 0 ≤ e) (n : Nat) (f : Int → Int) : ∃ r, blF e n f = uf f n (-e) :: r := by
  unfold blF
  obtain ⟨m, hm⟩ : ∃ m, (2 * e + 1).toNat = m + 1 := ⟨(2 * e).toNat, by omega⟩
  rw [hm, List.range_succ_eq_map]
  exact ⟨_, by simp; congr 1⟩
/-- one way behind the other -/
theorem wy_next {err : Int → Int} : ∀ (n : Nat), (∀ i : Nat, i < n → 0 ≤ err i) → ∀ (pre : List (Int → Int)) (f : Int → Int) (post : List (Int → Int)), wyF err n = pre ++ f :: post → nxF err n f = post.head?
  | 0, _, pre, f, post, h => by
    cases pre with
    | nil =>
      have : (fun _ => (0 : Int)) = f ∧ post = [] := by simpa [wyF] using h
      rw [this.2]
      rfl
    | cons a pre => simp [wyF] at h
  | n + 1, he, pre, f, post, h => by
    rw [wyF] at h
    have he0 := he n (by omega)
    obtain ⟨l1, g, l2, p1, p2, e1, e2, e3, e4⟩ := fm_split _ _ _ _ _ h
    obtain ⟨b1, b2, b3, b4⟩ := blF_split he0 e2
    have hfn : f n = p1.length - err n := by rw [b1, uf_s]
    rw [nxF]
    cases p2 with
    | cons c p3 =>
      obtain ⟨c1, c2⟩ := b4 c p3 rfl
      rw [if_neg (by omega), e4, List.cons_append, List.head?_cons, c1, hfn, b1, uf_uf]
      congr 2
      omega
    | nil =>
      have hp := b3 rfl
      rw [if_pos (by omega), b1, uf_uf, nxF_up n g n _ (by omega), wy_next n (fun i hi => he i (by omega)) l1 g l2 e1, e4, List.nil_append]
      cases l2 with
      | nil => rfl
      | cons g' l3 =>
        obtain ⟨r, hr⟩ := blF_cons he0 n g'
        rw [List.flatMap_cons, hr]
        rfl
theorem wy_first {err : Int → Int} : ∀ (n : Nat), (∀ i : Nat, i < n → 0 ≤ err i) → ∃ r, wyF err n = fsF err n :: r
  | 0, _ => ⟨[], rfl⟩
  | n + 1, he => by
    obtain ⟨r, hr⟩ := wy_first n (fun i hi => he i (by omega))
    obtain ⟨r2, hr2⟩ := blF_cons (he n (by omega)) n (fsF err n)
    exact ⟨_, by rw [wyF, hr, List.flatMap_cons, hr2]; rfl⟩
/-- a way's offs are within their bounds, and 0 where there is no sign -/
theorem wy_mem {err : Int → Int} : ∀ (n : Nat), (∀ i : Nat, i < n → 0 ≤ err i) → ∀ f ∈ wyF err n, (∀ i : Int, 0 ≤ i → i < n → -err i ≤ f i ∧ f i ≤ err i) ∧ ∀ i : Int, (i < 0 ∨ n ≤ i) → f i = 0
  | 0, _, f, hf => by
    have : f = fun _ => 0 := by simpa [wyF] using hf
    subst this
    exact ⟨fun i h0 h1 => absurd h1 (by omega), fun i _ => rfl⟩
  | n + 1, he, f, hf => by
    rw [wyF] at hf
    obtain ⟨g, hg, hb⟩ := List.mem_flatMap.mp hf
    obtain ⟨i, hi, rfl⟩ := List.mem_map.mp hb
    have hi := List.mem_range.mp hi
    obtain ⟨h1, h2⟩ := wy_mem n (fun i hi => he i (by omega)) g hg
    have he0 := he n (by omega)
    refine ⟨fun j h0 hj => ?_, fun j hj => ?_⟩
    · by_cases hjn : j = n
      · subst hjn
        rw [uf_s]
        omega
      · rw [uf_n _ _ hjn]
        exact h1 j h0 (by omega)
    · rw [uf_n _ _ (by omega)]
      exact h2 j (by omega)
theorem wy_len {err : Int → Int} : ∀ (n : Nat), (∀ i : Nat, i < n → 0 ≤ err i ∧ err i ≤ 3) → 1 ≤ (wyF err n).length ∧ (wyF err n).length ≤ 7 ^ n
  | 0, _ => ⟨Nat.le_refl 1, Nat.le_refl 1⟩
  | n + 1, he => by
    obtain ⟨h1, h2⟩ := wy_len n (fun i hi => he i (by omega))
    have he0 := he n (by omega)
    have e : (wyF err (n + 1)).length = (wyF err n).length * (2 * err n + 1).toNat := by
      rw [wyF]
      generalize wyF err n = l
      induction l with
      | nil => simp
      | cons a l ih => rw [List.flatMap_cons, List.length_append, ih, blF_len, List.length_cons, Nat.succ_mul, Nat.add_comm]
    rw [e, Nat.pow_succ]
    have h3 : 1 ≤ (2 * err n + 1).toNat ∧ (2 * err n + 1).toNat ≤ 7 := by omega
    exact ⟨Nat.le_trans h3.1 (Nat.le_mul_of_pos_left _ (by omega)), Nat.mul_le_mul h2 h3.2⟩
theorem wy_lenS {err : Int → Int} (n : Nat) : (wyF err (n + 1)).length = (wyF err n).length * (2 * err n + 1).toNat := by
  rw [wyF]
  generalize wyF err n = l
  induction l with
  | nil => simp
  | cons a l ih => rw [List.flatMap_cons, List.length_append, ih, blF_len, List.length_cons, Nat.succ_mul, Nat.add_comm]
theorem wy_congr {err err' : Int → Int} : ∀ (n : Nat), (∀ i : Nat, i < n → err i = err' i) → wyF err n = wyF err' n
  | 0, _ => rfl
  | n + 1, h => by rw [wyF, wyF, wy_congr n (fun i hi => h i (by omega)), h n (by omega)]
/-- a loop over all ways -/
theorem lp_wy {α σ : Type} {P : α → σ → Prop} {l : List α} (I : List α → α → σ → Prop) (hs : ∀ pre f post s, l = pre ++ f :: post → I pre f s → (∀ f' post' s', post = f' :: post' → I (pre ++ [f]) f' s' → P f' s') → P f s) : ∀ (post : List α) (pre : List α) (f : α) (s : σ), l = pre ++ f :: post → I pre f s → P f s
  | [], pre, f, s, hl, hI => hs pre f [] s hl hI (fun f' post' s' h => by cases h)
  | f2 :: post, pre, f, s, hl, hI => hs pre f (f2 :: post) s hl hI (fun f' post' s' h hI' => by
    cases h
    exact lp_wy I hs post (pre ++ [f]) f2 s' (by rw [hl]; simp) hI')
theorem snF_congr {beh snd ap al : Int → Int} {gone : Int} {off off' : Int → Int} : ∀ (k : Nat), (∀ i : Nat, i < k → off i = off' i) → snF beh snd ap al gone off k = snF beh snd ap al gone off' k
  | 0, _ => rfl
  | k + 1, h => by
    rw [snF, snF, snF_congr k (fun i hi => h i (by omega))]
    unfold sgv
    rw [h k (by omega)]
