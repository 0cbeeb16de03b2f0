/-! ways that are walked, and for how many they stand -/
theorem sm_at {T : St} (hT : mOk T) {f : Int → Int} {s : Int} (h0 : 0 ≤ s) (h1 : s < T 0 20) : smM T f s = sgv (T 12) (T 13) (T 17) (T 19) (T 0 38) f (smM T f) s := by
  unfold smM
  exact snF_at (fun i i0 i1 => (hT.1.2.1 i i0 (by have := hT.1.1; omega)).2.1) h0 (by have := hT.1.1; omega)
theorem sm_bd {T : St} (hT : mOk T) {f : Int → Int} (hf : ofOk (T 0 20) f) : bdF T (smM T f) := fun _ h0 h1 => smM_b hT hf h0 h1
/-- whether a sign is ever there does not hang on offs -/
theorem sm_never {T : St} (hT : mOk T) {f f' : Int → Int} (hf : ofOk (T 0 20) f) (hf' : ofOk (T 0 20) f') : ∀ (k : Nat) (s : Int), 0 ≤ s → s < T 0 20 → s < k → (smM T f s = 1000000 → smM T f' s = 1000000)
  | 0, s, h0, _, hk => by omega
  | k + 1, s, h0, h1, hk => by
    intro h
    have hn5 := hT.1.1
    obtain ⟨b1, b2, b3, b4, b5, b6⟩ := hT.1.2.1 s h0 h1
    have o1 := hf s h0 h1
    rw [sm_at hT h0 h1] at h ⊢
    unfold sgv at h ⊢
    by_cases g : iand (ishr (T 0 38) s) 1 = 1
    · rw [if_pos (Or.inr g)]
    · have key : sgb (T 12) (T 13) (T 19) (smM T f) s = 1000000 → sgb (T 12) (T 13) (T 19) (smM T f') s = 1000000 := by
        unfold sgb
        by_cases hb : T 12 s < 0
        · rw [if_pos hb]; intro z; exact absurd z (by decide)
        · rw [if_neg hb, if_neg hb]
          unfold hdM
          by_cases ha : T 19 (5 * T 13 s + T 12 s) < 0
          · rw [if_pos (Or.inl ha), if_pos (Or.inl ha)]; intro _; rfl
          · by_cases hz : smM T f (T 12 s) = 1000000
            · intro _
              have := sm_never hT hf hf' k (T 12 s) (by omega) (by omega) (by omega) hz
              rw [if_pos (Or.inr this)]
            · rw [if_neg (fun y => y.elim ha hz)]
              intro y
              have hl := hT.1.2.2 (5 * T 13 s + T 12 s) (by omega) (by omega)
              have := smM_b hT hf (s := T 12 s) (by omega) (by omega)
              omega
      by_cases hz : sgb (T 12) (T 13) (T 19) (smM T f) s = 1000000
      · rw [if_pos (Or.inl (key hz))]
      · rw [if_neg (fun y => y.elim hz g)] at h
        exfalso
        have hb := sm_bd hT hf s h0 h1
        rw [sm_at hT h0 h1] at hb
        unfold sgv at hb
        rw [if_neg (fun y => y.elim hz g)] at hb
        unfold sgb at hz h
        by_cases hb2 : T 12 s < 0
        · rw [if_pos hb2] at h; omega
        · rw [if_neg hb2] at h hz
          have hl := hT.1.2.2 (5 * T 13 s + T 12 s) (by omega) (by omega)
          have hm := smM_b hT hf (s := T 12 s) (by omega) (by omega)
          have := hdM_b (al := T 19) (f := smM T f) (g := T 13 s) (s := T 12 s) (b := 500) (by omega) hm hl
          omega
/-- signs and those ahead of them -/
def ndC (T : St) (nd : Int → Bool) : Prop := ∀ s, 0 ≤ s → s < T 0 20 → nd s = true → 0 ≤ T 12 s → nd (T 12 s) = true
theorem sm_dep {T : St} (hT : mOk T) {nd : Int → Bool} (hc : ndC T nd) {f f' : Int → Int} (h : ∀ s, 0 ≤ s → s < T 0 20 → nd s = true → f s = f' s) : ∀ (k : Nat) (s : Int), 0 ≤ s → s < T 0 20 → s < k → nd s = true → smM T f s = smM T f' s
  | 0, s, h0, _, hk, _ => by omega
  | k + 1, s, h0, h1, hk, hn => by
    obtain ⟨b1, b2, b3, b4, b5, b6⟩ := hT.1.2.1 s h0 h1
    rw [sm_at hT h0 h1, sm_at hT h0 h1]
    have key : sgb (T 12) (T 13) (T 19) (smM T f) s = sgb (T 12) (T 13) (T 19) (smM T f') s := by
      unfold sgb
      by_cases hb : T 12 s < 0
      · rw [if_pos hb, if_pos hb]
      · rw [if_neg hb, if_neg hb]
        exact hdM_congr (sm_dep hT hc h k _ (by omega) (by omega) (by omega) (hc s h0 h1 hn (by omega)))
    unfold sgv
    rw [key, h s h0 h1 hn]
/-- the offs that are walked -/
def prN (nd : Int → Bool) (f : Int → Int) : Int → Int := fun i => if nd i = true then f i else 0
def rcN (nd : Int → Bool) (err : Int → Int) : Int → Int := fun i => if nd i = true then err i else 0
def wgN (nd : Int → Bool) (err : Int → Int) : Nat → Int
  | 0 => 1
  | n + 1 => if nd n = true then wgN nd err n else wgN nd err n * (2 * err n + 1)
theorem smL_fm (g : (Int → Int) → Int) (b : (Int → Int) → List (Int → Int)) : ∀ l, smL g (l.flatMap b) = smL (fun f => smL g (b f)) l
  | [] => rfl
  | f :: l => by rw [List.flatMap_cons, smL_app, smL_fm g b l, smL]
theorem smL_congr {g g' : (Int → Int) → Int} : ∀ l : List (Int → Int), (∀ f ∈ l, g f = g' f) → smL g l = smL g' l
  | [], _ => rfl
  | f :: l, h => by rw [smL, smL, h f List.mem_cons_self, smL_congr l (fun f' hf => h f' (List.mem_cons_of_mem _ hf))]
theorem smL_mul (c : Int) (g : (Int → Int) → Int) : ∀ l, smL (fun f => c * g f) l = c * smL g l
  | [] => by rw [smL, smL]; omega
  | f :: l => by rw [smL, smL, smL_mul c g l, Int.mul_add]
theorem smL_const (c : Int) : ∀ l : List (Int → Int), smL (fun _ => c) l = l.length * c
  | [] => by rw [smL]; simp
  | f :: l => by rw [smL, smL_const c l, List.length_cons]; push_cast; rw [Int.add_mul]; omega
theorem prN_uf_y {nd : Int → Bool} {n : Int} (h : nd n = true) (f : Int → Int) (v : Int) : prN nd (uf f n v) = uf (prN nd f) n v := by
  funext i
  unfold prN uf
  by_cases hi : i = n
  · rw [if_pos hi, hi, if_pos h, if_pos rfl]
  · rw [if_neg hi, if_neg hi]
theorem prN_uf_n {nd : Int → Bool} {n : Int} (h : ¬ nd n = true) (f : Int → Int) (v : Int) : prN nd (uf f n v) = prN nd f := by
  funext i
  unfold prN uf
  by_cases hi : i = n
  · rw [hi, if_neg h, if_neg h]
  · rw [if_neg hi]
theorem prN_prN (nd : Int → Bool) (f : Int → Int) : prN nd (prN nd f) = prN nd f := by
  funext i
  unfold prN
  split <;> rfl
/-- sums over all ways, by those that are walked -/
theorem wsum {nd : Int → Bool} {err : Int → Int} : ∀ (n : Nat), (∀ i : Nat, i < n → 0 ≤ err i) → ∀ φ : (Int → Int) → Int, (∀ f, φ f = φ (prN nd f)) → smL φ (wyF err n) = wgN nd err n * smL φ (wyF (rcN nd err) n)
  | 0, _, φ, _ => by rw [wgN, wyF, wyF]; omega
  | n + 1, he, φ, hφ => by
    rw [wyF, wyF, smL_fm, smL_fm]
    have hψ : ∀ f, smL φ (blF (err n) n f) = smL φ (blF (err n) n (prN nd f)) := by
      intro f
      unfold blF
      generalize List.range (2 * err n + 1).toNat = l
      induction l with
      | nil => rfl
      | cons i l ih =>
        rw [List.map_cons, List.map_cons, smL, smL, ih, hφ (uf f n _), hφ (uf (prN nd f) n _)]
        by_cases hn : nd n = true
        · rw [prN_uf_y hn, prN_uf_y hn, prN_prN]
        · rw [prN_uf_n hn, prN_uf_n hn, prN_prN]
    rw [wsum n (fun i hi => he i (by omega)) (fun f => smL φ (blF (err n) n f)) hψ]
    by_cases hn : nd n = true
    · rw [wgN, if_pos hn]
      congr 1
      refine smL_congr _ (fun f _ => ?_)
      show smL φ (blF (err n) n f) = smL φ (blF (rcN nd err n) n f)
      unfold rcN
      rw [if_pos hn]
    · rw [wgN, if_neg hn, Int.mul_assoc]
      congr 1
      rw [← smL_mul (2 * err n + 1)]
      refine smL_congr _ (fun f _ => ?_)
      show smL φ (blF (err n) n f) = (2 * err n + 1) * smL φ (blF (rcN nd err n) n f)
      have e0 : rcN nd err n = 0 := by unfold rcN; rw [if_neg hn]
      have h1 : smL φ (blF (err n) n f) = smL (fun _ => φ f) (blF (err n) n f) := smL_congr _ (fun f' hf' => by
        obtain ⟨i, hi, rfl⟩ := List.mem_map.mp hf'
        rw [hφ (uf f n _), prN_uf_n hn, ← hφ f])
      have h2 : smL φ (blF 0 n f) = smL (fun _ => φ f) (blF 0 n f) := smL_congr _ (fun f' hf' => by
        obtain ⟨i, hi, rfl⟩ := List.mem_map.mp hf'
        rw [hφ (uf f n _), prN_uf_n hn, ← hφ f])
      have := he n (by omega)
      rw [e0, h1, h2, smL_const, smL_const, blF_len, blF_len]
      rw [show ((2 * err n + 1).toNat : Int) = 2 * err n + 1 by omega, show ((2 * (0 : Int) + 1).toNat : Int) = 1 from rfl, Int.one_mul]
theorem wy_in {err : Int → Int} : ∀ (n : Nat), (∀ i : Nat, i < n → 0 ≤ err i) → ∀ f : Int → Int, (∀ i : Int, 0 ≤ i → i < n → -err i ≤ f i ∧ f i ≤ err i) → (∀ i : Int, (i < 0 ∨ n ≤ i) → f i = 0) → f ∈ wyF err n
  | 0, _, f, _, h => by
    have : f = fun _ => 0 := by funext i; exact h i (by omega)
    rw [this, wyF]
    exact List.mem_singleton.mpr rfl
  | n + 1, he, f, h1, h2 => by
    rw [wyF]
    refine List.mem_flatMap.mpr ⟨uf f n 0, wy_in n (fun i hi => he i (by omega)) _ (fun i i0 i1 => ?_) (fun i hi => ?_), ?_⟩
    · rw [uf_n _ _ (by omega)]; exact h1 i i0 (by omega)
    · by_cases z : i = n
      · rw [z, uf_s]
      · rw [uf_n _ _ z]; exact h2 i (by omega)
    · have hb := h1 n (by omega) (by omega)
      refine List.mem_map.mpr ⟨(f n + err n).toNat, List.mem_range.mpr (by omega), ?_⟩
      rw [uf_uf, show (((f n + err n).toNat : Nat) : Int) - err n = f n by omega]
      exact uf_self f n
theorem pr_mem {nd : Int → Bool} {err : Int → Int} {n : Nat} (he : ∀ i : Nat, i < n → 0 ≤ err i) {f : Int → Int} (hf : f ∈ wyF err n) : prN nd f ∈ wyF (rcN nd err) n := by
  obtain ⟨h1, h2⟩ := wy_mem n he f hf
  refine wy_in n (fun i hi => ?_) _ (fun i i0 i1 => ?_) (fun i hi => ?_)
  · unfold rcN; have := he i hi; split <;> omega
  · have := h1 i i0 i1
    unfold prN rcN
    split <;> omega
  · unfold prN
    have := h2 i hi
    split <;> omega
theorem sub_mem {nd : Int → Bool} {err : Int → Int} {n : Nat} (he : ∀ i : Nat, i < n → 0 ≤ err i) {f : Int → Int} (hf : f ∈ wyF (rcN nd err) n) : f ∈ wyF err n ∧ prN nd f = f := by
  have he' : ∀ i : Nat, i < n → 0 ≤ rcN nd err i := fun i hi => by unfold rcN; have := he i hi; split <;> omega
  obtain ⟨h1, h2⟩ := wy_mem n he' f hf
  constructor
  · refine wy_in n he f (fun i i0 i1 => ?_) h2
    have := h1 i i0 i1
    have h3 := he i.toNat (by omega)
    rw [show ((i.toNat : Nat) : Int) = i by omega] at h3
    unfold rcN at this
    split at this <;> omega
  · funext i
    unfold prN
    by_cases z : nd i = true
    · rw [if_pos z]
    · rw [if_neg z]
      by_cases hi : 0 ≤ i ∧ i < n
      · have := h1 i hi.1 hi.2
        unfold rcN at this
        rw [if_neg z] at this
        omega
      · exact (h2 i (by omega)).symm
theorem wgN_b {nd : Int → Bool} {err : Int → Int} : ∀ n : Nat, (∀ i : Nat, i < n → 0 ≤ err i ∧ err i ≤ 3) → 1 ≤ wgN nd err n ∧ wgN nd err n * ((wyF (rcN nd err) n).length : Int) = ((wyF err n).length : Int) := fun n he => by
  have h1 := wsum (nd := nd) n (fun i hi => (he i hi).1) (fun _ => 1) (fun _ => rfl)
  rw [smL_const, smL_const, Int.mul_one, Int.mul_one] at h1
  refine ⟨?_, h1.symm⟩
  clear h1
  induction n with
  | zero => exact Int.le_refl _
  | succ n ih =>
    have ih := ih (fun i hi => he i (by omega))
    have := he n (by omega)
    rw [wgN]
    split
    · exact ih
    · have h2 : 1 * 1 ≤ wgN nd err n * (2 * err n + 1) := Int.mul_le_mul ih (by omega) (by omega) (by omega)
      omega
