/-! loops, frames, reading what was written -/
theorem lp_up {σ : Type} {P : Int → σ → Prop} (I : Int → σ → Prop) (n : Int) (hx : ∀ i s, n ≤ i → I i s → P i s) (hs : ∀ i s, i < n → I i s → (∀ s', I (i + 1) s' → P (i + 1) s') → P i s) (i : Int) (s : σ) (h : I i s) : P i s := by
  have key : ∀ (k : Nat) (i : Int) (s : σ), n - i ≤ k → I i s → P i s := by
    intro k
    induction k with
    | zero => intro i s hk h; exact hx i s (by omega) h
    | succ k ih =>
      intro i s hk h
      by_cases hi : n ≤ i
      · exact hx i s hi h
      · exact hs i s (by omega) h (fun s' h' => ih (i + 1) s' (by omega) h')
  exact key (n - i).toNat i s (by omega) h
theorem lp_dn {σ : Type} {P : Int → σ → Prop} (I : Int → σ → Prop) (hx : ∀ i s, i < 0 → I i s → P i s) (hs : ∀ i s, 0 ≤ i → I i s → (∀ s', I (i - 1) s' → P (i - 1) s') → P i s) (i : Int) (s : σ) (h : I i s) : P i s := by
  have key : ∀ (k : Nat) (i : Int) (s : σ), i < k → I i s → P i s := by
    intro k
    induction k with
    | zero => intro i s hk h; exact hx i s (by omega) h
    | succ k ih =>
      intro i s hk h
      by_cases hi : i < 0
      · exact hx i s hi h
      · exact hs i s (by omega) h (fun s' h' => ih (i - 1) s' (by omega) h')
  exact key (i + 1).toNat i s (by omega) h
theorem lp_me {σ : Type} {P : σ → Prop} (I : σ → Prop) (μ : σ → Nat) (hs : ∀ s, I s → (∀ s', I s' → μ s' < μ s → P s') → P s) (s : σ) (h : I s) : P s := by
  have key : ∀ (k : Nat) (s : σ), μ s < k → I s → P s := by
    intro k
    induction k with
    | zero => intro s hk; omega
    | succ k ih => intro s hk h; exact hs s h (fun s' h' hm => ih s' (by omega) h')
  exact key (μ s + 1) s (by omega) h
theorem up_s (S : St) (c : Nat) (j v : Int) : up S c j v c j = v := by rw [up_c]; simp
theorem up_n (S : St) (c : Nat) {j j' : Int} (v : Int) (h : j' ≠ j) : up S c j v c j' = S c j' := by rw [up_c]; simp [h]
theorem upr (S : St) (c : Nat) (j v : Int) (c' : Nat) (j' : Int) : up S c j v c' j' = if c' = c ∧ j' = j then v else S c' j' := by
  by_cases hc : c' = c
  · subst hc
    rw [up_c]
    by_cases hj : j' = j <;> simp [hj]
  · rw [up_o S j v hc]
    simp [hc]
/-- nothing changed but the cells X and the single slots Y -/
def Fr (X : List Nat) (Y : List (Nat × Int)) (S S' : St) : Prop := ∀ c j, c ∉ X → (c, j) ∉ Y → S' c j = S c j
theorem Fr.rf (X : List Nat) (Y : List (Nat × Int)) (S : St) : Fr X Y S S := fun _ _ _ _ => rfl
theorem Fr.tr {X : List Nat} {Y : List (Nat × Int)} {S S1 S2 : St} (h : Fr X Y S S1) (h2 : Fr X Y S1 S2) : Fr X Y S S2 := fun c j hx hy => (h2 c j hx hy).trans (h c j hx hy)
theorem Fr.mo {X X' : List Nat} {Y Y' : List (Nat × Int)} {S S1 : St} (h : Fr X Y S S1) (hX : X.all (fun c => X'.contains c) = true) (hY : Y.all (fun q => X'.contains q.1 || Y'.contains q) = true) : Fr X' Y' S S1 := by
  intro c j hx hy
  refine h c j (fun z => hx ?_) (fun z => ?_)
  · have := List.all_eq_true.mp hX c z
    simpa using this
  · have := List.all_eq_true.mp hY (c, j) z
    rcases Bool.or_eq_true_iff.mp this with q | q
    · exact hx (by simpa using q)
    · exact hy (by simpa using q)
theorem Fr.up {X : List Nat} {Y : List (Nat × Int)} {S S1 : St} (h : Fr X Y S S1) (c : Nat) (j v : Int) (hc : (X.contains c || Y.contains (c, j)) = true) : Fr X Y S (up S1 c j v) := by
  intro c' j' hx hy
  rw [upr]
  split
  · rename_i z
    obtain ⟨rfl, rfl⟩ := z
    rcases Bool.or_eq_true_iff.mp hc with q | q
    · exact absurd (by simpa using q) hx
    · exact absurd (by simpa using q) hy
  · exact h c' j' hx hy
theorem Fr.c {X : List Nat} {Y : List (Nat × Int)} {S S1 : St} (h : Fr X Y S S1) (c : Nat) (hc : (X.contains c || Y.any (fun q => Nat.beq q.1 c)) = false) : S1 c = S c := by
  funext j
  have h1 := Bool.or_eq_false_iff.mp hc
  refine h c j (by simpa using h1.1) (fun z => ?_)
  have h2 := List.any_eq_false.mp h1.2 (c, j) z
  exact h2 (Nat.beq_refl c)
theorem Fr.s {X : List Nat} {Y : List (Nat × Int)} {S S1 : St} (h : Fr X Y S S1) (c : Nat) (j : Int) (hc : (X.contains c || Y.contains (c, j)) = false) : S1 c j = S c j := by
  have h1 := Bool.or_eq_false_iff.mp hc
  exact h c j (by simpa using h1.1) (by simpa using h1.2)
