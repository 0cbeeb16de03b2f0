/-! the reference: the land as it is told is tried; divisors -/
def stC (S : St) (c : Nat) (f : Int → Int) : St := fun c' => if c' = c then f else S c'
def cpI (f g : Int → Int) (n : Int) : Int → Int := fun j => if 0 ≤ j ∧ j < n then f j else g j
theorem stC_s (S : St) (c : Nat) (f : Int → Int) : stC S c f c = f := by unfold stC; rw [if_pos rfl]
theorem stC_o (S : St) {c c' : Nat} (f : Int → Int) (h : c' ≠ c) : stC S c f c' = S c' := by unfold stC; rw [if_neg h]
theorem up_st (S : St) (c : Nat) (j v : Int) : up S c j v = stC S c (uf (S c) j v) := rfl
theorem stC_stC (S : St) (c : Nat) (f g : Int → Int) : stC (stC S c f) c g = stC S c g := by
  funext c'
  by_cases h : c' = c
  · rw [h, stC_s, stC_s]
  · rw [stC_o _ _ h, stC_o _ _ h, stC_o _ _ h]
theorem stC_cm (S : St) {c d : Nat} (f g : Int → Int) (h : c ≠ d) : stC (stC S c f) d g = stC (stC S d g) c f := by
  funext k
  by_cases h1 : k = d
  · subst h1
    rw [stC_s, stC_o _ _ (Ne.symm h), stC_s]
  · rw [stC_o _ _ h1]
    by_cases h2 : k = c
    · rw [h2, stC_s, stC_s]
    · rw [stC_o _ _ h2, stC_o _ _ h2, stC_o _ _ h1]
theorem up_stC_s (S : St) (c : Nat) (f : Int → Int) (j v : Int) : up (stC S c f) c j v = stC S c (uf f j v) := by rw [up_st, stC_s, stC_stC]
theorem up_stC_o (S : St) {c d : Nat} (f : Int → Int) (j v : Int) (h : d ≠ c) : up (stC S c f) d j v = stC (up S d j v) c f := by rw [up_st, up_st, stC_o _ _ h, stC_cm _ _ _ (Ne.symm h)]
theorem stC_id (S : St) (c : Nat) : stC S c (S c) = S := by
  funext k
  by_cases h : k = c
  · rw [h, stC_s]
  · rw [stC_o _ _ h]
theorem cpI_0 (f g : Int → Int) : cpI f g 0 = g := by
  funext j
  unfold cpI
  rw [if_neg (by omega)]
theorem cpI_s (f g : Int → Int) {i : Int} (h : 0 ≤ i) : uf (cpI f g i) i (f i) = cpI f g (i + 1) := by
  funext j
  by_cases hj : j = i
  · rw [hj, uf_s]
    unfold cpI
    rw [if_pos (by omega)]
  · rw [uf_n _ _ hj]
    unfold cpI
    by_cases h2 : 0 ≤ j ∧ j < i
    · rw [if_pos h2, if_pos (by omega)]
    · rw [if_neg h2, if_neg (by omega)]
theorem cpI_in (f g : Int → Int) {n i : Int} (h0 : 0 ≤ i) (h1 : i < n) : cpI f g n i = f i := by unfold cpI; rw [if_pos ⟨h0, h1⟩]
/-- the state behind asTold -/
def asS (S : St) : St := stC (stC (stC (stC (up S 0 38 0) 20 (cpI (fun g => if g < S 0 19 then S 9 g else -1) (S 20) 4)) 19 (cpI (S 14) (S 19) 20)) 18 (cpI (S 11) (S 18) (S 0 20))) 17 (cpI (S 10) (S 17) (S 0 20))
set_option maxHeartbeats 4000000 in
theorem t_M_asTold (S : St) (Q : Option AV → St → Prop) (hn : 0 ≤ S 0 20 ∧ S 0 20 ≤ 5) (hk : 0 ≤ S 0 19 ∧ S 0 19 ≤ 4) (hQ : Q none (asS S)) : Smm H_M_asTold 0 [some (.inr (.inr 0)), none] [] S Q := by
  have loop3 : ∀ (i : Int) (T : St), ((0 ≤ i ∧ i ≤ 4) ∧ T = stC (stC (stC (stC S 20 (cpI (fun g => if g < S 0 19 then S 9 g else -1) (S 20) i)) 19 (cpI (S 14) (S 19) 20)) 18 (cpI (S 11) (S 18) (S 0 20))) 17 (cpI (S 10) (S 17) (S 0 20))) → Smm H_M_asTold 68 [some (.inr (.inr 0)), some (.inl i)] [] T Q := by
    refine lp_up (P := fun i T => Smm H_M_asTold 68 [some (.inr (.inr 0)), some (.inl i)] [] T Q) _ 4 ?_ ?_
    · rintro i T hi ⟨hi2, hT⟩
      refine sound ok_M_asTold [68] 20 ?_
      refine ⟨fun _ => ?_, fun h3 => absurd h3 (by omega)⟩
      have e : up T 0 38 0 = asS S := by
        rw [hT, show i = 4 by omega]
        unfold asS
        rw [up_stC_o _ _ _ _ (by decide), up_stC_o _ _ _ _ (by decide), up_stC_o _ _ _ _ (by decide), up_stC_o _ _ _ _ (by decide)]
      rw [← e] at hQ
      exact hQ
    · rintro i T hi ⟨hi2, hT⟩ ih
      have t9 : T 9 = S 9 := by rw [hT, stC_o _ _ (by decide), stC_o _ _ (by decide), stC_o _ _ (by decide), stC_o _ _ (by decide)]
      have t0 : T 0 = S 0 := by rw [hT, stC_o _ _ (by decide), stC_o _ _ (by decide), stC_o _ _ (by decide), stC_o _ _ (by decide)]
      have q19 : T 0 19 = S 0 19 := by rw [t0]
      have fin : ∀ v : Int, v = (if i < S 0 19 then S 9 i else -1) → Smm H_M_asTold 68 [some (.inr (.inr 0)), some (.inl (i32 (i + 1)))] [] (up T 20 i v) Q := by
        intro v hv
        refine Smm.sub (ih (up T 20 i v) ⟨by omega, ?_⟩) ⟨Or.inr rfl, Or.inr (sI (by unfold i32; omega)), trivial⟩
        rw [hT, up_stC_o _ _ _ _ (by decide), up_stC_o _ _ _ _ (by decide), up_stC_o _ _ _ _ (by decide), up_stC_s, hv]
        rw [← cpI_s (fun g => if g < S 0 19 then S 9 g else -1) _ hi2.1]
      refine sound ok_M_asTold [68] 40 ?_
      refine ⟨fun h3 => absurd h3 (by omega), fun _ => ?_⟩
      refine ⟨fun h3 => ?_, fun h3 => ?_⟩
      · refine ⟨by omega, ?_⟩
        exact fin _ (by rw [if_neg (by omega)])
      · refine ⟨by omega, ?_⟩
        refine ⟨by omega, ?_⟩
        exact fin _ (by rw [if_pos (by omega), t9])
  have loop2 : ∀ (i : Int) (T : St), ((0 ≤ i ∧ i ≤ 20) ∧ T = stC (stC (stC S 19 (cpI (S 14) (S 19) i)) 18 (cpI (S 11) (S 18) (S 0 20))) 17 (cpI (S 10) (S 17) (S 0 20))) → Smm H_M_asTold 42 [some (.inr (.inr 0)), some (.inl i)] [] T Q := by
    refine lp_up (P := fun i T => Smm H_M_asTold 42 [some (.inr (.inr 0)), some (.inl i)] [] T Q) _ 20 ?_ ?_
    · rintro i T hi ⟨hi2, hT⟩
      refine sound ok_M_asTold [68] 20 ?_
      refine ⟨fun _ => ?_, fun h3 => absurd h3 (by omega)⟩
      refine loop3 0 T ⟨by omega, ?_⟩
      rw [hT, show i = 20 by omega, cpI_0, stC_id]
    · rintro i T hi ⟨hi2, hT⟩ ih
      have t14 : T 14 = S 14 := by rw [hT, stC_o _ _ (by decide), stC_o _ _ (by decide), stC_o _ _ (by decide)]
      refine sound ok_M_asTold [42] 40 ?_
      refine ⟨fun h3 => absurd h3 (by omega), fun _ => ?_⟩
      refine ⟨by omega, ?_⟩
      refine ⟨by omega, ?_⟩
      refine Smm.sub (ih _ ⟨by omega, ?_⟩) ⟨Or.inr rfl, Or.inr (sI (by unfold i32; omega)), trivial⟩
      rw [t14, hT, up_stC_o _ _ _ _ (by decide), up_stC_o _ _ _ _ (by decide), up_stC_s, cpI_s _ _ hi2.1]
  have loop1 : ∀ (i : Int) (T : St), ((0 ≤ i ∧ i ≤ S 0 20) ∧ T = stC (stC S 18 (cpI (S 11) (S 18) i)) 17 (cpI (S 10) (S 17) i)) → Smm H_M_asTold 2 [some (.inr (.inr 0)), some (.inl i)] [] T Q := by
    refine lp_up (P := fun i T => Smm H_M_asTold 2 [some (.inr (.inr 0)), some (.inl i)] [] T Q) _ (S 0 20) ?_ ?_
    · rintro i T hi ⟨hi2, hT⟩
      have t0 : T 0 = S 0 := by rw [hT, stC_o _ _ (by decide), stC_o _ _ (by decide)]
      have q20 : T 0 20 = S 0 20 := by rw [t0]
      refine sound ok_M_asTold [42] 20 ?_
      refine ⟨fun _ => ?_, fun h3 => absurd h3 (by omega)⟩
      refine loop2 0 T ⟨by omega, ?_⟩
      rw [hT, show i = S 0 20 by omega, cpI_0, stC_id]
    · rintro i T hi ⟨hi2, hT⟩ ih
      have t0 : T 0 = S 0 := by rw [hT, stC_o _ _ (by decide), stC_o _ _ (by decide)]
      have q20 : T 0 20 = S 0 20 := by rw [t0]
      have t10 : T 10 = S 10 := by rw [hT, stC_o _ _ (by decide), stC_o _ _ (by decide)]
      have t11 : T 11 = S 11 := by rw [hT, stC_o _ _ (by decide), stC_o _ _ (by decide)]
      refine sound ok_M_asTold [2] 60 ?_
      refine ⟨fun h3 => absurd h3 (by omega), fun _ => ?_⟩
      refine ⟨by omega, ?_⟩
      refine ⟨by omega, ?_⟩
      refine ⟨by omega, ?_⟩
      refine ⟨by omega, ?_⟩
      refine Smm.sub (ih _ ⟨by omega, ?_⟩) ⟨Or.inr rfl, Or.inr (sI (by unfold i32; omega)), trivial⟩
      rw [up_o T _ _ (by decide : (11 : Nat) ≠ 17), t10, t11, hT, up_stC_s, up_stC_o _ _ _ _ (by decide), up_stC_s, cpI_s _ _ hi2.1, cpI_s _ _ hi2.1]
  refine sound ok_M_asTold [2] 20 ?_
  refine loop1 0 S ⟨by omega, ?_⟩
  rw [cpI_0, cpI_0, stC_id, stC_id]
