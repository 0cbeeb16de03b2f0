/-! the reference: better, idle, deaf, helper -/
/-- two states that differ in what a way leaves behind are tried alike, also when both are changed alike -/
theorem Sm.fr {S S' : St} (h : Fr [21, 22, 23, 24, 25] [] S S') : Sm S S' := Sm.of h rfl
theorem Sm.up {S S' : St} (h : Fr [21, 22, 23, 24, 25] [] S S') (c : Nat) (j v : Int) : Sm (up S c j v) (up S' c j v) := by
  refine Sm.fr (fun c' j' hx hy => ?_)
  rw [upr, upr]
  split
  · rfl
  · exact h c' j' hx hy
theorem mAs_pl {T : St} (h : mAs T) {g v : Int} (hv : -1 ≤ v ∧ v < T 0 31) : mAs (up T 20 g v) := by
  obtain ⟨⟨h1, h2, h3, h4⟩, h5⟩ := h
  refine ⟨⟨?_, ?_, ?_, ?_⟩, ?_⟩
  · rw [up_o _ _ _ (by decide), up_o _ _ _ (by decide), up_o _ _ _ (by decide), up_o _ _ _ (by decide), up_o _ _ _ (by decide)]; exact h1
  · rw [up_o _ _ _ (by decide)]; exact h2
  · intro j j0 j1
    rw [up_o _ _ _ (by decide : (0 : Nat) ≠ 20)]
    by_cases hj : j = g
    · rw [hj, up_s]; exact hv
    · rw [up_n _ _ _ hj]; exact h3 j j0 j1
  · unfold plM
    rw [up_o _ _ _ (by decide), up_o _ _ _ (by decide), up_o _ _ _ (by decide)]
    exact h4
  · rw [up_o _ _ _ (by decide), up_o _ _ _ (by decide)]; exact h5
theorem mAs_gone {T : St} (h : mAs T) (v : Int) : mAs (up T 0 38 v) := by
  obtain ⟨⟨h1, h2, h3, h4⟩, h5⟩ := h
  unfold plM at h4
  have e19 : up T 0 38 v 0 19 = T 0 19 := up_n _ _ _ (by decide)
  have e20 : up T 0 38 v 0 20 = T 0 20 := up_n _ _ _ (by decide)
  have e21 : up T 0 38 v 0 21 = T 0 21 := up_n _ _ _ (by decide)
  have e22 : up T 0 38 v 0 22 = T 0 22 := up_n _ _ _ (by decide)
  have e31 : up T 0 38 v 0 31 = T 0 31 := up_n _ _ _ (by decide)
  refine ⟨⟨?_, ?_, ?_, ?_⟩, ?_⟩
  · rw [e20, up_o _ _ _ (by decide), up_o _ _ _ (by decide), up_o _ _ _ (by decide), up_o _ _ _ (by decide)]; exact h1
  · rw [e19]; exact h2
  · rw [e31, up_o _ _ _ (by decide)]; exact h3
  · unfold plM
    rw [e31, up_o _ _ _ (by decide), up_o _ _ _ (by decide)]
    exact h4
  · rw [e20, e21, e22, up_o _ _ _ (by decide)]; exact h5
theorem mAs_al {T : St} (h : mAs T) {j v : Int} (hv : -1 ≤ v ∧ v ≤ 9) : mAs (up T 19 j v) := by
  obtain ⟨⟨⟨h1, h2, h3⟩, h4⟩, h5⟩ := h
  unfold plM at h4
  refine ⟨⟨⟨?_, ?_, ?_⟩, ?_⟩, ?_⟩
  · rw [up_o _ _ _ (by decide)]; exact h1
  · rw [up_o _ _ _ (by decide), up_o _ _ _ (by decide), up_o _ _ _ (by decide), up_o _ _ _ (by decide)]; exact h2
  · intro i i0 i1
    by_cases hj : i = j
    · rw [hj, up_s]; exact hv
    · rw [up_n _ _ _ hj]; exact h3 i i0 i1
  · unfold plM
    rw [up_o _ _ _ (by decide), up_o _ _ _ (by decide), up_o _ _ _ (by decide), up_o _ _ _ (by decide)]
    exact h4
  · rw [up_o _ _ _ (by decide), up_o _ _ _ (by decide)]; exact h5
theorem mAs_ae {T : St} (h : mAs T) {j v : Int} (hv : 0 ≤ v ∧ v ≤ 3) : mAs (up T 18 j v) := by
  obtain ⟨h1, h2, h3⟩ := h
  unfold mOk plM at h1
  refine ⟨?_, ?_, ?_⟩
  · unfold mOk plM
    rw [up_o _ _ _ (by decide), up_o _ _ _ (by decide), up_o _ _ _ (by decide), up_o _ _ _ (by decide), up_o _ _ _ (by decide), up_o _ _ _ (by decide), up_o _ _ _ (by decide), up_o _ _ _ (by decide)]
    exact h1
  · rw [up_o _ _ _ (by decide)]; exact h2
  · intro i i0 i1
    rw [up_o _ _ _ (by decide)] at i1
    by_cases hj : i = j
    · rw [hj, up_s]; exact hv
    · rw [up_n _ _ _ hj]; exact h3 i i0 i1
theorem up_up (S : St) (c : Nat) (j v w : Int) : up (up S c j v) c j w = up S c j w := by
  rw [up_st, up_st, up_st, stC_s, stC_stC, uf_uf]
def aM_better (S : St) (g one other : Int) : Int := if ¬ (¬ S 0 18 = 0 ∧ 0 ≤ g ∧ g < S 0 19) ∨ one < 0 ∨ S 0 31 ≤ one ∨ other < 0 ∨ S 0 31 ≤ other then -1000000 else cntM (up (tl S) 20 g one) - cntM (up (tl S) 20 g other)
theorem t_M_better (S : St) (g one other : Int) (Q : Option AV → St → Prop) (hL : ¬ S 0 18 = 0 → ldM S) (hp : plM S) (hQ : ∀ S', Fr [17, 18, 19, 20, 21, 22, 23, 24, 25, 26, 27, 28, 29, 31] [(0, 0), (0, 38)] S S' → Q (some (.inl (aM_better S g one other))) S') : Smm H_M_better 0 [some (.inr (.inr 0)), some (.inl g), some (.inl one), some (.inl other), none] [] S Q := by
  have e18 : th S 0 18 = S 0 18 := th_0 S (by decide)
  have e19 : th S 0 19 = S 0 19 := th_0 S (by decide)
  have e31 : th S 0 31 = S 0 31 := th_0 S (by decide)
  have no : (¬ (¬ S 0 18 = 0 ∧ 0 ≤ g ∧ g < S 0 19) ∨ one < 0 ∨ S 0 31 ≤ one ∨ other < 0 ∨ S 0 31 ≤ other) → Q (some (.inl (-1000000))) (th S) := fun hz => by
    have := hQ (th S) (th_fr S)
    unfold aM_better at this
    rwa [if_pos hz] at this
  refine sound ok_M_better [] 80 ?_
  refine t_M_isGuard (th S) g _ (fun h1 => ?_) (fun h1 => ?_)
  · rw [e18, e19] at h1
    refine ⟨fun z => absurd z (by decide), fun _ => ?_⟩
    refine ⟨fun h2 => no (by omega), fun h2 => ?_⟩
    refine ⟨fun h3 => no (by rw [← e31]; exact Or.inr (Or.inr (Or.inl h3))), fun h3 => ?_⟩
    refine ⟨fun h4 => no (by omega), fun h4 => ?_⟩
    refine ⟨fun h5 => ?_, fun h5 => no (by rw [← e31]; exact Or.inr (Or.inr (Or.inr (Or.inr h5))))⟩
    replace h3 : one < S 0 31 := by rw [← e31]; exact h3
    replace h5 : other < S 0 31 := by rw [← e31]; exact h5
    have hl := hL h1.1
    have hA := tl_mAs hl hp
    have hk4 := hl.1
    have p31 : tl S 0 31 = S 0 31 := tl_0 S (by decide) (by decide)
    refine t_M_asTold (th S) _ (by rw [th_0 S (by decide)]; have := hl.2.1; omega) (by rw [e19]; omega) ?_
    refine ⟨by omega, ?_⟩
    refine t_M_openings (up (tl S) 20 g one) _ (mAs_pl hA (by rw [p31]; omega)) (fun S1 hF1 => ?_)
    refine ⟨by omega, ?_⟩
    have hSm : Sm (up (tl S) 20 g other) (up S1 20 g other) := by
      have := Sm.up hF1 20 g other
      rwa [up_up] at this
    have hA2 := mAs_pl (g := g) (v := other) hA (by rw [p31]; omega)
    refine t_M_openings (up S1 20 g other) _ (mAs_sm hSm hA2) (fun S2 hF2 => ?_)
    have hb1 := cntM_b (mAs_pl (g := g) (v := one) hA (by rw [p31]; omega))
    have hb2 := cntM_b hA2
    have := hQ S2 ((((tl_fr S).up 20 g one rfl).tr (hF1.mo rfl rfl)).up 20 g other rfl |>.tr (hF2.mo rfl rfl))
    unfold aM_better at this
    rw [if_neg (by omega)] at this
    have ec : i32 (cntM (up (tl S) 20 g one) - cntM (up S1 20 g other)) = cntM (up (tl S) 20 g one) - cntM (up (tl S) 20 g other) := by rw [cntM_sm hSm]; unfold i32; omega
    rw [← ec] at this
    exact this
  · rw [e18, e19] at h1
    exact ⟨fun _ => no (Or.inl h1), fun z => absurd rfl z⟩
/-- bit by bit: which of the first k have it -/
def bitF (p : Nat → Bool) : Nat → Int
  | 0 => 0
  | k + 1 => if p k then ior (bitF p k) (ishl 1 k) else bitF p k
def aM_idle (S : St) : Int := if S 0 18 = 0 then -1 else bitF (fun s => decide (cntM (tl S) ≤ cntM (up (tl S) 0 38 (ishl 1 s)))) (S 0 20).toNat
theorem t_M_idle (S : St) (Q : Option AV → St → Prop) (hL : ¬ S 0 18 = 0 → ldM S) (hp : plM S) (hQ : ∀ S', Fr [17, 18, 19, 20, 21, 22, 23, 24, 25, 26, 27, 28, 29, 31] [(0, 0), (0, 38)] S S' → Q (some (.inl (aM_idle S))) S') : Smm H_M_idle 0 [some (.inr (.inr 0)), none, none, none] [] S Q := by
  have e18 : th S 0 18 = S 0 18 := th_0 S (by decide)
  refine sound ok_M_idle [27] 60 ?_
  refine ⟨fun h1 => ?_, fun h1 => ?_⟩
  · replace h1 : ¬ S 0 18 = 0 := fun z => h1 (e18.trans z)
    have hl := hL h1
    have hA := tl_mAs hl hp
    have hn5 := hl.2.1
    have p20 : tl S 0 20 = S 0 20 := tl_0 S (by decide) (by decide)
    have loop : ∀ (i : Int) (T : St), ((0 ≤ i ∧ i ≤ S 0 20) ∧ ∃ v, Fr [21, 22, 23, 24, 25] [] (up (tl S) 0 38 v) T) → Smm H_M_idle 27 [some (.inr (.inr 0)), some (.inl (cntM (tl S))), some (.inl (bitF (fun s => decide (cntM (tl S) ≤ cntM (up (tl S) 0 38 (ishl 1 s)))) i.toNat)), some (.inl i)] [] T Q := by
      refine lp_up (P := fun i T => Smm H_M_idle 27 [some (.inr (.inr 0)), some (.inl (cntM (tl S))), some (.inl (bitF (fun s => decide (cntM (tl S) ≤ cntM (up (tl S) 0 38 (ishl 1 s)))) i.toNat)), some (.inl i)] [] T Q) _ (S 0 20) ?_ ?_
      · rintro i T hi ⟨hi2, v, hF⟩
        have q20 : T 0 20 = S 0 20 := by rw [hF.c 0 rfl, up_n _ _ _ (by decide), p20]
        refine sound ok_M_idle [27] 20 ?_
        refine ⟨fun _ => ?_, fun h3 => absurd h3 (by omega)⟩
        have := hQ T (((tl_fr S).up 0 38 v rfl).tr (hF.mo rfl rfl))
        unfold aM_idle at this
        rw [if_neg h1] at this
        rw [show i = S 0 20 by omega]
        exact this
      · rintro i T hi ⟨hi2, v, hF⟩ ih
        have q20 : T 0 20 = S 0 20 := by rw [hF.c 0 rfl, up_n _ _ _ (by decide), p20]
        obtain ⟨k, rfl⟩ : ∃ k : Nat, i = k := ⟨i.toNat, by omega⟩
        rw [show ((k : Int)).toNat = k by omega]
        rw [show ((k : Int) + 1).toNat = k + 1 by omega, bitF] at ih
        have hSm : Sm (up (tl S) 0 38 (ishl 1 k)) (up T 0 38 (ishl 1 k)) := by
          have := Sm.up hF 0 38 (ishl 1 k)
          rwa [up_up] at this
        have hA2 := mAs_gone hA (ishl 1 k)
        have hFr : ∀ T2, Fr [21, 22, 23, 24, 25] [] (up T 0 38 (ishl 1 k)) T2 → Fr [21, 22, 23, 24, 25] [] (up (tl S) 0 38 (ishl 1 k)) T2 := fun T2 h2 => by
          refine Fr.tr (S1 := up T 0 38 (ishl 1 k)) (fun c' j' hx hy => ?_) h2
          rw [upr, upr]
          split
          · rfl
          · rename_i hz
            rw [hF c' j' hx hy, upr, if_neg hz]
        refine sound ok_M_idle [27] 60 ?_
        refine ⟨fun h3 => absurd h3 (by omega), fun _ => ?_⟩
        refine t_M_openings (up T 0 38 (ishl 1 k)) _ (mAs_sm hSm hA2) (fun T2 hF2 => ?_)
        have ec : ((List.countP (opM (up T 0 38 (ishl 1 k))) (wyM (up T 0 38 (ishl 1 k))) : Nat) : Int) = cntM (up (tl S) 0 38 (ishl 1 k)) := cntM_sm hSm
        refine ⟨fun h3 => ?_, fun h3 => ?_⟩
        · rw [ec] at h3
          refine Smm.sub (ih T2 ⟨by omega, _, hFr T2 hF2⟩) ⟨Or.inr rfl, Or.inr rfl, Or.inr (sI ?_), Or.inr (sI (by unfold i32; omega)), trivial⟩
          rw [if_neg (by simpa using h3)]
        · rw [ec] at h3
          refine Smm.sub (ih T2 ⟨by omega, _, hFr T2 hF2⟩) ⟨Or.inr rfl, Or.inr rfl, Or.inr (sI ?_), Or.inr (sI (by unfold i32; omega)), trivial⟩
          rw [if_pos (by simpa using h3)]
    refine t_M_asTold (th S) _ (by rw [th_0 S (by decide)]; omega) (by rw [th_0 S (by decide)]; have := hl.1; omega) ?_
    refine t_M_openings (tl S) _ hA (fun T hF => ?_)
    refine loop 0 T ⟨by omega, tl S 0 38, ?_⟩
    have e : up (tl S) 0 38 (tl S 0 38) = tl S := by
      rw [up_st]
      have : uf (tl S 0) 38 (tl S 0 38) = tl S 0 := by
        funext j
        by_cases hj : j = 38
        · rw [hj, uf_s]
        · rw [uf_n _ _ hj]
      rw [this, stC_id]
    rw [e]
    exact hF
  · have := hQ (th S) (th_fr S)
    unfold aM_idle at this
    rw [if_pos (e18 ▸ h1)] at this
    exact this
