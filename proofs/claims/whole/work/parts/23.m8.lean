/-! the reference: lossy, deaf, helper -/
def shF (set risk : Int) : Nat → Int
  | 0 => 1000000000
  | k + 1 => if iand (ishr set k) 1 = 1 then jdiv (i64 (shF set risk k * risk)) 100 else i64 (shF set risk k - jdiv (i64 (shF set risk k * risk)) 100)
def lsF (S : St) (risk : Int) : Nat → Int
  | 0 => 0
  | q + 1 => if 0 < shF q risk (S 0 20).toNat then i64 (lsF S risk q + jdiv (i64 (shF q risk (S 0 20).toNat * cntM (up (tl S) 0 38 q))) (lenM (tl S))) else lsF S risk q
def aM_lossy (S : St) (risk : Int) : Int := if S 0 18 = 0 ∨ risk < 0 ∨ 100 < risk then -1 else i32 (lsF S risk (2 ^ (S 0 20).toNat))
theorem sJ {a b : Int} (h : a = b) : (some (.inr (.inl a)) : Option AV) = some (.inr (.inl b)) := by rw [h]
set_option maxHeartbeats 4000000 in
theorem t_M_lossy (S : St) (risk : Int) (Q : Option AV → St → Prop) (hL : ¬ S 0 18 = 0 → ldM S) (hp : plM S) (hQ : ∀ S', Fr [17, 18, 19, 20, 21, 22, 23, 24, 25, 26, 27, 28, 29, 31] [(0, 0), (0, 38)] S S' → Q (some (.inl (aM_lossy S risk))) S') : Smm H_M_lossy 0 [some (.inr (.inr 0)), some (.inl risk), none, none, none, none, none, none, none, none, none, none] [] S Q := by
  have e18 : th S 0 18 = S 0 18 := th_0 S (by decide)
  have no : (S 0 18 = 0 ∨ risk < 0 ∨ 100 < risk) → Q (some (.inl (-1))) (th S) := fun hz => by
    have := hQ (th S) (th_fr S)
    unfold aM_lossy at this
    rwa [if_pos hz] at this
  refine sound ok_M_lossy [40] 60 ?_
  refine ⟨fun h1 => no (Or.inl (e18 ▸ h1)), fun h1 => ?_⟩
  replace h1 : ¬ S 0 18 = 0 := fun z => h1 (e18.trans z)
  refine ⟨fun h2 => no (by omega), fun h2 => ?_⟩
  refine ⟨fun h3 => ?_, fun h3 => no (by omega)⟩
  have hl := hL h1
  have hA := tl_mAs hl hp
  have hn5 := hl.2.1
  have hb := cntM_b hA
  have p20 : tl S 0 20 = S 0 20 := tl_0 S (by decide) (by decide)
  have h32 : 2 ^ (S 0 20).toNat ≤ 2 ^ 5 := Nat.pow_le_pow_right (by omega) (by omega)
  have loop : ∀ (i : Int) (T : St), ((0 ≤ i ∧ i ≤ (2 ^ (S 0 20).toNat : Nat)) ∧ ∃ v, Fr [21, 22, 23, 24, 25] [] (up (tl S) 0 38 v) T) → Smm H_M_lossy 40 [some (.inr (.inr 0)), some (.inl risk), some (.inr (.inl (lenM (tl S)))), none, some (.inr (.inl (lsF S risk i.toNat))), none, some (.inl i), none, none, none, none, none] [] T Q := by
    refine lp_up (P := fun i T => Smm H_M_lossy 40 [some (.inr (.inr 0)), some (.inl risk), some (.inr (.inl (lenM (tl S)))), none, some (.inr (.inl (lsF S risk i.toNat))), none, some (.inl i), none, none, none, none, none] [] T Q) _ ((2 ^ (S 0 20).toNat : Nat) : Int) ?_ ?_
    · rintro i T hi ⟨hi2, v, hF⟩
      have q20 : T 0 20 = S 0 20 := by rw [hF.c 0 rfl, up_n _ _ _ (by decide), p20]
      have hsh : ishl 1 (T 0 20) = ((2 ^ (S 0 20).toNat : Nat) : Int) := by rw [q20, ishl1 (by omega) (by omega)]; simp
      refine sound ok_M_lossy [40] 20 ?_
      refine ⟨fun _ => ?_, fun h3 => absurd h3 (by omega)⟩
      have := hQ T (((tl_fr S).up 0 38 v rfl).tr (hF.mo rfl rfl))
      unfold aM_lossy at this
      rw [if_neg (by omega)] at this
      rw [show i.toNat = 2 ^ (S 0 20).toNat by omega]
      exact this
    · rintro i T hi ⟨hi2, v, hF⟩ ih
      have q20 : T 0 20 = S 0 20 := by rw [hF.c 0 rfl, up_n _ _ _ (by decide), p20]
      have hsh : ishl 1 (T 0 20) = ((2 ^ (S 0 20).toNat : Nat) : Int) := by rw [q20, ishl1 (by omega) (by omega)]; simp
      obtain ⟨k, rfl⟩ : ∃ k : Nat, i = k := ⟨i.toNat, by omega⟩
      rw [show ((k : Int)).toNat = k by omega]
      rw [show ((k : Int) + 1).toNat = k + 1 by omega, lsF] at ih
      have hSm : Sm (up (tl S) 0 38 k) (up T 0 38 k) := by
        have := Sm.up hF 0 38 k
        rwa [up_up] at this
      have hA2 := mAs_gone hA k
      have hFr : ∀ T2, Fr [21, 22, 23, 24, 25] [] (up T 0 38 k) T2 → Fr [21, 22, 23, 24, 25] [] (up (tl S) 0 38 k) T2 := fun T2 h2 => by
        refine Fr.tr (S1 := up T 0 38 k) (fun c' j' hx hy => ?_) h2
        rw [upr, upr]
        split
        · rfl
        · rename_i hz
          rw [hF c' j' hx hy, upr, if_neg hz]
      have back : ∀ (T2 : St) (z : Int) (x10 : Option AV), Fr [21, 22, 23, 24, 25] [] (up (tl S) 0 38 k) T2 → z = (if 0 < shF k risk (S 0 20).toNat then i64 (lsF S risk k + jdiv (i64 (shF k risk (S 0 20).toNat * cntM (up (tl S) 0 38 k))) (lenM (tl S))) else lsF S risk k) → ∀ x7 x9 : Option AV, Smm H_M_lossy 136 [some (.inr (.inr 0)), some (.inl risk), some (.inr (.inl (lenM (tl S)))), none, some (.inr (.inl z)), none, some (.inl (k : Int)), x7, none, x9, x10, none] [] T2 Q := by
        intro T2 z x10 hF2 hz x7 x9
        refine sound ok_M_lossy [40] 20 ?_
        refine Smm.sub (ih T2 ⟨by omega, _, hF2⟩) ⟨Or.inr rfl, Or.inr rfl, Or.inr rfl, Or.inr rfl, Or.inr (sJ hz.symm), Or.inr rfl, Or.inr (sI (by unfold i32; omega)), Or.inl rfl, Or.inl rfl, Or.inl rfl, Or.inl rfl, Or.inl rfl, trivial⟩
      have behind : ∀ x10 : Option AV, Smm H_M_lossy 108 [some (.inr (.inr 0)), some (.inl risk), some (.inr (.inl (lenM (tl S)))), none, some (.inr (.inl (lsF S risk k))), none, some (.inl (k : Int)), some (.inr (.inl (shF k risk (S 0 20).toNat))), none, some (.inl (S 0 20)), x10, none] [] T Q := by
        intro x10
        refine sound ok_M_lossy [136] 40 ?_
        refine ⟨fun h4 => ?_, fun h4 => ?_⟩
        · rw [jcmp_le] at h4
          exact back _ _ _ (hFr _ (Fr.rf _ _ _)) (by rw [if_neg (by omega)]) _ _
        · rw [jcmp_gt] at h4
          have h4 : 0 < shF k risk (S 0 20).toNat := h4
          refine t_M_openings _ _ (mAs_sm hSm hA2) (fun T2 hF2 => ?_)
          have ec : ((List.countP (opM (up T 0 38 k)) (wyM (up T 0 38 k)) : Nat) : Int) = cntM (up (tl S) 0 38 k) := cntM_sm hSm
          refine ⟨by omega, ?_⟩
          exact back _ _ _ (hFr _ hF2) (by rw [if_pos h4, ec]) _ _
      have inner : ∀ (j : Int) (x10 : Option AV), (0 ≤ j ∧ j ≤ S 0 20) → Smm H_M_lossy 59 [some (.inr (.inr 0)), some (.inl risk), some (.inr (.inl (lenM (tl S)))), none, some (.inr (.inl (lsF S risk k))), none, some (.inl (k : Int)), some (.inr (.inl (shF k risk j.toNat))), none, some (.inl j), x10, none] [] T Q := by
        refine lp_up (P := fun j x10 => Smm H_M_lossy 59 [some (.inr (.inr 0)), some (.inl risk), some (.inr (.inl (lenM (tl S)))), none, some (.inr (.inl (lsF S risk k))), none, some (.inl (k : Int)), some (.inr (.inl (shF k risk j.toNat))), none, some (.inl j), x10, none] [] T Q) (fun j _ => 0 ≤ j ∧ j ≤ S 0 20) (S 0 20) ?_ ?_
        · rintro j x10 hj hj2
          refine sound ok_M_lossy [108] 20 ?_
          refine ⟨fun _ => ?_, fun h4 => absurd h4 (by omega)⟩
          rw [show j = S 0 20 by omega]
          exact behind _
        · rintro j x10 hj hj2 ih2
          obtain ⟨q, rfl⟩ : ∃ q : Nat, j = q := ⟨j.toNat, by omega⟩
          rw [show ((q : Int)).toNat = q by omega]
          rw [show ((q : Int) + 1).toNat = q + 1 by omega, shF] at ih2
          refine sound ok_M_lossy [59] 60 ?_
          refine ⟨fun h4 => absurd h4 (by omega), fun _ => ?_⟩
          refine ⟨by decide, ?_⟩
          refine ⟨fun h4 => ?_, fun h4 => ?_⟩
          · have := ih2 (some (.inr (.inl (jdiv (i64 (shF k risk q * risk)) 100)))) (by omega)
            rw [if_neg h4] at this
            exact Smm.sub this ⟨Or.inr rfl, Or.inr rfl, Or.inr rfl, Or.inr rfl, Or.inr rfl, Or.inr rfl, Or.inr rfl, Or.inr rfl, Or.inr rfl, Or.inr (sI (by unfold i32; omega)), Or.inr rfl, Or.inr rfl, trivial⟩
          · have := ih2 (some (.inr (.inl (jdiv (i64 (shF k risk q * risk)) 100)))) (by omega)
            rw [if_pos h4] at this
            exact Smm.sub this ⟨Or.inr rfl, Or.inr rfl, Or.inr rfl, Or.inr rfl, Or.inr rfl, Or.inr rfl, Or.inr rfl, Or.inr rfl, Or.inr rfl, Or.inr (sI (by unfold i32; omega)), Or.inr rfl, Or.inr rfl, trivial⟩
      refine sound ok_M_lossy [59] 40 ?_
      refine ⟨fun h4 => absurd h4 (by omega), fun _ => ?_⟩
      exact inner 0 none (by omega)
  refine t_M_asTold (th S) _ (by rw [th_0 S (by decide)]; omega) (by rw [th_0 S (by decide)]; have := hl.1; omega) ?_
  refine t_M_allWays (tl S) _ hA ?_
  refine Smm.sub (loop 0 (tl S) ⟨⟨Int.le_refl 0, Int.natCast_nonneg _⟩, tl S 0 38, ?_⟩) ⟨Or.inr rfl, Or.inr rfl, Or.inr rfl, Or.inr rfl, Or.inr rfl, Or.inr rfl, Or.inr rfl, Or.inl rfl, Or.inl rfl, Or.inl rfl, Or.inl rfl, Or.inl rfl, trivial⟩
  have e : up (tl S) 0 38 (tl S 0 38) = tl S := by
    rw [up_st]
    have : uf (tl S 0) 38 (tl S 0 38) = tl S 0 := by
      funext j
      by_cases hj : j = 38
      · rw [hj, uf_s]
      · rw [uf_n _ _ hj]
    rw [this, stC_id]
  rw [e]
  exact Fr.rf _ _ _
/-- a guard that hears nothing -/
def dfF (f : Int → Int) (g k : Int) : Int → Int := fun j => if 5 * g ≤ j ∧ j < 5 * g + k then -1 else f j
theorem dfF_0 (f : Int → Int) (g : Int) : dfF f g 0 = f := by funext j; unfold dfF; rw [if_neg (by omega)]
theorem dfF_s (f : Int → Int) (g : Int) {k : Int} (h : 0 ≤ k) : uf (dfF f g k) (5 * g + k) (-1) = dfF f g (k + 1) := by
  funext j
  by_cases hj : j = 5 * g + k
  · rw [hj, uf_s]
    unfold dfF
    rw [if_pos (by omega)]
  · rw [uf_n _ _ hj]
    unfold dfF
    by_cases h2 : 5 * g ≤ j ∧ j < 5 * g + k
    · rw [if_pos h2, if_pos (by omega)]
    · rw [if_neg h2, if_neg (by omega)]
theorem mAs_df {T : St} (h : mAs T) (g : Int) : mAs (stC T 19 (dfF (T 19) g 5)) := by
  obtain ⟨⟨⟨h1, h2, h3⟩, h4⟩, h5⟩ := h
  unfold plM at h4
  refine ⟨⟨⟨?_, ?_, ?_⟩, ?_⟩, ?_⟩
  · rw [stC_o _ _ (by decide)]; exact h1
  · rw [stC_o _ _ (by decide), stC_o _ _ (by decide), stC_o _ _ (by decide), stC_o _ _ (by decide)]; exact h2
  · intro i i0 i1
    rw [stC_s]
    unfold dfF
    have := h3 i i0 i1
    split <;> omega
  · unfold plM
    rw [stC_o _ _ (by decide), stC_o _ _ (by decide), stC_o _ _ (by decide), stC_o _ _ (by decide)]
    exact h4
  · rw [stC_o _ _ (by decide), stC_o _ _ (by decide)]; exact h5
def cntDf (S : St) (g : Int) : Int := cntM (stC (tl S) 19 (dfF (tl S 19) g 5))
def aM_deaf (S : St) : Int := if S 0 18 = 0 then -1 else bitF (fun g => decide (cntDf S g < cntM (tl S))) (S 0 19).toNat
theorem ag_df {S T : St} (h : Ag S T) {g : Int} (k : Int) (hg : 0 ≤ g ∧ g < 4) (hk : k ≤ 5) : Ag S (stC T 19 (dfF (T 19) g k)) := by
  obtain ⟨a, b, c, d, e⟩ := h
  refine ⟨fun c' j' hx hy => ?_, ?_, fun j hj => ?_, fun j hj => ?_, fun j hj => ?_⟩
  · rw [stC_o _ _ (fun z => hx (by rw [z]; decide))]
    exact a c' j' hx hy
  · rw [stC_o _ _ (by decide)]; exact b
  · rw [stC_o _ _ (by decide), stC_o _ _ (by decide)]; exact c j hj
  · rw [stC_s]
    unfold dfF
    rw [if_neg (by omega)]
    exact d j hj
  · rw [stC_o _ _ (by decide)]; exact e j hj
set_option maxHeartbeats 4000000 in
theorem t_M_deaf (S : St) (Q : Option AV → St → Prop) (hL : ¬ S 0 18 = 0 → ldM S) (hp : plM S) (hQ : ∀ S', Fr [17, 18, 19, 20, 21, 22, 23, 24, 25, 26, 27, 28, 29, 31] [(0, 0), (0, 38)] S S' → Q (some (.inl (aM_deaf S))) S') : Smm H_M_deaf 0 [some (.inr (.inr 0)), none, none, none, none] [] S Q := by
  have e18 : th S 0 18 = S 0 18 := th_0 S (by decide)
  refine sound ok_M_deaf [27] 60 ?_
  refine ⟨fun h1 => ?_, fun h1 => ?_⟩
  · replace h1 : ¬ S 0 18 = 0 := fun z => h1 (e18.trans z)
    have hl := hL h1
    have hA := tl_mAs hl hp
    have hn5 := hl.2.1
    have hk4 := hl.1
    have loop : ∀ (i : Int) (T : St), ((0 ≤ i ∧ i ≤ S 0 19) ∧ Ag S T) → Smm H_M_deaf 27 [some (.inr (.inr 0)), some (.inl (cntM (tl S))), some (.inl (bitF (fun g => decide (cntDf S g < cntM (tl S))) i.toNat)), some (.inl i), none] [] T Q := by
      refine lp_up (P := fun i T => Smm H_M_deaf 27 [some (.inr (.inr 0)), some (.inl (cntM (tl S))), some (.inl (bitF (fun g => decide (cntDf S g < cntM (tl S))) i.toNat)), some (.inl i), none] [] T Q) _ (S 0 19) ?_ ?_
      · rintro i T hi ⟨hi2, hT⟩
        have q19 : T 0 19 = S 0 19 := hT.1.s 0 19 rfl
        refine sound ok_M_deaf [27] 20 ?_
        refine ⟨fun _ => ?_, fun h3 => absurd h3 (by omega)⟩
        have := hQ T hT.1
        unfold aM_deaf at this
        rw [if_neg h1] at this
        rw [show i = S 0 19 by omega]
        exact this
      · rintro i T hi ⟨hi2, hT⟩ ih
        have q19 : T 0 19 = S 0 19 := hT.1.s 0 19 rfl
        have q20 : T 0 20 = S 0 20 := hT.1.s 0 20 rfl
        obtain ⟨k, rfl⟩ : ∃ k : Nat, i = k := ⟨i.toNat, by omega⟩
        rw [show ((k : Int)).toNat = k by omega]
        rw [show ((k : Int) + 1).toNat = k + 1 by omega, bitF] at ih
        have hAs := ag_as hT
        have eL : asS T 19 = tl S 19 := hAs.c 19 rfl
        have inner : ∀ (j : Int) (T2 : St), ((0 ≤ j ∧ j ≤ 5) ∧ T2 = stC (asS T) 19 (dfF (asS T 19) k j)) → Smm H_M_deaf 42 [some (.inr (.inr 0)), some (.inl (cntM (tl S))), some (.inl (bitF (fun g => decide (cntDf S g < cntM (tl S))) k)), some (.inl (k : Int)), some (.inl j)] [] T2 Q := by
          refine lp_up (P := fun j T2 => Smm H_M_deaf 42 [some (.inr (.inr 0)), some (.inl (cntM (tl S))), some (.inl (bitF (fun g => decide (cntDf S g < cntM (tl S))) k)), some (.inl (k : Int)), some (.inl j)] [] T2 Q) _ 5 ?_ ?_
          · rintro j T2 hj ⟨hj2, hT2⟩
            rw [show j = 5 by omega] at hT2
            have hSm : Sm (stC (tl S) 19 (dfF (tl S 19) k 5)) T2 := by
              rw [hT2, eL]
              exact Sm.fr2 (fr_st2 hAs _ _)
            have hA2 := mAs_df hA k
            refine sound ok_M_deaf [27] 40 ?_
            refine ⟨fun _ => ?_, fun h3 => absurd h3 (by omega)⟩
            refine t_M_openings T2 _ (mAs_sm hSm hA2) (fun T3 hF3 => ?_)
            have hT3 : Ag S T3 := ag_more (by rw [hT2]; exact ag_df (ag_asS hT) 5 (by omega) (by omega)) (hF3.mo rfl rfl)
            have ec : ((List.countP (opM T2) (wyM T2) : Nat) : Int) = cntDf S k := cntM_sm hSm
            refine ⟨fun h3 => ?_, fun h3 => ?_⟩
            · rw [ec] at h3
              refine Smm.sub (ih T3 ⟨by omega, hT3⟩) ⟨Or.inr rfl, Or.inr rfl, Or.inr (sI ?_), Or.inr (sI (by unfold i32; omega)), Or.inl rfl, trivial⟩
              rw [if_neg (by simpa using h3)]
            · rw [ec] at h3
              refine Smm.sub (ih T3 ⟨by omega, hT3⟩) ⟨Or.inr rfl, Or.inr rfl, Or.inr (sI ?_), Or.inr (sI (by unfold i32; omega)), Or.inl rfl, trivial⟩
              rw [if_pos (by simpa using h3)]
          · rintro j T2 hj ⟨hj2, hT2⟩ ih2
            have e1 : i32 (i32 (5 * (k : Int)) + j) = 5 * k + j := by unfold i32; omega
            refine sound ok_M_deaf [42] 40 ?_
            refine ⟨fun h3 => absurd h3 (by omega), fun _ => ?_⟩
            refine ⟨by rw [e1]; omega, ?_⟩
            refine Smm.sub (ih2 _ ⟨by omega, ?_⟩) ⟨Or.inr rfl, Or.inr rfl, Or.inr rfl, Or.inr rfl, Or.inr (sI (by unfold i32; omega)), trivial⟩
            rw [e1, hT2, up_stC_s, dfF_s _ _ hj2.1]
        refine sound ok_M_deaf [42] 40 ?_
        refine ⟨fun h3 => absurd h3 (by omega), fun _ => ?_⟩
        refine t_M_asTold T _ (by omega) (by omega) ?_
        refine inner 0 (asS T) ⟨by omega, ?_⟩
        rw [dfF_0, stC_id]
    refine t_M_asTold (th S) _ (by rw [th_0 S (by decide)]; omega) (by rw [th_0 S (by decide)]; omega) ?_
    refine t_M_openings (tl S) _ hA (fun T hF => ?_)
    exact Smm.sub (loop 0 T ⟨by omega, ag_more (ag_asS (ag_th S)) (hF.mo rfl rfl)⟩) ⟨Or.inr rfl, Or.inr rfl, Or.inr rfl, Or.inr rfl, Or.inl rfl, trivial⟩
  · have := hQ (th S) (th_fr S)
    unfold aM_deaf at this
    rw [if_pos (e18 ▸ h1)] at this
    exact this
