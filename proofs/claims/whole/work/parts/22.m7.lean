/-! the reference: exact, lossy, deaf, helper -/
theorem jcmp_le {a b : Int} : jcmp a b ≤ 0 ↔ a ≤ b := by
  unfold jcmp
  split
  · omega
  · split <;> omega
theorem jcmp_gt {a b : Int} : 0 < jcmp a b ↔ b < a := by
  unfold jcmp
  split
  · omega
  · split <;> omega
theorem ishl1 {n : Int} (h0 : 0 ≤ n) (h : n ≤ 16) : ishl 1 n = 2 ^ n.toNat := by
  have : n = 0 ∨ n = 1 ∨ n = 2 ∨ n = 3 ∨ n = 4 ∨ n = 5 ∨ n = 6 ∨ n = 7 ∨ n = 8 ∨ n = 9 ∨ n = 10 ∨ n = 11 ∨ n = 12 ∨ n = 13 ∨ n = 14 ∨ n = 15 ∨ n = 16 := by omega
  rcases this with rfl | rfl | rfl | rfl | rfl | rfl | rfl | rfl | rfl | rfl | rfl | rfl | rfl | rfl | rfl | rfl | rfl <;> decide
theorem Sm.fr2 {S S' : St} (h : Fr [21, 22, 23, 24, 25, 26, 27, 28, 29, 31] [] S S') : Sm S S' := Sm.of h rfl
theorem fr_up2 {X : List Nat} {S S' : St} (h : Fr X [] S S') (c : Nat) (j v : Int) : Fr X [] (up S c j v) (up S' c j v) := by
  intro c' j' hx hy
  rw [upr, upr]
  split
  · rfl
  · exact h c' j' hx hy
theorem fr_st2 {X : List Nat} {S S' : St} (h : Fr X [] S S') (c : Nat) (f : Int → Int) : Fr X [] (stC S c f) (stC S' c f) := by
  intro c' j' hx hy
  by_cases hc : c' = c
  · rw [hc, stC_s, stC_s]
  · rw [stC_o _ _ hc, stC_o _ _ hc]
    exact h c' j' hx hy
/-- a state from which asTold leads to the land told again -/
def Ag (S T : St) : Prop := Fr [17, 18, 19, 20, 21, 22, 23, 24, 25, 26, 27, 28, 29, 31] [(0, 0), (0, 38)] S T ∧ T 0 0 = 0 ∧ (∀ j, ¬ (0 ≤ j ∧ j < S 0 20) → T 17 j = S 17 j ∧ T 18 j = S 18 j) ∧ (∀ j, ¬ (0 ≤ j ∧ j < 20) → T 19 j = S 19 j) ∧ ∀ j, ¬ (0 ≤ j ∧ j < 4) → T 20 j = S 20 j
theorem ag_th (S : St) : Ag S (th S) := ⟨th_fr S, up_s _ _ _ _, fun j _ => ⟨by rw [th_c S (by decide)], by rw [th_c S (by decide)]⟩, fun j _ => by rw [th_c S (by decide)], fun j _ => by rw [th_c S (by decide)]⟩
theorem ag_as {S T : St} (h : Ag S T) : Fr [21, 22, 23, 24, 25, 26, 27, 28, 29, 31] [] (tl S) (asS T) := by
  obtain ⟨hF, h0, h1, h2, h3⟩ := h
  have f20 : T 0 20 = S 0 20 := hF.s 0 20 rfl
  have f19 : T 0 19 = S 0 19 := hF.s 0 19 rfl
  intro c j hx hy
  by_cases c0 : c = 0
  · subst c0
    by_cases j38 : j = 38
    · rw [j38, asS_gone]; unfold tl; rw [asS_gone]
    · rw [asS_0 _ j38]; unfold tl; rw [asS_0 _ j38]
      by_cases j0 : j = 0
      · rw [j0, h0]; exact (up_s _ _ _ _).symm
      · rw [th_0 S j0]
        exact hF 0 j (by decide) (by simp [j0, j38])
  · by_cases c17 : c = 17
    · subst c17
      unfold tl
      rw [asS_ap, asS_ap, th_0 S (by decide), f20, th_c S (by decide), th_c S (by decide), hF.c 10 rfl]
      unfold cpI
      split
      · rfl
      · rename_i hz; exact (h1 j hz).1
    · by_cases c18 : c = 18
      · subst c18
        unfold tl
        rw [asS_ae, asS_ae, th_0 S (by decide), f20, th_c S (by decide), th_c S (by decide), hF.c 11 rfl]
        unfold cpI
        split
        · rfl
        · rename_i hz; exact (h1 j hz).2
      · by_cases c19 : c = 19
        · subst c19
          unfold tl
          rw [asS_al, asS_al, th_c S (by decide), th_c S (by decide), hF.c 14 rfl]
          unfold cpI
          split
          · rfl
          · rename_i hz; exact h2 j hz
        · by_cases c20 : c = 20
          · subst c20
            unfold tl
            rw [asS_pl, asS_pl, th_0 S (by decide), f19, th_c S (by decide), th_c S (by decide), hF.c 9 rfl]
            unfold cpI
            split
            · rfl
            · rename_i hz; exact h3 j hz
          · rw [asS_c T ⟨c0, c20, c19, c18, c17⟩]
            unfold tl
            rw [asS_c _ ⟨c0, c20, c19, c18, c17⟩, th_c S c0]
            refine hF c j (fun z => ?_) (fun z => ?_)
            · simp at z hx; omega
            · simp at z; omega
theorem ag_more {S T T2 : St} (h : Ag S T) (hF : Fr [21, 22, 23, 24, 25, 26, 27, 28, 29, 31] [] T T2) : Ag S T2 := by
  obtain ⟨a, b, c, d, e⟩ := h
  refine ⟨a.tr (hF.mo rfl rfl), ?_, fun j hj => ?_, fun j hj => ?_, fun j hj => ?_⟩
  · rw [hF.c 0 rfl]; exact b
  · rw [hF.c 17 rfl, hF.c 18 rfl]; exact c j hj
  · rw [hF.c 19 rfl]; exact d j hj
  · rw [hF.c 20 rfl]; exact e j hj
theorem ag_asS {S T : St} (h : Ag S T) : Ag S (asS T) := by
  obtain ⟨a, b, c, d, e⟩ := h
  refine ⟨a.tr (asS_fr T), ?_, fun j hj => ?_, fun j hj => ?_, fun j hj => ?_⟩
  · rw [asS_0 _ (by decide)]; exact b
  · have f20 : T 0 20 = S 0 20 := a.s 0 20 rfl
    rw [asS_ap, asS_ae, f20]
    unfold cpI
    rw [if_neg hj, if_neg hj]
    exact c j hj
  · rw [asS_al]
    unfold cpI
    rw [if_neg hj]
    exact d j hj
  · rw [asS_pl]
    unfold cpI
    rw [if_neg hj]
    exact e j hj
theorem ag_ae {S T : St} (h : Ag S T) {i : Int} (v : Int) (hi : 0 ≤ i ∧ i < S 0 20) : Ag S (up T 18 i v) := by
  obtain ⟨a, b, c, d, e⟩ := h
  refine ⟨a.up _ _ _ rfl, ?_, fun j hj => ?_, fun j hj => ?_, fun j hj => ?_⟩
  · rw [up_o _ _ _ (by decide)]; exact b
  · rw [up_o _ _ _ (by decide : (17 : Nat) ≠ 18), up_n _ _ _ (fun z => hj (by rw [z]; exact hi))]; exact c j hj
  · rw [up_o _ _ _ (by decide)]; exact d j hj
  · rw [up_o _ _ _ (by decide)]; exact e j hj
theorem ag_al {S T : St} (h : Ag S T) {i : Int} (v : Int) (hi : 0 ≤ i ∧ i < 20) : Ag S (up T 19 i v) := by
  obtain ⟨a, b, c, d, e⟩ := h
  refine ⟨a.up _ _ _ rfl, ?_, fun j hj => ?_, fun j hj => ?_, fun j hj => ?_⟩
  · rw [up_o _ _ _ (by decide)]; exact b
  · rw [up_o _ _ _ (by decide), up_o _ _ _ (by decide)]; exact c j hj
  · rw [up_n _ _ _ (fun z => hj (by rw [z]; exact hi))]; exact d j hj
  · rw [up_o _ _ _ (by decide)]; exact e j hj
/-- which sign made exact has most: the sign, in how many ways, of how many -/
def exF (S : St) : Nat → Int × Int × Int
  | 0 => (-1, 0, 1)
  | k + 1 => if 0 ≤ (exF S k).1 ∧ cntM (up (tl S) 18 k 0) * (exF S k).2.2 ≤ (exF S k).2.1 * lenM (up (tl S) 18 k 0) then exF S k else ((k : Int), cntM (up (tl S) 18 k 0), lenM (up (tl S) 18 k 0))
theorem exF_b {S : St} (hA : mAs (tl S)) : ∀ k : Nat, -1 ≤ (exF S k).1 ∧ (exF S k).1 < k ∧ 0 ≤ (exF S k).2.1 ∧ (exF S k).2.1 ≤ 16807 ∧ 1 ≤ (exF S k).2.2 ∧ (exF S k).2.2 ≤ 16807
  | 0 => by show -1 ≤ (-1 : Int) ∧ (-1 : Int) < 0 ∧ 0 ≤ (0 : Int) ∧ (0 : Int) ≤ 16807 ∧ 1 ≤ (1 : Int) ∧ (1 : Int) ≤ 16807; omega
  | k + 1 => by
    have ih := exF_b hA k
    have hb := cntM_b (mAs_ae (j := k) (v := 0) hA (by omega))
    rw [exF]
    split
    · omega
    · dsimp only; omega
def aM_exact (S : St) (what : Int) : Int := if S 0 18 = 0 ∨ ¬ (0 ≤ what ∧ what ≤ 2) then -1 else
  if what = 0 then (exF S (S 0 20).toNat).1 else if what = 1 then (exF S (S 0 20).toNat).2.1 / Nat.gcd (exF S (S 0 20).toNat).2.2.toNat (exF S (S 0 20).toNat).2.1.toNat else (exF S (S 0 20).toNat).2.2 / Nat.gcd (exF S (S 0 20).toNat).2.2.toNat (exF S (S 0 20).toNat).2.1.toNat
set_option maxHeartbeats 4000000 in
theorem t_M_exact (S : St) (what : Int) (Q : Option AV → St → Prop) (hL : ¬ S 0 18 = 0 → ldM S) (hp : plM S) (hQ : ∀ S', Fr [17, 18, 19, 20, 21, 22, 23, 24, 25, 26, 27, 28, 29, 31] [(0, 0), (0, 38)] S S' → Q (some (.inl (aM_exact S what))) S') : Smm H_M_exact 0 [some (.inr (.inr 0)), some (.inl what), none, none, none, none, none, none] [] S Q := by
  have e18 : th S 0 18 = S 0 18 := th_0 S (by decide)
  have no : (S 0 18 = 0 ∨ ¬ (0 ≤ what ∧ what ≤ 2)) → Q (some (.inl (-1))) (th S) := fun hz => by
    have := hQ (th S) (th_fr S)
    unfold aM_exact at this
    rwa [if_pos hz] at this
  refine sound ok_M_exact [32] 60 ?_
  refine ⟨fun h1 => no (Or.inl (e18 ▸ h1)), fun h1 => ?_⟩
  replace h1 : ¬ S 0 18 = 0 := fun z => h1 (e18.trans z)
  refine t_M_isPart _ _ _ _ (fun h2 => ?_) (fun h2 => ?_)
  · refine ⟨fun _ => ?_, fun z => absurd z (by decide)⟩
    have hl := hL h1
    have hA := tl_mAs hl hp
    have hn5 := hl.2.1
    have loop : ∀ (i : Int) (T : St), ((0 ≤ i ∧ i ≤ S 0 20) ∧ Ag S T) → Smm H_M_exact 32 [some (.inr (.inr 0)), some (.inl what), some (.inl (exF S i.toNat).1), some (.inl (exF S i.toNat).2.1), some (.inl (exF S i.toNat).2.2), some (.inl i), none, none] [] T Q := by
      refine lp_up (P := fun i T => Smm H_M_exact 32 [some (.inr (.inr 0)), some (.inl what), some (.inl (exF S i.toNat).1), some (.inl (exF S i.toNat).2.1), some (.inl (exF S i.toNat).2.2), some (.inl i), none, none] [] T Q) _ (S 0 20) ?_ ?_
      · rintro i T hi ⟨hi2, hT⟩
        have q20 : T 0 20 = S 0 20 := hT.1.s 0 20 rfl
        have hb := exF_b hA (S 0 20).toNat
        have hq := hQ T hT.1
        unfold aM_exact at hq
        rw [if_neg (by omega)] at hq
        rw [show i = S 0 20 by omega]
        generalize exF S (S 0 20).toNat = x at hb hq
        obtain ⟨bx, ax, lx⟩ := x
        dsimp only at hb hq ⊢
        refine sound ok_M_exact [] 60 ?_
        refine ⟨fun _ => ?_, fun h3 => absurd h3 (by omega)⟩
        have e1 : lx = (lx.toNat : Int) := by omega
        have e2 : ax = (ax.toNat : Int) := by omega
        have hg := gcd_b (a := lx.toNat) (b := ax.toNat) (by omega) (by omega)
        rw [e1, e2]
        refine t_M_divisor T lx.toNat ax.toNat _ (by omega) (by omega) ?_
        refine ⟨fun h3 => ?_, fun h3 => ?_⟩
        · rw [if_neg h3] at hq
          refine ⟨fun h4 => ?_, fun h4 => ?_⟩
          · rw [if_neg h4] at hq
            refine ⟨by omega, ?_⟩
            rw [idiv_pos (by omega) (by omega) (by omega) (by omega), ← e1]
            exact hq
          · rw [if_pos h4] at hq
            refine ⟨by omega, ?_⟩
            rw [idiv_pos (by omega) (by omega) (by omega) (by omega), ← e2]
            exact hq
        · rw [if_pos h3] at hq
          exact hq
      · rintro i T hi ⟨hi2, hT⟩ ih
        have q20 : T 0 20 = S 0 20 := hT.1.s 0 20 rfl
        have q19 : T 0 19 = S 0 19 := hT.1.s 0 19 rfl
        obtain ⟨k, rfl⟩ : ∃ k : Nat, i = k := ⟨i.toNat, by omega⟩
        rw [show ((k : Int)).toNat = k by omega]
        rw [show ((k : Int) + 1).toNat = k + 1 by omega, exF] at ih
        have hb := exF_b hA k
        have hA2 := mAs_ae (j := k) (v := 0) hA (by omega)
        have hcb := cntM_b hA2
        have hSm : Sm (up (tl S) 18 k 0) (up (asS T) 18 k 0) := Sm.fr2 (fr_up2 (ag_as hT) _ _ _)
        refine sound ok_M_exact [32] 100 ?_
        refine ⟨fun h3 => absurd h3 (by omega), fun _ => ?_⟩
        refine t_M_asTold T _ (by omega) (by have := hl.1; omega) ?_
        refine ⟨by omega, ?_⟩
        refine t_M_allWays _ _ (mAs_sm hSm hA2) ?_
        refine t_M_openings _ _ (mAs_sm hSm hA2) (fun T2 hF2 => ?_)
        have hT2 : Ag S T2 := ag_more (ag_ae (ag_asS hT) 0 (by omega)) (hF2.mo rfl rfl)
        have ec : ((List.countP (opM (up (asS T) 18 k 0)) (wyM (up (asS T) 18 k 0)) : Nat) : Int) = cntM (up (tl S) 18 k 0) := cntM_sm hSm
        have el : ((wyM (up (asS T) 18 k 0)).length : Int) = lenM (up (tl S) 18 k 0) := lenM_sm hSm
        rw [ec, el]
        generalize cntM (up (tl S) 18 k 0) = cn at hcb ih ⊢
        generalize lenM (up (tl S) 18 k 0) = ln at hcb ih ⊢
        generalize exF S k = x at hb ih ⊢
        obtain ⟨bx, ax, lx⟩ := x
        dsimp only at hb ih ⊢
        have m1 : 0 ≤ cn * lx ∧ cn * lx ≤ 16807 * 16807 := ⟨Int.mul_nonneg (by omega) (by omega), Int.mul_le_mul (by omega) (by omega) (by omega) (by omega)⟩
        have m2 : 0 ≤ ax * ln ∧ ax * ln ≤ 16807 * 16807 := ⟨Int.mul_nonneg (by omega) (by omega), Int.mul_le_mul (by omega) (by omega) (by omega) (by omega)⟩
        have f1 : i64 (cn * lx) = cn * lx := i64_id (by omega) (by omega)
        have f2 : i64 (ax * ln) = ax * ln := i64_id (by omega) (by omega)
        have take : ¬ (0 ≤ bx ∧ cn * lx ≤ ax * ln) → Smm H_M_exact 32 [some (.inr (.inr 0)), some (.inl what), some (.inl (k : Int)), some (.inl cn), some (.inl ln), some (.inl (i32 ((k : Int) + 1))), some (.inl ln), some (.inl cn)] [] T2 Q := fun hz => by
          have := ih T2 ⟨by omega, hT2⟩
          rw [if_neg hz] at this
          exact Smm.sub this ⟨Or.inr rfl, Or.inr rfl, Or.inr rfl, Or.inr rfl, Or.inr rfl, Or.inr (sI (by unfold i32; omega)), Or.inl rfl, Or.inl rfl, trivial⟩
        refine ⟨fun h3 => take (by omega), fun h3 => ?_⟩
        refine ⟨fun h4 => take (by rw [f1, f2, jcmp_gt] at h4; omega), fun h4 => ?_⟩
        rw [f1, f2, jcmp_le] at h4
        have := ih T2 ⟨by omega, hT2⟩
        rw [if_pos ⟨h3, h4⟩] at this
        exact Smm.sub this ⟨Or.inr rfl, Or.inr rfl, Or.inr rfl, Or.inr rfl, Or.inr rfl, Or.inr (sI (by unfold i32; omega)), Or.inl rfl, Or.inl rfl, trivial⟩
    exact Smm.sub (loop 0 (th S) ⟨by omega, ag_th S⟩) ⟨Or.inr rfl, Or.inr rfl, Or.inr rfl, Or.inr rfl, Or.inr rfl, Or.inr rfl, Or.inl rfl, Or.inl rfl, trivial⟩
  · exact ⟨fun z => absurd rfl z, fun _ => no (Or.inr h2)⟩
