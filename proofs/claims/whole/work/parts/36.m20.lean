/-! the reference: helper -/
/-- a guard that would hear a sign: the best such pair, and in how many ways -/
def hpF (S : St) (g : Nat) : Nat → Int × Int → Int × Int
  | 0, r => r
  | s + 1, r => if 0 ≤ S 14 (5 * g + s) then hpF S g s r else if (hpF S g s r).2 < cntM (up (tl S) 19 (5 * g + s) 0) then (10 * g + s, cntM (up (tl S) 19 (5 * g + s) 0)) else hpF S g s r
def hqF (S : St) (n : Nat) : Nat → Int × Int
  | 0 => (-1, -1)
  | g + 1 => hpF S g n (hqF S n g)
def aM_helper (S : St) (what : Int) : Int := if S 0 18 = 0 ∨ ¬ (0 ≤ what ∧ what ≤ 1) then -1 else if what = 0 then (hqF S (S 0 20).toNat (S 0 19).toNat).1 else (hqF S (S 0 20).toNat (S 0 19).toNat).2
theorem i32_s {b : Nat} (h : b < 100000) : ((b + 1 : Nat) : Int) = i32 ((b : Int) + 1) := by rw [i32_id (v := (b : Int) + 1) (by omega) (by omega)]; omega
theorem i32_k {k : Int} {a b : Nat} (hk : 0 ≤ k ∧ k ≤ 1000) (ha : a < 10000) (hb : b < 10000) : i32 (i32 (k * (a : Int)) + b) = k * a + b := by
  have h1 : 0 ≤ k * (a : Int) := Int.mul_nonneg hk.1 (by omega)
  have h2 : k * (a : Int) ≤ 1000 * 10000 := Int.mul_le_mul hk.2 (by omega) (by omega) (by omega)
  rw [i32_id (v := k * (a : Int)) (by omega) (by omega)]
  exact i32_id (by omega) (by omega)
theorem nle_n {w b : Nat} (h : b < w) : ¬ (w : Int) ≤ b := by omega
set_option maxHeartbeats 4000000 in
theorem t_M_helper (S : St) (what : Int) (Q : Option AV → St → Prop) (hL : ¬ S 0 18 = 0 → ldM S) (hp : plM S) (hQ : ∀ S', Fr [17, 18, 19, 20, 21, 22, 23, 24, 25, 26, 27, 28, 29, 31] [(0, 0), (0, 38)] S S' → Q (some (.inl (aM_helper S what))) S') : Smm H_M_helper 0 [some (.inr (.inr 0)), some (.inl what), none, none, none, none, none] [] S Q := by
  have e18 : th S 0 18 = S 0 18 := th_0 S (by decide)
  have no : (S 0 18 = 0 ∨ ¬ (0 ≤ what ∧ what ≤ 1)) → Q (some (.inl (-1))) (th S) := fun hz => by
    have := hQ (th S) (th_fr S)
    unfold aM_helper at this
    rwa [if_pos hz] at this
  refine sound ok_M_helper [33] 60 ?_
  refine ⟨fun h1 => no (Or.inl (e18 ▸ h1)), fun h1 => ?_⟩
  replace h1 : ¬ S 0 18 = 0 := fun z => h1 (e18.trans z)
  refine t_M_isPart _ _ _ _ (fun h2 => ?_) (fun h2 => ?_)
  · refine ⟨fun _ => ?_, fun z => absurd z (by decide)⟩
    have hl := hL h1
    have hA := tl_mAs hl hp
    have hn5 := hl.2.1
    have hk4 := hl.1
    have p20 : tl S 0 20 = S 0 20 := tl_0 S (by decide) (by decide)
    have p19 : tl S 0 19 = S 0 19 := tl_0 S (by decide) (by decide)
    have p14 : tl S 14 = S 14 := by unfold tl; rw [asS_c _ (by decide), th_c S (by decide)]
    have pal : ∀ j, 0 ≤ j → j < 20 → tl S 19 j = S 14 j := fun j j0 j1 => by unfold tl; rw [asS_al, cpI_in _ _ j0 j1, th_c S (by decide)]
    obtain ⟨w, hw⟩ : ∃ w : Nat, S 0 19 = w := ⟨(S 0 19).toNat, by omega⟩
    obtain ⟨n, hn⟩ : ∃ n : Nat, S 0 20 = n := ⟨(S 0 20).toNat, by omega⟩
    have q19 : ∀ T, Fr [21, 22, 23, 24, 25] [] (tl S) T → T 0 19 = w := fun T hF => by rw [hF.c 0 rfl, p19, hw]
    have q20 : ∀ T, Fr [21, 22, 23, 24, 25] [] (tl S) T → T 0 20 = n := fun T hF => by rw [hF.c 0 rfl, p20, hn]
    have q14 : ∀ T, Fr [21, 22, 23, 24, 25] [] (tl S) T → T 14 = S 14 := fun T hF => by rw [hF.c 14 rfl, p14]
    have lb : ∀ g s : Nat, g < w → s < n → (0 ≤ 5 * (g : Int) + s ∧ 5 * (g : Int) + s < 20) ∧ -1 ≤ S 14 (5 * g + s) := fun g s hg hs => ⟨by omega, (hl.2.2.2.2.1 (5 * g + s) (by omega) (by omega)).1⟩
    have hq : ∀ T, Fr [21, 22, 23, 24, 25] [] (tl S) T → Q (some (.inl (if what = 0 then (hqF S n w).1 else (hqF S n w).2))) T := fun T hF => by
      have hq := hQ T ((tl_fr S).tr (hF.mo rfl rfl))
      unfold aM_helper at hq
      rwa [if_neg (fun z => z.elim h1 (fun z => z h2)), show (S 0 20).toNat = n by omega, show (S 0 19).toNat = w by omega] at hq
    have bnd : (w : Int) ≤ 4 ∧ (n : Int) ≤ 5 := by omega
    clear hn5 hk4 hw hn p20 p19
    refine t_M_asTold (th S) _ (by rw [th_0 S (by decide)]; have := hl.2.1; omega) (by rw [th_0 S (by decide)]; have := hl.1; omega) ?_
    refine Smm.sub (lp_g2 (σ := St × Option AV × Option AV) (PO := fun a q => Smm H_M_helper 33 [some (.inr (.inr 0)), some (.inl what), some (.inl (hqF S n a).1), some (.inl (hqF S n a).2), some (.inl (a : Int)), q.2.1, q.2.2] [] q.1 Q) (PI := fun a b q => Smm H_M_helper 45 [some (.inr (.inr 0)), some (.inl what), some (.inl (hpF S a b (hqF S n a)).1), some (.inl (hpF S a b (hqF S n a)).2), some (.inl (a : Int)), some (.inl (b : Int)), q.2.2] [] q.1 Q) w n (fun _ q => Fr [21, 22, 23, 24, 25] [] (tl S) q.1) (fun _ _ q => Fr [21, 22, 23, 24, 25] [] (tl S) q.1) ?_ ?_ ?_ ?_ (tl S, none, none) (Fr.rf _ _ _)) ⟨Or.inr rfl, Or.inr rfl, Or.inr rfl, Or.inr rfl, Or.inr rfl, Or.inl rfl, Or.inl rfl, trivial⟩
    · rintro ⟨T, x, y⟩ hF
      dsimp only at hF ⊢
      have hq := hq T hF
      refine sound ok_M_helper [33] 20 ?_
      refine ⟨fun _ => ?_, fun h3 => absurd h3 (by rw [q19 T hF]; omega)⟩
      refine ⟨fun h3 => ?_, fun h3 => ?_⟩
      · rw [if_neg h3] at hq; exact hq
      · rw [if_pos h3] at hq; exact hq
    · rintro a ⟨T, x, y⟩ ha hF ih
      dsimp only at hF ⊢
      refine sound ok_M_helper [45] 20 ?_
      refine ⟨fun h3 => absurd h3 (by rw [q19 T hF]; exact nle_n ha), fun _ => ?_⟩
      exact ih (T, none, y) hF
    · rintro a ⟨T, x, y⟩ ha hF ih
      dsimp only at hF ⊢
      refine sound ok_M_helper [33] 20 ?_
      refine ⟨fun _ => ?_, fun h3 => absurd h3 (by rw [q20 T hF]; omega)⟩
      exact Smm.sub (ih (T, some (.inl (n : Int)), y) hF) ⟨Or.inr rfl, Or.inr rfl, Or.inr rfl, Or.inr rfl, Or.inr (sI (i32_s (by omega))), Or.inr rfl, Or.inr rfl, trivial⟩
    · rintro g s ⟨T, x, y⟩ hg hs hF ih
      dsimp only at hF ⊢
      have hb := lb g s hg hs
      have ih : ∀ T', Fr [21, 22, 23, 24, 25] [] (tl S) T' → ∀ y', _ := fun T' h' y' => ih (T', none, y') h'
      dsimp only at ih
      rw [hpF] at ih
      have e1 := i32_k (k := 5) (a := g) (b := s) (by omega) (by omega) (by omega)
      have e3 := i32_k (k := 10) (a := g) (b := s) (by omega) (by omega) (by omega)
      refine sound ok_M_helper [45] 100 ?_
      refine ⟨fun h3 => absurd h3 (by rw [q20 T hF]; exact nle_n hs), fun _ => ?_⟩
      refine ⟨by rw [e1]; exact hb.1, ?_⟩
      refine ⟨fun h3 => ?_, fun h3 => ?_⟩
      · rw [e1, q14 T hF] at h3
        rw [if_neg (Int.not_le.mpr h3)] at ih
        have hA2 := mAs_al (j := 5 * g + s) (v := 0) hA (by decide)
        have hSm : Sm (up (tl S) 19 (5 * g + s) 0) (up T 19 (i32 (i32 (5 * (g : Int)) + s)) 0) := by rw [e1]; exact Sm.up hF _ _ _
        refine ⟨by rw [e1]; exact hb.1, ?_⟩
        refine t_M_openings _ _ (mAs_sm hSm hA2) (fun T3 hF3 => ?_)
        have ec : ((List.countP (opM (up T 19 (i32 (i32 (5 * (g : Int)) + s)) 0)) (wyM (up T 19 (i32 (i32 (5 * (g : Int)) + s)) 0)) : Nat) : Int) = cntM (up (tl S) 19 (5 * g + s) 0) := cntM_sm hSm
        have hF4 : Fr [21, 22, 23, 24, 25] [] (tl S) (up T3 19 (i32 (i32 (5 * (g : Int)) + s)) (-1)) := by
          rw [e1] at hF3 ⊢
          intro c' j' hx hy
          rw [upr]
          split
          · rename_i hz
            rw [hz.1, hz.2, pal _ hb.1.1 hb.1.2]
            have := hb.2
            omega
          · rename_i hz
            rw [hF3 c' j' hx hy, upr, if_neg hz]
            exact hF c' j' hx hy
        refine ⟨by rw [e1]; exact hb.1, ?_⟩
        refine ⟨fun h4 => ?_, fun h4 => ?_⟩
        · rw [ec] at h4
          rw [if_neg (Int.not_lt.mpr h4)] at ih
          exact Smm.sub (ih _ hF4 none) ⟨Or.inr rfl, Or.inr rfl, Or.inr rfl, Or.inr rfl, Or.inr rfl, Or.inr (sI (i32_s (by omega))), Or.inl rfl, trivial⟩
        · rw [ec] at h4
          rw [if_pos h4] at ih
          exact Smm.sub (ih _ hF4 none) ⟨Or.inr rfl, Or.inr rfl, Or.inr (sI e3.symm), Or.inr (sI ec.symm), Or.inr rfl, Or.inr (sI (i32_s (by omega))), Or.inl rfl, trivial⟩
      · rw [e1, q14 T hF] at h3
        rw [if_pos h3] at ih
        exact Smm.sub (ih T hF y) ⟨Or.inr rfl, Or.inr rfl, Or.inr rfl, Or.inr rfl, Or.inr rfl, Or.inr (sI (i32_s (by omega))), Or.inr rfl, trivial⟩
  · exact ⟨fun z => absurd rfl z, fun _ => no (Or.inr h2)⟩
