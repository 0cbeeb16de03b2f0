/-! the reference: route -/
theorem rt_at {S : St} (hl : ldM S) {i : Int} (h0 : 0 ≤ i) (h1 : i < S 0 20) : rtS S i = if S 12 i < 0 then S 10 i else if hdM (S 14) (rtS S) (S 13 i) (S 12 i) = 1000000 then 1000000 else hdM (S 14) (rtS S) (S 13 i) (S 12 i) + S 10 i := by
  have hn := hl.2.1
  have e := snF_at (snd := S 13) (ap := S 10) (al := S 14) (gone := 0) (off := fun _ => 0) (n := (S 0 20).toNat) (fun i j0 j1 => (hl.2.2.2.1 i j0 (by omega)).2.2.2.2.2.1) h0 (by omega)
  have hz : ¬ iand (ishr 0 i) 1 = 1 := by
    obtain ⟨k, rfl⟩ : ∃ k : Nat, i = k := ⟨i.toNat, by omega⟩
    have := bit_nat (a := 0) (k := k) (by omega) (by omega)
    rw [show ((0 : Nat) : Int) = 0 from rfl] at this
    rw [this, Nat.zero_div]
    decide
  change rtS S i = sgv (S 12) (S 13) (S 10) (S 14) 0 (fun _ => 0) (rtS S) i at e
  rw [e]
  unfold sgv sgb
  dsimp only
  by_cases hb : S 12 i < 0
  · rw [if_pos hb, if_pos hb, if_neg (by omega)]
    omega
  · rw [if_neg hb, if_neg hb]
    by_cases hq : hdM (S 14) (rtS S) (S 13 i) (S 12 i) = 1000000
    · rw [if_pos (Or.inl hq), if_pos hq]
    · rw [if_neg (fun z => by rcases z with z | z; exact hq z; exact hz z), if_neg hq]
      omega
theorem rt_b {S : St} (hl : ldM S) {i : Int} (h0 : 0 ≤ i) (h1 : i < S 0 20) : rtS S i = 1000000 ∨ (-500 ≤ rtS S i ∧ rtS S i ≤ 500) := by
  have hn := hl.2.1
  have := snF_b (n := S 0 20) (beh := S 12) (snd := S 13) (ap := S 10) (al := S 14) (gone := 0) (off := fun _ => 0) ⟨by omega, fun i j0 j1 => by have := hl.2.2.2.1 i j0 j1; omega, hl.2.2.2.2.1⟩ (fun i j0 j1 => by dsimp only; omega) (S 0 20).toNat (by omega) i h0 (by omega)
  change rtS S i = 1000000 ∨ (-(100 * (i + 1)) ≤ rtS S i ∧ rtS S i ≤ 100 * (i + 1)) at this
  omega
set_option maxHeartbeats 1000000 in
theorem t_M_route (S : St) (sign what : Int) (Q : Option AV → St → Prop) (hL : ¬ S 0 18 = 0 → ldM S) (hQ : ∀ S', Fr [17, 18, 19, 20, 21, 22, 23, 24, 25, 26, 27, 28, 29, 31] [(0, 0), (0, 38)] S S' → Q (some (.inl (aM_route S sign what))) S') : Smm H_M_route 0 [some (.inr (.inr 0)), some (.inl sign), some (.inl what), none, none, none, none, none] [] S Q := by
  have e18 : th S 0 18 = S 0 18 := th_0 S (by decide)
  have e20 : th S 0 20 = S 0 20 := th_0 S (by decide)
  have no : (¬ (¬ S 0 18 = 0 ∧ 0 ≤ sign ∧ sign < S 0 20) ∨ ¬ (0 ≤ what ∧ what ≤ 1)) → Q (some (.inl (-1))) (th S) := fun hz => by
    have := hQ (th S) (th_fr S)
    unfold aM_route at this
    rwa [if_pos hz] at this
  refine sound ok_M_route [39] 60 ?_
  refine t_M_isSign (th S) sign _ (fun h1 => ?_) (fun h1 => by
    rw [e18, e20] at h1
    exact ⟨fun _ => no (Or.inl h1), fun z => absurd rfl z⟩)
  rw [e18, e20] at h1
  refine ⟨fun z => absurd z (by decide), fun _ => ?_⟩
  refine t_M_isPart _ _ _ _ (fun h2 => ?_) (fun h2 => ⟨fun z => absurd rfl z, fun _ => no (Or.inr h2)⟩)
  refine ⟨fun _ => ?_, fun z => absurd z (by decide)⟩
  have hl0 := hL h1.1
  have hn5 := hl0.2.1
  have hq := hQ (th S) (th_fr S)
  unfold aM_route at hq
  rw [if_neg (by omega)] at hq
  have c1 : th S 10 = S 10 := th_c S (by decide)
  have c2 : th S 12 = S 12 := th_c S (by decide)
  have c3 : th S 13 = S 13 := th_c S (by decide)
  have c4 : th S 14 = S 14 := th_c S (by decide)
  have loop : ∀ (q : Int × Int × Int × Int), (0 ≤ q.1 ∧ q.1 ≤ sign ∧ 0 ≤ q.2.1 ∧ q.2.1 ≤ sign - q.1 ∧ q.2.2.1 ≤ 100 * (sign - q.1 + 1) ∧ -(10 * (sign - q.1)) ≤ q.2.2.1 ∧ q.2.1 + chN (S 12) 5 q.1 = chN (S 12) 5 sign ∧ ((q.2.2.2 = 1 ∧ rtS S sign = 1000000) ∨ (q.2.2.2 = 0 ∧ (rtS S q.1 = 1000000 → rtS S sign = 1000000) ∧ (¬ rtS S q.1 = 1000000 → rtS S sign = q.2.2.1 - S 10 q.1 + rtS S q.1)))) →
      Smm H_M_route 39 [some (.inr (.inr 0)), some (.inl sign), some (.inl what), some (.inl q.2.1), some (.inl q.2.2.1), some (.inl q.2.2.2), some (.inl q.1), none] [] (th S) Q := by
    refine lp_me (P := fun (q : Int × Int × Int × Int) => Smm H_M_route 39 [some (.inr (.inr 0)), some (.inl sign), some (.inl what), some (.inl q.2.1), some (.inl q.2.2.1), some (.inl q.2.2.2), some (.inl q.1), none] [] (th S) Q) _ (fun q => q.1.toNat) ?_
    rintro ⟨s, n, sum, nv⟩ ⟨a1, a2, a3, a4, a6, a7, a8, a9⟩ ih
    dsimp only at a1 a2 a3 a4 a6 a7 a8 a9 ih ⊢
    have hs := hl0.2.2.2.1 s a1 (by omega)
    have hrt := rt_at hl0 a1 (by omega)
    refine sound ok_M_route [39, 81] 60 ?_
    refine ⟨by omega, ?_⟩
    rw [c2]
    refine ⟨fun h3 => ?_, fun h3 => ?_⟩
    · rw [if_pos h3] at hrt
      have hch : chN (S 12) 5 s = 0 := by rw [chN, if_pos h3]
      rw [hch] at a8
      refine ⟨fun h4 => ?_, fun h4 => ?_⟩
      · rw [if_neg h4] at hq
        refine ⟨fun h5 => ?_, fun h5 => ?_⟩
        · have : rtS S sign = sum := by omega
          rw [if_neg (by omega), this] at hq
          exact hq
        · rw [if_pos (by omega)] at hq
          exact hq
      · rw [if_pos h4, ← a8, Int.add_zero] at hq
        exact hq
    · rw [if_neg (by omega)] at hrt
      generalize hb : S 12 s = b at hs hrt h3
      have hb2 := hl0.2.2.2.1 b (by omega) (by omega)
      have hd := hl0.2.2.2.2.1 (5 * S 13 s + b) (by omega) (by omega)
      have hch : chN (S 12) 5 s = chN (S 12) 5 b + 1 := by
        conv => lhs; rw [chN]
        rw [hb, if_neg (by omega), chN_st (n := S 0 20) (fun i j0 j1 => (hl0.2.2.2.1 i j0 j1).2.2.2.2.2.1) 4 b (by omega) (by omega) (by omega)]
      have e0 : i32 (i32 (5 * S 13 s) + b) = 5 * S 13 s + b := by rw [i32_id (v := 5 * S 13 s) (by omega) (by omega)]; exact i32_id (by omega) (by omega)
      unfold hdM at hrt
      generalize hdv : S 14 (5 * S 13 s + b) = d at hd hrt
      have e1 : i32 (sum + i32 (d + S 10 b)) = sum + d + S 10 b := by rw [i32_id (v := d + S 10 b) (by omega) (by omega)]; rw [i32_id (by omega) (by omega)]; omega
      have e2 : i32 (n + 1) = n + 1 := i32_id (by omega) (by omega)
      have rest : ∀ nv' : Int, nv' = (if d < 0 then 1 else nv) → Smm H_M_route 81 [some (.inr (.inr 0)), some (.inl sign), some (.inl what), some (.inl n), some (.inl sum), some (.inl nv'), some (.inl s), some (.inl d)] [] (th S) Q := by
        intro nv' hnv
        refine sound ok_M_route [39] 60 ?_
        refine ⟨by omega, ?_⟩
        rw [c2, hb]
        refine ⟨by omega, ?_⟩
        refine ⟨by omega, ?_⟩
        refine Smm.sub (ih (b, n + 1, sum + d + S 10 b, nv') ⟨by dsimp only; omega, by dsimp only; omega, by dsimp only; omega, by dsimp only; omega, by dsimp only; omega, by dsimp only; omega, by dsimp only; omega, ?_⟩ (by dsimp only; omega)) ⟨Or.inr rfl, Or.inr rfl, Or.inr rfl, Or.inr (sI e2.symm), Or.inr (sI (by rw [c1, e1])), Or.inr rfl, Or.inr (sI (by rw [c2, hb])), Or.inl rfl, trivial⟩
        dsimp only
        by_cases hz : d < 0
        · rw [if_pos hz] at hnv
          rw [if_pos (by rw [if_pos (Or.inl hz)])] at hrt
          left
          exact ⟨hnv, by omega⟩
        · rw [if_neg hz] at hnv
          by_cases hz2 : rtS S b = 1000000
          · rw [if_pos (by rw [if_pos (Or.inr hz2)])] at hrt
            rcases a9 with q | q
            · exact Or.inl ⟨by omega, q.2⟩
            · exact Or.inr ⟨by omega, fun _ => q.2.1 hrt, fun z => absurd hz2 z⟩
          · rw [if_neg (c := d < 0 ∨ rtS S b = 1000000) (by omega)] at hrt
            rcases a9 with q | q
            · exact Or.inl ⟨by omega, q.2⟩
            · refine Or.inr ⟨by omega, fun z => absurd z hz2, fun _ => ?_⟩
              have hrb := rt_b hl0 (i := b) (by omega) (by omega)
              rw [if_neg (by omega)] at hrt
              have := q.2.2 (by omega)
              omega
      refine ⟨by omega, ?_⟩
      refine ⟨by omega, ?_⟩
      rw [c2, c3, hb]
      refine ⟨by rw [e0]; omega, ?_⟩
      rw [c4, e0, hdv]
      refine ⟨fun h4 => ?_, fun h4 => ?_⟩
      · exact rest nv (by rw [if_neg (by omega)])
      · exact rest 1 (by rw [if_pos h4])
  refine ⟨by omega, ?_⟩
  refine Smm.sub (loop (sign, 0, S 10 sign, 0) ⟨h1.2.1, Int.le_refl _, Int.le_refl _, by dsimp only; omega, ?_, ?_, by dsimp only; omega, Or.inr ⟨rfl, fun z => z, fun _ => ?_⟩⟩) ⟨Or.inr rfl, Or.inr rfl, Or.inr rfl, Or.inr rfl, Or.inr (sI (by rw [c1])), Or.inr rfl, Or.inr rfl, Or.inl rfl, trivial⟩
  · have := hl0.2.2.2.1 sign h1.2.1 h1.2.2; dsimp only; omega
  · have := hl0.2.2.2.1 sign h1.2.1 h1.2.2; dsimp only; omega
  · dsimp only; omega
