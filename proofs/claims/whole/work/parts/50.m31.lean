/-! the reference: fault, text -/
/-- the tape within its bounds -/
def tpM (S : St) : Prop := (0 ≤ S 0 2 ∧ S 0 2 ≤ 160) ∧ ∀ j, 0 ≤ j → j < S 0 2 → 1 ≤ S 1 j ∧ S 1 j ≤ 255
theorem tpM_th {S : St} (h : tpM S) : tpM (th S) := by
  unfold tpM at h ⊢
  rw [th_0 S (by decide), th_c S (by decide)]
  exact h
noncomputable def aM_fault (S : St) (sort : Int) : Int := if sort = 0 then lwW (S 1) (S 0 2) else if sort = 1 then (rdT (S 1) (S 0 2)).1 else -2
theorem t_M_fault (S : St) (sort : Int) (Q : Option AV → St → Prop) (ht : tpM S) (hQ : ∀ T, Fr [2, 3, 4, 5, 6] [(0, 0), (0, 3), (0, 4), (0, 5), (0, 6), (0, 7), (0, 8), (0, 12), (0, 13), (0, 15), (0, 17)] S T → Q (some (.inl (aM_fault S sort))) T) : Smm H_M_fault 0 [some (.inr (.inr 0)), some (.inl sort)] [] S Q := by
  have e2 : th S 0 2 = S 0 2 := th_0 S (by decide)
  have e1 : th S 1 = S 1 := th_c S (by decide)
  have ht' := tpM_th ht
  have hF0 : Fr [2, 3, 4, 5, 6] [(0, 0), (0, 3), (0, 4), (0, 5), (0, 6), (0, 7), (0, 8), (0, 12), (0, 13), (0, 15), (0, 17)] S (th S) := (Fr.rf _ _ S).up _ _ _ rfl
  unfold aM_fault at hQ
  refine sound ok_M_fault [] 40 ?_
  refine ⟨fun g0 => ?_, fun g0 => ?_⟩
  · rw [if_neg g0] at hQ
    refine ⟨fun g1 => ?_, fun g1 => ?_⟩
    · rw [if_neg g1] at hQ
      exact hQ _ hF0
    · rw [if_pos g1] at hQ
      refine t_M_wrongPlan (th S) _ ht'.1 ht'.2 (fun T hF _ => ?_)
      rw [e1, e2]
      exact hQ T (hF0.tr (hF.mo rfl rfl))
  · rw [if_pos g0] at hQ
    refine t_M_wrongLand (th S) _ ht'.1 (fun j j0 j1 => (ht'.2 j j0 j1).1) (fun T hF _ => ?_)
    rw [e1, e2]
    exact hQ T (hF0.tr (hF.mo rfl rfl))
theorem ltF_congr {E E' b : Int → Int} : ∀ (h : Nat), (∀ j : Int, 0 ≤ j → j < 3 * h → E j = E' j) → ltF E b h = ltF E' b h
  | 0, _ => rfl
  | h + 1, hE => by rw [ltF, ltF, ltF_congr h (fun j j0 j1 => hE j j0 (by omega)), hE (3 * h + 1) (by omega) (by omega), hE (3 * h) (by omega) (by omega), hE (3 * h + 2) (by omega) (by omega)]
theorem x160 {x : Int} {k : Nat} (hx : 0 ≤ x ∧ x < 8) (hk : k < 160) : i32 (i32 (160 * x) + k) = 160 * x + k ∧ 0 ≤ 160 * x + (k : Int) ∧ 160 * x + (k : Int) < 1280 := by
  rw [i32_id (v := 160 * x) (by omega) (by omega)]
  exact ⟨i32_id (by omega) (by omega), by omega, by omega⟩
theorem x160n {x : Int} {k k' : Nat} (h : ¬ k' = k) : 160 * x + (k' : Int) ≠ 160 * x + k := by omega
theorem x160k {k k' : Nat} (h : ¬ k' = k) (h2 : (k' : Int) < (k : Int) + 1) : (k' : Int) < k := by omega
theorem x160l {x j : Int} {k : Nat} (h : j < 160 * x) : j ≠ 160 * x + (k : Int) := by omega
theorem i32_s' {b : Nat} (h : b < 160) : (b : Int) + 1 = i32 ((b : Int) + 1) := by rw [i32_id (v := (b : Int) + 1) (by omega) (by omega)]
/-- behind a text taken as a land -/
def ldT (S : St) (p : PS) (T : St) : Prop := Fr [2, 3, 4, 7, 8, 9, 10, 11, 12, 13, 14] [(0, 0), (0, 2), (0, 3), (0, 4), (0, 5), (0, 6), (0, 7), (0, 8), (0, 12), (0, 13), (0, 18), (0, 19), (0, 20), (0, 21), (0, 22), (0, 49), (0, 52), (0, 56)] S T ∧ (T 0 18 = 1 ∧ T 0 2 = 0 ∧ T 0 19 = p.1.1 ∧ T 0 20 = p.1.2.1 ∧ T 0 21 = p.2.2.2.2.1 ∧ T 0 22 = p.2.2.2.2.2 ∧ T 0 49 = 0 ∧ T 0 52 = 0 ∧ T 0 56 = 0) ∧ (∀ g, 0 ≤ g → g < 4 → T 9 g = -1) ∧ (∀ g, 0 ≤ g → g < p.1.1 → T 7 g = p.2.1 (2 * g) ∧ T 8 g = p.2.1 (2 * g + 1)) ∧ (∀ s, 0 ≤ s → s < p.1.2.1 → T 10 s = p.2.2.1 (4 * s) ∧ T 11 s = p.2.2.1 (4 * s + 1) ∧ T 12 s = p.2.2.1 (4 * s + 2) ∧ T 13 s = p.2.2.1 (4 * s + 3)) ∧ ∀ j, 0 ≤ j → j < 20 → T 14 j = ltF p.2.2.2.1 (fun _ => -1) p.1.2.2.1.toNat j
/-- behind a text taken as a plan -/
def plT (S : St) (rc : List Int) (T : St) : Prop := Fr [5, 6, 15, 16] [(0, 0), (0, 2), (0, 3), (0, 4), (0, 15), (0, 17), (0, 31)] S T ∧ T 0 31 = S 0 31 + 1 ∧ T 0 2 = 0 ∧ (T 16 (S 0 31) = rc.length ∧ ∀ j, ¬ j = S 0 31 → T 16 j = S 16 j) ∧ (∀ k : Nat, k < rc.length → T 15 (160 * S 0 31 + k) = rc.getD (rc.length - 1 - k) 0) ∧ ∀ j, j < 160 * S 0 31 → T 15 j = S 15 j
set_option maxHeartbeats 4000000 in
theorem t_M_text (S : St) (sort : Int) (Q : Option AV → St → Prop) (ht : tpM S) (hpl : 0 ≤ S 0 31 ∧ S 0 31 ≤ 8) (hrl : (rdT (S 1) (S 0 2)).2.2.1.2.length ≤ 160)
    (h0 : ¬ (sort = 0 ∧ lwW (S 1) (S 0 2) = -1) → ¬ (sort = 1 ∧ ¬ S 0 31 = 8 ∧ (rdT (S 1) (S 0 2)).1 = -1) → ∀ T, Fr [2, 3, 4, 5, 6] [(0, 0), (0, 3), (0, 4), (0, 5), (0, 6), (0, 7), (0, 8), (0, 12), (0, 13), (0, 15), (0, 17)] S T → Q (some (.inl (-1))) T)
    (hL : sort = 0 → lwW (S 1) (S 0 2) = -1 → ∀ T, ldT S (rdP (S 1) (S 0 2)).2 T → Q (some (.inl (rdP (S 1) (S 0 2)).2.1.1)) T)
    (hP : sort = 1 → ¬ S 0 31 = 8 → (rdT (S 1) (S 0 2)).1 = -1 → ∀ T, plT S (rdT (S 1) (S 0 2)).2.2.1.2 T → Q (some (.inl (S 0 31))) T) : Smm H_M_text 0 [some (.inr (.inr 0)), some (.inl sort), none] [] S Q := by
  have e2 : th S 0 2 = S 0 2 := th_0 S (by decide)
  have e1 : th S 1 = S 1 := th_c S (by decide)
  have e31 : th S 0 31 = S 0 31 := th_0 S (by decide)
  have ht' := tpM_th ht
  have hF0 : Fr [2, 3, 4, 5, 6] [(0, 0), (0, 3), (0, 4), (0, 5), (0, 6), (0, 7), (0, 8), (0, 12), (0, 13), (0, 15), (0, 17)] S (th S) := (Fr.rf _ _ S).up _ _ _ rfl
  have hok := (rdP_ok (t := S 1) ht.1.1).1
  generalize hw : lwW (S 1) (S 0 2) = w at *
  generalize hp : (rdP (S 1) (S 0 2)).2 = p at *
  generalize hr : rdT (S 1) (S 0 2) = r at *
  -- no land
  have rest : ∀ T, Fr [2, 3, 4, 5, 6] [(0, 0), (0, 3), (0, 4), (0, 5), (0, 6), (0, 7), (0, 8), (0, 12), (0, 13), (0, 15), (0, 17)] S T → ¬ (sort = 0 ∧ w = -1) → (sort = 1 → T = th S) → Smm H_M_text 26 [some (.inr (.inr 0)), some (.inl sort), none] [] T Q := by
    intro T hF hz hT
    refine sound ok_M_text [50] 40 ?_
    refine ⟨fun g1 => h0 hz (fun z => g1 z.1) T hF, fun g1 => ?_⟩
    have hT := hT g1
    subst hT
    refine ⟨fun g8 => h0 hz (fun z => z.2.1 (e31 ▸ g8)) _ hF, fun g8 => ?_⟩
    replace g8 : ¬ S 0 31 = 8 := fun z => g8 (e31.trans z)
    refine t_M_wrongPlan (th S) _ ht'.1 ht'.2 (fun T2 hF2 hm => ?_)
    rw [e1, e2, hr] at hm ⊢
    refine ⟨fun g9 => ?_, fun g9 => h0 hz (fun z => g9 z.2.2) _ (hF.tr (hF2.mo rfl rfl))⟩
    obtain ⟨m1, m2, m3, m4⟩ := hm g9
    have hP := hP g1 g8 g9
    generalize r.2.2.1.2 = rc at *
    have p31 : T2 0 31 = S 0 31 := by rw [hF2.s 0 31 rfl, e31]
    have p15 : T2 15 = S 15 := by rw [hF2.c 15 rfl, th_c S (by decide)]
    have p16 : T2 16 = S 16 := by rw [hF2.c 16 rfl, th_c S (by decide)]
    have hFS : Fr [5, 6, 15, 16] [(0, 0), (0, 2), (0, 3), (0, 4), (0, 15), (0, 17), (0, 31)] S T2 := ((Fr.rf _ _ S).up _ _ _ rfl : Fr [5, 6, 15, 16] [(0, 0), (0, 2), (0, 3), (0, 4), (0, 15), (0, 17), (0, 31)] S (th S)).tr (hF2.mo rfl rfl)
    have loop : ∀ (i : Int) (T : St), ((0 ≤ i ∧ i ≤ rc.length) ∧ Fr [15] [] T2 T ∧ (∀ k : Nat, (k : Int) < i → T 15 (160 * S 0 31 + k) = rc.getD (rc.length - 1 - k) 0) ∧ ∀ j, j < 160 * S 0 31 → T 15 j = S 15 j) → Smm H_M_text 52 [some (.inr (.inr 0)), some (.inl sort), some (.inl i)] [] T Q := by
      refine lp_up (P := fun i T => Smm H_M_text 52 [some (.inr (.inr 0)), some (.inl sort), some (.inl i)] [] T Q) _ rc.length ?_ ?_
      · rintro i T hi ⟨hi2, hF3, d1, d2⟩
        have q15 : T 0 15 = rc.length := by rw [hF3.c 0 rfl, m2]
        have q31 : T 0 31 = S 0 31 := by rw [hF3.c 0 rfl, p31]
        have b1 : 0 ≤ T 0 31 ∧ T 0 31 < 8 := by rw [q31]; omega
        have n1 : i32 (T 0 31 + 1) = S 0 31 + 1 := by rw [q31]; exact i32_id (by omega) (by omega)
        have n2 : i32 (i32 (T 0 31 + 1) - 1) = S 0 31 := by rw [n1, i32_id (by omega) (by omega)]; omega
        have hq := hP (up (up (up T 16 (T 0 31) (T 0 15)) 0 31 (i32 (T 0 31 + 1))) 0 2 0) ⟨?_, ?_, ?_, ⟨?_, ?_⟩, ?_, ?_⟩
        · rw [← n2] at hq
          refine sound ok_M_text [52] 60 ?_
          refine ⟨fun _ => ?_, fun z => absurd z (by rw [q15]; omega)⟩
          refine ⟨b1, ?_⟩
          exact hq
        · exact (((hFS.tr (hF3.mo rfl rfl)).up _ _ _ rfl).up _ _ _ rfl).up _ _ _ rfl
        · rw [up_n _ _ _ (by decide), up_s, n1]
        · rw [up_s]
        · rw [up_o _ _ _ (by decide), up_o _ _ _ (by decide), q31, up_s, q15]
        · intro j hj
          rw [up_o _ _ _ (by decide), up_o _ _ _ (by decide), q31, up_n _ _ _ hj, hF3.c 16 rfl, p16]
        · intro k hk
          rw [up_o _ _ _ (by decide), up_o _ _ _ (by decide), up_o _ _ _ (by decide)]
          exact d1 k (by omega)
        · intro j hj
          rw [up_o _ _ _ (by decide), up_o _ _ _ (by decide), up_o _ _ _ (by decide)]
          exact d2 j hj
      · rintro i T hi ⟨hi2, hF3, d1, d2⟩ ih
        obtain ⟨k, rfl⟩ : ∃ k : Nat, i = k := ⟨i.toNat, by omega⟩
        have q15 : T 0 15 = rc.length := by rw [hF3.c 0 rfl, m2]
        have q31 : T 0 31 = S 0 31 := by rw [hF3.c 0 rfl, p31]
        have v : T 5 k = rc.getD (rc.length - 1 - k) 0 := by rw [hF3.c 5 rfl]; exact m4 k (by omega)
        have hk160 : k < 160 := by omega
        have hp8 : 0 ≤ S 0 31 ∧ S 0 31 < 8 := by omega
        have hkr : k < rc.length := by omega
        have x1 : i32 (i32 (160 * T 0 31) + k) = 160 * S 0 31 + k := by rw [q31]; exact (x160 hp8 hk160).1
        have ih := ih (up T 15 (i32 (i32 (160 * T 0 31) + k)) (T 5 k)) ⟨⟨Int.le_add_one (Int.natCast_nonneg k), Int.ofNat_lt.mpr hkr⟩, hF3.up _ _ _ rfl, fun k' hk' => ?_, fun j hj => ?_⟩
        · refine sound ok_M_text [52] 60 ?_
          refine ⟨fun z => absurd z (by rw [q15]; exact nle_n hkr), fun _ => ?_⟩
          refine ⟨⟨Int.natCast_nonneg k, Int.ofNat_lt.mpr hk160⟩, ?_⟩
          refine ⟨by rw [x1]; exact (x160 hp8 hk160).2, ?_⟩
          exact Smm.sub ih ⟨Or.inr rfl, Or.inr rfl, Or.inr (sI (i32_s' hk160)), trivial⟩
        · rw [x1]
          by_cases hkk : k' = k
          · rw [hkk, up_s, v]
          · rw [up_n _ _ _ (x160n hkk)]; exact d1 k' (x160k hkk hk')
        · rw [x1, up_n _ _ _ (x160l hj)]; exact d2 j hj
    refine sound ok_M_text [52] 20 ?_
    exact loop 0 T2 ⟨by omega, Fr.rf _ _ _, fun k hk => absurd hk (by omega), fun j _ => by rw [p15]⟩
  refine sound ok_M_text [26] 40 ?_
  refine ⟨fun g0 => rest (th S) hF0 (fun z => g0 z.1) (fun _ => rfl), fun g0 => ?_⟩
  refine t_M_wrongLand (th S) _ ht'.1 (fun j j0 j1 => (ht'.2 j j0 j1).1) (fun T hF hm => ?_)
  rw [e1, e2, hw] at hm ⊢
  have hFT := hF0.tr (hF.mo rfl rfl : Fr [2, 3, 4, 5, 6] [(0, 0), (0, 3), (0, 4), (0, 5), (0, 6), (0, 7), (0, 8), (0, 12), (0, 13), (0, 15), (0, 17)] (th S) T)
  refine ⟨fun g => rest T hFT (fun z => g z.2) (fun z => absurd (g0.symm.trans z) (by decide)), fun g => ?_⟩
  obtain ⟨hM, hB⟩ := hm g
  rw [hp] at hM hB
  obtain ⟨⟨c1, c2, c3, c4⟩, k1, k2, k3⟩ := hM
  obtain ⟨⟨o1, o2, o3, o4, o5, o6, o7, o8, o9⟩, oG, oS, oE, oN⟩ := hok
  refine t_M_laysLand T _ (by rw [c1]; omega) (by rw [c2]; omega) (by rw [c3]; omega) (fun h h0 h1 => ?_) (fun U hU => ?_)
  · rw [c3] at h1
    have := oE h h0 h1
    rw [k3 (3 * h) (by omega) (by omega), k3 (3 * h + 1) (by omega) (by omega)]
    omega
  · obtain ⟨u1, ⟨v1, v2, v3, v4, v5, v6, v7, v8, v9⟩, u3, u4, u5, u6⟩ := hU
    have hq := hL g0 g U ⟨?_, ⟨v1, v2, by rw [v3, c1], by rw [v4, c2], by rw [v5, hB.1], by rw [v6, hB.2], v7, v8, v9⟩, u3, fun x x0 x1 => ?_, fun x x0 x1 => ?_, fun j j0 j1 => ?_⟩
    · rw [← c1, ← v3] at hq
      exact hq
    · exact ((Fr.rf _ _ S).up _ _ _ rfl : Fr [2, 3, 4, 7, 8, 9, 10, 11, 12, 13, 14] [(0, 0), (0, 2), (0, 3), (0, 4), (0, 5), (0, 6), (0, 7), (0, 8), (0, 12), (0, 13), (0, 18), (0, 19), (0, 20), (0, 21), (0, 22), (0, 49), (0, 52), (0, 56)] S (th S)).tr ((hF.mo rfl rfl).tr (u1.mo rfl rfl))
    · have := u4 x x0 (by rw [c1]; exact x1)
      rw [k1 (2 * x) (by omega) (by omega), k1 (2 * x + 1) (by omega) (by omega)] at this
      exact this
    · have := u5 x x0 (by rw [c2]; exact x1)
      rw [k2 (4 * x) (by omega) (by omega), k2 (4 * x + 1) (by omega) (by omega), k2 (4 * x + 2) (by omega) (by omega), k2 (4 * x + 3) (by omega) (by omega)] at this
      exact this
    · rw [u6 j j0 j1, c3, ltF_congr (E' := p.2.2.2.1) _ (fun i i0 i1 => k3 i i0 (by omega))]
