/-! the reference: talliesPairs -/
theorem vsM_b {T : St} (hA : mAs T) {f : Int → Int} (hf : f ∈ wyM T) {g a : Int} (hg : 0 ≤ g ∧ g < 4) (ha : 0 ≤ a ∧ a < 10 * T 0 20) : vsM T f g a = 1000000 ∨ (-1000 ≤ vsM T f g a ∧ vsM T f g a ≤ 2000) := by
  have hn5 := hA.1.1.1
  have h9 := hdM_b (al := T 19) (f := smM T f) (g := g) (s := a / 10) (b := 500) (by omega) (smM_b hA.1 (wyM_of hA hf) (by omega) (by omega)) (hA.1.1.2.2 (5 * g + a / 10) (by omega) (by omega))
  unfold vsM plN
  split <;> omega
/-- the sums of three rows at once -/
def ts3 (B : St) (one other : Int) (pre : List (Int → Int)) (f : Int → Int) (i : Int) (T : St) : Prop := tsI (wP B one other) pre f i 2500 (T 27) ∧ tsI (wG B one other one) pre f i 2500 (T 28) ∧ tsI (wG B one other other) pre f i 2500 (T 29)
theorem gd_k {a b w : Nat} (ha : a < w) (hb : b < w) (hw : w ≤ 50) : (50 * (a : Int) + b) / 50 = a ∧ (50 * (a : Int) + b) % 50 = b ∧ 0 ≤ 50 * (a : Int) + b ∧ 50 * (a : Int) + b < 2500 := by omega
theorem gd_n {b w : Nat} (hb : b < w) (hw : w ≤ 50) : ((b + 1 : Nat) : Int) = i32 ((b : Int) + 1) := by rw [i32_id (v := (b : Int) + 1) (by omega) (by omega)]; omega
theorem gd_j {a b : Nat} {k : Int} (h : 50 * (a : Int) + b = k) : 50 * (a : Int) + ((b + 1 : Nat) : Int) = k + 1 := by omega
theorem gd_b {x c n : Int} {l : Nat} (h : 0 ≤ x ∧ x ≤ 99 * l + 99) (hl : l < 16807) (hc : 0 ≤ c ∧ c ≤ 99) : i32 (x + c) = x + c := i32_id (by omega) (by omega)
theorem gd_i {a b w : Nat} (ha : a < w) (hb : b < w) (hw : w ≤ 50) : i32 (i32 (50 * (a : Int)) + b) = 50 * a + b := by rw [i32_id (v := 50 * (a : Int)) (by omega) (by omega)]; exact i32_id (by omega) (by omega)
/-- what stays within one way -/
def KI (B T : St) (one other : Int) (pre : List (Int → Int)) (f : Int → Int) (i : Int) (T2 : St) : Prop := Fr [25, 23, 27, 28, 29] [] T T2 ∧ (∀ j, ¬ j = one → ¬ j = other → T2 23 j = T 23 j) ∧ ts3 B one other pre f i T2
set_option maxHeartbeats 4000000 in
theorem t_M_talliesPairs (B : St) (one other : Int) (Q : Option AV → St → Prop) (hA : mAs B) (h1 : 0 ≤ one ∧ one < B 0 19) (h2 : 0 ≤ other ∧ other < B 0 19) (hne : ¬ one = other) (hpt : ∀ g, 0 ≤ g → g < B 0 19 → 0 ≤ B 7 g ∧ B 7 g ≤ 99 ∧ 0 ≤ B 8 g ∧ B 8 g ≤ 99)
    (hQ : ∀ S', Fr [21, 22, 23, 24, 25, 26, 27, 28, 29, 31] [] B S' → (∀ k, 0 ≤ k → k < 2500 → S' 27 k = smL (wP B one other k) (wyM B) ∧ S' 28 k = smL (wG B one other one k) (wyM B) ∧ S' 29 k = smL (wG B one other other k) (wyM B)) → Q none S') : Smm H_M_talliesPairs 0 [some (.inr (.inr 0)), some (.inl one), some (.inl other), none, none, none, none, none, none] [] B Q := by
    have hk4 := hA.1.2.1
    have hn5 := hA.1.1.1
    have hn1 := hA.2.1.1
    have wPb : ∀ k f, 0 ≤ wP B one other k f ∧ wP B one other k f ≤ 99 := fun k f => by
      unfold wP
      split
      · split <;> omega
      · omega
    have wGb : ∀ g, 0 ≤ g → g < B 0 19 → ∀ k f, 0 ≤ wG B one other g k f ∧ wG B one other g k f ≤ 99 := fun g g0 g1 k f => by
      have := hpt g g0 g1
      unfold wG
      split
      · split
        · omega
        · split <;> omega
      · omega
    have hlen := wyM_len hA
    have loop : ∀ (post pre : List (Int → Int)) (f : Int → Int) (T : St), wyM B = pre ++ f :: post → (Fr [21, 22, 23, 24, 25, 26, 27, 28, 29, 31] [] B T ∧ Wy T f ∧ (tsI (wP B one other) pre (fun _ => 0) 0 2500 (T 27) ∧ tsI (wG B one other one) pre (fun _ => 0) 0 2500 (T 28) ∧ tsI (wG B one other other) pre (fun _ => 0) 0 2500 (T 29))) → Smm H_M_talliesPairs 40 [some (.inr (.inr 0)), some (.inl one), some (.inl other), none, none, none, none, none, none] [] T Q := by
      refine lp_wy (P := fun _ (T : St) => Smm H_M_talliesPairs 40 [some (.inr (.inr 0)), some (.inl one), some (.inl other), none, none, none, none, none, none] [] T Q) (fun pre f T => Fr [21, 22, 23, 24, 25, 26, 27, 28, 29, 31] [] B T ∧ Wy T f ∧ (tsI (wP B one other) pre (fun _ => 0) 0 2500 (T 27) ∧ tsI (wG B one other one) pre (fun _ => 0) 0 2500 (T 28) ∧ tsI (wG B one other other) pre (fun _ => 0) 0 2500 (T 29))) ?_
      rintro pre f post T hl ⟨hF, hW, hI⟩ ih
      have hSm : Sm B T := Sm.of hF rfl
      have hA' := mAs_sm hSm hA
      have hfm0 : f ∈ wyM B := by rw [hl]; exact List.mem_append_right _ List.mem_cons_self
      have hfm : f ∈ wyM T := by rw [wyM_sm hSm]; exact hfm0
      have hpl : pre.length < (wyM B).length := by rw [hl, List.length_append, List.length_cons]; omega
      have next : ∀ (T2 : St) (x : Int) (x4 x5 x6 x7 x8 : Option AV), Fr [21, 22, 23, 24, 25, 26, 27, 28, 29, 31] [] B T2 → (∀ i, 0 ≤ i → i < B 0 20 → T2 21 i = f i) → (tsI (wP B one other) (pre ++ [f]) (fun _ => 0) 0 2500 (T2 27) ∧ tsI (wG B one other one) (pre ++ [f]) (fun _ => 0) 0 2500 (T2 28) ∧ tsI (wG B one other other) (pre ++ [f]) (fun _ => 0) 0 2500 (T2 29)) → Smm H_M_talliesPairs 270 [some (.inr (.inr 0)), some (.inl one), some (.inl other), some (.inl x), x4, x5, x6, x7, x8] [] T2 Q := by
        intro T2 x x4 x5 x6 x7 x8 hF2 ho2 hI2
        have hSm2 : Sm B T2 := Sm.of hF2 rfl
        refine sound ok_M_talliesPairs [40, 277] 20 ?_
        refine t_M_nextW T2 pre f post _ (mAs_sm hSm2 hA) (by rw [wyM_sm hSm2]; exact hl) (fun i i0 i1 => ho2 i i0 (by rw [hSm2.1] at i1; exact i1)) (fun f' post' S3 hp hF3 hW3 => ?_) (fun S3 hp hF3 => ?_)
        · refine ⟨fun _ => ?_, fun z => absurd z (by decide)⟩
          refine Smm.sub (ih f' post' S3 hp ⟨hF2.tr (hF3.mo rfl rfl), hW3, ?_⟩) ⟨Or.inr rfl, Or.inr rfl, Or.inr rfl, Or.inl rfl, Or.inl rfl, Or.inl rfl, Or.inl rfl, Or.inl rfl, Or.inl rfl, trivial⟩
          rw [hF3.c 27 rfl, hF3.c 28 rfl, hF3.c 29 rfl]
          exact hI2
        · refine ⟨fun z => absurd rfl z, fun _ => ?_⟩
          have hx : (tsI (wP B one other) (wyM B) (fun _ => 0) 0 2500 (S3 27) ∧ tsI (wG B one other one) (wyM B) (fun _ => 0) 0 2500 (S3 28) ∧ tsI (wG B one other other) (wyM B) (fun _ => 0) 0 2500 (S3 29)) := by rw [hF3.c 27 rfl, hF3.c 28 rfl, hF3.c 29 rfl, hl, hp]; exact hI2
          have hFx := hF2.tr (hF3.mo rfl rfl)
          refine sound ok_M_talliesPairs [] 10 ?_
          have un : ∀ (w : Int → (Int → Int) → Int) (t : Int → Int), tsI w (wyM B) (fun _ => 0) 0 2500 t → ∀ k, 0 ≤ k → k < 2500 → t k = smL (w k) (wyM B) := fun w t h k k0 k1 => by
            rw [h k k0 k1, if_neg (by omega)]; omega
          exact hQ S3 hFx (fun k k0 k1 => ⟨un _ _ hx.1 k k0 k1, un _ _ hx.2.1 k k0 k1, un _ _ hx.2.2 k k0 k1⟩)
      have q0 : T 0 = B 0 := hSm.1
      have hof := wyM_of hA hfm0
      obtain ⟨w, hw⟩ : ∃ w : Nat, 10 * B 0 20 = w := ⟨(10 * B 0 20).toNat, by omega⟩
      have hw50 : w ≤ 50 := by omega
      have hW3 : ∀ j, 0 ≤ j → j < B 0 19 → T 23 j = tnM B (smM B f) j := fun j j0 j1 => by rw [hW.2.2 j j0 (by rw [q0]; exact j1), tnM_sm hSm, smM_sm hSm]
      have facts : ∀ T2, Fr [25, 23, 27, 28, 29] [] T T2 → T2 0 = B 0 ∧ T2 19 = B 19 ∧ (∀ s, 0 ≤ s → s < B 0 20 → T2 22 s = smM B f s) ∧ T2 7 = B 7 ∧ T2 8 = B 8 := fun T2 h => by
        refine ⟨by rw [h.c 0 rfl, q0], by rw [h.c 19 rfl, hSm.2.2.2.2.2.2.2.1], fun s s0 s1 => by rw [h.c 22 rfl, hW.2.1 s s0 (by rw [q0]; exact s1), smM_sm hSm], by rw [h.c 7 rfl, hF.c 7 rfl], by rw [h.c 8 rfl, hF.c 8 rfl]⟩
      have hear : ∀ (T2 : St) (g s : Int) (Q2 : Option AV → St → Prop), Fr [25, 23, 27, 28, 29] [] T T2 → 0 ≤ g ∧ g < 4 → 0 ≤ s ∧ s < B 0 20 → Q2 (some (.inl (hdM (B 19) (smM B f) g s))) T2 → Smm H_M_heardAt 0 [some (.inr (.inr 0)), some (.inl g), some (.inl s), none] [] T2 Q2 := by
        intro T2 g s Q2 h hg hs hq
        obtain ⟨f0, f1, f2, f3, f4⟩ := facts T2 h
        have hsb := smM_b hA.1 hof hs.1 hs.2
        have hal := hA.1.1.2.2 (5 * g + s) (by omega) (by omega)
        refine t_M_heardAt T2 g s _ hg (by omega) (by rw [f2 s hs.1 hs.2]; omega) (by rw [f1]; exact hal.2) ?_
        rw [f1, hdM_congr (f2 s hs.1 hs.2)]
        exact hq
      have grid : ∀ (q : St × Option AV × Option AV × Option AV × Option AV × Option AV), KI B T one other pre f 0 q.1 → Smm H_M_talliesPairs 42 [some (.inr (.inr 0)), some (.inl one), some (.inl other), some (.inl ((0 : Nat) : Int)), q.2.1, q.2.2.1, q.2.2.2.1, q.2.2.2.2.1, q.2.2.2.2.2] [] q.1 Q := by
        intro q hq
        refine lp_gd (PO := fun a (q : St × Option AV × Option AV × Option AV × Option AV × Option AV) => Smm H_M_talliesPairs 42 [some (.inr (.inr 0)), some (.inl one), some (.inl other), some (.inl (a : Int)), q.2.1, q.2.2.1, q.2.2.2.1, q.2.2.2.2.1, q.2.2.2.2.2] [] q.1 Q) (PI := fun a b q => ∀ v, q.2.1 = some (.inl v) → Smm H_M_talliesPairs 94 [some (.inr (.inr 0)), some (.inl one), some (.inl other), some (.inl (a : Int)), some (.inl v), some (.inl (b : Int)), q.2.2.2.1, q.2.2.2.2.1, q.2.2.2.2.2] [] q.1 Q) w
          (fun a _ q => KI B T one other pre f (50 * a) q.1) (fun a b _ q => KI B T one other pre f (50 * a + b) q.1 ∧ q.1 23 one = vsM B f one a) ?_ ?_ ?_ ?_ q hq
        · rintro ⟨T2, x4, x5, x6, x7, x8⟩ ⟨hF2, htn, hts⟩
          dsimp only at hF2 htn hts ⊢
          obtain ⟨f0, f1, f2, f3, f4⟩ := facts T2 hF2
          have en : i32 (10 * T2 0 20) = w := by rw [f0, ← hw]; exact i32_id (by omega) (by omega)
          refine sound ok_M_talliesPairs [270] 20 ?_
          refine ⟨fun _ => ?_, fun h3 => absurd h3 (by rw [en]; omega)⟩
          refine next T2 _ _ _ _ _ _ (hF.tr (hF2.mo rfl rfl)) (fun j j0 j1 => ?_) ?_
          · rw [hF2.c 21 rfl]
            exact hW.1 j j0 (by rw [q0]; exact j1)
          · have z1 : ∀ k, 50 * (w : Int) ≤ k → k < 2500 → wP B one other k f = 0 := fun k k0 k1 => by unfold wP; rw [if_neg (by omega)]
            have z2 : ∀ g k, 50 * (w : Int) ≤ k → k < 2500 → wG B one other g k f = 0 := fun g k k0 k1 => by unfold wG; rw [if_neg (by omega)]
            exact ⟨ts_next (ts_jump hts.1 (by omega) z1) (Int.le_refl _) _, ts_next (ts_jump hts.2.1 (by omega) (z2 one)) (Int.le_refl _) _, ts_next (ts_jump hts.2.2 (by omega) (z2 other)) (Int.le_refl _) _⟩
        · rintro a ⟨T2, x4, x5, x6, x7, x8⟩ rem ha ⟨hF2, htn, hts⟩ ih
          dsimp only at hF2 htn hts ⊢
          obtain ⟨f0, f1, f2, f3, f4⟩ := facts T2 hF2
          have en : i32 (10 * T2 0 20) = w := by rw [f0, ← hw]; exact i32_id (by omega) (by omega)
          have e1 : idiv (a : Int) 10 = a / 10 := idiv_pos (by omega) (by omega) (by omega) (by omega)
          have e2 : irem (a : Int) 10 = a % 10 := irem_pos (by omega) (by omega) (by omega) (by omega)
          refine sound ok_M_talliesPairs [90] 40 ?_
          refine ⟨fun h3 => absurd h3 (by rw [en]; omega), fun _ => ?_⟩
          refine ⟨by decide, ?_⟩
          rw [e1]
          refine hear T2 one (a / 10) _ hF2 (by omega) (by omega) ?_
          have go : ∀ v, v = vsM B f one a → ∀ y, Smm H_M_talliesPairs 90 [some (.inr (.inr 0)), some (.inl one), some (.inl other), some (.inl (a : Int)), some (.inl y), x5, x6, x7, x8] [.inl v, .inl one, .inr (.inr 23)] T2 Q := by
            intro v hv y
            refine sound ok_M_talliesPairs [94] 20 ?_
            refine ⟨by omega, ?_⟩
            refine ih (up T2 23 one v, some (.inl y), none, x6, x7, x8) ⟨⟨hF2.up _ _ _ rfl, fun j j1 j2 => ?_, ?_⟩, ?_⟩ y rfl
            · dsimp only
              rw [up_n _ _ _ j1]
              exact htn j j1 j2
            · dsimp only
              unfold ts3
              rw [up_o _ _ _ (by decide), up_o _ _ _ (by decide), up_o _ _ _ (by decide)]
              rw [show 50 * (a : Int) + ((0 : Nat) : Int) = 50 * a by omega]
              exact hts
            · dsimp only
              rw [up_s, hv]
          refine ⟨fun h3 => ?_, fun h3 => ?_⟩
          · refine ⟨by decide, ?_⟩
            refine go _ ?_ _
            have hb := vsM_b hA hfm0 (g := one) (a := a) (by omega) (by omega)
            unfold vsM plN at hb ⊢
            rw [if_neg h3] at hb ⊢
            rw [e2]
            exact i32_id (by omega) (by omega)
          · refine go _ ?_ _
            unfold vsM plN
            rw [if_pos h3]
        · rintro a ⟨T2, x4, x5, x6, x7, x8⟩ rem ha ⟨⟨hF2, htn, hts⟩, hone⟩ ih v hv4
          dsimp only at hF2 htn hts hone hv4 ⊢
          obtain ⟨f0, f1, f2, f3, f4⟩ := facts T2 hF2
          have en : i32 (10 * T2 0 20) = w := by rw [f0, ← hw]; exact i32_id (by omega) (by omega)
          refine sound ok_M_talliesPairs [42] 20 ?_
          refine ⟨fun _ => ?_, fun h3 => absurd h3 (by rw [en]; omega)⟩
          have z1 : ∀ k, 50 * (a : Int) + w ≤ k → k < 50 * ((a + 1 : Nat) : Int) → wP B one other k f = 0 := fun k k0 k1 => by unfold wP; rw [if_neg (by omega)]
          have z2 : ∀ g k, 50 * (a : Int) + w ≤ k → k < 50 * ((a + 1 : Nat) : Int) → wG B one other g k f = 0 := fun g k k0 k1 => by unfold wG; rw [if_neg (by omega)]
          refine Smm.sub (ih (T2, some (.inl v), some (.inl (w : Int)), x6, x7, x8) ⟨hF2, htn, ts_jump hts.1 (by omega) z1, ts_jump hts.2.1 (by omega) (z2 one), ts_jump hts.2.2 (by omega) (z2 other)⟩) ⟨Or.inr rfl, Or.inr rfl, Or.inr rfl, Or.inr (sI ?_), Or.inr rfl, Or.inr rfl, Or.inr rfl, Or.inr rfl, Or.inr rfl, trivial⟩
          rw [i32_id (by omega) (by omega)]
          omega
        · rintro a b ⟨T2, x4, x5, x6, x7, x8⟩ rem ha hb ⟨⟨hF2, htn, hts⟩, hone⟩ ih v hv4
          dsimp only at hF2 htn hts hone hv4 ⊢
          obtain ⟨f0, f1, f2, f3, f4⟩ := facts T2 hF2
          have en : i32 (10 * T2 0 20) = w := by rw [f0, ← hw]; exact i32_id (by omega) (by omega)
          have e1 : Unit → idiv (b : Int) 10 = b / 10 := fun _ => idiv_pos (by omega) (by omega) (by omega) (by omega)
          have e2 : Unit → irem (b : Int) 10 = b % 10 := fun _ => irem_pos (by omega) (by omega) (by omega) (by omega)
          have oo : Unit → (0 ≤ (b : Int) / 10 ∧ (b : Int) / 10 < B 0 20) ∧ (¬ hdM (B 19) (smM B f) other ((b : Int) / 10) = 1000000 → i32 (hdM (B 19) (smM B f) other ((b : Int) / 10) + (b : Int) % 10) = vsM B f other b) ∧ ¬ (w : Int) ≤ b := fun _ => by
            refine ⟨by omega, fun h3 => ?_, by omega⟩
            have hb := vsM_b hA hfm0 (g := other) (a := b) (by omega) (by omega)
            unfold vsM plN at hb ⊢
            rw [if_neg h3] at hb ⊢
            exact i32_id (by omega) (by omega)
          have h14 : 0 ≤ one ∧ one < 4 := ⟨h1.1, Int.lt_of_lt_of_le h1.2 hk4.2⟩
          have h24 : 0 ≤ other ∧ other < 4 := ⟨h2.1, Int.lt_of_lt_of_le h2.2 hk4.2⟩
          have hpl2 : pre.length < 16807 := Nat.lt_of_lt_of_le hpl hlen.2
          have ek := gd_i ha hb hw50
          obtain ⟨hk1, hk2, hkb⟩ := gd_k ha hb hw50
          generalize hk : 50 * (a : Int) + b = k at ek hk1 hk2 hkb
          have wpv : wP B one other k f = if op2 B f one other a b then 1 else 0 := by unfold wP; rw [hk1, hk2, if_pos ⟨by rw [hw]; exact_mod_cast ha, by rw [hw]; exact_mod_cast hb⟩]
          have wgv : ∀ g, wG B one other g k f = if op2 B f one other a b then B 7 g else if ft2 B f one other a b = g then B 8 g else 0 := fun g => by unfold wG; rw [hk1, hk2, if_pos ⟨by rw [hw]; exact_mod_cast ha, by rw [hw]; exact_mod_cast hb⟩]
          clear hk1 hk2
          have b1 := ts_b hts.1 wPb hkb.1 hkb.2
          have b2 := ts_b hts.2.1 (wGb one h1.1 h1.2) hkb.1 hkb.2
          have b3 := ts_b hts.2.2 (wGb other h2.1 h2.2) hkb.1 hkb.2
          rw [hk] at hts
          have hp1 := hpt one h1.1 h1.2
          have hp2 := hpt other h2.1 h2.2
          have nx : ∀ (T5 : St) (y6 y7 y8 : Option AV), Fr [25, 23, 27, 28, 29] [] T T5 → (∀ j, ¬ j = one → ¬ j = other → T5 23 j = T 23 j) → T5 23 one = vsM B f one a → ts3 B one other pre f (k + 1) T5 → Smm H_M_talliesPairs 258 [some (.inr (.inr 0)), some (.inl one), some (.inl other), some (.inl (a : Int)), some (.inl v), some (.inl (b : Int)), y6, y7, y8] [] T5 Q := by
            intro T5 y6 y7 y8 g1 g2 g3 g4
            refine sound ok_M_talliesPairs [94] 20 ?_
            refine Smm.sub (ih (T5, some (.inl v), none, y6, y7, y8) ⟨⟨g1, g2, ?_⟩, g3⟩ v rfl) ⟨Or.inr rfl, Or.inr rfl, Or.inr rfl, Or.inr rfl, Or.inr rfl, Or.inr (sI ?_), Or.inr rfl, Or.inr rfl, Or.inr rfl, trivial⟩
            · dsimp only
              rw [gd_j hk]
              exact g4
            · exact gd_n hb hw50
          have go : ∀ u, u = vsM B f other b → ∀ y, Smm H_M_talliesPairs 145 [some (.inr (.inr 0)), some (.inl one), some (.inl other), some (.inl (a : Int)), some (.inl v), some (.inl (b : Int)), some (.inl y), x7, x8] [.inl u, .inl other, .inr (.inr 23)] T2 Q := by
            intro u hu y
            have hF3 := hF2.up 23 other u rfl
            have etn : ∀ j, 0 ≤ j → j < B 0 19 → up T2 23 other u 23 j = t2M B f one other a b j := fun j j0 j1 => by
              unfold t2M
              by_cases hj : j = other
              · rw [hj, up_s, uf_s, hu]
              · rw [up_n _ _ _ hj, uf_n _ _ hj]
                by_cases hj2 : j = one
                · rw [hj2, uf_s, hone]
                · rw [uf_n _ _ hj2, htn j hj2 hj, hW3 j j0 j1]
            have u0 : up T2 23 other u 0 = B 0 := by rw [up_o _ _ _ (by decide), f0]
            have eap : apF (up T2 23 other u 0 21) (up T2 23 other u 23) (up T2 23 other u 0 19).toNat = apF (B 0 21) (t2M B f one other a b) (B 0 19).toNat := by
              rw [u0]
              exact apF_congr (fun j j0 j1 => etn j j0 (by rw [Int.toNat_of_nonneg hk4.1] at j1; exact j1))
            have htu : ∀ T4, Fr [25] [] (up T2 23 other u) T4 → (∀ j, ¬ j = one → ¬ j = other → T4 23 j = T 23 j) ∧ T4 23 one = vsM B f one a ∧ T4 27 = T2 27 ∧ T4 28 = T2 28 ∧ T4 29 = T2 29 ∧ T4 7 = B 7 ∧ T4 8 = B 8 := fun T4 h => by
              refine ⟨fun j j1 j2 => by rw [h.c 23 rfl, up_n _ _ _ j2]; exact htn j j1 j2, by rw [h.c 23 rfl, up_n _ _ _ hne]; exact hone, by rw [h.c 27 rfl, up_o _ _ _ (by decide)], by rw [h.c 28 rfl, up_o _ _ _ (by decide)], by rw [h.c 29 rfl, up_o _ _ _ (by decide)], by rw [h.c 7 rfl, up_o _ _ _ (by decide), f3], by rw [h.c 8 rfl, up_o _ _ _ (by decide), f4]⟩
            have at155 : Smm H_M_talliesPairs 155 [some (.inr (.inr 0)), some (.inl one), some (.inl other), some (.inl (a : Int)), some (.inl v), some (.inl (b : Int)), some (.inl y), some (.inl k), x8] [] (up T2 23 other u) Q → Smm H_M_talliesPairs 145 [some (.inr (.inr 0)), some (.inl one), some (.inl other), some (.inl (a : Int)), some (.inl v), some (.inl (b : Int)), some (.inl y), x7, x8] [.inl u, .inl other, .inr (.inr 23)] T2 Q := fun h => by
              refine sound ok_M_talliesPairs [155] 20 ?_
              refine ⟨by first | exact hkb | exact h14 | exact h24, ?_⟩
              exact Smm.sub h ⟨Or.inr rfl, Or.inr rfl, Or.inr rfl, Or.inr rfl, Or.inr rfl, Or.inr rfl, Or.inr rfl, Or.inr (sI ek.symm), Or.inr rfl, trivial⟩
            refine at155 ?_
            refine sound ok_M_talliesPairs [236, 258] 60 ?_
            refine t_M_doesOpen (up T2 23 other u) _ (by rw [u0]; exact hk4) (by rw [u0]; exact ⟨hA.2.1.2.1, hA.2.1.2.2.1⟩) (fun j j0 j1 => ?_) (fun T4 hF5 hop => ?_) (fun T4 hF5 hop => ?_)
            · rw [u0] at j1
              rw [etn j j0 j1]
              unfold t2M
              by_cases hj : j = other
              · rw [hj, uf_s]; exact vsM_b hA hfm0 h24 ⟨Int.natCast_nonneg _, by rw [hw]; exact_mod_cast hb⟩
              · rw [uf_n _ _ hj]
                by_cases hj2 : j = one
                · rw [hj2, uf_s]; exact vsM_b hA hfm0 h14 ⟨Int.natCast_nonneg _, by rw [hw]; exact_mod_cast ha⟩
                · rw [uf_n _ _ hj2]
                  exact (tnM_b hA.1 hof j0 (Int.lt_of_lt_of_le j1 hk4.2)).imp_right (fun z => ⟨z.1, Int.le_trans z.2 (by decide)⟩)
            · rw [eap, u0] at hop
              have ho : op2 B f one other a b = true := decide_eq_true hop
              obtain ⟨t1, t2, t3, t4, t5, t6, t7⟩ := htu T4 hF5
              refine ⟨fun z => absurd z (by decide), fun _ => ?_⟩
              refine ⟨by first | exact hkb | exact h14 | exact h24, ?_⟩
              refine ⟨by first | exact hkb | exact h14 | exact h24, ?_⟩
              refine ⟨by first | exact hkb | exact h14 | exact h24, ?_⟩
              refine ⟨by first | exact hkb | exact h14 | exact h24, ?_⟩
              refine ⟨by first | exact hkb | exact h14 | exact h24, ?_⟩
              refine ⟨by first | exact hkb | exact h14 | exact h24, ?_⟩
              refine ⟨by first | exact hkb | exact h14 | exact h24, ?_⟩
              refine ⟨by first | exact hkb | exact h14 | exact h24, ?_⟩
              refine nx _ _ _ _ (((((hF3.tr (hF5.mo rfl rfl)).up _ _ _ rfl).up _ _ _ rfl).up _ _ _ rfl)) (fun j j1 j2 => ?_) ?_ ⟨?_, ?_, ?_⟩
              · rw [up_o _ _ _ (by decide), up_o _ _ _ (by decide), up_o _ _ _ (by decide)]
                exact t1 j j1 j2
              · rw [up_o _ _ _ (by decide), up_o _ _ _ (by decide), up_o _ _ _ (by decide)]
                exact t2
              · rw [up_o _ _ _ (by decide), up_o _ _ _ (by decide), up_c, t3]
                refine ts_add hts.1 ?_
                rw [gd_b (n := 0) b1 hpl2 (by decide)]
                rw [wpv, ho]
                rfl
              · rw [up_o _ _ _ (by decide), up_c, up_o _ _ _ (by decide), t4]
                refine ts_add hts.2.1 ?_
                rw [up_o _ _ _ (by decide), t6, gd_b (n := 0) b2 hpl2 ⟨hp1.1, hp1.2.1⟩]
                rw [wgv, ho]
                rfl
              · rw [up_c, up_o _ _ _ (by decide), up_o _ _ _ (by decide), t5]
                refine ts_add hts.2.2 ?_
                rw [up_o _ _ _ (by decide), up_o _ _ _ (by decide), t6, gd_b (n := 0) b3 hpl2 ⟨hp2.1, hp2.2.1⟩]
                rw [wgv, ho]
                rfl
            · rw [eap, u0] at hop
              have ho : op2 B f one other a b = false := decide_eq_false hop
              obtain ⟨t1, t2, t3, t4, t5, t6, t7⟩ := htu T4 hF5
              refine ⟨fun _ => ?_, fun z => absurd rfl z⟩
              have hF6 := hF3.tr (hF5.mo rfl rfl)
              have g0 : T4 0 = B 0 := by rw [hF5.c 0 rfl, u0]
              have eft : ftF (T4 23) (T4 0 19).toNat = ft2 B f one other a b := by
                unfold ft2
                rw [g0]
                refine ftF_congr _ (fun j j0 j1 => ?_)
                rw [hF5.c 23 rfl]
                exact etn j j0 (by rw [Int.toNat_of_nonneg hk4.1] at j1; exact j1)
              have wp0 : wP B one other k f = 0 := by rw [wpv, ho]; rfl
              have wg0 : ∀ g, ¬ ft2 B f one other a b = g → wG B one other g k f = 0 := fun g hz => by rw [wgv, ho, if_neg (by decide), if_neg hz]
              have wg1 : ∀ g, ft2 B f one other a b = g → wG B one other g k f = B 8 g := fun g hz => by rw [wgv, ho, if_neg (by decide), if_pos hz]
              have last : ∀ (T5 : St), Fr [25, 23, 27, 28, 29] [] T T5 → (∀ j, ¬ j = one → ¬ j = other → T5 23 j = T 23 j) → T5 23 one = vsM B f one a → T5 8 = B 8 → T5 29 = T2 29 → T5 27 = T2 27 → tsI (wG B one other one) pre f (k + 1) 2500 (T5 28) → Smm H_M_talliesPairs 236 [some (.inr (.inr 0)), some (.inl one), some (.inl other), some (.inl (a : Int)), some (.inl v), some (.inl (b : Int)), some (.inl y), some (.inl k), some (.inl (ft2 B f one other a b))] [] T5 Q := by
                intro T5 g1 g2 g3 g4 g5 g6 g7
                refine sound ok_M_talliesPairs [258] 40 ?_
                refine ⟨fun h3 => ?_, fun h3 => ?_⟩
                · refine nx T5 _ _ _ g1 g2 g3 ⟨?_, g7, ?_⟩
                  · rw [g6]; exact ts_no hts.1 wp0
                  · rw [g5]; exact ts_no hts.2.2 (wg0 other h3)
                · refine ⟨by first | exact hkb | exact h14 | exact h24, ?_⟩
                  refine ⟨by first | exact hkb | exact h14 | exact h24, ?_⟩
                  refine ⟨by first | exact hkb | exact h14 | exact h24, ?_⟩
                  refine nx _ _ _ _ (g1.up _ _ _ rfl) (fun j j1 j2 => ?_) ?_ ⟨?_, ?_, ?_⟩
                  · rw [up_o _ _ _ (by decide)]; exact g2 j j1 j2
                  · rw [up_o _ _ _ (by decide)]; exact g3
                  · rw [up_o _ _ _ (by decide), g6]; exact ts_no hts.1 wp0
                  · rw [up_o _ _ _ (by decide)]; exact g7
                  · rw [up_c, g5]
                    refine ts_add hts.2.2 ?_
                    rw [g4, gd_b (n := 0) b3 hpl2 hp2.2.2, wg1 other h3]
              refine t_M_firstToTurn T4 _ (by rw [g0]; exact hk4) ?_
              rw [eft]
              refine ⟨fun h3 => ?_, fun h3 => ?_⟩
              · refine last T4 hF6 t1 t2 t7 t5 t3 ?_
                rw [t4]; exact ts_no hts.2.1 (wg0 one h3)
              · refine ⟨by first | exact hkb | exact h14 | exact h24, ?_⟩
                refine ⟨by first | exact hkb | exact h14 | exact h24, ?_⟩
                refine ⟨by first | exact hkb | exact h14 | exact h24, ?_⟩
                refine last _ (hF6.up _ _ _ rfl) (fun j j1 j2 => ?_) ?_ ?_ ?_ ?_ ?_
                · rw [up_o _ _ _ (by decide)]; exact t1 j j1 j2
                · rw [up_o _ _ _ (by decide)]; exact t2
                · rw [up_o _ _ _ (by decide)]; exact t7
                · rw [up_o _ _ _ (by decide)]; exact t5
                · rw [up_o _ _ _ (by decide)]; exact t3
                · rw [up_c, t4]
                  refine ts_add hts.2.1 ?_
                  rw [t7, gd_b (n := 0) b2 hpl2 hp1.2.2, wg1 one h3]
          refine sound ok_M_talliesPairs [145] 40 ?_
          refine ⟨fun h3 => absurd h3 (by rw [en]; exact (oo ()).2.2), fun _ => ?_⟩
          refine ⟨by decide, ?_⟩
          rw [e1 ()]
          refine hear T2 other (b / 10) _ hF2 h24 (oo ()).1 ?_
          refine ⟨fun h3 => ?_, fun h3 => ?_⟩
          · refine ⟨by decide, ?_⟩
            refine go _ ?_ _
            rw [e2 ()]
            exact (oo ()).2.1 h3
          · refine go _ ?_ _
            unfold vsM plN
            rw [if_pos h3]
      refine sound ok_M_talliesPairs [42] 30 ?_
      refine grid (T, none, none, none, none, none) ⟨Fr.rf _ _ _, fun _ _ _ => rfl, ?_⟩
      have cv : ∀ (w : Int → (Int → Int) → Int) (t : Int → Int), tsI w pre (fun _ => 0) 0 2500 t → tsI w pre f 0 2500 t := fun w t h k k0 k1 => by
        rw [h k k0 k1, if_neg (by omega), if_neg (by omega)]
      exact ⟨cv _ _ hI.1, cv _ _ hI.2.1, cv _ _ hI.2.2⟩
    obtain ⟨r, hr⟩ := wy_first (err := B 18) (B 0 20).toNat (fun i hi => (hA.2.2 i (by omega) (by have := hA.1.1.1; omega)).1)
    have clear : ∀ (i : Int) (T : St), ((0 ≤ i ∧ i ≤ 2500) ∧ Fr [27, 28, 29] [] B T ∧ ∀ k, 0 ≤ k → k < i → T 27 k = 0 ∧ T 28 k = 0 ∧ T 29 k = 0) → Smm H_M_talliesPairs 2 [some (.inr (.inr 0)), some (.inl one), some (.inl other), some (.inl i), none, none, none, none, none] [] T Q := by
      refine lp_up (P := fun i T => Smm H_M_talliesPairs 2 [some (.inr (.inr 0)), some (.inl one), some (.inl other), some (.inl i), none, none, none, none, none] [] T Q) _ 2500 ?_ ?_
      · rintro i T hi ⟨hi2, hF, hz⟩
        have hSm : Sm B T := Sm.of hF rfl
        refine sound ok_M_talliesPairs [40] 20 ?_
        refine ⟨fun _ => ?_, fun h3 => absurd h3 (by omega)⟩
        refine t_M_firstWay T _ (mAs_sm hSm hA) (fun T2 hF2 hW => ?_)
        refine Smm.sub (loop r [] (fsF (B 18) (B 0 20).toNat) T2 hr ⟨(hF.mo rfl rfl).tr (hF2.mo rfl rfl), ?_, ?_⟩) ⟨Or.inr rfl, Or.inr rfl, Or.inr rfl, Or.inl rfl, Or.inl rfl, Or.inl rfl, Or.inl rfl, Or.inl rfl, Or.inl rfl, trivial⟩
        · rw [← hSm.1, ← hSm.2.2.2.2.2.2.1]
          exact hW
        · rw [hF2.c 27 rfl, hF2.c 28 rfl, hF2.c 29 rfl]
          refine ⟨fun k k0 k1 => ?_, fun k k0 k1 => ?_, fun k k0 k1 => ?_⟩
          · rw [(hz k k0 (by omega)).1, if_neg (by omega)]; rfl
          · rw [(hz k k0 (by omega)).2.1, if_neg (by omega)]; rfl
          · rw [(hz k k0 (by omega)).2.2, if_neg (by omega)]; rfl
      · rintro i T hi ⟨hi2, hF, hz⟩ ih
        refine sound ok_M_talliesPairs [2] 40 ?_
        refine ⟨fun h3 => absurd h3 (by omega), fun _ => ?_⟩
        refine ⟨by omega, ?_⟩
        refine ⟨by omega, ?_⟩
        refine ⟨by omega, ?_⟩
        refine Smm.sub (ih _ ⟨by omega, ((hF.up _ _ _ rfl).up _ _ _ rfl).up _ _ _ rfl, fun k k0 k1 => ?_⟩) ⟨Or.inr rfl, Or.inr rfl, Or.inr rfl, Or.inr (sI (i32_id (by omega) (by omega)).symm), Or.inl rfl, Or.inl rfl, Or.inl rfl, Or.inl rfl, Or.inl rfl, trivial⟩
        by_cases hk : k = i
        · rw [hk]
          simp [upr]
        · have := hz k k0 (by omega)
          simp [upr, hk, this]
    refine sound ok_M_talliesPairs [2] 10 ?_
    exact clear 0 B ⟨by omega, Fr.rf _ _ _, fun k k0 k1 => by omega⟩
