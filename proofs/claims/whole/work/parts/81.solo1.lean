/-! numbers of a span, added to -/
theorem ds32 {a b : Int} (ha : 0 ≤ a ∧ a ≤ 2500) (hb : 0 ≤ b ∧ b ≤ 9) : i32 (a + b) = a + b := i32_id (by omega) (by omega)
theorem dv32 {a b : Int} (ha : -1000000 ≤ a ∧ a ≤ 1000000) (hb : -100000 ≤ b ∧ b ≤ 100000) : i32 (a + b) = a + b := i32_id (by omega) (by omega)
theorem dn32 {b : Int} (hb : 0 ≤ b ∧ b ≤ 9) : b + 1 = i32 (b + 1) := (i32_id (by omega) (by omega)).symm
set_option maxHeartbeats 2000000 in
theorem t_dSpan_so (S : St) (st lo hi by' : Int) (Q : Option AV → St → Prop) (hs : 0 ≤ st ∧ st + 10 ≤ 50) (hv : ∀ j, st ≤ j → j ≤ st + 9 → -1000000 ≤ S 112 j ∧ S 112 j ≤ 1000000) (hb : -100000 ≤ by' ∧ by' ≤ 100000) (hQ : ∀ S', Fr [112] [] S S' → (∀ j, S' 112 j = S 112 j + if st + max lo 0 ≤ j ∧ j ≤ st + min hi 9 then by' else 0) → Q none S') : Smm H_Duel_addSpan 0 [some (.inr (.inr 112)), some (.inl st), some (.inl lo), some (.inl hi), some (.inl by'), none, none] [] S Q := by
  obtain ⟨a, ha⟩ : ∃ a, max lo 0 = a := ⟨_, rfl⟩
  obtain ⟨b, hb2⟩ : ∃ b, min hi 9 = b := ⟨_, rfl⟩
  rw [ha, hb2] at hQ
  have a0 : 0 ≤ a := by omega
  have b9 : b ≤ 9 := by omega
  have loop : ∀ (i : Int) (S1 : St), ((a ≤ i ∧ (i ≤ b + 1 ∨ i = a)) ∧ Fr [112] [] S S1 ∧ ∀ j, S1 112 j = S 112 j + if st + a ≤ j ∧ j < st + i then by' else 0) → Smm H_Duel_addSpan 15 [some (.inr (.inr 112)), some (.inl st), some (.inl lo), some (.inl hi), some (.inl by'), some (.inl b), some (.inl i)] [] S1 Q := by
    refine lp_up (P := fun i S1 => Smm H_Duel_addSpan 15 [some (.inr (.inr 112)), some (.inl st), some (.inl lo), some (.inl hi), some (.inl by'), some (.inl b), some (.inl i)] [] S1 Q) _ (b + 1) ?_ ?_
    · rintro i S1 hi1 ⟨hi2, hF, d⟩
      refine sound ok_Duel_addSpan [15] 20 ?_
      refine ⟨fun _ => hQ S1 hF (fun j => ?_), fun z => absurd z (by omega)⟩
      rw [d j]
      have : (st + a ≤ j ∧ j < st + i) ↔ (st + a ≤ j ∧ j ≤ st + b) := by omega
      simp only [this]
    · rintro i S1 hi1 ⟨hi2, hF, d⟩ ih
      have bi : 0 ≤ i ∧ i ≤ 9 := by omega
      have hc : ¬ b < i := by omega
      have hix : 0 ≤ st + i ∧ st + i < 50 := by omega
      have hv1 := hv (st + i) (by omega) (by omega)
      have hd := d (st + i)
      rw [if_neg (show ¬ (st + a ≤ st + i ∧ st + i < st + i) by omega), Int.add_zero] at hd
      rw [← hd] at hv1
      have h1 : a ≤ i + 1 ∧ (i + 1 ≤ b + 1 ∨ i + 1 = a) := by omega
      have hnew : ∀ j, up S1 112 (st + i) (S1 112 (st + i) + by') 112 j = S 112 j + if st + a ≤ j ∧ j < st + (i + 1) then by' else 0 := by
        intro j
        by_cases z : j = st + i
        · rw [z, up_s, hd, if_pos (show st + a ≤ st + i ∧ st + i < st + (i + 1) by omega)]
        · rw [up_n _ _ _ z, d j]
          have : (st + a ≤ j ∧ j < st + i) ↔ (st + a ≤ j ∧ j < st + (i + 1)) := by omega
          simp only [this]
      have hst : 0 ≤ st ∧ st ≤ 2500 := by omega
      have e1 := ds32 hst bi
      have e2 := dv32 hv1 hb
      have e3 := dn32 bi
      rw [← e1] at hix
      refine sound ok_Duel_addSpan [15] 40 ?_
      refine ⟨fun z => absurd z hc, fun _ => ?_⟩
      refine ⟨hix, ?_⟩
      refine ⟨hix, ?_⟩
      have go := ih (up S1 112 (st + i) (S1 112 (st + i) + by')) ⟨h1, hF.up _ _ _ rfl, hnew⟩
      rw [← e2, ← e1] at go
      exact Smm.sub go ⟨Or.inr rfl, Or.inr rfl, Or.inr rfl, Or.inr rfl, Or.inr rfl, Or.inr rfl, Or.inr (sI e3), trivial⟩
  have go := loop a S ⟨⟨Int.le_refl _, Or.inr rfl⟩, Fr.rf _ _ _, fun j => by rw [if_neg (by omega), Int.add_zero]⟩
  refine sound ok_Duel_addSpan [15] 20 ?_
  rw [← ha, ← hb2] at go
  exact go
set_option maxHeartbeats 2000000 in
theorem t_dSpan_do (S : St) (st lo hi by' : Int) (Q : Option AV → St → Prop) (hs : 0 ≤ st ∧ st + 10 ≤ 2500) (hv : ∀ j, st ≤ j → j ≤ st + 9 → -1000000 ≤ S 118 j ∧ S 118 j ≤ 1000000) (hb : -100000 ≤ by' ∧ by' ≤ 100000) (hQ : ∀ S', Fr [118] [] S S' → (∀ j, S' 118 j = S 118 j + if st + max lo 0 ≤ j ∧ j ≤ st + min hi 9 then by' else 0) → Q none S') : Smm H_Duel_addSpan 0 [some (.inr (.inr 118)), some (.inl st), some (.inl lo), some (.inl hi), some (.inl by'), none, none] [] S Q := by
  obtain ⟨a, ha⟩ : ∃ a, max lo 0 = a := ⟨_, rfl⟩
  obtain ⟨b, hb2⟩ : ∃ b, min hi 9 = b := ⟨_, rfl⟩
  rw [ha, hb2] at hQ
  have a0 : 0 ≤ a := by omega
  have b9 : b ≤ 9 := by omega
  have loop : ∀ (i : Int) (S1 : St), ((a ≤ i ∧ (i ≤ b + 1 ∨ i = a)) ∧ Fr [118] [] S S1 ∧ ∀ j, S1 118 j = S 118 j + if st + a ≤ j ∧ j < st + i then by' else 0) → Smm H_Duel_addSpan 15 [some (.inr (.inr 118)), some (.inl st), some (.inl lo), some (.inl hi), some (.inl by'), some (.inl b), some (.inl i)] [] S1 Q := by
    refine lp_up (P := fun i S1 => Smm H_Duel_addSpan 15 [some (.inr (.inr 118)), some (.inl st), some (.inl lo), some (.inl hi), some (.inl by'), some (.inl b), some (.inl i)] [] S1 Q) _ (b + 1) ?_ ?_
    · rintro i S1 hi1 ⟨hi2, hF, d⟩
      refine sound ok_Duel_addSpan [15] 20 ?_
      refine ⟨fun _ => hQ S1 hF (fun j => ?_), fun z => absurd z (by omega)⟩
      rw [d j]
      have : (st + a ≤ j ∧ j < st + i) ↔ (st + a ≤ j ∧ j ≤ st + b) := by omega
      simp only [this]
    · rintro i S1 hi1 ⟨hi2, hF, d⟩ ih
      have bi : 0 ≤ i ∧ i ≤ 9 := by omega
      have hc : ¬ b < i := by omega
      have hix : 0 ≤ st + i ∧ st + i < 2500 := by omega
      have hv1 := hv (st + i) (by omega) (by omega)
      have hd := d (st + i)
      rw [if_neg (show ¬ (st + a ≤ st + i ∧ st + i < st + i) by omega), Int.add_zero] at hd
      rw [← hd] at hv1
      have h1 : a ≤ i + 1 ∧ (i + 1 ≤ b + 1 ∨ i + 1 = a) := by omega
      have hnew : ∀ j, up S1 118 (st + i) (S1 118 (st + i) + by') 118 j = S 118 j + if st + a ≤ j ∧ j < st + (i + 1) then by' else 0 := by
        intro j
        by_cases z : j = st + i
        · rw [z, up_s, hd, if_pos (show st + a ≤ st + i ∧ st + i < st + (i + 1) by omega)]
        · rw [up_n _ _ _ z, d j]
          have : (st + a ≤ j ∧ j < st + i) ↔ (st + a ≤ j ∧ j < st + (i + 1)) := by omega
          simp only [this]
      have hst : 0 ≤ st ∧ st ≤ 2500 := by omega
      have e1 := ds32 hst bi
      have e2 := dv32 hv1 hb
      have e3 := dn32 bi
      rw [← e1] at hix
      refine sound ok_Duel_addSpan [15] 40 ?_
      refine ⟨fun z => absurd z hc, fun _ => ?_⟩
      refine ⟨hix, ?_⟩
      refine ⟨hix, ?_⟩
      have go := ih (up S1 118 (st + i) (S1 118 (st + i) + by')) ⟨h1, hF.up _ _ _ rfl, hnew⟩
      rw [← e2, ← e1] at go
      exact Smm.sub go ⟨Or.inr rfl, Or.inr rfl, Or.inr rfl, Or.inr rfl, Or.inr rfl, Or.inr rfl, Or.inr (sI e3), trivial⟩
  have go := loop a S ⟨⟨Int.le_refl _, Or.inr rfl⟩, Fr.rf _ _ _, fun j => by rw [if_neg (by omega), Int.add_zero]⟩
  refine sound ok_Duel_addSpan [15] 20 ?_
  rw [← ha, ← hb2] at go
  exact go
set_option maxHeartbeats 2000000 in
theorem t_dSpan_d1 (S : St) (st lo hi by' : Int) (Q : Option AV → St → Prop) (hs : 0 ≤ st ∧ st + 10 ≤ 2500) (hv : ∀ j, st ≤ j → j ≤ st + 9 → -1000000 ≤ S 119 j ∧ S 119 j ≤ 1000000) (hb : -100000 ≤ by' ∧ by' ≤ 100000) (hQ : ∀ S', Fr [119] [] S S' → (∀ j, S' 119 j = S 119 j + if st + max lo 0 ≤ j ∧ j ≤ st + min hi 9 then by' else 0) → Q none S') : Smm H_Duel_addSpan 0 [some (.inr (.inr 119)), some (.inl st), some (.inl lo), some (.inl hi), some (.inl by'), none, none] [] S Q := by
  obtain ⟨a, ha⟩ : ∃ a, max lo 0 = a := ⟨_, rfl⟩
  obtain ⟨b, hb2⟩ : ∃ b, min hi 9 = b := ⟨_, rfl⟩
  rw [ha, hb2] at hQ
  have a0 : 0 ≤ a := by omega
  have b9 : b ≤ 9 := by omega
  have loop : ∀ (i : Int) (S1 : St), ((a ≤ i ∧ (i ≤ b + 1 ∨ i = a)) ∧ Fr [119] [] S S1 ∧ ∀ j, S1 119 j = S 119 j + if st + a ≤ j ∧ j < st + i then by' else 0) → Smm H_Duel_addSpan 15 [some (.inr (.inr 119)), some (.inl st), some (.inl lo), some (.inl hi), some (.inl by'), some (.inl b), some (.inl i)] [] S1 Q := by
    refine lp_up (P := fun i S1 => Smm H_Duel_addSpan 15 [some (.inr (.inr 119)), some (.inl st), some (.inl lo), some (.inl hi), some (.inl by'), some (.inl b), some (.inl i)] [] S1 Q) _ (b + 1) ?_ ?_
    · rintro i S1 hi1 ⟨hi2, hF, d⟩
      refine sound ok_Duel_addSpan [15] 20 ?_
      refine ⟨fun _ => hQ S1 hF (fun j => ?_), fun z => absurd z (by omega)⟩
      rw [d j]
      have : (st + a ≤ j ∧ j < st + i) ↔ (st + a ≤ j ∧ j ≤ st + b) := by omega
      simp only [this]
    · rintro i S1 hi1 ⟨hi2, hF, d⟩ ih
      have bi : 0 ≤ i ∧ i ≤ 9 := by omega
      have hc : ¬ b < i := by omega
      have hix : 0 ≤ st + i ∧ st + i < 2500 := by omega
      have hv1 := hv (st + i) (by omega) (by omega)
      have hd := d (st + i)
      rw [if_neg (show ¬ (st + a ≤ st + i ∧ st + i < st + i) by omega), Int.add_zero] at hd
      rw [← hd] at hv1
      have h1 : a ≤ i + 1 ∧ (i + 1 ≤ b + 1 ∨ i + 1 = a) := by omega
      have hnew : ∀ j, up S1 119 (st + i) (S1 119 (st + i) + by') 119 j = S 119 j + if st + a ≤ j ∧ j < st + (i + 1) then by' else 0 := by
        intro j
        by_cases z : j = st + i
        · rw [z, up_s, hd, if_pos (show st + a ≤ st + i ∧ st + i < st + (i + 1) by omega)]
        · rw [up_n _ _ _ z, d j]
          have : (st + a ≤ j ∧ j < st + i) ↔ (st + a ≤ j ∧ j < st + (i + 1)) := by omega
          simp only [this]
      have hst : 0 ≤ st ∧ st ≤ 2500 := by omega
      have e1 := ds32 hst bi
      have e2 := dv32 hv1 hb
      have e3 := dn32 bi
      rw [← e1] at hix
      refine sound ok_Duel_addSpan [15] 40 ?_
      refine ⟨fun z => absurd z hc, fun _ => ?_⟩
      refine ⟨hix, ?_⟩
      refine ⟨hix, ?_⟩
      have go := ih (up S1 119 (st + i) (S1 119 (st + i) + by')) ⟨h1, hF.up _ _ _ rfl, hnew⟩
      rw [← e2, ← e1] at go
      exact Smm.sub go ⟨Or.inr rfl, Or.inr rfl, Or.inr rfl, Or.inr rfl, Or.inr rfl, Or.inr rfl, Or.inr (sI e3), trivial⟩
  have go := loop a S ⟨⟨Int.le_refl _, Or.inr rfl⟩, Fr.rf _ _ _, fun j => by rw [if_neg (by omega), Int.add_zero]⟩
  refine sound ok_Duel_addSpan [15] 20 ?_
  rw [← ha, ← hb2] at go
  exact go
set_option maxHeartbeats 2000000 in
theorem t_dSpan_d2 (S : St) (st lo hi by' : Int) (Q : Option AV → St → Prop) (hs : 0 ≤ st ∧ st + 10 ≤ 2500) (hv : ∀ j, st ≤ j → j ≤ st + 9 → -1000000 ≤ S 120 j ∧ S 120 j ≤ 1000000) (hb : -100000 ≤ by' ∧ by' ≤ 100000) (hQ : ∀ S', Fr [120] [] S S' → (∀ j, S' 120 j = S 120 j + if st + max lo 0 ≤ j ∧ j ≤ st + min hi 9 then by' else 0) → Q none S') : Smm H_Duel_addSpan 0 [some (.inr (.inr 120)), some (.inl st), some (.inl lo), some (.inl hi), some (.inl by'), none, none] [] S Q := by
  obtain ⟨a, ha⟩ : ∃ a, max lo 0 = a := ⟨_, rfl⟩
  obtain ⟨b, hb2⟩ : ∃ b, min hi 9 = b := ⟨_, rfl⟩
  rw [ha, hb2] at hQ
  have a0 : 0 ≤ a := by omega
  have b9 : b ≤ 9 := by omega
  have loop : ∀ (i : Int) (S1 : St), ((a ≤ i ∧ (i ≤ b + 1 ∨ i = a)) ∧ Fr [120] [] S S1 ∧ ∀ j, S1 120 j = S 120 j + if st + a ≤ j ∧ j < st + i then by' else 0) → Smm H_Duel_addSpan 15 [some (.inr (.inr 120)), some (.inl st), some (.inl lo), some (.inl hi), some (.inl by'), some (.inl b), some (.inl i)] [] S1 Q := by
    refine lp_up (P := fun i S1 => Smm H_Duel_addSpan 15 [some (.inr (.inr 120)), some (.inl st), some (.inl lo), some (.inl hi), some (.inl by'), some (.inl b), some (.inl i)] [] S1 Q) _ (b + 1) ?_ ?_
    · rintro i S1 hi1 ⟨hi2, hF, d⟩
      refine sound ok_Duel_addSpan [15] 20 ?_
      refine ⟨fun _ => hQ S1 hF (fun j => ?_), fun z => absurd z (by omega)⟩
      rw [d j]
      have : (st + a ≤ j ∧ j < st + i) ↔ (st + a ≤ j ∧ j ≤ st + b) := by omega
      simp only [this]
    · rintro i S1 hi1 ⟨hi2, hF, d⟩ ih
      have bi : 0 ≤ i ∧ i ≤ 9 := by omega
      have hc : ¬ b < i := by omega
      have hix : 0 ≤ st + i ∧ st + i < 2500 := by omega
      have hv1 := hv (st + i) (by omega) (by omega)
      have hd := d (st + i)
      rw [if_neg (show ¬ (st + a ≤ st + i ∧ st + i < st + i) by omega), Int.add_zero] at hd
      rw [← hd] at hv1
      have h1 : a ≤ i + 1 ∧ (i + 1 ≤ b + 1 ∨ i + 1 = a) := by omega
      have hnew : ∀ j, up S1 120 (st + i) (S1 120 (st + i) + by') 120 j = S 120 j + if st + a ≤ j ∧ j < st + (i + 1) then by' else 0 := by
        intro j
        by_cases z : j = st + i
        · rw [z, up_s, hd, if_pos (show st + a ≤ st + i ∧ st + i < st + (i + 1) by omega)]
        · rw [up_n _ _ _ z, d j]
          have : (st + a ≤ j ∧ j < st + i) ↔ (st + a ≤ j ∧ j < st + (i + 1)) := by omega
          simp only [this]
      have hst : 0 ≤ st ∧ st ≤ 2500 := by omega
      have e1 := ds32 hst bi
      have e2 := dv32 hv1 hb
      have e3 := dn32 bi
      rw [← e1] at hix
      refine sound ok_Duel_addSpan [15] 40 ?_
      refine ⟨fun z => absurd z hc, fun _ => ?_⟩
      refine ⟨hix, ?_⟩
      refine ⟨hix, ?_⟩
      have go := ih (up S1 120 (st + i) (S1 120 (st + i) + by')) ⟨h1, hF.up _ _ _ rfl, hnew⟩
      rw [← e2, ← e1] at go
      exact Smm.sub go ⟨Or.inr rfl, Or.inr rfl, Or.inr rfl, Or.inr rfl, Or.inr rfl, Or.inr rfl, Or.inr (sI e3), trivial⟩
  have go := loop a S ⟨⟨Int.le_refl _, Or.inr rfl⟩, Fr.rf _ _ _, fun j => by rw [if_neg (by omega), Int.add_zero]⟩
  refine sound ok_Duel_addSpan [15] 20 ?_
  rw [← ha, ← hb2] at go
  exact go
