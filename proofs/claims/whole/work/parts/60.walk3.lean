/-! the walk: the signs that are needed -/
/-- signs as bits: those asked or used that are ever there, and those ahead of them -/
def ndI (T S : St) (a : Nat) (y : Nat) : Prop := y < 32 ∧ (∀ s : Nat, (s : Int) < T 0 20 → y.testBit s = true → 0 ≤ T 12 s → y.testBit (T 12 s).toNat = true) ∧ ∀ s : Nat, (s : Int) < T 0 20 → (a.testBit s = true ∨ ∃ g, (0 ≤ g ∧ g < T 0 19) ∧ usB T S g s) → ¬ smM T (fun _ => 0) s = 1000000 → y.testBit s = true
theorem ior32 {a b : Nat} (ha : a < 32) (hb : b < 32) : ior (a : Int) (b : Int) = ((a ||| b : Nat) : Int) ∧ a ||| b < 32 := ⟨ior_nat (by omega) (by omega), Nat.or_lt_two_pow (n := 5) ha hb⟩
theorem pw32 {k : Nat} (h : k < 5) : 2 ^ k < 32 := by
  have : 2 ^ k ≤ 2 ^ 4 := Nat.pow_le_pow_right (by omega) (by omega)
  omega
theorem ofz {T : St} (hT : mOk T) : ofOk (T 0 20) (fun _ => 0) := fun i _ _ => ⟨show (-3 : Int) ≤ 0 by decide, show (0 : Int) ≤ 3 by decide⟩
/-- where one is there, the one ahead of it is -/
theorem sm_ahead {T : St} (hT : mOk T) {f : Int → Int} {s : Int} (h0 : 0 ≤ s) (h1 : s < T 0 20) (h : ¬ smM T f s = 1000000) (hb : 0 ≤ T 12 s) : ¬ smM T f (T 12 s) = 1000000 := by
  intro z
  refine h ?_
  rw [sm_at hT h0 h1]
  unfold sgv sgb
  rw [if_neg (show ¬ T 12 s < 0 by omega)]
  unfold hdM
  rw [if_pos (Or.inr z), if_pos (Or.inl rfl)]
set_option maxHeartbeats 2000000 in
theorem t_needed_l (T S : St) (a : Nat) (Q : Option AV → St → Prop) (hT : mOk T) (hW : wkI_l T S (fun _ => 0)) (ha : a < 32) (hQ : ∀ y : Nat, ndI T S a y → Q (some (.inl (y : Int))) S) : Smm H_Walk_neededSigns 0 [some (.inr (.inr 95)), some (.inl (a : Int)), none, none, none] [] S Q := by
  have hn5 := hT.1.1
  have hk4 := hT.2.1
  obtain ⟨hB, hoff, hat, hrest, htn⟩ := hW
  have w1 : S 95 1 = 0 := hB.1
  have w2 : S 63 0 = T 0 19 := hB.2.1.1.1
  have w3 : S 63 1 = T 0 20 := hB.2.1.1.2.1
  have hbeh : ∀ s, 0 ≤ s → s < T 0 20 → S 68 s = T 12 s := fun s s0 s1 => (hB.2.1.2.1 s s0 s1).2.2.1
  have hbd := sm_bd hT (ofz hT)
  -- down the signs
  have down : ∀ (i : Int) (q : Nat × Nat), ((-1 ≤ i ∧ i < T 0 20) ∧ q.1 < 32 ∧ q.2 < 32 ∧ (∀ s : Nat, (s : Int) ≤ i → (a.testBit s = true ∨ ∃ g, (0 ≤ g ∧ g < T 0 19) ∧ usB T S g s) → q.1.testBit s = true) ∧ (∀ s : Nat, i < s → (s : Int) < T 0 20 → (a.testBit s = true ∨ ∃ g, (0 ≤ g ∧ g < T 0 19) ∧ usB T S g s) → ¬ smM T (fun _ => 0) s = 1000000 → q.2.testBit s = true) ∧ (∀ s : Nat, (s : Int) < T 0 20 → q.2.testBit s = true → i < s ∧ (0 ≤ T 12 s → (T 12 s ≤ i → q.1.testBit (T 12 s).toNat = true ∧ ¬ smM T (fun _ => 0) (T 12 s) = 1000000) ∧ (i < T 12 s → q.2.testBit (T 12 s).toNat = true)))) → Smm H_Walk_neededSigns 43 [some (.inr (.inr 95)), some (.inl (a : Int)), some (.inl (q.1 : Int)), some (.inl (q.2 : Int)), some (.inl i)] [] S Q := by
    refine lp_dn (P := fun i (q : Nat × Nat) => Smm H_Walk_neededSigns 43 [some (.inr (.inr 95)), some (.inl (a : Int)), some (.inl (q.1 : Int)), some (.inl (q.2 : Int)), some (.inl i)] [] S Q) _ ?_ ?_
    · rintro i ⟨x, y⟩ hi ⟨hi2, d1, d2, d3, d4, d5⟩
      dsimp only at d1 d2 d3 d4 d5 ⊢
      refine sound ok_Walk_neededSigns [43] 20 ?_
      refine ⟨fun _ => hQ y ⟨d2, fun s s1 sy sb => ?_, fun s s1 so sn => d4 s (by omega) s1 so sn⟩, fun z => absurd z (by omega)⟩
      exact ((d5 s s1 sy).2 sb).2 (by omega)
    · rintro i ⟨x, y⟩ hi ⟨hi2, d1, d2, d3, d4, d5⟩ ih
      dsimp only at d1 d2 d3 d4 d5 ih ⊢
      obtain ⟨k, rfl⟩ : ∃ k : Nat, i = k := ⟨i.toNat, by omega⟩
      have bk : 0 ≤ (k : Int) ∧ (k : Int) < 5 := by omega
      have hk5 : k < 5 := by omega
      obtain ⟨b1, b2, b3, b4, b5, b6⟩ := hT.1.2.1 k (by omega) hi2.2
      have ev := hat k (by omega) hi2.2
      have hsb := hbd k (by omega) hi2.2
      have eb := hbeh k (by omega) hi2.2
      have e : (k : Int) - 1 = i32 ((k : Int) + -1) := (i32_id (by omega) (by omega)).symm
      have hbit : iand (ishr (x : Int) (k : Int)) 1 = ((x / 2 ^ k % 2 : Nat) : Int) := bit_nat (by omega) (by omega)
      -- not needed, or never there
      have skip : (x.testBit k = false ∨ smM T (fun _ => 0) k = 1000000) → Smm H_Walk_neededSigns 108 [some (.inr (.inr 95)), some (.inl (a : Int)), some (.inl (x : Int)), some (.inl (y : Int)), some (.inl (k : Int))] [] S Q := by
        intro hz
        refine sound ok_Walk_neededSigns [43] 20 ?_
        refine Smm.sub (ih (x, y) ⟨by clear e hbit; omega, d1, d2, fun s s1 so => d3 s (by clear e hbit; omega) so, fun s s0 s1 so sn => ?_, fun s s1 sy => ?_⟩) ⟨Or.inr rfl, Or.inr rfl, Or.inr rfl, Or.inr rfl, Or.inr (sI e), trivial⟩
        · by_cases hs : s = k
          · subst hs
            have := d3 s (Int.le_refl _) so
            rcases hz with z | z
            · rw [z] at this; exact absurd this (by decide)
            · exact absurd z sn
          · exact d4 s (by clear e hbit; omega) s1 so sn
        · obtain ⟨f1, f2⟩ := d5 s s1 sy
          refine ⟨by clear e hbit; omega, fun sb => ⟨fun h => (f2 sb).1 (by clear e hbit; omega), fun h => ?_⟩⟩
          by_cases hbk : T 12 s = k
          · obtain ⟨g1, g2⟩ := (f2 sb).1 (by clear e hbit; omega)
            rw [hbk] at g1 g2
            rw [show ((k : Int)).toNat = k from rfl] at g1
            rcases hz with z | z
            · rw [z] at g1; exact absurd g1 (by decide)
            · exact absurd z g2
          · exact (f2 sb).2 (by clear e hbit; omega)
      refine sound ok_Walk_neededSigns [43, 108] 60 ?_
      refine ⟨fun z => absurd z (by clear e hbit; omega), fun _ => ?_⟩
      refine ⟨fun z => skip (Or.inl ?_), fun z => ?_⟩
      · rw [hbit] at z
        rw [tb_div]
        have : x / 2 ^ k % 2 = 0 := Int.ofNat.inj z
        rw [this]; rfl
      · rw [hbit] at z
        have hxk : x.testBit k = true := by
          rw [tb_div]
          have h1 : ¬ x / 2 ^ k % 2 = 0 := fun y => z (by rw [y]; rfl)
          have h2 : x / 2 ^ k % 2 = 1 := by clear e hbit; omega
          rw [h2]; rfl
        refine ⟨bk, ?_⟩
        refine ⟨fun g => skip (Or.inr ?_), fun g => ?_⟩
        · rw [ev] at g; clear e hbit; omega
        · rw [ev] at g
          have hnv : ¬ smM T (fun _ => 0) k = 1000000 := by clear e hbit; omega
          obtain ⟨o1, o2⟩ := ior32 d2 (pw32 hk5)
          have ey : ior (y : Int) (ishl 1 (k : Int)) = ((y ||| 2 ^ k : Nat) : Int) := by rw [ishl_nat (by clear e hbit; omega)]; exact o1
          have ty : ∀ s : Nat, (y ||| 2 ^ k).testBit s = (y.testBit s || decide (k = s)) := fun s => by rw [Nat.testBit_or, Nat.testBit_two_pow]
          have fin : ∀ x' : Nat, x' < 32 → (∀ s, x.testBit s = true → x'.testBit s = true) → (0 ≤ T 12 k → x'.testBit (T 12 k).toNat = true) → Smm H_Walk_neededSigns 43 [some (.inr (.inr 95)), some (.inl (a : Int)), some (.inl (x' : Int)), some (.inl ((y ||| 2 ^ k : Nat) : Int)), some (.inl ((k : Int) - 1))] [] S Q := by
            intro x' x1 x2 x3
            refine ih (x', y ||| 2 ^ k) ⟨by clear e hbit; omega, x1, o2, fun s s1 so => x2 s (d3 s (by clear e hbit; omega) so), fun s s0 s1 so sn => ?_, fun s s1 sy => ?_⟩
            · dsimp only
              rw [ty s]
              by_cases hs : k = s
              · simp [hs]
              · rw [d4 s (by clear e hbit; omega) s1 so sn]; rfl
            · dsimp only at sy ⊢
              rw [ty s] at sy
              by_cases hs : k = s
              · subst hs
                refine ⟨by clear e hbit; omega, fun sb => ⟨fun h => ⟨x3 sb, sm_ahead hT (by clear e hbit; omega) s1 hnv sb⟩, fun h => absurd h (by clear e hbit; omega)⟩⟩
              · have sy2 : y.testBit s = true := by simpa [hs] using sy
                obtain ⟨f1, f2⟩ := d5 s s1 sy2
                refine ⟨by clear e hbit; omega, fun sb => ⟨fun h => ?_, fun h => ?_⟩⟩
                · obtain ⟨g1, g2⟩ := (f2 sb).1 (by clear e hbit; omega)
                  exact ⟨x2 _ g1, g2⟩
                · rw [ty]
                  by_cases hbk : T 12 s = k
                  · rw [hbk]; simp
                  · rw [(f2 sb).2 (by clear e hbit; omega)]; rfl
          refine ⟨fun _ => ?_, fun z => absurd (w1.symm.trans z) (by decide)⟩
          refine ⟨bk, ?_⟩
          refine ⟨fun gb => ?_, fun gb => ?_⟩
          · rw [eb] at gb
            have hb5 : (T 12 k).toNat < 5 := by clear e hbit; omega
            obtain ⟨p1, p2⟩ := ior32 d1 (pw32 hb5)
            have ebk : ((T 12 k).toNat : Int) = T 12 k := by clear e hbit; omega
            have hb30 : (T 12 k).toNat ≤ 30 := by clear e hbit; omega
            have ex : ior (x : Int) (ishl 1 (S 68 k)) = ((x ||| 2 ^ (T 12 k).toNat : Nat) : Int) := by
              rw [eb, ← ebk, ishl_nat hb30]
              exact p1
            have f := fin (x ||| 2 ^ (T 12 k).toNat) p2 (fun s hs => by rw [Nat.testBit_or, hs]; rfl) (fun _ => by rw [Nat.testBit_or, Nat.testBit_two_pow]; simp)
            refine ⟨fun _ => ?_, fun z => absurd (w1.symm.trans z) (by decide)⟩
            refine ⟨bk, ?_⟩
            refine sound ok_Walk_neededSigns [43] 20 ?_
            exact Smm.sub f ⟨Or.inr rfl, Or.inr rfl, Or.inr (sI ex.symm), Or.inr (sI ey.symm), Or.inr (sI e), trivial⟩
          · rw [eb] at gb
            have ex : ior (x : Int) 0 = (x : Int) := by
              have := ior_nat (a := x) (b := 0) (by clear e hbit; omega) (by decide)
              rw [Nat.or_zero] at this
              exact this
            have f := fin x d1 (fun s hs => hs) (fun h => absurd h (by clear e hbit; omega))
            refine sound ok_Walk_neededSigns [43] 20 ?_
            exact Smm.sub f ⟨Or.inr rfl, Or.inr rfl, Or.inr (sI ex.symm), Or.inr (sI ey.symm), Or.inr (sI e), trivial⟩
  -- the guards
  have uses : ∀ (i : Int) (x : Nat), ((0 ≤ i ∧ i ≤ T 0 19) ∧ x < 32 ∧ ∀ s : Nat, (a.testBit s = true ∨ ∃ g, (0 ≤ g ∧ g < i) ∧ usB T S g s) → x.testBit s = true) → Smm H_Walk_neededSigns 4 [some (.inr (.inr 95)), some (.inl (a : Int)), some (.inl (x : Int)), some (.inl i), none] [] S Q := by
    refine lp_up (P := fun i (x : Nat) => Smm H_Walk_neededSigns 4 [some (.inr (.inr 95)), some (.inl (a : Int)), some (.inl (x : Int)), some (.inl i), none] [] S Q) _ (T 0 19) ?_ ?_
    · rintro i x hi ⟨hi2, d1, d2⟩
      have go := down (T 0 20 - 1) (x, 0) ⟨by omega, d1, by dsimp only; omega, fun s s1 so => d2 s ?_, fun s s0 s1 => absurd s0 (by omega), fun s s1 sy => absurd sy (by dsimp only; rw [Nat.zero_testBit]; decide)⟩
      · refine sound ok_Walk_neededSigns [43] 20 ?_
        refine ⟨fun _ => ?_, fun z => absurd (w1.symm.trans z) (by decide)⟩
        refine ⟨fun _ => ?_, fun z => absurd z (by rw [w2]; omega)⟩
        refine ⟨fun _ => ?_, fun z => absurd (w1.symm.trans z) (by decide)⟩
        exact Smm.sub go ⟨Or.inr rfl, Or.inr rfl, Or.inr rfl, Or.inr rfl, Or.inr (sI (by rw [w3]; unfold i32; omega)), trivial⟩
      · rcases so with z | ⟨g, g1, g2⟩
        · exact Or.inl z
        · exact Or.inr ⟨g, by omega, g2⟩
    · rintro i x hi ⟨hi2, d1, d2⟩ ih
      obtain ⟨u1, y, u2, u3, u4⟩ := hB.2.2.2 i hi2.1 hi
      have bi : 0 ≤ i ∧ i < 4 := by omega
      have hni : ¬ S 63 0 ≤ i := by rw [w2]; omega
      obtain ⟨o1, o2⟩ := ior32 d1 u3
      have e : i + 1 = i32 (i + 1) := (i32_id (by omega) (by omega)).symm
      have f := ih (x ||| y) ⟨⟨Int.le_add_one bi.1, hi⟩, o2, fun s so => ?_⟩
      · rw [← o1, ← u2] at f
        refine sound ok_Walk_neededSigns [4] 40 ?_
        refine ⟨fun _ => ?_, fun z => absurd (w1.symm.trans z) (by decide)⟩
        refine ⟨fun z => absurd z hni, fun _ => ?_⟩
        refine ⟨bi, ?_⟩
        exact Smm.sub f ⟨Or.inr rfl, Or.inr rfl, Or.inr rfl, Or.inr (sI e), Or.inl rfl, trivial⟩
      · rw [Nat.testBit_or]
        rcases so with z | ⟨g, g1, g2⟩
        · rw [d2 s (Or.inl z)]; rfl
        · by_cases hg : g = i
          · subst hg
            rw [(u4 s).mpr g2]; simp
          · rw [d2 s (Or.inr ⟨g, by clear e; omega, g2⟩)]; rfl
  refine sound ok_Walk_neededSigns [4] 20 ?_
  refine uses 0 a ⟨by omega, ha, fun s so => ?_⟩
  rcases so with z | ⟨g, g1, g2⟩
  · exact z
  · omega
set_option maxHeartbeats 2000000 in
theorem t_needed_o (T S : St) (a : Nat) (Q : Option AV → St → Prop) (hT : mOk T) (hW : wkI_o T S (fun _ => 0)) (ha : a < 32) (hQ : ∀ y : Nat, ndI T S a y → Q (some (.inl (y : Int))) S) : Smm H_Walk_neededSigns 0 [some (.inr (.inr 95)), some (.inl (a : Int)), none, none, none] [] S Q := by
  have hn5 := hT.1.1
  have hk4 := hT.2.1
  obtain ⟨hB, hoff, hat, hrest, htn⟩ := hW
  have w1 : S 95 1 = 1 := hB.1
  have w2 : S 71 0 = T 0 19 := hB.2.1.1.1
  have w3 : S 71 1 = T 0 20 := hB.2.1.1.2.1
  have hbeh : ∀ s, 0 ≤ s → s < T 0 20 → S 76 s = T 12 s := fun s s0 s1 => (hB.2.1.2.1 s s0 s1).2.2.1
  have hbd := sm_bd hT (ofz hT)
  -- down the signs
  have down : ∀ (i : Int) (q : Nat × Nat), ((-1 ≤ i ∧ i < T 0 20) ∧ q.1 < 32 ∧ q.2 < 32 ∧ (∀ s : Nat, (s : Int) ≤ i → (a.testBit s = true ∨ ∃ g, (0 ≤ g ∧ g < T 0 19) ∧ usB T S g s) → q.1.testBit s = true) ∧ (∀ s : Nat, i < s → (s : Int) < T 0 20 → (a.testBit s = true ∨ ∃ g, (0 ≤ g ∧ g < T 0 19) ∧ usB T S g s) → ¬ smM T (fun _ => 0) s = 1000000 → q.2.testBit s = true) ∧ (∀ s : Nat, (s : Int) < T 0 20 → q.2.testBit s = true → i < s ∧ (0 ≤ T 12 s → (T 12 s ≤ i → q.1.testBit (T 12 s).toNat = true ∧ ¬ smM T (fun _ => 0) (T 12 s) = 1000000) ∧ (i < T 12 s → q.2.testBit (T 12 s).toNat = true)))) → Smm H_Walk_neededSigns 43 [some (.inr (.inr 95)), some (.inl (a : Int)), some (.inl (q.1 : Int)), some (.inl (q.2 : Int)), some (.inl i)] [] S Q := by
    refine lp_dn (P := fun i (q : Nat × Nat) => Smm H_Walk_neededSigns 43 [some (.inr (.inr 95)), some (.inl (a : Int)), some (.inl (q.1 : Int)), some (.inl (q.2 : Int)), some (.inl i)] [] S Q) _ ?_ ?_
    · rintro i ⟨x, y⟩ hi ⟨hi2, d1, d2, d3, d4, d5⟩
      dsimp only at d1 d2 d3 d4 d5 ⊢
      refine sound ok_Walk_neededSigns [43] 20 ?_
      refine ⟨fun _ => hQ y ⟨d2, fun s s1 sy sb => ?_, fun s s1 so sn => d4 s (by omega) s1 so sn⟩, fun z => absurd z (by omega)⟩
      exact ((d5 s s1 sy).2 sb).2 (by omega)
    · rintro i ⟨x, y⟩ hi ⟨hi2, d1, d2, d3, d4, d5⟩ ih
      dsimp only at d1 d2 d3 d4 d5 ih ⊢
      obtain ⟨k, rfl⟩ : ∃ k : Nat, i = k := ⟨i.toNat, by omega⟩
      have bk : 0 ≤ (k : Int) ∧ (k : Int) < 5 := by omega
      have hk5 : k < 5 := by omega
      obtain ⟨b1, b2, b3, b4, b5, b6⟩ := hT.1.2.1 k (by omega) hi2.2
      have ev := hat k (by omega) hi2.2
      have hsb := hbd k (by omega) hi2.2
      have eb := hbeh k (by omega) hi2.2
      have e : (k : Int) - 1 = i32 ((k : Int) + -1) := (i32_id (by omega) (by omega)).symm
      have hbit : iand (ishr (x : Int) (k : Int)) 1 = ((x / 2 ^ k % 2 : Nat) : Int) := bit_nat (by omega) (by omega)
      -- not needed, or never there
      have skip : (x.testBit k = false ∨ smM T (fun _ => 0) k = 1000000) → Smm H_Walk_neededSigns 108 [some (.inr (.inr 95)), some (.inl (a : Int)), some (.inl (x : Int)), some (.inl (y : Int)), some (.inl (k : Int))] [] S Q := by
        intro hz
        refine sound ok_Walk_neededSigns [43] 20 ?_
        refine Smm.sub (ih (x, y) ⟨by clear e hbit; omega, d1, d2, fun s s1 so => d3 s (by clear e hbit; omega) so, fun s s0 s1 so sn => ?_, fun s s1 sy => ?_⟩) ⟨Or.inr rfl, Or.inr rfl, Or.inr rfl, Or.inr rfl, Or.inr (sI e), trivial⟩
        · by_cases hs : s = k
          · subst hs
            have := d3 s (Int.le_refl _) so
            rcases hz with z | z
            · rw [z] at this; exact absurd this (by decide)
            · exact absurd z sn
          · exact d4 s (by clear e hbit; omega) s1 so sn
        · obtain ⟨f1, f2⟩ := d5 s s1 sy
          refine ⟨by clear e hbit; omega, fun sb => ⟨fun h => (f2 sb).1 (by clear e hbit; omega), fun h => ?_⟩⟩
          by_cases hbk : T 12 s = k
          · obtain ⟨g1, g2⟩ := (f2 sb).1 (by clear e hbit; omega)
            rw [hbk] at g1 g2
            rw [show ((k : Int)).toNat = k from rfl] at g1
            rcases hz with z | z
            · rw [z] at g1; exact absurd g1 (by decide)
            · exact absurd z g2
          · exact (f2 sb).2 (by clear e hbit; omega)
      refine sound ok_Walk_neededSigns [43, 108] 60 ?_
      refine ⟨fun z => absurd z (by clear e hbit; omega), fun _ => ?_⟩
      refine ⟨fun z => skip (Or.inl ?_), fun z => ?_⟩
      · rw [hbit] at z
        rw [tb_div]
        have : x / 2 ^ k % 2 = 0 := Int.ofNat.inj z
        rw [this]; rfl
      · rw [hbit] at z
        have hxk : x.testBit k = true := by
          rw [tb_div]
          have h1 : ¬ x / 2 ^ k % 2 = 0 := fun y => z (by rw [y]; rfl)
          have h2 : x / 2 ^ k % 2 = 1 := by clear e hbit; omega
          rw [h2]; rfl
        refine ⟨bk, ?_⟩
        refine ⟨fun g => skip (Or.inr ?_), fun g => ?_⟩
        · rw [ev] at g; clear e hbit; omega
        · rw [ev] at g
          have hnv : ¬ smM T (fun _ => 0) k = 1000000 := by clear e hbit; omega
          obtain ⟨o1, o2⟩ := ior32 d2 (pw32 hk5)
          have ey : ior (y : Int) (ishl 1 (k : Int)) = ((y ||| 2 ^ k : Nat) : Int) := by rw [ishl_nat (by clear e hbit; omega)]; exact o1
          have ty : ∀ s : Nat, (y ||| 2 ^ k).testBit s = (y.testBit s || decide (k = s)) := fun s => by rw [Nat.testBit_or, Nat.testBit_two_pow]
          have fin : ∀ x' : Nat, x' < 32 → (∀ s, x.testBit s = true → x'.testBit s = true) → (0 ≤ T 12 k → x'.testBit (T 12 k).toNat = true) → Smm H_Walk_neededSigns 43 [some (.inr (.inr 95)), some (.inl (a : Int)), some (.inl (x' : Int)), some (.inl ((y ||| 2 ^ k : Nat) : Int)), some (.inl ((k : Int) - 1))] [] S Q := by
            intro x' x1 x2 x3
            refine ih (x', y ||| 2 ^ k) ⟨by clear e hbit; omega, x1, o2, fun s s1 so => x2 s (d3 s (by clear e hbit; omega) so), fun s s0 s1 so sn => ?_, fun s s1 sy => ?_⟩
            · dsimp only
              rw [ty s]
              by_cases hs : k = s
              · simp [hs]
              · rw [d4 s (by clear e hbit; omega) s1 so sn]; rfl
            · dsimp only at sy ⊢
              rw [ty s] at sy
              by_cases hs : k = s
              · subst hs
                refine ⟨by clear e hbit; omega, fun sb => ⟨fun h => ⟨x3 sb, sm_ahead hT (by clear e hbit; omega) s1 hnv sb⟩, fun h => absurd h (by clear e hbit; omega)⟩⟩
              · have sy2 : y.testBit s = true := by simpa [hs] using sy
                obtain ⟨f1, f2⟩ := d5 s s1 sy2
                refine ⟨by clear e hbit; omega, fun sb => ⟨fun h => ?_, fun h => ?_⟩⟩
                · obtain ⟨g1, g2⟩ := (f2 sb).1 (by clear e hbit; omega)
                  exact ⟨x2 _ g1, g2⟩
                · rw [ty]
                  by_cases hbk : T 12 s = k
                  · rw [hbk]; simp
                  · rw [(f2 sb).2 (by clear e hbit; omega)]; rfl
          refine ⟨fun z => absurd (w1.symm.trans z) (by decide), fun _ => ?_⟩
          refine ⟨bk, ?_⟩
          refine ⟨fun gb => ?_, fun gb => ?_⟩
          · rw [eb] at gb
            have hb5 : (T 12 k).toNat < 5 := by clear e hbit; omega
            obtain ⟨p1, p2⟩ := ior32 d1 (pw32 hb5)
            have ebk : ((T 12 k).toNat : Int) = T 12 k := by clear e hbit; omega
            have hb30 : (T 12 k).toNat ≤ 30 := by clear e hbit; omega
            have ex : ior (x : Int) (ishl 1 (S 76 k)) = ((x ||| 2 ^ (T 12 k).toNat : Nat) : Int) := by
              rw [eb, ← ebk, ishl_nat hb30]
              exact p1
            have f := fin (x ||| 2 ^ (T 12 k).toNat) p2 (fun s hs => by rw [Nat.testBit_or, hs]; rfl) (fun _ => by rw [Nat.testBit_or, Nat.testBit_two_pow]; simp)
            refine ⟨fun z => absurd (w1.symm.trans z) (by decide), fun _ => ?_⟩
            refine ⟨bk, ?_⟩
            refine sound ok_Walk_neededSigns [43] 20 ?_
            exact Smm.sub f ⟨Or.inr rfl, Or.inr rfl, Or.inr (sI ex.symm), Or.inr (sI ey.symm), Or.inr (sI e), trivial⟩
          · rw [eb] at gb
            have ex : ior (x : Int) 0 = (x : Int) := by
              have := ior_nat (a := x) (b := 0) (by clear e hbit; omega) (by decide)
              rw [Nat.or_zero] at this
              exact this
            have f := fin x d1 (fun s hs => hs) (fun h => absurd h (by clear e hbit; omega))
            refine sound ok_Walk_neededSigns [43] 20 ?_
            exact Smm.sub f ⟨Or.inr rfl, Or.inr rfl, Or.inr (sI ex.symm), Or.inr (sI ey.symm), Or.inr (sI e), trivial⟩
  -- the guards
  have uses : ∀ (i : Int) (x : Nat), ((0 ≤ i ∧ i ≤ T 0 19) ∧ x < 32 ∧ ∀ s : Nat, (a.testBit s = true ∨ ∃ g, (0 ≤ g ∧ g < i) ∧ usB T S g s) → x.testBit s = true) → Smm H_Walk_neededSigns 4 [some (.inr (.inr 95)), some (.inl (a : Int)), some (.inl (x : Int)), some (.inl i), none] [] S Q := by
    refine lp_up (P := fun i (x : Nat) => Smm H_Walk_neededSigns 4 [some (.inr (.inr 95)), some (.inl (a : Int)), some (.inl (x : Int)), some (.inl i), none] [] S Q) _ (T 0 19) ?_ ?_
    · rintro i x hi ⟨hi2, d1, d2⟩
      have go := down (T 0 20 - 1) (x, 0) ⟨by omega, d1, by dsimp only; omega, fun s s1 so => d2 s ?_, fun s s0 s1 => absurd s0 (by omega), fun s s1 sy => absurd sy (by dsimp only; rw [Nat.zero_testBit]; decide)⟩
      · refine sound ok_Walk_neededSigns [43] 20 ?_
        refine ⟨fun z => absurd (w1.symm.trans z) (by decide), fun _ => ?_⟩
        refine ⟨fun _ => ?_, fun z => absurd z (by rw [w2]; omega)⟩
        refine ⟨fun z => absurd (w1.symm.trans z) (by decide), fun _ => ?_⟩
        exact Smm.sub go ⟨Or.inr rfl, Or.inr rfl, Or.inr rfl, Or.inr rfl, Or.inr (sI (by rw [w3]; unfold i32; omega)), trivial⟩
      · rcases so with z | ⟨g, g1, g2⟩
        · exact Or.inl z
        · exact Or.inr ⟨g, by omega, g2⟩
    · rintro i x hi ⟨hi2, d1, d2⟩ ih
      obtain ⟨u1, y, u2, u3, u4⟩ := hB.2.2.2 i hi2.1 hi
      have bi : 0 ≤ i ∧ i < 4 := by omega
      have hni : ¬ S 71 0 ≤ i := by rw [w2]; omega
      obtain ⟨o1, o2⟩ := ior32 d1 u3
      have e : i + 1 = i32 (i + 1) := (i32_id (by omega) (by omega)).symm
      have f := ih (x ||| y) ⟨⟨Int.le_add_one bi.1, hi⟩, o2, fun s so => ?_⟩
      · rw [← o1, ← u2] at f
        refine sound ok_Walk_neededSigns [4] 40 ?_
        refine ⟨fun z => absurd (w1.symm.trans z) (by decide), fun _ => ?_⟩
        refine ⟨fun z => absurd z hni, fun _ => ?_⟩
        refine ⟨bi, ?_⟩
        exact Smm.sub f ⟨Or.inr rfl, Or.inr rfl, Or.inr rfl, Or.inr (sI e), Or.inl rfl, trivial⟩
      · rw [Nat.testBit_or]
        rcases so with z | ⟨g, g1, g2⟩
        · rw [d2 s (Or.inl z)]; rfl
        · by_cases hg : g = i
          · subst hg
            rw [(u4 s).mpr g2]; simp
          · rw [d2 s (Or.inr ⟨g, by clear e; omega, g2⟩)]; rfl
  refine sound ok_Walk_neededSigns [4] 20 ?_
  refine uses 0 a ⟨by omega, ha, fun s so => ?_⟩
  rcases so with z | ⟨g, g1, g2⟩
  · exact z
  · omega
