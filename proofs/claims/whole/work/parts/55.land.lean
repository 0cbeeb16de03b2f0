/-! lands of the class -/
def dl (x : Int) : Int := if x < 0 then 2000000 else x
/-- a land of the class is what the reference tries in T -/
def lrI (c ce cb cs cp cd cz ct : Nat) (T S : St) : Prop := (S c 0 = T 0 19 ∧ S c 1 = T 0 20 ∧ S c 4 = T 0 21 ∧ S c 5 = T 0 22 ∧ S c 7 = T 0 38) ∧ (∀ s, 0 ≤ s → s < T 0 20 → S cp s = T 17 s ∧ S ce s = T 18 s ∧ S cb s = T 12 s ∧ S cs s = T 13 s) ∧ (∀ j, 0 ≤ j → j < 20 → S cd j = dl (T 19 j)) ∧ (∀ g, 0 ≤ g → g < T 0 19 → S cz g = T 7 g ∧ S ct g = T 8 g)
theorem iand1_01 (a : Int) : iand a 1 = 0 ∨ iand a 1 = 1 := by
  have e : iand a 1 = ((Int32.ofInt a).toBitVec &&& 1#32).toInt := rfl
  have hn : ((Int32.ofInt a).toBitVec &&& 1#32).toNat = (Int32.ofInt a).toBitVec.toNat % 2 := by
    rw [BitVec.toNat_and]
    show (Int32.ofInt a).toBitVec.toNat &&& 1 = _
    rw [Nat.and_one_is_mod]
  rw [e, toInt_nat hn (by omega)]
  omega
theorem dl_b {x : Int} (h : -1 ≤ x ∧ x ≤ 9) : 0 ≤ dl x ∧ dl x ≤ 2000000 := by unfold dl; split <;> omega
/-- what is heard, by the class's numbers -/
theorem dl_hear {al f : Int → Int} {g s : Int} (hf : f s = 1000000 ∨ (-500 ≤ f s ∧ f s ≤ 500)) (hl : -1 ≤ al (5 * g + s) ∧ al (5 * g + s) ≤ 9) : min 1000000 (f s + dl (al (5 * g + s))) = hdM al f g s ∧ (1000000 ≤ f s + dl (al (5 * g + s)) ↔ hdM al f g s = 1000000) ∧ (¬ hdM al f g s = 1000000 → f s + dl (al (5 * g + s)) = hdM al f g s) := by
  unfold hdM dl
  by_cases h1 : al (5 * g + s) < 0
  · rw [if_pos h1, if_pos (Or.inl h1)]
    omega
  · rw [if_neg h1]
    by_cases h2 : f s = 1000000
    · rw [if_pos (Or.inr h2)]
      omega
    · rw [if_neg (fun z => z.elim h1 h2)]
      omega
theorem tm32 {a b c : Int} (ha : -2000 ≤ a ∧ a ≤ 2000) (hb : -9 ≤ b ∧ b ≤ 68) (hc : -3 ≤ c ∧ c ≤ 3) : i32 (i32 (a + b) + c) = a + b + c := by
  rw [i32_id (v := a + b) (by omega) (by omega)]; exact i32_id (by omega) (by omega)
theorem g5x {g s : Int} (hg : 0 ≤ g ∧ g < 4) (hs : 0 ≤ s ∧ s < 5) : i32 (i32 (g * 5) + s) = 5 * g + s ∧ 0 ≤ 5 * g + s ∧ 5 * g + s < 20 := by
  rw [i32_id (v := g * 5) (by omega) (by omega)]
  refine ⟨?_, by omega, by omega⟩
  rw [i32_id (by omega) (by omega)]; omega
theorem ad32 {a b : Int} (ha : -5000 ≤ a ∧ a ≤ 1000000) (hb : 0 ≤ b ∧ b ≤ 2000000) : i32 (a + b) = a + b := i32_id (by omega) (by omega)
abbrev lr_l (T S : St) : Prop := lrI 63 67 68 69 66 70 64 65 T S
theorem t_timeOf_l (T S : St) (s off : Int) (f : Int → Int) (Q : Option AV → St → Prop) (hT : mOk T) (hR : lr_l T S) (hs : 0 ≤ s ∧ s < T 0 20) (ho : -3 ≤ off ∧ off ≤ 3) (hf : ∀ j, 0 ≤ j → j < s → S 100 j = f j ∧ (f j = 1000000 ∨ (-500 ≤ f j ∧ f j ≤ 500))) (hQ : Q (some (.inl (sgv (T 12) (T 13) (T 17) (T 19) (T 0 38) (fun _ => off) f s))) S) : Smm H_Land_timeOf 0 [some (.inr (.inr 63)), some (.inl s), some (.inr (.inr 100)), some (.inl off), none, none, none] [] S Q := by
  obtain ⟨⟨k1, k2, k3, k4, k5⟩, hsg, hdl, hpt⟩ := hR
  obtain ⟨p1, p2, p3, p4⟩ := hsg s hs.1 hs.2
  obtain ⟨b1, b2, b3, b4, b5, b6⟩ := hT.1.2.1 s hs.1 hs.2
  have hn5 := hT.1.1
  have s5 : 0 ≤ s ∧ s < 5 := by omega
  unfold sgv at hQ
  have rest : ∀ st : Int, (1000000 ≤ st ∧ sgb (T 12) (T 13) (T 19) f s = 1000000 ∨ (st = sgb (T 12) (T 13) (T 19) f s ∧ -2000 ≤ st ∧ st ≤ 2000)) → Smm H_Land_timeOf 38 [some (.inr (.inr 63)), some (.inl s), some (.inr (.inr 100)), some (.inl off), some (.inl (T 12 s)), none, none] [.inl st] S Q := by
    intro st hst
    have e5 : S 63 7 = T 0 38 := k5
    refine sound ok_Land_timeOf [] 60 ?_
    refine ⟨fun g1 => ?_, fun g1 => ?_⟩
    · have h1 : sgb (T 12) (T 13) (T 19) f s = 1000000 := by
        rcases hst with z | z
        · exact z.2
        · omega
      rw [if_pos (Or.inl h1)] at hQ
      exact ⟨fun z => absurd z (by decide), fun _ => hQ⟩
    · have h1 := hst.resolve_left (fun z => absurd z.1 (by omega))
      have h2 : ¬ sgb (T 12) (T 13) (T 19) f s = 1000000 := by omega
      have tm := tm32 h1.2 (show -9 ≤ T 17 s ∧ T 17 s ≤ 68 from ⟨b5, b6⟩) ho
      refine ⟨fun g2 => ?_, fun g2 => ?_⟩
      · rw [e5] at g2
        rw [if_neg (fun z => z.elim h2 (fun y => absurd (g2.symm.trans y) (by decide))), ← h1.1, ← tm, ← p1] at hQ
        refine ⟨fun _ => ?_, fun z => absurd rfl z⟩
        exact ⟨s5, hQ⟩
      · rw [e5] at g2
        rw [if_pos (Or.inr ((iand1_01 _).resolve_left g2))] at hQ
        exact ⟨fun z => absurd z (by decide), fun _ => hQ⟩
  refine sound ok_Land_timeOf [38] 60 ?_
  refine ⟨s5, ?_⟩
  refine ⟨fun g => ?_, fun g => ?_⟩
  · rw [p3] at g
    obtain ⟨f1, f2⟩ := hf (T 12 s) g b2
    have hl := hT.1.2.2 (5 * T 13 s + T 12 s) (by omega) (by omega)
    obtain ⟨y1, y2, y3⟩ := dl_hear (al := T 19) (f := f) (g := T 13 s) (s := T 12 s) f2 hl
    have hd := dl_b hl
    have bb : 0 ≤ T 12 s ∧ T 12 s < 5 := by omega
    obtain ⟨g1, g2⟩ := g5x (g := T 13 s) (s := T 12 s) (by omega) bb
    have sg : sgb (T 12) (T 13) (T 19) f s = hdM (T 19) f (T 13 s) (T 12 s) := by unfold sgb; rw [if_neg (by omega)]
    have fin := rest (f (T 12 s) + dl (T 19 (5 * T 13 s + T 12 s))) (by
      rw [sg]
      by_cases z : hdM (T 19) f (T 13 s) (T 12 s) = 1000000
      · exact Or.inl ⟨y2.mpr z, z⟩
      · refine Or.inr ⟨y3 z, ?_⟩
        have q := y3 z
        have hb := hdM_b (al := T 19) (f := f) (g := T 13 s) (s := T 12 s) (b := 500) (by omega) f2 hl
        omega)
    have ea : i32 (f (T 12 s) + dl (T 19 (5 * T 13 s + T 12 s))) = f (T 12 s) + dl (T 19 (5 * T 13 s + T 12 s)) := ad32 (by omega) hd
    have ed := hdl _ g2.1 g2.2
    rw [← p4] at g1
    refine ⟨by rw [p3]; exact bb, ?_⟩
    refine ⟨s5, ?_⟩
    rw [← p3] at g1
    refine ⟨by rw [g1, p3, p4]; exact g2, ?_⟩
    rw [← ea, ← f1, ← ed] at fin
    rw [p3, p4] at g1
    have e9 : S 100 (S 68 s) + S 70 (i32 (i32 (S 69 s * 5) + S 68 s)) = S 100 (T 12 s) + S 70 (5 * T 13 s + T 12 s) := by rw [p3, p4, g1]
    rw [← e9] at fin
    rw [← p3] at fin
    exact fin
  · rw [p3] at g
    have fin := rest 0 (Or.inr ⟨by unfold sgb; rw [if_pos g], by decide, by decide⟩)
    rw [← p3] at fin
    exact fin
/-- who hears what, as bits -/
theorem t_heardBy_l (T S : St) (g : Int) (Q : Option AV → St → Prop) (hT : mOk T) (hR : lr_l T S) (hg : 0 ≤ g ∧ g < 4) (hQ : Q (some (.inl (bitF (fun s => decide (0 ≤ T 19 (5 * g + s))) (T 0 20).toNat))) S) : Smm H_Land_heardBy 0 [some (.inr (.inr 63)), some (.inl g), none, none] [] S Q := by
  obtain ⟨⟨k1, k2, k3, k4, k5⟩, hsg, hdl, hpt⟩ := hR
  have hn5 := hT.1.1
  have loop : ∀ (i : Int) (_ : Unit), (0 ≤ i ∧ i ≤ T 0 20) → Smm H_Land_heardBy 4 [some (.inr (.inr 63)), some (.inl g), some (.inl (bitF (fun s => decide (0 ≤ T 19 (5 * g + s))) i.toNat)), some (.inl i)] [] S Q := by
    refine lp_up (P := fun i _ => Smm H_Land_heardBy 4 [some (.inr (.inr 63)), some (.inl g), some (.inl (bitF (fun s => decide (0 ≤ T 19 (5 * g + s))) i.toNat)), some (.inl i)] [] S Q) (fun i _ => 0 ≤ i ∧ i ≤ T 0 20) (T 0 20) ?_ ?_
    · rintro i - hi hi2
      refine sound ok_Land_heardBy [4] 20 ?_
      refine ⟨fun _ => ?_, fun z => absurd z (by rw [k2]; omega)⟩
      rw [show i = T 0 20 by omega]
      exact hQ
    · rintro i - hi hi2 ih
      obtain ⟨k, rfl⟩ : ∃ k : Nat, i = k := ⟨i.toNat, by omega⟩
      have ih := ih () (by omega)
      rw [show ((k : Int) + 1).toNat = k + 1 by omega, bitF] at ih
      rw [show ((k : Int)).toNat = k by omega]
      have hk : ¬ S 63 1 ≤ (k : Int) := by rw [k2]; omega
      obtain ⟨g1, g2⟩ := g5x (g := g) (s := (k : Int)) hg (by omega)
      have hv := hdl _ g2.1 g2.2
      have hl := hT.1.2.2 _ g2.1 g2.2
      have e : (k : Int) + 1 = i32 ((k : Int) + 1) := i32_s' (by omega)
      refine sound ok_Land_heardBy [4] 40 ?_
      refine ⟨fun z => absurd z hk, fun _ => ?_⟩
      refine ⟨by rw [g1]; exact g2, ?_⟩
      refine ⟨fun z => ?_, fun z => ?_⟩
      · rw [g1, hv] at z
        unfold dl at z
        have hz : ¬ 0 ≤ T 19 (5 * g + k) := fun y => by
          rw [if_neg (Int.not_lt.mpr y)] at z
          clear g1 e
          omega
        rw [if_neg (by simpa using hz)] at ih
        exact Smm.sub ih ⟨Or.inr rfl, Or.inr rfl, Or.inr rfl, Or.inr (sI e), trivial⟩
      · rw [g1, hv] at z
        have hz : 0 ≤ T 19 (5 * g + k) := by
          by_cases y : T 19 (5 * g + k) < 0
          · exact absurd (by unfold dl; rw [if_pos y]) z
          · exact Int.not_lt.mp y
        rw [if_pos (by simpa using hz)] at ih
        exact Smm.sub ih ⟨Or.inr rfl, Or.inr rfl, Or.inr rfl, Or.inr (sI e), trivial⟩
  refine sound ok_Land_heardBy [4] 20 ?_
  exact loop 0 () (by omega)
theorem t_allWays_l (T S : St) (Q : Option AV → St → Prop) (hT : mAs T) (hR : lr_l T S) (hQ : Q (some (.inl (lenM T))) S) : Smm H_Land_allWays 0 [some (.inr (.inr 63)), none, none] [] S Q := by
  obtain ⟨⟨k1, k2, k3, k4, k5⟩, hsg, hdl, hpt⟩ := hR
  have hn := hT.1.1.1
  have loop : ∀ (i : Int) (_ : Unit), (0 ≤ i ∧ i ≤ T 0 20) → Smm H_Land_allWays 4 [some (.inr (.inr 63)), some (.inl ((wyF (T 18) i.toNat).length : Int)), some (.inl i)] [] S Q := by
    refine lp_up (P := fun i _ => Smm H_Land_allWays 4 [some (.inr (.inr 63)), some (.inl ((wyF (T 18) i.toNat).length : Int)), some (.inl i)] [] S Q) (fun i _ => 0 ≤ i ∧ i ≤ T 0 20) (T 0 20) ?_ ?_
    · rintro i - hi hi2
      refine sound ok_Land_allWays [4] 20 ?_
      refine ⟨fun _ => ?_, fun h3 => absurd h3 (by rw [k2]; omega)⟩
      have e : i = T 0 20 := by omega
      subst e
      exact hQ
    · rintro i - hi hi2 ih
      obtain ⟨k, rfl⟩ : ∃ k : Nat, i = k := ⟨i.toNat, by omega⟩
      have ih := ih () (by omega)
      rw [show ((k : Int) + 1).toNat = k + 1 by omega, wy_lenS] at ih
      have hl := wy_len (err := T 18) k (fun j hj => hT.2.2 j (by omega) (by omega))
      have he := hT.2.2 k (by omega) hi
      have h7 : 7 ^ k ≤ 7 ^ 5 := Nat.pow_le_pow_right (by omega) (by omega)
      have h75 : 7 ^ 5 = 16807 := rfl
      have hk : ¬ S 63 1 ≤ (k : Int) := by rw [k2]; omega
      have hk5 : 0 ≤ (k : Int) ∧ (k : Int) < 5 := by omega
      have pe := (hsg k (by omega) hi).2.1
      refine sound ok_Land_allWays [4] 40 ?_
      refine ⟨fun h3 => absurd h3 hk, fun _ => ?_⟩
      refine ⟨hk5, ?_⟩
      refine Smm.sub ih ⟨Or.inr rfl, Or.inr (sI ?_), Or.inr (sI (by unfold i32; omega)), trivial⟩
      rw [show ((k : Int)).toNat = k by omega, pe]
      have e1 : i32 (i32 (2 * T 18 k) + 1) = 2 * T 18 k + 1 := by unfold i32; omega
      rw [e1]
      have e2 : ((2 * T 18 k + 1).toNat : Int) = 2 * T 18 k + 1 := by omega
      have hm : (wyF (T 18) k).length * (2 * T 18 k + 1).toNat ≤ 16807 * 7 := Nat.mul_le_mul (by omega) (by omega)
      have e3 : (((wyF (T 18) k).length * (2 * T 18 k + 1).toNat : Nat) : Int) = ((wyF (T 18) k).length : Int) * (2 * T 18 k + 1) := by rw [Int.natCast_mul, e2]
      rw [← e3]
      clear e1 e2 e3
      generalize (wyF (T 18) k).length * (2 * T 18 k + 1).toNat = z at hm ⊢
      unfold i32
      omega
  refine sound ok_Land_allWays [4] 20 ?_
  exact loop 0 () (by omega)
abbrev lr_o (T S : St) : Prop := lrI 71 75 76 77 74 78 72 73 T S
theorem t_timeOf_o (T S : St) (s off : Int) (f : Int → Int) (Q : Option AV → St → Prop) (hT : mOk T) (hR : lr_o T S) (hs : 0 ≤ s ∧ s < T 0 20) (ho : -3 ≤ off ∧ off ≤ 3) (hf : ∀ j, 0 ≤ j → j < s → S 100 j = f j ∧ (f j = 1000000 ∨ (-500 ≤ f j ∧ f j ≤ 500))) (hQ : Q (some (.inl (sgv (T 12) (T 13) (T 17) (T 19) (T 0 38) (fun _ => off) f s))) S) : Smm H_Land_timeOf 0 [some (.inr (.inr 71)), some (.inl s), some (.inr (.inr 100)), some (.inl off), none, none, none] [] S Q := by
  obtain ⟨⟨k1, k2, k3, k4, k5⟩, hsg, hdl, hpt⟩ := hR
  obtain ⟨p1, p2, p3, p4⟩ := hsg s hs.1 hs.2
  obtain ⟨b1, b2, b3, b4, b5, b6⟩ := hT.1.2.1 s hs.1 hs.2
  have hn5 := hT.1.1
  have s5 : 0 ≤ s ∧ s < 5 := by omega
  unfold sgv at hQ
  have rest : ∀ st : Int, (1000000 ≤ st ∧ sgb (T 12) (T 13) (T 19) f s = 1000000 ∨ (st = sgb (T 12) (T 13) (T 19) f s ∧ -2000 ≤ st ∧ st ≤ 2000)) → Smm H_Land_timeOf 38 [some (.inr (.inr 71)), some (.inl s), some (.inr (.inr 100)), some (.inl off), some (.inl (T 12 s)), none, none] [.inl st] S Q := by
    intro st hst
    have e5 : S 71 7 = T 0 38 := k5
    refine sound ok_Land_timeOf [] 60 ?_
    refine ⟨fun g1 => ?_, fun g1 => ?_⟩
    · have h1 : sgb (T 12) (T 13) (T 19) f s = 1000000 := by
        rcases hst with z | z
        · exact z.2
        · omega
      rw [if_pos (Or.inl h1)] at hQ
      exact ⟨fun z => absurd z (by decide), fun _ => hQ⟩
    · have h1 := hst.resolve_left (fun z => absurd z.1 (by omega))
      have h2 : ¬ sgb (T 12) (T 13) (T 19) f s = 1000000 := by omega
      have tm := tm32 h1.2 (show -9 ≤ T 17 s ∧ T 17 s ≤ 68 from ⟨b5, b6⟩) ho
      refine ⟨fun g2 => ?_, fun g2 => ?_⟩
      · rw [e5] at g2
        rw [if_neg (fun z => z.elim h2 (fun y => absurd (g2.symm.trans y) (by decide))), ← h1.1, ← tm, ← p1] at hQ
        refine ⟨fun _ => ?_, fun z => absurd rfl z⟩
        exact ⟨s5, hQ⟩
      · rw [e5] at g2
        rw [if_pos (Or.inr ((iand1_01 _).resolve_left g2))] at hQ
        exact ⟨fun z => absurd z (by decide), fun _ => hQ⟩
  refine sound ok_Land_timeOf [38] 60 ?_
  refine ⟨s5, ?_⟩
  refine ⟨fun g => ?_, fun g => ?_⟩
  · rw [p3] at g
    obtain ⟨f1, f2⟩ := hf (T 12 s) g b2
    have hl := hT.1.2.2 (5 * T 13 s + T 12 s) (by omega) (by omega)
    obtain ⟨y1, y2, y3⟩ := dl_hear (al := T 19) (f := f) (g := T 13 s) (s := T 12 s) f2 hl
    have hd := dl_b hl
    have bb : 0 ≤ T 12 s ∧ T 12 s < 5 := by omega
    obtain ⟨g1, g2⟩ := g5x (g := T 13 s) (s := T 12 s) (by omega) bb
    have sg : sgb (T 12) (T 13) (T 19) f s = hdM (T 19) f (T 13 s) (T 12 s) := by unfold sgb; rw [if_neg (by omega)]
    have fin := rest (f (T 12 s) + dl (T 19 (5 * T 13 s + T 12 s))) (by
      rw [sg]
      by_cases z : hdM (T 19) f (T 13 s) (T 12 s) = 1000000
      · exact Or.inl ⟨y2.mpr z, z⟩
      · refine Or.inr ⟨y3 z, ?_⟩
        have q := y3 z
        have hb := hdM_b (al := T 19) (f := f) (g := T 13 s) (s := T 12 s) (b := 500) (by omega) f2 hl
        omega)
    have ea : i32 (f (T 12 s) + dl (T 19 (5 * T 13 s + T 12 s))) = f (T 12 s) + dl (T 19 (5 * T 13 s + T 12 s)) := ad32 (by omega) hd
    have ed := hdl _ g2.1 g2.2
    rw [← p4] at g1
    refine ⟨by rw [p3]; exact bb, ?_⟩
    refine ⟨s5, ?_⟩
    rw [← p3] at g1
    refine ⟨by rw [g1, p3, p4]; exact g2, ?_⟩
    rw [← ea, ← f1, ← ed] at fin
    rw [p3, p4] at g1
    have e9 : S 100 (S 76 s) + S 78 (i32 (i32 (S 77 s * 5) + S 76 s)) = S 100 (T 12 s) + S 78 (5 * T 13 s + T 12 s) := by rw [p3, p4, g1]
    rw [← e9] at fin
    rw [← p3] at fin
    exact fin
  · rw [p3] at g
    have fin := rest 0 (Or.inr ⟨by unfold sgb; rw [if_pos g], by decide, by decide⟩)
    rw [← p3] at fin
    exact fin
/-- who hears what, as bits -/
theorem t_heardBy_o (T S : St) (g : Int) (Q : Option AV → St → Prop) (hT : mOk T) (hR : lr_o T S) (hg : 0 ≤ g ∧ g < 4) (hQ : Q (some (.inl (bitF (fun s => decide (0 ≤ T 19 (5 * g + s))) (T 0 20).toNat))) S) : Smm H_Land_heardBy 0 [some (.inr (.inr 71)), some (.inl g), none, none] [] S Q := by
  obtain ⟨⟨k1, k2, k3, k4, k5⟩, hsg, hdl, hpt⟩ := hR
  have hn5 := hT.1.1
  have loop : ∀ (i : Int) (_ : Unit), (0 ≤ i ∧ i ≤ T 0 20) → Smm H_Land_heardBy 4 [some (.inr (.inr 71)), some (.inl g), some (.inl (bitF (fun s => decide (0 ≤ T 19 (5 * g + s))) i.toNat)), some (.inl i)] [] S Q := by
    refine lp_up (P := fun i _ => Smm H_Land_heardBy 4 [some (.inr (.inr 71)), some (.inl g), some (.inl (bitF (fun s => decide (0 ≤ T 19 (5 * g + s))) i.toNat)), some (.inl i)] [] S Q) (fun i _ => 0 ≤ i ∧ i ≤ T 0 20) (T 0 20) ?_ ?_
    · rintro i - hi hi2
      refine sound ok_Land_heardBy [4] 20 ?_
      refine ⟨fun _ => ?_, fun z => absurd z (by rw [k2]; omega)⟩
      rw [show i = T 0 20 by omega]
      exact hQ
    · rintro i - hi hi2 ih
      obtain ⟨k, rfl⟩ : ∃ k : Nat, i = k := ⟨i.toNat, by omega⟩
      have ih := ih () (by omega)
      rw [show ((k : Int) + 1).toNat = k + 1 by omega, bitF] at ih
      rw [show ((k : Int)).toNat = k by omega]
      have hk : ¬ S 71 1 ≤ (k : Int) := by rw [k2]; omega
      obtain ⟨g1, g2⟩ := g5x (g := g) (s := (k : Int)) hg (by omega)
      have hv := hdl _ g2.1 g2.2
      have hl := hT.1.2.2 _ g2.1 g2.2
      have e : (k : Int) + 1 = i32 ((k : Int) + 1) := i32_s' (by omega)
      refine sound ok_Land_heardBy [4] 40 ?_
      refine ⟨fun z => absurd z hk, fun _ => ?_⟩
      refine ⟨by rw [g1]; exact g2, ?_⟩
      refine ⟨fun z => ?_, fun z => ?_⟩
      · rw [g1, hv] at z
        unfold dl at z
        have hz : ¬ 0 ≤ T 19 (5 * g + k) := fun y => by
          rw [if_neg (Int.not_lt.mpr y)] at z
          clear g1 e
          omega
        rw [if_neg (by simpa using hz)] at ih
        exact Smm.sub ih ⟨Or.inr rfl, Or.inr rfl, Or.inr rfl, Or.inr (sI e), trivial⟩
      · rw [g1, hv] at z
        have hz : 0 ≤ T 19 (5 * g + k) := by
          by_cases y : T 19 (5 * g + k) < 0
          · exact absurd (by unfold dl; rw [if_pos y]) z
          · exact Int.not_lt.mp y
        rw [if_pos (by simpa using hz)] at ih
        exact Smm.sub ih ⟨Or.inr rfl, Or.inr rfl, Or.inr rfl, Or.inr (sI e), trivial⟩
  refine sound ok_Land_heardBy [4] 20 ?_
  exact loop 0 () (by omega)
theorem t_allWays_o (T S : St) (Q : Option AV → St → Prop) (hT : mAs T) (hR : lr_o T S) (hQ : Q (some (.inl (lenM T))) S) : Smm H_Land_allWays 0 [some (.inr (.inr 71)), none, none] [] S Q := by
  obtain ⟨⟨k1, k2, k3, k4, k5⟩, hsg, hdl, hpt⟩ := hR
  have hn := hT.1.1.1
  have loop : ∀ (i : Int) (_ : Unit), (0 ≤ i ∧ i ≤ T 0 20) → Smm H_Land_allWays 4 [some (.inr (.inr 71)), some (.inl ((wyF (T 18) i.toNat).length : Int)), some (.inl i)] [] S Q := by
    refine lp_up (P := fun i _ => Smm H_Land_allWays 4 [some (.inr (.inr 71)), some (.inl ((wyF (T 18) i.toNat).length : Int)), some (.inl i)] [] S Q) (fun i _ => 0 ≤ i ∧ i ≤ T 0 20) (T 0 20) ?_ ?_
    · rintro i - hi hi2
      refine sound ok_Land_allWays [4] 20 ?_
      refine ⟨fun _ => ?_, fun h3 => absurd h3 (by rw [k2]; omega)⟩
      have e : i = T 0 20 := by omega
      subst e
      exact hQ
    · rintro i - hi hi2 ih
      obtain ⟨k, rfl⟩ : ∃ k : Nat, i = k := ⟨i.toNat, by omega⟩
      have ih := ih () (by omega)
      rw [show ((k : Int) + 1).toNat = k + 1 by omega, wy_lenS] at ih
      have hl := wy_len (err := T 18) k (fun j hj => hT.2.2 j (by omega) (by omega))
      have he := hT.2.2 k (by omega) hi
      have h7 : 7 ^ k ≤ 7 ^ 5 := Nat.pow_le_pow_right (by omega) (by omega)
      have h75 : 7 ^ 5 = 16807 := rfl
      have hk : ¬ S 71 1 ≤ (k : Int) := by rw [k2]; omega
      have hk5 : 0 ≤ (k : Int) ∧ (k : Int) < 5 := by omega
      have pe := (hsg k (by omega) hi).2.1
      refine sound ok_Land_allWays [4] 40 ?_
      refine ⟨fun h3 => absurd h3 hk, fun _ => ?_⟩
      refine ⟨hk5, ?_⟩
      refine Smm.sub ih ⟨Or.inr rfl, Or.inr (sI ?_), Or.inr (sI (by unfold i32; omega)), trivial⟩
      rw [show ((k : Int)).toNat = k by omega, pe]
      have e1 : i32 (i32 (2 * T 18 k) + 1) = 2 * T 18 k + 1 := by unfold i32; omega
      rw [e1]
      have e2 : ((2 * T 18 k + 1).toNat : Int) = 2 * T 18 k + 1 := by omega
      have hm : (wyF (T 18) k).length * (2 * T 18 k + 1).toNat ≤ 16807 * 7 := Nat.mul_le_mul (by omega) (by omega)
      have e3 : (((wyF (T 18) k).length * (2 * T 18 k + 1).toNat : Nat) : Int) = ((wyF (T 18) k).length : Int) * (2 * T 18 k + 1) := by rw [Int.natCast_mul, e2]
      rw [← e3]
      clear e1 e2 e3
      generalize (wyF (T 18) k).length * (2 * T 18 k + 1).toNat = z at hm ⊢
      unfold i32
      omega
  refine sound ok_Land_allWays [4] 20 ?_
  exact loop 0 () (by omega)
