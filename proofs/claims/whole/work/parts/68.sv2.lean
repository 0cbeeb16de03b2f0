/-! the survey: turns, who is first -/
theorem tn_e {T S : St} {f : Int → Int} (hW : wkI_l T S f) {g : Int} (h0 : 0 ≤ g) (h1 : g < T 0 19) : S 101 g = tnV T g f := hW.2.2.2.2 g h0 h1
set_option maxHeartbeats 2000000 in
theorem t_seeTurns (T S : St) (f : Int → Int) (w : Int) (Q : Option AV → St → Prop) (hT : mOk T) (hf : ofOk (T 0 20) f) (hW : wkI_l T S f) (hw : S 95 2 = w ∧ 1 ≤ w ∧ w ≤ 16807) (hb : ∀ g, 0 ≤ g → g < T 0 19 → S 107 g ≤ 1000000 ∧ 0 ≤ S 109 g ∧ S 109 g ≤ 40000) (hQ : ∀ S', Fr [107, 108, 109] [] S S' → (∀ g, 0 ≤ g → g < T 0 19 → S' 107 g = min (S 107 g) (tnV T g f) ∧ S' 109 g = S 109 g + w * inB (!(fnB (tnV T g) f)) ∧ S' 108 g = if tnV T g f = 1000000 then S 108 g else if 1000000 ≤ S 107 g then tnV T g f else max (S 108 g) (tnV T g f)) → Q none S') : Smm H_Survey_seeTurns 0 [some (.inr (.inr 106)), some (.inr (.inr 95)), none, none, none] [] S Q := by
  have hk4 := hT.2.1
  have loop : ∀ (g : Int) (q : St × Option AV × Option AV), ((0 ≤ g ∧ g ≤ T 0 19) ∧ Fr [107, 108, 109] [] S q.1 ∧ (∀ j, 0 ≤ j → j < g → q.1 107 j = min (S 107 j) (tnV T j f) ∧ q.1 109 j = S 109 j + w * inB (!(fnB (tnV T j) f)) ∧ q.1 108 j = if tnV T j f = 1000000 then S 108 j else if 1000000 ≤ S 107 j then tnV T j f else max (S 108 j) (tnV T j f)) ∧ ∀ j, g ≤ j → q.1 107 j = S 107 j ∧ q.1 109 j = S 109 j ∧ q.1 108 j = S 108 j) → Smm H_Survey_seeTurns 2 [some (.inr (.inr 106)), some (.inr (.inr 95)), some (.inl g), q.2.1, q.2.2] [] q.1 Q := by
    refine lp_up (P := fun g (q : St × Option AV × Option AV) => Smm H_Survey_seeTurns 2 [some (.inr (.inr 106)), some (.inr (.inr 95)), some (.inl g), q.2.1, q.2.2] [] q.1 Q) _ (T 0 19) ?_ ?_
    · rintro g ⟨S1, x3, x4⟩ hg ⟨hg2, hF, d1, d2⟩
      dsimp only at hF d1 d2 ⊢
      have hB1 := wkB_fr_l hW.1 hF rfl
      have w1 : S1 95 1 = 0 := hB1.1
      have w2 : S1 63 0 = T 0 19 := hB1.2.1.1.1
      refine sound ok_Survey_seeTurns [2] 20 ?_
      refine ⟨fun _ => ?_, fun z => absurd (w1.symm.trans z) (by decide)⟩
      exact ⟨fun _ => hQ S1 hF (fun j j0 j1 => d1 j j0 (by omega)), fun z => absurd z (by rw [w2]; omega)⟩
    · rintro g ⟨S1, x3, x4⟩ hg ⟨hg2, hF, d1, d2⟩ ih
      dsimp only at hF d1 d2 ih ⊢
      have hB1 := wkB_fr_l hW.1 hF rfl
      have w1 : S1 95 1 = 0 := hB1.1
      have w2 : S1 63 0 = T 0 19 := hB1.2.1.1.1
      have w3 : S1 95 2 = w := by rw [hF.c 95 rfl]; exact hw.1
      have bg : 0 ≤ g ∧ g < 4 := by omega
      have hng : ¬ S1 63 0 ≤ g := by rw [w2]; omega
      have et : S1 101 g = tnV T g f := by rw [hF.c 101 rfl]; exact tn_e hW hg2.1 hg
      have tb : tnV T g f = 1000000 ∨ (-1000 ≤ tnV T g f ∧ tnV T g f ≤ 1000) := tnM_b hT hf hg2.1 bg.2
      obtain ⟨o1, o2, o3⟩ := d2 g (Int.le_refl _)
      have hbg := hb g hg2.1 hg
      have hk1 : 0 ≤ g + 1 ∧ g + 1 ≤ T 0 19 := by omega
      have en : i32 (S 109 g + w) = S 109 g + w := i32_id (by omega) (by omega)
      have e : g + 1 = i32 (g + 1) := (i32_id (by clear en; omega) (by clear en; omega)).symm
      have nx : ∀ (S2 : St) (y3 y4 : Option AV), Fr [107, 108, 109] [] S S2 → (S2 107 g = min (S 107 g) (tnV T g f) ∧ S2 109 g = S 109 g + w * inB (!(fnB (tnV T g) f)) ∧ S2 108 g = if tnV T g f = 1000000 then S 108 g else if 1000000 ≤ S 107 g then tnV T g f else max (S 108 g) (tnV T g f)) → (∀ j, ¬ j = g → S2 107 j = S1 107 j ∧ S2 109 j = S1 109 j ∧ S2 108 j = S1 108 j) → Smm H_Survey_seeTurns 110 [some (.inr (.inr 106)), some (.inr (.inr 95)), some (.inl g), y3, y4] [] S2 Q := by
        intro S2 y3 y4 hF2 k1 k2
        refine sound ok_Survey_seeTurns [2] 20 ?_
        refine Smm.sub (ih (S2, y3, y4) ⟨hk1, hF2, fun j j0 j1 => ?_, fun j j0 => ?_⟩) ⟨Or.inr rfl, Or.inr rfl, Or.inr (sI e), Or.inr rfl, Or.inr rfl, trivial⟩
        · dsimp only
          by_cases z : j = g
          · rw [z]; exact k1
          · obtain ⟨q1, q2, q3⟩ := k2 j z
            rw [q1, q2, q3]; exact d1 j j0 (by clear e en; omega)
        · dsimp only
          obtain ⟨q1, q2, q3⟩ := k2 j (by clear e en; omega)
          rw [q1, q2, q3]; exact d2 j (by clear e en; omega)
      refine sound ok_Survey_seeTurns [2, 110] 100 ?_
      refine ⟨fun _ => ?_, fun z => absurd (w1.symm.trans z) (by decide)⟩
      refine ⟨fun z => absurd z hng, fun _ => ?_⟩
      refine ⟨bg, ?_⟩
      refine ⟨fun z => ?_, fun z => ?_⟩
      · rw [et] at z
        have hnv : ¬ tnV T g f = 1000000 := by clear e en; omega
        have hfb : fnB (tnV T g) f = true := decide_eq_true hnv
        have hin : w * inB (!(fnB (tnV T g) f)) = 0 := by rw [hfb]; show w * 0 = 0; rw [Int.mul_zero]
        rw [hin, if_neg hnv, Int.add_zero] at nx
        refine ⟨bg, ?_⟩
        refine ⟨fun y => ?_, fun y => ?_⟩
        · rw [o1] at y
          rw [if_neg (Int.not_le.mpr y)] at nx
          refine ⟨fun _ => ?_, fun q => absurd rfl q⟩
          refine ⟨bg, ?_⟩
          refine ⟨bg, ?_⟩
          refine ⟨fun _ => ?_, fun q => absurd rfl q⟩
          refine ⟨bg, ?_⟩
          refine ⟨bg, ?_⟩
          refine nx _ _ _ ((hF.up _ _ _ rfl).up _ _ _ rfl) ⟨?_, ?_, ?_⟩ (fun j hj => ⟨?_, ?_, ?_⟩)
          · rw [up_o _ _ _ (by decide), up_s, o1, et]
          · rw [up_o _ _ _ (by decide), up_o _ _ _ (by decide), o2]
          · rw [up_s, up_o _ _ _ (by decide), o3, et]
          · rw [up_o _ _ _ (by decide), up_n _ _ _ hj]
          · rw [up_o _ _ _ (by decide), up_o _ _ _ (by decide)]
          · rw [up_n _ _ _ hj, up_o _ _ _ (by decide)]
        · rw [o1] at y
          rw [if_pos y] at nx
          refine ⟨fun q => absurd q (by decide), fun _ => ?_⟩
          refine ⟨bg, ?_⟩
          refine ⟨fun q => absurd q (by decide), fun _ => ?_⟩
          refine ⟨bg, ?_⟩
          refine nx _ _ _ ((hF.up _ _ _ rfl).up _ _ _ rfl) ⟨?_, ?_, ?_⟩ (fun j hj => ⟨?_, ?_, ?_⟩)
          · rw [up_o _ _ _ (by decide), up_s, et]; clear e en; omega
          · rw [up_o _ _ _ (by decide), up_o _ _ _ (by decide), o2]
          · rw [up_s, et]
          · rw [up_o _ _ _ (by decide), up_n _ _ _ hj]
          · rw [up_o _ _ _ (by decide), up_o _ _ _ (by decide)]
          · rw [up_n _ _ _ hj, up_o _ _ _ (by decide)]
      · rw [et] at z
        have hnv : tnV T g f = 1000000 := by clear e en; omega
        have hfb : fnB (tnV T g) f = false := decide_eq_false (fun y => y hnv)
        have hin : w * inB (!(fnB (tnV T g) f)) = w := by rw [hfb]; show w * 1 = w; rw [Int.mul_one]
        rw [hin, if_pos hnv] at nx
        refine ⟨bg, ?_⟩
        refine ⟨bg, ?_⟩
        refine nx _ _ _ (hF.up _ _ _ rfl) ⟨?_, ?_, ?_⟩ (fun j hj => ⟨?_, ?_, ?_⟩)
        · rw [up_o _ _ _ (by decide), o1]; clear e en; omega
        · rw [up_s, o2, w3]; exact en
        · rw [up_o _ _ _ (by decide), o3]
        · rw [up_o _ _ _ (by decide)]
        · rw [up_n _ _ _ hj]
        · rw [up_o _ _ _ (by decide)]
  refine sound ok_Survey_seeTurns [2] 20 ?_
  exact loop 0 (S, none, none) ⟨by omega, Fr.rf _ _ _, fun j j0 j1 => absurd j1 (by omega), fun j _ => ⟨rfl, rfl, rfl⟩⟩
/-- who is first, and when -/
def ftP (t : Int → Int) (k : Nat) : Int := if ftF t k < 0 then 1000000 else t (ftF t k)
theorem ft_step {t : Int → Int} {k : Nat} (h : ∀ j : Int, 0 ≤ j → j < (k : Int) + 1 → t j ≤ 1000000) : (t k < ftP t k → ftF t (k + 1) = k ∧ ftP t (k + 1) = t k) ∧ (ftP t k ≤ t k → ftF t (k + 1) = ftF t k ∧ ftP t (k + 1) = ftP t k) := by
  have hb := ftF_b t k
  have hk := h k (by omega) (by omega)
  have hst : ftF t (k + 1) = if ¬ t k = 1000000 ∧ (ftF t k < 0 ∨ t k < t (ftF t k)) then (k : Int) else ftF t k := rfl
  unfold ftP
  rw [hst]
  by_cases z : ftF t k < 0
  · rw [if_pos z]
    refine ⟨fun y => ?_, fun y => ?_⟩
    · rw [if_pos ⟨by omega, Or.inl z⟩, if_neg (by omega)]; exact ⟨rfl, rfl⟩
    · rw [if_neg (fun q => q.1 (by omega)), if_pos z]; exact ⟨rfl, rfl⟩
  · rw [if_neg z]
    have hf := h (ftF t k) (by omega) (by omega)
    refine ⟨fun y => ?_, fun y => ?_⟩
    · rw [if_pos ⟨by omega, Or.inr y⟩, if_neg (by omega)]; exact ⟨rfl, rfl⟩
    · rw [if_neg (fun q => by rcases q.2 with q2 | q2 <;> omega), if_neg z]; exact ⟨rfl, rfl⟩
theorem t_seeFirst (T S : St) (f : Int → Int) (w : Int) (Q : Option AV → St → Prop) (hT : mOk T) (hf : ofOk (T 0 20) f) (hW : wkI_l T S f) (hw : S 95 2 = w ∧ 1 ≤ w ∧ w ≤ 16807) (hb : ∀ g, 0 ≤ g → g < T 0 19 → 0 ≤ S 110 g ∧ S 110 g ≤ 40000) (hQ : ∀ S', Fr [110] [] S S' → (∀ g, 0 ≤ g → g < T 0 19 → S' 110 g = S 110 g + w * inB (decide (fsM T f = g))) → Q none S') : Smm H_Survey_seeFirst 0 [some (.inr (.inr 106)), some (.inr (.inr 95)), none, none, none] [] S Q := by
  have hk4 := hT.2.1
  obtain ⟨n, hn⟩ : ∃ n : Nat, T 0 19 = n := ⟨(T 0 19).toNat, by omega⟩
  have w1 : S 95 1 = 0 := hW.1.1
  have w2 : S 63 0 = n := by rw [← hn]; exact hW.1.2.1.1.1
  generalize ht : tnM T (smM T f) = t
  have et : ∀ g, 0 ≤ g → g < (n : Int) → S 101 g = t g ∧ t g ≤ 1000000 := fun g g0 g1 => by
    have := tnM_b hT hf (g := g) g0 (by omega)
    rw [ht] at this
    refine ⟨?_, by omega⟩
    rw [← ht]
    exact hW.2.2.2.2 g g0 (by omega)
  have hfs : fsM T f = ftF t n := by unfold fsM; rw [ht, hn]; rfl
  rw [hfs] at hQ
  have loop : ∀ (d k : Nat), k + d = n → Smm H_Survey_seeFirst 8 [some (.inr (.inr 106)), some (.inr (.inr 95)), some (.inl (ftF t k)), some (.inl (ftP t k)), some (.inl (k : Int))] [] S Q := by
    intro d
    induction d with
    | zero =>
      intro k hk
      have hkn : k = n := by omega
      subst hkn
      have hbb := ftF_b t k
      refine sound ok_Survey_seeFirst [8] 40 ?_
      refine ⟨fun _ => ?_, fun z => absurd (w1.symm.trans z) (by decide)⟩
      refine ⟨fun _ => ?_, fun z => absurd z (by rw [w2]; exact Int.lt_irrefl _)⟩
      refine ⟨fun z => ?_, fun z => ?_⟩
      · refine hQ S (Fr.rf _ _ _) (fun g g0 g1 => ?_)
        have : inB (decide (ftF t k = g)) = 0 := by unfold inB; rw [if_neg (by simp; omega)]
        rw [this, Int.mul_zero, Int.add_zero]
      · have bi : 0 ≤ ftF t k ∧ ftF t k < 4 := by omega
        have hbf := hb (ftF t k) z (by omega)
        have e : i32 (S 110 (ftF t k) + S 95 2) = S 110 (ftF t k) + w := by rw [hw.1]; exact i32_id (by omega) (by omega)
        refine ⟨bi, ?_⟩
        refine ⟨bi, ?_⟩
        refine hQ _ ((Fr.rf _ _ _).up _ _ _ rfl) (fun g g0 g1 => ?_)
        by_cases y : g = ftF t k
        · have : inB (decide (ftF t k = g)) = 1 := by unfold inB; rw [if_pos (by simp [y])]
          rw [this, Int.mul_one, y, up_s, e]
        · have : inB (decide (ftF t k = g)) = 0 := by unfold inB; rw [if_neg (by simp; exact fun q => y q.symm)]
          rw [this, Int.mul_zero, Int.add_zero, up_n _ _ _ y]
    | succ d ih =>
      intro k hk
      have hkn : k < n := by omega
      obtain ⟨t1, t2⟩ := et k (by omega) (by omega)
      obtain ⟨s1, s2⟩ := ft_step (t := t) (k := k) (fun j j0 j1 => (et j j0 (by omega)).2)
      have bk : 0 ≤ (k : Int) ∧ (k : Int) < 4 := by omega
      have ih := ih (k + 1) (by omega)
      have e : ((k + 1 : Nat) : Int) = i32 ((k : Int) + 1) := i32_s (by omega)
      refine sound ok_Survey_seeFirst [8] 60 ?_
      refine ⟨fun _ => ?_, fun z => absurd (w1.symm.trans z) (by decide)⟩
      refine ⟨fun z => absurd z (by rw [w2]; exact nle_n hkn), fun _ => ?_⟩
      refine ⟨bk, ?_⟩
      refine ⟨fun z => ?_, fun z => ?_⟩
      · rw [t1] at z
        obtain ⟨q1, q2⟩ := s2 z
        rw [q1, q2] at ih
        exact Smm.sub ih ⟨Or.inr rfl, Or.inr rfl, Or.inr rfl, Or.inr rfl, Or.inr (sI e), trivial⟩
      · rw [t1] at z
        obtain ⟨q1, q2⟩ := s1 z
        rw [q1, q2, ← t1] at ih
        refine ⟨bk, ?_⟩
        exact Smm.sub ih ⟨Or.inr rfl, Or.inr rfl, Or.inr rfl, Or.inr rfl, Or.inr (sI e), trivial⟩
  refine sound ok_Survey_seeFirst [8] 20 ?_
  exact loop n 0 (by omega)
