/-! the walk -/
/-- the bits of the signs that a guard uses -/
def usI (T S : St) (g : Int) : Prop := ∃ x : Nat, S 97 g = x ∧ x < 32 ∧ ∀ s : Nat, x.testBit s = true ↔ usB T S g s
def wkB (v : Int) (lr : St → St → Prop) (T S : St) : Prop := S 95 1 = v ∧ lr T S ∧ PlR T S ∧ ∀ g, 0 ≤ g → g < T 0 19 → S 96 g = T 20 g ∧ usI T S g
/-- the walk stands at a way -/
def wkI (v : Int) (lr : St → St → Prop) (T S : St) (f : Int → Int) : Prop := wkB v lr T S ∧ (∀ s, 0 ≤ s → s < T 0 20 → S 99 s = f s) ∧ (∀ s, 0 ≤ s → s < T 0 20 → S 100 s = smM T f s) ∧ (∀ s, T 0 20 ≤ s → s < 5 → S 100 s = 1000000) ∧ ∀ g, 0 ≤ g → g < T 0 19 → S 101 g = tnM T (smM T f) g
theorem PlR_sm {T S S' : St} (h : PlR T S) (h0 : S' 57 = S 57) (h1 : S' 58 = S 58) (h2 : S' 59 = S 59) (h3 : S' 60 = S 60) : PlR T S' := by
  unfold PlR plR1 at *
  rw [h0, h1, h2, h3]
  exact h
theorem g5m {g : Int} (h : 0 ≤ g ∧ g < 4) : i32 (g * 5) = 5 * g := by rw [i32_id (by omega) (by omega)]; omega
theorem tb_ex {x : Nat} (h : ¬ x = 0) : ∃ s : Nat, x.testBit s = true := by
  obtain ⟨s, hs⟩ := Nat.exists_testBit_of_ne_zero h
  exact ⟨s, hs⟩
theorem tb_lt {x k s : Nat} (h : x / 2 ^ k = 0) (hs : x.testBit s = true) : s < k := by
  have hx : x < 2 ^ k := by
    have h1 := Nat.div_add_mod x (2 ^ k)
    have h2 := Nat.mod_lt x (show 2 ^ k > 0 from Nat.pow_pos (by omega))
    rw [h, Nat.mul_zero, Nat.zero_add] at h1
    omega
  by_cases z : s < k
  · exact z
  · have : 2 ^ k ≤ 2 ^ s := Nat.pow_le_pow_right (by omega) (by omega)
    rw [Nat.testBit_lt_two_pow (by omega)] at hs
    exact absurd hs (by decide)
theorem lr_sm_l {T S S' : St} (h : lr_l T S) (h0 : S' 63 = S 63) (h1 : S' 66 = S 66) (h2 : S' 67 = S 67) (h3 : S' 68 = S 68) (h4 : S' 69 = S 69) (h5 : S' 70 = S 70) (h6 : S' 64 = S 64) (h7 : S' 65 = S 65) : lr_l T S' := by
  unfold lr_l lrI at *
  rw [h0, h1, h2, h3, h4, h5, h6, h7]
  exact h
abbrev wkB_l (T S : St) : Prop := wkB 0 lr_l T S
abbrev wkI_l (T S : St) (f : Int → Int) : Prop := wkI 0 lr_l T S f
theorem wkB_fr_l {X : List Nat} {Y : List (Nat × Int)} {T S S' : St} (h : wkB_l T S) (hF : Fr X Y S S') (hX : ([63, 66, 67, 68, 69, 70, 64, 65, 57, 58, 59, 60, 96, 97].all (fun c => !(X.contains c || Y.any (fun q => Nat.beq q.1 c))) && !(X.contains 95 || Y.contains (95, 1))) = true) : wkB_l T S' := by
  have h1 := Bool.and_eq_true_iff.mp hX
  have key : ∀ c ∈ ([63, 66, 67, 68, 69, 70, 64, 65, 57, 58, 59, 60, 96, 97] : List Nat), S' c = S c := by
    intro c hc
    have := List.all_eq_true.mp h1.1 c hc
    exact hF.c c (by simpa using this)
  have k1 : S' 95 1 = S 95 1 := hF.s _ _ (by simpa using h1.2)
  obtain ⟨a1, a2, a3, a4⟩ := h
  refine ⟨by rw [k1]; exact a1, lr_sm_l a2 (key _ (by simp)) (key _ (by simp)) (key _ (by simp)) (key _ (by simp)) (key _ (by simp)) (key _ (by simp)) (key _ (by simp)) (key _ (by simp)), PlR_sm a3 (key _ (by simp)) (key _ (by simp)) (key _ (by simp)) (key _ (by simp)), ?_⟩
  unfold usI usB at *
  rw [key 96 (by simp), key 97 (by simp), key 60 (by simp)]
  exact a4
theorem usB_fr_l {X : List Nat} {Y : List (Nat × Int)} {T S S' : St} (hF : Fr X Y S S') (hX : (X.contains 60 || Y.any (fun q => Nat.beq q.1 60)) = false) (g : Int) (s : Nat) : usB T S' g s ↔ usB T S g s := by
  unfold usB
  rw [hF.c 60 hX]
set_option maxHeartbeats 4000000 in
theorem t_settle_l (T S : St) (f : Int → Int) (k : Nat) (Q : Option AV → St → Prop) (hT : mOk T) (hB : wkB_l T S) (hf : ofOk (T 0 20) f) (hk : (k : Int) ≤ T 0 20) (hoff : ∀ s, 0 ≤ s → s < T 0 20 → S 99 s = f s) (hat : ∀ s : Int, 0 ≤ s → s < k → S 100 s = smM T f s) (hrest : ∀ s, T 0 20 ≤ s → s < 5 → S 100 s = 1000000) (htn : ∀ g, 0 ≤ g → g < T 0 19 → (∀ s : Nat, usB T S g s → s < k) → S 101 g = tnM T (smM T f) g)
    (hQ : ∀ S', Fr [61, 62, 100, 101] [] S S' → wkI_l T S' f → Q none S') : Smm H_Walk_settle 0 [some (.inr (.inr 95)), some (.inl (k : Int)), none] [] S Q := by
  have hn5 := hT.1.1
  have hk4 := hT.2.1
  have hbd := sm_bd hT hf
  have turns : ∀ (g : Int) (S1 : St), ((0 ≤ g ∧ g ≤ T 0 19) ∧ Fr [61, 62, 100, 101] [] S S1 ∧ (∀ s, 0 ≤ s → s < T 0 20 → S1 100 s = smM T f s) ∧ (∀ s, T 0 20 ≤ s → s < 5 → S1 100 s = 1000000) ∧ (∀ j, 0 ≤ j → j < g → S1 101 j = tnM T (smM T f) j) ∧ (∀ j, g ≤ j → S1 101 j = S 101 j)) → Smm H_Walk_settle 45 [some (.inr (.inr 95)), some (.inl (k : Int)), some (.inl g)] [] S1 Q := by
    refine lp_up (P := fun g S1 => Smm H_Walk_settle 45 [some (.inr (.inr 95)), some (.inl (k : Int)), some (.inl g)] [] S1 Q) _ (T 0 19) ?_ ?_
    · rintro g S1 hg ⟨hg2, hF, d1, d2, d3, d4⟩
      have hB1 := wkB_fr_l hB hF rfl
      have w1 : S1 95 1 = 0 := hB1.1
      have w2 : S1 63 0 = T 0 19 := hB1.2.1.1.1
      refine sound ok_Walk_settle [45] 20 ?_
      refine ⟨fun _ => ?_, fun z => absurd (w1.symm.trans z) (by decide)⟩
      refine ⟨fun _ => ?_, fun z => absurd z (by rw [w2]; omega)⟩
      refine hQ S1 hF ⟨hB1, fun s s0 s1 => ?_, d1, d2, fun j j0 j1 => d3 j j0 (by omega)⟩
      rw [hF.c 99 rfl]; exact hoff s s0 s1
    · rintro g S1 hg ⟨hg2, hF, d1, d2, d3, d4⟩ ih
      have hB1 := wkB_fr_l hB hF rfl
      have w1 : S1 95 1 = 0 := hB1.1
      have w2 : S1 63 0 = T 0 19 := hB1.2.1.1.1
      obtain ⟨u1, x, u2, u3, u4⟩ := hB1.2.2.2 g hg2.1 hg
      have bg : 0 ≤ g ∧ g < 4 := by omega
      have hng : ¬ S1 63 0 ≤ g := by rw [w2]; omega
      have hk5 : k < 32 := by omega
      have hx31 : x < 2147483648 := by omega
      have e : g + 1 = i32 (g + 1) := (i32_id (by omega) (by omega)).symm
      have hsh : ishr (S1 97 g) (k : Int) = ((x / 2 ^ k : Nat) : Int) := by rw [u2]; exact ishr_nat hx31 hk5
      have next : ∀ S2, Fr [61, 62, 101] [] S1 S2 → S2 101 g = tnM T (smM T f) g → (∀ j, ¬ j = g → S2 101 j = S1 101 j) → Smm H_Walk_settle 100 [some (.inr (.inr 95)), some (.inl (k : Int)), some (.inl g)] [] S2 Q := by
        intro S2 hF2 hv hj
        refine sound ok_Walk_settle [45] 20 ?_
        refine Smm.sub (ih S2 ⟨⟨Int.le_add_one hg2.1, hg⟩, hF.tr (hF2.mo rfl rfl), fun s s0 s1 => by rw [hF2.c 100 rfl]; exact d1 s s0 s1, fun s s0 s1 => by rw [hF2.c 100 rfl]; exact d2 s s0 s1, fun j j0 j1 => ?_, fun j j0 => ?_⟩) ⟨Or.inr rfl, Or.inr rfl, Or.inr (sI e), trivial⟩
        · by_cases z : j = g
          · rw [z]; exact hv
          · rw [hj j z]; exact d3 j j0 (by clear e hsh; omega)
        · rw [hj j (by clear e hsh; omega)]; exact d4 j (by clear e hsh; omega)
      refine sound ok_Walk_settle [45, 100] 60 ?_
      refine ⟨fun _ => ?_, fun z => absurd (w1.symm.trans z) (by decide)⟩
      refine ⟨fun z => absurd z hng, fun _ => ?_⟩
      refine ⟨bg, ?_⟩
      refine ⟨fun z => ?_, fun z => ?_⟩
      · rw [hsh] at z
        refine next S1 (Fr.rf _ _ _) ?_ (fun _ _ => rfl)
        rw [d4 g (Int.le_refl _)]
        exact htn g hg2.1 hg (fun s hs => tb_lt (Int.ofNat.inj z) ((u4 s).mpr ((usB_fr_l hF rfl g s).mpr hs)))
      · rw [hsh] at z
        have hx0 : ¬ x = 0 := fun y => z (by rw [y, Nat.zero_div]; rfl)
        obtain ⟨s0, hs0⟩ := tb_ex hx0
        have hpl := ((u4 s0).mp hs0).1
        obtain ⟨a1, a2⟩ := hT.2.2.1 g bg.1 bg.2
        have hP1 := hB1.2.2.1
        have hdl := hB1.2.1.2.2.1
        have hcnt : S1 57 3 = T 0 31 := hP1.1
        have hrow : ∀ s, 0 ≤ s → s < 5 → (1000000 ≤ S1 100 s + S1 70 (5 * g + s) ∨ (-5000 ≤ S1 100 s + S1 70 (5 * g + s) ∧ S1 100 s + S1 70 (5 * g + s) ≤ 5000)) ∧ S1 100 s + S1 70 (5 * g + s) ≤ 4000000 ∧ -5000 ≤ S1 100 s + S1 70 (5 * g + s) ∧ min 1000000 (S1 100 s + S1 70 (5 * g + s)) = hrF (T 0 20) (T 19) (smM T f) g s := fun s s0 s1 => by
          clear e hsh
          have hl := hT.1.2.2 (5 * g + s) (by omega) (by omega)
          have hd := dl_b hl
          rw [hdl (5 * g + s) (by omega) (by omega)]
          unfold hrF
          by_cases hlt : s < T 0 20
          · rw [if_pos hlt, d1 s s0 hlt]
            have hb := hbd s s0 hlt
            obtain ⟨y1, y2, y3⟩ := dl_hear (al := T 19) (f := smM T f) (g := g) (s := s) hb hl
            have hm := hdM_b (al := T 19) (f := smM T f) (g := g) (s := s) (b := 500) (by omega) hb hl
            refine ⟨?_, by omega, by omega, y1⟩
            by_cases z : hdM (T 19) (smM T f) g s = 1000000
            · exact Or.inl (y2.mpr z)
            · have := y3 z; omega
          · rw [if_neg hlt, d2 s (by omega) s1]
            omega
        obtain ⟨rc, xc, ev, lv, c1, c2, c3, c4, c5, c6, c7, c8, c9⟩ := pl_val (hP1.2.2 _ hpl a2) (hh := fun s => S1 100 s + S1 70 (5 * g + s)) (fun s s0 s1 => (hrow s s0 s1).1)
        have htv : tnM T (smM T f) g = min ev lv := by
          obtain ⟨m, hm1, hm2⟩ := (PlR_plM hP1).2 _ hpl a2
          have hmr : m = rc.length := by clear e hsh; omega
          subst hmr
          unfold tnM
          rw [if_neg (Int.not_lt.mpr hpl), c1, show ((rc.length : Nat) : Int).toNat = rc.length from rfl]
          rw [← c9]
          exact plV_congr hm2 (fun s s0 s1 => (hrow s s0 s1).2.2.2.symm)
        have go : ∀ Q' : Option AV → St → Prop, (∀ S2, Fr [61, 62] [] S1 S2 → Q' (some (.inl (tnM T (smM T f) g))) S2) → Smm H_Plans_turnOf 0 [some (.inr (.inr 57)), some (.inl (T 20 g)), some (.inr (.inr 100)), some (.inr (.inr 70)), some (.inl (5 * g)), none, none, none, none, none, none] [] S1 Q' := by
          intro Q' hq'
          refine t_turnOf_l S1 (T 20 g) g xc Q' ⟨hpl, by rw [hcnt]; exact a2, by rw [hcnt]; exact hP1.2.1.2⟩ bg c2 c4 c3 c5 (fun s s0 s1 => ⟨(hrow s s0 s1).2.2.1, (hrow s s0 s1).2.1⟩) (fun S2 e' l' hF2 _ hlv => ?_)
          have := hlv c7
          rw [c8] at this
          have hel : (ev, lv) = (e', l') := by simpa using this
          cases hel
          rw [← htv]
          exact hq' S2 hF2
        rw [← u1, ← g5m bg] at go
        refine ⟨bg, ?_⟩
        refine ⟨fun _ => ?_, fun z => absurd (w1.symm.trans z) (by decide)⟩
        refine go _ (fun S2 hF2 => ?_)
        refine ⟨bg, ?_⟩
        refine next _ ((hF2.mo rfl rfl).up _ _ _ rfl) (up_s _ _ _ _) (fun j hj => ?_)
        rw [up_n _ _ _ hj, hF2.c 101 rfl]
  have times : ∀ (i : Int) (S1 : St), (((k : Int) ≤ i ∧ i ≤ T 0 20) ∧ Fr [100] [] S S1 ∧ (∀ s, 0 ≤ s → s < i → S1 100 s = smM T f s) ∧ (∀ s, T 0 20 ≤ s → s < 5 → S1 100 s = 1000000)) → Smm H_Walk_settle 2 [some (.inr (.inr 95)), some (.inl (k : Int)), some (.inl i)] [] S1 Q := by
    refine lp_up (P := fun i S1 => Smm H_Walk_settle 2 [some (.inr (.inr 95)), some (.inl (k : Int)), some (.inl i)] [] S1 Q) _ (T 0 20) ?_ ?_
    · rintro i S1 hi ⟨hi2, hF, d1, d2⟩
      have hB1 := wkB_fr_l hB hF rfl
      have w1 : S1 95 1 = 0 := hB1.1
      have w2 : S1 63 1 = T 0 20 := hB1.2.1.1.2.1
      refine sound ok_Walk_settle [45] 20 ?_
      refine ⟨fun _ => ?_, fun z => absurd (w1.symm.trans z) (by decide)⟩
      refine ⟨fun _ => ?_, fun z => absurd z (by rw [w2]; omega)⟩
      exact turns 0 S1 ⟨by omega, hF.mo rfl rfl, fun s s0 s1 => d1 s s0 (by omega), d2, fun j j0 j1 => absurd j1 (by omega), fun j _ => by rw [hF.c 101 rfl]⟩
    · rintro i S1 hi ⟨hi2, hF, d1, d2⟩ ih
      have hB1 := wkB_fr_l hB hF rfl
      have w1 : S1 95 1 = 0 := hB1.1
      have w2 : S1 63 1 = T 0 20 := hB1.2.1.1.2.1
      have i0 : 0 ≤ i := by omega
      have bi : 0 ≤ i ∧ i < 5 := by omega
      have hni : ¬ S1 63 1 ≤ i := by rw [w2]; omega
      have eo : S1 99 i = f i := by rw [hF.c 99 rfl]; exact hoff i i0 hi
      have e : i + 1 = i32 (i + 1) := (i32_id (by omega) (by omega)).symm
      refine sound ok_Walk_settle [2] 60 ?_
      refine ⟨fun _ => ?_, fun z => absurd (w1.symm.trans z) (by decide)⟩
      refine ⟨fun z => absurd z hni, fun _ => ?_⟩
      refine ⟨fun _ => ?_, fun z => absurd (w1.symm.trans z) (by decide)⟩
      refine ⟨bi, ?_⟩
      refine t_timeOf_l T S1 i _ (smM T f) _ hT hB1.2.1 ⟨i0, hi⟩ (by rw [eo]; exact hf i i0 hi) (fun j j0 j1 => ⟨d1 j j0 j1, hbd j j0 (by clear e; omega)⟩) ?_
      refine ⟨bi, ?_⟩
      have ev : sgv (T 12) (T 13) (T 17) (T 19) (T 0 38) (fun _ => S1 99 i) (smM T f) i = smM T f i := by
        rw [sm_at hT i0 hi, eo]; rfl
      refine Smm.sub (ih _ ⟨⟨by clear e; omega, hi⟩, hF.up _ _ _ rfl, fun s s0 s1 => ?_, fun s s0 s1 => ?_⟩) ⟨Or.inr rfl, Or.inr rfl, Or.inr (sI e), trivial⟩
      · by_cases z : s = i
        · rw [z, up_s, ev]
        · rw [up_n _ _ _ z]; exact d1 s s0 (by clear e; omega)
      · rw [up_n _ _ _ (by clear e; omega)]; exact d2 s s0 s1
  refine sound ok_Walk_settle [2] 20 ?_
  exact times k S ⟨⟨Int.le_refl _, hk⟩, Fr.rf _ _ _, hat, hrest⟩
theorem lr_sm_o {T S S' : St} (h : lr_o T S) (h0 : S' 71 = S 71) (h1 : S' 74 = S 74) (h2 : S' 75 = S 75) (h3 : S' 76 = S 76) (h4 : S' 77 = S 77) (h5 : S' 78 = S 78) (h6 : S' 72 = S 72) (h7 : S' 73 = S 73) : lr_o T S' := by
  unfold lr_o lrI at *
  rw [h0, h1, h2, h3, h4, h5, h6, h7]
  exact h
abbrev wkB_o (T S : St) : Prop := wkB 1 lr_o T S
abbrev wkI_o (T S : St) (f : Int → Int) : Prop := wkI 1 lr_o T S f
theorem wkB_fr_o {X : List Nat} {Y : List (Nat × Int)} {T S S' : St} (h : wkB_o T S) (hF : Fr X Y S S') (hX : ([71, 74, 75, 76, 77, 78, 72, 73, 57, 58, 59, 60, 96, 97].all (fun c => !(X.contains c || Y.any (fun q => Nat.beq q.1 c))) && !(X.contains 95 || Y.contains (95, 1))) = true) : wkB_o T S' := by
  have h1 := Bool.and_eq_true_iff.mp hX
  have key : ∀ c ∈ ([71, 74, 75, 76, 77, 78, 72, 73, 57, 58, 59, 60, 96, 97] : List Nat), S' c = S c := by
    intro c hc
    have := List.all_eq_true.mp h1.1 c hc
    exact hF.c c (by simpa using this)
  have k1 : S' 95 1 = S 95 1 := hF.s _ _ (by simpa using h1.2)
  obtain ⟨a1, a2, a3, a4⟩ := h
  refine ⟨by rw [k1]; exact a1, lr_sm_o a2 (key _ (by simp)) (key _ (by simp)) (key _ (by simp)) (key _ (by simp)) (key _ (by simp)) (key _ (by simp)) (key _ (by simp)) (key _ (by simp)), PlR_sm a3 (key _ (by simp)) (key _ (by simp)) (key _ (by simp)) (key _ (by simp)), ?_⟩
  unfold usI usB at *
  rw [key 96 (by simp), key 97 (by simp), key 60 (by simp)]
  exact a4
theorem usB_fr_o {X : List Nat} {Y : List (Nat × Int)} {T S S' : St} (hF : Fr X Y S S') (hX : (X.contains 60 || Y.any (fun q => Nat.beq q.1 60)) = false) (g : Int) (s : Nat) : usB T S' g s ↔ usB T S g s := by
  unfold usB
  rw [hF.c 60 hX]
set_option maxHeartbeats 4000000 in
theorem t_settle_o (T S : St) (f : Int → Int) (k : Nat) (Q : Option AV → St → Prop) (hT : mOk T) (hB : wkB_o T S) (hf : ofOk (T 0 20) f) (hk : (k : Int) ≤ T 0 20) (hoff : ∀ s, 0 ≤ s → s < T 0 20 → S 99 s = f s) (hat : ∀ s : Int, 0 ≤ s → s < k → S 100 s = smM T f s) (hrest : ∀ s, T 0 20 ≤ s → s < 5 → S 100 s = 1000000) (htn : ∀ g, 0 ≤ g → g < T 0 19 → (∀ s : Nat, usB T S g s → s < k) → S 101 g = tnM T (smM T f) g)
    (hQ : ∀ S', Fr [61, 62, 100, 101] [] S S' → wkI_o T S' f → Q none S') : Smm H_Walk_settle 0 [some (.inr (.inr 95)), some (.inl (k : Int)), none] [] S Q := by
  have hn5 := hT.1.1
  have hk4 := hT.2.1
  have hbd := sm_bd hT hf
  have turns : ∀ (g : Int) (S1 : St), ((0 ≤ g ∧ g ≤ T 0 19) ∧ Fr [61, 62, 100, 101] [] S S1 ∧ (∀ s, 0 ≤ s → s < T 0 20 → S1 100 s = smM T f s) ∧ (∀ s, T 0 20 ≤ s → s < 5 → S1 100 s = 1000000) ∧ (∀ j, 0 ≤ j → j < g → S1 101 j = tnM T (smM T f) j) ∧ (∀ j, g ≤ j → S1 101 j = S 101 j)) → Smm H_Walk_settle 45 [some (.inr (.inr 95)), some (.inl (k : Int)), some (.inl g)] [] S1 Q := by
    refine lp_up (P := fun g S1 => Smm H_Walk_settle 45 [some (.inr (.inr 95)), some (.inl (k : Int)), some (.inl g)] [] S1 Q) _ (T 0 19) ?_ ?_
    · rintro g S1 hg ⟨hg2, hF, d1, d2, d3, d4⟩
      have hB1 := wkB_fr_o hB hF rfl
      have w1 : S1 95 1 = 1 := hB1.1
      have w2 : S1 71 0 = T 0 19 := hB1.2.1.1.1
      refine sound ok_Walk_settle [45] 20 ?_
      refine ⟨fun z => absurd (w1.symm.trans z) (by decide), fun _ => ?_⟩
      refine ⟨fun _ => ?_, fun z => absurd z (by rw [w2]; omega)⟩
      refine hQ S1 hF ⟨hB1, fun s s0 s1 => ?_, d1, d2, fun j j0 j1 => d3 j j0 (by omega)⟩
      rw [hF.c 99 rfl]; exact hoff s s0 s1
    · rintro g S1 hg ⟨hg2, hF, d1, d2, d3, d4⟩ ih
      have hB1 := wkB_fr_o hB hF rfl
      have w1 : S1 95 1 = 1 := hB1.1
      have w2 : S1 71 0 = T 0 19 := hB1.2.1.1.1
      obtain ⟨u1, x, u2, u3, u4⟩ := hB1.2.2.2 g hg2.1 hg
      have bg : 0 ≤ g ∧ g < 4 := by omega
      have hng : ¬ S1 71 0 ≤ g := by rw [w2]; omega
      have hk5 : k < 32 := by omega
      have hx31 : x < 2147483648 := by omega
      have e : g + 1 = i32 (g + 1) := (i32_id (by omega) (by omega)).symm
      have hsh : ishr (S1 97 g) (k : Int) = ((x / 2 ^ k : Nat) : Int) := by rw [u2]; exact ishr_nat hx31 hk5
      have next : ∀ S2, Fr [61, 62, 101] [] S1 S2 → S2 101 g = tnM T (smM T f) g → (∀ j, ¬ j = g → S2 101 j = S1 101 j) → Smm H_Walk_settle 100 [some (.inr (.inr 95)), some (.inl (k : Int)), some (.inl g)] [] S2 Q := by
        intro S2 hF2 hv hj
        refine sound ok_Walk_settle [45] 20 ?_
        refine Smm.sub (ih S2 ⟨⟨Int.le_add_one hg2.1, hg⟩, hF.tr (hF2.mo rfl rfl), fun s s0 s1 => by rw [hF2.c 100 rfl]; exact d1 s s0 s1, fun s s0 s1 => by rw [hF2.c 100 rfl]; exact d2 s s0 s1, fun j j0 j1 => ?_, fun j j0 => ?_⟩) ⟨Or.inr rfl, Or.inr rfl, Or.inr (sI e), trivial⟩
        · by_cases z : j = g
          · rw [z]; exact hv
          · rw [hj j z]; exact d3 j j0 (by clear e hsh; omega)
        · rw [hj j (by clear e hsh; omega)]; exact d4 j (by clear e hsh; omega)
      refine sound ok_Walk_settle [45, 100] 60 ?_
      refine ⟨fun z => absurd (w1.symm.trans z) (by decide), fun _ => ?_⟩
      refine ⟨fun z => absurd z hng, fun _ => ?_⟩
      refine ⟨bg, ?_⟩
      refine ⟨fun z => ?_, fun z => ?_⟩
      · rw [hsh] at z
        refine next S1 (Fr.rf _ _ _) ?_ (fun _ _ => rfl)
        rw [d4 g (Int.le_refl _)]
        exact htn g hg2.1 hg (fun s hs => tb_lt (Int.ofNat.inj z) ((u4 s).mpr ((usB_fr_o hF rfl g s).mpr hs)))
      · rw [hsh] at z
        have hx0 : ¬ x = 0 := fun y => z (by rw [y, Nat.zero_div]; rfl)
        obtain ⟨s0, hs0⟩ := tb_ex hx0
        have hpl := ((u4 s0).mp hs0).1
        obtain ⟨a1, a2⟩ := hT.2.2.1 g bg.1 bg.2
        have hP1 := hB1.2.2.1
        have hdl := hB1.2.1.2.2.1
        have hcnt : S1 57 3 = T 0 31 := hP1.1
        have hrow : ∀ s, 0 ≤ s → s < 5 → (1000000 ≤ S1 100 s + S1 78 (5 * g + s) ∨ (-5000 ≤ S1 100 s + S1 78 (5 * g + s) ∧ S1 100 s + S1 78 (5 * g + s) ≤ 5000)) ∧ S1 100 s + S1 78 (5 * g + s) ≤ 4000000 ∧ -5000 ≤ S1 100 s + S1 78 (5 * g + s) ∧ min 1000000 (S1 100 s + S1 78 (5 * g + s)) = hrF (T 0 20) (T 19) (smM T f) g s := fun s s0 s1 => by
          clear e hsh
          have hl := hT.1.2.2 (5 * g + s) (by omega) (by omega)
          have hd := dl_b hl
          rw [hdl (5 * g + s) (by omega) (by omega)]
          unfold hrF
          by_cases hlt : s < T 0 20
          · rw [if_pos hlt, d1 s s0 hlt]
            have hb := hbd s s0 hlt
            obtain ⟨y1, y2, y3⟩ := dl_hear (al := T 19) (f := smM T f) (g := g) (s := s) hb hl
            have hm := hdM_b (al := T 19) (f := smM T f) (g := g) (s := s) (b := 500) (by omega) hb hl
            refine ⟨?_, by omega, by omega, y1⟩
            by_cases z : hdM (T 19) (smM T f) g s = 1000000
            · exact Or.inl (y2.mpr z)
            · have := y3 z; omega
          · rw [if_neg hlt, d2 s (by omega) s1]
            omega
        obtain ⟨rc, xc, ev, lv, c1, c2, c3, c4, c5, c6, c7, c8, c9⟩ := pl_val (hP1.2.2 _ hpl a2) (hh := fun s => S1 100 s + S1 78 (5 * g + s)) (fun s s0 s1 => (hrow s s0 s1).1)
        have htv : tnM T (smM T f) g = min ev lv := by
          obtain ⟨m, hm1, hm2⟩ := (PlR_plM hP1).2 _ hpl a2
          have hmr : m = rc.length := by clear e hsh; omega
          subst hmr
          unfold tnM
          rw [if_neg (Int.not_lt.mpr hpl), c1, show ((rc.length : Nat) : Int).toNat = rc.length from rfl]
          rw [← c9]
          exact plV_congr hm2 (fun s s0 s1 => (hrow s s0 s1).2.2.2.symm)
        have go : ∀ Q' : Option AV → St → Prop, (∀ S2, Fr [61, 62] [] S1 S2 → Q' (some (.inl (tnM T (smM T f) g))) S2) → Smm H_Plans_turnOf 0 [some (.inr (.inr 57)), some (.inl (T 20 g)), some (.inr (.inr 100)), some (.inr (.inr 78)), some (.inl (5 * g)), none, none, none, none, none, none] [] S1 Q' := by
          intro Q' hq'
          refine t_turnOf_o S1 (T 20 g) g xc Q' ⟨hpl, by rw [hcnt]; exact a2, by rw [hcnt]; exact hP1.2.1.2⟩ bg c2 c4 c3 c5 (fun s s0 s1 => ⟨(hrow s s0 s1).2.2.1, (hrow s s0 s1).2.1⟩) (fun S2 e' l' hF2 _ hlv => ?_)
          have := hlv c7
          rw [c8] at this
          have hel : (ev, lv) = (e', l') := by simpa using this
          cases hel
          rw [← htv]
          exact hq' S2 hF2
        rw [← u1, ← g5m bg] at go
        refine ⟨bg, ?_⟩
        refine ⟨fun z => absurd (w1.symm.trans z) (by decide), fun _ => ?_⟩
        refine go _ (fun S2 hF2 => ?_)
        refine ⟨bg, ?_⟩
        refine next _ ((hF2.mo rfl rfl).up _ _ _ rfl) (up_s _ _ _ _) (fun j hj => ?_)
        rw [up_n _ _ _ hj, hF2.c 101 rfl]
  have times : ∀ (i : Int) (S1 : St), (((k : Int) ≤ i ∧ i ≤ T 0 20) ∧ Fr [100] [] S S1 ∧ (∀ s, 0 ≤ s → s < i → S1 100 s = smM T f s) ∧ (∀ s, T 0 20 ≤ s → s < 5 → S1 100 s = 1000000)) → Smm H_Walk_settle 2 [some (.inr (.inr 95)), some (.inl (k : Int)), some (.inl i)] [] S1 Q := by
    refine lp_up (P := fun i S1 => Smm H_Walk_settle 2 [some (.inr (.inr 95)), some (.inl (k : Int)), some (.inl i)] [] S1 Q) _ (T 0 20) ?_ ?_
    · rintro i S1 hi ⟨hi2, hF, d1, d2⟩
      have hB1 := wkB_fr_o hB hF rfl
      have w1 : S1 95 1 = 1 := hB1.1
      have w2 : S1 71 1 = T 0 20 := hB1.2.1.1.2.1
      refine sound ok_Walk_settle [45] 20 ?_
      refine ⟨fun z => absurd (w1.symm.trans z) (by decide), fun _ => ?_⟩
      refine ⟨fun _ => ?_, fun z => absurd z (by rw [w2]; omega)⟩
      exact turns 0 S1 ⟨by omega, hF.mo rfl rfl, fun s s0 s1 => d1 s s0 (by omega), d2, fun j j0 j1 => absurd j1 (by omega), fun j _ => by rw [hF.c 101 rfl]⟩
    · rintro i S1 hi ⟨hi2, hF, d1, d2⟩ ih
      have hB1 := wkB_fr_o hB hF rfl
      have w1 : S1 95 1 = 1 := hB1.1
      have w2 : S1 71 1 = T 0 20 := hB1.2.1.1.2.1
      have i0 : 0 ≤ i := by omega
      have bi : 0 ≤ i ∧ i < 5 := by omega
      have hni : ¬ S1 71 1 ≤ i := by rw [w2]; omega
      have eo : S1 99 i = f i := by rw [hF.c 99 rfl]; exact hoff i i0 hi
      have e : i + 1 = i32 (i + 1) := (i32_id (by omega) (by omega)).symm
      refine sound ok_Walk_settle [2] 60 ?_
      refine ⟨fun z => absurd (w1.symm.trans z) (by decide), fun _ => ?_⟩
      refine ⟨fun z => absurd z hni, fun _ => ?_⟩
      refine ⟨fun z => absurd (w1.symm.trans z) (by decide), fun _ => ?_⟩
      refine ⟨bi, ?_⟩
      refine t_timeOf_o T S1 i _ (smM T f) _ hT hB1.2.1 ⟨i0, hi⟩ (by rw [eo]; exact hf i i0 hi) (fun j j0 j1 => ⟨d1 j j0 j1, hbd j j0 (by clear e; omega)⟩) ?_
      refine ⟨bi, ?_⟩
      have ev : sgv (T 12) (T 13) (T 17) (T 19) (T 0 38) (fun _ => S1 99 i) (smM T f) i = smM T f i := by
        rw [sm_at hT i0 hi, eo]; rfl
      refine Smm.sub (ih _ ⟨⟨by clear e; omega, hi⟩, hF.up _ _ _ rfl, fun s s0 s1 => ?_, fun s s0 s1 => ?_⟩) ⟨Or.inr rfl, Or.inr rfl, Or.inr (sI e), trivial⟩
      · by_cases z : s = i
        · rw [z, up_s, ev]
        · rw [up_n _ _ _ z]; exact d1 s s0 (by clear e; omega)
      · rw [up_n _ _ _ (by clear e; omega)]; exact d2 s s0 s1
  refine sound ok_Walk_settle [2] 20 ?_
  exact times k S ⟨⟨Int.le_refl _, hk⟩, Fr.rf _ _ _, hat, hrest⟩
