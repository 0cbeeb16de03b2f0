/-! a solo, tried -/
theorem nd_op1 {T S : St} (hT : mOk T) (hP : PlR T S) {a y : Nat} (hy : ndI T S a y) {f : Int → Int} (hf : bd3 f) (g v : Int) : op1 T f g v = op1 T (prN (nb y) f) g v := by
  have hk4 := hT.2.1
  unfold op1
  rw [apF_congr (t := uf (tnM T (smM T f)) g v) (t' := uf (tnM T (smM T (prN (nb y) f))) g v) (fun j j0 j1 => by unfold uf; rw [nd_tn hT hP hy hf (g := j) (by omega)])]
theorem nd_hd {T S : St} (hT : mOk T) {a y : Nat} (hy : ndI T S a y) {f : Int → Int} (hf : bd3 f) {g : Int} {s : Nat} (hs : (s : Int) < T 0 20) (ha : 0 ≤ T 19 (5 * g + s) → a.testBit s = true) : hdM (T 19) (smM T f) g s = hdM (T 19) (smM T (prN (nb y) f)) g s := by
  unfold hdM
  by_cases z : T 19 (5 * g + s) < 0
  · rw [if_pos (Or.inl z), if_pos (Or.inl z)]
  · rw [nd_sm hT hy hf hs (Or.inl (ha (by omega)))]
theorem nd_be {T S : St} (hT : mOk T) (hP : PlR T S) {a y : Nat} (hy : ndI T S a y) {f : Int → Int} (hf : bd3 f) {g z k : Int} (hk : 0 ≤ k ∧ k < 10 * T 0 20) (h0 : z = 0 → ∀ s : Nat, (s : Int) < T 0 20 → 0 ≤ T 19 (5 * g + s) → a.testBit s = true) (h1 : ¬ z = 0 → ∀ s : Nat, (s : Int) < T 0 20 → a.testBit s = true) : beP T g z k f = beP T g z k (prN (nb y) f) := by
  obtain ⟨s, hs⟩ : ∃ s : Nat, k / 10 = s := ⟨(k / 10).toNat, by omega⟩
  have hsl : (s : Int) < T 0 20 := by omega
  unfold beP
  rw [nd_op1 hT hP hy hf, hs]
  by_cases z0 : z = 0
  · rw [if_pos z0, if_pos z0, nd_hd hT hy hf hsl (h0 z0 s hsl)]
  · rw [if_neg z0, if_neg z0, nd_sm hT hy hf hsl (Or.inl (h1 z0 s hsl))]
theorem nd_wa {T S : St} (hT : mOk T) (hP : PlR T S) {a y : Nat} (hy : ndI T S a y) {f : Int → Int} (hf : bd3 f) {g : Int} (hg : 0 ≤ g ∧ g < T 0 19) (n : Int) : waP T g n f = waP T g n (prN (nb y) f) := by
  unfold waP
  rw [nd_op1 hT hP hy hf, nd_tn hT hP hy hf hg]
theorem cn_X {T : St} (hT : mAs T) {y : Nat} {P : (Int → Int) → Bool} (h : ∀ f, bd3 f → P f = P (prN (nb y) f)) : wgX T y * (((wyX T y).countP P : Nat) : Int) = (((wyM T).countP P : Nat) : Int) := by
  rw [cnt_sm, cnt_sm, wX_sum hT (y := y) (fun f hf => by rw [h f hf])]
theorem bitF_tb {p : Nat → Bool} {k : Nat} (hk : k ≤ 5) : ∃ x : Nat, bitF p k = (x : Int) ∧ x < 32 ∧ ∀ j : Nat, j < k → p j = true → x.testBit j = true := by
  obtain ⟨x, h1, h2, h3⟩ := bitF_add (p := p) k (by omega)
  have h4 : 2 ^ k ≤ 2 ^ 5 := Nat.pow_le_pow_right (by omega) hk
  refine ⟨x, h1, by omega, fun j hj hp => ?_⟩
  rw [Nat.testBit_eq_decide_div_mod_eq, h3 j, if_pos ⟨hj, hp⟩]
  rfl
theorem all_tb {k : Nat} (hk : k ≤ 5) : ∃ x : Nat, i32 (ishl 1 (k : Int) - 1) = (x : Int) ∧ x < 32 ∧ ∀ j : Nat, j < k → x.testBit j = true := by
  refine ⟨2 ^ k - 1, ?_, ?_, fun j hj => ?_⟩
  · obtain h | h | h | h | h | h : k = 0 ∨ k = 1 ∨ k = 2 ∨ k = 3 ∨ k = 4 ∨ k = 5 := by omega
    all_goals (rw [h]; decide)
  · have h4 : 2 ^ k ≤ 2 ^ 5 := Nat.pow_le_pow_right (by omega) hk
    omega
  · rw [Nat.testBit_two_pow_sub_one]
    exact decide_eq_true hj
set_option maxHeartbeats 2000000 in
theorem t_soLoop (T S S1 : St) (g : Int) (z : Int) (a y : Nat) (Q : Option AV → St → Prop) (hT : mAs T) (hg : 0 ≤ g ∧ g < T 0 19) (hz : z = 0 ∨ z = 1) (hFA : Fr [112, 114, 115, 116, 61, 62, 99, 100, 101, 96, 97, 98] [(113, 1), (113, 4), (95, 1), (95, 2)] S S1) (hW1 : wkI_l T S1 (fsF (rcN (nb y) (T 18)) (T 0 20).toNat)) (hr1 : ∀ s, 0 ≤ s → s < T 0 20 → S1 98 s = rcN (nb y) (T 18) s) (hg1 : S1 95 2 = wgX T y) (h0 : oI (beP T g z) (10 * T 0 20) (wgX T y) [] S1) (hQ : ∀ S', Fr [112, 114, 115, 116, 61, 62, 99, 100, 101, 96, 97, 98] [(113, 1), (113, 4), (95, 1), (95, 2)] S S' → oI (beP T g z) (10 * T 0 20) (wgX T y) (wyX T y) S' → Q none S') : Smm H_Solo_trySimple 41 [some (.inr (.inr 111)), some (.inr (.inr 95)), some (.inr (.inr 63)), some (.inr (.inr 80)), some (.inl g), some (.inl z), some (.inl (a : Int)), some (.inl ((wyX T y).length : Int)), some (.inl 0), none, none] [] S1 Q := by
  have hn := hT.1.1.1
  obtain ⟨g1, g2, g3, g4⟩ := wX_b hT y
  have loop : ∀ (post pre : List (Int → Int)) (f : Int → Int) (q : St × Int × Option AV × Option AV), wyX T y = pre ++ f :: post → (Fr [112, 114, 115, 116, 61, 62, 99, 100, 101] [(113, 1), (113, 4)] S1 q.1 ∧ wkI_l T q.1 f ∧ oI (beP T g z) (10 * T 0 20) (wgX T y) pre q.1 ∧ q.2.1 = pre.length) → Smm H_Solo_trySimple 41 [some (.inr (.inr 111)), some (.inr (.inr 95)), some (.inr (.inr 63)), some (.inr (.inr 80)), some (.inl g), some (.inl z), some (.inl (a : Int)), some (.inl ((wyX T y).length : Int)), some (.inl q.2.1), q.2.2.1, q.2.2.2] [] q.1 Q := by
    refine lp_wy (P := fun _ (q : St × Int × Option AV × Option AV) => Smm H_Solo_trySimple 41 [some (.inr (.inr 111)), some (.inr (.inr 95)), some (.inr (.inr 63)), some (.inr (.inr 80)), some (.inl g), some (.inl z), some (.inl (a : Int)), some (.inl ((wyX T y).length : Int)), some (.inl q.2.1), q.2.2.1, q.2.2.2] [] q.1 Q) (fun pre f q => Fr [112, 114, 115, 116, 61, 62, 99, 100, 101] [(113, 1), (113, 4)] S1 q.1 ∧ wkI_l T q.1 f ∧ oI (beP T g z) (10 * T 0 20) (wgX T y) pre q.1 ∧ q.2.1 = pre.length) ?_
    rintro pre f post ⟨S2, i, x9, x10⟩ hl ⟨hF2, hW2, ha, hi⟩ ih
    dsimp only at hF2 hW2 ha hi ⊢
    have hfm : f ∈ wyX T y := by rw [hl]; exact List.mem_append_right _ List.mem_cons_self
    have hof := bd_of (T := T) (wX_mem hT hfm).2.1
    have hlen : (wyX T y).length = pre.length + (post.length + 1) := by rw [hl]; simp
    have hlt : ¬ ((wyX T y).length : Int) ≤ i := by omega
    have hwt : S2 95 2 = wgX T y := by rw [hF2.c 95 rfl]; exact hg1
    refine sound ok_Solo_trySimple [48] 40 ?_
    refine ⟨fun z => absurd z hlt, fun _ => ?_⟩
    refine so_body T S2 f pre g z (wgX T y) (wyX T y).length _ _ i x9 x10 Q hT hof hW2 hg hz hwt g1 (by omega) g4 ha (fun S3 v v' hF3 hs3 => ?_)
    have hW3 := wkI_fr_l hW2 hF3 rfl rfl
    have hFS := hF2.tr (hF3.mo rfl rfl : Fr [112, 114, 115, 116, 61, 62, 99, 100, 101] [(113, 1), (113, 4)] S2 S3)
    have e : ((pre.length + 1 : Nat) : Int) = i32 (i + 1) := by rw [hi]; exact i32_s (by omega)
    refine sound ok_Solo_trySimple [41] 20 ?_
    refine t_step_l T S3 f (rcN (nb y) (T 18)) pre post _ hT hW3 (fun s s0 s1 => ⟨by rw [hFS.c 98 rfl]; exact hr1 s s0 s1, ?_⟩) hl (fun S4 f' hF4 hW4 hp => ?_)
    · have := g3 s.toNat (by clear e; omega)
      rw [show ((s.toNat : Nat) : Int) = s by clear e; omega] at this
      exact this
    · have hFS4 := hFS.tr (hF4.mo rfl rfl : Fr [112, 114, 115, 116, 61, 62, 99, 100, 101] [(113, 1), (113, 4)] S3 S4)
      have hs4 : oI (beP T g z) (10 * T 0 20) (wgX T y) (pre ++ [f]) S4 := fun j j0 j1 => by rw [hF4.c 112 rfl]; exact hs3 j j0 j1
      rcases hp with hp | ⟨post', hp⟩
      · have hend : i32 (i + 1) = ((wyX T y).length : Int) := by rw [← e, hlen, hp]; rfl
        rw [hp] at hl
        rw [← hl] at hs4
        refine sound ok_Solo_trySimple [] 20 ?_
        exact ⟨fun _ => hQ S4 (hFA.tr (hFS4.mo rfl rfl)) hs4, fun z => absurd z (by rw [hend]; exact Int.lt_irrefl _)⟩
      · exact Smm.sub (ih f' post' (S4, ((pre.length + 1 : Nat) : Int), some (.inl v), v') hp ⟨hFS4, hW4, hs4, by simp⟩) ⟨Or.inr rfl, Or.inr rfl, Or.inr rfl, Or.inr rfl, Or.inr rfl, Or.inr rfl, Or.inr rfl, Or.inr rfl, Or.inr (sI e), Or.inr rfl, Or.inr rfl, trivial⟩
  obtain ⟨r, hr⟩ := wy_first (err := rcN (nb y) (T 18)) (T 0 20).toNat (fun i hi => (g3 i hi).1)
  exact loop r [] _ (S1, 0, none, none) hr ⟨Fr.rf _ _ _, hW1, h0, rfl⟩
set_option maxHeartbeats 2000000 in
theorem t_swLoop (T S S1 : St) (g : Int) (y : Nat) (Q : Option AV → St → Prop) (hT : mAs T) (hg : 0 ≤ g ∧ g < T 0 19) (hFA : Fr [112, 114, 115, 116, 61, 62, 99, 100, 101, 96, 97, 98] [(113, 1), (113, 4), (95, 1), (95, 2)] S S1) (hW1 : wkI_l T S1 (fsF (rcN (nb y) (T 18)) (T 0 20).toNat)) (hr1 : ∀ s, 0 ≤ s → s < T 0 20 → S1 98 s = rcN (nb y) (T 18) s) (hg1 : S1 95 2 = wgX T y) (h0 : oI (waP T g) 10 (wgX T y) [] S1) (hQ : ∀ S', Fr [112, 114, 115, 116, 61, 62, 99, 100, 101, 96, 97, 98] [(113, 1), (113, 4), (95, 1), (95, 2)] S S' → oI (waP T g) 10 (wgX T y) (wyX T y) S' → Q none S') : Smm H_Solo_tryWaiting 16 [some (.inr (.inr 111)), some (.inr (.inr 95)), some (.inr (.inr 63)), some (.inr (.inr 80)), some (.inl g), some (.inl ((wyX T y).length : Int)), some (.inl 0)] [] S1 Q := by
  have hn := hT.1.1.1
  obtain ⟨g1, g2, g3, g4⟩ := wX_b hT y
  have loop : ∀ (post pre : List (Int → Int)) (f : Int → Int) (q : St × Int × Unit), wyX T y = pre ++ f :: post → (Fr [112, 114, 115, 116, 61, 62, 99, 100, 101] [(113, 1), (113, 4)] S1 q.1 ∧ wkI_l T q.1 f ∧ oI (waP T g) 10 (wgX T y) pre q.1 ∧ q.2.1 = pre.length) → Smm H_Solo_tryWaiting 16 [some (.inr (.inr 111)), some (.inr (.inr 95)), some (.inr (.inr 63)), some (.inr (.inr 80)), some (.inl g), some (.inl ((wyX T y).length : Int)), some (.inl q.2.1)] [] q.1 Q := by
    refine lp_wy (P := fun _ (q : St × Int × Unit) => Smm H_Solo_tryWaiting 16 [some (.inr (.inr 111)), some (.inr (.inr 95)), some (.inr (.inr 63)), some (.inr (.inr 80)), some (.inl g), some (.inl ((wyX T y).length : Int)), some (.inl q.2.1)] [] q.1 Q) (fun pre f q => Fr [112, 114, 115, 116, 61, 62, 99, 100, 101] [(113, 1), (113, 4)] S1 q.1 ∧ wkI_l T q.1 f ∧ oI (waP T g) 10 (wgX T y) pre q.1 ∧ q.2.1 = pre.length) ?_
    rintro pre f post ⟨S2, i, _⟩ hl ⟨hF2, hW2, ha, hi⟩ ih
    dsimp only at hF2 hW2 ha hi ⊢
    have hfm : f ∈ wyX T y := by rw [hl]; exact List.mem_append_right _ List.mem_cons_self
    have hof := bd_of (T := T) (wX_mem hT hfm).2.1
    have hlen : (wyX T y).length = pre.length + (post.length + 1) := by rw [hl]; simp
    have hlt : ¬ ((wyX T y).length : Int) ≤ i := by omega
    have hwt : S2 95 2 = wgX T y := by rw [hF2.c 95 rfl]; exact hg1
    refine sound ok_Solo_tryWaiting [46] 40 ?_
    refine ⟨fun z => absurd z hlt, fun _ => ?_⟩
    obtain ⟨k, hk⟩ : ∃ k : Nat, T 0 19 = k := ⟨(T 0 19).toNat, by omega⟩
    obtain ⟨n, hnd⟩ : ∃ n : Nat, T 0 21 = n := ⟨(T 0 21).toNat, by have := hT.2.1; omega⟩
    have hk4 := hT.1.2.1
    have hgk : 0 ≤ g ∧ g < (k : Int) := by omega
    have hg4 : 0 ≤ g ∧ g < 4 := by omega
    refine t_soFind T S2 f g n k _ hT hof hW2 hnd hk (fun S2' hF2' hsp => ?_)
    have hW2' := wkI_fr_l hW2 hF2' rfl rfl
    have etn : S2' 101 g = tnM T (smM T f) g := hW2'.2.2.2.2 g hg.1 hg.2
    have ewt : S2' 95 2 = wgX T y := by rw [hF2'.c 95 rfl]; exact hwt
    have htb := tnM_b hT.1 hof hg4.1 hg4.2
    have ha' : oI (waP T g) 10 (wgX T y) pre S2' := fun j j0 j1 => by rw [hF2'.c 112 rfl]; exact ha j j0 j1
    have go := fun Q' hq' => so_row hT hof hnd hk hgk (h := tnM T (smM T f) g) (base := tnM T (smM T f) g) (by omega) 0 (wgX T y) (by omega) (by omega) hsp (oI_b ha' g1.1 (by omega) g4) Q' hq'
    rw [← ewt, ← etn] at go
    refine ⟨hg4, ?_⟩
    refine go _ (fun S3 hF3' d3 => ?_)
    rw [ewt, etn] at d3
    have hF3 : Fr [112, 114, 115, 116] [(113, 1), (113, 4)] S2 S3 := (hF2'.mo rfl rfl).tr (hF3'.mo rfl rfl)
    have hs3 : oI (waP T g) 10 (wgX T y) (pre ++ [f]) S3 := fun j j0 j1 => by
      rw [d3 j, ha' j j0 j1]
      by_cases u : j < 10
      · rw [if_pos u, if_pos u, if_pos (show 0 ≤ j ∧ j ≤ 0 + 9 by omega), cnt_1, Int.mul_add]
        unfold waP
        rw [show j - 0 = j by omega]
      · rw [if_neg u, if_neg u, if_neg (show ¬ (0 ≤ j ∧ j ≤ 0 + 9) by omega)]
        rfl
    have hW3 := wkI_fr_l hW2 hF3 rfl rfl
    have hFS := hF2.tr (hF3.mo rfl rfl : Fr [112, 114, 115, 116, 61, 62, 99, 100, 101] [(113, 1), (113, 4)] S2 S3)
    have e : ((pre.length + 1 : Nat) : Int) = i32 (i + 1) := by rw [hi]; exact i32_s (by omega)
    refine sound ok_Solo_tryWaiting [16] 20 ?_
    refine t_step_l T S3 f (rcN (nb y) (T 18)) pre post _ hT hW3 (fun s s0 s1 => ⟨by rw [hFS.c 98 rfl]; exact hr1 s s0 s1, ?_⟩) hl (fun S4 f' hF4 hW4 hp => ?_)
    · have := g3 s.toNat (by clear e; omega)
      rw [show ((s.toNat : Nat) : Int) = s by clear e; omega] at this
      exact this
    · have hFS4 := hFS.tr (hF4.mo rfl rfl : Fr [112, 114, 115, 116, 61, 62, 99, 100, 101] [(113, 1), (113, 4)] S3 S4)
      have hs4 : oI (waP T g) 10 (wgX T y) (pre ++ [f]) S4 := fun j j0 j1 => by rw [hF4.c 112 rfl]; exact hs3 j j0 j1
      rcases hp with hp | ⟨post', hp⟩
      · have hend : i32 (i + 1) = ((wyX T y).length : Int) := by rw [← e, hlen, hp]; rfl
        rw [hp] at hl
        rw [← hl] at hs4
        refine sound ok_Solo_tryWaiting [] 20 ?_
        exact ⟨fun _ => hQ S4 (hFA.tr (hFS4.mo rfl rfl)) hs4, fun z => absurd z (by rw [hend]; exact Int.lt_irrefl _)⟩
      · exact Smm.sub (ih f' post' (S4, ((pre.length + 1 : Nat) : Int), ()) hp ⟨hFS4, hW4, hs4, by simp⟩) ⟨Or.inr rfl, Or.inr rfl, Or.inr rfl, Or.inr rfl, Or.inr rfl, Or.inr rfl, Or.inr (sI e), trivial⟩
  obtain ⟨r, hr⟩ := wy_first (err := rcN (nb y) (T 18)) (T 0 20).toNat (fun i hi => (g3 i hi).1)
  exact loop r [] _ (S1, 0, ()) hr ⟨Fr.rf _ _ _, hW1, h0, rfl⟩
set_option maxHeartbeats 2000000 in
theorem t_trySimple (T S : St) (g z : Int) (Q : Option AV → St → Prop) (hT : mAs T) (hR : lr_l T S) (hP : PlR T S) (hpo : ∀ g, 0 ≤ g → g < T 0 19 → S 80 g = T 20 g) (hg : 0 ≤ g ∧ g < T 0 19) (hz : z = 0 ∨ z = 1) (hQ : ∀ S', Fr [112, 114, 115, 116, 61, 62, 99, 100, 101, 96, 97, 98] [(113, 1), (113, 4), (95, 1), (95, 2)] S S' → (∀ j, 0 ≤ j → j < 10 * T 0 20 → S' 112 j = (((wyM T).countP (beP T g z j) : Nat) : Int)) → Q none S') : Smm H_Solo_trySimple 0 [some (.inr (.inr 111)), some (.inr (.inr 95)), some (.inr (.inr 63)), some (.inr (.inr 80)), some (.inl g), some (.inl z), none, none, none, none, none] [] S Q := by
  have hn := hT.1.1.1
  have hk4 := hT.1.2.1
  obtain ⟨n, hnn⟩ : ∃ n : Nat, T 0 20 = n := ⟨(T 0 20).toNat, by omega⟩
  refine sound ok_Solo_trySimple [26] 40 ?_
  refine t_soClear S _ (fun S0 hF0 z0 => ?_)
  have hR0 : lr_l T S0 := lr_sm_l hR (hF0.c _ rfl) (hF0.c _ rfl) (hF0.c _ rfl) (hF0.c _ rfl) (hF0.c _ rfl) (hF0.c _ rfl) (hF0.c _ rfl) (hF0.c _ rfl)
  have hP0 : PlR T S0 := PlR_sm hP (hF0.c _ rfl) (hF0.c _ rfl) (hF0.c _ rfl) (hF0.c _ rfl)
  have rest : ∀ (a : Nat), a < 32 → (z = 0 → ∀ s : Nat, (s : Int) < T 0 20 → 0 ≤ T 19 (5 * g + s) → a.testBit s = true) → (¬ z = 0 → ∀ s : Nat, (s : Int) < T 0 20 → a.testBit s = true) → Smm H_Solo_trySimple 26 [some (.inr (.inr 111)), some (.inr (.inr 95)), some (.inr (.inr 63)), some (.inr (.inr 80)), some (.inl g), some (.inl z), none, none, none, none, none] [.inl (a : Int)] S0 Q := by
    intro a ha b0 b1
    refine sound ok_Solo_trySimple [41] 40 ?_
    refine t_start_lb T S0 a _ hT hR0 hP0 (fun g g0 g1 => by rw [hF0.c 80 rfl]; exact hpo g g0 g1) ha (fun S1 y hF1 hy hW1 hr1 hg1 => ?_)
    refine t_soLoop T S S1 g z a y Q hT hg hz ((hF0.mo rfl rfl).tr (hF1.mo rfl rfl)) hW1 hr1 hg1 (fun j j0 j1 => ?_) (fun S2 hF2 h2 => hQ S2 hF2 (fun j j0 j1 => ?_))
    · rw [hF1.c 112 rfl, z0 j j0 j1, List.countP_nil]
      simp
    · rw [h2 j j0 (by omega), if_pos j1]
      exact cn_X hT (fun f hf => nd_be hT.1 hW1.1.2.2.1 hy hf ⟨j0, j1⟩ b0 b1)
  refine ⟨fun hz0 => ?_, fun hz0 => ?_⟩
  · refine t_heardBy_l T S0 g _ hT.1 hR0 (by omega) ?_
    obtain ⟨x, e1, e2, e3⟩ := bitF_tb (p := fun s => decide (0 ≤ T 19 (5 * g + s))) (k := (T 0 20).toNat) (by omega)
    have := rest x e2 (fun _ s hs hl => e3 s (by omega) (decide_eq_true hl)) (fun q => absurd hz0 q)
    rw [← e1] at this
    exact this
  · obtain ⟨x, e1, e2, e3⟩ := all_tb (k := n) (by omega)
    have := rest x e2 (fun q => absurd q hz0) (fun _ s hs => e3 s (by clear e1; omega))
    have w2 : S0 63 1 = n := by rw [← hnn]; exact hR0.1.2.1
    rw [← e1, ← w2] at this
    exact this
set_option maxHeartbeats 2000000 in
theorem t_tryWaiting (T S : St) (g : Int) (Q : Option AV → St → Prop) (hT : mAs T) (hR : lr_l T S) (hP : PlR T S) (hpo : ∀ g, 0 ≤ g → g < T 0 19 → S 80 g = T 20 g) (hg : 0 ≤ g ∧ g < T 0 19) (hQ : ∀ S', Fr [112, 114, 115, 116, 61, 62, 99, 100, 101, 96, 97, 98] [(113, 1), (113, 4), (95, 1), (95, 2)] S S' → (∀ j, 0 ≤ j → j < 10 → S' 112 j = (((wyM T).countP (waP T g j) : Nat) : Int)) → Q none S') : Smm H_Solo_tryWaiting 0 [some (.inr (.inr 111)), some (.inr (.inr 95)), some (.inr (.inr 63)), some (.inr (.inr 80)), some (.inl g), none, none] [] S Q := by
  refine sound ok_Solo_tryWaiting [16] 40 ?_
  refine t_soClear S _ (fun S0 hF0 z0 => ?_)
  have hR0 : lr_l T S0 := lr_sm_l hR (hF0.c _ rfl) (hF0.c _ rfl) (hF0.c _ rfl) (hF0.c _ rfl) (hF0.c _ rfl) (hF0.c _ rfl) (hF0.c _ rfl) (hF0.c _ rfl)
  have hP0 : PlR T S0 := PlR_sm hP (hF0.c _ rfl) (hF0.c _ rfl) (hF0.c _ rfl) (hF0.c _ rfl)
  refine t_start_lb T S0 0 _ hT hR0 hP0 (fun g g0 g1 => by rw [hF0.c 80 rfl]; exact hpo g g0 g1) (by decide) (fun S1 y hF1 hy hW1 hr1 hg1 => ?_)
  refine t_swLoop T S S1 g y Q hT hg ((hF0.mo rfl rfl).tr (hF1.mo rfl rfl)) hW1 hr1 hg1 (fun j j0 j1 => ?_) (fun S2 hF2 h2 => hQ S2 hF2 (fun j j0 j1 => ?_))
  · rw [hF1.c 112 rfl, z0 j j0 j1, List.countP_nil]
    simp
  · rw [h2 j j0 (by omega), if_pos j1]
    exact cn_X hT (fun f hf => nd_wa hT.1 hW1.1.2.2.1 hy hf hg j)
set_option maxHeartbeats 2000000 in
theorem t_soAnswer (S : St) (N : Nat) (what : Int) (Q : Option AV → St → Prop) (hN : 1 ≤ N ∧ N ≤ 50) (hQ : Q (some (.inl (if what = 0 then bmF (S 112) N else S 112 (bmF (S 112) N)))) S) : Smm H_Solo_answer 0 [some (.inr (.inr 111)), some (.inl (N : Int)), some (.inl what), none, none] [] S Q := by
  have bb := bmF_b (S 112)
  have fin : ∀ x4 : Option AV, Smm H_Solo_answer 43 [some (.inr (.inr 111)), some (.inl (N : Int)), some (.inl what), some (.inl (bmF (S 112) N)), x4] [] S Q := by
    intro x4
    have hb := bb N
    have hix : 0 ≤ bmF (S 112) N ∧ bmF (S 112) N < 50 := by omega
    refine sound ok_Solo_answer [] 20 ?_
    refine ⟨fun z => ?_, fun z => ?_⟩
    · rw [if_neg z] at hQ
      exact ⟨hix, hQ⟩
    · rw [if_pos z] at hQ
      exact hQ
  have loop : ∀ (d k : Nat), k + d = N → 1 ≤ k → Smm H_Solo_answer 5 [some (.inr (.inr 111)), some (.inl (N : Int)), some (.inl what), some (.inl (bmF (S 112) k)), some (.inl (k : Int))] [] S Q := by
    intro d
    induction d with
    | zero =>
      intro k hk hk1
      have : k = N := by omega
      subst this
      refine sound ok_Solo_answer [5, 43] 20 ?_
      exact ⟨fun _ => fin _, fun z => absurd z (by omega)⟩
    | succ d ih =>
      intro k hk hk1
      have hb := bb k
      have hix : 0 ≤ bmF (S 112) k ∧ bmF (S 112) k < 50 := by omega
      have hkx : (0 : Int) ≤ k ∧ (k : Int) < 50 := by omega
      have c1 : ¬ (N : Int) ≤ k := by omega
      have c2 : ¬ (50 : Int) ≤ k := by omega
      have ih := ih (k + 1) (by omega) (by omega)
      rw [bmF] at ih
      have e : ((k + 1 : Nat) : Int) = i32 ((k : Int) + 1) := i32_s (by omega)
      refine sound ok_Solo_answer [5] 40 ?_
      refine ⟨fun z => absurd z c1, fun _ => ?_⟩
      refine ⟨fun z => absurd z c2, fun _ => ?_⟩
      refine ⟨hkx, ?_⟩
      refine ⟨hix, ?_⟩
      refine ⟨fun z => ?_, fun z => ?_⟩
      · rw [if_neg (Int.not_lt.mpr z)] at ih
        exact Smm.sub ih ⟨Or.inr rfl, Or.inr rfl, Or.inr rfl, Or.inr rfl, Or.inr (sI e), trivial⟩
      · rw [if_pos z] at ih
        exact Smm.sub ih ⟨Or.inr rfl, Or.inr rfl, Or.inr rfl, Or.inr rfl, Or.inr (sI e), trivial⟩
  have go := loop (N - 1) 1 (by omega) (by omega)
  rw [bmF_1] at go
  refine sound ok_Solo_answer [5] 20 ?_
  exact go
