/-! all ways, by those that are walked -/
def bd3 (f : Int → Int) : Prop := ∀ i, -3 ≤ f i ∧ f i ≤ 3
def cl3 (f : Int → Int) : Int → Int := fun i => max (-3) (min 3 (f i))
theorem cl3_b (f : Int → Int) : bd3 (cl3 f) := fun i => by unfold cl3; omega
theorem cl3_id {f : Int → Int} (h : bd3 f) : cl3 f = f := by
  funext i
  have := h i
  unfold cl3
  omega
theorem cl3_pr (nd : Int → Bool) (f : Int → Int) : cl3 (prN nd f) = prN nd (cl3 f) := by
  funext i
  unfold cl3 prN
  split
  · rfl
  · rfl
theorem wy_bd {err : Int → Int} {n : Nat} (he : ∀ i : Nat, i < n → 0 ≤ err i ∧ err i ≤ 3) {f : Int → Int} (hf : f ∈ wyF err n) : bd3 f := fun i => by
  obtain ⟨h1, h2⟩ := wy_mem n (fun i hi => (he i hi).1) f hf
  by_cases hi : 0 ≤ i ∧ i < n
  · have := h1 i hi.1 hi.2
    have h3 := he i.toNat (by omega)
    rw [show ((i.toNat : Nat) : Int) = i by omega] at h3
    omega
  · have := h2 i (by omega)
    omega
theorem wsumB {nd : Int → Bool} {err : Int → Int} {n : Nat} (he : ∀ i : Nat, i < n → 0 ≤ err i ∧ err i ≤ 3) {φ : (Int → Int) → Int} (hφ : ∀ f, bd3 f → φ f = φ (prN nd f)) : smL φ (wyF err n) = wgN nd err n * smL φ (wyF (rcN nd err) n) := by
  have hr : ∀ i : Nat, i < n → 0 ≤ rcN nd err i ∧ rcN nd err i ≤ 3 := fun i hi => by
    have := he i hi
    unfold rcN
    split <;> omega
  have h1 := wsum (nd := nd) n (fun i hi => (he i hi).1) (fun f => φ (cl3 f)) (fun f => by rw [cl3_pr]; exact hφ _ (cl3_b f))
  rw [smL_congr _ (fun f hf => by rw [cl3_id (wy_bd he hf)]), smL_congr (g := fun f => φ (cl3 f)) (g' := φ) (wyF (rcN nd err) n) (fun f hf => by rw [cl3_id (wy_bd hr hf)])] at h1
  exact h1
theorem bd_of {T : St} {f : Int → Int} (h : bd3 f) : ofOk (T 0 20) f := fun i _ _ => h i
theorem bd_pr {nd : Int → Bool} {f : Int → Int} (h : bd3 f) : bd3 (prN nd f) := fun i => by
  have := h i
  unfold prN
  split <;> omega
/-- the times asked or used are the same on the way that is walked -/
theorem nd_sm {T S : St} (hT : mOk T) {a y : Nat} (hy : ndI T S a y) {f : Int → Int} (hf : bd3 f) {s : Nat} (hs : (s : Int) < T 0 20) (hu : a.testBit s = true ∨ ∃ g, (0 ≤ g ∧ g < T 0 19) ∧ usB T S g s) : smM T f s = smM T (prN (nb y) f) s := by
  have hcl : ndC T (nb y) := fun s s0 s1 h1 h2 => by
    have := hy.2.1 s.toNat (by omega) h1
    rw [show ((s.toNat : Nat) : Int) = s by omega] at this
    exact this h2
  by_cases h : nb y s = true
  · refine sm_dep hT hcl (fun i i0 i1 hi => ?_) (s + 1) s (by omega) hs (by omega) h
    unfold prN
    rw [if_pos hi]
  · have hz : smM T (fun _ => 0) s = 1000000 := by
      by_cases z : smM T (fun _ => 0) s = 1000000
      · exact z
      · exact absurd (hy.2.2 s hs hu z) (by unfold nb at h; simpa using h)
    rw [sm_never hT (ofz hT) (bd_of hf) (s + 1) s (by omega) hs (by omega) hz, sm_never hT (ofz hT) (bd_of (bd_pr hf)) (s + 1) s (by omega) hs (by omega) hz]
theorem nd_tn {T S : St} (hT : mOk T) (hP : PlR T S) {a y : Nat} (hy : ndI T S a y) {f : Int → Int} (hf : bd3 f) {g : Int} (hg : 0 ≤ g ∧ g < T 0 19) : tnM T (smM T f) g = tnM T (smM T (prN (nb y) f)) g := by
  have hk4 := hT.2.1
  exact tn_dep hT hP (sm_bd hT (bd_of hf)) (sm_bd hT (bd_of (bd_pr hf))) (by omega) (fun s hs => nd_sm hT hy hf hs.2.2.1 (Or.inr ⟨g, hg, hs⟩))
theorem nd_ap {T S : St} (hT : mOk T) (hP : PlR T S) {a y : Nat} (hy : ndI T S a y) {f : Int → Int} (hf : bd3 f) : apM T f = apM T (prN (nb y) f) := by
  have hk4 := hT.2.1
  unfold apM
  exact apF_congr (fun j j0 j1 => nd_tn hT hP hy hf (by omega))
theorem nd_op {T S : St} (hT : mOk T) (hP : PlR T S) {a y : Nat} (hy : ndI T S a y) {f : Int → Int} (hf : bd3 f) : opM T f = opM T (prN (nb y) f) := by
  unfold opM
  rw [nd_ap hT hP hy hf]
def inB (b : Bool) : Int := if b = true then 1 else 0
theorem cnt_sm (p : (Int → Int) → Bool) : ∀ l : List (Int → Int), ((l.countP p : Nat) : Int) = smL (fun f => inB (p f)) l
  | [] => rfl
  | f :: l => by
    rw [List.countP_cons, smL, ← cnt_sm p l]
    unfold inB
    split <;> push_cast <;> omega
/-- the ways walked -/
def wyX (T : St) (y : Nat) : List (Int → Int) := wyF (rcN (nb y) (T 18)) (T 0 20).toNat
def wgX (T : St) (y : Nat) : Int := wgN (nb y) (T 18) (T 0 20).toNat
theorem er_b {T : St} (hT : mAs T) : ∀ i : Nat, i < (T 0 20).toNat → 0 ≤ T 18 i ∧ T 18 i ≤ 3 := fun i hi => hT.2.2 i (by omega) (by have := hT.1.1.1; omega)
theorem wX_b {T : St} (hT : mAs T) (y : Nat) : (1 ≤ wgX T y ∧ wgX T y ≤ 16807) ∧ (1 ≤ ((wyX T y).length : Int) ∧ ((wyX T y).length : Int) ≤ 16807) ∧ (∀ i : Nat, i < (T 0 20).toNat → 0 ≤ rcN (nb y) (T 18) i ∧ rcN (nb y) (T 18) i ≤ 3) ∧ wgX T y * ((wyX T y).length : Int) ≤ 16807 := by
  have hn := hT.1.1.1
  have h := wn_b hT (nb y) (T 0 20).toNat (by omega)
  have h2 := (wgN_b (nd := nb y) (T 0 20).toNat (er_b hT)).2
  have h3 := wyM_len hT
  refine ⟨h.1, h.2.1, h.2.2, ?_⟩
  show wgN (nb y) (T 18) (T 0 20).toNat * ((wyF (rcN (nb y) (T 18)) (T 0 20).toNat).length : Int) ≤ 16807
  rw [h2]
  unfold wyM at h3
  omega
theorem wX_sum {T : St} (hT : mAs T) {y : Nat} {φ : (Int → Int) → Int} (hφ : ∀ f, bd3 f → φ f = φ (prN (nb y) f)) : smL φ (wyM T) = wgX T y * smL φ (wyX T y) := wsumB (er_b hT) hφ
theorem wX_mem {T : St} (hT : mAs T) {y : Nat} {f : Int → Int} (hf : f ∈ wyX T y) : f ∈ wyM T ∧ bd3 f ∧ prN (nb y) f = f := by
  obtain ⟨h1, h2⟩ := sub_mem (fun i hi => (er_b hT i hi).1) hf
  exact ⟨h1, wy_bd (er_b hT) h1, h2⟩
theorem wM_mem {T : St} (hT : mAs T) {y : Nat} {f : Int → Int} (hf : f ∈ wyM T) : prN (nb y) f ∈ wyX T y ∧ bd3 f := ⟨pr_mem (fun i hi => (er_b hT i hi).1) hf, wy_bd (er_b hT) hf⟩
/-- in how many ways it opens -/
theorem cnt_X {T S : St} (hT : mAs T) (hP : PlR T S) {a y : Nat} (hy : ndI T S a y) : cntM T = wgX T y * (((wyX T y).countP (opM T) : Nat) : Int) := by
  unfold cntM
  rw [cnt_sm, cnt_sm]
  exact wX_sum hT (fun f hf => by rw [nd_op hT.1 hP hy hf])
theorem wg_mul {g : Int} {a b : Nat} (hg : 1 ≤ g) (h : a ≤ b) (hb : g * (b : Int) ≤ 16807) : 0 ≤ g * (a : Int) ∧ g * (a : Int) ≤ 16807 := by
  have h1 : 0 ≤ g * (a : Int) := Int.mul_nonneg (by omega) (by omega)
  have h2 : g * (a : Int) ≤ g * (b : Int) := Int.mul_le_mul_of_nonneg_left (by omega) (by omega)
  omega
set_option maxHeartbeats 2000000 in
theorem t_tally_lp (T S : St) (Q : Option AV → St → Prop) (hT : mAs T) (hR : lr_l T S) (hP : PlR T S) (hpo : ∀ g, 0 ≤ g → g < T 0 19 → S 41 g = T 20 g) (hQ : ∀ S', Fr [61, 62, 96, 97, 98, 99, 100, 101, 103] [(95, 1), (95, 2), (102, 1)] S S' → Q (some (.inl (cntM T))) S') : Smm H_Walk_tally 0 [some (.inr (.inr 95)), some (.inr (.inr 63)), some (.inr (.inr 41)), none, none, none] [] S Q := by
  have hn := hT.1.1.1
  refine sound ok_Walk_tally [14] 40 ?_
  refine t_start_lp T S 0 _ hT hR hP hpo (by decide) (fun S1 y hF1 hy hW1 hr1 hg1 => ?_)
  have hy1 := hy
  obtain ⟨g1, g2, g3, g4⟩ := wX_b hT y
  have hcn := cnt_X hT hW1.1.2.2.1 hy
  have loop : ∀ (post pre : List (Int → Int)) (f : Int → Int) (q : St × Int × Int), wyX T y = pre ++ f :: post → (Fr [61, 62, 99, 100, 101, 103] [(102, 1)] S1 q.1 ∧ wkI_l T q.1 f ∧ q.2.1 = wgX T y * ((pre.countP (opM T) : Nat) : Int) ∧ q.2.2 = pre.length) → Smm H_Walk_tally 14 [some (.inr (.inr 95)), some (.inr (.inr 63)), some (.inr (.inr 41)), some (.inl ((wyX T y).length : Int)), some (.inl q.2.1), some (.inl q.2.2)] [] q.1 Q := by
    refine lp_wy (P := fun _ (q : St × Int × Int) => Smm H_Walk_tally 14 [some (.inr (.inr 95)), some (.inr (.inr 63)), some (.inr (.inr 41)), some (.inl ((wyX T y).length : Int)), some (.inl q.2.1), some (.inl q.2.2)] [] q.1 Q) (fun pre f q => Fr [61, 62, 99, 100, 101, 103] [(102, 1)] S1 q.1 ∧ wkI_l T q.1 f ∧ q.2.1 = wgX T y * ((pre.countP (opM T) : Nat) : Int) ∧ q.2.2 = pre.length) ?_
    rintro pre f post ⟨S2, acc, i⟩ hl ⟨hF2, hW2, ha, hi⟩ ih
    dsimp only at hF2 hW2 ha hi ⊢
    have hfm : f ∈ wyX T y := by rw [hl]; exact List.mem_append_right _ List.mem_cons_self
    have hof := bd_of (T := T) (wX_mem hT hfm).2.1
    have hlen : (wyX T y).length = pre.length + (post.length + 1) := by rw [hl]; simp
    have hlt : ¬ ((wyX T y).length : Int) ≤ i := by omega
    have hwt : S2 95 2 = wgX T y := by rw [hF2.c 95 rfl]; exact hg1
    have hc1 : pre.countP (opM T) ≤ (wyX T y).length := Nat.le_trans List.countP_le_length (by omega)
    have hc2 : (pre ++ [f]).countP (opM T) ≤ (wyX T y).length := Nat.le_trans List.countP_le_length (by simp; omega)
    have m1 := wg_mul g1.1 hc1 g4
    have m2 := wg_mul g1.1 hc2 g4
    have next : ∀ (S3 : St) (acc' : Int), Fr [103] [(102, 1)] S2 S3 → acc' = wgX T y * (((pre ++ [f]).countP (opM T) : Nat) : Int) → Smm H_Walk_tally 36 [some (.inr (.inr 95)), some (.inr (.inr 63)), some (.inr (.inr 41)), some (.inl ((wyX T y).length : Int)), some (.inl acc'), some (.inl i)] [] S3 Q := by
      intro S3 acc' hF3 hacc
      have hW3 : wkI_l T S3 f := ⟨wkB_fr_l hW2.1 hF3 rfl, fun s s0 s1 => by rw [hF3.c 99 rfl]; exact hW2.2.1 s s0 s1, fun s s0 s1 => by rw [hF3.c 100 rfl]; exact hW2.2.2.1 s s0 s1, fun s s0 s1 => by rw [hF3.c 100 rfl]; exact hW2.2.2.2.1 s s0 s1, fun g g0 g1 => by rw [hF3.c 101 rfl]; exact hW2.2.2.2.2 g g0 g1⟩
      have hFS := hF2.tr (hF3.mo rfl rfl : Fr [61, 62, 99, 100, 101, 103] [(102, 1)] S2 S3)
      have e : ((pre.length + 1 : Nat) : Int) = i32 (i + 1) := by rw [hi]; exact i32_s (by omega)
      refine sound ok_Walk_tally [14] 20 ?_
      refine t_step_l T S3 f (rcN (nb y) (T 18)) pre post _ hT hW3 (fun s s0 s1 => ⟨by rw [hFS.c 98 rfl]; exact hr1 s s0 s1, ?_⟩) hl (fun S4 f' hF4 hW4 hp => ?_)
      · have := g3 s.toNat (by clear e; omega)
        rw [show ((s.toNat : Nat) : Int) = s by clear e; omega] at this
        exact this
      · have hFS4 := hFS.tr (hF4.mo rfl rfl : Fr [61, 62, 99, 100, 101, 103] [(102, 1)] S3 S4)
        rcases hp with hp | ⟨post', hp⟩
        · have hend : i32 (i + 1) = ((wyX T y).length : Int) := by rw [← e, hlen, hp]; rfl
          have hq := hQ S4 ((hF1.mo rfl rfl).tr (hFS4.mo rfl rfl))
          rw [hcn, hl, hp, ← hacc] at hq
          refine sound ok_Walk_tally [] 20 ?_
          exact ⟨fun _ => hq, fun z => absurd z (by rw [hend]; exact Int.lt_irrefl _)⟩
        · exact Smm.sub (ih f' post' (S4, acc', ((pre.length + 1 : Nat) : Int)) hp ⟨hFS4, hW4, hacc, by simp⟩) ⟨Or.inr rfl, Or.inr rfl, Or.inr rfl, Or.inr rfl, Or.inr rfl, Or.inr (sI e), trivial⟩
    refine sound ok_Walk_tally [36] 40 ?_
    refine ⟨fun z => absurd z hlt, fun _ => ?_⟩
    refine t_isOpen_l T S2 f _ hT hof hW2 (fun S3 hF3 hop => ?_) (fun S3 hF3 hop => ?_)
    · refine ⟨fun z => absurd z (by decide), fun _ => ?_⟩
      have hw3 : S3 95 2 = wgX T y := by rw [hF3.c 95 rfl, hwt]
      refine next S3 _ hF3 ?_
      have hcs : (pre ++ [f]).countP (opM T) = pre.countP (opM T) + 1 := by rw [List.countP_append, List.countP_cons, hop, List.countP_nil]; rfl
      rw [hcs] at m2 ⊢
      have hexp : wgX T y * ((pre.countP (opM T) + 1 : Nat) : Int) = wgX T y * ((pre.countP (opM T) : Nat) : Int) + wgX T y := by push_cast; rw [Int.mul_add, Int.mul_one]
      rw [hexp] at m2 ⊢
      rw [ha, hw3]
      exact i32_id (by omega) (by omega)
    · refine ⟨fun _ => ?_, fun z => absurd rfl z⟩
      refine next S3 _ hF3 ?_
      rw [List.countP_append, List.countP_cons, hop, List.countP_nil, ha]
      simp
  obtain ⟨r, hr⟩ := wy_first (err := rcN (nb y) (T 18)) (T 0 20).toNat (fun i hi => (g3 i hi).1)
  exact loop r [] _ (S1, 0, 0) hr ⟨Fr.rf _ _ _, hW1, by dsimp only; simp, rfl⟩
set_option maxHeartbeats 2000000 in
theorem t_tally_ob (T S : St) (Q : Option AV → St → Prop) (hT : mAs T) (hR : lr_o T S) (hP : PlR T S) (hpo : ∀ g, 0 ≤ g → g < T 0 19 → S 80 g = T 20 g) (hQ : ∀ S', Fr [61, 62, 96, 97, 98, 99, 100, 101, 103] [(95, 1), (95, 2), (102, 1)] S S' → Q (some (.inl (cntM T))) S') : Smm H_Walk_tally 0 [some (.inr (.inr 95)), some (.inr (.inr 71)), some (.inr (.inr 80)), none, none, none] [] S Q := by
  have hn := hT.1.1.1
  refine sound ok_Walk_tally [14] 40 ?_
  refine t_start_ob T S 0 _ hT hR hP hpo (by decide) (fun S1 y hF1 hy hW1 hr1 hg1 => ?_)
  have hy1 := hy
  obtain ⟨g1, g2, g3, g4⟩ := wX_b hT y
  have hcn := cnt_X hT hW1.1.2.2.1 hy
  have loop : ∀ (post pre : List (Int → Int)) (f : Int → Int) (q : St × Int × Int), wyX T y = pre ++ f :: post → (Fr [61, 62, 99, 100, 101, 103] [(102, 1)] S1 q.1 ∧ wkI_o T q.1 f ∧ q.2.1 = wgX T y * ((pre.countP (opM T) : Nat) : Int) ∧ q.2.2 = pre.length) → Smm H_Walk_tally 14 [some (.inr (.inr 95)), some (.inr (.inr 71)), some (.inr (.inr 80)), some (.inl ((wyX T y).length : Int)), some (.inl q.2.1), some (.inl q.2.2)] [] q.1 Q := by
    refine lp_wy (P := fun _ (q : St × Int × Int) => Smm H_Walk_tally 14 [some (.inr (.inr 95)), some (.inr (.inr 71)), some (.inr (.inr 80)), some (.inl ((wyX T y).length : Int)), some (.inl q.2.1), some (.inl q.2.2)] [] q.1 Q) (fun pre f q => Fr [61, 62, 99, 100, 101, 103] [(102, 1)] S1 q.1 ∧ wkI_o T q.1 f ∧ q.2.1 = wgX T y * ((pre.countP (opM T) : Nat) : Int) ∧ q.2.2 = pre.length) ?_
    rintro pre f post ⟨S2, acc, i⟩ hl ⟨hF2, hW2, ha, hi⟩ ih
    dsimp only at hF2 hW2 ha hi ⊢
    have hfm : f ∈ wyX T y := by rw [hl]; exact List.mem_append_right _ List.mem_cons_self
    have hof := bd_of (T := T) (wX_mem hT hfm).2.1
    have hlen : (wyX T y).length = pre.length + (post.length + 1) := by rw [hl]; simp
    have hlt : ¬ ((wyX T y).length : Int) ≤ i := by omega
    have hwt : S2 95 2 = wgX T y := by rw [hF2.c 95 rfl]; exact hg1
    have hc1 : pre.countP (opM T) ≤ (wyX T y).length := Nat.le_trans List.countP_le_length (by omega)
    have hc2 : (pre ++ [f]).countP (opM T) ≤ (wyX T y).length := Nat.le_trans List.countP_le_length (by simp; omega)
    have m1 := wg_mul g1.1 hc1 g4
    have m2 := wg_mul g1.1 hc2 g4
    have next : ∀ (S3 : St) (acc' : Int), Fr [103] [(102, 1)] S2 S3 → acc' = wgX T y * (((pre ++ [f]).countP (opM T) : Nat) : Int) → Smm H_Walk_tally 36 [some (.inr (.inr 95)), some (.inr (.inr 71)), some (.inr (.inr 80)), some (.inl ((wyX T y).length : Int)), some (.inl acc'), some (.inl i)] [] S3 Q := by
      intro S3 acc' hF3 hacc
      have hW3 : wkI_o T S3 f := ⟨wkB_fr_o hW2.1 hF3 rfl, fun s s0 s1 => by rw [hF3.c 99 rfl]; exact hW2.2.1 s s0 s1, fun s s0 s1 => by rw [hF3.c 100 rfl]; exact hW2.2.2.1 s s0 s1, fun s s0 s1 => by rw [hF3.c 100 rfl]; exact hW2.2.2.2.1 s s0 s1, fun g g0 g1 => by rw [hF3.c 101 rfl]; exact hW2.2.2.2.2 g g0 g1⟩
      have hFS := hF2.tr (hF3.mo rfl rfl : Fr [61, 62, 99, 100, 101, 103] [(102, 1)] S2 S3)
      have e : ((pre.length + 1 : Nat) : Int) = i32 (i + 1) := by rw [hi]; exact i32_s (by omega)
      refine sound ok_Walk_tally [14] 20 ?_
      refine t_step_o T S3 f (rcN (nb y) (T 18)) pre post _ hT hW3 (fun s s0 s1 => ⟨by rw [hFS.c 98 rfl]; exact hr1 s s0 s1, ?_⟩) hl (fun S4 f' hF4 hW4 hp => ?_)
      · have := g3 s.toNat (by clear e; omega)
        rw [show ((s.toNat : Nat) : Int) = s by clear e; omega] at this
        exact this
      · have hFS4 := hFS.tr (hF4.mo rfl rfl : Fr [61, 62, 99, 100, 101, 103] [(102, 1)] S3 S4)
        rcases hp with hp | ⟨post', hp⟩
        · have hend : i32 (i + 1) = ((wyX T y).length : Int) := by rw [← e, hlen, hp]; rfl
          have hq := hQ S4 ((hF1.mo rfl rfl).tr (hFS4.mo rfl rfl))
          rw [hcn, hl, hp, ← hacc] at hq
          refine sound ok_Walk_tally [] 20 ?_
          exact ⟨fun _ => hq, fun z => absurd z (by rw [hend]; exact Int.lt_irrefl _)⟩
        · exact Smm.sub (ih f' post' (S4, acc', ((pre.length + 1 : Nat) : Int)) hp ⟨hFS4, hW4, hacc, by simp⟩) ⟨Or.inr rfl, Or.inr rfl, Or.inr rfl, Or.inr rfl, Or.inr rfl, Or.inr (sI e), trivial⟩
    refine sound ok_Walk_tally [36] 40 ?_
    refine ⟨fun z => absurd z hlt, fun _ => ?_⟩
    refine t_isOpen_o T S2 f _ hT hof hW2 (fun S3 hF3 hop => ?_) (fun S3 hF3 hop => ?_)
    · refine ⟨fun z => absurd z (by decide), fun _ => ?_⟩
      have hw3 : S3 95 2 = wgX T y := by rw [hF3.c 95 rfl, hwt]
      refine next S3 _ hF3 ?_
      have hcs : (pre ++ [f]).countP (opM T) = pre.countP (opM T) + 1 := by rw [List.countP_append, List.countP_cons, hop, List.countP_nil]; rfl
      rw [hcs] at m2 ⊢
      have hexp : wgX T y * ((pre.countP (opM T) + 1 : Nat) : Int) = wgX T y * ((pre.countP (opM T) : Nat) : Int) + wgX T y := by push_cast; rw [Int.mul_add, Int.mul_one]
      rw [hexp] at m2 ⊢
      rw [ha, hw3]
      exact i32_id (by omega) (by omega)
    · refine ⟨fun _ => ?_, fun z => absurd rfl z⟩
      refine next S3 _ hF3 ?_
      rw [List.countP_append, List.countP_cons, hop, List.countP_nil, ha]
      simp
  obtain ⟨r, hr⟩ := wy_first (err := rcN (nb y) (T 18)) (T 0 20).toNat (fun i hi => (g3 i hi).1)
  exact loop r [] _ (S1, 0, 0) hr ⟨Fr.rf _ _ _, hW1, by dsimp only; simp, rfl⟩
