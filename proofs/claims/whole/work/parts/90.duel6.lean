/-! the duel filled -/
def dI (T : St) (one other w : Int) (pre : List (Int → Int)) (S : St) : Prop := ∀ j, 0 ≤ j → j < 2500 → S 118 j = w * smL (wP T one other j) pre ∧ S 119 j = w * smL (wF T one other one j) pre ∧ S 120 j = w * smL (wF T one other other j) pre
theorem smw_b {v : (Int → Int) → Int} {w : Int} {pre : List (Int → Int)} {M : Nat} (hv : ∀ f, 0 ≤ v f ∧ v f ≤ 1) (hw : 1 ≤ w) (hl : pre.length + 1 ≤ M) (hM : w * (M : Int) ≤ 16807) : 0 ≤ w * smL v pre ∧ w * smL v pre + w ≤ 16807 := by
  have h := smL_b hv pre
  have h1 : 0 ≤ w * smL v pre := Int.mul_nonneg (by omega) h.1
  have h2 : w * (smL v pre + 1) ≤ w * (M : Int) := Int.mul_le_mul_of_nonneg_left (by omega) (by omega)
  rw [Int.mul_add, Int.mul_one] at h2
  omega
theorem smL_1 (v : (Int → Int) → Int) (pre : List (Int → Int)) (f : Int → Int) : smL v (pre ++ [f]) = smL v pre + v f := by
  rw [smL_app, smL, smL, Int.add_zero]
theorem nd_vs {T S : St} (hT : mOk T) {a y : Nat} (hy : ndI T S a y) {f : Int → Int} (hf : bd3 f) {g b : Int} (hb : 0 ≤ b ∧ b < 10 * T 0 20) (ha : ∀ s : Nat, (s : Int) < T 0 20 → 0 ≤ T 19 (5 * g + s) → a.testBit s = true) : vsM T f g b = vsM T (prN (nb y) f) g b := by
  obtain ⟨s, hs⟩ : ∃ s : Nat, b / 10 = s := ⟨(b / 10).toNat, by omega⟩
  unfold vsM
  rw [hs, nd_hd hT hy hf (by omega) (ha s (by omega))]
theorem nd_t2 {T S : St} (hT : mOk T) (hP : PlR T S) {x y : Nat} (hy : ndI T S x y) {f : Int → Int} (hf : bd3 f) {one other a b : Int} (ha : 0 ≤ a ∧ a < 10 * T 0 20) (hb : 0 ≤ b ∧ b < 10 * T 0 20) (h1 : ∀ s : Nat, (s : Int) < T 0 20 → 0 ≤ T 19 (5 * one + s) → x.testBit s = true) (h2 : ∀ s : Nat, (s : Int) < T 0 20 → 0 ≤ T 19 (5 * other + s) → x.testBit s = true) : ∀ j : Int, 0 ≤ j → j < T 0 19 → t2M T f one other a b j = t2M T (prN (nb y) f) one other a b j := fun j j0 j1 => by
  unfold t2M
  rw [nd_vs hT hy hf ha h1, nd_vs hT hy hf hb h2]
  unfold uf
  rw [nd_tn hT hP hy hf (g := j) ⟨j0, j1⟩]
theorem nd_2 {T S : St} (hT : mOk T) (hP : PlR T S) {x y : Nat} (hy : ndI T S x y) {f : Int → Int} (hf : bd3 f) {one other a b : Int} (ha : 0 ≤ a ∧ a < 10 * T 0 20) (hb : 0 ≤ b ∧ b < 10 * T 0 20) (h1 : ∀ s : Nat, (s : Int) < T 0 20 → 0 ≤ T 19 (5 * one + s) → x.testBit s = true) (h2 : ∀ s : Nat, (s : Int) < T 0 20 → 0 ≤ T 19 (5 * other + s) → x.testBit s = true) : op2 T f one other a b = op2 T (prN (nb y) f) one other a b ∧ ft2 T f one other a b = ft2 T (prN (nb y) f) one other a b := by
  have hk4 := hT.2.1
  have h := nd_t2 hT hP hy hf ha hb h1 h2
  unfold op2 ft2
  rw [apF_congr (t := t2M T f one other a b) (t' := t2M T (prN (nb y) f) one other a b) (fun j j0 j1 => h j j0 (by omega)), ftF_congr (t := t2M T f one other a b) (t' := t2M T (prN (nb y) f) one other a b) (T 0 19).toNat (fun j j0 j1 => h j j0 (by omega))]
  exact ⟨rfl, rfl⟩
theorem nd_w {T S : St} (hT : mOk T) (hP : PlR T S) {x y : Nat} (hy : ndI T S x y) {f : Int → Int} (hf : bd3 f) {one other j : Int} (hj : 0 ≤ j) (h1 : ∀ s : Nat, (s : Int) < T 0 20 → 0 ≤ T 19 (5 * one + s) → x.testBit s = true) (h2 : ∀ s : Nat, (s : Int) < T 0 20 → 0 ≤ T 19 (5 * other + s) → x.testBit s = true) (g : Int) : wP T one other j f = wP T one other j (prN (nb y) f) ∧ wF T one other g j f = wF T one other g j (prN (nb y) f) := by
  unfold wP wF
  by_cases z : j / 50 < 10 * T 0 20 ∧ j % 50 < 10 * T 0 20
  · have := nd_2 hT hP hy hf (a := j / 50) (b := j % 50) (by omega) (by omega) h1 h2
    rw [if_pos z, if_pos z, if_pos z, if_pos z, this.1, this.2]
    exact ⟨rfl, rfl⟩
  · rw [if_neg z, if_neg z, if_neg z, if_neg z]
    exact ⟨rfl, rfl⟩
set_option maxHeartbeats 4000000 in
theorem df_body (T S : St) (f : Int → Int) (pre : List (Int → Int)) (one other w : Int) (M k : Nat) (x6 x7 : Int) (x8 : Option AV) (Q : Option AV → St → Prop) (hT : mAs T) (hf : ofOk (T 0 20) f) (hW : wkI_l T S f) (hk : T 0 19 = k) (h1 : 0 ≤ one ∧ one < k) (h2 : 0 ≤ other ∧ other < k) (hne : ¬ one = other) (e1 : S 117 1 = one) (e2 : S 117 2 = other) (e10 : S 117 10 = 10 * T 0 20) (hw2 : S 95 2 = w) (hw : 1 ≤ w ∧ w ≤ 16807) (hl : pre.length + 1 ≤ M) (hM : w * (M : Int) ≤ 16807) (h : dI T one other w pre S)
    (hQ : ∀ (S' : St) (v : Int), Fr [118, 119, 120, 128, 129, 130, 124] [(127, 1), (127, 4), (117, 11), (117, 12), (123, 1)] S S' → dI T one other w (pre ++ [f]) S' → Smm H_Duel_fill 149 [some (.inr (.inr 117)), some (.inr (.inr 95)), some (.inr (.inr 63)), some (.inr (.inr 80)), some (.inl one), some (.inl other), some (.inl x6), some (.inl x7), some (.inl v)] [] S' Q) : Smm H_Duel_fill 101 [some (.inr (.inr 117)), some (.inr (.inr 95)), some (.inr (.inr 63)), some (.inr (.inr 80)), some (.inl one), some (.inl other), some (.inl x6), some (.inl x7), x8] [] S Q := by
  have hk4 := hT.1.2.1
  have hn5 := hT.1.1.1
  have hnd := hT.2.1
  obtain ⟨n, hn⟩ : ∃ n : Nat, T 0 21 = n := ⟨(T 0 21).toNat, by omega⟩
  have w2 : S 63 0 = k := by rw [← hk]; exact hW.1.2.1.1.1
  have eg : gaF (S 101) (fun j => decide (¬ j = one ∧ ¬ j = other)) k = (gaF (tnM T (smM T f)) (fun j => decide (¬ j = one ∧ ¬ j = other)) k) := gaF_congr k (fun j j0 j1 => ⟨rfl, fun _ => hW.2.2.2.2 j j0 (by omega)⟩)
  have go1 := fun Q' hq' => t_gather_o S k one other Q' (by omega) hq'
  rw [eg] at go1
  rw [← w2, ← e1, ← e2] at go1
  have sb : ∀ (v : (Int → Int) → Int), (∀ f, 0 ≤ v f ∧ v f ≤ 1) → 0 ≤ w * smL v pre ∧ w * smL v pre + w ≤ 16807 := fun v hv => smw_b hv hw.1 hl hM
  have loop : ∀ (a : Int) (S1 : St), ((0 ≤ a ∧ a ≤ 10 * T 0 20) ∧ Fr [118, 119, 120, 128, 129, 130, 124] [(127, 1), (127, 4), (117, 11), (117, 12), (123, 1)] S S1 ∧ rwI 123 124 S1 (gaF (tnM T (smM T f)) (fun j => decide (¬ j = one ∧ ¬ j = other)) k) ∧ (∀ j, 0 ≤ j → j < 2500 → S1 118 j = w * smL (wP T one other j) pre + (if j < 50 * a then w * wP T one other j f else 0) ∧ S1 119 j = w * smL (wF T one other one j) pre + (if j < 50 * a then w * wF T one other one j f else 0) ∧ S1 120 j = w * smL (wF T one other other j) pre + (if j < 50 * a then w * wF T one other other j f else 0))) → Smm H_Duel_fill 127 [some (.inr (.inr 117)), some (.inr (.inr 95)), some (.inr (.inr 63)), some (.inr (.inr 80)), some (.inl one), some (.inl other), some (.inl x6), some (.inl x7), some (.inl a)] [] S1 Q := by
    refine lp_up (P := fun a S1 => Smm H_Duel_fill 127 [some (.inr (.inr 117)), some (.inr (.inr 95)), some (.inr (.inr 63)), some (.inr (.inr 80)), some (.inl one), some (.inl other), some (.inl x6), some (.inl x7), some (.inl a)] [] S1 Q) _ (10 * T 0 20) ?_ ?_
    · rintro a S1 ha ⟨ha2, hF, hr, d⟩
      have q10 : S1 117 10 = 10 * T 0 20 := by rw [hF.s 117 10 rfl]; exact e10
      refine sound ok_Duel_fill [127, 149] 20 ?_
      refine ⟨fun _ => hQ S1 _ hF (fun j j0 j1 => ?_), fun z => absurd z (by rw [q10]; omega)⟩
      obtain ⟨p1, p2, p3⟩ := d j j0 j1
      rw [p1, p2, p3, smL_1, smL_1, smL_1, Int.mul_add, Int.mul_add, Int.mul_add]
      by_cases u : j < 50 * a
      · rw [if_pos u, if_pos u, if_pos u]
        exact ⟨rfl, rfl, rfl⟩
      · have hi : ¬ (j / 50 < 10 * T 0 20 ∧ j % 50 < 10 * T 0 20) := by omega
        have z1 : wP T one other j f = 0 := by unfold wP; rw [if_neg hi]
        have z2 : ∀ g, wF T one other g j f = 0 := fun g => by unfold wF; rw [if_neg hi]
        rw [if_neg u, if_neg u, if_neg u, z1, z2, z2, Int.mul_zero]
        exact ⟨rfl, rfl, rfl⟩
    · rintro a S1 ha ⟨ha2, hF, hr, d⟩ ih
      have q10 : S1 117 10 = 10 * T 0 20 := by rw [hF.s 117 10 rfl]; exact e10
      have hng : ¬ S1 117 10 ≤ a := by rw [q10]; omega
      have hW1 := wkI_fr_l hW hF rfl rfl
      have ha3 : 0 ≤ a + 1 ∧ a + 1 ≤ 10 * T 0 20 := by omega
      have e : a + 1 = i32 (a + 1) := (i32_id (by omega) (by omega)).symm
      refine sound ok_Duel_fill [127] 20 ?_
      refine ⟨fun z => absurd z hng, fun _ => ?_⟩
      refine t_tryPlan T S1 f one other w a n k _ hT hf hW1 hn hk h1 h2 hne (by rw [hF.s 117 1 rfl]; exact e1) (by rw [hF.s 117 2 rfl]; exact e2) hr (by rw [hF.c 95 rfl]; exact hw2) hw (by clear e; omega) (fun j j0 j1 => ?_) (fun S2 hF2 d2 => ?_)
      · obtain ⟨p1, p2, p3⟩ := d j j0 j1
        have b1 := sb (wP T one other j) (fun f => (wPF_b T one other one j f).1)
        have b2 := sb (wF T one other one j) (fun f => (wPF_b T one other one j f).2)
        have b3 := sb (wF T one other other j) (fun f => (wPF_b T one other other j f).2)
        clear e ih
        rw [p1, p2, p3]
        have c1 := wi_b (c := j < 50 * a) hw.1 (wPF_b T one other one j f).1 ⟨b1.1, by omega, fun _ => b1.2⟩
        have c2 := wi_b (c := j < 50 * a) hw.1 (wPF_b T one other one j f).2 ⟨b2.1, by omega, fun _ => b2.2⟩
        have c3 := wi_b (c := j < 50 * a) hw.1 (wPF_b T one other other j f).2 ⟨b3.1, by omega, fun _ => b3.2⟩
        refine ⟨⟨c1.1, c1.2, fun u _ => ?_⟩, ⟨c2.1, c2.2, fun u _ => ?_⟩, ⟨c3.1, c3.2, fun u _ => ?_⟩⟩
        · rw [if_neg (by omega)]; omega
        · rw [if_neg (by omega)]; omega
        · rw [if_neg (by omega)]; omega
      · refine Smm.sub (ih S2 ⟨ha3, hF.tr (hF2.mo rfl rfl), ?_, fun j j0 j1 => ?_⟩) ⟨Or.inr rfl, Or.inr rfl, Or.inr rfl, Or.inr rfl, Or.inr rfl, Or.inr rfl, Or.inr rfl, Or.inr rfl, Or.inr (sI e), trivial⟩
        · exact rwI_fr hr (by rw [hF2.c 123 rfl]) (hF2.c _ rfl)
        · obtain ⟨p1, p2, p3⟩ := d j j0 j1
          obtain ⟨r1, r2, r3⟩ := d2 j j0 j1
          clear e ih
          rw [r1, r2, r3, p1, p2, p3]
          have hc : (j < 50 * (a + 1)) ↔ (j < 50 * a) ∨ (50 * a ≤ j ∧ j < 50 * a + 50) := by omega
          have hc2 : ¬ ((j < 50 * a) ∧ (50 * a ≤ j ∧ j < 50 * a + 50)) := by omega
          exact ⟨dw_if hc hc2, dw_if hc hc2, dw_if hc hc2⟩
  refine sound ok_Duel_fill [127] 40 ?_
  refine go1 _ (fun S1 hF1 hr1 => ?_)
  rw [e1, e2] at hr1
  refine loop 0 S1 ⟨by omega, hF1.mo rfl rfl, hr1, fun j j0 j1 => ?_⟩
  rw [hF1.c 118 rfl, hF1.c 119 rfl, hF1.c 120 rfl]
  obtain ⟨p1, p2, p3⟩ := h j j0 j1
  have hc : ¬ j < 50 * 0 := by omega
  rw [if_neg hc, if_neg hc, if_neg hc, Int.add_zero, Int.add_zero, Int.add_zero]
  exact ⟨p1, p2, p3⟩
set_option maxHeartbeats 4000000 in
theorem t_dFill (T S : St) (one other : Int) (k : Nat) (Q : Option AV → St → Prop) (hT : mAs T) (hR : lr_l T S) (hP : PlR T S) (hpo : ∀ g, 0 ≤ g → g < T 0 19 → S 80 g = T 20 g) (hk : T 0 19 = k) (h1 : 0 ≤ one ∧ one < k) (h2 : 0 ≤ other ∧ other < k) (hne : ¬ one = other) (hQ : ∀ S', Fr [118, 119, 120, 128, 129, 130, 124, 61, 62, 99, 100, 101, 96, 97, 98] [(127, 1), (127, 4), (117, 11), (117, 12), (123, 1), (117, 0), (117, 1), (117, 2), (117, 10), (95, 1), (95, 2)] S S' → S' 117 0 = 1 → S' 117 1 = one → S' 117 2 = other → S' 117 10 = 10 * T 0 20 → dI T one other 1 (wyM T) S' → Q none S') : Smm H_Duel_fill 0 [some (.inr (.inr 117)), some (.inr (.inr 95)), some (.inr (.inr 63)), some (.inr (.inr 80)), some (.inl one), some (.inl other), none, none, none] [] S Q := by
  have hk4 := hT.1.2.1
  have hn5 := hT.1.1.1
  have w3 : S 63 1 = T 0 20 := hR.1.2.1
  have es : i32 (S 63 1 * 10) = 10 * T 0 20 := by rw [w3, i32_id (by omega) (by omega)]; omega
  have main : ∀ (S0 : St) (x6 : Option AV), Fr [118, 119, 120, 128, 129, 130, 124, 61, 62, 99, 100, 101, 96, 97, 98] [(127, 1), (127, 4), (117, 11), (117, 12), (123, 1), (117, 0), (117, 1), (117, 2), (117, 10), (95, 1), (95, 2)] S S0 → S0 117 1 = one → S0 117 2 = other → S0 117 10 = 10 * T 0 20 → (∀ j, 0 ≤ j → j < 2500 → S0 118 j = 0 ∧ S0 119 j = 0 ∧ S0 120 j = 0) → lr_l T S0 → PlR T S0 → S0 80 = S 80 → Smm H_Duel_fill 66 [some (.inr (.inr 117)), some (.inr (.inr 95)), some (.inr (.inr 63)), some (.inr (.inr 80)), some (.inl one), some (.inl other), x6, none, none] [] S0 Q := by
    intro S0 x6 hF0 a1 a2 a10 z0 hR0 hP0 hb0
    obtain ⟨xa, xa1, xa2, xa3⟩ := bitF_tb (p := fun s => decide (0 ≤ T 19 (5 * one + s))) (k := (T 0 20).toNat) (by clear es; omega)
    obtain ⟨xb, xb1, xb2, xb3⟩ := bitF_tb (p := fun s => decide (0 ≤ T 19 (5 * other + s))) (k := (T 0 20).toNat) (by clear es; omega)
    obtain ⟨o1, o2⟩ := ior32 xa2 xb2
    have g1 := fun Q' hq' => t_heardBy_l T S0 one Q' hT.1 hR0 (by clear es; omega) hq'
    have g2 := fun Q' hq' => t_heardBy_l T S0 other Q' hT.1 hR0 (by clear es; omega) hq'
    rw [← a1] at g1
    rw [← a2] at g2
    refine sound ok_Duel_fill [94] 40 ?_
    refine g1 _ ?_
    refine g2 _ ?_
    have go := fun Q' hq' => t_start_lb T S0 (xa ||| xb) Q' hT hR0 hP0 (fun g g0 g1 => by rw [hb0]; exact hpo g g0 g1) o2 hq'
    rw [← o1, ← xa1, ← xb1, ← a1, ← a2] at go
    refine go _ (fun S1 y hF1 hy hW1 hr1 hg1 => ?_)
    clear go g1 g2
    have t1 : ∀ s : Nat, (s : Int) < T 0 20 → 0 ≤ T 19 (5 * one + s) → (xa ||| xb).testBit s = true := fun s hs hl => by
      rw [Nat.testBit_or, xa3 s (by clear es; omega) (decide_eq_true hl), Bool.true_or]
    have t2 : ∀ s : Nat, (s : Int) < T 0 20 → 0 ≤ T 19 (5 * other + s) → (xa ||| xb).testBit s = true := fun s hs hl => by
      rw [Nat.testBit_or, xb3 s (by clear es; omega) (decide_eq_true hl), Bool.or_true]
    clear o1 xa1 xb1 es
    obtain ⟨g1, g2, g3, g4⟩ := wX_b hT y
    have hFA : Fr [118, 119, 120, 128, 129, 130, 124, 61, 62, 99, 100, 101, 96, 97, 98] [(127, 1), (127, 4), (117, 11), (117, 12), (123, 1), (117, 0), (117, 1), (117, 2), (117, 10), (95, 1), (95, 2)] S S1 := hF0.tr (hF1.mo rfl rfl)
    have a1' : S1 117 1 = one := by rw [hF1.c 117 rfl]; exact a1
    have a2' : S1 117 2 = other := by rw [hF1.c 117 rfl]; exact a2
    have a10' : S1 117 10 = 10 * T 0 20 := by rw [hF1.c 117 rfl]; exact a10
    have loop : ∀ (post pre : List (Int → Int)) (f : Int → Int) (q : St × Int × Option AV), wyX T y = pre ++ f :: post → (Fr [118, 119, 120, 128, 129, 130, 124, 61, 62, 99, 100, 101] [(127, 1), (127, 4), (117, 11), (117, 12), (123, 1)] S1 q.1 ∧ wkI_l T q.1 f ∧ dI T one other (wgX T y) pre q.1 ∧ q.2.1 = pre.length) → Smm H_Duel_fill 94 [some (.inr (.inr 117)), some (.inr (.inr 95)), some (.inr (.inr 63)), some (.inr (.inr 80)), some (.inl one), some (.inl other), some (.inl ((wyX T y).length : Int)), some (.inl q.2.1), q.2.2] [] q.1 Q := by
      refine lp_wy (P := fun _ (q : St × Int × Option AV) => Smm H_Duel_fill 94 [some (.inr (.inr 117)), some (.inr (.inr 95)), some (.inr (.inr 63)), some (.inr (.inr 80)), some (.inl one), some (.inl other), some (.inl ((wyX T y).length : Int)), some (.inl q.2.1), q.2.2] [] q.1 Q) (fun pre f q => Fr [118, 119, 120, 128, 129, 130, 124, 61, 62, 99, 100, 101] [(127, 1), (127, 4), (117, 11), (117, 12), (123, 1)] S1 q.1 ∧ wkI_l T q.1 f ∧ dI T one other (wgX T y) pre q.1 ∧ q.2.1 = pre.length) ?_
      rintro pre f post ⟨S2, i, x8⟩ hl ⟨hF2, hW2, ha, hi⟩ ih
      dsimp only at hF2 hW2 ha hi ⊢
      have hfm : f ∈ wyX T y := by rw [hl]; exact List.mem_append_right _ List.mem_cons_self
      have hof := bd_of (T := T) (wX_mem hT hfm).2.1
      have hlen : (wyX T y).length = pre.length + (post.length + 1) := by rw [hl]; simp
      have hlt : ¬ ((wyX T y).length : Int) ≤ i := by omega
      have hwt : S2 95 2 = wgX T y := by rw [hF2.c 95 rfl]; exact hg1
      refine sound ok_Duel_fill [101] 40 ?_
      refine ⟨fun z => absurd z hlt, fun _ => ?_⟩
      refine df_body T S2 f pre one other (wgX T y) (wyX T y).length k _ i x8 Q hT hof hW2 hk h1 h2 hne (by rw [hF2.s 117 1 rfl]; exact a1') (by rw [hF2.s 117 2 rfl]; exact a2') (by rw [hF2.s 117 10 rfl]; exact a10') hwt g1 (by omega) g4 ha (fun S3 v hF3 hs3 => ?_)
      have hW3 := wkI_fr_l hW2 hF3 rfl rfl
      have hFS := hF2.tr (hF3.mo rfl rfl : Fr [118, 119, 120, 128, 129, 130, 124, 61, 62, 99, 100, 101] [(127, 1), (127, 4), (117, 11), (117, 12), (123, 1)] S2 S3)
      have e : ((pre.length + 1 : Nat) : Int) = i32 (i + 1) := by rw [hi]; exact i32_s (by omega)
      refine sound ok_Duel_fill [94] 20 ?_
      refine t_step_l T S3 f (rcN (nb y) (T 18)) pre post _ hT hW3 (fun s s0 s1 => ⟨by rw [hFS.c 98 rfl]; exact hr1 s s0 s1, ?_⟩) hl (fun S4 f' hF4 hW4 hp => ?_)
      · have := g3 s.toNat (by clear e; omega)
        rw [show ((s.toNat : Nat) : Int) = s by clear e; omega] at this
        exact this
      · have hFS4 := hFS.tr (hF4.mo rfl rfl : Fr [118, 119, 120, 128, 129, 130, 124, 61, 62, 99, 100, 101] [(127, 1), (127, 4), (117, 11), (117, 12), (123, 1)] S3 S4)
        have hs4 : dI T one other (wgX T y) (pre ++ [f]) S4 := fun j j0 j1 => by rw [hF4.c 118 rfl, hF4.c 119 rfl, hF4.c 120 rfl]; exact hs3 j j0 j1
        rcases hp with hp | ⟨post', hp⟩
        · have hend : i32 (i + 1) = ((wyX T y).length : Int) := by rw [← e, hlen, hp]; rfl
          rw [hp] at hl
          rw [← hl] at hs4
          refine sound ok_Duel_fill [] 20 ?_
          refine ⟨fun _ => ⟨Or.inr rfl, ?_⟩, fun z => absurd z (by rw [hend]; exact Int.lt_irrefl _)⟩
          have hF5 : Fr [] [(117, 0)] S4 (up S4 117 0 1) := Fr.up (Fr.rf _ _ _) _ _ _ rfl
          refine hQ _ ((hFA.tr (hFS4.mo rfl rfl)).up 117 0 1 rfl) (up_s _ _ _ _) ?_ ?_ ?_ (fun j j0 j1 => ?_)
          · rw [up_n _ _ _ (by decide), hFS4.s 117 1 rfl]; exact a1'
          · rw [up_n _ _ _ (by decide), hFS4.s 117 2 rfl]; exact a2'
          · rw [up_n _ _ _ (by decide), hFS4.s 117 10 rfl]; exact a10'
          · rw [hF5.c 118 rfl, hF5.c 119 rfl, hF5.c 120 rfl]
            obtain ⟨p1, p2, p3⟩ := hs4 j j0 j1
            have n1 := fun g f hf => nd_w hT.1 hW1.1.2.2.1 hy (f := f) hf j0 t1 t2 g
            rw [p1, p2, p3, wX_sum hT (y := y) (fun f hf => (n1 one f hf).1), wX_sum hT (y := y) (fun f hf => (n1 one f hf).2), wX_sum hT (y := y) (fun f hf => (n1 other f hf).2), Int.one_mul, Int.one_mul, Int.one_mul]
            exact ⟨rfl, rfl, rfl⟩
        · exact Smm.sub (ih f' post' (S4, ((pre.length + 1 : Nat) : Int), some (.inl v)) hp ⟨hFS4, hW4, hs4, by simp⟩) ⟨Or.inr rfl, Or.inr rfl, Or.inr rfl, Or.inr rfl, Or.inr rfl, Or.inr rfl, Or.inr rfl, Or.inr (sI e), Or.inr rfl, trivial⟩
    obtain ⟨r, hr⟩ := wy_first (err := rcN (nb y) (T 18)) (T 0 20).toNat (fun i hi => (g3 i hi).1)
    refine loop r [] _ (S1, 0, none) hr ⟨Fr.rf _ _ _, hW1, fun j j0 j1 => ?_, rfl⟩
    dsimp only
    rw [hF1.c 118 rfl, hF1.c 119 rfl, hF1.c 120 rfl]
    obtain ⟨p1, p2, p3⟩ := z0 j j0 j1
    rw [p1, p2, p3, smL, smL, smL, Int.mul_zero]
    exact ⟨rfl, rfl, rfl⟩
  have clear' : ∀ (i : Int) (S0 : St), ((0 ≤ i ∧ i ≤ 2500) ∧ Fr [118, 119, 120] [(117, 1), (117, 2), (117, 10)] S S0 ∧ (S0 117 1 = one ∧ S0 117 2 = other ∧ S0 117 10 = 10 * T 0 20) ∧ ∀ j, 0 ≤ j → j < i → S0 118 j = 0 ∧ S0 119 j = 0 ∧ S0 120 j = 0) → Smm H_Duel_fill 26 [some (.inr (.inr 117)), some (.inr (.inr 95)), some (.inr (.inr 63)), some (.inr (.inr 80)), some (.inl one), some (.inl other), some (.inl i), none, none] [] S0 Q := by
    clear es
    refine lp_up (P := fun i S0 => Smm H_Duel_fill 26 [some (.inr (.inr 117)), some (.inr (.inr 95)), some (.inr (.inr 63)), some (.inr (.inr 80)), some (.inl one), some (.inl other), some (.inl i), none, none] [] S0 Q) _ 2500 ?_ ?_
    · rintro i S0 hi ⟨hi2, hF, ⟨a1, a2, a10⟩, d⟩
      refine sound ok_Duel_fill [26, 66] 20 ?_
      refine ⟨fun _ => ?_, fun z => absurd z (by omega)⟩
      exact main S0 _ (hF.mo rfl rfl) a1 a2 a10 (fun j j0 j1 => d j j0 (by omega)) (lr_sm_l hR (hF.c _ rfl) (hF.c _ rfl) (hF.c _ rfl) (hF.c _ rfl) (hF.c _ rfl) (hF.c _ rfl) (hF.c _ rfl) (hF.c _ rfl)) (PlR_sm hP (hF.c _ rfl) (hF.c _ rfl) (hF.c _ rfl) (hF.c _ rfl)) (hF.c _ rfl)
    · rintro i S0 hi ⟨hi2, hF, ⟨a1, a2, a10⟩, d⟩ ih
      have hng : ¬ 2500 ≤ i := by omega
      have hix : 0 ≤ i ∧ i < 2500 := by omega
      have h1' : 0 ≤ i + 1 ∧ i + 1 ≤ 2500 := by omega
      have hF3 : Fr [118, 119, 120] [] S0 (up (up (up S0 118 i 0) 119 i 0) 120 i 0) := (((Fr.rf _ _ _).up _ _ _ rfl).up _ _ _ rfl).up _ _ _ rfl
      have hnew : ∀ j, 0 ≤ j → j < i + 1 → up (up (up S0 118 i 0) 119 i 0) 120 i 0 118 j = 0 ∧ up (up (up S0 118 i 0) 119 i 0) 120 i 0 119 j = 0 ∧ up (up (up S0 118 i 0) 119 i 0) 120 i 0 120 j = 0 := fun j j0 j1 => by
        by_cases z : j = i
        · simp [upr, z]
        · have := d j j0 (by omega)
          simp only [upr, z, and_false, if_false]
          exact this
      have e : i + 1 = i32 (i + 1) := (i32_id (by omega) (by omega)).symm
      refine sound ok_Duel_fill [26] 40 ?_
      refine ⟨fun z => absurd z hng, fun _ => ?_⟩
      refine ⟨hix, ?_⟩
      refine ⟨hix, ?_⟩
      refine ⟨hix, ?_⟩
      refine Smm.sub (ih _ ⟨h1', hF.tr (hF3.mo rfl rfl), ⟨by rw [hF3.c 117 rfl]; exact a1, by rw [hF3.c 117 rfl]; exact a2, by rw [hF3.c 117 rfl]; exact a10⟩, hnew⟩) ⟨Or.inr rfl, Or.inr rfl, Or.inr rfl, Or.inr rfl, Or.inr rfl, Or.inr rfl, Or.inr (sI e), Or.inr rfl, Or.inr rfl, trivial⟩
  have go := clear' 0 (up (up (up S 117 1 one) 117 2 other) 117 10 (i32 (S 63 1 * 10))) ⟨by clear es; omega, (((Fr.rf _ _ _).up _ _ _ rfl).up _ _ _ rfl).up _ _ _ rfl, ⟨by rw [up_n _ _ _ (by decide), up_n _ _ _ (by decide), up_s], by rw [up_n _ _ _ (by decide), up_s], by rw [up_s]; exact es⟩, fun j j0 j1 => absurd j1 (by clear es; omega)⟩
  refine sound ok_Duel_fill [26] 40 ?_
  exact go
