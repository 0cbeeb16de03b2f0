/-! the duel: a plan of the one tried -/
theorem t_put2 (S : St) (l : List Int) (x : Int) (Q : Option AV → St → Prop) (hR : rwI 127 128 S l) (hs : srtd l) (hl : l.length < 4) (hQ : ∀ S', Fr [128] [(127, 1)] S S' → rwI 127 128 S' (rwP l x) → Q none S') : Smm H_Row_put 0 [some (.inr (.inr 127)), some (.inl x), none] [] S Q := by
  refine t_put_d S l x Q hR hs (by omega) (fun h => ?_) (fun h _ S' hF hr => ?_)
  · refine hQ S (Fr.rf _ _ _) ?_
    unfold rwP
    rw [if_neg (by omega)]
    exact hR
  · refine hQ S' hF ?_
    unfold rwP
    rw [if_pos h]
    exact hr
theorem dp32 {a s : Int} (ha : 0 ≤ a ∧ a < 50) (hs : 0 ≤ s ∧ s < 5) : i32 (i32 (a * 50) + i32 (s * 10)) = 50 * a + 10 * s := by
  rw [i32_id (v := a * 50) (by omega) (by omega), i32_id (v := s * 10) (by omega) (by omega), i32_id (by omega) (by omega)]
  omega
theorem dh32 {x d : Int} (hx : -5000 ≤ x ∧ x ≤ 3000000) (hd : 0 ≤ d ∧ d ≤ 9) : i32 (x + d) = x + d := i32_id (by omega) (by omega)
theorem da32 {x : Int} (hx : -5000 ≤ x ∧ x ≤ 1000000) : i32 (x - 1) = x - 1 := i32_id (by omega) (by omega)
theorem d10 {a : Int} (ha : 0 ≤ a ∧ a < 50) : idiv a 10 = a / 10 ∧ irem a 10 = a % 10 := ⟨idiv_pos ha.1 (by omega) (by omega) (by omega), irem_pos ha.1 (by omega) (by omega) (by omega)⟩
theorem dw_if {c c' c'' : Prop} [Decidable c] [Decidable c'] [Decidable c''] {x y : Int} (h : c'' ↔ c ∨ c') (hn : ¬ (c ∧ c')) : x + (if c then y else 0) + (if c' then y else 0) = x + (if c'' then y else 0) := by
  by_cases z : c
  · rw [if_pos z, if_neg (fun q => hn ⟨z, q⟩), if_pos (h.mpr (Or.inl z)), Int.add_zero]
  · by_cases y : c'
    · rw [if_neg z, if_pos y, if_pos (h.mpr (Or.inr y)), Int.add_zero]
    · rw [if_neg z, if_neg y, if_neg (fun q => (h.mp q).elim z y), Int.add_zero, Int.add_zero]
theorem wi_b {w v x : Int} {c : Prop} [Decidable c] (hw : 1 ≤ w) (hv : 0 ≤ v ∧ v ≤ 1) (hx : 0 ≤ x ∧ x ≤ 16807 ∧ (c → x + w ≤ 16807)) : 0 ≤ x + (if c then w * v else 0) ∧ x + (if c then w * v else 0) ≤ 16807 := by
  rcases (show v = 0 ∨ v = 1 by omega) with h | h
  · rw [h, Int.mul_zero]
    split <;> omega
  · rw [h, Int.mul_one]
    by_cases z : c
    · rw [if_pos z]
      have := hx.2.2 z
      omega
    · rw [if_neg z]
      omega
theorem ftP_b {t : Int → Int} : ∀ k : Nat, (∀ j : Int, 0 ≤ j → j < k → -2000 ≤ t j ∧ t j ≤ 1000000) → -2000 ≤ ftP t k ∧ ftP t k ≤ 1000000
  | 0, _ => by show -2000 ≤ (1000000 : Int) ∧ (1000000 : Int) ≤ 1000000; omega
  | k + 1, h => by
    have hs := ft_step (t := t) (k := k) (fun j j0 j1 => (h j j0 (by omega)).2)
    have hk := h k (by omega) (by omega)
    have ih := ftP_b k (fun j j0 j1 => h j j0 (by omega))
    by_cases z : t k < ftP t k
    · rw [(hs.1 z).2]; exact hk
    · rw [(hs.2 (by omega)).2]; exact ih
set_option maxHeartbeats 4000000 in
theorem t_tryPlan (T S : St) (f : Int → Int) (one other w a : Int) (n k : Nat) (Q : Option AV → St → Prop) (hT : mAs T) (hf : ofOk (T 0 20) f) (hW : wkI_l T S f) (hn : T 0 21 = n) (hk : T 0 19 = k) (h1 : 0 ≤ one ∧ one < k) (h2 : 0 ≤ other ∧ other < k) (hne : ¬ one = other) (e1 : S 117 1 = one) (e2 : S 117 2 = other) (hr : rwI 123 124 S (gaF (tnM T (smM T f)) (fun j => decide (¬ j = one ∧ ¬ j = other)) k)) (hw2 : S 95 2 = w) (hw : 1 ≤ w ∧ w ≤ 16807) (ha : 0 ≤ a ∧ a < 10 * T 0 20) (hv : (∀ j, 0 ≤ j → j < 2500 → (0 ≤ S 118 j ∧ S 118 j ≤ 16807 ∧ (50 * a ≤ j → j < 50 * a + 50 → S 118 j + w ≤ 16807)) ∧ (0 ≤ S 119 j ∧ S 119 j ≤ 16807 ∧ (50 * a ≤ j → j < 50 * a + 50 → S 119 j + w ≤ 16807)) ∧ (0 ≤ S 120 j ∧ S 120 j ≤ 16807 ∧ (50 * a ≤ j → j < 50 * a + 50 → S 120 j + w ≤ 16807)))) (hQ : ∀ S', Fr [118, 119, 120, 128, 129, 130] [(127, 1), (127, 4), (117, 11), (117, 12)] S S' → (∀ j, 0 ≤ j → j < 2500 → S' 118 j = S 118 j + (if 50 * a ≤ j ∧ j < 50 * a + 50 then w * wP T one other j f else 0) ∧ S' 119 j = S 119 j + (if 50 * a ≤ j ∧ j < 50 * a + 50 then w * wF T one other one j f else 0) ∧ S' 120 j = S 120 j + (if 50 * a ≤ j ∧ j < 50 * a + 50 then w * wF T one other other j f else 0)) → Q none S') : Smm H_Duel_tryPlan 0 [some (.inr (.inr 117)), some (.inr (.inr 95)), some (.inl (a : Int)), none, none, none, none] [] S Q := by
  have hk4 := hT.1.2.1
  have hn5 := hT.1.1.1
  have hnd := hT.2.1
  have h14 : 0 ≤ one ∧ one < 4 := by omega
  have h24 : 0 ≤ other ∧ other < 4 := by omega
  have ha5 : 0 ≤ a ∧ a < 50 := by omega
  have hs10 : 0 ≤ a / 10 ∧ a / 10 < T 0 20 := by omega
  have hva := vs_b hT.1 hf h14 ha
  have hvp := vs_p hT.1 hf h14 ha
  have hbh := be_h hT.1 hf h14 hs10
  have hgl : (gaF (tnM T (smM T f)) (fun j => decide (¬ j = one ∧ ¬ j = other)) k).length < 4 := by
    have := gaF_lt (t := tnM T (smM T f)) (p := fun j => decide (¬ j = one ∧ ¬ j = other)) (g := one) (decide_eq_false (fun q => q.1 rfl)) h1.1 k h1.2
    omega
  have hrl := rwP_len (gaF (tnM T (smM T f)) (fun j => decide (¬ j = one ∧ ¬ j = other)) k) (vsM T f one a)
  have hrb := rwP_bd (v := (vsM T f one a)) (rw_bd hT.1 hf (p := fun j => decide (¬ j = one ∧ ¬ j = other)) (k := k) (by omega)) hva
  have htl : ∀ i : Int, 0 ≤ i → i < k → -2000 ≤ uf (uf (tnM T (smM T f)) one (vsM T f one a)) other 1000000 i ∧ uf (uf (tnM T (smM T f)) one (vsM T f one a)) other 1000000 i ≤ 1000000 := fun i i0 i1 => by
    unfold uf
    have := tnM_b hT.1 hf (g := i) i0 (by omega)
    split
    · omega
    · split <;> omega
  have hpb := ftP_b k htl
  have hm10 : 0 ≤ a % 10 ∧ a % 10 ≤ 9 := by omega
  have hxb : -5000 ≤ smM T f (a / 10) + dl (T 19 (5 * one + a / 10)) ∧ smM T f (a / 10) + dl (T 19 (5 * one + a / 10)) ≤ 3000000 := by omega
  obtain ⟨d1, d2⟩ := d10 ha5
  have d3 := dh32 hxb hm10
  -- the loop over the other's signs
  have loop : ∀ (S4 : St) (b : Int), Fr [118, 119, 120, 128, 129, 130] [(127, 1), (127, 4), (117, 11), (117, 12)] S S4 → spI 127 129 130 S4 (spL n (T 0 22) (rwP (gaF (tnM T (smM T f)) (fun j => decide (¬ j = one ∧ ¬ j = other)) k) (vsM T f one a))) → ((b = 1 ∧ S4 117 11 = S4 117 1) ∨ (b = 0 ∧ ¬ S4 117 11 = S4 117 1)) → S4 117 11 = ftF (uf (uf (tnM T (smM T f)) one (vsM T f one a)) other 1000000) k → S4 118 = S 118 → S4 119 = S 119 → S4 120 = S 120 → ∀ (s : Int) (q : St × Option AV), ((0 ≤ s ∧ s ≤ T 0 20) ∧ Fr [118, 119, 120, 128, 129, 130] [(127, 1), (127, 4), (117, 11), (117, 12)] S q.1 ∧ Fr [118, 119, 120] [] S4 q.1 ∧ (∀ j, 0 ≤ j → j < 2500 → q.1 118 j = S 118 j + (if 50 * a ≤ j ∧ j < 50 * a + 10 * s then w * wP T one other j f else 0) ∧ q.1 119 j = S 119 j + (if 50 * a ≤ j ∧ j < 50 * a + 10 * s then w * wF T one other one j f else 0) ∧ q.1 120 j = S 120 j + (if 50 * a ≤ j ∧ j < 50 * a + 10 * s then w * wF T one other other j f else 0))) → Smm H_Duel_tryPlan 98 [some (.inr (.inr 117)), some (.inr (.inr 95)), some (.inl (a : Int)), some (.inl (vsM T f one a)), some (.inl (ahF (uf (tnM T (smM T f)) one (vsM T f one a)) other k)), some (.inl s), q.2] [] q.1 Q := by
    intro S4 b hF4 hs4 hb4 hft o4 o5 o6
    refine lp_up (P := fun s (q : St × Option AV) => Smm H_Duel_tryPlan 98 [some (.inr (.inr 117)), some (.inr (.inr 95)), some (.inl (a : Int)), some (.inl (vsM T f one a)), some (.inl (ahF (uf (tnM T (smM T f)) one (vsM T f one a)) other k)), some (.inl s), q.2] [] q.1 Q) _ (T 0 20) ?_ ?_
    · rintro s ⟨S5, x6⟩ hs ⟨hs2, hF5, hF45, d5⟩
      dsimp only at hF5 hF45 d5 ⊢
      have hW5 := wkI_fr_l hW hF5 rfl rfl
      have w1 : S5 95 1 = 0 := hW5.1.1
      have w2 : S5 63 1 = T 0 20 := hW5.1.2.1.1.2.1
      refine sound ok_Duel_tryPlan [98] 20 ?_
      refine ⟨fun _ => ?_, fun z => absurd (w1.symm.trans z) (by decide)⟩
      refine ⟨fun _ => hQ S5 hF5 (fun j j0 j1 => ?_), fun z => absurd z (by rw [w2]; clear d1 d2 d3; omega)⟩
      clear d1 d2 d3
      obtain ⟨p1, p2, p3⟩ := d5 j j0 j1
      rw [p1, p2, p3]
      by_cases u : 50 * a ≤ j ∧ j < 50 * a + 10 * s
      · rw [if_pos u, if_pos u, if_pos u, if_pos (by omega), if_pos (by omega), if_pos (by omega)]
        exact ⟨rfl, rfl, rfl⟩
      · rw [if_neg u, if_neg u, if_neg u]
        by_cases v : 50 * a ≤ j ∧ j < 50 * a + 50
        · have hi : ¬ (j / 50 < 10 * T 0 20 ∧ j % 50 < 10 * T 0 20) := by omega
          rw [if_pos v, if_pos v, if_pos v]
          unfold wP wF
          rw [if_neg hi, if_neg hi, if_neg hi, Int.mul_zero]
          exact ⟨rfl, rfl, rfl⟩
        · rw [if_neg v, if_neg v, if_neg v]
          exact ⟨rfl, rfl, rfl⟩
    · rintro s ⟨S5, x6⟩ hs ⟨hs2, hF5, hF45, d5⟩ ih
      dsimp only at hF5 hF45 d5 ih ⊢
      have hW5 := wkI_fr_l hW hF5 rfl rfl
      have w1 : S5 95 1 = 0 := hW5.1.1
      have w2 : S5 63 1 = T 0 20 := hW5.1.2.1.1.2.1
      have w3 : S5 95 2 = w := by rw [hF5.c 95 rfl]; exact hw2
      have q2 : S5 117 2 = other := by rw [hF5.s 117 2 rfl]; exact e2
      have q1 : S5 117 1 = one := by rw [hF5.s 117 1 rfl]; exact e1
      have q11 : S5 117 11 = S4 117 11 := by rw [hF45.c 117 rfl]
      have q41 : S4 117 1 = one := by rw [hF4.s 117 1 rfl]; exact e1
      have hng : ¬ S5 63 1 ≤ s := by rw [w2]; clear d1 d2 d3; omega
      have bs : 0 ≤ s ∧ s < 5 := by clear d1 d2 d3; omega
      have bs2 : 0 ≤ s ∧ s < T 0 20 := by clear d1 d2 d3; omega
      have hs1 : 0 ≤ s + 1 ∧ s + 1 ≤ T 0 20 := by clear d1 d2 d3; omega
      have hst : 0 ≤ 50 * a + 10 * s ∧ 50 * a + 10 * s + 10 ≤ 2500 := by clear d1 d2 d3; omega
      have hbo := be_h hT.1 hf h24 bs2
      have hbo2 : -5000 ≤ smM T f s + dl (T 19 (5 * other + s)) ∧ smM T f s + dl (T 19 (5 * other + s)) ≤ 3000000 := by clear d1 d2 d3; omega
      have hab : -5000 ≤ ahF (uf (tnM T (smM T f)) one (vsM T f one a)) other k ∧ ahF (uf (tnM T (smM T f)) one (vsM T f one a)) other k ≤ 1000000 := by
        clear d1 d2 d3
        unfold ahF
        split <;> omega
      have hw0 : 0 ≤ w ∧ w ≤ 16807 := by clear d1 d2 d3; omega
      have hv5 : ∀ j, 0 ≤ j → j < 2500 → (0 ≤ S5 118 j ∧ S5 118 j ≤ 16807) ∧ (0 ≤ S5 119 j ∧ S5 119 j ≤ 16807) ∧ (0 ≤ S5 120 j ∧ S5 120 j ≤ 16807) := fun j j0 j1 => by
        obtain ⟨p1, p2, p3⟩ := d5 j j0 j1
        obtain ⟨v1, v2, v3⟩ := hv j j0 j1
        rw [p1, p2, p3]
        have hcc : (50 * a ≤ j ∧ j < 50 * a + 10 * s) → j < 50 * a + 50 := by clear d1 d2 d3; omega
        exact ⟨wi_b hw.1 (wPF_b T one other one j f).1 ⟨v1.1, v1.2.1, fun q => v1.2.2 q.1 (hcc q)⟩, wi_b hw.1 (wPF_b T one other one j f).2 ⟨v2.1, v2.2.1, fun q => v2.2.2 q.1 (hcc q)⟩, wi_b hw.1 (wPF_b T one other other j f).2 ⟨v3.1, v3.2.1, fun q => v3.2.2 q.1 (hcc q)⟩⟩
      have hs5 : spI 127 129 130 S5 (spL n (T 0 22) (rwP (gaF (tnM T (smM T f)) (fun j => decide (¬ j = one ∧ ¬ j = other)) k) (vsM T f one a))) := ⟨by rw [hF45.c 127 rfl]; exact hs4.1, fun j hj => by rw [hF45.c 129 rfl, hF45.c 130 rfl]; exact hs4.2 j hj⟩
      have hb5 : (b = 1 ∧ S5 117 11 = S5 117 1) ∨ (b = 0 ∧ ¬ S5 117 11 = S5 117 1) := by rw [q11, q1, ← q41]; exact hb4
      have hbi : b = 1 ↔ ftF (uf (uf (tnM T (smM T f)) one (vsM T f one a)) other 1000000) k = one := by
        clear d1 d2 d3
        rw [← hft]
        rw [q41] at hb4
        omega
      have go := fun Q' hq' => t_dWay S5 (spL n (T 0 22) (rwP (gaF (tnM T (smM T f)) (fun j => decide (¬ j = one ∧ ¬ j = other)) k) (vsM T f one a))) (50 * a + 10 * s) (smM T f s + dl (T 19 (5 * other + s))) (ahF (uf (tnM T (smM T f)) one (vsM T f one a)) other k) w b Q' hs5 (spL_len (by clear d1 d2 d3; omega) (by clear d1 d2 d3; omega)) (sp_at (spL_b (by clear d1 d2 d3; omega) (by clear d1 d2 d3; omega) (lm_at hrb))) hst hbo2 hab hw0 hb5 hv5 hq'
      have e3 := dp32 ha5 bs
      have e4 : s + 1 = i32 (s + 1) := (i32_id (by clear d1 d2 d3 e3; omega) (by clear d1 d2 d3 e3; omega)).symm
      rw [← e3, ← w3] at go
      refine sound ok_Duel_tryPlan [98] 60 ?_
      refine ⟨fun _ => ?_, fun z => absurd (w1.symm.trans z) (by decide)⟩
      refine ⟨fun z => absurd z hng, fun _ => ?_⟩
      have goh := fun Q' hq' => t_hearing T S5 f other s Q' hT.1 hf hW5 h24 bs2 hq'
      rw [← q2] at goh
      refine goh _ ?_
      rw [q2]
      refine go _ (fun S6 hF6 d6 => ?_)
      rw [e3, w3] at d6
      clear goh go
      refine Smm.sub (ih (S6, some (.inl (i32 (i32 (a * 50) + i32 (s * 10))))) ⟨hs1, hF5.tr (hF6.mo rfl rfl), hF45.tr hF6, fun j j0 j1 => ?_⟩) ⟨Or.inr rfl, Or.inr rfl, Or.inr rfl, Or.inr rfl, Or.inr rfl, Or.inr (sI e4), Or.inr rfl, trivial⟩
      dsimp only
      clear d1 d2 d3 e3 e4 ih
      obtain ⟨g1, g2, g3⟩ := dw_val hT hf hn hk h1 h2 hne ha bs2 hbi w j
      obtain ⟨p1, p2, p3⟩ := d5 j j0 j1
      obtain ⟨r1, r2, r3⟩ := d6 j
      rw [r1, r2, r3, g1, g2, g3, p1, p2, p3]
      have hc : (50 * a ≤ j ∧ j < 50 * a + 10 * (s + 1)) ↔ (50 * a ≤ j ∧ j < 50 * a + 10 * s) ∨ (50 * a + 10 * s ≤ j ∧ j ≤ 50 * a + 10 * s + 9) := by omega
      have hc2 : ¬ ((50 * a ≤ j ∧ j < 50 * a + 10 * s) ∧ (50 * a + 10 * s ≤ j ∧ j ≤ 50 * a + 10 * s + 9)) := by omega
      exact ⟨dw_if hc hc2, dw_if hc hc2, dw_if hc hc2⟩
  have at93 : ∀ (S4 : St), Fr [118, 119, 120, 128, 129, 130] [(127, 1), (127, 4), (117, 11), (117, 12)] S S4 → spI 127 129 130 S4 (spL n (T 0 22) (rwP (gaF (tnM T (smM T f)) (fun j => decide (¬ j = one ∧ ¬ j = other)) k) (vsM T f one a))) → S4 117 11 = ftF (uf (uf (tnM T (smM T f)) one (vsM T f one a)) other 1000000) k → S4 118 = S 118 → S4 119 = S 119 → S4 120 = S 120 → Smm H_Duel_tryPlan 93 [some (.inr (.inr 117)), some (.inr (.inr 95)), some (.inl (a : Int)), some (.inl (vsM T f one a)), none, none, none] [.inl (ahF (uf (tnM T (smM T f)) one (vsM T f one a)) other k)] S4 Q := by
    intro S4 hF4 hs4 hft o4 o5 o6
    obtain ⟨b, hb⟩ : ∃ b : Int, ((b = 1 ∧ S4 117 11 = S4 117 1) ∨ (b = 0 ∧ ¬ S4 117 11 = S4 117 1)) := by
      by_cases z : S4 117 11 = S4 117 1
      · exact ⟨1, Or.inl ⟨rfl, z⟩⟩
      · exact ⟨0, Or.inr ⟨rfl, z⟩⟩
    refine sound ok_Duel_tryPlan [98] 20 ?_
    refine loop S4 b hF4 hs4 hb hft o4 o5 o6 0 (S4, none) ⟨by clear d1 d2 d3; omega, hF4, Fr.rf _ _ _, fun j j0 j1 => ?_⟩
    dsimp only
    have hc : ¬ (50 * a ≤ j ∧ j < 50 * a + 10 * 0) := by clear d1 d2 d3; omega
    rw [o4, o5, o6, if_neg hc, if_neg hc, if_neg hc, Int.add_zero, Int.add_zero, Int.add_zero]
    exact ⟨rfl, rfl, rfl⟩
  have go0 := fun Q' hq' => t_hearing T S f one (a / 10) Q' hT.1 hf hW h14 hs10 hq'
  rw [← d1, ← e1] at go0
  refine sound ok_Duel_tryPlan [93] 80 ?_
  refine ⟨by decide, ?_⟩
  refine go0 _ ?_
  refine ⟨by decide, ?_⟩
  have ep : min (i32 (smM T f (idiv a 10) + dl (T 19 (5 * S 117 1 + idiv a 10)) + irem a 10)) 1000000 = (vsM T f one a) := by
    rw [e1, d1, d2, d3]
    exact hvp
  refine t_Row_copy S (gaF (tnM T (smM T f)) (fun j => decide (¬ j = one ∧ ¬ j = other)) k) _ hr (by clear d1 d2 d3 ep; omega) (fun S1 hF1 hr1 => ?_)
  have go1 := fun Q' hq' => t_put2 S1 (gaF (tnM T (smM T f)) (fun j => decide (¬ j = one ∧ ¬ j = other)) k) (vsM T f one a) Q' hr1 (gaF_srtd _ _ _) hgl hq'
  rw [← ep] at go1
  refine go1 _ (fun S2 hF2 hr2 => ?_)
  rw [ep] at hr2
  have hW2 := wkI_fr_l (wkI_fr_l hW hF1 rfl rfl) hF2 rfl rfl
  have w1 : S2 95 1 = 0 := hW2.1.1
  have w6 : S2 63 4 = n := by rw [← hn]; exact hW2.1.2.1.1.2.2.1
  have w7 : S2 63 5 = T 0 22 := hW2.1.2.1.1.2.2.2.1
  have go2 := fun Q' hq' => t_findSpans_d S2 (rwP (gaF (tnM T (smM T f)) (fun j => decide (¬ j = one ∧ ¬ j = other)) k) (vsM T f one a)) n (T 0 22) Q' hr2 (by clear d1 d2 d3 ep go0 go1; omega) hrb (by clear d1 d2 d3 ep go0 go1; omega) (by clear d1 d2 d3 ep go0 go1; omega) hq'
  rw [← w6, ← w7] at go2
  refine ⟨fun _ => ?_, fun z => absurd (w1.symm.trans z) (by decide)⟩
  refine ⟨fun _ => ?_, fun z => absurd (w1.symm.trans z) (by decide)⟩
  refine go2 _ (fun S3 hF3 hs3 => ?_)
  rw [w7] at hs3
  have hW3 := wkI_fr_l hW2 hF3 rfl rfl
  have hFS3 : Fr [118, 119, 120, 128, 129, 130] [(127, 1), (127, 4), (117, 11), (117, 12)] S S3 := ((hF1.mo rfl rfl).tr (hF2.mo rfl rfl)).tr (hF3.mo rfl rfl)
  have go3 := fun Q' hq' => t_dFirst T S3 f one other (vsM T f one a) k Q' hT.1 hf hW3 hk (by rw [hFS3.s 117 1 rfl]; exact e1) (by rw [hFS3.s 117 2 rfl]; exact e2) (by clear d1 d2 d3 ep go0 go1 go2; omega) hne hq'
  rw [← ep] at go3
  refine go3 _ (fun S4 hF4 hfg hfp => ?_)
  rw [ep] at hfg hfp
  have hFS4 : Fr [118, 119, 120, 128, 129, 130] [(127, 1), (127, 4), (117, 11), (117, 12)] S S4 := hFS3.tr (hF4.mo rfl rfl)
  have hs4 : spI 127 129 130 S4 (spL n (T 0 22) (rwP (gaF (tnM T (smM T f)) (fun j => decide (¬ j = one ∧ ¬ j = other)) k) (vsM T f one a))) := ⟨by rw [hF4.c 127 rfl]; exact hs3.1, fun j hj => by rw [hF4.c 129 rfl, hF4.c 130 rfl]; exact hs3.2 j hj⟩
  have o4 : S4 118 = S 118 := by rw [hF4.c 118 rfl, hF3.c 118 rfl, hF2.c 118 rfl, hF1.c 118 rfl]
  have o5 : S4 119 = S 119 := by rw [hF4.c 119 rfl, hF3.c 119 rfl, hF2.c 119 rfl, hF1.c 119 rfl]
  have o6 : S4 120 = S 120 := by rw [hF4.c 120 rfl, hF3.c 120 rfl, hF2.c 120 rfl, hF1.c 120 rfl]
  have q2 : S4 117 2 = other := by rw [hFS4.s 117 2 rfl]; exact e2
  have a93 := at93 S4 hFS4 hs4 hfg o4 o5 o6
  have e5 := da32 (show -5000 ≤ ftP (uf (uf (tnM T (smM T f)) one (vsM T f one a)) other 1000000) k ∧ ftP (uf (uf (tnM T (smM T f)) one (vsM T f one a)) other 1000000) k ≤ 1000000 by clear d1 d2 d3 ep go0 go1 go2 go3; omega)
  refine ⟨fun z => ?_, fun z => ?_⟩
  · rw [hfg, q2] at z
    unfold ahF at a93
    rw [if_neg (Int.not_lt.mpr z), ← hfp] at a93
    rw [← hfp] at e5
    rw [← e5] at a93
    exact Smm.sub a93 ⟨Or.inr rfl, Or.inr rfl, Or.inr rfl, Or.inr (sI ep.symm), Or.inr rfl, Or.inr rfl, Or.inr rfl, trivial⟩
  · rw [hfg, q2] at z
    unfold ahF at a93
    rw [if_pos z, ← hfp] at a93
    exact Smm.sub a93 ⟨Or.inr rfl, Or.inr rfl, Or.inr rfl, Or.inr (sI ep.symm), Or.inr rfl, Or.inr rfl, Or.inr rfl, trivial⟩
