/-! the duel's rests -/
def msI (u v : Int → Int) (w a b : Nat) (S : St) : Prop := ∀ j : Nat, j < w → S 121 j = mxF (fun c => u (50 * (c : Int) + j)) (if j < b then a + 1 else a) ∧ S 122 j = mxF (fun c => v (50 * (j : Int) + c)) (if j < a then w else if j = a then b else 0)
theorem ms_next {u v : Int → Int} {w a : Nat} {S : St} (h : msI u v w a w S) : msI u v w (a + 1) 0 S := fun j hj => by
  obtain ⟨h1, h2⟩ := h j hj
  rw [if_pos hj] at h1
  rw [if_neg (show ¬ j < 0 by omega)]
  refine ⟨h1, ?_⟩
  rw [h2]
  by_cases z : j < a
  · rw [if_pos z, if_pos (by omega)]
  · by_cases y : j = a
    · rw [if_neg z, if_pos y, if_pos (by omega)]
    · rw [if_neg z, if_neg y, if_neg (by omega)]
      split <;> rfl
theorem ms_step {u v : Int → Int} {w a b : Nat} {S S' : St} (h : msI u v w a b S) (hb : b < w) (h1 : S' 121 = uf (S 121) b (max (S 121 b) (u (50 * (a : Int) + b)))) (h2 : S' 122 = uf (S 122) a (max (S 122 a) (v (50 * (a : Int) + b)))) (ha : a < w) : msI u v w a (b + 1) S' := fun j hj => by
  obtain ⟨g1, g2⟩ := h j hj
  obtain ⟨k1, k2⟩ := h b hb
  obtain ⟨m1, m2⟩ := h a ha
  rw [h1, h2]
  refine ⟨?_, ?_⟩
  · by_cases z : j = b
    · rw [z, uf_s, k1, if_neg (show ¬ b < b by omega), if_pos (show b < b + 1 by omega), mxF]
    · rw [uf_n _ _ (show ¬ (j : Int) = b by omega), g1]
      by_cases y : j < b
      · rw [if_pos y, if_pos (by omega)]
      · rw [if_neg y, if_neg (by omega)]
  · by_cases z : j = a
    · rw [z, uf_s, m2, if_neg (show ¬ a < a by omega), if_pos rfl, if_neg (show ¬ a < a by omega), if_pos rfl, mxF]
    · rw [uf_n _ _ (show ¬ (j : Int) = a by omega), g2]
      by_cases y : j < a
      · rw [if_pos y, if_pos y]
      · rw [if_neg y, if_neg y, if_neg z, if_neg z]
set_option maxHeartbeats 2000000 in
theorem t_findMosts (S : St) (one other : Int) (u v : Int → Int) (w : Nat) (Q : Option AV → St → Prop) (hw : S 117 10 = w ∧ w ≤ 50) (h1 : 0 ≤ one ∧ one < 4) (h2 : 0 ≤ other ∧ other < 4) (h : gnI S one other u v) (hQ : ∀ S', Fr [121, 122] [] S S' → (∀ j : Nat, j < w → S' 121 j = mxF (fun c => u (50 * (c : Int) + j)) w ∧ S' 122 j = mxF (fun c => v (50 * (j : Int) + c)) w) → Q none S') : Smm H_Duel_findMosts 0 [some (.inr (.inr 117)), some (.inr (.inr 63)), none, none, none] [] S Q := by
  obtain ⟨w10, hw50⟩ := hw
  have main : ∀ (S0 : St), Fr [121, 122] [] S S0 → msI u v w 0 0 S0 → ∀ x3 x4 : Option AV, Smm H_Duel_findMosts 30 [some (.inr (.inr 117)), some (.inr (.inr 63)), some (.inl ((0 : Nat) : Int)), x3, x4] [] S0 Q := by
    intro S0 hF0 hm0 x3 x4
    refine lp_g2 (σ := St × Option AV × Option AV) (PO := fun a s => Smm H_Duel_findMosts 30 [some (.inr (.inr 117)), some (.inr (.inr 63)), some (.inl (a : Int)), s.2.1, s.2.2] [] s.1 Q) (PI := fun a b s => Smm H_Duel_findMosts 40 [some (.inr (.inr 117)), some (.inr (.inr 63)), some (.inl (a : Int)), some (.inl (b : Int)), s.2.2] [] s.1 Q) w w (fun a s => Fr [121, 122] [] S s.1 ∧ msI u v w a 0 s.1) (fun a b s => Fr [121, 122] [] S s.1 ∧ msI u v w a b s.1) ?_ ?_ ?_ ?_ (S0, x3, x4) ⟨hF0, hm0⟩
    · rintro ⟨S1, y3, y4⟩ ⟨hF, hm⟩
      dsimp only at hF hm ⊢
      have q10 : S1 117 10 = w := by rw [hF.c 117 rfl]; exact w10
      refine sound ok_Duel_findMosts [30] 20 ?_
      refine ⟨fun _ => hQ S1 hF (fun j hj => ?_), fun z => absurd z (by rw [q10]; exact Int.lt_irrefl _)⟩
      obtain ⟨m1, m2⟩ := hm j hj
      rw [if_neg (show ¬ j < 0 by omega)] at m1
      rw [if_pos hj] at m2
      exact ⟨m1, m2⟩
    · rintro a ⟨S1, y3, y4⟩ ha ⟨hF, hm⟩ ih
      dsimp only at hF hm ⊢
      have q10 : S1 117 10 = w := by rw [hF.c 117 rfl]; exact w10
      refine sound ok_Duel_findMosts [40] 20 ?_
      exact ⟨fun z => absurd z (by rw [q10]; exact gd_l ha), fun _ => ih (S1, y3, y4) ⟨hF, hm⟩⟩
    · rintro a ⟨S1, y3, y4⟩ ha ⟨hF, hm⟩ ih
      dsimp only at hF hm ⊢
      have q10 : S1 117 10 = w := by rw [hF.c 117 rfl]; exact w10
      refine sound ok_Duel_findMosts [30] 20 ?_
      refine ⟨fun _ => ?_, fun z => absurd z (by rw [q10]; exact Int.lt_irrefl _)⟩
      exact Smm.sub (ih (S1, some (.inl (w : Int)), y4) ⟨hF, ms_next hm⟩) ⟨Or.inr rfl, Or.inr rfl, Or.inr (sI (gd_n ha hw50)), Or.inr rfl, Or.inr rfl, trivial⟩
    · rintro a b ⟨S1, y3, y4⟩ ha hb ⟨hF, hm⟩ ih
      dsimp only at hF hm ih ⊢
      have q10 : S1 117 10 = w := by rw [hF.c 117 rfl]; exact w10
      have hg := gnI_fr h hF rfl rfl rfl rfl rfl rfl rfl
      have hkb := (gd_k ha hb hw50).2.2
      have ek := gd_m ha hb hw50
      have hbx : (0 : Int) ≤ b ∧ (b : Int) < 50 := by omega
      have hax : (0 : Int) ≤ a ∧ (a : Int) < 50 := by omega
      have go1 := fun Q' hq' => t_gain1 S1 one other (50 * (a : Int) + b) u v Q' hg h1 hkb hq'
      rw [← ek] at go1
      refine sound ok_Duel_findMosts [40] 60 ?_
      refine ⟨fun z => absurd z (by rw [q10]; exact gd_l hb), fun _ => ?_⟩
      refine ⟨hbx, ?_⟩
      refine go1 _ ?_
      refine ⟨hbx, ?_⟩
      refine ⟨hax, ?_⟩
      have hF2 : Fr [121, 122] [] S1 (up S1 121 b (max (S1 121 b) (u (i32 (i32 ((a : Int) * 50) + b))))) := (Fr.rf _ _ _).up _ _ _ rfl
      have go2 := fun Q' hq' => t_gain2 (up S1 121 b (max (S1 121 b) (u (i32 (i32 ((a : Int) * 50) + b))))) one other (50 * (a : Int) + b) u v Q' (gnI_fr hg hF2 rfl rfl rfl rfl rfl rfl rfl) h2 hkb hq'
      rw [← ek] at go2
      refine go2 _ ?_
      refine ⟨hax, ?_⟩
      refine Smm.sub (ih (up (up S1 121 b (max (S1 121 b) (u (i32 (i32 ((a : Int) * 50) + b))))) 122 a (max (S1 122 a) (v (i32 (i32 ((a : Int) * 50) + b)))), y3, some (.inl (i32 (i32 ((a : Int) * 50) + b)))) ⟨(hF.tr hF2).up _ _ _ rfl, ?_⟩) ⟨Or.inr rfl, Or.inr rfl, Or.inr rfl, Or.inr (sI (gd_n hb hw50)), Or.inr rfl, trivial⟩
      rw [ek]
      refine ms_step hm hb ?_ ?_ ha
      · funext j
        unfold uf
        simp only [upr]
        by_cases z : j = b
        · simp [z]
        · simp [z]
      · funext j
        unfold uf
        simp only [upr]
        by_cases z : j = a
        · simp [z]
        · simp [z]
  have loop : ∀ (i : Int) (S1 : St), ((0 ≤ i ∧ i ≤ 50) ∧ Fr [121, 122] [] S S1 ∧ ∀ j, 0 ≤ j → j < i → S1 121 j = 0 ∧ S1 122 j = 0) → Smm H_Duel_findMosts 2 [some (.inr (.inr 117)), some (.inr (.inr 63)), some (.inl i), none, none] [] S1 Q := by
    refine lp_up (P := fun i S1 => Smm H_Duel_findMosts 2 [some (.inr (.inr 117)), some (.inr (.inr 63)), some (.inl i), none, none] [] S1 Q) _ 50 ?_ ?_
    · rintro i S1 hi ⟨hi2, hF, d⟩
      refine sound ok_Duel_findMosts [2, 30] 20 ?_
      refine ⟨fun _ => main S1 hF (fun j hj => ?_) none none, fun z => absurd z (by omega)⟩
      have := d j (by omega) (by omega)
      rw [if_neg (show ¬ j < 0 by omega), if_neg (show ¬ j < 0 by omega)]
      refine ⟨this.1, ?_⟩
      split <;> exact this.2
    · rintro i S1 hi ⟨hi2, hF, d⟩ ih
      have hng : ¬ 50 ≤ i := by omega
      have hix : 0 ≤ i ∧ i < 50 := by omega
      have hi3 : 0 ≤ i + 1 ∧ i + 1 ≤ 50 := by omega
      have hnew : ∀ j, 0 ≤ j → j < i + 1 → up (up S1 121 i 0) 122 i 0 121 j = 0 ∧ up (up S1 121 i 0) 122 i 0 122 j = 0 := fun j j0 j1 => by
        by_cases z : j = i
        · simp [upr, z]
        · have := d j j0 (by omega)
          simp only [upr, z, and_false, if_false]
          exact this
      have e : i + 1 = i32 (i + 1) := (i32_id (by omega) (by omega)).symm
      refine sound ok_Duel_findMosts [2] 40 ?_
      refine ⟨fun z => absurd z hng, fun _ => ?_⟩
      refine ⟨hix, ?_⟩
      refine ⟨hix, ?_⟩
      exact Smm.sub (ih _ ⟨hi3, (hF.up _ _ _ rfl).up _ _ _ rfl, hnew⟩) ⟨Or.inr rfl, Or.inr rfl, Or.inr (sI e), Or.inr rfl, Or.inr rfl, trivial⟩
  refine sound ok_Duel_findMosts [2] 20 ?_
  exact loop 0 S ⟨by omega, Fr.rf _ _ _, fun j j0 j1 => absurd j1 (by omega)⟩
theorem sr32 {q : Int} (h : 0 ≤ q ∧ q ≤ 5000) : q + 1 = i32 (q + 1) := (i32_id (by omega) (by omega)).symm
set_option maxHeartbeats 2000000 in
theorem t_findRest (S : St) (one other i : Int) (u v : Int → Int) (w : Nat) (Q : Option AV → St → Prop) (hw : S 117 10 = w ∧ w ≤ 50) (h1 : 0 ≤ one ∧ one < 4) (h2 : 0 ≤ other ∧ other < 4) (h : gnI S one other u v) (hQ : ∀ S', Fr [121, 122] [] S S' → Q (some (.inl (anS i (srA (rsB u v w) i w w)))) S') : Smm H_Duel_findRest 0 [some (.inr (.inr 117)), some (.inr (.inr 63)), some (.inl i), none, none, none, none] [] S Q := by
  refine sound ok_Duel_findRest [10] 40 ?_
  refine t_findMosts S one other u v w _ hw h1 h2 h (fun S1 hF hm => ?_)
  obtain ⟨w10, hw50⟩ := hw
  have q10 : S1 117 10 = w := by rw [hF.c 117 rfl]; exact w10
  have hg := gnI_fr h hF rfl rfl rfl rfl rfl rfl rfl
  have hq := hQ S1 hF
  have hp : ∀ a b : Nat, a < w → b < w → (rsB u v w a b = true ↔ (u (50 * (a : Int) + b) = S1 121 b ∧ v (50 * (a : Int) + b) = S1 122 a)) := fun a b ha hb => by
    rw [(hm b hb).1, (hm a ha).2, ← rs_mx hw50 ha hb (fun k k0 k1 => ⟨(h.2.2 k k0 k1).1.2, (h.2.2 k k0 k1).2.2⟩)]
    constructor
    · intro z
      by_cases y : rsP u v w a b
      · exact y
      · rw [rsB_f y] at z
        exact absurd z (by decide)
    · exact rsB_t
  generalize rsB u v w = p at hq hp
  refine lp_g2 (σ := Option AV × Option AV) (PO := fun a x => Smm H_Duel_findRest 10 [some (.inr (.inr 117)), some (.inr (.inr 63)), some (.inl i), some (.inl (srA p i w a).1), some (.inl (a : Int)), x.1, x.2] [] S1 Q) (PI := fun a b x => Smm H_Duel_findRest 22 [some (.inr (.inr 117)), some (.inr (.inr 63)), some (.inl i), some (.inl (srR p i a b (srA p i w a)).1), some (.inl (a : Int)), some (.inl (b : Int)), x.2] [] S1 Q) w w (fun a _ => (srA p i w a).2 < 0) (fun a b _ => (srR p i a b (srA p i w a)).2 < 0) ?_ ?_ ?_ ?_ (none, none) (by rw [srA]; decide)
  · rintro ⟨x, x'⟩ hx
    unfold anS at hq
    rw [if_neg (by omega)] at hq
    refine sound ok_Duel_findRest [10] 40 ?_
    refine ⟨fun _ => ?_, fun z => absurd z (by rw [q10]; exact Int.lt_irrefl _)⟩
    refine ⟨fun h4 => ?_, fun h4 => ?_⟩
    · rw [if_neg h4] at hq
      exact hq
    · rw [if_pos h4] at hq
      exact hq
  · rintro a ⟨x, x'⟩ ha hx ih
    refine sound ok_Duel_findRest [22] 20 ?_
    exact ⟨fun z => absurd z (by rw [q10]; exact gd_l ha), fun _ => ih (x, x') hx⟩
  · rintro a ⟨x, x'⟩ ha hx ih
    refine sound ok_Duel_findRest [10] 20 ?_
    refine ⟨fun _ => ?_, fun z => absurd z (by rw [q10]; exact Int.lt_irrefl _)⟩
    exact Smm.sub (ih (some (.inl (w : Int)), x') hx) ⟨Or.inr rfl, Or.inr rfl, Or.inr rfl, Or.inr rfl, Or.inr (sI (gd_n ha hw50)), Or.inr rfl, Or.inr rfl, trivial⟩
  · rintro a b ⟨x, x'⟩ ha hb hx ih
    have hbd := srR_b p i a (srA_b p i hw50 a) b
    have hst : srR p i a (b + 1) (srA p i w a) = srS (p a b) i (100 * a + b) (srR p i a b (srA p i w a)) := rfl
    have hat := srA_at p i (w := w) (a := a) (b := b + 1) ha (by omega)
    have hpab := hp a b ha hb
    have hkb := (gd_k ha hb hw50).2.2
    have hkd := gd_k ha hb hw50
    have hbx : (0 : Int) ≤ b ∧ (b : Int) < 50 := by omega
    have hax : (0 : Int) ≤ a ∧ (a : Int) < 50 := by omega
    have h0 : (0 : Int) ≤ 100 * (a : Int) + b := by omega
    have ek := gd_m ha hb hw50
    have ih := ih (x, some (.inl (i32 (i32 ((a : Int) * 50) + b))))
    rw [hst] at hat ih
    dsimp only at ih
    generalize srR p i a b (srA p i w a) = q at hbd hat ih hx
    have hq5 : 0 ≤ q.1 ∧ q.1 ≤ 5000 := by clear ek; omega
    unfold srS at hat ih
    rw [if_neg (show ¬ 0 ≤ q.2 by clear ek; omega)] at hat ih
    have eq1 := sr32 hq5
    have go1 := fun Q' hq' => t_gain1 S1 one other (50 * (a : Int) + b) u v Q' hg h1 hkb hq'
    have go2 := fun Q' hq' => t_gain2 S1 one other (50 * (a : Int) + b) u v Q' hg h2 hkb hq'
    have go3 := fun Q' hq' => t_codeOf S1 (50 * (a : Int) + b) Q' hkb hq'
    rw [← ek] at go1 go2 go3
    refine sound ok_Duel_findRest [22] 60 ?_
    refine ⟨fun z => absurd z (by rw [q10]; exact gd_l hb), fun _ => ?_⟩
    refine go1 _ ?_
    refine ⟨hbx, ?_⟩
    have notp : ¬ p a b = true → Smm H_Duel_findRest 22 [some (.inr (.inr 117)), some (.inr (.inr 63)), some (.inl i), some (.inl q.1), some (.inl (a : Int)), some (.inl (i32 ((b : Int) + 1))), some (.inl (i32 (i32 ((a : Int) * 50) + b)))] [] S1 Q := fun z => by
      rw [if_neg z] at ih
      exact Smm.sub (ih hx) ⟨Or.inr rfl, Or.inr rfl, Or.inr rfl, Or.inr rfl, Or.inr rfl, Or.inr (sI (gd_n hb hw50)), Or.inr rfl, trivial⟩
    refine ⟨fun h3 => ?_, fun h3 => ?_⟩
    · rw [ek] at h3
      exact notp (fun z => h3 (hpab.mp z).1)
    · rw [ek] at h3
      refine go2 _ ?_
      refine ⟨hax, ?_⟩
      refine ⟨fun h4 => ?_, fun h4 => ?_⟩
      · rw [ek] at h4
        exact notp (fun z => h4 (hpab.mp z).2)
      · rw [ek] at h4
        have hp1 := hpab.mpr ⟨h3, h4⟩
        rw [if_pos hp1] at hat ih
        refine ⟨fun h5 => ?_, fun h5 => ?_⟩
        · rw [if_neg h5] at ih
          exact Smm.sub (ih hx) ⟨Or.inr rfl, Or.inr rfl, Or.inr rfl, Or.inr (sI eq1), Or.inr rfl, Or.inr (sI (gd_n hb hw50)), Or.inr rfl, trivial⟩
        · rw [if_pos h5] at hat
          have hat := hat h0
          rw [hat] at hq
          unfold anS at hq
          rw [if_pos h0] at hq
          refine go3 _ ?_
          rw [ek, hkd.1, hkd.2.1]
          exact hq
