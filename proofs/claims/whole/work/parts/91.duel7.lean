/-! the duel asked -/
theorem gd_m {a b w : Nat} (ha : a < w) (hb : b < w) (hw : w ≤ 50) : i32 (i32 ((a : Int) * 50) + b) = 50 * a + b := by rw [i32_id (v := (a : Int) * 50) (by omega) (by omega)]; rw [i32_id (by omega) (by omega)]; omega
theorem gd_l {b w : Nat} (hb : b < w) : ¬ (w : Int) ≤ b := by omega
theorem gd_q {q : Int} (h : 0 ≤ q ∧ q < 2500) : i32 (i32 (idiv q 50 * 100) + irem q 50) = 100 * (q / 50) + q % 50 := by
  rw [idiv_pos h.1 (by omega) (by omega) (by omega), irem_pos h.1 (by omega) (by omega) (by omega), i32_id (v := q / 50 * 100) (by omega) (by omega), i32_id (by omega) (by omega)]
  omega
set_option maxHeartbeats 2000000 in
theorem t_mostOpen (S : St) (w : Nat) (Q : Option AV → St → Prop) (hw : S 117 10 = w ∧ w ≤ 50) (hQ : Q (some (.inl (bpA (S 118) w w))) S) : Smm H_Duel_mostOpen 0 [some (.inr (.inr 117)), none, none, none] [] S Q := by
  obtain ⟨w10, hw50⟩ := hw
  generalize ht : S 118 = t at hQ
  refine sound ok_Duel_mostOpen [4] 20 ?_
  refine lp_g2 (σ := Option AV) (PO := fun a x => Smm H_Duel_mostOpen 4 [some (.inr (.inr 117)), some (.inl (bpA t w a)), some (.inl (a : Int)), x] [] S Q) (PI := fun a b _ => Smm H_Duel_mostOpen 14 [some (.inr (.inr 117)), some (.inl (bpR t a b (bpA t w a))), some (.inl (a : Int)), some (.inl (b : Int))] [] S Q) w w (fun _ _ => True) (fun _ _ _ => True) ?_ ?_ ?_ ?_ none trivial
  · rintro x -
    refine sound ok_Duel_mostOpen [4] 20 ?_
    exact ⟨fun _ => hQ, fun z => absurd z (by rw [w10]; exact Int.lt_irrefl _)⟩
  · rintro a x ha - ih
    refine sound ok_Duel_mostOpen [14] 20 ?_
    exact ⟨fun z => absurd z (by rw [w10]; exact gd_l ha), fun _ => ih none trivial⟩
  · rintro a x ha - ih
    refine sound ok_Duel_mostOpen [4] 20 ?_
    refine ⟨fun _ => ?_, fun z => absurd z (by rw [w10]; exact Int.lt_irrefl _)⟩
    exact Smm.sub (ih (some (.inl (w : Int))) trivial) ⟨Or.inr rfl, Or.inr rfl, Or.inr (sI (gd_n ha hw50)), Or.inr rfl, trivial⟩
  · rintro a b x ha hb - ih
    have hr := bpR_b t (bpA_b t (w := w) (by omega) a (by omega)) (show a < 50 by omega) b (by omega)
    have hkb := (gd_k ha hb hw50).2.2
    have ek := gd_m ha hb hw50
    have ih := ih none trivial
    rw [bpR] at ih
    refine sound ok_Duel_mostOpen [14] 60 ?_
    refine ⟨fun z => absurd z (by rw [w10]; exact gd_l hb), fun _ => ?_⟩
    refine ⟨by rw [ek]; exact hkb, ?_⟩
    refine ⟨hr, ?_⟩
    refine ⟨fun h3 => ?_, fun h3 => ?_⟩
    · rw [ht, ek] at h3
      rw [if_neg (Int.not_lt.mpr h3)] at ih
      exact Smm.sub ih ⟨Or.inr rfl, Or.inr rfl, Or.inr rfl, Or.inr (sI (gd_n hb hw50)), trivial⟩
    · rw [ht, ek] at h3
      rw [if_pos h3] at ih
      exact Smm.sub ih ⟨Or.inr rfl, Or.inr (sI ek.symm), Or.inr rfl, Or.inr (sI (gd_n hb hw50)), trivial⟩
theorem t_codeOf (S : St) (q : Int) (Q : Option AV → St → Prop) (hq : 0 ≤ q ∧ q < 2500) (hQ : Q (some (.inl (100 * (q / 50) + q % 50))) S) : Smm H_Duel_codeOf 0 [some (.inr (.inr 117)), some (.inl q)] [] S Q := by
  rw [← gd_q hq] at hQ
  refine sound ok_Duel_codeOf [] 20 ?_
  refine ⟨by decide, ?_⟩
  refine ⟨by decide, ?_⟩
  exact hQ
theorem ctF_skip {t : Int → Int} {v : Int} {m : Nat} : ∀ d : Nat, (∀ j : Int, m ≤ j → j < (m + d : Nat) → ¬ t j = v) → ctF t v (m + d) = ctF t v m
  | 0, _ => rfl
  | d + 1, h => by
    rw [show m + (d + 1) = (m + d) + 1 by omega, ctF, if_neg (h ((m + d : Nat) : Int) (by omega) (by omega))]
    exact ctF_skip d (fun j j0 j1 => h j j0 (by omega))
theorem ct32 {t : Int → Int} {v : Int} {k : Nat} (hk : k ≤ 2500) : ctF t v k + 1 = i32 (ctF t v k + 1) := by
  have := ctF_b t v k
  exact (i32_id (by omega) (by omega)).symm
set_option maxHeartbeats 2000000 in
theorem t_countIn (S : St) (w : Nat) (v : Int) (Q : Option AV → St → Prop) (hw : S 117 10 = w ∧ w ≤ 50) (hv : ∀ k : Int, 0 ≤ k → k < 2500 → ¬ (k / 50 < w ∧ k % 50 < w) → ¬ S 118 k = v) (hQ : Q (some (.inl (ctF (S 118) v 2500))) S) : Smm H_Duel_countOpenIn 0 [some (.inr (.inr 117)), some (.inl v), none, none, none] [] S Q := by
  obtain ⟨w10, hw50⟩ := hw
  generalize ht : S 118 = t at hQ hv
  refine sound ok_Duel_countOpenIn [4] 20 ?_
  refine lp_g2 (σ := Option AV) (PO := fun a x => Smm H_Duel_countOpenIn 4 [some (.inr (.inr 117)), some (.inl v), some (.inl (ctF t v (50 * a))), some (.inl (a : Int)), x] [] S Q) (PI := fun a b _ => Smm H_Duel_countOpenIn 15 [some (.inr (.inr 117)), some (.inl v), some (.inl (ctF t v (50 * a + b))), some (.inl (a : Int)), some (.inl (b : Int))] [] S Q) w w (fun _ _ => True) (fun _ _ _ => True) ?_ ?_ ?_ ?_ none trivial
  · rintro x -
    have e := ctF_skip (t := t) (v := v) (m := 50 * w) (2500 - 50 * w) (fun j j0 j1 => hv j (by omega) (by omega) (by omega))
    rw [show 50 * w + (2500 - 50 * w) = 2500 by omega] at e
    rw [e] at hQ
    refine sound ok_Duel_countOpenIn [4] 20 ?_
    exact ⟨fun _ => hQ, fun z => absurd z (by rw [w10]; exact Int.lt_irrefl _)⟩
  · rintro a x ha - ih
    refine sound ok_Duel_countOpenIn [15] 20 ?_
    exact ⟨fun z => absurd z (by rw [w10]; exact gd_l ha), fun _ => ih none trivial⟩
  · rintro a x ha - ih
    have e := ctF_skip (t := t) (v := v) (m := 50 * a + w) (50 - w) (fun j j0 j1 => hv j (by omega) (by omega) (by omega))
    rw [show 50 * a + w + (50 - w) = 50 * (a + 1) by omega] at e
    refine sound ok_Duel_countOpenIn [4] 20 ?_
    refine ⟨fun _ => ?_, fun z => absurd z (by rw [w10]; exact Int.lt_irrefl _)⟩
    exact Smm.sub (ih (some (.inl (w : Int))) trivial) ⟨Or.inr rfl, Or.inr rfl, Or.inr (sI e), Or.inr (sI (gd_n ha hw50)), Or.inr rfl, trivial⟩
  · rintro a b x ha hb - ih
    have hkb := (gd_k ha hb hw50).2.2
    have ek := gd_m ha hb hw50
    have ec : ((50 * a + b : Nat) : Int) = 50 * (a : Int) + b := by push_cast; rfl
    have ih := ih none trivial
    rw [show 50 * a + (b + 1) = (50 * a + b) + 1 by omega, ctF, ec] at ih
    refine sound ok_Duel_countOpenIn [15] 60 ?_
    refine ⟨fun z => absurd z (by rw [w10]; exact gd_l hb), fun _ => ?_⟩
    refine ⟨by rw [ek]; exact hkb, ?_⟩
    refine ⟨fun h3 => ?_, fun h3 => ?_⟩
    · rw [ht, ek] at h3
      rw [if_neg h3] at ih
      exact Smm.sub ih ⟨Or.inr rfl, Or.inr rfl, Or.inr rfl, Or.inr rfl, Or.inr (sI (gd_n hb hw50)), trivial⟩
    · rw [ht, ek] at h3
      rw [if_pos h3] at ih
      exact Smm.sub ih ⟨Or.inr rfl, Or.inr rfl, Or.inr (sI (ct32 (by omega))), Or.inr rfl, Or.inr (sI (gd_n hb hw50)), trivial⟩
/-- what the two have of each pair -/
def gnI (S : St) (one other : Int) (u v : Int → Int) : Prop := S 117 1 = one ∧ S 117 2 = other ∧ ∀ k, 0 ≤ k → k < 2500 → (i32 (i32 (S 64 one * S 118 k) + i32 (S 65 one * S 119 k)) = u k ∧ 0 ≤ u k) ∧ (i32 (i32 (S 64 other * S 118 k) + i32 (S 65 other * S 120 k)) = v k ∧ 0 ≤ v k)
theorem gnI_fr {X : List Nat} {Y : List (Nat × Int)} {S S' : St} {one other : Int} {u v : Int → Int} (h : gnI S one other u v) (hF : Fr X Y S S') (c1 : (X.contains 117 || Y.contains (117, (1 : Int))) = false) (c2 : (X.contains 117 || Y.contains (117, (2 : Int))) = false) (cp : (X.contains 64 || Y.any (fun q => Nat.beq q.1 64)) = false) (ct : (X.contains 65 || Y.any (fun q => Nat.beq q.1 65)) = false) (co : (X.contains 118 || Y.any (fun q => Nat.beq q.1 118)) = false) (c3 : (X.contains 119 || Y.any (fun q => Nat.beq q.1 119)) = false) (c4 : (X.contains 120 || Y.any (fun q => Nat.beq q.1 120)) = false) : gnI S' one other u v := by
  unfold gnI
  rw [hF.s 117 1 c1, hF.s 117 2 c2, hF.c 64 cp, hF.c 65 ct, hF.c 118 co, hF.c 119 c3, hF.c 120 c4]
  exact h
theorem t_gain1 (S : St) (one other k : Int) (u v : Int → Int) (Q : Option AV → St → Prop) (h : gnI S one other u v) (h1 : 0 ≤ one ∧ one < 4) (hk : 0 ≤ k ∧ k < 2500) (hQ : Q (some (.inl (u k))) S) : Smm H_Duel_gainOfOne 0 [some (.inr (.inr 117)), some (.inr (.inr 63)), some (.inl k)] [] S Q := by
  obtain ⟨a1, a2, a3⟩ := h
  have e := (a3 k hk.1 hk.2).1.1
  have go := fun Q' hq' => t_gainOf S one (S 118 k) (S 119 k) Q' h1 hq'
  rw [← a1] at go e
  refine sound ok_Duel_gainOfOne [] 20 ?_
  refine ⟨hk, ?_⟩
  refine ⟨hk, ?_⟩
  refine go _ ?_
  rw [e]
  exact hQ
theorem t_gain2 (S : St) (one other k : Int) (u v : Int → Int) (Q : Option AV → St → Prop) (h : gnI S one other u v) (h1 : 0 ≤ other ∧ other < 4) (hk : 0 ≤ k ∧ k < 2500) (hQ : Q (some (.inl (v k))) S) : Smm H_Duel_gainOfOther 0 [some (.inr (.inr 117)), some (.inr (.inr 63)), some (.inl k)] [] S Q := by
  obtain ⟨a1, a2, a3⟩ := h
  have e := (a3 k hk.1 hk.2).2.1
  have go := fun Q' hq' => t_gainOf S other (S 118 k) (S 120 k) Q' h1 hq'
  rw [← a2] at go e
  refine sound ok_Duel_gainOfOther [] 20 ?_
  refine ⟨hk, ?_⟩
  refine ⟨hk, ?_⟩
  refine go _ ?_
  rw [e]
  exact hQ
/-- the most of several, 0 if there is none -/
def mxF (u : Nat → Int) : Nat → Int
  | 0 => 0
  | k + 1 => max (mxF u k) (u k)
theorem mxF_le (u : Nat → Int) (x : Int) : ∀ k : Nat, mxF u k ≤ x ↔ 0 ≤ x ∧ ∀ j, j < k → u j ≤ x
  | 0 => ⟨fun h => ⟨h, fun j hj => absurd hj (by omega)⟩, fun h => h.1⟩
  | k + 1 => by
    rw [mxF]
    constructor
    · intro h
      obtain ⟨a, b⟩ := (mxF_le u x k).mp (by omega)
      refine ⟨a, fun j hj => ?_⟩
      by_cases z : j = k
      · rw [z]; omega
      · exact b j (by omega)
    · rintro ⟨a, b⟩
      have h1 := (mxF_le u x k).mpr ⟨a, fun j hj => b j (by omega)⟩
      have h2 := b k (by omega)
      omega
theorem mxF_eq {u : Nat → Int} {w a : Nat} (h0 : ∀ j, j < w → 0 ≤ u j) (ha : a < w) : u a = mxF u w ↔ ∀ j, j < w → u j ≤ u a := by
  have h1 := (mxF_le u (mxF u w) w).mp (Int.le_refl _)
  have h2 := mxF_le u (u a) w
  constructor
  · intro h j hj
    rw [h]
    exact h1.2 j hj
  · intro h
    have := h2.mpr ⟨h0 a ha, h⟩
    have := h1.2 a ha
    omega
theorem rs_mx {u v : Int → Int} {w a b : Nat} (hw : w ≤ 50) (ha : a < w) (hb : b < w) (h : ∀ k, 0 ≤ k → k < 2500 → 0 ≤ u k ∧ 0 ≤ v k) : rsP u v w a b ↔ (u (50 * (a : Int) + b) = mxF (fun c => u (50 * (c : Int) + b)) w ∧ v (50 * (a : Int) + b) = mxF (fun c => v (50 * (a : Int) + c)) w) := by
  have e1 := mxF_eq (u := fun c : Nat => u (50 * (c : Int) + b)) (w := w) (a := a) (fun j hj => (h _ (by omega) (by omega)).1) ha
  have e2 := mxF_eq (u := fun c : Nat => v (50 * (a : Int) + c)) (w := w) (a := b) (fun j hj => (h _ (by omega) (by omega)).2) hb
  rw [e1, e2]
  unfold rsP
  constructor
  · intro q
    exact ⟨fun j hj => (q j (by omega) (by omega)).1, fun j hj => (q j (by omega) (by omega)).2⟩
  · rintro ⟨q1, q2⟩ k k0 k1
    obtain ⟨j, rfl⟩ : ∃ j : Nat, k = j := ⟨k.toNat, by omega⟩
    exact ⟨q1 j (by omega), q2 j (by omega)⟩
