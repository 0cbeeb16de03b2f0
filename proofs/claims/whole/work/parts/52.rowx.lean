/-! rows of turns: the class -/
/-- spans of parts, with what is done up to -/
def spS (need : Nat) (breath : Int) (l : List Int) : Nat → Int × List (Int × Int)
  | 0 => (-2000000, [])
  | k + 1 => if l.getD (k + need - 2) 0 - l.getD k 0 ≤ breath then (l.getD k 0 + breath, (spS need breath l k).2 ++ [(max (l.getD (k + need - 2) 0 - breath) ((spS need breath l k).1 + 1), l.getD k 0 + breath)]) else spS need breath l k
def spL (need : Nat) (breath : Int) (l : List Int) : List (Int × Int) := if wmF need l l.length ≤ breath then [(-2000000, 4000000)] else (spS need breath l (l.length + 2 - need)).2
def spI (c f t : Nat) (S : St) (sp : List (Int × Int)) : Prop := S c 4 = sp.length ∧ ∀ j : Nat, j < sp.length → S f j = (sp.getD j (0, 0)).1 ∧ S t j = (sp.getD j (0, 0)).2
theorem spS_len (need : Nat) (breath : Int) (l : List Int) : ∀ k, (spS need breath l k).2.length ≤ k
  | 0 => Nat.le_refl 0
  | k + 1 => by
    have := spS_len need breath l k
    rw [spS]
    split
    · simp; omega
    · omega
theorem spI_app {c f t : Nat} {S S' : St} {sp : List (Int × Int)} (x y : Int) (h : spI c f t S sp) (h1 : S' c 4 = S c 4 + 1) (h2 : S' f = uf (S f) sp.length x) (h3 : S' t = uf (S t) sp.length y) : spI c f t S' (sp ++ [(x, y)]) := by
  refine ⟨by rw [h1, h.1]; simp, fun j hj => ?_⟩
  rw [h2, h3]
  rw [List.length_append] at hj
  by_cases hz : j = sp.length
  · rw [hz, uf_s, uf_s]; simp
  · have hl : j < sp.length := by simp at hj; omega
    rw [uf_n _ _ (by omega), uf_n _ _ (by omega)]
    have := h.2 j hl
    rw [this.1, this.2]
    simp [List.getD_eq_getElem?_getD, List.getElem?_append_left hl]
theorem wx1 {k need : Nat} (h : need ≤ k + 1) (hk : k < 10) (hn : need ≤ 4) : i32 (i32 ((k : Int) - need) + 1) = ((k + 1 - need : Nat) : Int) := by rw [i32_id (v := (k : Int) - need) (by omega) (by omega), i32_id (by omega) (by omega)]; omega
theorem wx2 {k need : Nat} (hk : k < 10) (hn : 2 ≤ need ∧ need ≤ 4) : i32 (i32 ((k : Int) + need) - 2) = ((k + need - 2 : Nat) : Int) := by rw [i32_id (v := (k : Int) + need) (by omega) (by omega), i32_id (by omega) (by omega)]; omega
theorem fx4 {a b br d : Int} (ha : -5000 ≤ a ∧ a ≤ 5000) (hb : -5000 ≤ b ∧ b ≤ 5000) (hbr : 0 ≤ br ∧ br ≤ 9) (hd : d = -2000000 ∨ (-6000 ≤ d ∧ d ≤ 6000)) : i32 (a - b) = a - b ∧ i32 (a - br) = a - br ∧ i32 (b + br) = b + br ∧ i32 (d + 1) = d + 1 :=
  ⟨i32_id (by omega) (by omega), i32_id (by omega) (by omega), i32_id (by omega) (by omega), i32_id (by omega) (by omega)⟩
theorem rb_get {l : List Int} {lo hi : Int} (h : ∀ x ∈ l, lo ≤ x ∧ x ≤ hi) {j : Nat} (hj : j < l.length) : lo ≤ l.getD j 0 ∧ l.getD j 0 ≤ hi := h _ (by
  rw [List.getD_eq_getElem?_getD, List.getElem?_eq_getElem hj]
  exact List.getElem_mem hj)
set_option maxHeartbeats 2000000 in
theorem t_put_w (S : St) (l : List Int) (x : Int) (Q : Option AV → St → Prop) (hR : rwI 102 103 S l) (hs : srtd l) (hl : l.length ≤ 4) (h1 : (1000000 ≤ x ∨ 4 ≤ l.length) → Q none S) (h2 : x < 1000000 → l.length < 4 → ∀ S', Fr [103] [(102, 1)] S S' → rwI 102 103 S' (ins x l) → Q none S') : Smm H_Row_put 0 [some (.inr (.inr 102)), some (.inl x), none] [] S Q := by
  obtain ⟨r1, r2⟩ := hR
  refine sound ok_Row_put [20] 40 ?_
  refine ⟨fun g => h1 (Or.inl g), fun g => ?_⟩
  refine ⟨fun g2 => ?_, fun g2 => h1 (Or.inr (by rw [r1] at g2; omega))⟩
  rw [r1] at g2
  have hlt : l.length < 4 := by omega
  have h2 := h2 g hlt
  have out : ∀ (q : Int) (S2 : St), (0 ≤ q + 1 ∧ q + 1 ≤ l.length) → Fr [103] [] S S2 → (∀ j : Nat, (j : Int) < q + 1 → S2 103 j = l.getD j 0) → (∀ j : Nat, q + 1 < j → j ≤ l.length → S2 103 j = l.getD (j - 1) 0) → (∀ j : Nat, q + 1 ≤ j → j < l.length → x < l.getD j 0) → (q + 1 = 0 ∨ l.getD q.toNat 0 ≤ x) → Smm H_Row_put 56 [some (.inr (.inr 102)), some (.inl x), some (.inl (q + 1))] [] S2 Q := by
    intro q S2 hq hF2 a1 a2 a3 a4
    have z1 : S2 102 1 = l.length := by rw [hF2.c 102 rfl, r1]
    have z2 : up S2 103 (q + 1) x 102 1 = l.length := by rw [up_o _ _ _ (by decide), z1]
    have e1 : i32 (up S2 103 (q + 1) x 102 1 + 1) = (ins x l).length := by rw [z2, ins_len, i32_id (by omega) (by omega)]; omega
    have hb : 0 ≤ q + 1 ∧ q + 1 < 4 := by omega
    have hq2 := h2 (up (up S2 103 (q + 1) x) 102 1 (i32 (up S2 103 (q + 1) x 102 1 + 1))) (((hF2.mo rfl rfl).up _ _ _ rfl).up _ _ _ rfl) ⟨by rw [up_s, e1], fun j hj => ?_⟩
    · refine sound ok_Row_put [] 40 ?_
      exact ⟨hb, hq2⟩
    · rw [ins_len] at hj
      clear e1 z2
      rw [up_o _ _ _ (by decide), ins_at x l (q + 1).toNat hs (by omega) (fun j h4 h5 => a3 j (by omega) (by omega)) (by
        rcases a4 with z | z
        · exact Or.inl (by omega)
        · by_cases hz : q + 1 = 0
          · exact Or.inl (by omega)
          · exact Or.inr (by rw [show (q + 1).toNat - 1 = q.toNat by omega]; exact z)), getD_ins _ _ _ _ (by omega)]
      by_cases hj1 : (j : Int) = q + 1
      · rw [hj1, up_s, if_neg (by omega), if_pos (by omega)]
      · rw [up_n _ _ _ hj1]
        by_cases hj2 : (j : Int) < q + 1
        · rw [if_pos (by omega)]
          exact a1 j hj2
        · rw [if_neg (by omega), if_neg (by omega)]
          exact a2 j (by omega) (by omega)
  have loop : ∀ (q : Int) (S2 : St), ((0 ≤ q + 1 ∧ q + 1 ≤ l.length) ∧ Fr [103] [] S S2 ∧ (∀ j : Nat, (j : Int) < q + 1 → S2 103 j = l.getD j 0) ∧ (∀ j : Nat, q + 1 < j → j ≤ l.length → S2 103 j = l.getD (j - 1) 0) ∧ (∀ j : Nat, q + 1 ≤ j → j < l.length → x < l.getD j 0)) → Smm H_Row_put 20 [some (.inr (.inr 102)), some (.inl x), some (.inl (q + 1))] [] S2 Q := by
    refine lp_dn (P := fun q S2 => Smm H_Row_put 20 [some (.inr (.inr 102)), some (.inl x), some (.inl (q + 1))] [] S2 Q) _ ?_ ?_
    · rintro q S2 hq ⟨b0, hF2, a1, a2, a3⟩
      refine sound ok_Row_put [56] 20 ?_
      exact ⟨fun _ => out q S2 b0 hF2 a1 a2 a3 (Or.inl (by omega)), fun h3 => absurd h3 (by omega)⟩
    · rintro q S2 hq ⟨b0, hF2, a1, a2, a3⟩ ih
      have hv : S2 103 q = l.getD q.toNat 0 := by
        have := a1 q.toNat (by omega)
        rwa [show ((q.toNat : Nat) : Int) = q by omega] at this
      have b1 : 0 ≤ q ∧ q < 4 := by omega
      have b2 : 0 ≤ q + 1 ∧ q + 1 < 4 := by omega
      have hp : 0 < q + 1 := by omega
      have e2 : q - 1 + 1 = i32 (q + 1 + -1) := by unfold i32; omega
      have eq1 : i32 (q + 1 - 1) = q := by unfold i32; omega
      refine sound ok_Row_put [56, 20] 40 ?_
      refine ⟨fun h3 => absurd h3 (by omega), fun _ => ?_⟩
      refine ⟨by rw [eq1]; exact b1, ?_⟩
      refine ⟨fun h4 => ?_, fun h4 => ?_⟩
      · rw [eq1, hv] at h4
        exact out q S2 b0 hF2 a1 a2 a3 (Or.inr h4)
      · rw [eq1, hv] at h4
        refine ⟨by rw [eq1]; exact b1, ?_⟩
        refine ⟨b2, ?_⟩
        have go := ih (up S2 103 (q + 1) (S2 103 q)) ⟨by omega, hF2.up _ _ _ rfl, fun j hj => ?_, fun j hj hj2 => ?_, fun j hj hj2 => ?_⟩
        · have e3 : S2 103 q = S2 103 (i32 (q + 1 - 1)) := by rw [eq1]
          rw [e3] at go
          exact Smm.sub go ⟨Or.inr rfl, Or.inr rfl, Or.inr (sI e2), trivial⟩
        · rw [up_n _ _ _ (by omega)]
          exact a1 j (by omega)
        · by_cases hjq : (j : Int) = q + 1
          · rw [hjq, up_s, hv, show j - 1 = q.toNat by omega]
          · rw [up_n _ _ _ hjq]
            exact a2 j (by omega) hj2
        · by_cases hjq : (j : Int) = q
          · rw [show j = q.toNat by omega]
            exact h4
          · exact a3 j (by omega) hj2
  have go := loop (l.length - 1) S ⟨by omega, Fr.rf _ _ _, fun j hj => r2 j (by omega), fun j hj hj2 => absurd hj (by omega), fun j hj hj2 => absurd hj (by omega)⟩
  exact Smm.sub go ⟨Or.inr rfl, Or.inr rfl, Or.inr (sI (by rw [r1]; omega)), trivial⟩
theorem t_gather_w (S : St) (n : Nat) (one other : Int) (Q : Option AV → St → Prop) (hn : n ≤ 4) (hQ : ∀ S', Fr [103] [(102, 1)] S S' → rwI 102 103 S' (gaF (S 101) (fun k => decide (¬ k = one ∧ ¬ k = other)) n) → Q none S') : Smm H_Row_gather 0 [some (.inr (.inr 102)), some (.inr (.inr 101)), some (.inl (n : Int)), some (.inl one), some (.inl other), none] [] S Q := by
  have loop : ∀ (i : Int) (S' : St), ((0 ≤ i ∧ i ≤ n) ∧ Fr [103] [(102, 1)] S S' ∧ rwI 102 103 S' (gaF (S 101) (fun k => decide (¬ k = one ∧ ¬ k = other)) i.toNat)) → Smm H_Row_gather 8 [some (.inr (.inr 102)), some (.inr (.inr 101)), some (.inl (n : Int)), some (.inl one), some (.inl other), some (.inl i)] [] S' Q := by
    refine lp_up (P := fun i S' => Smm H_Row_gather 8 [some (.inr (.inr 102)), some (.inr (.inr 101)), some (.inl (n : Int)), some (.inl one), some (.inl other), some (.inl i)] [] S' Q) _ n ?_ ?_
    · rintro i S' hi ⟨hi2, hF, hr⟩
      rw [show i.toNat = n by omega] at hr
      refine sound ok_Row_gather [8] 20 ?_
      exact ⟨fun _ => hQ S' hF hr, fun z => absurd z (by omega)⟩
    · rintro i S' hi ⟨hi2, hF, hr⟩ ih
      obtain ⟨k, rfl⟩ : ∃ k : Nat, i = k := ⟨i.toNat, by omega⟩
      rw [show ((k : Int)).toNat = k by omega] at hr
      rw [show ((k : Int) + 1).toNat = k + 1 by omega, gaF] at ih
      have hlen := gaF_len (S 101) (fun k => decide (¬ k = one ∧ ¬ k = other)) k
      have hsr := gaF_srtd (S 101) (fun k => decide (¬ k = one ∧ ¬ k = other)) k
      have et : S' 101 = S 101 := hF.c _ rfl
      have hk1 : 0 ≤ (k : Int) + 1 ∧ (k : Int) + 1 ≤ n := by omega
      have hk4 : 0 ≤ (k : Int) ∧ (k : Int) < 4 := by omega
      have hkn : k < n := by omega
      have e : (k : Int) + 1 = i32 ((k : Int) + 1) := (i32_id (by omega) (by omega)).symm
      have nx : ∀ S2, Fr [103] [(102, 1)] S S2 → rwI 102 103 S2 (if (decide (¬ (k : Int) = one ∧ ¬ (k : Int) = other)) = true ∧ S 101 k < 1000000 then ins (S 101 k) (gaF (S 101) (fun k => decide (¬ k = one ∧ ¬ k = other)) k) else gaF (S 101) (fun k => decide (¬ k = one ∧ ¬ k = other)) k) → Smm H_Row_gather 35 [some (.inr (.inr 102)), some (.inr (.inr 101)), some (.inl (n : Int)), some (.inl one), some (.inl other), some (.inl (k : Int))] [] S2 Q := by
        intro S2 g1 g2
        refine sound ok_Row_gather [8] 20 ?_
        exact Smm.sub (ih S2 ⟨hk1, g1, g2⟩) ⟨Or.inr rfl, Or.inr rfl, Or.inr rfl, Or.inr rfl, Or.inr rfl, Or.inr (sI e), trivial⟩
      refine sound ok_Row_gather [35] 40 ?_
      refine ⟨fun z => absurd z (nle_n hkn), fun _ => ?_⟩
      refine ⟨fun g1 => nx S' hF ?_, fun g1 => ?_⟩
      · rw [if_neg (fun z => (of_decide_eq_true z.1).1 g1)]; exact hr
      · refine ⟨fun g2 => nx S' hF ?_, fun g2 => ?_⟩
        · rw [if_neg (fun z => (of_decide_eq_true z.1).2 g2)]; exact hr
        · refine ⟨hk4, ?_⟩
          have hd : decide (¬ (k : Int) = one ∧ ¬ (k : Int) = other) = true := decide_eq_true ⟨g1, g2⟩
          refine t_put_w S' _ _ _ hr hsr (by omega) (fun z => ?_) (fun g3 g4 S2 hF2 hr2 => ?_)
          · rw [et] at z
            refine nx S' hF ?_
            rw [if_neg (by omega)]; exact hr
          · rw [et] at g3 hr2
            refine nx S2 (hF.tr hF2) ?_
            rw [if_pos ⟨hd, g3⟩]; exact hr2
  refine sound ok_Row_gather [8] 20 ?_
  refine loop 0 (up S 102 1 0) ⟨by omega, (Fr.rf _ _ _).up _ _ _ rfl, ?_⟩
  exact ⟨by rw [up_s]; rfl, fun j hj => absurd hj (by simp [gaF])⟩
theorem t_spread_w (S : St) (l : List Int) (need : Nat) (Q : Option AV → St → Prop) (hR : rwI 102 103 S l) (hl : l.length ≤ 4) (hb : ∀ x ∈ l, -5000 ≤ x ∧ x ≤ 5000) (hn : 2 ≤ need ∧ need ≤ 4) (hQ : Q (some (.inl (wmF need l l.length))) S) : Smm H_Row_spread 0 [some (.inr (.inr 102)), some (.inl (need : Int)), none, none] [] S Q := by
  obtain ⟨r1, r2⟩ := hR
  have wz : ∀ i : Nat, i + 1 ≤ need → wmF need l i = 1000000 := by
    intro i
    induction i with
    | zero => intro _; rfl
    | succ i ih => intro hi; rw [wmF, if_neg (by omega)]; exact ih (by omega)
  have hmin : need - 1 ≤ l.length ∨ wmF need l l.length = 1000000 := by
    by_cases h : l.length + 1 ≤ need
    · exact Or.inr (wz _ h)
    · exact Or.inl (by omega)
  have loop : ∀ (i : Int) (_ : Unit), ((need : Int) - 1 ≤ i ∧ (i ≤ l.length ∨ i = need - 1)) → Smm H_Row_spread 7 [some (.inr (.inr 102)), some (.inl (need : Int)), some (.inl (wmF need l (min i.toNat l.length))), some (.inl i)] [] S Q := by
    refine lp_up (P := fun i _ => Smm H_Row_spread 7 [some (.inr (.inr 102)), some (.inl (need : Int)), some (.inl (wmF need l (min i.toNat l.length))), some (.inl i)] [] S Q) (fun i _ => (need : Int) - 1 ≤ i ∧ (i ≤ l.length ∨ i = need - 1)) l.length ?_ ?_
    · rintro i - hi hi2
      refine sound ok_Row_spread [7] 20 ?_
      refine ⟨fun _ => ?_, fun z => absurd z (by rw [r1]; omega)⟩
      rw [show min i.toNat l.length = l.length by omega]
      exact hQ
    · rintro i - hi hi2 ih
      obtain ⟨k, rfl⟩ : ∃ k : Nat, i = k := ⟨i.toNat, by omega⟩
      have ih := ih () (by omega)
      rw [show min ((k : Int) + 1).toNat l.length = k + 1 by omega, wmF, if_pos (by omega)] at ih
      rw [show min ((k : Int)).toNat l.length = k by omega]
      have g1 := rb_get hb (j := k) (by omega)
      have g2 := rb_get hb (j := k + 1 - need) (by omega)
      have v1 : S 103 k = l.getD k 0 := r2 k (by omega)
      have v2 : S 103 ((k + 1 - need : Nat) : Int) = l.getD (k + 1 - need) 0 := r2 _ (by omega)
      have b1 : 0 ≤ (k : Int) ∧ (k : Int) < 4 := by omega
      have b2 : 0 ≤ ((k + 1 - need : Nat) : Int) ∧ ((k + 1 - need : Nat) : Int) < 4 := by omega
      have hk : ¬ S 102 1 ≤ k := by rw [r1]; omega
      have wxa : need ≤ k + 1 ∧ k < 10 := by omega
      have e : (k : Int) + 1 = i32 ((k : Int) + 1) := (i32_id (by omega) (by omega)).symm
      have e3 : i32 (l.getD k 0 - l.getD (k + 1 - need) 0) = l.getD k 0 - l.getD (k + 1 - need) 0 := i32_id (by omega) (by omega)
      have e1 : i32 (i32 ((k : Int) - need) + 1) = ((k + 1 - need : Nat) : Int) := wx1 wxa.1 wxa.2 hn.2
      refine sound ok_Row_spread [7] 40 ?_
      refine ⟨fun z => absurd z hk, fun _ => ?_⟩
      refine ⟨b1, ?_⟩
      refine ⟨by rw [e1]; exact b2, ?_⟩
      refine Smm.sub ih ⟨Or.inr rfl, Or.inr rfl, Or.inr (sI ?_), Or.inr (sI e), trivial⟩
      rw [e1, v1, v2, e3]
  have go := loop (need - 1) () ⟨Int.le_refl _, Or.inr rfl⟩
  refine sound ok_Row_spread [7] 20 ?_
  refine Smm.sub go ⟨Or.inr rfl, Or.inr rfl, Or.inr (sI ?_), Or.inr (sI (by unfold i32; omega)), trivial⟩
  have h9 := wz (min ((need : Int) - 1).toNat l.length) (by omega)
  exact h9
theorem t_momentOf_w (S : St) (l : List Int) (need : Nat) (breath : Int) (Q : Option AV → St → Prop) (hR : rwI 102 103 S l) (hl : l.length ≤ 4) (hb : ∀ x ∈ l, -5000 ≤ x ∧ x ≤ 5000) (hn : 2 ≤ need ∧ need ≤ 4) (hQ : Q (some (.inl (moF need breath l (need - 1) (l.length + 1 - need)))) S) : Smm H_Row_momentOf 0 [some (.inr (.inr 102)), some (.inl (need : Int)), some (.inl breath), none] [] S Q := by
  obtain ⟨r1, r2⟩ := hR
  have loop : ∀ (d k : Nat), need - 1 ≤ k → (k + d = l.length ∨ (d = 0 ∧ l.length ≤ k ∧ k ≤ 4)) → moF need breath l k d = moF need breath l (need - 1) (l.length + 1 - need) → Smm H_Row_momentOf 4 [some (.inr (.inr 102)), some (.inl (need : Int)), some (.inl breath), some (.inl (k : Int))] [] S Q := by
    intro d
    induction d with
    | zero =>
      intro k h1 h2 h3
      rw [← h3] at hQ
      refine sound ok_Row_momentOf [4] 20 ?_
      exact ⟨fun _ => hQ, fun z => absurd z (by rw [r1]; omega)⟩
    | succ d ih =>
      intro k h1 h2 h3
      have ih := ih (k + 1) (by omega) (by omega)
      rw [moF] at h3
      have g1 := rb_get hb (j := k) (by omega)
      have g2 := rb_get hb (j := k + 1 - need) (by omega)
      have v1 : S 103 k = l.getD k 0 := r2 k (by omega)
      have v2 : S 103 ((k + 1 - need : Nat) : Int) = l.getD (k + 1 - need) 0 := r2 _ (by omega)
      have b1 : 0 ≤ (k : Int) ∧ (k : Int) < 4 := by omega
      have b2 : 0 ≤ ((k + 1 - need : Nat) : Int) ∧ ((k + 1 - need : Nat) : Int) < 4 := by omega
      have hk : ¬ S 102 1 ≤ k := by rw [r1]; omega
      have hnv : ¬ l.getD k 0 = 1000000 := by omega
      have wxa : need ≤ k + 1 ∧ k < 10 := by omega
      have e : ((k + 1 : Nat) : Int) = i32 ((k : Int) + 1) := i32_s (by omega)
      have e3 : i32 (l.getD k 0 - l.getD (k + 1 - need) 0) = l.getD k 0 - l.getD (k + 1 - need) 0 := i32_id (by omega) (by omega)
      have e1 : i32 (i32 ((k : Int) - need) + 1) = ((k + 1 - need : Nat) : Int) := wx1 wxa.1 wxa.2 hn.2
      refine sound ok_Row_momentOf [4] 40 ?_
      refine ⟨fun z => absurd z hk, fun _ => ?_⟩
      refine ⟨b1, ?_⟩
      refine ⟨by rw [e1]; exact b2, ?_⟩
      refine ⟨fun g => ?_, fun g => ?_⟩
      · rw [e1, v1, v2, e3] at g
        rw [if_neg (fun z => absurd z.2 (Int.not_le.mpr g))] at h3
        exact Smm.sub (ih h3) ⟨Or.inr rfl, Or.inr rfl, Or.inr rfl, Or.inr (sI e), trivial⟩
      · rw [e1, v1, v2, e3] at g
        rw [if_pos ⟨hnv, g⟩] at h3
        rw [← h3, ← v1] at hQ
        exact ⟨b1, hQ⟩
  refine sound ok_Row_momentOf [4] 20 ?_
  by_cases hz : need ≤ l.length + 1
  · have go := loop (l.length + 1 - need) (need - 1) (Nat.le_refl _) (Or.inl (by omega)) rfl
    exact Smm.sub go ⟨Or.inr rfl, Or.inr rfl, Or.inr rfl, Or.inr (sI (by unfold i32; omega)), trivial⟩
  · have go := loop 0 (need - 1) (Nat.le_refl _) (Or.inr ⟨rfl, by omega, by omega⟩) (by rw [show l.length + 1 - need = 0 by omega])
    exact Smm.sub go ⟨Or.inr rfl, Or.inr rfl, Or.inr rfl, Or.inr (sI (by unfold i32; omega)), trivial⟩
theorem t_addSpan_w (S : St) (sp : List (Int × Int)) (x y : Int) (Q : Option AV → St → Prop) (hS : spI 102 104 105 S sp) (hl : sp.length < 4) (hQ : ∀ S', Fr [104, 105] [(102, 4)] S S' → spI 102 104 105 S' (sp ++ [(x, y)]) → Q none S') : Smm H_Row_addSpan 0 [some (.inr (.inr 102)), some (.inl x), some (.inl y)] [] S Q := by
  have z := hS.1
  have b1 : 0 ≤ S 102 4 ∧ S 102 4 < 4 := by omega
  have hq := hQ (up (up (up S 104 (S 102 4) x) 105 (S 102 4) y) 102 4 (i32 (S 102 4 + 1))) ((((Fr.rf _ _ _).up _ _ _ rfl).up _ _ _ rfl).up _ _ _ rfl) (spI_app x y hS (by rw [up_s]; exact i32_id (by omega) (by omega)) (by rw [up_o _ _ _ (by decide), up_o _ _ _ (by decide), up_c, z]; rfl) (by rw [up_o _ _ _ (by decide), up_c, z, up_o _ _ _ (by decide)]; rfl))
  refine sound ok_Row_addSpan [] 60 ?_
  refine ⟨fun g => absurd g (by omega), fun _ => ?_⟩
  refine ⟨b1, ?_⟩
  refine ⟨b1, ?_⟩
  exact hq
set_option maxHeartbeats 2000000 in
theorem t_findSpans_w (S : St) (l : List Int) (need : Nat) (breath : Int) (Q : Option AV → St → Prop) (hR : rwI 102 103 S l) (hl : l.length ≤ 4) (hb : ∀ x ∈ l, -5000 ≤ x ∧ x ≤ 5000) (hn : 2 ≤ need ∧ need ≤ 4) (hbr : 0 ≤ breath ∧ breath ≤ 9) (hQ : ∀ S', Fr [104, 105] [(102, 4)] S S' → spI 102 104 105 S' (spL need breath l) → Q none S') : Smm H_Row_findSpans 0 [some (.inr (.inr 102)), some (.inl (need : Int)), some (.inl breath), none, none, none] [] S Q := by
  have hF0 : Fr [104, 105] [(102, 4)] S (up S 102 4 0) := (Fr.rf _ _ _).up _ _ _ rfl
  have hR0 : rwI 102 103 (up S 102 4 0) l := rwI_fr hR (up_n _ _ _ (by decide)) (up_o _ _ _ (by decide))
  have hS0 : spI 102 104 105 (up S 102 4 0) [] := ⟨up_s _ _ _ _, fun j hj => absurd hj (by simp)⟩
  have dn : ∀ k, k ≤ l.length + 2 - need → (spS need breath l k).1 = -2000000 ∨ (-6000 ≤ (spS need breath l k).1 ∧ (spS need breath l k).1 ≤ 6000) := by
    intro k
    induction k with
    | zero => intro _; exact Or.inl rfl
    | succ k ih =>
      intro hk
      have ih := ih (by omega)
      rw [spS]
      split
      · have g := rb_get hb (j := k) (by omega)
        exact Or.inr ⟨by dsimp only; omega, by dsimp only; omega⟩
      · exact ih
  have loop : ¬ wmF need l l.length ≤ breath → ∀ (d k : Nat) (T : St) (x : Option AV), k + d = l.length + 2 - need → Fr [104, 105] [(102, 4)] S T → spI 102 104 105 T (spS need breath l k).2 → Smm H_Row_findSpans 29 [some (.inr (.inr 102)), some (.inl (need : Int)), some (.inl breath), some (.inl (spS need breath l k).1), some (.inl (k : Int)), x] [] T Q := by
    intro hw d
    induction d with
    | zero =>
      intro k T x hk hF hI
      have r1 : T 102 1 = l.length := by rw [hF.s 102 1 rfl]; exact hR.1
      have hq := hQ T hF (by unfold spL; rw [if_neg hw, ← hk]; exact hI)
      have h1 : ¬ (k : Int) + need - 2 < l.length := by omega
      have e1 : i32 (i32 ((k : Int) + need) - 2) = (k : Int) + need - 2 := by rw [i32_id (v := (k : Int) + need) (by omega) (by omega)]; exact i32_id (by omega) (by omega)
      refine sound ok_Row_findSpans [29] 40 ?_
      exact ⟨fun _ => hq, fun z => absurd z (by rw [r1, e1]; exact h1)⟩
    | succ d ih =>
      intro k T x hk hF hI
      have hR2 : rwI 102 103 T l := rwI_fr hR (hF.s 102 1 rfl) (hF.c 103 rfl)
      obtain ⟨r1, r2⟩ := hR2
      have hd := dn k (by omega)
      have hlen := spS_len need breath l k
      have hst : spS need breath l (k + 1) = if l.getD (k + need - 2) 0 - l.getD k 0 ≤ breath then (l.getD k 0 + breath, (spS need breath l k).2 ++ [(max (l.getD (k + need - 2) 0 - breath) ((spS need breath l k).1 + 1), l.getD k 0 + breath)]) else spS need breath l k := rfl
      have ih := ih (k + 1)
      rw [hst] at ih
      clear hst
      have g1 := rb_get hb (j := k) (by omega)
      have g2 := rb_get hb (j := k + need - 2) (by omega)
      have v1 : T 103 k = l.getD k 0 := r2 k (by omega)
      have v2 : T 103 ((k + need - 2 : Nat) : Int) = l.getD (k + need - 2) 0 := r2 _ (by omega)
      have b1 : 0 ≤ (k : Int) ∧ (k : Int) < 4 := by omega
      have b2 : 0 ≤ ((k + need - 2 : Nat) : Int) ∧ ((k + need - 2 : Nat) : Int) < 4 := by omega
      have h1 : ¬ (l.length : Int) ≤ ((k + need - 2 : Nat) : Int) := by omega
      have hsl : (spS need breath l k).2.length < 4 := by omega
      have wxa : k < 10 := by omega
      have hkd : k + 1 + d = l.length + 2 - need := by omega
      have e : ((k + 1 : Nat) : Int) = i32 ((k : Int) + 1) := i32_s (by omega)
      obtain ⟨e3, e4, e5, e6⟩ := fx4 g2 g1 hbr hd
      have e1 : i32 (i32 ((k : Int) + need) - 2) = ((k + need - 2 : Nat) : Int) := wx2 wxa hn
      generalize hj2 : k + need - 2 = j2 at *
      generalize spS need breath l k = sp at *
      refine sound ok_Row_findSpans [29, 107] 60 ?_
      refine ⟨fun z => absurd z (by rw [r1, e1]; exact h1), fun _ => ?_⟩
      refine ⟨by rw [e1]; exact b2, ?_⟩
      refine ⟨b1, ?_⟩
      refine ⟨fun g => ?_, fun g => ?_⟩
      · rw [e1, v1, v2, e3] at g
        rw [if_neg (Int.not_le.mpr g)] at ih
        refine sound ok_Row_findSpans [29] 20 ?_
        exact Smm.sub (ih T _ hkd hF hI) ⟨Or.inr rfl, Or.inr rfl, Or.inr rfl, Or.inr rfl, Or.inr (sI e), Or.inr rfl, trivial⟩
      · rw [e1, v1, v2, e3] at g
        rw [if_pos g] at ih
        refine ⟨by rw [e1]; exact b2, ?_⟩
        refine ⟨b1, ?_⟩
        refine t_addSpan_w T sp.2 _ _ _ hI hsl (fun T2 hF2 hI2 => ?_)
        have v3 : T2 103 k = l.getD k 0 := by rw [hF2.c 103 rfl, v1]
        rw [e1, v2, v1, e4, e5, e6] at hI2
        refine ⟨b1, ?_⟩
        refine sound ok_Row_findSpans [29] 20 ?_
        refine Smm.sub (ih T2 _ hkd (hF.tr hF2) hI2) ⟨Or.inr rfl, Or.inr rfl, Or.inr rfl, Or.inr (sI ?_), Or.inr (sI e), Or.inr rfl, trivial⟩
        rw [v3, e5]
  refine sound ok_Row_findSpans [29] 40 ?_
  refine t_spread_w (up S 102 4 0) l need _ hR0 hl hb hn ?_
  refine ⟨fun g => ?_, fun g => ?_⟩
  · exact loop (Int.not_le.mpr g) (l.length + 2 - need) 0 _ none (by omega) hF0 hS0
  · refine t_addSpan_w (up S 102 4 0) [] _ _ _ hS0 (by decide) (fun T hF hI => ?_)
    exact hQ T (hF0.tr hF) (by unfold spL; rw [if_pos g]; exact hI)
set_option maxHeartbeats 2000000 in
theorem t_put_s (S : St) (l : List Int) (x : Int) (Q : Option AV → St → Prop) (hR : rwI 113 114 S l) (hs : srtd l) (hl : l.length ≤ 4) (h1 : (1000000 ≤ x ∨ 4 ≤ l.length) → Q none S) (h2 : x < 1000000 → l.length < 4 → ∀ S', Fr [114] [(113, 1)] S S' → rwI 113 114 S' (ins x l) → Q none S') : Smm H_Row_put 0 [some (.inr (.inr 113)), some (.inl x), none] [] S Q := by
  obtain ⟨r1, r2⟩ := hR
  refine sound ok_Row_put [20] 40 ?_
  refine ⟨fun g => h1 (Or.inl g), fun g => ?_⟩
  refine ⟨fun g2 => ?_, fun g2 => h1 (Or.inr (by rw [r1] at g2; omega))⟩
  rw [r1] at g2
  have hlt : l.length < 4 := by omega
  have h2 := h2 g hlt
  have out : ∀ (q : Int) (S2 : St), (0 ≤ q + 1 ∧ q + 1 ≤ l.length) → Fr [114] [] S S2 → (∀ j : Nat, (j : Int) < q + 1 → S2 114 j = l.getD j 0) → (∀ j : Nat, q + 1 < j → j ≤ l.length → S2 114 j = l.getD (j - 1) 0) → (∀ j : Nat, q + 1 ≤ j → j < l.length → x < l.getD j 0) → (q + 1 = 0 ∨ l.getD q.toNat 0 ≤ x) → Smm H_Row_put 56 [some (.inr (.inr 113)), some (.inl x), some (.inl (q + 1))] [] S2 Q := by
    intro q S2 hq hF2 a1 a2 a3 a4
    have z1 : S2 113 1 = l.length := by rw [hF2.c 113 rfl, r1]
    have z2 : up S2 114 (q + 1) x 113 1 = l.length := by rw [up_o _ _ _ (by decide), z1]
    have e1 : i32 (up S2 114 (q + 1) x 113 1 + 1) = (ins x l).length := by rw [z2, ins_len, i32_id (by omega) (by omega)]; omega
    have hb : 0 ≤ q + 1 ∧ q + 1 < 4 := by omega
    have hq2 := h2 (up (up S2 114 (q + 1) x) 113 1 (i32 (up S2 114 (q + 1) x 113 1 + 1))) (((hF2.mo rfl rfl).up _ _ _ rfl).up _ _ _ rfl) ⟨by rw [up_s, e1], fun j hj => ?_⟩
    · refine sound ok_Row_put [] 40 ?_
      exact ⟨hb, hq2⟩
    · rw [ins_len] at hj
      clear e1 z2
      rw [up_o _ _ _ (by decide), ins_at x l (q + 1).toNat hs (by omega) (fun j h4 h5 => a3 j (by omega) (by omega)) (by
        rcases a4 with z | z
        · exact Or.inl (by omega)
        · by_cases hz : q + 1 = 0
          · exact Or.inl (by omega)
          · exact Or.inr (by rw [show (q + 1).toNat - 1 = q.toNat by omega]; exact z)), getD_ins _ _ _ _ (by omega)]
      by_cases hj1 : (j : Int) = q + 1
      · rw [hj1, up_s, if_neg (by omega), if_pos (by omega)]
      · rw [up_n _ _ _ hj1]
        by_cases hj2 : (j : Int) < q + 1
        · rw [if_pos (by omega)]
          exact a1 j hj2
        · rw [if_neg (by omega), if_neg (by omega)]
          exact a2 j (by omega) (by omega)
  have loop : ∀ (q : Int) (S2 : St), ((0 ≤ q + 1 ∧ q + 1 ≤ l.length) ∧ Fr [114] [] S S2 ∧ (∀ j : Nat, (j : Int) < q + 1 → S2 114 j = l.getD j 0) ∧ (∀ j : Nat, q + 1 < j → j ≤ l.length → S2 114 j = l.getD (j - 1) 0) ∧ (∀ j : Nat, q + 1 ≤ j → j < l.length → x < l.getD j 0)) → Smm H_Row_put 20 [some (.inr (.inr 113)), some (.inl x), some (.inl (q + 1))] [] S2 Q := by
    refine lp_dn (P := fun q S2 => Smm H_Row_put 20 [some (.inr (.inr 113)), some (.inl x), some (.inl (q + 1))] [] S2 Q) _ ?_ ?_
    · rintro q S2 hq ⟨b0, hF2, a1, a2, a3⟩
      refine sound ok_Row_put [56] 20 ?_
      exact ⟨fun _ => out q S2 b0 hF2 a1 a2 a3 (Or.inl (by omega)), fun h3 => absurd h3 (by omega)⟩
    · rintro q S2 hq ⟨b0, hF2, a1, a2, a3⟩ ih
      have hv : S2 114 q = l.getD q.toNat 0 := by
        have := a1 q.toNat (by omega)
        rwa [show ((q.toNat : Nat) : Int) = q by omega] at this
      have b1 : 0 ≤ q ∧ q < 4 := by omega
      have b2 : 0 ≤ q + 1 ∧ q + 1 < 4 := by omega
      have hp : 0 < q + 1 := by omega
      have e2 : q - 1 + 1 = i32 (q + 1 + -1) := by unfold i32; omega
      have eq1 : i32 (q + 1 - 1) = q := by unfold i32; omega
      refine sound ok_Row_put [56, 20] 40 ?_
      refine ⟨fun h3 => absurd h3 (by omega), fun _ => ?_⟩
      refine ⟨by rw [eq1]; exact b1, ?_⟩
      refine ⟨fun h4 => ?_, fun h4 => ?_⟩
      · rw [eq1, hv] at h4
        exact out q S2 b0 hF2 a1 a2 a3 (Or.inr h4)
      · rw [eq1, hv] at h4
        refine ⟨by rw [eq1]; exact b1, ?_⟩
        refine ⟨b2, ?_⟩
        have go := ih (up S2 114 (q + 1) (S2 114 q)) ⟨by omega, hF2.up _ _ _ rfl, fun j hj => ?_, fun j hj hj2 => ?_, fun j hj hj2 => ?_⟩
        · have e3 : S2 114 q = S2 114 (i32 (q + 1 - 1)) := by rw [eq1]
          rw [e3] at go
          exact Smm.sub go ⟨Or.inr rfl, Or.inr rfl, Or.inr (sI e2), trivial⟩
        · rw [up_n _ _ _ (by omega)]
          exact a1 j (by omega)
        · by_cases hjq : (j : Int) = q + 1
          · rw [hjq, up_s, hv, show j - 1 = q.toNat by omega]
          · rw [up_n _ _ _ hjq]
            exact a2 j (by omega) hj2
        · by_cases hjq : (j : Int) = q
          · rw [show j = q.toNat by omega]
            exact h4
          · exact a3 j (by omega) hj2
  have go := loop (l.length - 1) S ⟨by omega, Fr.rf _ _ _, fun j hj => r2 j (by omega), fun j hj hj2 => absurd hj (by omega), fun j hj hj2 => absurd hj (by omega)⟩
  exact Smm.sub go ⟨Or.inr rfl, Or.inr rfl, Or.inr (sI (by rw [r1]; omega)), trivial⟩
theorem t_gather_s (S : St) (n : Nat) (one other : Int) (Q : Option AV → St → Prop) (hn : n ≤ 4) (hQ : ∀ S', Fr [114] [(113, 1)] S S' → rwI 113 114 S' (gaF (S 101) (fun k => decide (¬ k = one ∧ ¬ k = other)) n) → Q none S') : Smm H_Row_gather 0 [some (.inr (.inr 113)), some (.inr (.inr 101)), some (.inl (n : Int)), some (.inl one), some (.inl other), none] [] S Q := by
  have loop : ∀ (i : Int) (S' : St), ((0 ≤ i ∧ i ≤ n) ∧ Fr [114] [(113, 1)] S S' ∧ rwI 113 114 S' (gaF (S 101) (fun k => decide (¬ k = one ∧ ¬ k = other)) i.toNat)) → Smm H_Row_gather 8 [some (.inr (.inr 113)), some (.inr (.inr 101)), some (.inl (n : Int)), some (.inl one), some (.inl other), some (.inl i)] [] S' Q := by
    refine lp_up (P := fun i S' => Smm H_Row_gather 8 [some (.inr (.inr 113)), some (.inr (.inr 101)), some (.inl (n : Int)), some (.inl one), some (.inl other), some (.inl i)] [] S' Q) _ n ?_ ?_
    · rintro i S' hi ⟨hi2, hF, hr⟩
      rw [show i.toNat = n by omega] at hr
      refine sound ok_Row_gather [8] 20 ?_
      exact ⟨fun _ => hQ S' hF hr, fun z => absurd z (by omega)⟩
    · rintro i S' hi ⟨hi2, hF, hr⟩ ih
      obtain ⟨k, rfl⟩ : ∃ k : Nat, i = k := ⟨i.toNat, by omega⟩
      rw [show ((k : Int)).toNat = k by omega] at hr
      rw [show ((k : Int) + 1).toNat = k + 1 by omega, gaF] at ih
      have hlen := gaF_len (S 101) (fun k => decide (¬ k = one ∧ ¬ k = other)) k
      have hsr := gaF_srtd (S 101) (fun k => decide (¬ k = one ∧ ¬ k = other)) k
      have et : S' 101 = S 101 := hF.c _ rfl
      have hk1 : 0 ≤ (k : Int) + 1 ∧ (k : Int) + 1 ≤ n := by omega
      have hk4 : 0 ≤ (k : Int) ∧ (k : Int) < 4 := by omega
      have hkn : k < n := by omega
      have e : (k : Int) + 1 = i32 ((k : Int) + 1) := (i32_id (by omega) (by omega)).symm
      have nx : ∀ S2, Fr [114] [(113, 1)] S S2 → rwI 113 114 S2 (if (decide (¬ (k : Int) = one ∧ ¬ (k : Int) = other)) = true ∧ S 101 k < 1000000 then ins (S 101 k) (gaF (S 101) (fun k => decide (¬ k = one ∧ ¬ k = other)) k) else gaF (S 101) (fun k => decide (¬ k = one ∧ ¬ k = other)) k) → Smm H_Row_gather 35 [some (.inr (.inr 113)), some (.inr (.inr 101)), some (.inl (n : Int)), some (.inl one), some (.inl other), some (.inl (k : Int))] [] S2 Q := by
        intro S2 g1 g2
        refine sound ok_Row_gather [8] 20 ?_
        exact Smm.sub (ih S2 ⟨hk1, g1, g2⟩) ⟨Or.inr rfl, Or.inr rfl, Or.inr rfl, Or.inr rfl, Or.inr rfl, Or.inr (sI e), trivial⟩
      refine sound ok_Row_gather [35] 40 ?_
      refine ⟨fun z => absurd z (nle_n hkn), fun _ => ?_⟩
      refine ⟨fun g1 => nx S' hF ?_, fun g1 => ?_⟩
      · rw [if_neg (fun z => (of_decide_eq_true z.1).1 g1)]; exact hr
      · refine ⟨fun g2 => nx S' hF ?_, fun g2 => ?_⟩
        · rw [if_neg (fun z => (of_decide_eq_true z.1).2 g2)]; exact hr
        · refine ⟨hk4, ?_⟩
          have hd : decide (¬ (k : Int) = one ∧ ¬ (k : Int) = other) = true := decide_eq_true ⟨g1, g2⟩
          refine t_put_s S' _ _ _ hr hsr (by omega) (fun z => ?_) (fun g3 g4 S2 hF2 hr2 => ?_)
          · rw [et] at z
            refine nx S' hF ?_
            rw [if_neg (by omega)]; exact hr
          · rw [et] at g3 hr2
            refine nx S2 (hF.tr hF2) ?_
            rw [if_pos ⟨hd, g3⟩]; exact hr2
  refine sound ok_Row_gather [8] 20 ?_
  refine loop 0 (up S 113 1 0) ⟨by omega, (Fr.rf _ _ _).up _ _ _ rfl, ?_⟩
  exact ⟨by rw [up_s]; rfl, fun j hj => absurd hj (by simp [gaF])⟩
theorem t_spread_s (S : St) (l : List Int) (need : Nat) (Q : Option AV → St → Prop) (hR : rwI 113 114 S l) (hl : l.length ≤ 4) (hb : ∀ x ∈ l, -5000 ≤ x ∧ x ≤ 5000) (hn : 2 ≤ need ∧ need ≤ 4) (hQ : Q (some (.inl (wmF need l l.length))) S) : Smm H_Row_spread 0 [some (.inr (.inr 113)), some (.inl (need : Int)), none, none] [] S Q := by
  obtain ⟨r1, r2⟩ := hR
  have wz : ∀ i : Nat, i + 1 ≤ need → wmF need l i = 1000000 := by
    intro i
    induction i with
    | zero => intro _; rfl
    | succ i ih => intro hi; rw [wmF, if_neg (by omega)]; exact ih (by omega)
  have hmin : need - 1 ≤ l.length ∨ wmF need l l.length = 1000000 := by
    by_cases h : l.length + 1 ≤ need
    · exact Or.inr (wz _ h)
    · exact Or.inl (by omega)
  have loop : ∀ (i : Int) (_ : Unit), ((need : Int) - 1 ≤ i ∧ (i ≤ l.length ∨ i = need - 1)) → Smm H_Row_spread 7 [some (.inr (.inr 113)), some (.inl (need : Int)), some (.inl (wmF need l (min i.toNat l.length))), some (.inl i)] [] S Q := by
    refine lp_up (P := fun i _ => Smm H_Row_spread 7 [some (.inr (.inr 113)), some (.inl (need : Int)), some (.inl (wmF need l (min i.toNat l.length))), some (.inl i)] [] S Q) (fun i _ => (need : Int) - 1 ≤ i ∧ (i ≤ l.length ∨ i = need - 1)) l.length ?_ ?_
    · rintro i - hi hi2
      refine sound ok_Row_spread [7] 20 ?_
      refine ⟨fun _ => ?_, fun z => absurd z (by rw [r1]; omega)⟩
      rw [show min i.toNat l.length = l.length by omega]
      exact hQ
    · rintro i - hi hi2 ih
      obtain ⟨k, rfl⟩ : ∃ k : Nat, i = k := ⟨i.toNat, by omega⟩
      have ih := ih () (by omega)
      rw [show min ((k : Int) + 1).toNat l.length = k + 1 by omega, wmF, if_pos (by omega)] at ih
      rw [show min ((k : Int)).toNat l.length = k by omega]
      have g1 := rb_get hb (j := k) (by omega)
      have g2 := rb_get hb (j := k + 1 - need) (by omega)
      have v1 : S 114 k = l.getD k 0 := r2 k (by omega)
      have v2 : S 114 ((k + 1 - need : Nat) : Int) = l.getD (k + 1 - need) 0 := r2 _ (by omega)
      have b1 : 0 ≤ (k : Int) ∧ (k : Int) < 4 := by omega
      have b2 : 0 ≤ ((k + 1 - need : Nat) : Int) ∧ ((k + 1 - need : Nat) : Int) < 4 := by omega
      have hk : ¬ S 113 1 ≤ k := by rw [r1]; omega
      have wxa : need ≤ k + 1 ∧ k < 10 := by omega
      have e : (k : Int) + 1 = i32 ((k : Int) + 1) := (i32_id (by omega) (by omega)).symm
      have e3 : i32 (l.getD k 0 - l.getD (k + 1 - need) 0) = l.getD k 0 - l.getD (k + 1 - need) 0 := i32_id (by omega) (by omega)
      have e1 : i32 (i32 ((k : Int) - need) + 1) = ((k + 1 - need : Nat) : Int) := wx1 wxa.1 wxa.2 hn.2
      refine sound ok_Row_spread [7] 40 ?_
      refine ⟨fun z => absurd z hk, fun _ => ?_⟩
      refine ⟨b1, ?_⟩
      refine ⟨by rw [e1]; exact b2, ?_⟩
      refine Smm.sub ih ⟨Or.inr rfl, Or.inr rfl, Or.inr (sI ?_), Or.inr (sI e), trivial⟩
      rw [e1, v1, v2, e3]
  have go := loop (need - 1) () ⟨Int.le_refl _, Or.inr rfl⟩
  refine sound ok_Row_spread [7] 20 ?_
  refine Smm.sub go ⟨Or.inr rfl, Or.inr rfl, Or.inr (sI ?_), Or.inr (sI (by unfold i32; omega)), trivial⟩
  have h9 := wz (min ((need : Int) - 1).toNat l.length) (by omega)
  exact h9
theorem t_momentOf_s (S : St) (l : List Int) (need : Nat) (breath : Int) (Q : Option AV → St → Prop) (hR : rwI 113 114 S l) (hl : l.length ≤ 4) (hb : ∀ x ∈ l, -5000 ≤ x ∧ x ≤ 5000) (hn : 2 ≤ need ∧ need ≤ 4) (hQ : Q (some (.inl (moF need breath l (need - 1) (l.length + 1 - need)))) S) : Smm H_Row_momentOf 0 [some (.inr (.inr 113)), some (.inl (need : Int)), some (.inl breath), none] [] S Q := by
  obtain ⟨r1, r2⟩ := hR
  have loop : ∀ (d k : Nat), need - 1 ≤ k → (k + d = l.length ∨ (d = 0 ∧ l.length ≤ k ∧ k ≤ 4)) → moF need breath l k d = moF need breath l (need - 1) (l.length + 1 - need) → Smm H_Row_momentOf 4 [some (.inr (.inr 113)), some (.inl (need : Int)), some (.inl breath), some (.inl (k : Int))] [] S Q := by
    intro d
    induction d with
    | zero =>
      intro k h1 h2 h3
      rw [← h3] at hQ
      refine sound ok_Row_momentOf [4] 20 ?_
      exact ⟨fun _ => hQ, fun z => absurd z (by rw [r1]; omega)⟩
    | succ d ih =>
      intro k h1 h2 h3
      have ih := ih (k + 1) (by omega) (by omega)
      rw [moF] at h3
      have g1 := rb_get hb (j := k) (by omega)
      have g2 := rb_get hb (j := k + 1 - need) (by omega)
      have v1 : S 114 k = l.getD k 0 := r2 k (by omega)
      have v2 : S 114 ((k + 1 - need : Nat) : Int) = l.getD (k + 1 - need) 0 := r2 _ (by omega)
      have b1 : 0 ≤ (k : Int) ∧ (k : Int) < 4 := by omega
      have b2 : 0 ≤ ((k + 1 - need : Nat) : Int) ∧ ((k + 1 - need : Nat) : Int) < 4 := by omega
      have hk : ¬ S 113 1 ≤ k := by rw [r1]; omega
      have hnv : ¬ l.getD k 0 = 1000000 := by omega
      have wxa : need ≤ k + 1 ∧ k < 10 := by omega
      have e : ((k + 1 : Nat) : Int) = i32 ((k : Int) + 1) := i32_s (by omega)
      have e3 : i32 (l.getD k 0 - l.getD (k + 1 - need) 0) = l.getD k 0 - l.getD (k + 1 - need) 0 := i32_id (by omega) (by omega)
      have e1 : i32 (i32 ((k : Int) - need) + 1) = ((k + 1 - need : Nat) : Int) := wx1 wxa.1 wxa.2 hn.2
      refine sound ok_Row_momentOf [4] 40 ?_
      refine ⟨fun z => absurd z hk, fun _ => ?_⟩
      refine ⟨b1, ?_⟩
      refine ⟨by rw [e1]; exact b2, ?_⟩
      refine ⟨fun g => ?_, fun g => ?_⟩
      · rw [e1, v1, v2, e3] at g
        rw [if_neg (fun z => absurd z.2 (Int.not_le.mpr g))] at h3
        exact Smm.sub (ih h3) ⟨Or.inr rfl, Or.inr rfl, Or.inr rfl, Or.inr (sI e), trivial⟩
      · rw [e1, v1, v2, e3] at g
        rw [if_pos ⟨hnv, g⟩] at h3
        rw [← h3, ← v1] at hQ
        exact ⟨b1, hQ⟩
  refine sound ok_Row_momentOf [4] 20 ?_
  by_cases hz : need ≤ l.length + 1
  · have go := loop (l.length + 1 - need) (need - 1) (Nat.le_refl _) (Or.inl (by omega)) rfl
    exact Smm.sub go ⟨Or.inr rfl, Or.inr rfl, Or.inr rfl, Or.inr (sI (by unfold i32; omega)), trivial⟩
  · have go := loop 0 (need - 1) (Nat.le_refl _) (Or.inr ⟨rfl, by omega, by omega⟩) (by rw [show l.length + 1 - need = 0 by omega])
    exact Smm.sub go ⟨Or.inr rfl, Or.inr rfl, Or.inr rfl, Or.inr (sI (by unfold i32; omega)), trivial⟩
theorem t_addSpan_s (S : St) (sp : List (Int × Int)) (x y : Int) (Q : Option AV → St → Prop) (hS : spI 113 115 116 S sp) (hl : sp.length < 4) (hQ : ∀ S', Fr [115, 116] [(113, 4)] S S' → spI 113 115 116 S' (sp ++ [(x, y)]) → Q none S') : Smm H_Row_addSpan 0 [some (.inr (.inr 113)), some (.inl x), some (.inl y)] [] S Q := by
  have z := hS.1
  have b1 : 0 ≤ S 113 4 ∧ S 113 4 < 4 := by omega
  have hq := hQ (up (up (up S 115 (S 113 4) x) 116 (S 113 4) y) 113 4 (i32 (S 113 4 + 1))) ((((Fr.rf _ _ _).up _ _ _ rfl).up _ _ _ rfl).up _ _ _ rfl) (spI_app x y hS (by rw [up_s]; exact i32_id (by omega) (by omega)) (by rw [up_o _ _ _ (by decide), up_o _ _ _ (by decide), up_c, z]; rfl) (by rw [up_o _ _ _ (by decide), up_c, z, up_o _ _ _ (by decide)]; rfl))
  refine sound ok_Row_addSpan [] 60 ?_
  refine ⟨fun g => absurd g (by omega), fun _ => ?_⟩
  refine ⟨b1, ?_⟩
  refine ⟨b1, ?_⟩
  exact hq
set_option maxHeartbeats 2000000 in
theorem t_findSpans_s (S : St) (l : List Int) (need : Nat) (breath : Int) (Q : Option AV → St → Prop) (hR : rwI 113 114 S l) (hl : l.length ≤ 4) (hb : ∀ x ∈ l, -5000 ≤ x ∧ x ≤ 5000) (hn : 2 ≤ need ∧ need ≤ 4) (hbr : 0 ≤ breath ∧ breath ≤ 9) (hQ : ∀ S', Fr [115, 116] [(113, 4)] S S' → spI 113 115 116 S' (spL need breath l) → Q none S') : Smm H_Row_findSpans 0 [some (.inr (.inr 113)), some (.inl (need : Int)), some (.inl breath), none, none, none] [] S Q := by
  have hF0 : Fr [115, 116] [(113, 4)] S (up S 113 4 0) := (Fr.rf _ _ _).up _ _ _ rfl
  have hR0 : rwI 113 114 (up S 113 4 0) l := rwI_fr hR (up_n _ _ _ (by decide)) (up_o _ _ _ (by decide))
  have hS0 : spI 113 115 116 (up S 113 4 0) [] := ⟨up_s _ _ _ _, fun j hj => absurd hj (by simp)⟩
  have dn : ∀ k, k ≤ l.length + 2 - need → (spS need breath l k).1 = -2000000 ∨ (-6000 ≤ (spS need breath l k).1 ∧ (spS need breath l k).1 ≤ 6000) := by
    intro k
    induction k with
    | zero => intro _; exact Or.inl rfl
    | succ k ih =>
      intro hk
      have ih := ih (by omega)
      rw [spS]
      split
      · have g := rb_get hb (j := k) (by omega)
        exact Or.inr ⟨by dsimp only; omega, by dsimp only; omega⟩
      · exact ih
  have loop : ¬ wmF need l l.length ≤ breath → ∀ (d k : Nat) (T : St) (x : Option AV), k + d = l.length + 2 - need → Fr [115, 116] [(113, 4)] S T → spI 113 115 116 T (spS need breath l k).2 → Smm H_Row_findSpans 29 [some (.inr (.inr 113)), some (.inl (need : Int)), some (.inl breath), some (.inl (spS need breath l k).1), some (.inl (k : Int)), x] [] T Q := by
    intro hw d
    induction d with
    | zero =>
      intro k T x hk hF hI
      have r1 : T 113 1 = l.length := by rw [hF.s 113 1 rfl]; exact hR.1
      have hq := hQ T hF (by unfold spL; rw [if_neg hw, ← hk]; exact hI)
      have h1 : ¬ (k : Int) + need - 2 < l.length := by omega
      have e1 : i32 (i32 ((k : Int) + need) - 2) = (k : Int) + need - 2 := by rw [i32_id (v := (k : Int) + need) (by omega) (by omega)]; exact i32_id (by omega) (by omega)
      refine sound ok_Row_findSpans [29] 40 ?_
      exact ⟨fun _ => hq, fun z => absurd z (by rw [r1, e1]; exact h1)⟩
    | succ d ih =>
      intro k T x hk hF hI
      have hR2 : rwI 113 114 T l := rwI_fr hR (hF.s 113 1 rfl) (hF.c 114 rfl)
      obtain ⟨r1, r2⟩ := hR2
      have hd := dn k (by omega)
      have hlen := spS_len need breath l k
      have hst : spS need breath l (k + 1) = if l.getD (k + need - 2) 0 - l.getD k 0 ≤ breath then (l.getD k 0 + breath, (spS need breath l k).2 ++ [(max (l.getD (k + need - 2) 0 - breath) ((spS need breath l k).1 + 1), l.getD k 0 + breath)]) else spS need breath l k := rfl
      have ih := ih (k + 1)
      rw [hst] at ih
      clear hst
      have g1 := rb_get hb (j := k) (by omega)
      have g2 := rb_get hb (j := k + need - 2) (by omega)
      have v1 : T 114 k = l.getD k 0 := r2 k (by omega)
      have v2 : T 114 ((k + need - 2 : Nat) : Int) = l.getD (k + need - 2) 0 := r2 _ (by omega)
      have b1 : 0 ≤ (k : Int) ∧ (k : Int) < 4 := by omega
      have b2 : 0 ≤ ((k + need - 2 : Nat) : Int) ∧ ((k + need - 2 : Nat) : Int) < 4 := by omega
      have h1 : ¬ (l.length : Int) ≤ ((k + need - 2 : Nat) : Int) := by omega
      have hsl : (spS need breath l k).2.length < 4 := by omega
      have wxa : k < 10 := by omega
      have hkd : k + 1 + d = l.length + 2 - need := by omega
      have e : ((k + 1 : Nat) : Int) = i32 ((k : Int) + 1) := i32_s (by omega)
      obtain ⟨e3, e4, e5, e6⟩ := fx4 g2 g1 hbr hd
      have e1 : i32 (i32 ((k : Int) + need) - 2) = ((k + need - 2 : Nat) : Int) := wx2 wxa hn
      generalize hj2 : k + need - 2 = j2 at *
      generalize spS need breath l k = sp at *
      refine sound ok_Row_findSpans [29, 107] 60 ?_
      refine ⟨fun z => absurd z (by rw [r1, e1]; exact h1), fun _ => ?_⟩
      refine ⟨by rw [e1]; exact b2, ?_⟩
      refine ⟨b1, ?_⟩
      refine ⟨fun g => ?_, fun g => ?_⟩
      · rw [e1, v1, v2, e3] at g
        rw [if_neg (Int.not_le.mpr g)] at ih
        refine sound ok_Row_findSpans [29] 20 ?_
        exact Smm.sub (ih T _ hkd hF hI) ⟨Or.inr rfl, Or.inr rfl, Or.inr rfl, Or.inr rfl, Or.inr (sI e), Or.inr rfl, trivial⟩
      · rw [e1, v1, v2, e3] at g
        rw [if_pos g] at ih
        refine ⟨by rw [e1]; exact b2, ?_⟩
        refine ⟨b1, ?_⟩
        refine t_addSpan_s T sp.2 _ _ _ hI hsl (fun T2 hF2 hI2 => ?_)
        have v3 : T2 114 k = l.getD k 0 := by rw [hF2.c 114 rfl, v1]
        rw [e1, v2, v1, e4, e5, e6] at hI2
        refine ⟨b1, ?_⟩
        refine sound ok_Row_findSpans [29] 20 ?_
        refine Smm.sub (ih T2 _ hkd (hF.tr hF2) hI2) ⟨Or.inr rfl, Or.inr rfl, Or.inr rfl, Or.inr (sI ?_), Or.inr (sI e), Or.inr rfl, trivial⟩
        rw [v3, e5]
  refine sound ok_Row_findSpans [29] 40 ?_
  refine t_spread_s (up S 113 4 0) l need _ hR0 hl hb hn ?_
  refine ⟨fun g => ?_, fun g => ?_⟩
  · exact loop (Int.not_le.mpr g) (l.length + 2 - need) 0 _ none (by omega) hF0 hS0
  · refine t_addSpan_s (up S 113 4 0) [] _ _ _ hS0 (by decide) (fun T hF hI => ?_)
    exact hQ T (hF0.tr hF) (by unfold spL; rw [if_pos g]; exact hI)
set_option maxHeartbeats 2000000 in
theorem t_put_o (S : St) (l : List Int) (x : Int) (Q : Option AV → St → Prop) (hR : rwI 123 124 S l) (hs : srtd l) (hl : l.length ≤ 4) (h1 : (1000000 ≤ x ∨ 4 ≤ l.length) → Q none S) (h2 : x < 1000000 → l.length < 4 → ∀ S', Fr [124] [(123, 1)] S S' → rwI 123 124 S' (ins x l) → Q none S') : Smm H_Row_put 0 [some (.inr (.inr 123)), some (.inl x), none] [] S Q := by
  obtain ⟨r1, r2⟩ := hR
  refine sound ok_Row_put [20] 40 ?_
  refine ⟨fun g => h1 (Or.inl g), fun g => ?_⟩
  refine ⟨fun g2 => ?_, fun g2 => h1 (Or.inr (by rw [r1] at g2; omega))⟩
  rw [r1] at g2
  have hlt : l.length < 4 := by omega
  have h2 := h2 g hlt
  have out : ∀ (q : Int) (S2 : St), (0 ≤ q + 1 ∧ q + 1 ≤ l.length) → Fr [124] [] S S2 → (∀ j : Nat, (j : Int) < q + 1 → S2 124 j = l.getD j 0) → (∀ j : Nat, q + 1 < j → j ≤ l.length → S2 124 j = l.getD (j - 1) 0) → (∀ j : Nat, q + 1 ≤ j → j < l.length → x < l.getD j 0) → (q + 1 = 0 ∨ l.getD q.toNat 0 ≤ x) → Smm H_Row_put 56 [some (.inr (.inr 123)), some (.inl x), some (.inl (q + 1))] [] S2 Q := by
    intro q S2 hq hF2 a1 a2 a3 a4
    have z1 : S2 123 1 = l.length := by rw [hF2.c 123 rfl, r1]
    have z2 : up S2 124 (q + 1) x 123 1 = l.length := by rw [up_o _ _ _ (by decide), z1]
    have e1 : i32 (up S2 124 (q + 1) x 123 1 + 1) = (ins x l).length := by rw [z2, ins_len, i32_id (by omega) (by omega)]; omega
    have hb : 0 ≤ q + 1 ∧ q + 1 < 4 := by omega
    have hq2 := h2 (up (up S2 124 (q + 1) x) 123 1 (i32 (up S2 124 (q + 1) x 123 1 + 1))) (((hF2.mo rfl rfl).up _ _ _ rfl).up _ _ _ rfl) ⟨by rw [up_s, e1], fun j hj => ?_⟩
    · refine sound ok_Row_put [] 40 ?_
      exact ⟨hb, hq2⟩
    · rw [ins_len] at hj
      clear e1 z2
      rw [up_o _ _ _ (by decide), ins_at x l (q + 1).toNat hs (by omega) (fun j h4 h5 => a3 j (by omega) (by omega)) (by
        rcases a4 with z | z
        · exact Or.inl (by omega)
        · by_cases hz : q + 1 = 0
          · exact Or.inl (by omega)
          · exact Or.inr (by rw [show (q + 1).toNat - 1 = q.toNat by omega]; exact z)), getD_ins _ _ _ _ (by omega)]
      by_cases hj1 : (j : Int) = q + 1
      · rw [hj1, up_s, if_neg (by omega), if_pos (by omega)]
      · rw [up_n _ _ _ hj1]
        by_cases hj2 : (j : Int) < q + 1
        · rw [if_pos (by omega)]
          exact a1 j hj2
        · rw [if_neg (by omega), if_neg (by omega)]
          exact a2 j (by omega) (by omega)
  have loop : ∀ (q : Int) (S2 : St), ((0 ≤ q + 1 ∧ q + 1 ≤ l.length) ∧ Fr [124] [] S S2 ∧ (∀ j : Nat, (j : Int) < q + 1 → S2 124 j = l.getD j 0) ∧ (∀ j : Nat, q + 1 < j → j ≤ l.length → S2 124 j = l.getD (j - 1) 0) ∧ (∀ j : Nat, q + 1 ≤ j → j < l.length → x < l.getD j 0)) → Smm H_Row_put 20 [some (.inr (.inr 123)), some (.inl x), some (.inl (q + 1))] [] S2 Q := by
    refine lp_dn (P := fun q S2 => Smm H_Row_put 20 [some (.inr (.inr 123)), some (.inl x), some (.inl (q + 1))] [] S2 Q) _ ?_ ?_
    · rintro q S2 hq ⟨b0, hF2, a1, a2, a3⟩
      refine sound ok_Row_put [56] 20 ?_
      exact ⟨fun _ => out q S2 b0 hF2 a1 a2 a3 (Or.inl (by omega)), fun h3 => absurd h3 (by omega)⟩
    · rintro q S2 hq ⟨b0, hF2, a1, a2, a3⟩ ih
      have hv : S2 124 q = l.getD q.toNat 0 := by
        have := a1 q.toNat (by omega)
        rwa [show ((q.toNat : Nat) : Int) = q by omega] at this
      have b1 : 0 ≤ q ∧ q < 4 := by omega
      have b2 : 0 ≤ q + 1 ∧ q + 1 < 4 := by omega
      have hp : 0 < q + 1 := by omega
      have e2 : q - 1 + 1 = i32 (q + 1 + -1) := by unfold i32; omega
      have eq1 : i32 (q + 1 - 1) = q := by unfold i32; omega
      refine sound ok_Row_put [56, 20] 40 ?_
      refine ⟨fun h3 => absurd h3 (by omega), fun _ => ?_⟩
      refine ⟨by rw [eq1]; exact b1, ?_⟩
      refine ⟨fun h4 => ?_, fun h4 => ?_⟩
      · rw [eq1, hv] at h4
        exact out q S2 b0 hF2 a1 a2 a3 (Or.inr h4)
      · rw [eq1, hv] at h4
        refine ⟨by rw [eq1]; exact b1, ?_⟩
        refine ⟨b2, ?_⟩
        have go := ih (up S2 124 (q + 1) (S2 124 q)) ⟨by omega, hF2.up _ _ _ rfl, fun j hj => ?_, fun j hj hj2 => ?_, fun j hj hj2 => ?_⟩
        · have e3 : S2 124 q = S2 124 (i32 (q + 1 - 1)) := by rw [eq1]
          rw [e3] at go
          exact Smm.sub go ⟨Or.inr rfl, Or.inr rfl, Or.inr (sI e2), trivial⟩
        · rw [up_n _ _ _ (by omega)]
          exact a1 j (by omega)
        · by_cases hjq : (j : Int) = q + 1
          · rw [hjq, up_s, hv, show j - 1 = q.toNat by omega]
          · rw [up_n _ _ _ hjq]
            exact a2 j (by omega) hj2
        · by_cases hjq : (j : Int) = q
          · rw [show j = q.toNat by omega]
            exact h4
          · exact a3 j (by omega) hj2
  have go := loop (l.length - 1) S ⟨by omega, Fr.rf _ _ _, fun j hj => r2 j (by omega), fun j hj hj2 => absurd hj (by omega), fun j hj hj2 => absurd hj (by omega)⟩
  exact Smm.sub go ⟨Or.inr rfl, Or.inr rfl, Or.inr (sI (by rw [r1]; omega)), trivial⟩
theorem t_gather_o (S : St) (n : Nat) (one other : Int) (Q : Option AV → St → Prop) (hn : n ≤ 4) (hQ : ∀ S', Fr [124] [(123, 1)] S S' → rwI 123 124 S' (gaF (S 101) (fun k => decide (¬ k = one ∧ ¬ k = other)) n) → Q none S') : Smm H_Row_gather 0 [some (.inr (.inr 123)), some (.inr (.inr 101)), some (.inl (n : Int)), some (.inl one), some (.inl other), none] [] S Q := by
  have loop : ∀ (i : Int) (S' : St), ((0 ≤ i ∧ i ≤ n) ∧ Fr [124] [(123, 1)] S S' ∧ rwI 123 124 S' (gaF (S 101) (fun k => decide (¬ k = one ∧ ¬ k = other)) i.toNat)) → Smm H_Row_gather 8 [some (.inr (.inr 123)), some (.inr (.inr 101)), some (.inl (n : Int)), some (.inl one), some (.inl other), some (.inl i)] [] S' Q := by
    refine lp_up (P := fun i S' => Smm H_Row_gather 8 [some (.inr (.inr 123)), some (.inr (.inr 101)), some (.inl (n : Int)), some (.inl one), some (.inl other), some (.inl i)] [] S' Q) _ n ?_ ?_
    · rintro i S' hi ⟨hi2, hF, hr⟩
      rw [show i.toNat = n by omega] at hr
      refine sound ok_Row_gather [8] 20 ?_
      exact ⟨fun _ => hQ S' hF hr, fun z => absurd z (by omega)⟩
    · rintro i S' hi ⟨hi2, hF, hr⟩ ih
      obtain ⟨k, rfl⟩ : ∃ k : Nat, i = k := ⟨i.toNat, by omega⟩
      rw [show ((k : Int)).toNat = k by omega] at hr
      rw [show ((k : Int) + 1).toNat = k + 1 by omega, gaF] at ih
      have hlen := gaF_len (S 101) (fun k => decide (¬ k = one ∧ ¬ k = other)) k
      have hsr := gaF_srtd (S 101) (fun k => decide (¬ k = one ∧ ¬ k = other)) k
      have et : S' 101 = S 101 := hF.c _ rfl
      have hk1 : 0 ≤ (k : Int) + 1 ∧ (k : Int) + 1 ≤ n := by omega
      have hk4 : 0 ≤ (k : Int) ∧ (k : Int) < 4 := by omega
      have hkn : k < n := by omega
      have e : (k : Int) + 1 = i32 ((k : Int) + 1) := (i32_id (by omega) (by omega)).symm
      have nx : ∀ S2, Fr [124] [(123, 1)] S S2 → rwI 123 124 S2 (if (decide (¬ (k : Int) = one ∧ ¬ (k : Int) = other)) = true ∧ S 101 k < 1000000 then ins (S 101 k) (gaF (S 101) (fun k => decide (¬ k = one ∧ ¬ k = other)) k) else gaF (S 101) (fun k => decide (¬ k = one ∧ ¬ k = other)) k) → Smm H_Row_gather 35 [some (.inr (.inr 123)), some (.inr (.inr 101)), some (.inl (n : Int)), some (.inl one), some (.inl other), some (.inl (k : Int))] [] S2 Q := by
        intro S2 g1 g2
        refine sound ok_Row_gather [8] 20 ?_
        exact Smm.sub (ih S2 ⟨hk1, g1, g2⟩) ⟨Or.inr rfl, Or.inr rfl, Or.inr rfl, Or.inr rfl, Or.inr rfl, Or.inr (sI e), trivial⟩
      refine sound ok_Row_gather [35] 40 ?_
      refine ⟨fun z => absurd z (nle_n hkn), fun _ => ?_⟩
      refine ⟨fun g1 => nx S' hF ?_, fun g1 => ?_⟩
      · rw [if_neg (fun z => (of_decide_eq_true z.1).1 g1)]; exact hr
      · refine ⟨fun g2 => nx S' hF ?_, fun g2 => ?_⟩
        · rw [if_neg (fun z => (of_decide_eq_true z.1).2 g2)]; exact hr
        · refine ⟨hk4, ?_⟩
          have hd : decide (¬ (k : Int) = one ∧ ¬ (k : Int) = other) = true := decide_eq_true ⟨g1, g2⟩
          refine t_put_o S' _ _ _ hr hsr (by omega) (fun z => ?_) (fun g3 g4 S2 hF2 hr2 => ?_)
          · rw [et] at z
            refine nx S' hF ?_
            rw [if_neg (by omega)]; exact hr
          · rw [et] at g3 hr2
            refine nx S2 (hF.tr hF2) ?_
            rw [if_pos ⟨hd, g3⟩]; exact hr2
  refine sound ok_Row_gather [8] 20 ?_
  refine loop 0 (up S 123 1 0) ⟨by omega, (Fr.rf _ _ _).up _ _ _ rfl, ?_⟩
  exact ⟨by rw [up_s]; rfl, fun j hj => absurd hj (by simp [gaF])⟩
theorem t_spread_o (S : St) (l : List Int) (need : Nat) (Q : Option AV → St → Prop) (hR : rwI 123 124 S l) (hl : l.length ≤ 4) (hb : ∀ x ∈ l, -5000 ≤ x ∧ x ≤ 5000) (hn : 2 ≤ need ∧ need ≤ 4) (hQ : Q (some (.inl (wmF need l l.length))) S) : Smm H_Row_spread 0 [some (.inr (.inr 123)), some (.inl (need : Int)), none, none] [] S Q := by
  obtain ⟨r1, r2⟩ := hR
  have wz : ∀ i : Nat, i + 1 ≤ need → wmF need l i = 1000000 := by
    intro i
    induction i with
    | zero => intro _; rfl
    | succ i ih => intro hi; rw [wmF, if_neg (by omega)]; exact ih (by omega)
  have hmin : need - 1 ≤ l.length ∨ wmF need l l.length = 1000000 := by
    by_cases h : l.length + 1 ≤ need
    · exact Or.inr (wz _ h)
    · exact Or.inl (by omega)
  have loop : ∀ (i : Int) (_ : Unit), ((need : Int) - 1 ≤ i ∧ (i ≤ l.length ∨ i = need - 1)) → Smm H_Row_spread 7 [some (.inr (.inr 123)), some (.inl (need : Int)), some (.inl (wmF need l (min i.toNat l.length))), some (.inl i)] [] S Q := by
    refine lp_up (P := fun i _ => Smm H_Row_spread 7 [some (.inr (.inr 123)), some (.inl (need : Int)), some (.inl (wmF need l (min i.toNat l.length))), some (.inl i)] [] S Q) (fun i _ => (need : Int) - 1 ≤ i ∧ (i ≤ l.length ∨ i = need - 1)) l.length ?_ ?_
    · rintro i - hi hi2
      refine sound ok_Row_spread [7] 20 ?_
      refine ⟨fun _ => ?_, fun z => absurd z (by rw [r1]; omega)⟩
      rw [show min i.toNat l.length = l.length by omega]
      exact hQ
    · rintro i - hi hi2 ih
      obtain ⟨k, rfl⟩ : ∃ k : Nat, i = k := ⟨i.toNat, by omega⟩
      have ih := ih () (by omega)
      rw [show min ((k : Int) + 1).toNat l.length = k + 1 by omega, wmF, if_pos (by omega)] at ih
      rw [show min ((k : Int)).toNat l.length = k by omega]
      have g1 := rb_get hb (j := k) (by omega)
      have g2 := rb_get hb (j := k + 1 - need) (by omega)
      have v1 : S 124 k = l.getD k 0 := r2 k (by omega)
      have v2 : S 124 ((k + 1 - need : Nat) : Int) = l.getD (k + 1 - need) 0 := r2 _ (by omega)
      have b1 : 0 ≤ (k : Int) ∧ (k : Int) < 4 := by omega
      have b2 : 0 ≤ ((k + 1 - need : Nat) : Int) ∧ ((k + 1 - need : Nat) : Int) < 4 := by omega
      have hk : ¬ S 123 1 ≤ k := by rw [r1]; omega
      have wxa : need ≤ k + 1 ∧ k < 10 := by omega
      have e : (k : Int) + 1 = i32 ((k : Int) + 1) := (i32_id (by omega) (by omega)).symm
      have e3 : i32 (l.getD k 0 - l.getD (k + 1 - need) 0) = l.getD k 0 - l.getD (k + 1 - need) 0 := i32_id (by omega) (by omega)
      have e1 : i32 (i32 ((k : Int) - need) + 1) = ((k + 1 - need : Nat) : Int) := wx1 wxa.1 wxa.2 hn.2
      refine sound ok_Row_spread [7] 40 ?_
      refine ⟨fun z => absurd z hk, fun _ => ?_⟩
      refine ⟨b1, ?_⟩
      refine ⟨by rw [e1]; exact b2, ?_⟩
      refine Smm.sub ih ⟨Or.inr rfl, Or.inr rfl, Or.inr (sI ?_), Or.inr (sI e), trivial⟩
      rw [e1, v1, v2, e3]
  have go := loop (need - 1) () ⟨Int.le_refl _, Or.inr rfl⟩
  refine sound ok_Row_spread [7] 20 ?_
  refine Smm.sub go ⟨Or.inr rfl, Or.inr rfl, Or.inr (sI ?_), Or.inr (sI (by unfold i32; omega)), trivial⟩
  have h9 := wz (min ((need : Int) - 1).toNat l.length) (by omega)
  exact h9
theorem t_momentOf_o (S : St) (l : List Int) (need : Nat) (breath : Int) (Q : Option AV → St → Prop) (hR : rwI 123 124 S l) (hl : l.length ≤ 4) (hb : ∀ x ∈ l, -5000 ≤ x ∧ x ≤ 5000) (hn : 2 ≤ need ∧ need ≤ 4) (hQ : Q (some (.inl (moF need breath l (need - 1) (l.length + 1 - need)))) S) : Smm H_Row_momentOf 0 [some (.inr (.inr 123)), some (.inl (need : Int)), some (.inl breath), none] [] S Q := by
  obtain ⟨r1, r2⟩ := hR
  have loop : ∀ (d k : Nat), need - 1 ≤ k → (k + d = l.length ∨ (d = 0 ∧ l.length ≤ k ∧ k ≤ 4)) → moF need breath l k d = moF need breath l (need - 1) (l.length + 1 - need) → Smm H_Row_momentOf 4 [some (.inr (.inr 123)), some (.inl (need : Int)), some (.inl breath), some (.inl (k : Int))] [] S Q := by
    intro d
    induction d with
    | zero =>
      intro k h1 h2 h3
      rw [← h3] at hQ
      refine sound ok_Row_momentOf [4] 20 ?_
      exact ⟨fun _ => hQ, fun z => absurd z (by rw [r1]; omega)⟩
    | succ d ih =>
      intro k h1 h2 h3
      have ih := ih (k + 1) (by omega) (by omega)
      rw [moF] at h3
      have g1 := rb_get hb (j := k) (by omega)
      have g2 := rb_get hb (j := k + 1 - need) (by omega)
      have v1 : S 124 k = l.getD k 0 := r2 k (by omega)
      have v2 : S 124 ((k + 1 - need : Nat) : Int) = l.getD (k + 1 - need) 0 := r2 _ (by omega)
      have b1 : 0 ≤ (k : Int) ∧ (k : Int) < 4 := by omega
      have b2 : 0 ≤ ((k + 1 - need : Nat) : Int) ∧ ((k + 1 - need : Nat) : Int) < 4 := by omega
      have hk : ¬ S 123 1 ≤ k := by rw [r1]; omega
      have hnv : ¬ l.getD k 0 = 1000000 := by omega
      have wxa : need ≤ k + 1 ∧ k < 10 := by omega
      have e : ((k + 1 : Nat) : Int) = i32 ((k : Int) + 1) := i32_s (by omega)
      have e3 : i32 (l.getD k 0 - l.getD (k + 1 - need) 0) = l.getD k 0 - l.getD (k + 1 - need) 0 := i32_id (by omega) (by omega)
      have e1 : i32 (i32 ((k : Int) - need) + 1) = ((k + 1 - need : Nat) : Int) := wx1 wxa.1 wxa.2 hn.2
      refine sound ok_Row_momentOf [4] 40 ?_
      refine ⟨fun z => absurd z hk, fun _ => ?_⟩
      refine ⟨b1, ?_⟩
      refine ⟨by rw [e1]; exact b2, ?_⟩
      refine ⟨fun g => ?_, fun g => ?_⟩
      · rw [e1, v1, v2, e3] at g
        rw [if_neg (fun z => absurd z.2 (Int.not_le.mpr g))] at h3
        exact Smm.sub (ih h3) ⟨Or.inr rfl, Or.inr rfl, Or.inr rfl, Or.inr (sI e), trivial⟩
      · rw [e1, v1, v2, e3] at g
        rw [if_pos ⟨hnv, g⟩] at h3
        rw [← h3, ← v1] at hQ
        exact ⟨b1, hQ⟩
  refine sound ok_Row_momentOf [4] 20 ?_
  by_cases hz : need ≤ l.length + 1
  · have go := loop (l.length + 1 - need) (need - 1) (Nat.le_refl _) (Or.inl (by omega)) rfl
    exact Smm.sub go ⟨Or.inr rfl, Or.inr rfl, Or.inr rfl, Or.inr (sI (by unfold i32; omega)), trivial⟩
  · have go := loop 0 (need - 1) (Nat.le_refl _) (Or.inr ⟨rfl, by omega, by omega⟩) (by rw [show l.length + 1 - need = 0 by omega])
    exact Smm.sub go ⟨Or.inr rfl, Or.inr rfl, Or.inr rfl, Or.inr (sI (by unfold i32; omega)), trivial⟩
theorem t_addSpan_o (S : St) (sp : List (Int × Int)) (x y : Int) (Q : Option AV → St → Prop) (hS : spI 123 125 126 S sp) (hl : sp.length < 4) (hQ : ∀ S', Fr [125, 126] [(123, 4)] S S' → spI 123 125 126 S' (sp ++ [(x, y)]) → Q none S') : Smm H_Row_addSpan 0 [some (.inr (.inr 123)), some (.inl x), some (.inl y)] [] S Q := by
  have z := hS.1
  have b1 : 0 ≤ S 123 4 ∧ S 123 4 < 4 := by omega
  have hq := hQ (up (up (up S 125 (S 123 4) x) 126 (S 123 4) y) 123 4 (i32 (S 123 4 + 1))) ((((Fr.rf _ _ _).up _ _ _ rfl).up _ _ _ rfl).up _ _ _ rfl) (spI_app x y hS (by rw [up_s]; exact i32_id (by omega) (by omega)) (by rw [up_o _ _ _ (by decide), up_o _ _ _ (by decide), up_c, z]; rfl) (by rw [up_o _ _ _ (by decide), up_c, z, up_o _ _ _ (by decide)]; rfl))
  refine sound ok_Row_addSpan [] 60 ?_
  refine ⟨fun g => absurd g (by omega), fun _ => ?_⟩
  refine ⟨b1, ?_⟩
  refine ⟨b1, ?_⟩
  exact hq
set_option maxHeartbeats 2000000 in
theorem t_findSpans_o (S : St) (l : List Int) (need : Nat) (breath : Int) (Q : Option AV → St → Prop) (hR : rwI 123 124 S l) (hl : l.length ≤ 4) (hb : ∀ x ∈ l, -5000 ≤ x ∧ x ≤ 5000) (hn : 2 ≤ need ∧ need ≤ 4) (hbr : 0 ≤ breath ∧ breath ≤ 9) (hQ : ∀ S', Fr [125, 126] [(123, 4)] S S' → spI 123 125 126 S' (spL need breath l) → Q none S') : Smm H_Row_findSpans 0 [some (.inr (.inr 123)), some (.inl (need : Int)), some (.inl breath), none, none, none] [] S Q := by
  have hF0 : Fr [125, 126] [(123, 4)] S (up S 123 4 0) := (Fr.rf _ _ _).up _ _ _ rfl
  have hR0 : rwI 123 124 (up S 123 4 0) l := rwI_fr hR (up_n _ _ _ (by decide)) (up_o _ _ _ (by decide))
  have hS0 : spI 123 125 126 (up S 123 4 0) [] := ⟨up_s _ _ _ _, fun j hj => absurd hj (by simp)⟩
  have dn : ∀ k, k ≤ l.length + 2 - need → (spS need breath l k).1 = -2000000 ∨ (-6000 ≤ (spS need breath l k).1 ∧ (spS need breath l k).1 ≤ 6000) := by
    intro k
    induction k with
    | zero => intro _; exact Or.inl rfl
    | succ k ih =>
      intro hk
      have ih := ih (by omega)
      rw [spS]
      split
      · have g := rb_get hb (j := k) (by omega)
        exact Or.inr ⟨by dsimp only; omega, by dsimp only; omega⟩
      · exact ih
  have loop : ¬ wmF need l l.length ≤ breath → ∀ (d k : Nat) (T : St) (x : Option AV), k + d = l.length + 2 - need → Fr [125, 126] [(123, 4)] S T → spI 123 125 126 T (spS need breath l k).2 → Smm H_Row_findSpans 29 [some (.inr (.inr 123)), some (.inl (need : Int)), some (.inl breath), some (.inl (spS need breath l k).1), some (.inl (k : Int)), x] [] T Q := by
    intro hw d
    induction d with
    | zero =>
      intro k T x hk hF hI
      have r1 : T 123 1 = l.length := by rw [hF.s 123 1 rfl]; exact hR.1
      have hq := hQ T hF (by unfold spL; rw [if_neg hw, ← hk]; exact hI)
      have h1 : ¬ (k : Int) + need - 2 < l.length := by omega
      have e1 : i32 (i32 ((k : Int) + need) - 2) = (k : Int) + need - 2 := by rw [i32_id (v := (k : Int) + need) (by omega) (by omega)]; exact i32_id (by omega) (by omega)
      refine sound ok_Row_findSpans [29] 40 ?_
      exact ⟨fun _ => hq, fun z => absurd z (by rw [r1, e1]; exact h1)⟩
    | succ d ih =>
      intro k T x hk hF hI
      have hR2 : rwI 123 124 T l := rwI_fr hR (hF.s 123 1 rfl) (hF.c 124 rfl)
      obtain ⟨r1, r2⟩ := hR2
      have hd := dn k (by omega)
      have hlen := spS_len need breath l k
      have hst : spS need breath l (k + 1) = if l.getD (k + need - 2) 0 - l.getD k 0 ≤ breath then (l.getD k 0 + breath, (spS need breath l k).2 ++ [(max (l.getD (k + need - 2) 0 - breath) ((spS need breath l k).1 + 1), l.getD k 0 + breath)]) else spS need breath l k := rfl
      have ih := ih (k + 1)
      rw [hst] at ih
      clear hst
      have g1 := rb_get hb (j := k) (by omega)
      have g2 := rb_get hb (j := k + need - 2) (by omega)
      have v1 : T 124 k = l.getD k 0 := r2 k (by omega)
      have v2 : T 124 ((k + need - 2 : Nat) : Int) = l.getD (k + need - 2) 0 := r2 _ (by omega)
      have b1 : 0 ≤ (k : Int) ∧ (k : Int) < 4 := by omega
      have b2 : 0 ≤ ((k + need - 2 : Nat) : Int) ∧ ((k + need - 2 : Nat) : Int) < 4 := by omega
      have h1 : ¬ (l.length : Int) ≤ ((k + need - 2 : Nat) : Int) := by omega
      have hsl : (spS need breath l k).2.length < 4 := by omega
      have wxa : k < 10 := by omega
      have hkd : k + 1 + d = l.length + 2 - need := by omega
      have e : ((k + 1 : Nat) : Int) = i32 ((k : Int) + 1) := i32_s (by omega)
      obtain ⟨e3, e4, e5, e6⟩ := fx4 g2 g1 hbr hd
      have e1 : i32 (i32 ((k : Int) + need) - 2) = ((k + need - 2 : Nat) : Int) := wx2 wxa hn
      generalize hj2 : k + need - 2 = j2 at *
      generalize spS need breath l k = sp at *
      refine sound ok_Row_findSpans [29, 107] 60 ?_
      refine ⟨fun z => absurd z (by rw [r1, e1]; exact h1), fun _ => ?_⟩
      refine ⟨by rw [e1]; exact b2, ?_⟩
      refine ⟨b1, ?_⟩
      refine ⟨fun g => ?_, fun g => ?_⟩
      · rw [e1, v1, v2, e3] at g
        rw [if_neg (Int.not_le.mpr g)] at ih
        refine sound ok_Row_findSpans [29] 20 ?_
        exact Smm.sub (ih T _ hkd hF hI) ⟨Or.inr rfl, Or.inr rfl, Or.inr rfl, Or.inr rfl, Or.inr (sI e), Or.inr rfl, trivial⟩
      · rw [e1, v1, v2, e3] at g
        rw [if_pos g] at ih
        refine ⟨by rw [e1]; exact b2, ?_⟩
        refine ⟨b1, ?_⟩
        refine t_addSpan_o T sp.2 _ _ _ hI hsl (fun T2 hF2 hI2 => ?_)
        have v3 : T2 124 k = l.getD k 0 := by rw [hF2.c 124 rfl, v1]
        rw [e1, v2, v1, e4, e5, e6] at hI2
        refine ⟨b1, ?_⟩
        refine sound ok_Row_findSpans [29] 20 ?_
        refine Smm.sub (ih T2 _ hkd (hF.tr hF2) hI2) ⟨Or.inr rfl, Or.inr rfl, Or.inr rfl, Or.inr (sI ?_), Or.inr (sI e), Or.inr rfl, trivial⟩
        rw [v3, e5]
  refine sound ok_Row_findSpans [29] 40 ?_
  refine t_spread_o (up S 123 4 0) l need _ hR0 hl hb hn ?_
  refine ⟨fun g => ?_, fun g => ?_⟩
  · exact loop (Int.not_le.mpr g) (l.length + 2 - need) 0 _ none (by omega) hF0 hS0
  · refine t_addSpan_o (up S 123 4 0) [] _ _ _ hS0 (by decide) (fun T hF hI => ?_)
    exact hQ T (hF0.tr hF) (by unfold spL; rw [if_pos g]; exact hI)
set_option maxHeartbeats 2000000 in
theorem t_put_d (S : St) (l : List Int) (x : Int) (Q : Option AV → St → Prop) (hR : rwI 127 128 S l) (hs : srtd l) (hl : l.length ≤ 4) (h1 : (1000000 ≤ x ∨ 4 ≤ l.length) → Q none S) (h2 : x < 1000000 → l.length < 4 → ∀ S', Fr [128] [(127, 1)] S S' → rwI 127 128 S' (ins x l) → Q none S') : Smm H_Row_put 0 [some (.inr (.inr 127)), some (.inl x), none] [] S Q := by
  obtain ⟨r1, r2⟩ := hR
  refine sound ok_Row_put [20] 40 ?_
  refine ⟨fun g => h1 (Or.inl g), fun g => ?_⟩
  refine ⟨fun g2 => ?_, fun g2 => h1 (Or.inr (by rw [r1] at g2; omega))⟩
  rw [r1] at g2
  have hlt : l.length < 4 := by omega
  have h2 := h2 g hlt
  have out : ∀ (q : Int) (S2 : St), (0 ≤ q + 1 ∧ q + 1 ≤ l.length) → Fr [128] [] S S2 → (∀ j : Nat, (j : Int) < q + 1 → S2 128 j = l.getD j 0) → (∀ j : Nat, q + 1 < j → j ≤ l.length → S2 128 j = l.getD (j - 1) 0) → (∀ j : Nat, q + 1 ≤ j → j < l.length → x < l.getD j 0) → (q + 1 = 0 ∨ l.getD q.toNat 0 ≤ x) → Smm H_Row_put 56 [some (.inr (.inr 127)), some (.inl x), some (.inl (q + 1))] [] S2 Q := by
    intro q S2 hq hF2 a1 a2 a3 a4
    have z1 : S2 127 1 = l.length := by rw [hF2.c 127 rfl, r1]
    have z2 : up S2 128 (q + 1) x 127 1 = l.length := by rw [up_o _ _ _ (by decide), z1]
    have e1 : i32 (up S2 128 (q + 1) x 127 1 + 1) = (ins x l).length := by rw [z2, ins_len, i32_id (by omega) (by omega)]; omega
    have hb : 0 ≤ q + 1 ∧ q + 1 < 4 := by omega
    have hq2 := h2 (up (up S2 128 (q + 1) x) 127 1 (i32 (up S2 128 (q + 1) x 127 1 + 1))) (((hF2.mo rfl rfl).up _ _ _ rfl).up _ _ _ rfl) ⟨by rw [up_s, e1], fun j hj => ?_⟩
    · refine sound ok_Row_put [] 40 ?_
      exact ⟨hb, hq2⟩
    · rw [ins_len] at hj
      clear e1 z2
      rw [up_o _ _ _ (by decide), ins_at x l (q + 1).toNat hs (by omega) (fun j h4 h5 => a3 j (by omega) (by omega)) (by
        rcases a4 with z | z
        · exact Or.inl (by omega)
        · by_cases hz : q + 1 = 0
          · exact Or.inl (by omega)
          · exact Or.inr (by rw [show (q + 1).toNat - 1 = q.toNat by omega]; exact z)), getD_ins _ _ _ _ (by omega)]
      by_cases hj1 : (j : Int) = q + 1
      · rw [hj1, up_s, if_neg (by omega), if_pos (by omega)]
      · rw [up_n _ _ _ hj1]
        by_cases hj2 : (j : Int) < q + 1
        · rw [if_pos (by omega)]
          exact a1 j hj2
        · rw [if_neg (by omega), if_neg (by omega)]
          exact a2 j (by omega) (by omega)
  have loop : ∀ (q : Int) (S2 : St), ((0 ≤ q + 1 ∧ q + 1 ≤ l.length) ∧ Fr [128] [] S S2 ∧ (∀ j : Nat, (j : Int) < q + 1 → S2 128 j = l.getD j 0) ∧ (∀ j : Nat, q + 1 < j → j ≤ l.length → S2 128 j = l.getD (j - 1) 0) ∧ (∀ j : Nat, q + 1 ≤ j → j < l.length → x < l.getD j 0)) → Smm H_Row_put 20 [some (.inr (.inr 127)), some (.inl x), some (.inl (q + 1))] [] S2 Q := by
    refine lp_dn (P := fun q S2 => Smm H_Row_put 20 [some (.inr (.inr 127)), some (.inl x), some (.inl (q + 1))] [] S2 Q) _ ?_ ?_
    · rintro q S2 hq ⟨b0, hF2, a1, a2, a3⟩
      refine sound ok_Row_put [56] 20 ?_
      exact ⟨fun _ => out q S2 b0 hF2 a1 a2 a3 (Or.inl (by omega)), fun h3 => absurd h3 (by omega)⟩
    · rintro q S2 hq ⟨b0, hF2, a1, a2, a3⟩ ih
      have hv : S2 128 q = l.getD q.toNat 0 := by
        have := a1 q.toNat (by omega)
        rwa [show ((q.toNat : Nat) : Int) = q by omega] at this
      have b1 : 0 ≤ q ∧ q < 4 := by omega
      have b2 : 0 ≤ q + 1 ∧ q + 1 < 4 := by omega
      have hp : 0 < q + 1 := by omega
      have e2 : q - 1 + 1 = i32 (q + 1 + -1) := by unfold i32; omega
      have eq1 : i32 (q + 1 - 1) = q := by unfold i32; omega
      refine sound ok_Row_put [56, 20] 40 ?_
      refine ⟨fun h3 => absurd h3 (by omega), fun _ => ?_⟩
      refine ⟨by rw [eq1]; exact b1, ?_⟩
      refine ⟨fun h4 => ?_, fun h4 => ?_⟩
      · rw [eq1, hv] at h4
        exact out q S2 b0 hF2 a1 a2 a3 (Or.inr h4)
      · rw [eq1, hv] at h4
        refine ⟨by rw [eq1]; exact b1, ?_⟩
        refine ⟨b2, ?_⟩
        have go := ih (up S2 128 (q + 1) (S2 128 q)) ⟨by omega, hF2.up _ _ _ rfl, fun j hj => ?_, fun j hj hj2 => ?_, fun j hj hj2 => ?_⟩
        · have e3 : S2 128 q = S2 128 (i32 (q + 1 - 1)) := by rw [eq1]
          rw [e3] at go
          exact Smm.sub go ⟨Or.inr rfl, Or.inr rfl, Or.inr (sI e2), trivial⟩
        · rw [up_n _ _ _ (by omega)]
          exact a1 j (by omega)
        · by_cases hjq : (j : Int) = q + 1
          · rw [hjq, up_s, hv, show j - 1 = q.toNat by omega]
          · rw [up_n _ _ _ hjq]
            exact a2 j (by omega) hj2
        · by_cases hjq : (j : Int) = q
          · rw [show j = q.toNat by omega]
            exact h4
          · exact a3 j (by omega) hj2
  have go := loop (l.length - 1) S ⟨by omega, Fr.rf _ _ _, fun j hj => r2 j (by omega), fun j hj hj2 => absurd hj (by omega), fun j hj hj2 => absurd hj (by omega)⟩
  exact Smm.sub go ⟨Or.inr rfl, Or.inr rfl, Or.inr (sI (by rw [r1]; omega)), trivial⟩
theorem t_gather_d (S : St) (n : Nat) (one other : Int) (Q : Option AV → St → Prop) (hn : n ≤ 4) (hQ : ∀ S', Fr [128] [(127, 1)] S S' → rwI 127 128 S' (gaF (S 101) (fun k => decide (¬ k = one ∧ ¬ k = other)) n) → Q none S') : Smm H_Row_gather 0 [some (.inr (.inr 127)), some (.inr (.inr 101)), some (.inl (n : Int)), some (.inl one), some (.inl other), none] [] S Q := by
  have loop : ∀ (i : Int) (S' : St), ((0 ≤ i ∧ i ≤ n) ∧ Fr [128] [(127, 1)] S S' ∧ rwI 127 128 S' (gaF (S 101) (fun k => decide (¬ k = one ∧ ¬ k = other)) i.toNat)) → Smm H_Row_gather 8 [some (.inr (.inr 127)), some (.inr (.inr 101)), some (.inl (n : Int)), some (.inl one), some (.inl other), some (.inl i)] [] S' Q := by
    refine lp_up (P := fun i S' => Smm H_Row_gather 8 [some (.inr (.inr 127)), some (.inr (.inr 101)), some (.inl (n : Int)), some (.inl one), some (.inl other), some (.inl i)] [] S' Q) _ n ?_ ?_
    · rintro i S' hi ⟨hi2, hF, hr⟩
      rw [show i.toNat = n by omega] at hr
      refine sound ok_Row_gather [8] 20 ?_
      exact ⟨fun _ => hQ S' hF hr, fun z => absurd z (by omega)⟩
    · rintro i S' hi ⟨hi2, hF, hr⟩ ih
      obtain ⟨k, rfl⟩ : ∃ k : Nat, i = k := ⟨i.toNat, by omega⟩
      rw [show ((k : Int)).toNat = k by omega] at hr
      rw [show ((k : Int) + 1).toNat = k + 1 by omega, gaF] at ih
      have hlen := gaF_len (S 101) (fun k => decide (¬ k = one ∧ ¬ k = other)) k
      have hsr := gaF_srtd (S 101) (fun k => decide (¬ k = one ∧ ¬ k = other)) k
      have et : S' 101 = S 101 := hF.c _ rfl
      have hk1 : 0 ≤ (k : Int) + 1 ∧ (k : Int) + 1 ≤ n := by omega
      have hk4 : 0 ≤ (k : Int) ∧ (k : Int) < 4 := by omega
      have hkn : k < n := by omega
      have e : (k : Int) + 1 = i32 ((k : Int) + 1) := (i32_id (by omega) (by omega)).symm
      have nx : ∀ S2, Fr [128] [(127, 1)] S S2 → rwI 127 128 S2 (if (decide (¬ (k : Int) = one ∧ ¬ (k : Int) = other)) = true ∧ S 101 k < 1000000 then ins (S 101 k) (gaF (S 101) (fun k => decide (¬ k = one ∧ ¬ k = other)) k) else gaF (S 101) (fun k => decide (¬ k = one ∧ ¬ k = other)) k) → Smm H_Row_gather 35 [some (.inr (.inr 127)), some (.inr (.inr 101)), some (.inl (n : Int)), some (.inl one), some (.inl other), some (.inl (k : Int))] [] S2 Q := by
        intro S2 g1 g2
        refine sound ok_Row_gather [8] 20 ?_
        exact Smm.sub (ih S2 ⟨hk1, g1, g2⟩) ⟨Or.inr rfl, Or.inr rfl, Or.inr rfl, Or.inr rfl, Or.inr rfl, Or.inr (sI e), trivial⟩
      refine sound ok_Row_gather [35] 40 ?_
      refine ⟨fun z => absurd z (nle_n hkn), fun _ => ?_⟩
      refine ⟨fun g1 => nx S' hF ?_, fun g1 => ?_⟩
      · rw [if_neg (fun z => (of_decide_eq_true z.1).1 g1)]; exact hr
      · refine ⟨fun g2 => nx S' hF ?_, fun g2 => ?_⟩
        · rw [if_neg (fun z => (of_decide_eq_true z.1).2 g2)]; exact hr
        · refine ⟨hk4, ?_⟩
          have hd : decide (¬ (k : Int) = one ∧ ¬ (k : Int) = other) = true := decide_eq_true ⟨g1, g2⟩
          refine t_put_d S' _ _ _ hr hsr (by omega) (fun z => ?_) (fun g3 g4 S2 hF2 hr2 => ?_)
          · rw [et] at z
            refine nx S' hF ?_
            rw [if_neg (by omega)]; exact hr
          · rw [et] at g3 hr2
            refine nx S2 (hF.tr hF2) ?_
            rw [if_pos ⟨hd, g3⟩]; exact hr2
  refine sound ok_Row_gather [8] 20 ?_
  refine loop 0 (up S 127 1 0) ⟨by omega, (Fr.rf _ _ _).up _ _ _ rfl, ?_⟩
  exact ⟨by rw [up_s]; rfl, fun j hj => absurd hj (by simp [gaF])⟩
theorem t_spread_d (S : St) (l : List Int) (need : Nat) (Q : Option AV → St → Prop) (hR : rwI 127 128 S l) (hl : l.length ≤ 4) (hb : ∀ x ∈ l, -5000 ≤ x ∧ x ≤ 5000) (hn : 2 ≤ need ∧ need ≤ 4) (hQ : Q (some (.inl (wmF need l l.length))) S) : Smm H_Row_spread 0 [some (.inr (.inr 127)), some (.inl (need : Int)), none, none] [] S Q := by
  obtain ⟨r1, r2⟩ := hR
  have wz : ∀ i : Nat, i + 1 ≤ need → wmF need l i = 1000000 := by
    intro i
    induction i with
    | zero => intro _; rfl
    | succ i ih => intro hi; rw [wmF, if_neg (by omega)]; exact ih (by omega)
  have hmin : need - 1 ≤ l.length ∨ wmF need l l.length = 1000000 := by
    by_cases h : l.length + 1 ≤ need
    · exact Or.inr (wz _ h)
    · exact Or.inl (by omega)
  have loop : ∀ (i : Int) (_ : Unit), ((need : Int) - 1 ≤ i ∧ (i ≤ l.length ∨ i = need - 1)) → Smm H_Row_spread 7 [some (.inr (.inr 127)), some (.inl (need : Int)), some (.inl (wmF need l (min i.toNat l.length))), some (.inl i)] [] S Q := by
    refine lp_up (P := fun i _ => Smm H_Row_spread 7 [some (.inr (.inr 127)), some (.inl (need : Int)), some (.inl (wmF need l (min i.toNat l.length))), some (.inl i)] [] S Q) (fun i _ => (need : Int) - 1 ≤ i ∧ (i ≤ l.length ∨ i = need - 1)) l.length ?_ ?_
    · rintro i - hi hi2
      refine sound ok_Row_spread [7] 20 ?_
      refine ⟨fun _ => ?_, fun z => absurd z (by rw [r1]; omega)⟩
      rw [show min i.toNat l.length = l.length by omega]
      exact hQ
    · rintro i - hi hi2 ih
      obtain ⟨k, rfl⟩ : ∃ k : Nat, i = k := ⟨i.toNat, by omega⟩
      have ih := ih () (by omega)
      rw [show min ((k : Int) + 1).toNat l.length = k + 1 by omega, wmF, if_pos (by omega)] at ih
      rw [show min ((k : Int)).toNat l.length = k by omega]
      have g1 := rb_get hb (j := k) (by omega)
      have g2 := rb_get hb (j := k + 1 - need) (by omega)
      have v1 : S 128 k = l.getD k 0 := r2 k (by omega)
      have v2 : S 128 ((k + 1 - need : Nat) : Int) = l.getD (k + 1 - need) 0 := r2 _ (by omega)
      have b1 : 0 ≤ (k : Int) ∧ (k : Int) < 4 := by omega
      have b2 : 0 ≤ ((k + 1 - need : Nat) : Int) ∧ ((k + 1 - need : Nat) : Int) < 4 := by omega
      have hk : ¬ S 127 1 ≤ k := by rw [r1]; omega
      have wxa : need ≤ k + 1 ∧ k < 10 := by omega
      have e : (k : Int) + 1 = i32 ((k : Int) + 1) := (i32_id (by omega) (by omega)).symm
      have e3 : i32 (l.getD k 0 - l.getD (k + 1 - need) 0) = l.getD k 0 - l.getD (k + 1 - need) 0 := i32_id (by omega) (by omega)
      have e1 : i32 (i32 ((k : Int) - need) + 1) = ((k + 1 - need : Nat) : Int) := wx1 wxa.1 wxa.2 hn.2
      refine sound ok_Row_spread [7] 40 ?_
      refine ⟨fun z => absurd z hk, fun _ => ?_⟩
      refine ⟨b1, ?_⟩
      refine ⟨by rw [e1]; exact b2, ?_⟩
      refine Smm.sub ih ⟨Or.inr rfl, Or.inr rfl, Or.inr (sI ?_), Or.inr (sI e), trivial⟩
      rw [e1, v1, v2, e3]
  have go := loop (need - 1) () ⟨Int.le_refl _, Or.inr rfl⟩
  refine sound ok_Row_spread [7] 20 ?_
  refine Smm.sub go ⟨Or.inr rfl, Or.inr rfl, Or.inr (sI ?_), Or.inr (sI (by unfold i32; omega)), trivial⟩
  have h9 := wz (min ((need : Int) - 1).toNat l.length) (by omega)
  exact h9
theorem t_momentOf_d (S : St) (l : List Int) (need : Nat) (breath : Int) (Q : Option AV → St → Prop) (hR : rwI 127 128 S l) (hl : l.length ≤ 4) (hb : ∀ x ∈ l, -5000 ≤ x ∧ x ≤ 5000) (hn : 2 ≤ need ∧ need ≤ 4) (hQ : Q (some (.inl (moF need breath l (need - 1) (l.length + 1 - need)))) S) : Smm H_Row_momentOf 0 [some (.inr (.inr 127)), some (.inl (need : Int)), some (.inl breath), none] [] S Q := by
  obtain ⟨r1, r2⟩ := hR
  have loop : ∀ (d k : Nat), need - 1 ≤ k → (k + d = l.length ∨ (d = 0 ∧ l.length ≤ k ∧ k ≤ 4)) → moF need breath l k d = moF need breath l (need - 1) (l.length + 1 - need) → Smm H_Row_momentOf 4 [some (.inr (.inr 127)), some (.inl (need : Int)), some (.inl breath), some (.inl (k : Int))] [] S Q := by
    intro d
    induction d with
    | zero =>
      intro k h1 h2 h3
      rw [← h3] at hQ
      refine sound ok_Row_momentOf [4] 20 ?_
      exact ⟨fun _ => hQ, fun z => absurd z (by rw [r1]; omega)⟩
    | succ d ih =>
      intro k h1 h2 h3
      have ih := ih (k + 1) (by omega) (by omega)
      rw [moF] at h3
      have g1 := rb_get hb (j := k) (by omega)
      have g2 := rb_get hb (j := k + 1 - need) (by omega)
      have v1 : S 128 k = l.getD k 0 := r2 k (by omega)
      have v2 : S 128 ((k + 1 - need : Nat) : Int) = l.getD (k + 1 - need) 0 := r2 _ (by omega)
      have b1 : 0 ≤ (k : Int) ∧ (k : Int) < 4 := by omega
      have b2 : 0 ≤ ((k + 1 - need : Nat) : Int) ∧ ((k + 1 - need : Nat) : Int) < 4 := by omega
      have hk : ¬ S 127 1 ≤ k := by rw [r1]; omega
      have hnv : ¬ l.getD k 0 = 1000000 := by omega
      have wxa : need ≤ k + 1 ∧ k < 10 := by omega
      have e : ((k + 1 : Nat) : Int) = i32 ((k : Int) + 1) := i32_s (by omega)
      have e3 : i32 (l.getD k 0 - l.getD (k + 1 - need) 0) = l.getD k 0 - l.getD (k + 1 - need) 0 := i32_id (by omega) (by omega)
      have e1 : i32 (i32 ((k : Int) - need) + 1) = ((k + 1 - need : Nat) : Int) := wx1 wxa.1 wxa.2 hn.2
      refine sound ok_Row_momentOf [4] 40 ?_
      refine ⟨fun z => absurd z hk, fun _ => ?_⟩
      refine ⟨b1, ?_⟩
      refine ⟨by rw [e1]; exact b2, ?_⟩
      refine ⟨fun g => ?_, fun g => ?_⟩
      · rw [e1, v1, v2, e3] at g
        rw [if_neg (fun z => absurd z.2 (Int.not_le.mpr g))] at h3
        exact Smm.sub (ih h3) ⟨Or.inr rfl, Or.inr rfl, Or.inr rfl, Or.inr (sI e), trivial⟩
      · rw [e1, v1, v2, e3] at g
        rw [if_pos ⟨hnv, g⟩] at h3
        rw [← h3, ← v1] at hQ
        exact ⟨b1, hQ⟩
  refine sound ok_Row_momentOf [4] 20 ?_
  by_cases hz : need ≤ l.length + 1
  · have go := loop (l.length + 1 - need) (need - 1) (Nat.le_refl _) (Or.inl (by omega)) rfl
    exact Smm.sub go ⟨Or.inr rfl, Or.inr rfl, Or.inr rfl, Or.inr (sI (by unfold i32; omega)), trivial⟩
  · have go := loop 0 (need - 1) (Nat.le_refl _) (Or.inr ⟨rfl, by omega, by omega⟩) (by rw [show l.length + 1 - need = 0 by omega])
    exact Smm.sub go ⟨Or.inr rfl, Or.inr rfl, Or.inr rfl, Or.inr (sI (by unfold i32; omega)), trivial⟩
theorem t_addSpan_d (S : St) (sp : List (Int × Int)) (x y : Int) (Q : Option AV → St → Prop) (hS : spI 127 129 130 S sp) (hl : sp.length < 4) (hQ : ∀ S', Fr [129, 130] [(127, 4)] S S' → spI 127 129 130 S' (sp ++ [(x, y)]) → Q none S') : Smm H_Row_addSpan 0 [some (.inr (.inr 127)), some (.inl x), some (.inl y)] [] S Q := by
  have z := hS.1
  have b1 : 0 ≤ S 127 4 ∧ S 127 4 < 4 := by omega
  have hq := hQ (up (up (up S 129 (S 127 4) x) 130 (S 127 4) y) 127 4 (i32 (S 127 4 + 1))) ((((Fr.rf _ _ _).up _ _ _ rfl).up _ _ _ rfl).up _ _ _ rfl) (spI_app x y hS (by rw [up_s]; exact i32_id (by omega) (by omega)) (by rw [up_o _ _ _ (by decide), up_o _ _ _ (by decide), up_c, z]; rfl) (by rw [up_o _ _ _ (by decide), up_c, z, up_o _ _ _ (by decide)]; rfl))
  refine sound ok_Row_addSpan [] 60 ?_
  refine ⟨fun g => absurd g (by omega), fun _ => ?_⟩
  refine ⟨b1, ?_⟩
  refine ⟨b1, ?_⟩
  exact hq
set_option maxHeartbeats 2000000 in
theorem t_findSpans_d (S : St) (l : List Int) (need : Nat) (breath : Int) (Q : Option AV → St → Prop) (hR : rwI 127 128 S l) (hl : l.length ≤ 4) (hb : ∀ x ∈ l, -5000 ≤ x ∧ x ≤ 5000) (hn : 2 ≤ need ∧ need ≤ 4) (hbr : 0 ≤ breath ∧ breath ≤ 9) (hQ : ∀ S', Fr [129, 130] [(127, 4)] S S' → spI 127 129 130 S' (spL need breath l) → Q none S') : Smm H_Row_findSpans 0 [some (.inr (.inr 127)), some (.inl (need : Int)), some (.inl breath), none, none, none] [] S Q := by
  have hF0 : Fr [129, 130] [(127, 4)] S (up S 127 4 0) := (Fr.rf _ _ _).up _ _ _ rfl
  have hR0 : rwI 127 128 (up S 127 4 0) l := rwI_fr hR (up_n _ _ _ (by decide)) (up_o _ _ _ (by decide))
  have hS0 : spI 127 129 130 (up S 127 4 0) [] := ⟨up_s _ _ _ _, fun j hj => absurd hj (by simp)⟩
  have dn : ∀ k, k ≤ l.length + 2 - need → (spS need breath l k).1 = -2000000 ∨ (-6000 ≤ (spS need breath l k).1 ∧ (spS need breath l k).1 ≤ 6000) := by
    intro k
    induction k with
    | zero => intro _; exact Or.inl rfl
    | succ k ih =>
      intro hk
      have ih := ih (by omega)
      rw [spS]
      split
      · have g := rb_get hb (j := k) (by omega)
        exact Or.inr ⟨by dsimp only; omega, by dsimp only; omega⟩
      · exact ih
  have loop : ¬ wmF need l l.length ≤ breath → ∀ (d k : Nat) (T : St) (x : Option AV), k + d = l.length + 2 - need → Fr [129, 130] [(127, 4)] S T → spI 127 129 130 T (spS need breath l k).2 → Smm H_Row_findSpans 29 [some (.inr (.inr 127)), some (.inl (need : Int)), some (.inl breath), some (.inl (spS need breath l k).1), some (.inl (k : Int)), x] [] T Q := by
    intro hw d
    induction d with
    | zero =>
      intro k T x hk hF hI
      have r1 : T 127 1 = l.length := by rw [hF.s 127 1 rfl]; exact hR.1
      have hq := hQ T hF (by unfold spL; rw [if_neg hw, ← hk]; exact hI)
      have h1 : ¬ (k : Int) + need - 2 < l.length := by omega
      have e1 : i32 (i32 ((k : Int) + need) - 2) = (k : Int) + need - 2 := by rw [i32_id (v := (k : Int) + need) (by omega) (by omega)]; exact i32_id (by omega) (by omega)
      refine sound ok_Row_findSpans [29] 40 ?_
      exact ⟨fun _ => hq, fun z => absurd z (by rw [r1, e1]; exact h1)⟩
    | succ d ih =>
      intro k T x hk hF hI
      have hR2 : rwI 127 128 T l := rwI_fr hR (hF.s 127 1 rfl) (hF.c 128 rfl)
      obtain ⟨r1, r2⟩ := hR2
      have hd := dn k (by omega)
      have hlen := spS_len need breath l k
      have hst : spS need breath l (k + 1) = if l.getD (k + need - 2) 0 - l.getD k 0 ≤ breath then (l.getD k 0 + breath, (spS need breath l k).2 ++ [(max (l.getD (k + need - 2) 0 - breath) ((spS need breath l k).1 + 1), l.getD k 0 + breath)]) else spS need breath l k := rfl
      have ih := ih (k + 1)
      rw [hst] at ih
      clear hst
      have g1 := rb_get hb (j := k) (by omega)
      have g2 := rb_get hb (j := k + need - 2) (by omega)
      have v1 : T 128 k = l.getD k 0 := r2 k (by omega)
      have v2 : T 128 ((k + need - 2 : Nat) : Int) = l.getD (k + need - 2) 0 := r2 _ (by omega)
      have b1 : 0 ≤ (k : Int) ∧ (k : Int) < 4 := by omega
      have b2 : 0 ≤ ((k + need - 2 : Nat) : Int) ∧ ((k + need - 2 : Nat) : Int) < 4 := by omega
      have h1 : ¬ (l.length : Int) ≤ ((k + need - 2 : Nat) : Int) := by omega
      have hsl : (spS need breath l k).2.length < 4 := by omega
      have wxa : k < 10 := by omega
      have hkd : k + 1 + d = l.length + 2 - need := by omega
      have e : ((k + 1 : Nat) : Int) = i32 ((k : Int) + 1) := i32_s (by omega)
      obtain ⟨e3, e4, e5, e6⟩ := fx4 g2 g1 hbr hd
      have e1 : i32 (i32 ((k : Int) + need) - 2) = ((k + need - 2 : Nat) : Int) := wx2 wxa hn
      generalize hj2 : k + need - 2 = j2 at *
      generalize spS need breath l k = sp at *
      refine sound ok_Row_findSpans [29, 107] 60 ?_
      refine ⟨fun z => absurd z (by rw [r1, e1]; exact h1), fun _ => ?_⟩
      refine ⟨by rw [e1]; exact b2, ?_⟩
      refine ⟨b1, ?_⟩
      refine ⟨fun g => ?_, fun g => ?_⟩
      · rw [e1, v1, v2, e3] at g
        rw [if_neg (Int.not_le.mpr g)] at ih
        refine sound ok_Row_findSpans [29] 20 ?_
        exact Smm.sub (ih T _ hkd hF hI) ⟨Or.inr rfl, Or.inr rfl, Or.inr rfl, Or.inr rfl, Or.inr (sI e), Or.inr rfl, trivial⟩
      · rw [e1, v1, v2, e3] at g
        rw [if_pos g] at ih
        refine ⟨by rw [e1]; exact b2, ?_⟩
        refine ⟨b1, ?_⟩
        refine t_addSpan_d T sp.2 _ _ _ hI hsl (fun T2 hF2 hI2 => ?_)
        have v3 : T2 128 k = l.getD k 0 := by rw [hF2.c 128 rfl, v1]
        rw [e1, v2, v1, e4, e5, e6] at hI2
        refine ⟨b1, ?_⟩
        refine sound ok_Row_findSpans [29] 20 ?_
        refine Smm.sub (ih T2 _ hkd (hF.tr hF2) hI2) ⟨Or.inr rfl, Or.inr rfl, Or.inr rfl, Or.inr (sI ?_), Or.inr (sI e), Or.inr rfl, trivial⟩
        rw [v3, e5]
  refine sound ok_Row_findSpans [29] 40 ?_
  refine t_spread_d (up S 127 4 0) l need _ hR0 hl hb hn ?_
  refine ⟨fun g => ?_, fun g => ?_⟩
  · exact loop (Int.not_le.mpr g) (l.length + 2 - need) 0 _ none (by omega) hF0 hS0
  · refine t_addSpan_d (up S 127 4 0) [] _ _ _ hS0 (by decide) (fun T hF hI => ?_)
    exact hQ T (hF0.tr hF) (by unfold spL; rw [if_pos g]; exact hI)
theorem t_Row_copy (S : St) (l : List Int) (Q : Option AV → St → Prop) (hR : rwI 123 124 S l) (hl : l.length ≤ 4) (hQ : ∀ S', Fr [128] [(127, 1)] S S' → rwI 127 128 S' l → Q none S') : Smm H_Row_copy 0 [some (.inr (.inr 127)), some (.inr (.inr 123)), none] [] S Q := by
  obtain ⟨r1, r2⟩ := hR
  have loop : ∀ (i : Int) (T : St), ((0 ≤ i ∧ i ≤ l.length) ∧ Fr [128] [(127, 1)] S T ∧ T 127 1 = l.length ∧ ∀ j : Nat, (j : Int) < i → T 128 j = l.getD j 0) → Smm H_Row_copy 10 [some (.inr (.inr 127)), some (.inr (.inr 123)), some (.inl i)] [] T Q := by
    refine lp_up (P := fun i T => Smm H_Row_copy 10 [some (.inr (.inr 127)), some (.inr (.inr 123)), some (.inl i)] [] T Q) _ l.length ?_ ?_
    · rintro i T hi ⟨hi2, hF, h1, h2⟩
      refine sound ok_Row_copy [10] 20 ?_
      exact ⟨fun _ => hQ T hF ⟨h1, fun j hj => h2 j (by omega)⟩, fun z => absurd z (by rw [h1]; omega)⟩
    · rintro i T hi ⟨hi2, hF, h1, h2⟩ ih
      have b1 : 0 ≤ i ∧ i < 4 := by omega
      have v : T 124 i = l.getD i.toNat 0 := by
        have := r2 i.toNat (by omega)
        rw [show ((i.toNat : Nat) : Int) = i by omega] at this
        rw [hF.c 124 rfl, this]
      have hi3 : ¬ T 127 1 ≤ i := by rw [h1]; omega
      have go := ih (up T 128 i (T 124 i)) ⟨by omega, hF.up _ _ _ rfl, by rw [up_o _ _ _ (by decide)]; exact h1, fun j hj => ?_⟩
      · have e : i + 1 = i32 (i + 1) := (i32_id (by omega) (by omega)).symm
        refine sound ok_Row_copy [10] 40 ?_
        refine ⟨fun z => absurd z hi3, fun _ => ?_⟩
        refine ⟨b1, ?_⟩
        refine ⟨b1, ?_⟩
        exact Smm.sub go ⟨Or.inr rfl, Or.inr rfl, Or.inr (sI e), trivial⟩
      · by_cases hj2 : (j : Int) = i
        · rw [hj2, up_s, v, show j = i.toNat by omega]
        · rw [up_n _ _ _ hj2]; exact h2 j (by omega)
  refine sound ok_Row_copy [10] 20 ?_
  exact loop 0 (up S 127 1 (S 123 1)) ⟨by omega, (Fr.rf _ _ _).up _ _ _ rfl, by rw [up_s, r1], fun j hj => absurd hj (by omega)⟩
