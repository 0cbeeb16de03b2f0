/-! the walk: its steps, whether it opens -/
/-- what is below a sign does not hang on its off -/
theorem sm_low {T : St} (hT : mOk T) {f f' : Int → Int} {k : Int} (h : ∀ s, 0 ≤ s → s < T 0 20 → s < k → f s = f' s) {s : Int} (h0 : 0 ≤ s) (h1 : s < T 0 20) (h2 : s < k) : smM T f s = smM T f' s :=
  sm_dep hT (nd := fun s => decide (s < k)) (fun s s0 s1 hs hb => decide_eq_true (by have := (hT.1.2.1 s s0 s1).2.1; have := of_decide_eq_true hs; omega)) (fun s s0 s1 hs => h s s0 s1 (of_decide_eq_true hs)) (s.toNat + 1) s h0 h1 (by omega) (decide_eq_true h2)
theorem ne32 {r : Int} (h : 0 ≤ r ∧ r ≤ 3) : i32 (-r) = -r := i32_id (by omega) (by omega)
theorem in32 {r : Int} (h : -3 ≤ r ∧ r ≤ 3) : i32 (r + 1) = r + 1 := i32_id (by omega) (by omega)
set_option maxHeartbeats 2000000 in
theorem t_step_l (T S : St) (f rr : Int → Int) (pre post : List (Int → Int)) (Q : Option AV → St → Prop) (hT : mAs T) (hW : wkI_l T S f) (hrr : ∀ s, 0 ≤ s → s < T 0 20 → S 98 s = rr s ∧ 0 ≤ rr s ∧ rr s ≤ 3) (hl : wyF rr (T 0 20).toNat = pre ++ f :: post) (hQ : ∀ (S' : St) (f' : Int → Int), Fr [61, 62, 99, 100, 101] [] S S' → wkI_l T S' f' → (post = [] ∨ ∃ post', post = f' :: post') → Q none S') : Smm H_Walk_step 0 [some (.inr (.inr 95)), none] [] S Q := by
  have hTo := hT.1
  have hn5 := hTo.1.1
  have hk4 := hTo.2.1
  have hn1 := hT.2.1.1
  obtain ⟨hB, hoff, hat, hrest, htn⟩ := hW
  have hnx := wy_next (err := rr) (T 0 20).toNat (fun i hi => (hrr i (by omega) (by omega)).2.1) pre f post hl
  have hfm : f ∈ wyF rr (T 0 20).toNat := by rw [hl]; exact List.mem_append_right _ List.mem_cons_self
  have hfb : ∀ s, 0 ≤ s → s < T 0 20 → -3 ≤ f s ∧ f s ≤ 3 := fun s s0 s1 => by
    have h1 := (wy_mem (T 0 20).toNat (fun i hi => (hrr i (by omega) (by omega)).2.1) f hfm).1 s s0 (by omega)
    have h2 := hrr s s0 s1
    omega
  have hfr : ∀ s, 0 ≤ s → s < T 0 20 → f s ≤ rr s := fun s s0 s1 => ((wy_mem (T 0 20).toNat (fun i hi => (hrr i (by omega) (by omega)).2.1) f hfm).1 s s0 (by omega)).2
  -- the last off, and what comes of it
  have out : ∀ (i : Int) (S1 : St) (g : Int → Int), (0 ≤ i ∧ i < T 0 20) → Fr [99] [] S S1 → (∀ s, 0 ≤ s → s < T 0 20 → S1 99 s = g s) → (∀ s, 0 ≤ s → s < T 0 20 → -3 ≤ g s ∧ g s ≤ 3) → (∀ s, 0 ≤ s → s < T 0 20 → s ≤ i → g s = f s) → nxF rr (i + 1).toNat g = post.head? → (i = 0 ∨ ¬ g i = rr i) → Smm H_Walk_step 48 [some (.inr (.inr 95)), some (.inl i)] [] S1 Q := by
    intro i S1 g hi hF hg hgb hgf hx hz
    have hB1 := wkB_fr_l hB hF rfl
    have er : S1 98 i = rr i := by rw [hF.c 98 rfl]; exact (hrr i hi.1 hi.2).1
    have hri := (hrr i hi.1 hi.2).2
    have hgi := hgb i hi.1 hi.2
    have eo := hg i hi.1 hi.2
    have bi : 0 ≤ i ∧ i < 5 := by omega
    obtain ⟨k, hk⟩ : ∃ k : Nat, i = k := ⟨i.toNat, by omega⟩
    subst hk
    rw [show ((k : Int) + 1).toNat = k + 1 by omega, nxF] at hx
    have fin : ∀ v : Int, -3 ≤ v → v ≤ 3 → (post = [] ∨ ∃ post', post = uf g k v :: post') → ∀ Q' : Option AV → St → Prop, (∀ S', Q none S' → Q' none S') → Smm H_Walk_settle 0 [some (.inr (.inr 95)), some (.inl (k : Int)), none] [] (up S1 99 k v) Q' := by
      intro v v0 v1 hp Q' hq'
      have hF2 : Fr [99] [] S (up S1 99 k v) := hF.up _ _ _ rfl
      have hB2 := wkB_fr_l hB hF2 rfl
      have hof : ofOk (T 0 20) (uf g k v) := fun s s0 s1 => by
        rw [ufs]
        split
        · exact ⟨v0, v1⟩
        · exact hgb s s0 s1
      have hof1 : ofOk (T 0 20) f := hfb
      have hlow : ∀ s, 0 ≤ s → s < T 0 20 → s < (k : Int) → f s = uf g k v s := fun s s0 s1 s2 => by
        rw [uf_n _ _ (by omega)]
        exact (hgf s s0 s1 (by omega)).symm
      refine t_settle_l T _ (uf g k v) k _ hTo hB2 hof (by omega) (fun s s0 s1 => ?_) (fun s s0 s1 => ?_) (fun s s0 s1 => ?_) (fun x x0 x1 hu => ?_) (fun S3 hF3 hW3 => ?_)
      · rw [ufs]
        by_cases z : s = k
        · rw [z, up_s, if_pos rfl]
        · rw [up_n _ _ _ z, if_neg z]; exact hg s s0 s1
      · rw [hF2.c 100 rfl, hat s s0 (by omega)]
        exact sm_low hTo hlow s0 (by omega) s1
      · rw [hF2.c 100 rfl]; exact hrest s s0 s1
      · rw [hF2.c 101 rfl, htn x x0 x1]
        refine tn_dep hTo hB2.2.2.1 (sm_bd hTo hof1) (sm_bd hTo hof) (by omega) (fun s hs => ?_)
        have hs1 := hs.2.2.1
        exact sm_low hTo hlow (by omega) hs1 (by have := hu s hs; omega)
      · exact hq' S3 (hQ S3 (uf g k v) ((hF2.mo rfl rfl).tr (hF3.mo rfl rfl)) hW3 hp)
    refine sound ok_Walk_step [] 60 ?_
    refine ⟨fun z => absurd z (by omega), fun _ => ?_⟩
    refine ⟨bi, ?_⟩
    refine ⟨bi, ?_⟩
    refine ⟨fun z => ?_, fun z => ?_⟩
    · rw [er, eo] at z
      rw [if_neg z] at hx
      have ev : i32 (S1 99 k + 1) = g k + 1 := by rw [eo]; exact in32 hgi
      have hgk : g k = f k := hgf k hi.1 hi.2 (Int.le_refl _)
      have hfk := hfr k hi.1 hi.2
      have hle : g k + 1 ≤ 3 := by omega
      have hge : -3 ≤ g k + 1 := by omega
      have f1 := fin (g k + 1) hge hle (by
        cases hp : post with
        | nil => exact Or.inl rfl
        | cons a r =>
          rw [hp] at hx
          have : uf g k (g k + 1) = a := Option.some.inj hx
          exact Or.inr ⟨r, by rw [this]⟩)
      rw [← ev] at f1
      refine ⟨bi, ?_⟩
      refine ⟨bi, ?_⟩
      refine f1 _ (fun S' h => ?_)
      exact h
    · rw [er, eo] at z
      rw [if_pos z] at hx
      have hk0 : k = 0 := by
        rcases hz with y | y
        · omega
        · exact absurd z y
      have hpn : post = [] := by
        subst hk0
        rw [nxF] at hx
        cases hp : post with
        | nil => rfl
        | cons a r => rw [hp] at hx; cases hx
      have ev : i32 (-(S1 98 k)) = -rr k := by rw [er]; exact ne32 hri
      have f1 := fin (-rr k) (by have := hri.2; omega) (by have := hri.1; omega) (Or.inl hpn)
      rw [← ev] at f1
      refine ⟨bi, ?_⟩
      refine ⟨bi, ?_⟩
      refine f1 _ (fun S' h => ?_)
      exact h
  have loop : ∀ (i : Int) (q : St × (Int → Int)), ((0 ≤ i ∧ i < T 0 20) ∧ Fr [99] [] S q.1 ∧ (∀ s, 0 ≤ s → s < T 0 20 → q.1 99 s = q.2 s) ∧ (∀ s, 0 ≤ s → s < T 0 20 → -3 ≤ q.2 s ∧ q.2 s ≤ 3) ∧ (∀ s, 0 ≤ s → s < T 0 20 → s ≤ i → q.2 s = f s) ∧ nxF rr (i + 1).toNat q.2 = post.head?) → Smm H_Walk_step 10 [some (.inr (.inr 95)), some (.inl i)] [] q.1 Q := by
    refine lp_dn (P := fun i (q : St × (Int → Int)) => Smm H_Walk_step 10 [some (.inr (.inr 95)), some (.inl i)] [] q.1 Q) _ ?_ ?_
    · rintro i ⟨S1, g⟩ hi ⟨hi2, _⟩; omega
    · rintro i ⟨S1, g⟩ hi ⟨hi2, hF, hg, hgb, hgf, hx⟩ ih
      dsimp only at hF hg hgb hgf hx ih ⊢
      have er : S1 98 i = rr i := by rw [hF.c 98 rfl]; exact (hrr i hi2.1 hi2.2).1
      have eo := hg i hi2.1 hi2.2
      have bi : 0 ≤ i ∧ i < 5 := by omega
      have hri := (hrr i hi2.1 hi2.2).2
      refine sound ok_Walk_step [10, 48] 40 ?_
      refine ⟨fun z => out i S1 g hi2 hF hg hgb hgf hx (Or.inl (by omega)), fun z => ?_⟩
      refine ⟨bi, ?_⟩
      refine ⟨bi, ?_⟩
      refine ⟨fun z2 => out i S1 g hi2 hF hg hgb hgf hx (Or.inr (by rw [er, eo] at z2; exact z2)), fun z2 => ?_⟩
      rw [er, eo] at z2
      obtain ⟨k, hk⟩ : ∃ k : Nat, i = k := ⟨i.toNat, by omega⟩
      subst hk
      rw [show ((k : Int) + 1).toNat = k + 1 by omega, nxF, if_pos z2] at hx
      have ev : i32 (-(S1 98 k)) = -rr k := by rw [er]; exact ne32 hri
      have f1 := ih (up S1 99 k (-rr k), uf g k (-rr k)) ⟨by clear ev; omega, hF.up _ _ _ rfl, fun s s0 s1 => ?_, fun s s0 s1 => ?_, fun s s0 s1 s2 => ?_, ?_⟩
      · dsimp only at f1
        rw [← ev] at f1
        have e : (k : Int) - 1 = i32 ((k : Int) + -1) := (i32_id (by clear ev; omega) (by clear ev; omega)).symm
        refine ⟨bi, ?_⟩
        refine ⟨bi, ?_⟩
        exact Smm.sub f1 ⟨Or.inr rfl, Or.inr (sI e), trivial⟩
      · dsimp only
        rw [ufs]
        by_cases y : s = k
        · rw [y, up_s, if_pos rfl]
        · rw [up_n _ _ _ y, if_neg y]; exact hg s s0 s1
      · dsimp only
        rw [ufs]
        split
        · clear ev; omega
        · exact hgb s s0 s1
      · dsimp only
        rw [uf_n _ _ (by clear ev; omega)]
        exact hgf s s0 s1 (by clear ev; omega)
      · dsimp only
        rw [show ((k : Int) - 1 + 1).toNat = k by omega]
        exact hx
  have w1 : S 95 1 = 0 := hB.1
  have w3 : S 63 1 = T 0 20 := hB.2.1.1.2.1
  have go := loop (T 0 20 - 1) (S, f) ⟨by omega, Fr.rf _ _ _, hoff, hfb, fun _ _ _ _ => rfl, by rw [show T 0 20 - 1 + 1 = T 0 20 by omega]; exact hnx⟩
  have e : T 0 20 - 1 = i32 (S 63 1 - 1) := by rw [w3]; exact (i32_id (by omega) (by omega)).symm
  refine sound ok_Walk_step [10] 20 ?_
  refine ⟨fun _ => ?_, fun z => absurd (w1.symm.trans z) (by decide)⟩
  exact Smm.sub go ⟨Or.inr rfl, Or.inr (sI e), trivial⟩
theorem t_isOpen_l (T S : St) (f : Int → Int) (Q : Option AV → St → Prop) (hT : mAs T) (hf : ofOk (T 0 20) f) (hW : wkI_l T S f) (h1 : ∀ S', Fr [103] [(102, 1)] S S' → opM T f = true → Q (some (.inl 1)) S') (h0 : ∀ S', Fr [103] [(102, 1)] S S' → opM T f = false → Q (some (.inl 0)) S') : Smm H_Walk_isOpen 0 [some (.inr (.inr 95))] [] S Q := by
  have hTo := hT.1
  have hk4 := hTo.2.1
  have hnd := hT.2.1
  obtain ⟨hB, hoff, hat, hrest, htn⟩ := hW
  have w1 : S 95 1 = 0 := hB.1
  obtain ⟨w, hw⟩ : ∃ w : Nat, T 0 19 = w := ⟨(T 0 19).toNat, by omega⟩
  obtain ⟨n, hn⟩ : ∃ n : Nat, T 0 21 = n := ⟨(T 0 21).toNat, by omega⟩
  have w2 : S 63 0 = w := by rw [← hw]; exact hB.2.1.1.1
  have hw4 : w ≤ 4 := by omega
  have hn24 : 2 ≤ n ∧ n ≤ 4 := by omega
  have htb : ∀ g, 0 ≤ g → g < (w : Int) → S 101 g = tnM T (smM T f) g ∧ (tnM T (smM T f) g = 1000000 ∨ (-1000 ≤ tnM T (smM T f) g ∧ tnM T (smM T f) g ≤ 1000)) := fun g g0 g1 => ⟨htn g g0 (by omega), tnM_b hTo hf g0 (by omega)⟩
  have hga : gaF (S 101) (fun k => decide (¬ k = -1 ∧ ¬ k = -1)) w = gaF (tnM T (smM T f)) (fun _ => true) w := gaF_congr w (fun j j0 j1 => ⟨decide_eq_true (by omega), fun _ => (htb j j0 j1).1⟩)
  have hap : wmF n (gaF (tnM T (smM T f)) (fun _ => true) w) (gaF (tnM T (smM T f)) (fun _ => true) w).length = apM T f := by
    unfold apM
    rw [hn, show (T 0 19).toNat = w by omega, ap_row (by omega) (fun j j0 j1 => by have := (htb j j0 j1).2; omega)]
    rfl
  have hgl := gaF_len (tnM T (smM T f)) (fun _ => true) w
  have hgm : ∀ x ∈ gaF (tnM T (smM T f)) (fun _ => true) w, -5000 ≤ x ∧ x ≤ 5000 := fun x hx => by
    obtain ⟨j, j1, _, j3, j4⟩ := (gaF_mem w x).mp hx
    have := (htb j (by omega) (by omega)).2
    rw [j4]; omega
  have go1 : ∀ Q' : Option AV → St → Prop, (∀ S', Fr [103] [(102, 1)] S S' → rwI 102 103 S' (gaF (tnM T (smM T f)) (fun _ => true) w) → Q' none S') → Smm H_Row_gather 0 [some (.inr (.inr 102)), some (.inr (.inr 101)), some (.inl (w : Int)), some (.inl (-1)), some (.inl (-1)), none] [] S Q' := by
    intro Q' hq'
    refine t_gather_w S w (-1) (-1) Q' hw4 (fun S' hF hr => hq' S' hF ?_)
    rw [← hga]; exact hr
  rw [← w2] at go1
  refine sound ok_Walk_isOpen [] 60 ?_
  refine ⟨fun _ => ?_, fun z => absurd (w1.symm.trans z) (by decide)⟩
  refine go1 _ (fun S1 hF1 hr => ?_)
  have hB1 := wkB_fr_l hB hF1 rfl
  have w5 : S1 95 1 = 0 := hB1.1
  have w6 : S1 63 4 = n := by rw [← hn]; exact hB1.2.1.1.2.2.1
  have w7 : S1 63 5 = T 0 22 := hB1.2.1.1.2.2.2.1
  have go2 : ∀ Q' : Option AV → St → Prop, Q' (some (.inl (apM T f))) S1 → Smm H_Row_spread 0 [some (.inr (.inr 102)), some (.inl (n : Int)), none, none] [] S1 Q' := by
    intro Q' hq'
    refine t_spread_w S1 _ n Q' hr (by omega) hgm hn24 ?_
    rw [hap]; exact hq'
  rw [← w6] at go2
  refine ⟨fun _ => ?_, fun z => absurd (w5.symm.trans z) (by decide)⟩
  refine go2 _ ?_
  refine ⟨fun _ => ?_, fun z => absurd (w5.symm.trans z) (by decide)⟩
  refine ⟨fun z => ⟨Or.inl rfl, h0 S1 hF1 ?_⟩, fun z => ⟨Or.inr rfl, h1 S1 hF1 ?_⟩⟩
  · rw [w7] at z
    exact decide_eq_false (Int.not_le.mpr z)
  · rw [w7] at z
    exact decide_eq_true z
set_option maxHeartbeats 2000000 in
theorem t_step_o (T S : St) (f rr : Int → Int) (pre post : List (Int → Int)) (Q : Option AV → St → Prop) (hT : mAs T) (hW : wkI_o T S f) (hrr : ∀ s, 0 ≤ s → s < T 0 20 → S 98 s = rr s ∧ 0 ≤ rr s ∧ rr s ≤ 3) (hl : wyF rr (T 0 20).toNat = pre ++ f :: post) (hQ : ∀ (S' : St) (f' : Int → Int), Fr [61, 62, 99, 100, 101] [] S S' → wkI_o T S' f' → (post = [] ∨ ∃ post', post = f' :: post') → Q none S') : Smm H_Walk_step 0 [some (.inr (.inr 95)), none] [] S Q := by
  have hTo := hT.1
  have hn5 := hTo.1.1
  have hk4 := hTo.2.1
  have hn1 := hT.2.1.1
  obtain ⟨hB, hoff, hat, hrest, htn⟩ := hW
  have hnx := wy_next (err := rr) (T 0 20).toNat (fun i hi => (hrr i (by omega) (by omega)).2.1) pre f post hl
  have hfm : f ∈ wyF rr (T 0 20).toNat := by rw [hl]; exact List.mem_append_right _ List.mem_cons_self
  have hfb : ∀ s, 0 ≤ s → s < T 0 20 → -3 ≤ f s ∧ f s ≤ 3 := fun s s0 s1 => by
    have h1 := (wy_mem (T 0 20).toNat (fun i hi => (hrr i (by omega) (by omega)).2.1) f hfm).1 s s0 (by omega)
    have h2 := hrr s s0 s1
    omega
  have hfr : ∀ s, 0 ≤ s → s < T 0 20 → f s ≤ rr s := fun s s0 s1 => ((wy_mem (T 0 20).toNat (fun i hi => (hrr i (by omega) (by omega)).2.1) f hfm).1 s s0 (by omega)).2
  -- the last off, and what comes of it
  have out : ∀ (i : Int) (S1 : St) (g : Int → Int), (0 ≤ i ∧ i < T 0 20) → Fr [99] [] S S1 → (∀ s, 0 ≤ s → s < T 0 20 → S1 99 s = g s) → (∀ s, 0 ≤ s → s < T 0 20 → -3 ≤ g s ∧ g s ≤ 3) → (∀ s, 0 ≤ s → s < T 0 20 → s ≤ i → g s = f s) → nxF rr (i + 1).toNat g = post.head? → (i = 0 ∨ ¬ g i = rr i) → Smm H_Walk_step 48 [some (.inr (.inr 95)), some (.inl i)] [] S1 Q := by
    intro i S1 g hi hF hg hgb hgf hx hz
    have hB1 := wkB_fr_o hB hF rfl
    have er : S1 98 i = rr i := by rw [hF.c 98 rfl]; exact (hrr i hi.1 hi.2).1
    have hri := (hrr i hi.1 hi.2).2
    have hgi := hgb i hi.1 hi.2
    have eo := hg i hi.1 hi.2
    have bi : 0 ≤ i ∧ i < 5 := by omega
    obtain ⟨k, hk⟩ : ∃ k : Nat, i = k := ⟨i.toNat, by omega⟩
    subst hk
    rw [show ((k : Int) + 1).toNat = k + 1 by omega, nxF] at hx
    have fin : ∀ v : Int, -3 ≤ v → v ≤ 3 → (post = [] ∨ ∃ post', post = uf g k v :: post') → ∀ Q' : Option AV → St → Prop, (∀ S', Q none S' → Q' none S') → Smm H_Walk_settle 0 [some (.inr (.inr 95)), some (.inl (k : Int)), none] [] (up S1 99 k v) Q' := by
      intro v v0 v1 hp Q' hq'
      have hF2 : Fr [99] [] S (up S1 99 k v) := hF.up _ _ _ rfl
      have hB2 := wkB_fr_o hB hF2 rfl
      have hof : ofOk (T 0 20) (uf g k v) := fun s s0 s1 => by
        rw [ufs]
        split
        · exact ⟨v0, v1⟩
        · exact hgb s s0 s1
      have hof1 : ofOk (T 0 20) f := hfb
      have hlow : ∀ s, 0 ≤ s → s < T 0 20 → s < (k : Int) → f s = uf g k v s := fun s s0 s1 s2 => by
        rw [uf_n _ _ (by omega)]
        exact (hgf s s0 s1 (by omega)).symm
      refine t_settle_o T _ (uf g k v) k _ hTo hB2 hof (by omega) (fun s s0 s1 => ?_) (fun s s0 s1 => ?_) (fun s s0 s1 => ?_) (fun x x0 x1 hu => ?_) (fun S3 hF3 hW3 => ?_)
      · rw [ufs]
        by_cases z : s = k
        · rw [z, up_s, if_pos rfl]
        · rw [up_n _ _ _ z, if_neg z]; exact hg s s0 s1
      · rw [hF2.c 100 rfl, hat s s0 (by omega)]
        exact sm_low hTo hlow s0 (by omega) s1
      · rw [hF2.c 100 rfl]; exact hrest s s0 s1
      · rw [hF2.c 101 rfl, htn x x0 x1]
        refine tn_dep hTo hB2.2.2.1 (sm_bd hTo hof1) (sm_bd hTo hof) (by omega) (fun s hs => ?_)
        have hs1 := hs.2.2.1
        exact sm_low hTo hlow (by omega) hs1 (by have := hu s hs; omega)
      · exact hq' S3 (hQ S3 (uf g k v) ((hF2.mo rfl rfl).tr (hF3.mo rfl rfl)) hW3 hp)
    refine sound ok_Walk_step [] 60 ?_
    refine ⟨fun z => absurd z (by omega), fun _ => ?_⟩
    refine ⟨bi, ?_⟩
    refine ⟨bi, ?_⟩
    refine ⟨fun z => ?_, fun z => ?_⟩
    · rw [er, eo] at z
      rw [if_neg z] at hx
      have ev : i32 (S1 99 k + 1) = g k + 1 := by rw [eo]; exact in32 hgi
      have hgk : g k = f k := hgf k hi.1 hi.2 (Int.le_refl _)
      have hfk := hfr k hi.1 hi.2
      have hle : g k + 1 ≤ 3 := by omega
      have hge : -3 ≤ g k + 1 := by omega
      have f1 := fin (g k + 1) hge hle (by
        cases hp : post with
        | nil => exact Or.inl rfl
        | cons a r =>
          rw [hp] at hx
          have : uf g k (g k + 1) = a := Option.some.inj hx
          exact Or.inr ⟨r, by rw [this]⟩)
      rw [← ev] at f1
      refine ⟨bi, ?_⟩
      refine ⟨bi, ?_⟩
      refine f1 _ (fun S' h => ?_)
      exact h
    · rw [er, eo] at z
      rw [if_pos z] at hx
      have hk0 : k = 0 := by
        rcases hz with y | y
        · omega
        · exact absurd z y
      have hpn : post = [] := by
        subst hk0
        rw [nxF] at hx
        cases hp : post with
        | nil => rfl
        | cons a r => rw [hp] at hx; cases hx
      have ev : i32 (-(S1 98 k)) = -rr k := by rw [er]; exact ne32 hri
      have f1 := fin (-rr k) (by have := hri.2; omega) (by have := hri.1; omega) (Or.inl hpn)
      rw [← ev] at f1
      refine ⟨bi, ?_⟩
      refine ⟨bi, ?_⟩
      refine f1 _ (fun S' h => ?_)
      exact h
  have loop : ∀ (i : Int) (q : St × (Int → Int)), ((0 ≤ i ∧ i < T 0 20) ∧ Fr [99] [] S q.1 ∧ (∀ s, 0 ≤ s → s < T 0 20 → q.1 99 s = q.2 s) ∧ (∀ s, 0 ≤ s → s < T 0 20 → -3 ≤ q.2 s ∧ q.2 s ≤ 3) ∧ (∀ s, 0 ≤ s → s < T 0 20 → s ≤ i → q.2 s = f s) ∧ nxF rr (i + 1).toNat q.2 = post.head?) → Smm H_Walk_step 10 [some (.inr (.inr 95)), some (.inl i)] [] q.1 Q := by
    refine lp_dn (P := fun i (q : St × (Int → Int)) => Smm H_Walk_step 10 [some (.inr (.inr 95)), some (.inl i)] [] q.1 Q) _ ?_ ?_
    · rintro i ⟨S1, g⟩ hi ⟨hi2, _⟩; omega
    · rintro i ⟨S1, g⟩ hi ⟨hi2, hF, hg, hgb, hgf, hx⟩ ih
      dsimp only at hF hg hgb hgf hx ih ⊢
      have er : S1 98 i = rr i := by rw [hF.c 98 rfl]; exact (hrr i hi2.1 hi2.2).1
      have eo := hg i hi2.1 hi2.2
      have bi : 0 ≤ i ∧ i < 5 := by omega
      have hri := (hrr i hi2.1 hi2.2).2
      refine sound ok_Walk_step [10, 48] 40 ?_
      refine ⟨fun z => out i S1 g hi2 hF hg hgb hgf hx (Or.inl (by omega)), fun z => ?_⟩
      refine ⟨bi, ?_⟩
      refine ⟨bi, ?_⟩
      refine ⟨fun z2 => out i S1 g hi2 hF hg hgb hgf hx (Or.inr (by rw [er, eo] at z2; exact z2)), fun z2 => ?_⟩
      rw [er, eo] at z2
      obtain ⟨k, hk⟩ : ∃ k : Nat, i = k := ⟨i.toNat, by omega⟩
      subst hk
      rw [show ((k : Int) + 1).toNat = k + 1 by omega, nxF, if_pos z2] at hx
      have ev : i32 (-(S1 98 k)) = -rr k := by rw [er]; exact ne32 hri
      have f1 := ih (up S1 99 k (-rr k), uf g k (-rr k)) ⟨by clear ev; omega, hF.up _ _ _ rfl, fun s s0 s1 => ?_, fun s s0 s1 => ?_, fun s s0 s1 s2 => ?_, ?_⟩
      · dsimp only at f1
        rw [← ev] at f1
        have e : (k : Int) - 1 = i32 ((k : Int) + -1) := (i32_id (by clear ev; omega) (by clear ev; omega)).symm
        refine ⟨bi, ?_⟩
        refine ⟨bi, ?_⟩
        exact Smm.sub f1 ⟨Or.inr rfl, Or.inr (sI e), trivial⟩
      · dsimp only
        rw [ufs]
        by_cases y : s = k
        · rw [y, up_s, if_pos rfl]
        · rw [up_n _ _ _ y, if_neg y]; exact hg s s0 s1
      · dsimp only
        rw [ufs]
        split
        · clear ev; omega
        · exact hgb s s0 s1
      · dsimp only
        rw [uf_n _ _ (by clear ev; omega)]
        exact hgf s s0 s1 (by clear ev; omega)
      · dsimp only
        rw [show ((k : Int) - 1 + 1).toNat = k by omega]
        exact hx
  have w1 : S 95 1 = 1 := hB.1
  have w3 : S 71 1 = T 0 20 := hB.2.1.1.2.1
  have go := loop (T 0 20 - 1) (S, f) ⟨by omega, Fr.rf _ _ _, hoff, hfb, fun _ _ _ _ => rfl, by rw [show T 0 20 - 1 + 1 = T 0 20 by omega]; exact hnx⟩
  have e : T 0 20 - 1 = i32 (S 71 1 - 1) := by rw [w3]; exact (i32_id (by omega) (by omega)).symm
  refine sound ok_Walk_step [10] 20 ?_
  refine ⟨fun z => absurd (w1.symm.trans z) (by decide), fun _ => ?_⟩
  exact Smm.sub go ⟨Or.inr rfl, Or.inr (sI e), trivial⟩
theorem t_isOpen_o (T S : St) (f : Int → Int) (Q : Option AV → St → Prop) (hT : mAs T) (hf : ofOk (T 0 20) f) (hW : wkI_o T S f) (h1 : ∀ S', Fr [103] [(102, 1)] S S' → opM T f = true → Q (some (.inl 1)) S') (h0 : ∀ S', Fr [103] [(102, 1)] S S' → opM T f = false → Q (some (.inl 0)) S') : Smm H_Walk_isOpen 0 [some (.inr (.inr 95))] [] S Q := by
  have hTo := hT.1
  have hk4 := hTo.2.1
  have hnd := hT.2.1
  obtain ⟨hB, hoff, hat, hrest, htn⟩ := hW
  have w1 : S 95 1 = 1 := hB.1
  obtain ⟨w, hw⟩ : ∃ w : Nat, T 0 19 = w := ⟨(T 0 19).toNat, by omega⟩
  obtain ⟨n, hn⟩ : ∃ n : Nat, T 0 21 = n := ⟨(T 0 21).toNat, by omega⟩
  have w2 : S 71 0 = w := by rw [← hw]; exact hB.2.1.1.1
  have hw4 : w ≤ 4 := by omega
  have hn24 : 2 ≤ n ∧ n ≤ 4 := by omega
  have htb : ∀ g, 0 ≤ g → g < (w : Int) → S 101 g = tnM T (smM T f) g ∧ (tnM T (smM T f) g = 1000000 ∨ (-1000 ≤ tnM T (smM T f) g ∧ tnM T (smM T f) g ≤ 1000)) := fun g g0 g1 => ⟨htn g g0 (by omega), tnM_b hTo hf g0 (by omega)⟩
  have hga : gaF (S 101) (fun k => decide (¬ k = -1 ∧ ¬ k = -1)) w = gaF (tnM T (smM T f)) (fun _ => true) w := gaF_congr w (fun j j0 j1 => ⟨decide_eq_true (by omega), fun _ => (htb j j0 j1).1⟩)
  have hap : wmF n (gaF (tnM T (smM T f)) (fun _ => true) w) (gaF (tnM T (smM T f)) (fun _ => true) w).length = apM T f := by
    unfold apM
    rw [hn, show (T 0 19).toNat = w by omega, ap_row (by omega) (fun j j0 j1 => by have := (htb j j0 j1).2; omega)]
    rfl
  have hgl := gaF_len (tnM T (smM T f)) (fun _ => true) w
  have hgm : ∀ x ∈ gaF (tnM T (smM T f)) (fun _ => true) w, -5000 ≤ x ∧ x ≤ 5000 := fun x hx => by
    obtain ⟨j, j1, _, j3, j4⟩ := (gaF_mem w x).mp hx
    have := (htb j (by omega) (by omega)).2
    rw [j4]; omega
  have go1 : ∀ Q' : Option AV → St → Prop, (∀ S', Fr [103] [(102, 1)] S S' → rwI 102 103 S' (gaF (tnM T (smM T f)) (fun _ => true) w) → Q' none S') → Smm H_Row_gather 0 [some (.inr (.inr 102)), some (.inr (.inr 101)), some (.inl (w : Int)), some (.inl (-1)), some (.inl (-1)), none] [] S Q' := by
    intro Q' hq'
    refine t_gather_w S w (-1) (-1) Q' hw4 (fun S' hF hr => hq' S' hF ?_)
    rw [← hga]; exact hr
  rw [← w2] at go1
  refine sound ok_Walk_isOpen [] 60 ?_
  refine ⟨fun z => absurd (w1.symm.trans z) (by decide), fun _ => ?_⟩
  refine go1 _ (fun S1 hF1 hr => ?_)
  have hB1 := wkB_fr_o hB hF1 rfl
  have w5 : S1 95 1 = 1 := hB1.1
  have w6 : S1 71 4 = n := by rw [← hn]; exact hB1.2.1.1.2.2.1
  have w7 : S1 71 5 = T 0 22 := hB1.2.1.1.2.2.2.1
  have go2 : ∀ Q' : Option AV → St → Prop, Q' (some (.inl (apM T f))) S1 → Smm H_Row_spread 0 [some (.inr (.inr 102)), some (.inl (n : Int)), none, none] [] S1 Q' := by
    intro Q' hq'
    refine t_spread_w S1 _ n Q' hr (by omega) hgm hn24 ?_
    rw [hap]; exact hq'
  rw [← w6] at go2
  refine ⟨fun z => absurd (w5.symm.trans z) (by decide), fun _ => ?_⟩
  refine go2 _ ?_
  refine ⟨fun z => absurd (w5.symm.trans z) (by decide), fun _ => ?_⟩
  refine ⟨fun z => ⟨Or.inl rfl, h0 S1 hF1 ?_⟩, fun z => ⟨Or.inr rfl, h1 S1 hF1 ?_⟩⟩
  · rw [w7] at z
    exact decide_eq_false (Int.not_le.mpr z)
  · rw [w7] at z
    exact decide_eq_true z
