/-! a land read -/
set_option maxHeartbeats 2000000 in
theorem t_ldClear (S : St) (Q : Option AV → St → Prop) (hQ : ∀ S', Fr [54] [(47, 0), (47, 1), (47, 2), (47, 3), (47, 4), (47, 5), (47, 6), (47, 7)] S S' → dR p0 S' → Q none S') : Smm H_Land_clear 0 [some (.inr (.inr 47)), none] [] S Q := by
  have loop : ∀ (i : Int) (S1 : St), ((0 ≤ i ∧ i ≤ 20) ∧ Fr [54] [(47, 0), (47, 1), (47, 2), (47, 3), (47, 4), (47, 5), (47, 6), (47, 7)] S S1 ∧ (S1 47 0 = 0 ∧ S1 47 1 = 0 ∧ S1 47 2 = 0 ∧ S1 47 3 = 0 ∧ S1 47 4 = 2 ∧ S1 47 5 = 1 ∧ S1 47 6 = 0 ∧ S1 47 7 = 0) ∧ ∀ j, 0 ≤ j → j < i → S1 54 j = 2000000) → Smm H_Land_clear 52 [some (.inr (.inr 47)), some (.inl i)] [] S1 Q := by
    refine lp_up (P := fun i S1 => Smm H_Land_clear 52 [some (.inr (.inr 47)), some (.inl i)] [] S1 Q) _ 20 ?_ ?_
    · rintro i S1 hi ⟨hi2, hF, ⟨d0, d1, d2, d3, d4, d5, d6, d7⟩, dd⟩
      refine sound ok_Land_clear [52] 20 ?_
      refine ⟨fun _ => ?_, fun z => absurd z (by omega)⟩
      refine hQ S1 hF ⟨⟨d0, d1, d2, d3, d4, d5, d7⟩, Or.inl ⟨d6, ?_⟩, fun g g0 g1 => absurd g1 (by show ¬ g < 0; omega), fun s s0 s1 => absurd s1 (by show ¬ s < 0; omega), fun j j0 j1 => ?_⟩
      · rintro ⟨h, k, k0, k1, k2, _⟩
        have : h < 0 := k2
        omega
      · rw [dd j j0 (by omega)]
        rfl
    · rintro i S1 hi ⟨hi2, hF, ⟨d0, d1, d2, d3, d4, d5, d6, d7⟩, dd⟩ ih
      have hng : ¬ 20 ≤ i := by omega
      have hix : 0 ≤ i ∧ i < 20 := by omega
      have hi4 : 0 ≤ i + 1 ∧ i + 1 ≤ 20 := by omega
      have hF2 : Fr [54] [] S1 (up S1 54 i 2000000) := (Fr.rf _ _ _).up _ _ _ rfl
      have hnew : ∀ j, 0 ≤ j → j < i + 1 → up S1 54 i 2000000 54 j = 2000000 := fun j j0 j1 => by
        by_cases z : j = i
        · rw [z, up_s]
        · rw [up_n _ _ _ z]; exact dd j j0 (by omega)
      have e : i + 1 = i32 (i + 1) := (i32_id (by omega) (by omega)).symm
      refine sound ok_Land_clear [52] 20 ?_
      refine ⟨fun z => absurd z hng, fun _ => ?_⟩
      refine ⟨hix, ?_⟩
      refine Smm.sub (ih (up S1 54 i 2000000) ⟨hi4, hF.tr (hF2.mo rfl rfl), ?_, hnew⟩) ⟨Or.inr rfl, Or.inr (sI e), trivial⟩
      rw [hF2.c 47 rfl]
      exact ⟨d0, d1, d2, d3, d4, d5, d6, d7⟩
  have c4 : cst 0 12 = 2 := by decide
  have c5 : cst 0 13 = 1 := by decide
  have go := loop 0 (up (up (up (up (up (up (up (up S 47 0 0) 47 1 0) 47 2 0) 47 3 0) 47 4 (cst 0 12)) 47 5 (cst 0 13)) 47 6 0) 47 7 0) ⟨by omega, ((((((((Fr.rf _ _ _).up _ _ _ rfl).up _ _ _ rfl).up _ _ _ rfl).up _ _ _ rfl).up _ _ _ rfl).up _ _ _ rfl).up _ _ _ rfl).up _ _ _ rfl, by simp [upr, c4, c5], fun j j0 j1 => absurd j1 (by omega)⟩
  refine sound ok_Land_clear [52] 40 ?_
  refine ⟨by decide, ?_⟩
  refine ⟨by decide, ?_⟩
  refine ⟨Or.inl rfl, ?_⟩
  exact go
theorem d5x {j : Int} (h : 0 ≤ j ∧ j < 20) : idiv j 5 = j / 5 ∧ irem j 5 = j % 5 := ⟨idiv_pos h.1 (by omega) (by omega) (by omega), irem_pos h.1 (by omega) (by omega) (by omega)⟩
set_option maxHeartbeats 2000000 in
theorem t_isWhole (S : St) (p : PS) (Q : Option AV → St → Prop) (h : dR p S) (hp : okP p) (h1 : whP p → Q (some (.inl 1)) S) (h0 : ¬ whP p → Q (some (.inl 0)) S) : Smm H_Land_isWhole 0 [some (.inr (.inr 47)), none, none] [] S Q := by
  obtain ⟨⟨ng, ns, ne, nb⟩, G, Sg, E, nd, br⟩ := p
  obtain ⟨⟨c1, c2, c3, c4, c5, c6, c7, c8, c9⟩, hG, hSg, hE, hN⟩ := hp
  obtain ⟨⟨d0, d1, d2, d3, d4, d5, d7⟩, d6, dg, ds, dd⟩ := h
  unfold whP at h1 h0
  unfold twP at d6
  dsimp only at *
  have hlt := fun j => ltF_h (E := E) (j := j) ne.toNat (fun k k0 k1 => (hE k k0 (by omega)).2.2)
  -- all places named are told
  have ploop : ¬ (∃ h k, 0 ≤ k ∧ k < h ∧ h < ne ∧ E (3 * k) = E (3 * h) ∧ E (3 * k + 1) = E (3 * h + 1)) → 2 ≤ ng → 1 ≤ ns → (∀ s, 0 ≤ s → s < ns → 0 ≤ Sg (4 * s + 2) → Sg (4 * s + 3) < ng) → ∀ (j : Int) (x : Option AV), ((0 ≤ j ∧ j ≤ 20) ∧ ∀ i, 0 ≤ i → i < j → ¬ (i / 5 < ng ∧ i % 5 < ns) → S 54 i = 2000000) → Smm H_Land_isWhole 67 [some (.inr (.inr 47)), some (.inl j), x] [] S Q := by
    intro hnt hg2 hs1 hsnd
    refine lp_up (P := fun j (x : Option AV) => Smm H_Land_isWhole 67 [some (.inr (.inr 47)), some (.inl j), x] [] S Q) (fun j _ => (0 ≤ j ∧ j ≤ 20) ∧ ∀ i, 0 ≤ i → i < j → ¬ (i / 5 < ng ∧ i % 5 < ns) → S 54 i = 2000000) 20 ?_ ?_
    · rintro j x hj ⟨hj2, d⟩
      refine sound ok_Land_isWhole [67] 20 ?_
      refine ⟨fun _ => ⟨Or.inr rfl, h1 ⟨hg2, hs1, hsnd, fun h h0 hh => ?_⟩⟩, fun z => absurd z (by omega)⟩
      have hb := hE h h0 hh
      have hne : ¬ S 54 (5 * E (3 * h + 1) + E (3 * h)) = 2000000 := by
        rw [dd _ (by omega) (by omega)]
        rcases hlt (5 * E (3 * h + 1) + E (3 * h)) with ⟨l1, l2⟩ | ⟨l1, l2⟩
        · exact absurd rfl (l2 h h0 (by omega))
        · rw [dl_id l1.1]; omega
      have htold : (5 * E (3 * h + 1) + E (3 * h)) / 5 < ng ∧ (5 * E (3 * h + 1) + E (3 * h)) % 5 < ns := by
        by_cases y : (5 * E (3 * h + 1) + E (3 * h)) / 5 < ng ∧ (5 * E (3 * h + 1) + E (3 * h)) % 5 < ns
        · exact y
        · exact absurd (d _ (by omega) (by omega) y) hne
      refine ⟨by omega, by omega, fun k k0 k1 q => hnt ⟨h, k, k0, k1, hh, q.1, q.2⟩⟩
    · rintro j x hj ⟨hj2, d⟩ ih
      have hng : ¬ 20 ≤ j := by omega
      have hjx : 0 ≤ j ∧ j < 20 := by omega
      have hj3 : 0 ≤ j + 1 ∧ j + 1 ≤ 20 := by omega
      obtain ⟨e1, e2⟩ := d5x hjx
      have e : j + 1 = i32 (j + 1) := (i32_id (by clear e1 e2; omega) (by clear e1 e2; omega)).symm
      have next : ∀ y : Int, (¬ (j / 5 < ng ∧ j % 5 < ns) → S 54 j = 2000000) → Smm H_Land_isWhole 119 [some (.inr (.inr 47)), some (.inl j), some (.inl y)] [] S Q := by
        intro y hy
        refine sound ok_Land_isWhole [67] 20 ?_
        refine Smm.sub (ih (some (.inl y)) ⟨hj3, fun i i0 i1 hi => ?_⟩) ⟨Or.inr rfl, Or.inr (sI e), Or.inr rfl, trivial⟩
        by_cases z : i = j
        · rw [z] at hi ⊢; exact hy hi
        · exact d i i0 (by clear e e1 e2; omega) hi
      have check : ∀ b : Int, (b = 0 ∧ ¬ (j / 5 < ng ∧ j % 5 < ns)) ∨ (b = 1 ∧ (j / 5 < ng ∧ j % 5 < ns)) → Smm H_Land_isWhole 101 [some (.inr (.inr 47)), some (.inl j), x] [.inl b] S Q := by
        intro b hb
        refine sound ok_Land_isWhole [119] 20 ?_
        refine ⟨fun z => ?_, fun z => ?_⟩
        · refine next b (fun q => ?_)
          rcases hb with hb | hb
          · exact absurd hb.1 z
          · exact absurd hb.2 q
        · have hnt2 : ¬ (j / 5 < ng ∧ j % 5 < ns) := by
            rcases hb with hb | hb
            · exact hb.2
            · rw [hb.1] at z; exact absurd z (by decide)
          refine ⟨hjx, ?_⟩
          refine ⟨fun y => next b (fun _ => y), fun y => ⟨Or.inl rfl, h0 (fun w => ?_)⟩⟩
          obtain ⟨_, _, _, w4⟩ := w
          have hdj := dd j hjx.1 hjx.2
          rcases hlt j with ⟨l1, l2⟩ | ⟨l1, k, k0, k1, l2⟩
          · rw [l1] at hdj
            exact y (by rw [hdj]; rfl)
          · have hw := w4 k k0 (by clear e e1 e2; omega)
            have hb2 := hE k k0 (by clear e e1 e2; omega)
            refine hnt2 ⟨?_, ?_⟩
            · clear e e1 e2; omega
            · clear e e1 e2; omega
      refine sound ok_Land_isWhole [101] 40 ?_
      refine ⟨fun z => absurd z hng, fun _ => ?_⟩
      refine ⟨by decide, ?_⟩
      refine ⟨fun z => ?_, fun z => ?_⟩
      · rw [e1, d0] at z
        exact check 0 (Or.inl ⟨rfl, fun q => absurd q.1 (by clear e e1 e2; omega)⟩)
      · rw [e1, d0] at z
        refine ⟨by decide, ?_⟩
        refine ⟨fun y => ?_, fun y => ?_⟩
        · rw [e2, d1] at y
          exact check 0 (Or.inl ⟨rfl, fun q => absurd q.2 (by clear e e1 e2; omega)⟩)
        · rw [e2, d1] at y
          exact check 1 (Or.inr ⟨rfl, z, y⟩)
  have sloop : ¬ (∃ h k, 0 ≤ k ∧ k < h ∧ h < ne ∧ E (3 * k) = E (3 * h) ∧ E (3 * k + 1) = E (3 * h + 1)) → 2 ≤ ng → 1 ≤ ns → ∀ (s : Int) (_ : Unit), ((0 ≤ s ∧ s ≤ ns) ∧ ∀ i, 0 ≤ i → i < s → 0 ≤ Sg (4 * i + 2) → Sg (4 * i + 3) < ng) → Smm H_Land_isWhole 27 [some (.inr (.inr 47)), some (.inl s), none] [] S Q := by
    intro hnt hg2 hs1
    refine lp_up (P := fun s _ => Smm H_Land_isWhole 27 [some (.inr (.inr 47)), some (.inl s), none] [] S Q) _ ns ?_ ?_
    · rintro s - hs ⟨hs2, d⟩
      refine sound ok_Land_isWhole [27, 67] 20 ?_
      refine ⟨fun _ => ?_, fun z => absurd z (by rw [d1]; omega)⟩
      exact ploop hnt hg2 hs1 (fun i i0 i1 hi => d i i0 (by omega) hi) 0 none ⟨by omega, fun i i0 i1 => absurd i1 (by omega)⟩
    · rintro s - hs ⟨hs2, d⟩ ih
      have hng : ¬ S 47 1 ≤ s := by rw [d1]; omega
      have hsx : 0 ≤ s ∧ s < 5 := by omega
      have hs3 : 0 ≤ s + 1 ∧ s + 1 ≤ ns := by omega
      obtain ⟨a1, a2, a3, a4⟩ := ds s hs2.1 hs
      have e : s + 1 = i32 (s + 1) := (i32_id (by omega) (by omega)).symm
      have next : (0 ≤ Sg (4 * s + 2) → Sg (4 * s + 3) < ng) → Smm H_Land_isWhole 59 [some (.inr (.inr 47)), some (.inl s), none] [] S Q := by
        intro hy
        refine sound ok_Land_isWhole [27] 20 ?_
        refine Smm.sub (ih () ⟨hs3, fun i i0 i1 hi => ?_⟩) ⟨Or.inr rfl, Or.inr (sI e), Or.inr rfl, trivial⟩
        by_cases z : i = s
        · rw [z] at hi ⊢; exact hy hi
        · exact d i i0 (by clear e; omega) hi
      refine sound ok_Land_isWhole [59] 40 ?_
      refine ⟨fun z => absurd z hng, fun _ => ?_⟩
      refine ⟨hsx, ?_⟩
      refine ⟨fun z => next (fun q => absurd q (by rw [a3] at z; clear e; omega)), fun z => ?_⟩
      refine ⟨hsx, ?_⟩
      refine ⟨fun y => next (fun _ => by rw [a4, d0] at y; exact y), fun y => ⟨Or.inl rfl, h0 (fun w => ?_)⟩⟩
      rw [a3] at z
      rw [a4, d0] at y
      have := w.2.2.1 s hs2.1 hs z
      clear e
      omega
  refine sound ok_Land_isWhole [27] 40 ?_
  refine ⟨fun z => ⟨Or.inl rfl, h0 (fun w => absurd w.1 (by rw [d0] at z; omega))⟩, fun z => ?_⟩
  refine ⟨fun y => ⟨Or.inl rfl, h0 (fun w => absurd w.2.1 (by rw [d1] at y; omega))⟩, fun y => ?_⟩
  refine ⟨fun x => ?_, fun x => ⟨Or.inl rfl, h0 (fun w => ?_)⟩⟩
  · rw [d0] at z
    rw [d1] at y
    refine sloop ?_ z y 0 () ⟨by omega, fun i i0 i1 => absurd i1 (by omega)⟩
    rcases d6 with q | q
    · exact q.2
    · rw [q.1] at x; exact absurd x (by decide)
  · rcases d6 with q | q
    · exact x q.1
    · obtain ⟨h, k, k0, k1, k2, q1, q2⟩ := q.2
      exact (w.2.2.2 h (by omega) k2).2.2 k k0 k1 ⟨q1, q2⟩
set_option maxHeartbeats 4000000 in
theorem t_ldRead (S : St) (Q : Option AV → St → Prop) (hT : tpX S) (hQ : ∀ S', Fr [46, 48, 49, 50, 51, 52, 53, 54] [(43, 2), (43, 3), (47, 0), (47, 1), (47, 2), (47, 3), (47, 4), (47, 5), (47, 6), (47, 7)] S S' → (lwW (S 44) (S 43 1) = -1 → dR (rdP (S 44) (S 43 1)).2 S') → Q (some (.inl (lwW (S 44) (S 43 1)))) S') : Smm H_LandReader_read 0 [some (.inr (.inr 45)), none] [] S Q := by
  have hn := hT.1
  obtain ⟨t, ht⟩ : ∃ t, S 44 = t := ⟨_, rfl⟩
  obtain ⟨n, hnn⟩ : ∃ n, S 43 1 = n := ⟨_, rfl⟩
  rw [ht, hnn] at hQ
  rw [hnn] at hn
  have hend : ∀ (S1 : St) (x1 : Option AV) (p : PS), Fr [46, 48, 49, 50, 51, 52, 53, 54] [(43, 2), (43, 3), (47, 0), (47, 1), (47, 2), (47, 3), (47, 4), (47, 5), (47, 6), (47, 7)] S S1 → S1 43 3 = (rdP t n).1 → p = (rdP t n).2 → dR p S1 → okP p → Smm H_LandReader_read 72 [some (.inr (.inr 45)), x1] [] S1 Q := by
    intro S1 x1 p hF hw hp hd hok
    have e1 : S1 43 1 = n := by rw [hF.s 43 1 rfl]; exact hnn
    have hq := hQ
    unfold lwW at hq
    rw [← hp, ← hw] at hq
    refine sound ok_LandReader_read [] 40 ?_
    refine t_isWhole S1 p _ hd hok (fun hz => ?_) (fun hz => ?_)
    · refine ⟨fun _ => ?_, fun z => absurd z (by decide)⟩
      rw [if_pos hz] at hq
      have := hq S1 hF (fun _ => hd)
      by_cases y : S1 43 3 = -1
      · rw [if_pos y, ← y] at this
        exact this
      · rw [if_neg y] at this
        exact this
    · refine ⟨fun z => absurd rfl z, fun _ => ?_⟩
      rw [if_neg hz] at hq
      refine t_xFail S1 _ _ (fun y => ?_) (fun y => ?_)
      · rw [if_pos y] at hq
        have hF2 : Fr [46, 48, 49, 50, 51, 52, 53, 54] [(43, 2), (43, 3), (47, 0), (47, 1), (47, 2), (47, 3), (47, 4), (47, 5), (47, 6), (47, 7)] S (up S1 43 3 (S1 43 1)) := hF.up _ _ _ rfl
        have := hq _ hF2 (fun z => absurd z (by omega))
        have e3 : up S1 43 3 (S1 43 1) 43 3 = n := by rw [up_s]; exact e1
        rw [← e3] at this
        exact this
      · rw [if_neg y] at hq
        exact hq S1 hF (fun z => absurd z y)
  have loop : ∀ (d i : Nat) (S1 : St) (R : Int × Int × PS), Fr [46, 48, 49, 50, 51, 52, 53, 54] [(43, 2), (43, 3), (47, 0), (47, 1), (47, 2), (47, 3), (47, 4), (47, 5), (47, 6), (47, 7)] S S1 → S1 43 2 = R.1 → S1 43 3 = R.2.1 → dR R.2.2 S1 → okP R.2.2 → 0 ≤ R.1 → R.1 ≤ n → -1 ≤ R.2.1 → (R.2.1 = -1 → sk t n R.1 = R.1) → (i : Int) ≤ R.1 → n - R.1 ≤ d → rdP t n = (if R.2.1 = -1 then (if ch t n R.1 = 59 then ldP t n d (R.1 + 1) R.2.2 else (-1, R.2.2)) else (R.2.1, R.2.2)) → Smm H_LandReader_read 20 [some (.inr (.inr 45)), some (.inl (i : Int))] [] S1 Q := by
    intro d
    induction d with
    | zero =>
      rintro i S1 ⟨A, W, p⟩ hF a2 a3 hd hok h0 hA hW hs hi hdn hr
      dsimp only at *
      have hAn : A = n := by omega
      have hch : ¬ ch t n A = 59 := by unfold ch; rw [if_neg (by omega)]; decide
      rw [if_neg hch] at hr
      have eT : S1 44 = t := by rw [hF.c 44 rfl]; exact ht
      have eN : S1 43 1 = n := by rw [hF.s 43 1 rfl]; exact hnn
      refine sound ok_LandReader_read [20, 72] 40 ?_
      have hex : ∀ S2, Fr [46, 48, 49, 50, 51, 52, 53, 54] [(43, 2), (43, 3), (47, 0), (47, 1), (47, 2), (47, 3), (47, 4), (47, 5), (47, 6), (47, 7)] S S2 → S2 43 3 = W → dR p S2 → Smm H_LandReader_read 72 [some (.inr (.inr 45)), some (.inl (i : Int))] [] S2 Q := fun S2 hF2 b3 hd2 => by
        refine hend S2 _ p hF2 ?_ ?_ hd2 hok
        · rw [b3, hr]; by_cases y : W = -1
          · rw [if_pos y]; exact y
          · rw [if_neg y]
        · rw [hr]; split <;> rfl
      refine ⟨fun _ => hex S1 hF a3 hd, fun _ => ?_⟩
      refine t_xFine S1 _ (fun y => ?_) (fun y => ⟨fun _ => hex S1 hF a3 hd, fun z => absurd rfl z⟩)
      refine ⟨fun z => absurd z (by decide), fun _ => ?_⟩
      rw [a3] at y
      have go := fun Q' hq' => t_xNext S1 Q' (by rw [a2]; exact h0) (by rw [eN]; omega) hq'
      rw [eT, eN, a2, hs y] at go
      refine go _ ?_
      have hF2 : Fr [] [(43, 2)] S1 (up S1 43 2 A) := (Fr.rf _ _ _).up _ _ _ rfl
      exact ⟨fun _ => hex _ (hF.tr (hF2.mo rfl rfl)) (by rw [hF2.s 43 3 rfl]; exact a3) (dR_fr hd hF2 rfl), fun z => absurd z hch⟩
    | succ d ih =>
      rintro i S1 ⟨A, W, p⟩ hF a2 a3 hd hok h0 hA hW hs hi hdn hr
      dsimp only at *
      have eT : S1 44 = t := by rw [hF.c 44 rfl]; exact ht
      have eN : S1 43 1 = n := by rw [hF.s 43 1 rfl]; exact hnn
      refine sound ok_LandReader_read [20, 72] 40 ?_
      have hex : ∀ S2, (W = -1 → ¬ ch t n A = 59) → Fr [46, 48, 49, 50, 51, 52, 53, 54] [(43, 2), (43, 3), (47, 0), (47, 1), (47, 2), (47, 3), (47, 4), (47, 5), (47, 6), (47, 7)] S S2 → S2 43 3 = W → dR p S2 → Smm H_LandReader_read 72 [some (.inr (.inr 45)), some (.inl (i : Int))] [] S2 Q := fun S2 hne hF2 b3 hd2 => by
        refine hend S2 _ p hF2 ?_ ?_ hd2 hok
        · rw [b3, hr]; by_cases y : W = -1
          · rw [if_pos y, if_neg (hne y)]; exact y
          · rw [if_neg y]
        · rw [hr]; by_cases y : W = -1
          · rw [if_pos y, if_neg (hne y)]
          · rw [if_neg y]
      refine ⟨fun z => hex S1 (fun y => ?_) hF a3 hd, fun _ => ?_⟩
      · unfold ch
        rw [if_neg (by omega)]
        decide
      refine t_xFine S1 _ (fun y => ?_) (fun y => ⟨fun _ => hex S1 (fun q => absurd (a3.trans q) y) hF a3 hd, fun z => absurd rfl z⟩)
      refine ⟨fun z => absurd z (by decide), fun _ => ?_⟩
      rw [a3] at y
      have go := fun Q' hq' => t_xNext S1 Q' (by rw [a2]; exact h0) (by rw [eN]; omega) hq'
      rw [eT, eN, a2, hs y] at go
      refine go _ ?_
      have hF2 : Fr [] [(43, 2)] S1 (up S1 43 2 A) := (Fr.rf _ _ _).up _ _ _ rfl
      refine ⟨fun z => hex _ (fun _ => z) (hF.tr (hF2.mo rfl rfl)) (by rw [hF2.s 43 3 rfl]; exact a3) (dR_fr hd hF2 rfl), fun z => ?_⟩
      have hAn : A < n := by
        by_cases q : A < n
        · exact q
        · exfalso
          unfold ch at z
          rw [if_neg q] at z
          exact absurd z (by decide)
      rw [if_pos y, if_pos z] at hr
      have ea : up S1 43 2 A 43 2 = A := up_s _ _ _ _
      have ep : i32 (up S1 43 2 A 43 2 + 1) = A + 1 := by rw [ea]; exact i32_id (by omega) (by omega)
      have hF3 : Fr [] [(43, 2)] S1 (up (up S1 43 2 A) 43 2 (A + 1)) := hF2.up _ _ _ rfl
      have hFS3 : Fr [46, 48, 49, 50, 51, 52, 53, 54] [(43, 2), (43, 3), (47, 0), (47, 1), (47, 2), (47, 3), (47, 4), (47, 5), (47, 6), (47, 7)] S (up (up S1 43 2 A) 43 2 (A + 1)) := hF.tr (hF3.mo rfl rfl)
      have gT : up (up S1 43 2 A) 43 2 (A + 1) 44 = t := by rw [hF3.c 44 rfl]; exact eT
      have gN : up (up S1 43 2 A) 43 2 (A + 1) 43 1 = n := by rw [hF3.s 43 1 rfl]; exact eN
      have hck := clP_ok (t := t) (n := n) (a := A + 1) (p := p) (by clear ep; omega) (by clear ep; omega) hok
      have goC := fun Q' hq' => t_readClause (up (up S1 43 2 A) 43 2 (A + 1)) p (A + 1) Q' (tp_fr hT hFS3 rfl rfl) (up_s _ _ _ _) (by clear ep; omega) (by rw [gN]; clear ep; omega) (by rw [hF3.s 43 3 rfl, a3]; exact y) (dR_fr hd hF3 rfl) hok hq'
      rw [gT, gN, ← ep] at goC
      have e : ((i + 1 : Nat) : Int) = i32 ((i : Int) + 1) := i32_s (by clear ep; omega)
      refine goC _ (fun S4 hF4 b2 b3 hd4 => ?_)
      rw [ep] at b2 b3 hd4 hF4
      clear ep goC
      refine Smm.sub (ih (i + 1) S4 (clP t n (A + 1) p) (hFS3.tr (hF4.mo rfl rfl)) b2 b3 hd4 hck.1 (by clear e; omega) hck.2.1.2 hck.2.2.1 (fun q => (hck.2.2.2 q).2.2) (by clear e; omega) (by clear e; omega) ?_) ⟨Or.inr rfl, Or.inr (sI e), trivial⟩
      rw [hr, ldP]
  refine sound ok_LandReader_read [20] 40 ?_
  refine t_xRewind S _ ?_
  refine t_ldClear _ _ (fun S2 hF2 hd2 => ?_)
  have hF1 : Fr [] [(43, 2), (43, 3)] S (up (up S 43 2 0) 43 3 (-1)) := ((Fr.rf _ _ _).up _ _ _ rfl).up _ _ _ rfl
  have hFS2 : Fr [46, 48, 49, 50, 51, 52, 53, 54] [(43, 2), (43, 3), (47, 0), (47, 1), (47, 2), (47, 3), (47, 4), (47, 5), (47, 6), (47, 7)] S S2 := (hF1.mo rfl rfl).tr (hF2.mo rfl rfl)
  have eT : S2 44 = t := by rw [hFS2.c 44 rfl]; exact ht
  have eN : S2 43 1 = n := by rw [hFS2.s 43 1 rfl]; exact hnn
  have hck := clP_ok (t := t) (n := n) (a := 0) (p := p0) (by omega) (by omega) okP_0
  have goC := fun Q' hq' => t_readClause S2 p0 0 Q' (tp_fr hT hFS2 rfl rfl) (by rw [hF2.c 43 rfl, up_n _ _ _ (by decide), up_s]) (by omega) (by rw [eN]; omega) (by rw [hF2.c 43 rfl, up_s]) hd2 okP_0 hq'
  rw [eT, eN] at goC
  refine goC _ (fun S3 hF3 b2 b3 hd3 => ?_)
  obtain ⟨m, hm⟩ : ∃ m : Nat, n = m := ⟨n.toNat, by omega⟩
  refine loop m 0 S3 (clP t n 0 p0) (hFS2.tr (hF3.mo rfl rfl)) b2 b3 hd3 hck.1 (by omega) hck.2.1.2 hck.2.2.1 (fun q => (hck.2.2.2 q).2.2) (by omega) (by omega) ?_
  unfold rdP
  rw [show (n + 1).toNat = m + 1 by omega, ldP]
