/-! the class: lies, route, offs told by digits -/
theorem lsS_e {T : St} {a : Int} {f : Int → Int} (ha : 0 ≤ a) (hm : 0 ≤ mfM T f) : lsS T a f = if ((bcF 30 (mfM T f).toNat : Nat) : Int) - ((bcF 30 a.toNat : Nat) : Int) < 0 ∨ (((bcF 30 (mfM T f).toNat : Nat) : Int) - ((bcF 30 a.toNat : Nat) : Int) = 0 ∧ mfM T f < a) then mfM T f else a := by
  unfold lsS
  have : (a < 0 ∨ bcF 30 (mfM T f).toNat < bcF 30 a.toNat ∨ (bcF 30 (mfM T f).toNat = bcF 30 a.toNat ∧ mfM T f < a)) ↔ (((bcF 30 (mfM T f).toNat : Nat) : Int) - ((bcF 30 a.toNat : Nat) : Int) < 0 ∨ (((bcF 30 (mfM T f).toNat : Nat) : Int) - ((bcF 30 a.toNat : Nat) : Int) = 0 ∧ mfM T f < a)) := by omega
  simp only [this]
theorem one_sc {n : Nat} (h : n ≤ 10) : i32 (ishl 1 (n : Int) - 1) = ((2 ^ n - 1 : Nat) : Int) := by
  have hp : 1 ≤ 2 ^ n := Nat.one_le_two_pow
  have hp2 : 2 ^ n ≤ 2 ^ 10 := Nat.pow_le_pow_right (by omega) h
  rw [ishl_nat (by omega), i32_id (by omega) (by omega)]
  omega
set_option maxHeartbeats 2000000 in
theorem t_X_lies (R S : St) (Q : Option AV → St → Prop) (h : Rel R S) (hQ : ∀ S', Xs S S' → Rel R S' → Q (some (.inl (aM_lies R))) S') : Smm H_X_lies 0 [some (.inr (.inr 40)), none, none, none, none, none] [] S Q := by
  have no : R 0 18 = 0 → Q (some (.inl (-1))) S := fun hz => by
    have := hQ S (Xs.rf S) h
    unfold aM_lies at this
    rwa [if_pos hz] at this
  refine sound ok_X_lies [49] 80 ?_
  refine t_told R S _ h.1 (fun h1 => ⟨fun _ => ?_, fun z => absurd z (by decide)⟩) (fun h1 => ⟨fun z => absurd rfl z, fun _ => no h1⟩)
  unfold aM_lies at hQ
  rw [if_neg h1] at hQ
  obtain ⟨hl0, hp, hT, hR, hP, hpo⟩ := h.1.land h1
  obtain ⟨hS, hSR⟩ := h.sc
  have hs5 := hl0.2.1
  have hn5 := hT.1.1.1
  have p20 : tl R 0 20 = R 0 20 := tl_0 R (by decide) (by decide)
  have hsc := hS.1
  obtain ⟨n, hn⟩ : ∃ n : Nat, tl R 0 49 = n := ⟨(tl R 0 49).toNat, by omega⟩
  have hp2 : 2 ^ n ≤ 2 ^ 10 := Nat.pow_le_pow_right (by omega) (by omega)
  refine t_scratched (tl R) S _ (by rw [p20]; omega) hS hSR (fun xa hxa hA => ?_)
  refine t_start_lb (tl R) S xa _ hT hR hP hpo hxa (fun S1 y hF1 hy hW1 hr1 hg1 => ?_)
  have hRel1 : Rel R S1 := h.fr hF1 rfl rfl
  obtain ⟨g1, g2, g3, g4⟩ := wX_b hT y
  rw [← ls_X hT hW1.1.2.2.1 hy hS hA hn] at hQ
  have loop : ∀ (post pre : List (Int → Int)) (f : Int → Int) (q : St × Int × Int × Option AV × Option AV), wyX (tl R) y = pre ++ f :: post → (Fr [61, 62, 99, 100, 101] [] S1 q.1 ∧ wkI_l (tl R) q.1 f ∧ q.2.1 = pre.foldl (lsS (tl R)) ((2 ^ n - 1 : Nat) : Int) ∧ q.2.2.1 = pre.length) → Smm H_X_lies 49 [some (.inr (.inr 40)), some (.inl ((wyX (tl R) y).length : Int)), some (.inl q.2.1), some (.inl q.2.2.1), q.2.2.2.1, q.2.2.2.2] [] q.1 Q := by
    refine lp_wy (P := fun _ (q : St × Int × Int × Option AV × Option AV) => Smm H_X_lies 49 [some (.inr (.inr 40)), some (.inl ((wyX (tl R) y).length : Int)), some (.inl q.2.1), some (.inl q.2.2.1), q.2.2.2.1, q.2.2.2.2] [] q.1 Q) (fun pre f q => Fr [61, 62, 99, 100, 101] [] S1 q.1 ∧ wkI_l (tl R) q.1 f ∧ q.2.1 = pre.foldl (lsS (tl R)) ((2 ^ n - 1 : Nat) : Int) ∧ q.2.2.1 = pre.length) ?_
    rintro pre f post ⟨S2, a, i, y4, y5⟩ hl ⟨hF2, hW2, ha, hi⟩ ih
    dsimp only at hF2 hW2 ha hi ⊢
    have hRel2 : Rel R S2 := hRel1.fr hF2 rfl rfl
    obtain ⟨hS2, hSR2⟩ := hRel2.sc
    have hfm : f ∈ wyX (tl R) y := by rw [hl]; exact List.mem_append_right _ List.mem_cons_self
    have hof := bd_of (T := tl R) (wX_mem hT hfm).2.1
    have hlen : (wyX (tl R) y).length = pre.length + (post.length + 1) := by rw [hl]; simp
    have hlt : ¬ ((wyX (tl R) y).length : Int) ≤ i := by omega
    have hab := (ls_fold hS pre ((2 ^ n - 1 : Nat) : Int) (by omega)).1
    rw [← ha] at hab
    have hmb := mfM_b hS f
    have hnew : (pre ++ [f]).foldl (lsS (tl R)) ((2 ^ n - 1 : Nat) : Int) = lsS (tl R) a f := by rw [List.foldl_append, List.foldl_cons, List.foldl_nil, ← ha]
    have next : ∀ (a' : Int) (y4 y5 : Option AV), a' = lsS (tl R) a f → Smm H_X_lies 98 [some (.inr (.inr 40)), some (.inl ((wyX (tl R) y).length : Int)), some (.inl a'), some (.inl i), y4, y5] [] S2 Q := by
      intro a' y4 y5 ha'
      rw [← hnew] at ha'
      have e : ((pre.length + 1 : Nat) : Int) = i32 (i + 1) := by rw [hi]; exact i32_s (by omega)
      refine sound ok_X_lies [49] 20 ?_
      refine t_step_l (tl R) S2 f (rcN (nb y) ((tl R) 18)) pre post _ hT hW2 (fun s s0 s1 => ⟨by rw [hF2.c 98 rfl]; exact hr1 s s0 s1, ?_⟩) hl (fun S4 f' hF4 hW4 hp => ?_)
      · have := g3 s.toNat (by clear e; omega)
        rw [show ((s.toNat : Nat) : Int) = s by clear e; omega] at this
        exact this
      · have hFS4 := hF2.tr (hF4.mo rfl rfl : Fr [61, 62, 99, 100, 101] [] S2 S4)
        rcases hp with hp | ⟨post', hp⟩
        · have hend : i32 (i + 1) = ((wyX (tl R) y).length : Int) := by rw [← e, hlen, hp]; rfl
          rw [hp] at hl
          rw [← hl] at ha'
          refine sound ok_X_lies [] 20 ?_
          refine ⟨fun _ => ?_, fun z => absurd z (by rw [hend]; exact Int.lt_irrefl _)⟩
          rw [ha']
          exact hQ S4 ((Xs.of hF1 rfl).tr (Xs.of hFS4 rfl)) (hRel1.fr hFS4 rfl rfl)
        · exact Smm.sub (ih f' post' (S4, a', ((pre.length + 1 : Nat) : Int), y4, y5) hp ⟨hFS4, hW4, ha', by simp⟩) ⟨Or.inr rfl, Or.inr rfl, Or.inr rfl, Or.inr (sI e), Or.inr rfl, Or.inr rfl, trivial⟩
    obtain ⟨u, hu⟩ : ∃ u : Nat, mfM (tl R) f = u := ⟨(mfM (tl R) f).toNat, by omega⟩
    obtain ⟨v, hv⟩ : ∃ v : Nat, a = v := ⟨a.toNat, by omega⟩
    have hle := lsS_e (T := tl R) (a := a) (f := f) hab.1 hmb.1
    rw [hu, hv, show ((u : Int)).toNat = u from rfl, show ((v : Int)).toNat = v from rfl] at hle
    rw [hv] at next ⊢
    rw [hu] at hmb
    rw [hv] at hab
    have hbu := bcF_ub 30 u
    have hbv := bcF_ub 30 v
    have eb : i32 (((bcF 30 u : Nat) : Int) - ((bcF 30 v : Nat) : Int)) = ((bcF 30 u : Nat) : Int) - ((bcF 30 v : Nat) : Int) := i32_id (by omega) (by omega)
    have yes : (((bcF 30 u : Nat) : Int) - ((bcF 30 v : Nat) : Int) < 0 ∨ (((bcF 30 u : Nat) : Int) - ((bcF 30 v : Nat) : Int) = 0 ∧ (u : Int) < v)) → ∀ y5 : Option AV, Smm H_X_lies 95 [some (.inr (.inr 40)), some (.inl ((wyX (tl R) y).length : Int)), some (.inl (v : Int)), some (.inl i), some (.inl (u : Int)), y5] [] S2 Q := by
      intro hz y5
      rw [if_pos hz] at hle
      refine sound ok_X_lies [98] 20 ?_
      exact next (u : Int) _ _ hle.symm
    have nop : ¬ (((bcF 30 u : Nat) : Int) - ((bcF 30 v : Nat) : Int) < 0 ∨ (((bcF 30 u : Nat) : Int) - ((bcF 30 v : Nat) : Int) = 0 ∧ (u : Int) < v)) → ∀ y5 : Option AV, Smm H_X_lies 98 [some (.inr (.inr 40)), some (.inl ((wyX (tl R) y).length : Int)), some (.inl (v : Int)), some (.inl i), some (.inl (u : Int)), y5] [] S2 Q := by
      intro hz y5
      rw [if_neg hz] at hle
      exact next (v : Int) _ _ hle.symm
    have goU := fun Q' hq' => t_unlike (tl R) S2 f Q' hT hof hW2 hS2 hSR2 hq'
    rw [hu] at goU
    refine sound ok_X_lies [95, 98] 80 ?_
    refine ⟨fun z => absurd z hlt, fun _ => ?_⟩
    refine goU _ ?_
    refine t_bitCount S2 u _ (by clear eb; omega) ?_
    refine t_bitCount S2 v _ (by clear eb; omega) ?_
    refine ⟨fun z => ?_, fun z => ?_⟩
    · rw [eb] at z
      exact yes (Or.inl z) _
    · rw [eb] at z
      refine ⟨fun w => ?_, fun w => ?_⟩
      · rw [eb] at w
        exact nop (fun q => q.elim (fun q => by clear eb; omega) (fun q => w q.1)) _
      · rw [eb] at w
        refine ⟨fun t => nop (fun q => q.elim (fun q => by clear eb; omega) (fun q => absurd q.2 (by clear eb; omega))) _, fun t => yes (Or.inr ⟨w, t⟩) _⟩
  obtain ⟨r, hr⟩ := wy_first (err := rcN (nb y) ((tl R) 18)) ((tl R) 0 20).toNat (fun i hi => (g3 i hi).1)
  have go := loop r [] _ (S1, ((2 ^ n - 1 : Nat) : Int), 0, none, none) hr ⟨Fr.rf _ _ _, hW1, rfl, rfl⟩
  have esc : S1 79 1 = n := by rw [← hn]; exact hRel1.1.2.2.2.2.1.2.1.1
  have e1 : ((2 ^ n - 1 : Nat) : Int) = i32 (ishl 1 (S1 79 1) - 1) := by rw [esc]; exact (one_sc (by omega)).symm
  exact Smm.sub go ⟨Or.inr rfl, Or.inr rfl, Or.inr (sI e1), Or.inr rfl, Or.inr rfl, Or.inr rfl, trivial⟩
theorem sm_rt {R : St} (hl0 : ldM R) {s : Int} : smM (tl R) (fun _ => 0) = rtS R := by
  have hs5 := hl0.2.1
  have hb := hl0.2.2.2.1
  unfold smM rtS
  show snF (R 12) (R 13) (tl R 17) (tl R 19) 0 (fun _ => 0) (R 0 20).toNat = _
  refine snF_R _ (fun i hi => ?_) (by omega) (fun j j0 j1 => if_pos ⟨j0, j1⟩)
  have q := hb i (by omega) (by omega)
  have hi2 : (i : Int) < R 0 20 := by omega
  exact ⟨if_pos ⟨by omega, hi2⟩, q.2.2.2.2.1, q.2.2.2.2.2.1, q.2.2.2.2.2.2.1, q.2.2.2.2.2.2.2⟩
set_option maxHeartbeats 1000000 in
theorem t_X_route (R S : St) (s what : Int) (Q : Option AV → St → Prop) (h : Rel R S) (hQ : ∀ S', Xs S S' → Rel R S' → Q (some (.inl (aM_route R s what))) S') : Smm H_X_route 0 [some (.inr (.inr 40)), some (.inl s), some (.inl what), none] [] S Q := by
  have no : (¬ (¬ R 0 18 = 0 ∧ 0 ≤ s ∧ s < R 0 20) ∨ ¬ (0 ≤ what ∧ what ≤ 1)) → Q (some (.inl (-1))) S := fun hz => by
    have := hQ S (Xs.rf S) h
    unfold aM_route at this
    rwa [if_pos hz] at this
  refine sound ok_X_route [33] 60 ?_
  refine t_xSign R S s _ h.1 (fun h1 => ⟨fun z => absurd z (by decide), fun _ => ?_⟩) (fun h1 => ⟨fun _ => no (Or.inl h1), fun z => absurd rfl z⟩)
  refine t_within S what 1 _ (fun h2 => ⟨fun _ => ?_, fun z => absurd z (by decide)⟩) (fun h2 => ⟨fun z => absurd rfl z, fun _ => no (Or.inr h2)⟩)
  unfold aM_route at hQ
  rw [if_neg (fun q => q.elim (fun q => q h1) (fun q => q h2))] at hQ
  obtain ⟨hl0, hp, hT, hR, hP, hpo⟩ := h.1.land h1.1
  have hs5 := hl0.2.1
  have p20 : tl R 0 20 = R 0 20 := tl_0 R (by decide) (by decide)
  refine ⟨fun w => ?_, fun w => ?_⟩
  · rw [if_neg w] at hQ
    have loop : ∀ (i : Int) (S1 : St), ((0 ≤ i ∧ i ≤ 5) ∧ Fr [42] [] S S1 ∧ ∀ j, 0 ≤ j → j < i → S1 42 j = 0) → Smm H_X_route 33 [some (.inr (.inr 40)), some (.inl s), some (.inl what), some (.inl i)] [] S1 Q := by
      refine lp_up (P := fun i S1 => Smm H_X_route 33 [some (.inr (.inr 40)), some (.inl s), some (.inl what), some (.inl i)] [] S1 Q) _ 5 ?_ ?_
      · rintro i S1 hi ⟨hi2, hF, d⟩
        have hr : Rel R S1 := h.fr hF rfl rfl
        obtain ⟨_, _, _, hR1, hP1, hpo1⟩ := hr.1.land h1.1
        refine sound ok_X_route [33] 40 ?_
        refine ⟨fun _ => ?_, fun z => absurd z (by omega)⟩
        refine t_place (tl R) S1 (fun _ => 0) _ hT.1 hR1 hP1 hpo1 (ofz hT.1) (fun j j0 j1 => d j j0 (by rw [p20] at j1; omega)) (fun S2 hF2 hW2 => ?_)
        have ea := hW2.2.2.1 s h1.2.1 (by rw [p20]; exact h1.2.2)
        have hb := sm_bd hT.1 (ofz hT.1) s h1.2.1 (by rw [p20]; exact h1.2.2)
        rw [sm_rt hl0 (s := s)] at ea hb
        have hq := hQ S2 ((Xs.of hF rfl).tr (Xs.of hF2 rfl)) (hr.fr hF2 rfl rfl)
        refine ⟨by omega, ?_⟩
        refine t_orHidden S2 _ _ ?_
        rw [ea]
        by_cases y : rtS R s = 1000000
        · rw [if_pos y] at hq
          rw [if_pos (by omega)]
          exact hq
        · rw [if_neg y] at hq
          rw [if_neg (by omega)]
          exact hq
      · rintro i S1 hi ⟨hi2, hF, d⟩ ih
        have hng : ¬ 5 ≤ i := by omega
        have hix : 0 ≤ i ∧ i < 5 := by omega
        have hi3 : 0 ≤ i + 1 ∧ i + 1 ≤ 5 := by omega
        have e : i + 1 = i32 (i + 1) := (i32_id (by omega) (by omega)).symm
        refine sound ok_X_route [33] 20 ?_
        refine ⟨fun z => absurd z hng, fun _ => ?_⟩
        refine ⟨hix, ?_⟩
        refine Smm.sub (ih _ ⟨hi3, hF.up _ _ _ rfl, fun j j0 j1 => ?_⟩) ⟨Or.inr rfl, Or.inr rfl, Or.inr rfl, Or.inr (sI e), trivial⟩
        by_cases y : j = i
        · rw [y, up_s]
        · rw [up_n _ _ _ y]
          exact d j j0 (by clear e; omega)
    exact loop 0 S ⟨by omega, Fr.rf _ _ _, fun j j0 j1 => absurd j1 (by omega)⟩
  · rw [if_pos w] at hQ
    refine t_countAhead (tl R) S s _ hT.1 hR (by rw [p20]; exact h1.2) ?_
    exact hQ S (Xs.rf S) h
theorem ro32 {a : Int} (h : 0 ≤ a) : i32 (a % 10 - 3) = a % 10 - 3 := i32_id (by omega) (by omega)
theorem sg32 {k : Nat} (h : k ≤ 5) : (k : Int) - 1 = i32 ((k : Int) - 1) := (i32_id (by omega) (by omega)).symm
theorem sg33 {k : Nat} (h : k ≤ 5) : (k : Int) - 1 = i32 (((k + 1 : Nat) : Int) - 1 + -1) := by rw [i32_id (by omega) (by omega)]; omega
set_option maxHeartbeats 2000000 in
theorem t_readOffs (R S : St) (offs : Int) (Q : Option AV → St → Prop) (h : Rel R S) (hl : ¬ R 0 18 = 0) (hc : i32 offs = offs) (h1 : okD offs (R 0 20) (R 11) → ∀ S', Fr [42] [] S S' → (∀ s, 0 ≤ s → s < R 0 20 → S' 42 s = dgF offs (R 0 20) s) → Q (some (.inl 1)) S') (h0 : ¬ okD offs (R 0 20) (R 11) → ∀ S', Fr [42] [] S S' → Q (some (.inl 0)) S') : Smm H_X_readOffs 0 [some (.inr (.inr 40)), some (.inl offs), none, none, none] [] S Q := by
  obtain ⟨hl0, hp, hT, hR, hP, hpo⟩ := h.1.land hl
  have hs5 := hl0.2.1
  obtain ⟨n, hn⟩ : ∃ n : Nat, R 0 20 = n := ⟨(R 0 20).toNat, by omega⟩
  rw [hn] at h1 h0
  have hob : -2147483648 ≤ offs ∧ offs ≤ 2147483647 := by
    unfold i32 at hc
    omega
  have e1 : S 63 1 = n := by rw [← hn]; exact h.1.2.2.1.1.2
  have loop : ∀ (k : Nat) (S1 : St) (y4 : Option AV), k ≤ n → (0 ≤ offs ∨ k = n) → Fr [42] [] S S1 → (∀ s, (k : Int) ≤ s → s < n → S1 42 s = dgF offs n s ∧ -R 11 s ≤ dgF offs n s ∧ dgF offs n s ≤ R 11 s) → Smm H_X_readOffs 12 [some (.inr (.inr 40)), some (.inl offs), some (.inl (offs / 10 ^ (n - k))), some (.inl ((k : Int) - 1)), y4] [] S1 Q := by
    intro k
    induction k with
    | zero =>
      intro S1 y4 hk hof hF d
      have hof' : 0 ≤ offs := hof.elim id (fun q => by omega)
      refine sound ok_X_readOffs [] 20 ?_
      refine ⟨fun _ => ?_, fun z => absurd z (by decide)⟩
      rw [Nat.sub_zero]
      refine ⟨fun z => ⟨Or.inl rfl, h0 (fun q => z ?_) S1 hF⟩, fun z => ⟨Or.inr rfl, h1 ⟨hof', fun s s0 s1 => (d s (by omega) s1).2, ?_⟩ S1 hF (fun s s0 s1 => (d s (by omega) s1).1)⟩⟩
      · exact q.2.2
      · exact z
    | succ k ih =>
      intro S1 y4 hk hof hF d
      have hr : Rel R S1 := h.fr hF rfl rfl
      have hkx : 0 ≤ ((k + 1 : Nat) : Int) - 1 ∧ ((k + 1 : Nat) : Int) - 1 < 5 := by omega
      have hks : ((k + 1 : Nat) : Int) - 1 = k := by omega
      have ee : S1 67 k = R 11 k := ((hr.1.2.2.1.2 hl).2.1 k (by omega) (by omega)).2.1
      have heb := hl0.2.2.2.1 k (by omega) (by omega)
      have fal : ¬ okD offs n (R 11) → ∀ y, Smm H_X_readOffs 57 [some (.inr (.inr 40)), some (.inl offs), some (.inl (offs / 10 ^ (n - (k + 1)))), some (.inl (((k + 1 : Nat) : Int) - 1)), y] [] S1 Q := by
        intro hz y
        refine sound ok_X_readOffs [] 20 ?_
        exact ⟨Or.inl rfl, h0 hz S1 hF⟩
      refine sound ok_X_readOffs [57, 59] 40 ?_
      refine ⟨fun z => absurd z (by omega), fun _ => ?_⟩
      refine ⟨by decide, ?_⟩
      have hpos : 0 < (10 : Int) ^ (n - (k + 1)) := p10 _
      refine ⟨fun z => fal (fun q => ?_) _, fun z => ?_⟩
      · have := Int.ediv_nonneg q.1 (Int.le_of_lt hpos)
        omega
      · have hof' : 0 ≤ offs := by
          by_cases w : 0 ≤ offs
          · exact w
          · exfalso
            have := Int.ediv_neg_of_neg_of_pos (show offs < 0 by omega) hpos
            omega
        have hup : offs / 10 ^ (n - (k + 1)) ≤ offs := Int.ediv_le_self _ hof'
        have er : irem (offs / 10 ^ (n - (k + 1))) 10 = offs / 10 ^ (n - (k + 1)) % 10 := irem_pos z (by omega) (by omega) (by omega)
        have ed : idiv (offs / 10 ^ (n - (k + 1))) 10 = offs / 10 ^ (n - (k + 1)) / 10 := idiv_pos z (by omega) (by omega) (by omega)
        have hdg : dgF offs n k = offs / 10 ^ (n - (k + 1)) % 10 - 3 := by
          unfold dgF
          rw [show ((n : Int) - 1 - k).toNat = n - (k + 1) by clear er ed; omega]
        have eo : i32 (irem (offs / 10 ^ (n - (k + 1))) 10 - 3) = dgF offs n k := by rw [er, hdg]; exact ro32 z
        have en : i32 (-R 11 k) = -R 11 k := i32_id (by clear er ed eo; omega) (by clear er ed eo; omega)
        have eks : S1 67 (((k + 1 : Nat) : Int) - 1) = R 11 k := by rw [hks]; exact ee
        refine ⟨hkx, ?_⟩
        refine ⟨fun w => ?_, fun w => ?_⟩
        · rw [eo, eks, en] at w
          exact fal (fun q => by have := (q.2.1 k (by clear er ed eo en; omega) (by clear er ed eo en; omega)).1; clear er ed eo en; omega) _
        · rw [eo, eks, en] at w
          refine ⟨hkx, ?_⟩
          refine ⟨fun v => ?_, fun v => ?_⟩
          · rw [eo, eks] at v
            refine sound ok_X_readOffs [12] 20 ?_
            refine ⟨hkx, ?_⟩
            refine ⟨by decide, ?_⟩
            have ih := ih (up S1 42 (((k + 1 : Nat) : Int) - 1) (i32 (irem (offs / 10 ^ (n - (k + 1))) 10 - 3))) (some (.inl (i32 (irem (offs / 10 ^ (n - (k + 1))) 10 - 3)))) (by clear er ed eo en; omega) (Or.inl hof') (hF.up _ _ _ rfl) (fun s s0 s1 => by
              by_cases u : s = k
              · rw [u, hks, up_s, eo]
                exact ⟨rfl, w, v⟩
              · rw [hks, up_n _ _ _ u]
                exact d s (by clear er ed eo en; omega) s1)
            have ediv : offs / 10 ^ (n - k) = idiv (offs / 10 ^ (n - (k + 1))) 10 := by
              rw [ed, div10, show n - (k + 1) + 1 = n - k by clear er ed eo en; omega]
            exact Smm.sub ih ⟨Or.inr rfl, Or.inr rfl, Or.inr (sI ediv), Or.inr (sI (sg33 (by clear er ed eo en ediv; omega))), Or.inr rfl, trivial⟩
          · rw [eo, eks] at v
            exact fal (fun q => by have := (q.2.1 k (by clear er ed eo en; omega) (by clear er ed eo en; omega)).2; clear er ed eo en; omega) _
  have go := loop n S none (Nat.le_refl _) (Or.inr rfl) (Fr.rf _ _ _) (fun s s0 s1 => absurd s1 (by omega))
  rw [Nat.sub_self, Int.pow_zero, Int.ediv_one] at go
  have es : (n : Int) - 1 = i32 (S 63 1 - 1) := by rw [e1]; exact sg32 (by omega)
  refine sound ok_X_readOffs [12] 20 ?_
  exact Smm.sub go ⟨Or.inr rfl, Or.inr rfl, Or.inr rfl, Or.inr (sI es), Or.inr rfl, trivial⟩
theorem dg_ok {R : St} (hl0 : ldM R) {offs : Int} (h : okD offs (R 0 20) (R 11)) : ofOk (R 0 20) (dgF offs (R 0 20)) := fun s s0 s1 => by
  have h1 := h.2.1 s s0 s1
  have h2 := hl0.2.2.2.1 s s0 s1
  omega
set_option maxHeartbeats 1000000 in
theorem t_X_turnsAt (R S : St) (offs g : Int) (Q : Option AV → St → Prop) (hc : i32 offs = offs) (h : Rel R S) (hQ : ∀ S', Xs S S' → Rel R S' → Q (some (.inl (aM_turnsAt R offs g))) S') : Smm H_X_turnsAt 0 [some (.inr (.inr 40)), some (.inl offs), some (.inl g)] [] S Q := by
  have no : (¬ (¬ R 0 18 = 0 ∧ 0 ≤ g ∧ g < R 0 19) ∨ ¬ okD offs (R 0 20) (R 11)) → ∀ S', Xs S S' → Rel R S' → Q (some (.inl (-1000000))) S' := fun hz S' hx hr => by
    have := hQ S' hx hr
    unfold aM_turnsAt at this
    rwa [if_pos hz] at this
  refine sound ok_X_turnsAt [] 80 ?_
  refine t_xGuard R S g _ h.1 (fun h1 => ⟨fun z => absurd z (by decide), fun _ => ?_⟩) (fun h1 => ⟨fun _ => no (Or.inl h1) S (Xs.rf S) h, fun z => absurd rfl z⟩)
  obtain ⟨hl0, hp, hT, _, _, _⟩ := h.1.land h1.1
  have hk4 := hl0.1
  have p19 : tl R 0 19 = R 0 19 := tl_0 R (by decide) (by decide)
  have p20 : tl R 0 20 = R 0 20 := tl_0 R (by decide) (by decide)
  refine t_readOffs R S offs _ h h1.1 hc (fun h2 S1 hF1 ho => ⟨fun _ => ?_, fun z => absurd z (by decide)⟩) (fun h2 S1 hF1 => ⟨fun z => absurd rfl z, fun _ => no (Or.inr h2) S1 (Xs.of hF1 rfl) (h.fr hF1 rfl rfl)⟩)
  have hr1 : Rel R S1 := h.fr hF1 rfl rfl
  obtain ⟨_, _, _, hR, hP, hpo⟩ := hr1.1.land h1.1
  have hof : ofOk (tl R 0 20) (dgF offs (R 0 20)) := by rw [p20]; exact dg_ok hl0 h2
  refine t_place (tl R) S1 (dgF offs (R 0 20)) _ hT.1 hR hP hpo hof (fun s s0 s1 => ho s s0 (by rw [← p20]; exact s1)) (fun S2 hF2 hW2 => ?_)
  have hq := hQ S2 ((Xs.of hF1 rfl).tr (Xs.of hF2 rfl)) (hr1.fr hF2 rfl rfl)
  unfold aM_turnsAt at hq
  rw [if_neg (fun q => q.elim (fun q => q h1) (fun q => q h2))] at hq
  have et := hW2.2.2.2.2 g h1.2.1 (by rw [p19]; exact h1.2.2)
  have tb := tnM_b hT.1 hof (g := g) h1.2.1 (by omega)
  refine ⟨by omega, ?_⟩
  refine t_orHidden S2 _ _ ?_
  rw [et]
  by_cases y : tnM (tl R) (smM (tl R) (dgF offs (R 0 20))) g = 1000000
  · rw [if_pos y] at hq
    rw [if_pos (by omega)]
    exact hq
  · rw [if_neg y] at hq
    rw [if_neg (by omega)]
    exact hq
set_option maxHeartbeats 1000000 in
theorem t_X_opens (R S : St) (offs : Int) (Q : Option AV → St → Prop) (hc : i32 offs = offs) (h : Rel R S) (hQ : ∀ S', Xs S S' → Rel R S' → Q (some (.inl (aM_opens R offs))) S') : Smm H_X_opens 0 [some (.inr (.inr 40)), some (.inl offs)] [] S Q := by
  have no : ¬ (¬ R 0 18 = 0 ∧ okD offs (R 0 20) (R 11)) → ∀ S', Xs S S' → Rel R S' → Q (some (.inl (-1))) S' := fun hz S' hx hr => by
    have := hQ S' hx hr
    unfold aM_opens at this
    rwa [if_pos hz] at this
  refine sound ok_X_opens [] 80 ?_
  refine t_told R S _ h.1 (fun h1 => ⟨fun z => absurd z (by decide), fun _ => ?_⟩) (fun h1 => ⟨fun _ => no (fun q => q.1 h1) S (Xs.rf S) h, fun z => absurd rfl z⟩)
  obtain ⟨hl0, hp, hT, _, _, _⟩ := h.1.land h1
  have p20 : tl R 0 20 = R 0 20 := tl_0 R (by decide) (by decide)
  refine t_readOffs R S offs _ h h1 hc (fun h2 S1 hF1 ho => ⟨fun _ => ?_, fun z => absurd z (by decide)⟩) (fun h2 S1 hF1 => ⟨fun z => absurd rfl z, fun _ => no (fun q => h2 q.2) S1 (Xs.of hF1 rfl) (h.fr hF1 rfl rfl)⟩)
  have hr1 : Rel R S1 := h.fr hF1 rfl rfl
  obtain ⟨_, _, _, hR, hP, hpo⟩ := hr1.1.land h1
  have hof : ofOk (tl R 0 20) (dgF offs (R 0 20)) := by rw [p20]; exact dg_ok hl0 h2
  refine t_place (tl R) S1 (dgF offs (R 0 20)) _ hT.1 hR hP hpo hof (fun s s0 s1 => ho s s0 (by rw [← p20]; exact s1)) (fun S2 hF2 hW2 => ?_)
  have hr2 := hr1.fr hF2 rfl rfl
  refine t_isOpen_l (tl R) S2 (dgF offs (R 0 20)) _ hT hof hW2 (fun S3 hF3 hop => ?_) (fun S3 hF3 hop => ?_)
  · have hq := hQ S3 (((Xs.of hF1 rfl).tr (Xs.of hF2 rfl)).tr (Xs.of hF3 rfl)) (hr2.fr hF3 rfl rfl)
    unfold aM_opens at hq
    rw [if_neg (fun q => q ⟨h1, h2⟩), if_pos hop] at hq
    exact ⟨fun z => absurd z (by decide), fun _ => hq⟩
  · have hq := hQ S3 (((Xs.of hF1 rfl).tr (Xs.of hF2 rfl)).tr (Xs.of hF3 rfl)) (hr2.fr hF3 rfl rfl)
    unfold aM_opens at hq
    rw [if_neg (fun q => q ⟨h1, h2⟩), if_neg (by rw [hop]; decide)] at hq
    exact ⟨fun _ => hq, fun z => absurd rfl z⟩
