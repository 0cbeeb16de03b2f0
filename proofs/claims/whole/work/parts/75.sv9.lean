/-! the sets that open in all ways, found -/
theorem all_any (p : (Int → Int) → Bool) : ∀ l : List (Int → Int), l.all p = !(l.any (fun f => !(p f)))
  | [] => rfl
  | f :: l => by rw [List.all_cons, List.any_cons, all_any p l, Bool.not_or, Bool.not_not]
theorem nd_opS {T S : St} (hT : mOk T) (hP : PlR T S) {a y : Nat} (hy : ndI T S a y) {f : Int → Int} (hf : bd3 f) (set : Nat) : opS T f set = opS T (prN (nb y) f) set := by
  have hk4 := hT.2.1
  unfold opS
  rw [apF_congr (t := msk (tnM T (smM T f)) set) (t' := msk (tnM T (smM T (prN (nb y) f))) set) (fun j j0 j1 => by unfold msk; rw [nd_tn hT hP hy hf (g := j) (by omega)])]
theorem pS_X {T S : St} (hT : mAs T) (hP : PlR T S) {a y : Nat} (hy : ndI T S a y) (w j : Nat) : pS T w (wyX T y) j = pS T w (wyM T) j := by
  unfold pS
  rw [all_any, all_any, any_X hT (fun f hf => by rw [nd_opS hT.1 hP hy hf j])]
theorem pS_none {T : St} {w : Nat} {pre post : List (Int → Int)} (h : BtI 0 (pS T w pre)) : BtI 0 (pS T w (pre ++ post)) := by
  obtain ⟨x, h1, h2, h3⟩ := h
  have hx : x = 0 := by omega
  refine ⟨x, h1, h2, fun j => ?_⟩
  have := h3 j
  rw [hx, Nat.zero_testBit] at this
  rw [hx, Nat.zero_testBit]
  unfold pS at this ⊢
  rw [List.all_append, ← Bool.and_assoc, ← this, Bool.false_and]
set_option maxHeartbeats 2000000 in
theorem t_openSets (T S : St) (w : Nat) (Q : Option AV → St → Prop) (hT : mAs T) (hR : lr_l T S) (hP : PlR T S) (hpo : ∀ g, 0 ≤ g → g < T 0 19 → S 80 g = T 20 g) (hw : T 0 19 = w ∧ 2 ≤ w) (hh : S 106 1 = 0 ∨ (S 106 1 = 1 ∧ BtI (S 106 13) (pS T w (wyM T)))) (hQ : ∀ S', Fr [61, 62, 99, 100, 101, 103, 96, 97, 98] [(102, 1), (106, 13), (106, 1), (95, 1), (95, 2)] S S' → S' 106 1 = 1 → BtI (S' 106 13) (pS T w (wyM T)) → Q (some (.inl (S' 106 13))) S') : Smm H_Survey_openSets 0 [some (.inr (.inr 106)), some (.inr (.inr 95)), some (.inr (.inr 63)), some (.inr (.inr 80)), none, none, none, none] [] S Q := by
  have hn := hT.1.1.1
  have hk4 := hT.1.2.1
  have hwb : 2 ≤ w ∧ w ≤ 4 := by omega
  obtain ⟨K, hKe⟩ : ∃ K : Nat, 2 ^ w = K := ⟨_, rfl⟩
  have w2 : S 63 0 = w := by rw [← hw.1]; exact hR.1.1
  have eK : (K : Int) = ishl 1 (S 63 0) := by rw [w2, ishl_nat (by omega), hKe]
  have hall := BtI.all hwb
  rw [← w2] at hall
  refine sound ok_Survey_openSets [42] 60 ?_
  refine ⟨fun z => ?_, fun z => ?_⟩
  · refine t_start_lb T S 0 _ hT hR hP hpo (by decide) (fun S1 y hF1 hy hW1 hr1 hg1 => ?_)
    obtain ⟨g1, g2, g3, g4⟩ := wX_b hT y
    have hFA : Fr [61, 62, 99, 100, 101, 103, 96, 97, 98] [(102, 1), (106, 13), (106, 1), (95, 1), (95, 2)] S S1 := hF1.mo rfl rfl
    have fin : ∀ (S4 : St) (x6 : Int) (x7 : Option AV), Fr [61, 62, 99, 100, 101, 103] [(102, 1), (106, 13)] S1 S4 → BtI (S4 106 13) (pS T w (wyX T y)) → Smm H_Survey_openSets 118 [some (.inr (.inr 106)), some (.inr (.inr 95)), some (.inr (.inr 63)), some (.inr (.inr 80)), some (.inl (K : Int)), some (.inl ((wyX T y).length : Int)), some (.inl x6), x7] [] S4 Q := by
      intro S4 x6 x7 hF4 hI4
      refine sound ok_Survey_openSets [] 20 ?_
      refine ⟨Or.inr rfl, hQ _ ((hFA.tr (hF4.mo rfl rfl)).up 106 1 1 rfl) (up_s _ _ _ _) ?_⟩
      rw [up_n _ _ _ (by decide)]
      exact hI4.congr (pS_X hT hW1.1.2.2.1 hy w)
    have loop : ∀ (post pre : List (Int → Int)) (f : Int → Int) (q : St × Int × Option AV), wyX T y = pre ++ f :: post → (Fr [61, 62, 99, 100, 101, 103] [(102, 1), (106, 13)] S1 q.1 ∧ wkI_l T q.1 f ∧ BtI (q.1 106 13) (pS T w pre) ∧ q.2.1 = pre.length) → Smm H_Survey_openSets 42 [some (.inr (.inr 106)), some (.inr (.inr 95)), some (.inr (.inr 63)), some (.inr (.inr 80)), some (.inl (K : Int)), some (.inl ((wyX T y).length : Int)), some (.inl q.2.1), q.2.2] [] q.1 Q := by
      refine lp_wy (P := fun _ (q : St × Int × Option AV) => Smm H_Survey_openSets 42 [some (.inr (.inr 106)), some (.inr (.inr 95)), some (.inr (.inr 63)), some (.inr (.inr 80)), some (.inl (K : Int)), some (.inl ((wyX T y).length : Int)), some (.inl q.2.1), q.2.2] [] q.1 Q) (fun pre f q => Fr [61, 62, 99, 100, 101, 103] [(102, 1), (106, 13)] S1 q.1 ∧ wkI_l T q.1 f ∧ BtI (q.1 106 13) (pS T w pre) ∧ q.2.1 = pre.length) ?_
      rintro pre f post ⟨S2, i, x7⟩ hl ⟨hF2, hW2, ha, hi⟩ ih
      dsimp only at hF2 hW2 ha hi ⊢
      have hfm : f ∈ wyX T y := by rw [hl]; exact List.mem_append_right _ List.mem_cons_self
      have hof := bd_of (T := T) (wX_mem hT hfm).2.1
      have hlen : (wyX T y).length = pre.length + (post.length + 1) := by rw [hl]; simp
      have hlt : ¬ ((wyX T y).length : Int) ≤ i := by omega
      refine sound ok_Survey_openSets [56, 118] 40 ?_
      refine ⟨fun z => absurd z hlt, fun _ => ?_⟩
      refine ⟨fun z => ?_, fun _ => ?_⟩
      · refine fin S2 i x7 hF2 ?_
        rw [z] at ha ⊢
        rw [hl]
        exact pS_none ha
      refine os_body T S2 f pre w K _ i x7 Q hT hof hW2 hwb hKe ha (fun S3 x8 hF3 hs3 => ?_)
      have hW3 := wkI_fr_l hW2 hF3 rfl rfl
      have hFS := hF2.tr (hF3.mo rfl rfl : Fr [61, 62, 99, 100, 101, 103] [(102, 1), (106, 13)] S2 S3)
      have e : ((pre.length + 1 : Nat) : Int) = i32 (i + 1) := by rw [hi]; exact i32_s (by omega)
      refine sound ok_Survey_openSets [42] 20 ?_
      refine t_step_l T S3 f (rcN (nb y) (T 18)) pre post _ hT hW3 (fun s s0 s1 => ⟨by rw [hFS.c 98 rfl]; exact hr1 s s0 s1, ?_⟩) hl (fun S4 f' hF4 hW4 hp => ?_)
      · have := g3 s.toNat (by clear e; omega)
        rw [show ((s.toNat : Nat) : Int) = s by clear e; omega] at this
        exact this
      · have hFS4 := hFS.tr (hF4.mo rfl rfl : Fr [61, 62, 99, 100, 101, 103] [(102, 1), (106, 13)] S3 S4)
        have hs4 : BtI (S4 106 13) (pS T w (pre ++ [f])) := by rw [hF4.c 106 rfl]; exact hs3
        rcases hp with hp | ⟨post', hp⟩
        · have hend : i32 (i + 1) = ((wyX T y).length : Int) := by rw [← e, hlen, hp]; rfl
          rw [hp] at hl
          rw [← hl] at hs4
          refine sound ok_Survey_openSets [118] 20 ?_
          exact ⟨fun _ => fin S4 _ _ hFS4 hs4, fun z => absurd z (by rw [hend]; exact Int.lt_irrefl _)⟩
        · exact Smm.sub (ih f' post' (S4, ((pre.length + 1 : Nat) : Int), x8) hp ⟨hFS4, hW4, hs4, by simp⟩) ⟨Or.inr rfl, Or.inr rfl, Or.inr rfl, Or.inr rfl, Or.inr rfl, Or.inr rfl, Or.inr (sI e), Or.inr rfl, trivial⟩
    obtain ⟨r, hr⟩ := wy_first (err := rcN (nb y) (T 18)) (T 0 20).toNat (fun i hi => (g3 i hi).1)
    have hF5 : Fr [61, 62, 99, 100, 101, 103] [(102, 1), (106, 13)] S1 (up S1 106 13 (i32 (ishl 1 (ishl 1 (S 63 0)) - 2))) := (Fr.rf _ _ _).up _ _ _ rfl
    refine Smm.sub (loop r [] _ (up S1 106 13 (i32 (ishl 1 (ishl 1 (S 63 0)) - 2)), 0, none) hr ⟨hF5, wkI_fr_l hW1 (Fr.up (X := []) (Y := [(106, 13)]) (Fr.rf _ _ _) 106 13 _ rfl) rfl rfl, ?_, rfl⟩) ⟨Or.inr rfl, Or.inr rfl, Or.inr rfl, Or.inr rfl, Or.inr (sI eK), Or.inr rfl, Or.inr rfl, Or.inr rfl, trivial⟩
    dsimp only
    rw [up_s]
    exact hall.congr (fun j => by unfold pS; simp)
  · rcases hh with hh | hh
    · exact absurd hh z
    · exact hQ S (Fr.rf _ _ _) hh.1 hh.2
