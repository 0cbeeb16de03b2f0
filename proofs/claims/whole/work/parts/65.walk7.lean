/-! the walk: one way alone; sets; what is heard -/
theorem t_hearing (T S : St) (f : Int → Int) (g s : Int) (Q : Option AV → St → Prop) (hT : mOk T) (hf : ofOk (T 0 20) f) (hW : wkI_l T S f) (hg : 0 ≤ g ∧ g < 4) (hs : 0 ≤ s ∧ s < T 0 20) (hQ : Q (some (.inl (smM T f s + dl (T 19 (5 * g + s))))) S) : Smm H_Walk_hearing 0 [some (.inr (.inr 95)), some (.inl g), some (.inl s)] [] S Q := by
  have hn5 := hT.1.1
  have w1 : S 95 1 = 0 := hW.1.1
  have b5 : 0 ≤ s ∧ s < 5 := by omega
  obtain ⟨g1, g2⟩ := g5x (g := g) (s := s) hg b5
  have hb := sm_bd hT hf s hs.1 hs.2
  have hl := hT.1.2.2 (5 * g + s) g2.1 g2.2
  have hd := dl_b hl
  have ea := hW.2.2.1 s hs.1 hs.2
  have ed := hW.1.2.1.2.2.1 _ g2.1 g2.2
  have e : i32 (smM T f s + dl (T 19 (5 * g + s))) = smM T f s + dl (T 19 (5 * g + s)) := ad32 (by clear g1; omega) hd
  rw [← e, ← ea, ← ed, ← g1] at hQ
  refine sound ok_Walk_hearing [] 40 ?_
  refine ⟨b5, ?_⟩
  refine ⟨fun _ => ?_, fun z => absurd (w1.symm.trans z) (by decide)⟩
  refine ⟨by rw [g1]; exact g2, ?_⟩
  exact hQ
theorem t_place (T S : St) (f : Int → Int) (Q : Option AV → St → Prop) (hT : mOk T) (hR : lr_l T S) (hP : PlR T S) (hpo : ∀ g, 0 ≤ g → g < T 0 19 → S 80 g = T 20 g) (hf : ofOk (T 0 20) f) (ho : ∀ s, 0 ≤ s → s < T 0 20 → S 42 s = f s) (hQ : ∀ S', Fr [61, 62, 96, 97, 99, 100, 101] [(95, 1)] S S' → wkI_l T S' f → Q none S') : Smm H_Walk_place 0 [some (.inr (.inr 95)), some (.inr (.inr 63)), some (.inr (.inr 80)), some (.inr (.inr 42)), none] [] S Q := by
  have hn5 := hT.1.1
  have hk4 := hT.2.1
  refine sound ok_Walk_place [9] 40 ?_
  refine t_enter_lb T S _ hT hR hP hpo (fun S1 hF1 hB1 ho1 ht1 => ?_)
  have loop : ∀ (i : Int) (S2 : St), ((0 ≤ i ∧ i ≤ T 0 20) ∧ Fr [99] [] S1 S2 ∧ ∀ s, 0 ≤ s → s < i → S2 99 s = f s) → Smm H_Walk_place 9 [some (.inr (.inr 95)), some (.inr (.inr 63)), some (.inr (.inr 80)), some (.inr (.inr 42)), some (.inl i)] [] S2 Q := by
    refine lp_up (P := fun i S2 => Smm H_Walk_place 9 [some (.inr (.inr 95)), some (.inr (.inr 63)), some (.inr (.inr 80)), some (.inr (.inr 42)), some (.inl i)] [] S2 Q) _ (T 0 20) ?_ ?_
    · rintro i S2 hi ⟨hi2, hF2, d1⟩
      have hB2 := wkB_fr_l hB1 hF2 rfl
      have w1 : S2 95 1 = 0 := hB2.1
      have w3 : S2 63 1 = T 0 20 := hB2.2.1.1.2.1
      refine sound ok_Walk_place [] 40 ?_
      refine ⟨fun _ => ?_, fun z => absurd (w1.symm.trans z) (by decide)⟩
      refine ⟨fun _ => ?_, fun z => absurd z (by rw [w3]; omega)⟩
      refine t_settle_l T S2 f 0 _ hT hB2 hf (by omega) (fun s s0 s1 => d1 s s0 (by omega)) (fun s s0 s1 => absurd s1 (by omega)) (fun s s0 s1 => by rw [hF2.c 100 rfl]; exact (ho1 s (by omega) s1).2) (fun g g0 g1 hu => ?_) (fun S3 hF3 hW3 => ?_)
      · rw [hF2.c 101 rfl, ht1 g g0 g1]
        exact (tn_never hT hB2.2.2.1 (sm_bd hT hf) (by omega) (fun s hs => absurd (hu s hs) (by omega))).symm
      · exact hQ S3 (((hF1.mo rfl rfl).tr (hF2.mo rfl rfl)).tr (hF3.mo rfl rfl)) hW3
    · rintro i S2 hi ⟨hi2, hF2, d1⟩ ih
      have hB2 := wkB_fr_l hB1 hF2 rfl
      have w1 : S2 95 1 = 0 := hB2.1
      have w3 : S2 63 1 = T 0 20 := hB2.2.1.1.2.1
      have bi : 0 ≤ i ∧ i < 5 := by omega
      have hni : ¬ S2 63 1 ≤ i := by rw [w3]; omega
      have hk : 0 ≤ i + 1 ∧ i + 1 ≤ T 0 20 := by omega
      have eo : S2 42 i = f i := by rw [hF2.c 42 rfl, hF1.c 42 rfl]; exact ho i bi.1 hi
      have e : i + 1 = i32 (i + 1) := (i32_id (by omega) (by omega)).symm
      refine sound ok_Walk_place [9] 40 ?_
      refine ⟨fun _ => ?_, fun z => absurd (w1.symm.trans z) (by decide)⟩
      refine ⟨fun z => absurd z hni, fun _ => ?_⟩
      refine ⟨bi, ?_⟩
      refine ⟨bi, ?_⟩
      refine Smm.sub (ih _ ⟨hk, hF2.up _ _ _ rfl, fun s s0 s1 => ?_⟩) ⟨Or.inr rfl, Or.inr rfl, Or.inr rfl, Or.inr rfl, Or.inr (sI e), trivial⟩
      by_cases z : s = i
      · rw [z, up_s, eo]
      · rw [up_n _ _ _ z]; exact d1 s s0 (by clear e; omega)
  exact loop 0 S1 ⟨by omega, Fr.rf _ _ _, fun s s0 s1 => absurd s1 (by omega)⟩
theorem gaF_msk {t : Int → Int} {set : Int} : ∀ k : Nat, gaF (msk t set) (fun _ => true) k = gaF t (fun g => decide (¬ iand (ishr set g) 1 = 0)) k
  | 0 => rfl
  | k + 1 => by
    rw [gaF, gaF, gaF_msk k]
    unfold msk
    by_cases h : iand (ishr set (k : Int)) 1 = 0
    · rw [if_pos h, if_neg (fun z => absurd z.2 (by decide)), if_neg (fun z => absurd h (of_decide_eq_true z.1))]
    · rw [if_neg h]
      by_cases z : t k < 1000000
      · rw [if_pos ⟨rfl, z⟩, if_pos ⟨decide_eq_true h, z⟩]
      · rw [if_neg (fun y => z y.2), if_neg (fun y => z y.2)]
theorem t_isOpenBy (T S : St) (f : Int → Int) (set : Nat) (Q : Option AV → St → Prop) (hT : mAs T) (hf : ofOk (T 0 20) f) (hW : wkI_l T S f) (h1 : ∀ S', Fr [103] [(102, 1)] S S' → opS T f set = true → Q (some (.inl 1)) S') (h0 : ∀ S', Fr [103] [(102, 1)] S S' → opS T f set = false → Q (some (.inl 0)) S') : Smm H_Walk_isOpenBy 0 [some (.inr (.inr 95)), some (.inl (set : Int)), none] [] S Q := by
  have hTo := hT.1
  have hk4 := hTo.2.1
  have hnd := hT.2.1
  obtain ⟨hB, hoff, hat, hrest, htn⟩ := hW
  obtain ⟨w, hw⟩ : ∃ w : Nat, T 0 19 = w := ⟨(T 0 19).toNat, by omega⟩
  obtain ⟨n, hn⟩ : ∃ n : Nat, T 0 21 = n := ⟨(T 0 21).toNat, by omega⟩
  have hw4 : w ≤ 4 := by omega
  have hn24 : 2 ≤ n ∧ n ≤ 4 := by omega
  have htb : ∀ g, 0 ≤ g → g < (w : Int) → S 101 g = tnM T (smM T f) g ∧ (tnM T (smM T f) g = 1000000 ∨ (-1000 ≤ tnM T (smM T f) g ∧ tnM T (smM T f) g ≤ 1000)) := fun g g0 g1 => ⟨htn g g0 (by omega), tnM_b hTo hf g0 (by omega)⟩
  have hap : apF (T 0 21) (msk (tnM T (smM T f)) set) (T 0 19).toNat = wmF n (gaF (tnM T (smM T f)) (fun g => decide (¬ iand (ishr (set : Int) g) 1 = 0)) w) (gaF (tnM T (smM T f)) (fun g => decide (¬ iand (ishr (set : Int) g) 1 = 0)) w).length := by
    rw [hn, show (T 0 19).toNat = w by omega, ap_row (by omega) (fun j j0 j1 => by
      have := (htb j j0 j1).2
      unfold msk
      split <;> omega), gaF_msk]
    rfl
  have hgl := gaF_len (tnM T (smM T f)) (fun g => decide (¬ iand (ishr (set : Int) g) 1 = 0)) w
  have hgm : ∀ x ∈ gaF (tnM T (smM T f)) (fun g => decide (¬ iand (ishr (set : Int) g) 1 = 0)) w, -5000 ≤ x ∧ x ≤ 5000 := fun x hx => by
    obtain ⟨j, j1, _, j3, j4⟩ := (gaF_mem w x).mp hx
    have := (htb j (by omega) (by omega)).2
    rw [j4]; omega
  have loop : ∀ (i : Int) (S1 : St), ((0 ≤ i ∧ i ≤ w) ∧ Fr [103] [(102, 1)] S S1 ∧ rwI 102 103 S1 (gaF (tnM T (smM T f)) (fun g => decide (¬ iand (ishr (set : Int) g) 1 = 0)) i.toNat)) → Smm H_Walk_isOpenBy 10 [some (.inr (.inr 95)), some (.inl (set : Int)), some (.inl i)] [] S1 Q := by
    refine lp_up (P := fun i S1 => Smm H_Walk_isOpenBy 10 [some (.inr (.inr 95)), some (.inl (set : Int)), some (.inl i)] [] S1 Q) _ w ?_ ?_
    · rintro i S1 hi ⟨hi2, hF1, hr⟩
      rw [show i.toNat = w by omega] at hr
      have hB1 := wkB_fr_l hB hF1 rfl
      have w1 : S1 95 1 = 0 := hB1.1
      have w2 : S1 63 0 = T 0 19 := hB1.2.1.1.1
      have w6 : S1 63 4 = n := by rw [← hn]; exact hB1.2.1.1.2.2.1
      have w7 : S1 63 5 = T 0 22 := hB1.2.1.1.2.2.2.1
      have go2 : ∀ Q' : Option AV → St → Prop, Q' (some (.inl (apF (T 0 21) (msk (tnM T (smM T f)) set) (T 0 19).toNat))) S1 → Smm H_Row_spread 0 [some (.inr (.inr 102)), some (.inl (n : Int)), none, none] [] S1 Q' := by
        intro Q' hq'
        refine t_spread_w S1 _ n Q' hr (by omega) hgm hn24 ?_
        rw [← hap]; exact hq'
      rw [← w6] at go2
      refine sound ok_Walk_isOpenBy [] 60 ?_
      refine ⟨fun _ => ?_, fun z => absurd (w1.symm.trans z) (by decide)⟩
      refine ⟨fun _ => ?_, fun z => absurd z (by rw [w2]; omega)⟩
      refine ⟨fun _ => ?_, fun z => absurd (w1.symm.trans z) (by decide)⟩
      refine go2 _ ?_
      refine ⟨fun _ => ?_, fun z => absurd (w1.symm.trans z) (by decide)⟩
      refine ⟨fun z => ⟨Or.inl rfl, h0 S1 hF1 ?_⟩, fun z => ⟨Or.inr rfl, h1 S1 hF1 ?_⟩⟩
      · rw [w7] at z
        exact decide_eq_false (Int.not_le.mpr z)
      · rw [w7] at z
        exact decide_eq_true z
    · rintro i S1 hi ⟨hi2, hF1, hr⟩ ih
      obtain ⟨k, rfl⟩ : ∃ k : Nat, i = k := ⟨i.toNat, by omega⟩
      rw [show ((k : Int)).toNat = k from rfl] at hr
      rw [show ((k : Int) + 1).toNat = k + 1 by omega, gaF] at ih
      have hB1 := wkB_fr_l hB hF1 rfl
      have w1 : S1 95 1 = 0 := hB1.1
      have w2 : S1 63 0 = T 0 19 := hB1.2.1.1.1
      have hni : ¬ S1 63 0 ≤ (k : Int) := by rw [w2]; omega
      have bk : 0 ≤ (k : Int) ∧ (k : Int) < 4 := by omega
      have hk1 : 0 ≤ (k : Int) + 1 ∧ (k : Int) + 1 ≤ w := by omega
      have et : S1 101 k = tnM T (smM T f) k := by rw [hF1.c 101 rfl]; exact (htb k (by omega) (by omega)).1
      have hlen := gaF_len (tnM T (smM T f)) (fun g => decide (¬ iand (ishr (set : Int) g) 1 = 0)) k
      have hsr := gaF_srtd (tnM T (smM T f)) (fun g => decide (¬ iand (ishr (set : Int) g) 1 = 0)) k
      have hlk : (gaF (tnM T (smM T f)) (fun g => decide (¬ iand (ishr (set : Int) g) 1 = 0)) k).length < 4 := by omega
      have e : (k : Int) + 1 = i32 ((k : Int) + 1) := i32_s' (by omega)
      have nx : ∀ S2, Fr [103] [(102, 1)] S S2 → rwI 102 103 S2 (if decide (¬ iand (ishr (set : Int) (k : Int)) 1 = 0) = true ∧ tnM T (smM T f) k < 1000000 then ins (tnM T (smM T f) k) (gaF (tnM T (smM T f)) (fun g => decide (¬ iand (ishr (set : Int) g) 1 = 0)) k) else gaF (tnM T (smM T f)) (fun g => decide (¬ iand (ishr (set : Int) g) 1 = 0)) k) → Smm H_Walk_isOpenBy 42 [some (.inr (.inr 95)), some (.inl (set : Int)), some (.inl (k : Int))] [] S2 Q := by
        intro S2 g1 g2
        refine sound ok_Walk_isOpenBy [10] 20 ?_
        exact Smm.sub (ih S2 ⟨hk1, g1, g2⟩) ⟨Or.inr rfl, Or.inr rfl, Or.inr (sI e), trivial⟩
      refine sound ok_Walk_isOpenBy [42] 40 ?_
      refine ⟨fun _ => ?_, fun z => absurd (w1.symm.trans z) (by decide)⟩
      refine ⟨fun z => absurd z hni, fun _ => ?_⟩
      refine ⟨fun z => nx S1 hF1 ?_, fun z => ?_⟩
      · rw [if_neg (fun y => absurd z (of_decide_eq_true y.1))]; exact hr
      · refine ⟨bk, ?_⟩
        refine t_put_w S1 _ _ _ hr hsr (Nat.le_of_lt hlk) (fun y => ?_) (fun g3 g4 S2 hF2 hr2 => ?_)
        · rw [et] at y
          refine nx S1 hF1 ?_
          rw [if_neg (fun q => by have := q.2; rcases y with y | y <;> omega)]; exact hr
        · rw [et] at g3 hr2
          refine nx S2 (hF1.tr hF2) ?_
          rw [if_pos ⟨decide_eq_true z, g3⟩]; exact hr2
  refine sound ok_Walk_isOpenBy [10] 20 ?_
  refine loop 0 (up S 102 1 0) ⟨by omega, (Fr.rf _ _ _).up _ _ _ rfl, ?_⟩
  exact ⟨by rw [up_s]; rfl, fun j hj => absurd hj (by simp [gaF])⟩
