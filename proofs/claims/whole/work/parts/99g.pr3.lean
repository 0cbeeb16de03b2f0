/-! a plan read, a plan added -/
theorem sk_end {t : Int → Int} {n a : Int} (ha : a ≤ n) (h : ch t n (sk t n a) = -1) (hb : ∀ j, 0 ≤ j → j < n → 1 ≤ t j) (h0 : 0 ≤ a) : sk t n a = n := by
  have h1 := sk_b t n a
  unfold ch at h
  by_cases z : sk t n a < n
  · rw [if_pos z] at h
    have := hb (sk t n a) (by omega) z
    omega
  · omega
set_option maxHeartbeats 4000000 in
theorem t_plRead (S : St) (Q : Option AV → St → Prop) (hT : tpX S) (hQ : ∀ S', Fr [56] [(43, 2), (43, 3), (55, 2), (55, 3), (55, 4), (55, 5)] S S' → ((rdT (S 44) (S 43 1)).1 = -1 → S' 55 2 = ((rdT (S 44) (S 43 1)).2.2.2.1.length : Nat) ∧ plA (S' 56) (rdT (S 44) (S 43 1)).2.2.2.1 ∧ S' 55 3 = (rdT (S 44) (S 43 1)).2.2.2.2) → Q (some (.inl (rdT (S 44) (S 43 1)).1)) S') : Smm H_PlanReader_read 0 [some (.inr (.inr 55)), none] [] S Q := by
  have hn := hT.1
  have hby := hT.2
  obtain ⟨t, ht⟩ : ∃ t, S 44 = t := ⟨_, rfl⟩
  obtain ⟨n, hnn⟩ : ∃ n, S 43 1 = n := ⟨_, rfl⟩
  rw [ht, hnn] at hQ hby
  rw [hnn] at hn
  generalize hR : rdT t n = R at hQ
  have bad81 : ∀ (S2 : St) (x1 : Option AV), Fr [56] [(43, 2), (43, 3), (55, 2), (55, 3), (55, 4), (55, 5)] S S2 → S2 43 3 = R.1 → ¬ R.1 = -1 → Smm H_PlanReader_read 81 [some (.inr (.inr 55)), x1] [] S2 Q := by
    intro S2 x1 hF h3 hne
    have hq := hQ S2 hF (fun z => absurd z hne)
    rw [← h3] at hq hne
    have f95 : Smm H_PlanReader_read 95 [some (.inr (.inr 55)), x1] [] S2 Q := by
      refine sound ok_PlanReader_read [] 20 ?_
      exact t_xFail S2 _ _ (fun z => absurd z hne) (fun _ => hq)
    refine sound ok_PlanReader_read [95] 20 ?_
    refine ⟨fun _ => f95, fun _ => ?_⟩
    exact ⟨fun _ => hq, fun _ => f95⟩
  have bad : ∀ (S2 : St) (i2 : Int), Fr [56] [(43, 2), (43, 3), (55, 2), (55, 3), (55, 4), (55, 5)] S S2 → S2 43 3 = R.1 → ¬ R.1 = -1 → Smm H_PlanReader_read 29 [some (.inr (.inr 55)), some (.inl i2)] [] S2 Q := by
    intro S2 i2 hF h3 hne
    refine sound ok_PlanReader_read [81] 20 ?_
    refine ⟨fun _ => bad81 S2 _ hF h3 hne, fun _ => ?_⟩
    exact t_xFine S2 _ (fun z => absurd (h3.symm.trans z) hne) (fun _ => ⟨fun _ => bad81 S2 _ hF h3 hne, fun z => absurd rfl z⟩)
  -- at the end of the tape
  have fin : ∀ (S2 : St) (x1 : Option AV) (A inner lt : Int) (u : Bool) (xc : List Int), Fr [56] [(43, 2), (43, 3), (55, 2), (55, 3), (55, 4), (55, 5)] S S2 → S2 43 3 = -1 → prR A u inner xc lt S2 → ((u = true ∨ 0 < inner) → R.1 = n) → (u = false → ¬ 0 < inner → R.1 = -1 ∧ R.2.2.2 = (xc, lt)) → Smm H_PlanReader_read 81 [some (.inr (.inr 55)), x1] [] S2 Q := by
    rintro S2 x1 A inner lt u xc hF h3 ⟨r1, r2, r3, r4, r5, r6⟩ hb hg
    have eN : S2 43 1 = n := by rw [hF.s 43 1 rfl]; exact hnn
    have f95 : (u = true ∨ 0 < inner) → Smm H_PlanReader_read 95 [some (.inr (.inr 55)), x1] [] S2 Q := by
      intro hz
      have hR1 := hb hz
      refine sound ok_PlanReader_read [] 20 ?_
      refine t_xFail S2 _ _ (fun _ => ?_) (fun z => absurd h3 z)
      have hq := hQ (up S2 43 3 (S2 43 1)) (hF.up _ _ _ rfl) (fun z => absurd (hR1.symm.trans z) (by omega))
      have e : up S2 43 3 (S2 43 1) 43 3 = R.1 := by rw [up_s, eN, hR1]
      rw [← e] at hq
      exact hq
    refine sound ok_PlanReader_read [95] 20 ?_
    refine ⟨fun z => f95 (Or.inl ?_), fun z => ?_⟩
    · rw [r6] at z
      cases u
      · exact absurd rfl z
      · rfl
    · rw [r6] at z
      have hu : u = false := by
        cases u
        · rfl
        · exact absurd z (by decide)
      refine ⟨fun y => ?_, fun y => f95 (Or.inr (by rw [r2] at y; exact y))⟩
      rw [r2] at y
      obtain ⟨g1, g2⟩ := hg hu (by omega)
      have hq := hQ S2 hF (fun _ => by rw [g2]; exact ⟨r3, r4, r5⟩)
      rw [g1, ← h3] at hq
      exact hq
  have loop : ∀ (d i : Nat) (u : Bool) (q : PT) (S1 : St), Fr [56] [(43, 2), (43, 3), (55, 2), (55, 3), (55, 4), (55, 5)] S S1 → prR q.1.1 u q.1.2 q.2.2.1 q.2.2.2 S1 → S1 43 3 = -1 → 0 ≤ q.1.1 → q.1.1 ≤ n → 0 ≤ q.1.2 → q.1.2 ≤ 6 → (q.2.2.1.length : Int) ≤ q.1.1 → (i : Int) ≤ q.1.1 → n - q.1.1 < d → R = plR t n d u q → Smm H_PlanReader_read 29 [some (.inr (.inr 55)), some (.inl (i : Int))] [] S1 Q := by
    intro d
    induction d with
    | zero => intro i u q S1 _ _ _ h0 h1 _ _ _ _ hd; exact absurd hd (by omega)
    | succ d ih =>
      rintro i u ⟨⟨a, inner⟩, ⟨wt, rc⟩, ⟨xc, lt⟩⟩ S1 hF hpr h3 h0 h1 hi0 hi6 hxl hi hd hr
      dsimp only at *
      have eT : S1 44 = t := by rw [hF.c 44 rfl]; exact ht
      have eN : S1 43 1 = n := by rw [hF.s 43 1 rfl]; exact hnn
      obtain ⟨p, hp⟩ : ∃ p, sk t n a = p := ⟨_, rfl⟩
      obtain ⟨c, hc⟩ : ∃ c, ch t n p = c := ⟨_, rfl⟩
      have hpb := sk_b t n a
      rw [hp] at hpb
      have hskp : sk t n p = p := by rw [← hp]; exact sk_sk _ _ _
      -- nothing is left
      have out : c = -1 → ∀ S2, Fr [56] [(43, 2), (43, 3), (55, 2), (55, 3), (55, 4), (55, 5)] S S2 → S2 43 3 = -1 → (∃ A, prR A u inner xc lt S2) → Smm H_PlanReader_read 81 [some (.inr (.inr 55)), some (.inl (i : Int))] [] S2 Q := by
        rintro hcm S2 hF2 b3 ⟨A, hA⟩
        have hpn : p = n := by
          rw [← hp]
          exact sk_end h1 (by rw [hp, hc]; exact hcm) (fun j j0 j1 => (hby j j0 j1).1) h0
        rw [hcm] at hc
        refine fin S2 _ A inner lt u xc hF2 b3 hA (fun hz => ?_) (fun hu hz => ?_)
        · cases u
          · have hz2 : 0 < inner := hz.elim (fun q => absurd q (by decide)) id
            rw [plR] at hr
            dsimp only at hr
            rw [hp, hc, if_neg (by omega), if_pos rfl, if_pos hz2] at hr
            rw [hr]
          · rw [plR] at hr
            dsimp only at hr
            rw [hp, hc, if_neg (by omega), if_neg (by omega)] at hr
            rw [hr]
            exact hpn
        · subst hu
          rw [plR] at hr
          dsimp only at hr
          rw [hp, hc, if_neg (by omega), if_pos rfl, if_neg hz] at hr
          rw [hr]
          exact ⟨rfl, rfl⟩
      refine sound ok_PlanReader_read [29, 81] 40 ?_
      refine ⟨fun z => ?_, fun z => ?_⟩
      · refine out ?_ S1 hF h3 ⟨a, hpr⟩
        rw [← hc]
        unfold ch
        rw [if_neg (by omega)]
      refine t_xFine S1 _ (fun _ => ?_) (fun y => absurd h3 y)
      refine ⟨fun y => absurd y (by decide), fun _ => ?_⟩
      have goN := fun Q' hq' => t_xNext S1 Q' (by rw [hpr.1]; exact h0) (by rw [eN]; exact hn.2) hq'
      rw [eT, eN, hpr.1, hp, hc] at goN
      refine goN _ ?_
      have hF2 : Fr [] [(43, 2)] S1 (up S1 43 2 p) := (Fr.rf _ _ _).up _ _ _ rfl
      have hFS2 : Fr [56] [(43, 2), (43, 3), (55, 2), (55, 3), (55, 4), (55, 5)] S (up S1 43 2 p) := hF.tr (hF2.mo rfl rfl)
      have hpr2 : prR p u inner xc lt (up S1 43 2 p) := ⟨up_s _ _ _ _, by rw [hF2.c 55 rfl]; exact hpr.2.1, by rw [hF2.c 55 rfl]; exact hpr.2.2.1, by rw [hF2.c 56 rfl]; exact hpr.2.2.2.1, by rw [hF2.c 55 rfl]; exact hpr.2.2.2.2.1, by rw [hF2.c 55 rfl]; exact hpr.2.2.2.2.2⟩
      have g3 : up S1 43 2 p 43 3 = -1 := by rw [hF2.s 43 3 rfl]; exact h3
      have gT : up S1 43 2 p 44 = t := by rw [hF2.c 44 rfl]; exact eT
      have gN : up S1 43 2 p 43 1 = n := by rw [hF2.s 43 1 rfl]; exact eN
      refine ⟨fun y => out y _ hFS2 g3 ⟨p, hpr2⟩, fun hc1 => ?_⟩
      have hpn := at_n hc hc1
      have hxl2 : xc.length < 160 := by omega
      have e : ((i + 1 : Nat) : Int) = i32 ((i : Int) + 1) := i32_s (by omega)
      have g5 : up S1 43 2 p 55 5 = if u = true then 1 else 0 := hpr2.2.2.2.2.2
      have nx : ∀ {S2 : St}, Smm H_PlanReader_read 29 [some (.inr (.inr 55)), some (.inl ((i + 1 : Nat) : Int))] [] S2 Q → Smm H_PlanReader_read 29 [some (.inr (.inr 55)), some (.inl (i32 ((i : Int) + 1)))] [] S2 Q := fun h => Smm.sub h ⟨Or.inr rfl, Or.inr (sI e), trivial⟩
      refine ⟨fun hu => ?_, fun hu => ?_⟩
      · have hu2 : u = false := by
          rw [g5] at hu
          cases u
          · rfl
          · exact absurd hu (by decide)
        subst hu2
        rw [plR] at hr
        dsimp only at hr
        rw [hp, hc] at hr
        have goB := fun Q' hA hB hD => t_rBehind (up S1 43 2 p) p c inner lt xc Q' (tp_fr hT hFS2 rfl rfl) hpr2 (by clear e; omega) (by rw [gT, gN]; exact hskp) (by rw [gT, gN]; exact hc) hc1 g3 ⟨hi0, hi6⟩ hxl2 hA hB hD
        refine goB _ (fun hz S2 hF3 b3 hp2 => ?_) (fun hz S2 hF3 b3 hp2 => ?_) (fun hz hy S2 hF3 b3 => ?_)
        · rw [if_pos hz] at hr
          refine nx (ih (i + 1) false _ S2 (hFS2.tr hF3) hp2 b3 ?_ ?_ ?_ ?_ ?_ ?_ ?_ hr) <;> dsimp only <;> (try rw [List.length_cons]) <;> clear e <;> omega
        · rw [if_neg (fun q => by rcases hz with z | z <;> exact absurd (z.symm.trans q.1) (by decide)), if_neg hc1, if_pos hz] at hr
          refine nx (ih (i + 1) true _ S2 (hFS2.tr hF3) hp2 b3 ?_ ?_ ?_ ?_ ?_ ?_ ?_ hr) <;> dsimp only
          · clear e; omega
          · clear e; omega
          · exact hi0
          · exact hi6
          · split
            · rw [List.length_cons]; clear e; omega
            · clear e; omega
          · clear e; omega
          · clear e; omega
        · rw [if_neg hz, if_neg hc1, if_neg hy] at hr
          refine nx (bad S2 _ (hFS2.tr hF3) (by rw [b3, hr]) (by rw [hr]; show ¬ p = -1; clear e; omega))
      · have hu2 : u = true := by
          rw [g5] at hu
          cases u
          · exact absurd rfl hu
          · rfl
        subst hu2
        rw [plR] at hr
        dsimp only at hr
        rw [hp, hc] at hr
        have hs2 := sk_b t n (p + 1)
        have goU := fun Q' hA hB hC hD => t_rUnit (up S1 43 2 p) p c inner lt xc Q' (tp_fr hT hFS2 rfl rfl) hpr2 (by clear e; omega) (by rw [gT, gN]; exact hskp) (by rw [gT, gN]; exact hc) hc1 g3 ⟨hi0, hi6⟩ hxl2 hA hB hC hD
        rw [gT, gN] at goU
        refine goU _ (fun hz S2 hF3 b3 hp2 => ?_) (fun hz hy h43 S2 hF3 b3 hp2 => ?_) (fun hz hy h43 S2 W hF3 hW b3 hp2 => ?_) (fun hz hy S2 hF3 b3 => ?_)
        · rw [if_pos hz] at hr
          refine nx (ih (i + 1) true _ S2 (hFS2.tr hF3) hp2 b3 ?_ ?_ ?_ ?_ ?_ ?_ ?_ hr) <;> dsimp only <;> (try rw [List.length_cons]) <;> clear e <;> omega
        · rw [if_neg hz, if_pos hy, if_neg h43] at hr
          refine nx (ih (i + 1) false _ S2 (hFS2.tr hF3) hp2 b3 ?_ ?_ ?_ ?_ ?_ ?_ ?_ hr) <;> dsimp only <;> (try rw [List.length_cons]) <;> clear e <;> omega
        · rw [if_neg hz, if_pos hy, if_pos h43] at hr
          by_cases w : W = -1
          · rw [if_pos (hW.symm.trans w)] at hr
            have hf := nm_fine (t := t) (n := n) (lo := 0) (hi := 99) (a := sk t n (p + 1) + 1) (by clear e; omega) (hW.symm.trans w)
            refine nx (ih (i + 1) false _ S2 (hFS2.tr hF3) (hp2 w) (by rw [b3]; exact w) ?_ ?_ ?_ ?_ ?_ ?_ ?_ hr) <;> dsimp only <;> (try rw [List.length_cons]) <;> clear e <;> omega
          · rw [if_neg (fun q => w (hW.trans q))] at hr
            refine nx (bad S2 _ (hFS2.tr hF3) (by rw [b3, hr]; exact hW) (by rw [hr]; exact fun q => w (hW.trans q)))
        · rw [if_neg hz, if_neg hy] at hr
          refine nx (bad S2 _ (hFS2.tr hF3) (by rw [b3, hr]) (by rw [hr]; show ¬ p = -1; clear e; omega))
  refine sound ok_PlanReader_read [29] 40 ?_
  refine t_xRewind S _ ?_
  refine ⟨Or.inr rfl, ?_⟩
  have hF0 : Fr [56] [(43, 2), (43, 3), (55, 2), (55, 3), (55, 4), (55, 5)] S (up (up (up (up (up (up S 43 2 0) 43 3 (-1)) 55 2 0) 55 3 0) 55 4 0) 55 5 1) := ((((((Fr.rf _ _ _).up _ _ _ rfl).up _ _ _ rfl).up _ _ _ rfl).up _ _ _ rfl).up _ _ _ rfl).up _ _ _ rfl
  obtain ⟨m, hm⟩ : ∃ m : Nat, n = m := ⟨n.toNat, by omega⟩
  refine loop (m + 1) 0 true q0 _ hF0 ⟨by simp [upr, q0], by simp [upr, q0], by simp [upr, q0], plA_nil _, by simp [upr, q0], by simp [upr]⟩ (by simp [upr]) (Int.le_refl _) hn.1 (Int.le_refl _) (by decide) (Int.le_refl _) (Int.le_refl _) (by show n - 0 < _; omega) ?_
  rw [← hR]
  unfold rdT
  rw [show (n + 1).toNat = m + 1 by omega]
theorem pa160 {c : Int} (h : 0 ≤ c ∧ c < 8) : i32 (c * 160) = 160 * c := by rw [i32_id (by omega) (by omega)]; omega
theorem t_plAdd (S : St) (c : Int) (Q : Option AV → St → Prop) (hcc : S 57 3 = c) (hc : 0 ≤ c ∧ c < 8) (hs : 0 ≤ S 55 2 ∧ S 55 2 ≤ 160) (hQ : ∀ S', Fr [58, 59, 60] [(57, 3)] S S' → S' 57 3 = c + 1 → (∀ j, S' 59 j = if j = c then S 55 2 else S 59 j) → (∀ j, S' 60 j = if j = c then S 55 3 else S 60 j) → (∀ j, S' 58 j = if 160 * c ≤ j ∧ j < 160 * c + S 55 2 then S 56 (j - 160 * c) else S 58 j) → Q none S') : Smm H_Plans_add 0 [some (.inr (.inr 57)), some (.inr (.inr 55))] [] S Q := by
  subst hcc
  have hng : ¬ 8 ≤ S 57 3 := by omega
  have hb : (0 : Int) ≤ 0 ∧ 0 ≤ 160 * S 57 3 ∧ 0 ≤ S 55 2 ∧ 0 + S 55 2 ≤ 160 ∧ 160 * S 57 3 + S 55 2 ≤ 1280 := by omega
  have e1 : i32 (S 57 3 + 1) = S 57 3 + 1 := i32_id (by omega) (by omega)
  have e2 := pa160 hc
  have hq := hQ (up (up (up (cpS S 56 0 58 (160 * S 57 3) (S 55 2)) 59 (S 57 3) (S 55 2)) 60 (S 57 3) (S 55 3)) 57 3 (S 57 3 + 1)) (((((Fr.rf _ _ S).cp _ _ _ _ _ rfl).up _ _ _ rfl).up _ _ _ rfl).up _ _ _ rfl) (up_s _ _ _ _) (fun j => ?_) (fun j => ?_) (fun j => ?_)
  · rw [← e2, ← e1] at hq
    rw [← e2] at hb
    refine sound ok_Plans_add [] 60 ?_
    refine ⟨fun z => absurd z hng, fun _ => ?_⟩
    refine ⟨hb, ?_⟩
    refine ⟨hc, ?_⟩
    refine ⟨hc, ?_⟩
    exact hq
  · rw [up_o _ _ _ (by decide), up_o _ _ _ (by decide)]
    by_cases z : j = S 57 3
    · rw [if_pos z, z, up_s]
    · rw [if_neg z, up_n _ _ _ z, cp_o _ _ _ _ _ (by decide)]
  · rw [up_o _ _ _ (by decide)]
    by_cases z : j = S 57 3
    · rw [if_pos z, z, up_s]
    · rw [if_neg z, up_n _ _ _ z, up_o _ _ _ (by decide), cp_o _ _ _ _ _ (by decide)]
  · rw [up_o _ _ _ (by decide), up_o _ _ _ (by decide), up_o _ _ _ (by decide), cpS_c]
    show (if _ then _ else _) = _
    by_cases z : 160 * S 57 3 ≤ j ∧ j < 160 * S 57 3 + S 55 2
    · rw [if_pos z, if_pos z, Int.zero_add]
    · rw [if_neg z, if_neg z]
