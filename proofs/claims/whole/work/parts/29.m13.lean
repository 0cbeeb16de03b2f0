/-! the reference: laysWay, turnsAt, opens; route -/
/-- the off of sign s in these digits -/
def dgF (offs n : Int) (s : Int) : Int := offs / 10 ^ (n - 1 - s).toNat % 10 - 3
def okD (offs n : Int) (err : Int → Int) : Prop := 0 ≤ offs ∧ (∀ s, 0 ≤ s → s < n → -err s ≤ dgF offs n s ∧ dgF offs n s ≤ err s) ∧ offs / 10 ^ n.toNat = 0
theorem p10 (d : Nat) : 0 < (10 : Int) ^ d := Int.pow_pos (by omega)
theorem div10 {a : Int} (d : Nat) : a / 10 ^ d / 10 = a / 10 ^ (d + 1) := by
  rw [Int.pow_succ, Int.ediv_ediv_of_nonneg (Int.le_of_lt (p10 d))]
theorem div10_b {a : Int} (h : 0 ≤ a) (d : Nat) : 0 ≤ a / 10 ^ d ∧ a / 10 ^ d ≤ a := ⟨Int.ediv_nonneg h (Int.le_of_lt (p10 d)), Int.ediv_le_self _ h⟩
set_option maxHeartbeats 1000000 in
theorem t_M_laysWay (S : St) (offs : Int) (Q : Option AV → St → Prop) (hc : i32 offs = offs) (hL : ¬ S 0 18 = 0 → ldM S) (hp : plM S)
    (h0 : ∀ S', Fr [17, 18, 19, 20, 21, 22, 23, 24, 25, 26, 27, 28, 29, 31] [(0, 0), (0, 38)] S S' → ¬ (¬ S 0 18 = 0 ∧ okD offs (S 0 20) (S 11)) → Q (some (.inl 0)) S')
    (h1 : ∀ S', Fr [21, 22, 23, 24, 25] [] (tl S) S' → ¬ S 0 18 = 0 ∧ okD offs (S 0 20) (S 11) → Wy S' (dgF offs (S 0 20)) → Q (some (.inl 1)) S') : Smm H_M_laysWay 0 [some (.inr (.inr 0)), some (.inl offs), none, none] [] (th S) Q := by
  have e18 : th S 0 18 = S 0 18 := th_0 S (by decide)
  have hc2 := can32.mp hc
  refine sound ok_M_laysWay [26] 60 ?_
  refine ⟨fun z => ⟨Or.inl rfl, h0 _ (th_fr S) (fun q => q.1 (e18 ▸ z))⟩, fun hl => ?_⟩
  replace hl : ¬ S 0 18 = 0 := fun z => hl (e18.trans z)
  have hl0 := hL hl
  have hA := tl_mAs hl0 hp
  have hn5 := hl0.2.1
  have p20 : tl S 0 20 = S 0 20 := tl_0 S (by decide) (by decide)
  have p11 : tl S 11 = S 11 := by unfold tl; rw [asS_c _ (by decide), th_c S (by decide)]
  refine ⟨fun hge => ?_, fun z => ⟨Or.inl rfl, h0 _ (th_fr S) (fun q => absurd q.2.1 (by omega))⟩⟩
  refine t_M_asTold (th S) _ (by rw [th_0 S (by decide)]; omega) (by rw [th_0 S (by decide)]; have := hl0.1; omega) ?_
  have hfr : ∀ T, Fr [21] [] (tl S) T → Fr [17, 18, 19, 20, 21, 22, 23, 24, 25, 26, 27, 28, 29, 31] [(0, 0), (0, 38)] S T := fun T h => (tl_fr S).tr (h.mo rfl rfl)
  have loop : ∀ (i : Int) (T : St), ((-1 ≤ i ∧ i < S 0 20) ∧ Fr [21] [] (tl S) T ∧ ∀ s, i < s → s < S 0 20 → T 21 s = dgF offs (S 0 20) s ∧ -S 11 s ≤ dgF offs (S 0 20) s ∧ dgF offs (S 0 20) s ≤ S 11 s) → Smm H_M_laysWay 26 [some (.inr (.inr 0)), some (.inl offs), some (.inl (offs / 10 ^ (S 0 20 - 1 - i).toNat)), some (.inl i)] [] T Q := by
    refine lp_dn (P := fun i T => Smm H_M_laysWay 26 [some (.inr (.inr 0)), some (.inl offs), some (.inl (offs / 10 ^ (S 0 20 - 1 - i).toNat)), some (.inl i)] [] T Q) _ ?_ ?_
    · rintro i T hi ⟨hi2, hF, ho⟩
      have hd := div10_b hge (S 0 20 - 1 - i).toNat
      have q20 : T 0 20 = S 0 20 := by rw [hF.c 0 rfl, p20]
      have hSm : Sm (tl S) T := Sm.of hF rfl
      have hA' := mAs_sm hSm hA
      rw [show (S 0 20 - 1 - i).toNat = (S 0 20).toNat by omega] at hd ⊢
      refine sound ok_M_laysWay [] 60 ?_
      refine ⟨fun h3 => ?_, fun z => absurd z (by omega)⟩
      refine ⟨fun h4 => ?_, fun h4 => ?_⟩
      · have hok : okD offs (S 0 20) (S 11) := ⟨hge, fun s s0 s1 => (ho s (by omega) s1).2, by omega⟩
        have hof : ofOk (T 0 20) (T 21) := fun s s0 s1 => by
          rw [q20] at s1
          obtain ⟨a1, a2, a3⟩ := ho s (by omega) s1
          have := hl0.2.2.2.1 s s0 s1
          rw [a1]; omega
        refine t_M_goes T _ hA'.1 hof (fun T2 hF2 hs ht => ?_)
        have hSm2 : Sm T T2 := Sm.of hF2 rfl
        have esn : smM T (T 21) = smM T (dgF offs (S 0 20)) := by
          unfold smM
          exact snF_congr _ (fun j hj => (ho j (by omega) (by omega)).1)
        refine ⟨Or.inr rfl, h1 T2 ((hF.mo rfl rfl).tr (hF2.mo rfl rfl)) ⟨hl, hok⟩ ⟨fun j j0 j1 => ?_, fun j j0 j1 => ?_, fun g g0 g1 => ?_⟩⟩
        · rw [hF2.c 21 rfl]
          exact (ho j (by omega) (by rw [hSm2.1, q20] at j1; exact j1)).1
        · rw [hs j j0 (by rw [hSm2.1] at j1; exact j1), smM_sm hSm2, esn]
        · rw [ht g g0 (by rw [hSm2.1] at g1; exact g1), smM_sm hSm2, tnM_sm hSm2, esn]
      · exact ⟨Or.inl rfl, h0 T (hfr T hF) (fun z => absurd z.2.2.2 (by omega))⟩
    · rintro i T hi ⟨hi2, hF, ho⟩ ih
      have hd := div10_b hge (S 0 20 - 1 - i).toNat
      have hdd := div10 (a := offs) (S 0 20 - 1 - i).toNat
      rw [show (S 0 20 - 1 - i).toNat + 1 = (S 0 20 - 1 - (i - 1)).toNat by omega] at hdd
      have hdg : dgF offs (S 0 20) i = offs / 10 ^ (S 0 20 - 1 - i).toNat % 10 - 3 := rfl
      generalize hleft : offs / 10 ^ (S 0 20 - 1 - i).toNat = left at hd hdd hdg ⊢
      have e1 : irem left 10 = left % 10 := irem_pos hd.1 (by omega) (by omega) (by omega)
      have e2 : idiv left 10 = left / 10 := idiv_pos hd.1 (by omega) (by omega) (by omega)
      have e3 : i32 (irem left 10 - 3) = dgF offs (S 0 20) i := by rw [e1, hdg]; exact i32_id (by omega) (by omega)
      have hF2 := hF.up 21 i (i32 (irem left 10 - 3)) rfl
      have eo : up T 21 i (i32 (irem left 10 - 3)) 21 i = dgF offs (S 0 20) i := by rw [up_s, e3]
      have ee : up T 21 i (i32 (irem left 10 - 3)) 11 i = S 11 i := by rw [hF2.c 11 rfl, p11]
      have herr := hl0.2.2.2.1 i (by omega) (by omega)
      have en : i32 (-S 11 i) = -S 11 i := i32_id (by omega) (by omega)
      have bad : ¬ (-S 11 i ≤ dgF offs (S 0 20) i ∧ dgF offs (S 0 20) i ≤ S 11 i) → Q (some (.inl 0)) (up T 21 i (i32 (irem left 10 - 3))) := fun hz => h0 _ (hfr _ hF2) (fun z => hz (z.2.2.1 i (by omega) (by omega)))
      refine sound ok_M_laysWay [26] 60 ?_
      refine ⟨fun z => absurd z (by omega), fun _ => ?_⟩
      refine ⟨by decide, ?_⟩
      refine ⟨by omega, ?_⟩
      refine ⟨by decide, ?_⟩
      refine ⟨by omega, ?_⟩
      refine ⟨by omega, ?_⟩
      refine ⟨fun h3 => ?_, fun h3 => ?_⟩
      · rw [eo, ee] at h3
        exact ⟨Or.inl rfl, bad (by omega)⟩
      · rw [eo, ee] at h3
        refine ⟨by omega, ?_⟩
        refine ⟨by omega, ?_⟩
        refine ⟨fun h4 => ?_, fun h4 => ?_⟩
        · rw [eo, ee, en] at h4
          refine Smm.sub (ih _ ⟨by omega, hF2, fun s s0 s1 => ?_⟩) ⟨Or.inr rfl, Or.inr rfl, Or.inr (sI (by rw [e2, hdd])), Or.inr (sI ((i32_id (by omega) (by omega)).symm)), trivial⟩
          by_cases hs : s = i
          · subst hs
            exact ⟨eo, by omega, by omega⟩
          · rw [up_n _ _ _ hs]
            exact ho s (by omega) s1
        · rw [eo, ee, en] at h4
          exact ⟨Or.inl rfl, bad (by omega)⟩
  refine Smm.sub (loop (S 0 20 - 1) (tl S) ⟨by omega, Fr.rf _ _ _, fun s s0 s1 => by omega⟩) ⟨Or.inr rfl, Or.inr rfl, Or.inr (sI ?_), Or.inr (sI ?_), trivial⟩
  · rw [show (S 0 20 - 1 - (S 0 20 - 1)).toNat = 0 by omega, Int.pow_zero, Int.ediv_one]
  · show S 0 20 - 1 = i32 (tl S 0 20 - 1)
    rw [p20]
    exact (i32_id (by omega) (by omega)).symm
theorem dg_of {S : St} (hl0 : ldM S) {offs : Int} (h : okD offs (S 0 20) (S 11)) : ofOk (tl S 0 20) (dgF offs (S 0 20)) := fun s s0 s1 => by
  rw [tl_0 S (by decide) (by decide)] at s1
  have h2 := h.2.1 s s0 s1
  have := hl0.2.2.2.1 s s0 s1
  omega
noncomputable def aM_turnsAt (S : St) (offs g : Int) : Int := @ite Int (¬ (¬ S 0 18 = 0 ∧ 0 ≤ g ∧ g < S 0 19) ∨ ¬ okD offs (S 0 20) (S 11)) (Classical.propDecidable _) (-1000000) (if tnM (tl S) (smM (tl S) (dgF offs (S 0 20))) g = 1000000 then -1000000 else tnM (tl S) (smM (tl S) (dgF offs (S 0 20))) g)
theorem t_M_turnsAt (S : St) (offs g : Int) (Q : Option AV → St → Prop) (hc : i32 offs = offs) (hL : ¬ S 0 18 = 0 → ldM S) (hp : plM S) (hQ : ∀ S', Fr [17, 18, 19, 20, 21, 22, 23, 24, 25, 26, 27, 28, 29, 31] [(0, 0), (0, 38)] S S' → Q (some (.inl (aM_turnsAt S offs g))) S') : Smm H_M_turnsAt 0 [some (.inr (.inr 0)), some (.inl offs), some (.inl g)] [] S Q := by
  have e18 : th S 0 18 = S 0 18 := th_0 S (by decide)
  have e19 : th S 0 19 = S 0 19 := th_0 S (by decide)
  have no : (¬ (¬ S 0 18 = 0 ∧ 0 ≤ g ∧ g < S 0 19) ∨ ¬ okD offs (S 0 20) (S 11)) → ∀ S', Fr [17, 18, 19, 20, 21, 22, 23, 24, 25, 26, 27, 28, 29, 31] [(0, 0), (0, 38)] S S' → Q (some (.inl (-1000000))) S' := fun hz S' hF => by
    have := hQ S' hF
    unfold aM_turnsAt at this
    rwa [if_pos hz] at this
  refine sound ok_M_turnsAt [] 60 ?_
  refine t_M_isGuard (th S) g _ (fun h1 => ?_) (fun h1 => ?_)
  · rw [e18, e19] at h1
    refine ⟨fun z => absurd z (by decide), fun _ => ?_⟩
    refine t_M_laysWay S offs _ hc hL hp (fun S' hF hz => ?_) (fun S' hF hz hW => ?_)
    · exact ⟨fun _ => no (Or.inr (fun z => hz ⟨h1.1, z⟩)) S' hF, fun z => absurd rfl z⟩
    · refine ⟨fun z => absurd z (by decide), fun _ => ?_⟩
      have hl0 := hL h1.1
      have hk := hl0.1
      have hSm : Sm (tl S) S' := Sm.of hF rfl
      have q19 : S' 0 19 = S 0 19 := by rw [hSm.1, tl_0 S (by decide) (by decide)]
      have hv := hW.2.2 g h1.2.1 (by rw [q19]; exact h1.2.2)
      rw [smM_sm hSm, tnM_sm hSm] at hv
      have hq := hQ S' ((tl_fr S).tr (hF.mo rfl rfl))
      unfold aM_turnsAt at hq
      rw [if_neg (fun z => by rcases z with z | z; exact z h1; exact z hz.2), ← hv] at hq
      refine ⟨by omega, ?_⟩
      refine ⟨fun h3 => ?_, fun h3 => ?_⟩
      · refine ⟨by omega, ?_⟩
        rw [if_neg h3] at hq
        exact hq
      · rw [if_pos h3] at hq
        exact hq
  · rw [e18, e19] at h1
    exact ⟨fun _ => no (Or.inl h1) _ (th_fr S), fun z => absurd rfl z⟩
noncomputable def aM_opens (S : St) (offs : Int) : Int := @ite Int (¬ (¬ S 0 18 = 0 ∧ okD offs (S 0 20) (S 11))) (Classical.propDecidable _) (-1) (if opM (tl S) (dgF offs (S 0 20)) then 1 else 0)
theorem t_M_opens (S : St) (offs : Int) (Q : Option AV → St → Prop) (hc : i32 offs = offs) (hL : ¬ S 0 18 = 0 → ldM S) (hp : plM S) (hQ : ∀ S', Fr [17, 18, 19, 20, 21, 22, 23, 24, 25, 26, 27, 28, 29, 31] [(0, 0), (0, 38)] S S' → Q (some (.inl (aM_opens S offs))) S') : Smm H_M_opens 0 [some (.inr (.inr 0)), some (.inl offs)] [] S Q := by
  refine sound ok_M_opens [] 60 ?_
  refine t_M_laysWay S offs _ hc hL hp (fun S' hF hz => ?_) (fun S' hF hz hW => ?_)
  · refine ⟨fun z => absurd rfl z, fun _ => ?_⟩
    have hq := hQ S' hF
    unfold aM_opens at hq
    rw [if_pos hz] at hq
    exact hq
  · refine ⟨fun _ => ?_, fun z => absurd z (by decide)⟩
    have hl0 := hL hz.1
    have hA := tl_mAs hl0 hp
    have hSm : Sm (tl S) S' := Sm.of hF rfl
    have hA' := mAs_sm hSm hA
    have hap := Wy_ap hA' hW
    rw [apM_sm hSm] at hap
    have hbd : ∀ g, 0 ≤ g → g < S' 0 19 → S' 23 g = 1000000 ∨ (-1000 ≤ S' 23 g ∧ S' 23 g ≤ 2000) := fun g g0 g1 => by
      rw [hW.2.2 g g0 g1, smM_sm hSm, tnM_sm hSm]
      have := tnM_b hA.1 (dg_of hl0 hz.2) g0 (by have := hA'.1.2.1; omega)
      omega
    have hq : ∀ S2, Fr [17, 18, 19, 20, 21, 22, 23, 24, 25, 26, 27, 28, 29, 31] [(0, 0), (0, 38)] S S2 → Q (some (.inl (if opM (tl S) (dgF offs (S 0 20)) then 1 else 0))) S2 := fun S2 hF2 => by
      have hq := hQ S2 hF2
      unfold aM_opens at hq
      rwa [if_neg (fun z => z hz)] at hq
    refine t_M_doesOpen S' _ hA'.1.2.1 ⟨hA'.2.1.2.1, hA'.2.1.2.2.1⟩ hbd (fun T2 hF2 hop => ?_) (fun T2 hF2 hop => ?_)
    · rw [hap, hSm.1] at hop
      have ho : opM (tl S) (dgF offs (S 0 20)) = true := decide_eq_true hop
      refine ⟨fun z => absurd z (by decide), fun _ => ?_⟩
      have := hq T2 (((tl_fr S).tr (hF.mo rfl rfl)).tr (hF2.mo rfl rfl))
      rw [ho] at this
      exact this
    · rw [hap, hSm.1] at hop
      have ho : opM (tl S) (dgF offs (S 0 20)) = false := decide_eq_false hop
      refine ⟨fun _ => ?_, fun z => absurd rfl z⟩
      have := hq T2 (((tl_fr S).tr (hF.mo rfl rfl)).tr (hF2.mo rfl rfl))
      rw [ho] at this
      exact this
/-- behind how many a sign goes out -/
def chN (beh : Int → Int) : Nat → Int → Int
  | 0, _ => 0
  | d + 1, s => if beh s < 0 then 0 else chN beh d (beh s) + 1
theorem chN_st {beh : Int → Int} {n : Int} (hb : ∀ i, 0 ≤ i → i < n → beh i < i) : ∀ (d : Nat) (s : Int), 0 ≤ s → s < n → s < d → chN beh (d + 1) s = chN beh d s
  | 0, s, h0, _, h => by omega
  | d + 1, s, h0, h1, h => by
    rw [chN]
    conv => rhs; rw [chN]
    by_cases hz : beh s < 0
    · rw [if_pos hz, if_pos hz]
    · have := hb s h0 h1
      rw [if_neg hz, if_neg hz, chN_st hb d (beh s) (by omega) (by omega) (by omega)]
/-- the time of a sign without errors -/
def rtS (S : St) : Int → Int := snF (S 12) (S 13) (S 10) (S 14) 0 (fun _ => 0) (S 0 20).toNat
theorem snF_at {beh snd ap al : Int → Int} {gone : Int} {off : Int → Int} {n : Nat} (hb : ∀ i : Int, 0 ≤ i → i < n → beh i < i) {i : Int} (h0 : 0 ≤ i) (h1 : i < n) : snF beh snd ap al gone off n i = sgv beh snd ap al gone off (snF beh snd ap al gone off n) i := by
  obtain ⟨k, rfl⟩ : ∃ k : Nat, i = k := ⟨i.toNat, by omega⟩
  obtain ⟨d, rfl⟩ : ∃ d : Nat, n = (k + 1) + d := ⟨n - (k + 1), by omega⟩
  rw [snF_lt (k + 1) k (by omega) d, snF, uf_s]
  unfold sgv sgb
  by_cases hz : beh k < 0
  · rw [if_pos hz, if_pos hz]
  · have := hb k h0 h1
    rw [if_neg hz, if_neg hz, hdM_congr (show snF beh snd ap al gone off k (beh k) = snF beh snd ap al gone off (k + 1 + d) (beh k) from ?_)]
    rw [show k + 1 + d = k + (1 + d) by omega, snF_lt k (beh k) this (1 + d)]
def aM_route (S : St) (sign what : Int) : Int := if ¬ (¬ S 0 18 = 0 ∧ 0 ≤ sign ∧ sign < S 0 20) ∨ ¬ (0 ≤ what ∧ what ≤ 1) then -1 else if what = 0 then chN (S 12) 5 sign else if rtS S sign = 1000000 then -1000000 else rtS S sign
