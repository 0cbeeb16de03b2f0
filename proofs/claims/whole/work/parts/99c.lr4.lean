/-! the items of a clause read -/
theorem ior16 {a b : Nat} (ha : a < 16) (hb : b < 16) : ior (a : Int) (b : Int) = ((a ||| b : Nat) : Int) ∧ a ||| b < 16 := ⟨ior_nat (by omega) (by omega), Nat.or_lt_two_pow (n := 4) ha hb⟩
theorem pw16 {k : Nat} (h : k < 4) : 2 ^ k < 16 := by
  have : 2 ^ k ≤ 2 ^ 3 := Nat.pow_le_pow_right (by omega) (by omega)
  omega
theorem ior_z16 {b : Nat} (hb : b < 16) : ior (b : Int) 0 = (b : Int) := by
  have := (ior16 hb (show 0 < 16 by decide)).1
  rw [Nat.or_zero] at this
  exact this
theorem tp_fr {X : List Nat} {Y : List (Nat × Int)} {S S' : St} (h : tpX S) (hF : Fr X Y S S') (c1 : (X.contains 43 || Y.contains (43, (1 : Int))) = false) (c2 : (X.contains 44 || Y.any (fun q => Nat.beq q.1 44)) = false) : tpX S' := by
  unfold tpX
  rw [hF.s 43 1 c1, hF.c 44 c2]
  exact h
set_option maxHeartbeats 4000000 in
theorem rc_loop (S : St) (k : Int) (Q : Option AV → St → Prop) (hT : tpX S) (hk : 0 ≤ k ∧ k ≤ 3) (hns : 0 ≤ S 47 1 ∧ S 47 1 ≤ 5) : ∀ (d i : Nat) (S1 : St) (x : Nat) (a : Int) (told : Int → Bool) (v : Int → Int), i + d = 5 → Fr [46] [(43, 2), (43, 3)] S S1 → S1 43 2 = a → 0 ≤ a → S1 43 3 = -1 → x < 16 → (∀ j : Nat, j < 4 → x.testBit j = told j) → (∀ j, 0 ≤ j → j < 4 → S1 46 j = v j) →
    (∀ (S2 : St) (x2 i2 : Int), Fr [46] [(43, 2), (43, 3)] S S2 → S2 43 2 = (itL (S 44) (S 43 1) k (S 47 1) d a told v).1 → S2 43 3 = (itL (S 44) (S 43 1) k (S 47 1) d a told v).2.1 → ((itL (S 44) (S 43 1) k (S 47 1) d a told v).2.1 = -1 → ∀ j, 0 ≤ j → j < 4 → S2 46 j = (itL (S 44) (S 43 1) k (S 47 1) d a told v).2.2 j) → Smm H_LandReader_readClause 124 [some (.inr (.inr 45)), some (.inl k), some (.inl x2), some (.inl i2)] [] S2 Q) → Smm H_LandReader_readClause 87 [some (.inr (.inr 45)), some (.inl k), some (.inl (x : Int)), some (.inl (i : Int))] [] S1 Q := by
  intro d
  induction d with
  | zero =>
    intro i S1 x a told v hi hF ha h0 hw hx hb hv fin
    have hi5 : i = 5 := by omega
    subst hi5
    refine sound ok_LandReader_readClause [87, 124] 20 ?_
    refine ⟨fun _ => ?_, fun z => absurd z (by decide)⟩
    exact fin S1 _ _ hF ha hw (fun _ => hv)
  | succ d ih =>
    intro i S1 x a told v hi hF ha h0 hw hx hb hv fin
    have hn := hT.1
    have hT1 := tp_fr hT hF rfl rfl
    have eT : S1 44 = (S 44) := hF.c _ rfl
    have eN : S1 43 1 = (S 43 1) := hF.s _ _ rfl
    have hi4 : ¬ (4 : Int) < (i : Int) := by omega
    obtain ⟨p, hp⟩ : ∃ p, sk (S 44) (S 43 1) a = p := ⟨_, rfl⟩
    have hpb := sk_b (S 44) (S 43 1) a
    rw [hp] at hpb
    have goO := fun Q' h1 h2 => t_clauseOver S1 Q' (by rw [ha]; exact h0) (by rw [eN]; omega) h1 h2
    rw [eT, eN, ha, hp] at goO
    have e : ((i + 1 : Nat) : Int) = i32 ((i : Int) + 1) := i32_s (by omega)
    -- behind a wrong item
    have wrong : ∀ (S2 : St) (x2 : Int), ¬ S2 43 3 = -1 → Smm H_LandReader_readClause 124 [some (.inr (.inr 45)), some (.inl k), some (.inl x2), some (.inl ((i + 1 : Nat) : Int))] [] S2 Q → Smm H_LandReader_readClause 87 [some (.inr (.inr 45)), some (.inl k), some (.inl x2), some (.inl ((i + 1 : Nat) : Int))] [] S2 Q := by
      intro S2 x2 h2 go
      refine sound ok_LandReader_readClause [87, 124] 20 ?_
      refine ⟨fun _ => go, fun _ => ?_⟩
      exact t_xFine S2 _ (fun z => absurd z h2) (fun _ => ⟨fun _ => go, fun z => absurd rfl z⟩)
    rw [itL] at fin
    rw [hp] at fin
    refine sound ok_LandReader_readClause [87, 124] 60 ?_
    refine ⟨fun z => absurd z hi4, fun _ => ?_⟩
    refine t_xFine S1 _ (fun _ => ?_) (fun z => absurd hw z)
    refine ⟨fun z => absurd z (by decide), fun _ => ?_⟩
    have hF2 : Fr [46] [(43, 2), (43, 3)] S (up S1 43 2 p) := hF.up _ _ _ rfl
    refine goO _ (fun ho => ?_) (fun ho => ?_)
    · refine ⟨fun _ => ?_, fun z => absurd z (by decide)⟩
      rw [if_pos ho] at fin
      refine fin _ _ _ hF2 (up_s _ _ _ _) (by rw [up_n _ _ _ (by decide)]; exact hw) (fun _ j j0 j1 => ?_)
      rw [up_o _ _ _ (by decide)]
      exact hv j j0 j1
    · refine ⟨fun z => absurd rfl z, fun _ => ?_⟩
      rw [if_neg ho] at fin
      have hc : ¬ ch (S 44) (S 43 1) p = -1 := fun q => ho (Or.inl q)
      obtain ⟨hpn, hcp⟩ := ch_t hc
      have hby := hT.2 p (by omega) hpn
      obtain ⟨it, hit⟩ : ∃ it, itF k (ch (S 44) (S 43 1) p) = it := ⟨_, rfl⟩
      rw [hit] at fin
      have hib := itF_b (k := k) (c := ch (S 44) (S 43 1) p) hk
      rw [hit] at hib
      have hsz := szK_b k
      have qT : up S1 43 2 p 44 = (S 44) := hF2.c _ rfl
      have qN : up S1 43 2 p 43 1 = (S 43 1) := hF2.s _ _ rfl
      have qa : up S1 43 2 p 43 2 = p := up_s _ _ _ _
      have qd : up S1 43 2 p 47 1 = S 47 1 := by rw [hF2.c 47 rfl]
      have goI := fun Q' hA hB => t_readItem (up S1 43 2 p) k p it x Q' (tp_fr hT hF2 rfl rfl) (by rw [qa]; clear e; omega) (by rw [up_n _ _ _ (by decide)]; exact hw) hk hx (by rw [qT, qN, qa, ← hp]; exact sk_sk _ _ _) (by rw [qT, qN]; exact hc) (by rw [qT, qN]; exact hit) (by rw [qd]; exact hns) hA hB
      rw [qT, qN, qd] at goI
      have htold : ∀ q : 0 ≤ it, (x.testBit it.toNat = told it) := fun q => by
        have := hb it.toNat (by clear e; omega)
        rw [show ((it.toNat : Nat) : Int) = it by clear e; omega] at this
        exact this
      have hiff : (it < 0 ∨ x.testBit it.toNat = true) ↔ (it < 0 ∨ told it = true) := by
        by_cases q : it < 0
        · exact ⟨fun _ => Or.inl q, fun _ => Or.inl q⟩
        · rw [htold (by clear e; omega)]
      refine goI _ (fun hz S2 hF3 b2 b3 => ?_) (fun hz S2 v2 W hF3 b2 b3 hW hv2 bv => ?_)
      · rw [if_pos (hiff.mp hz)] at fin
        have hF4 : Fr [46] [(43, 2), (43, 3)] S S2 := hF2.tr (hF3.mo rfl rfl)
        have := wrong S2 (ior (x : Int) 0) (by rw [b3]; clear e; omega) (fin S2 _ _ hF4 b2 b3 (fun q => absurd q (by show ¬ p = -1; clear e; omega)))
        exact Smm.sub this ⟨Or.inr rfl, Or.inr rfl, Or.inr rfl, Or.inr (sI e), trivial⟩
      · rw [if_neg (fun q => hz (hiff.mpr q))] at fin
        have hF4 : Fr [46] [(43, 2), (43, 3)] S S2 := hF2.tr (hF3.mo rfl rfl)
        have hit0 : 0 ≤ it ∧ it < 4 := by clear e; omega
        obtain ⟨m, hm⟩ : ∃ m : Nat, it = m := ⟨it.toNat, by clear e; omega⟩
        have hm4 : m < 4 := by clear e; omega
        have hsh : ishl 1 it = ((2 ^ m : Nat) : Int) := by rw [hm]; exact ishl_nat (by clear e; omega)
        obtain ⟨o1, o2⟩ := ior16 hx (pw16 hm4)
        by_cases hW1 : W = -1
        · rw [if_pos (by rw [← hW]; exact hW1)] at fin
          have vv := hv2 hW1
          have go := ih (i + 1) S2 (x ||| 2 ^ m) (nmA (S 44) (S 43 1) (p + 1)) (tdF told it) (uf v it (nmV (S 44) (S 43 1) (p + 1))) (by clear e hsh o1; omega) hF4 b2 (by have := nmA_b (t := (S 44)) (n := (S 43 1)) (a := p + 1); clear e hsh o1; omega) (by rw [b3]; exact hW1) o2 (fun j hj => by
            rw [Nat.testBit_or, Nat.testBit_two_pow, hb j hj, hm]
            unfold tdF
            by_cases q : m = j
            · rw [decide_eq_true q, Bool.or_true, if_pos (by clear e hsh o1; omega)]
            · rw [decide_eq_false q, Bool.or_false, if_neg (by clear e hsh o1; omega)]) (fun j j0 j1 => by
            rw [bv, vv]
            unfold uf
            by_cases q : j = it
            · rw [if_pos q, if_pos q]
            · rw [if_neg q, if_neg q, up_o _ _ _ (by decide)]
              exact hv j j0 j1) fin
          exact Smm.sub go ⟨Or.inr rfl, Or.inr rfl, Or.inr (sI (by rw [hsh, o1])), Or.inr (sI e), trivial⟩
        · rw [if_neg (by rw [← hW]; exact hW1)] at fin
          have := wrong S2 (ior (x : Int) (ishl 1 it)) (by rw [b3]; exact hW1) (fin S2 _ _ hF4 b2 (by rw [b3]; exact hW) (fun q => absurd (hW.trans q) hW1))
          exact Smm.sub this ⟨Or.inr rfl, Or.inr rfl, Or.inr rfl, Or.inr (sI e), trivial⟩
theorem cst_df {k i : Int} (hk : 0 ≤ k ∧ k ≤ 3) (hi : 0 ≤ i ∧ i < 4) : cst 0 (4 * k + i) = dfK k i := by
  rcases k4 hk.1 hk.2 with rfl | rfl | rfl | rfl <;> rcases i4 hi with rfl | rfl | rfl | rfl <;> decide
set_option maxHeartbeats 4000000 in
theorem t_readClause (S : St) (p : PS) (a : Int) (Q : Option AV → St → Prop) (hT : tpX S) (ha : S 43 2 = a) (h0 : 0 ≤ a) (han : a ≤ (S 43 1)) (hw : S 43 3 = -1) (h : dR p S) (hp : okP p) (hQ : ∀ S', Fr [46, 48, 49, 50, 51, 52, 53, 54] [(43, 2), (43, 3), (47, 0), (47, 1), (47, 2), (47, 3), (47, 4), (47, 5), (47, 6)] S S' → S' 43 2 = (clP (S 44) (S 43 1) a p).1 → S' 43 3 = (clP (S 44) (S 43 1) a p).2.1 → dR (clP (S 44) (S 43 1) a p).2.2 S' → Q none S') : Smm H_LandReader_readClause 0 [some (.inr (.inr 45)), none, none, none] [] S Q := by
  have hn := hT.1
  have hp1 := hp.1
  obtain ⟨q, hq⟩ : ∃ q, sk (S 44) (S 43 1) a = q := ⟨_, rfl⟩
  have hqb := sk_b (S 44) (S 43 1) a
  rw [hq] at hqb
  obtain ⟨k, hkk⟩ : ∃ k, kd (ch (S 44) (S 43 1) q) = k := ⟨_, rfl⟩
  unfold clP at hQ
  rw [hq, hkk] at hQ
  have goN := fun Q' hq' => t_xNext S Q' (by rw [ha]; exact h0) hn.2 hq'
  rw [ha, hq] at goN
  have goK := fun Q' hq' => t_kindOf (up S 43 2 q) (ch (S 44) (S 43 1) q) Q' hq'
  rw [hkk] at goK
  have hF1 : Fr [] [(43, 2)] S (up S 43 2 q) := (Fr.rf _ _ _).up _ _ _ rfl
  have hd1 := dR_fr h hF1 rfl
  have q2 : up S 43 2 q 43 2 = q := up_s _ _ _ _
  have q3 : up S 43 2 q 43 3 = -1 := by rw [up_n _ _ _ (by decide)]; exact hw
  have ect : ∀ k', ctD (up S 43 2 q) k' = ctK k' p := fun k' => by
    obtain ⟨⟨d0, d1, d2, d3, _⟩, _⟩ := hd1
    unfold ctD ctK
    rw [d0, d1, d2, d3]
  have hkv := kd_v (ch (S 44) (S 43 1) q)
  rw [hkk] at hkv
  have bad : (k < 0 ∨ mxK k ≤ ctK k p) → Smm H_LandReader_readClause 27 [some (.inr (.inr 45)), some (.inl k), none, none] [] (up S 43 2 q) Q := by
    intro hz
    rw [if_pos hz] at hQ
    refine sound ok_LandReader_readClause [] 20 ?_
    refine t_xFail _ _ _ (fun _ => ?_) (fun z => absurd q3 z)
    have hF2 : Fr [] [(43, 2), (43, 3)] S (up (up S 43 2 q) 43 3 (up S 43 2 q 43 2)) := (hF1.mo rfl rfl : Fr [] [(43, 2), (43, 3)] S _).up _ _ _ rfl
    refine hQ _ (hF2.mo rfl rfl) ?_ ?_ (dR_fr h hF2 rfl)
    · rw [up_n _ _ _ (by decide)]; exact q2
    · rw [up_s]; exact q2
  refine sound ok_LandReader_readClause [27, 42] 40 ?_
  refine goN _ ?_
  refine goK _ ?_
  refine ⟨fun z => bad (Or.inl (by rw [z]; decide)), fun z => ?_⟩
  have hk0 : 0 ≤ k ∧ k ≤ 3 := by
    rcases hkv with hk' | hk' | hk' | hk' | hk'
    · exfalso
      have : kd (ch (S 44) (S 43 1) q) = -1 ∨ 0 ≤ kd (ch (S 44) (S 43 1) q) := by
        unfold kd
        split
        · right; decide
        · split
          · right; decide
          · split
            · right; decide
            · split
              · right; decide
              · left; rfl
      rw [hkk] at this
      omega
    · omega
    · omega
    · omega
    · omega
  refine t_isFull _ k _ hk0 (fun hf => ?_) (fun hf => ?_)
  · rw [ect] at hf
    exact ⟨fun z => absurd z (by decide), fun _ => bad (Or.inr hf)⟩
  rw [ect] at hf
  refine ⟨fun _ => ?_, fun z => absurd rfl z⟩
  have hnk : ¬ (k < 0 ∨ mxK k ≤ ctK k p) := fun z => z.elim (fun z => absurd z (by omega)) hf
  rw [if_neg hnk] at hQ
  have hqn : q < (S 43 1) := by
    by_cases y : q < (S 43 1)
    · exact y
    · exfalso
      have : ch (S 44) (S 43 1) q = -1 := by unfold ch; rw [if_neg y]
      rw [this] at hkk
      have : kd (-1) = -1 := by decide
      omega
  -- from 42 on
  have ep : i32 (up S 43 2 q 43 2 + 1) = q + 1 := by rw [q2]; exact i32_id (by omega) (by omega)
  have hF3 : Fr [46] [(43, 2), (43, 3)] S (up (up S 43 2 q) 43 2 (q + 1)) := ((Fr.rf _ _ _).up _ _ _ rfl).up _ _ _ rfl
  have hF3d : Fr [] [(43, 2)] S (up (up S 43 2 q) 43 2 (q + 1)) := ((Fr.rf _ _ _).up _ _ _ rfl).up _ _ _ rfl
  have ens : S 47 1 = p.1.2.1 := h.1.2.1
  have hns : 0 ≤ S 47 1 ∧ S 47 1 ≤ 5 := by rw [ens]; clear ep; omega
  have main : ∀ S2, Fr [46] [(43, 2), (43, 3)] S S2 → S2 43 2 = q + 1 → S2 43 3 = -1 → (∀ j, 0 ≤ j → j < 4 → S2 46 j = dfK k j) → Smm H_LandReader_readClause 87 [some (.inr (.inr 45)), some (.inl k), some (.inl ((0 : Nat) : Int)), some (.inl ((0 : Nat) : Int))] [] S2 Q := by
    clear ep
    intro S2 hF4 b2 b3 bv
    refine rc_loop S k Q hT hk0 hns 5 0 S2 0 (q + 1) (fun _ => false) (dfK k) rfl hF4 b2 (by omega) b3 (by decide) (fun j hj => Nat.zero_testBit _) bv (fun S3 x2 i2 hF5 c2 c3 cv => ?_)
    have hok := itL_ok (t := (S 44)) (n := (S 43 1)) (k := k) (ns := p.1.2.1) hk0 5 (q + 1) (fun _ => false) (dfK k) (by omega) (by omega) rfl (dfK_ok hk0 (by omega))
    rw [ens] at c2 c3 cv
    refine sound ok_LandReader_readClause [] 40 ?_
    refine t_xFine S3 _ (fun y => ?_) (fun y => ?_)
    · refine ⟨fun z => absurd z (by decide), fun _ => ?_⟩
      rw [c3] at y
      rw [if_pos y] at hQ
      refine t_ldTake S3 p k (itL (S 44) (S 43 1) k p.1.2.1 5 (q + 1) (fun _ => false) (dfK k)).2.2 _ hk0 (dR_fr h hF5 rfl) hp (hok.2.2 y).1 (by omega) (cv y) (fun S4 hF6 hd4 => ?_)
      refine hQ S4 ((hF5.mo rfl rfl).tr (hF6.mo rfl rfl)) ?_ ?_ hd4
      · rw [hF6.c 43 rfl]; exact c2
      · rw [hF6.c 43 rfl, c3]; exact y
    · refine ⟨fun _ => ?_, fun z => absurd rfl z⟩
      rw [c3] at y
      rw [if_neg y] at hQ
      exact hQ S3 (hF5.mo rfl rfl) c2 c3 (dR_fr h hF5 rfl)
  have vloop : ∀ (i : Int) (S2 : St), ((0 ≤ i ∧ i ≤ 4) ∧ Fr [46] [(43, 2), (43, 3)] S S2 ∧ (S2 43 2 = q + 1 ∧ S2 43 3 = -1) ∧ ∀ j, 0 ≤ j → j < i → S2 46 j = dfK k j) → Smm H_LandReader_readClause 57 [some (.inr (.inr 45)), some (.inl k), some (.inl i), none] [] S2 Q := by
    clear ep
    refine lp_up (P := fun i S2 => Smm H_LandReader_readClause 57 [some (.inr (.inr 45)), some (.inl k), some (.inl i), none] [] S2 Q) _ 4 ?_ ?_
    · rintro i S2 hi ⟨hi2, hF4, ⟨b2, b3⟩, bv⟩
      refine sound ok_LandReader_readClause [57, 87] 20 ?_
      refine ⟨fun _ => ?_, fun z => absurd z (by omega)⟩
      exact main S2 hF4 b2 b3 (fun j j0 j1 => bv j j0 (by omega))
    · rintro i S2 hi ⟨hi2, hF4, ⟨b2, b3⟩, bv⟩ ih
      have hng : ¬ 4 ≤ i := by omega
      have hi3 : 0 ≤ i ∧ i < 4 := by omega
      have hi4 : 0 ≤ i + 1 ∧ i + 1 ≤ 4 := by omega
      obtain ⟨x1, x2⟩ := ix4 hk0 hi3
      have hcd := cst_df hk0 hi3
      have e : i + 1 = i32 (i + 1) := (i32_id (by clear x1; omega) (by clear x1; omega)).symm
      refine sound ok_LandReader_readClause [57] 40 ?_
      refine ⟨fun z => absurd z hng, fun _ => ?_⟩
      refine ⟨by rw [x1]; exact x2, ?_⟩
      refine ⟨hi3, ?_⟩
      have go := ih (up S2 46 i (cst 0 (i32 (i32 (k * 4) + i)))) ⟨hi4, hF4.up _ _ _ rfl, ⟨by rw [up_o _ _ _ (by decide)]; exact b2, by rw [up_o _ _ _ (by decide)]; exact b3⟩, fun j j0 j1 => by
        by_cases y : j = i
        · rw [y, up_s, x1, hcd]
        · rw [up_n _ _ _ y]
          exact bv j j0 (by clear x1 e; omega)⟩
      exact Smm.sub go ⟨Or.inr rfl, Or.inr rfl, Or.inr (sI e), Or.inr rfl, trivial⟩
  have go := vloop 0 (up (up S 43 2 q) 43 2 (q + 1)) ⟨by clear ep; omega, hF3, ⟨up_s _ _ _ _, by rw [up_n _ _ _ (by decide)]; exact q3⟩, fun j j0 j1 => absurd j1 (by clear ep; omega)⟩
  rw [← ep] at go
  refine sound ok_LandReader_readClause [57] 40 ?_
  exact go
