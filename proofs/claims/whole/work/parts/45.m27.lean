/-! the reference: clauses, the land read -/
theorem ctT_le (told : Int → Bool) : ctT told ≤ 4 := by unfold ctT; (repeat' split) <;> omega
theorem iand_pow {x j : Nat} (hx : x < 2147483648) (hj : j ≤ 30) : iand (x : Int) (ishl 1 (j : Int)) = if x.testBit j = true then ((2 ^ j : Nat) : Int) else 0 := by
  have h2 : 2 ^ j ≤ 2 ^ 30 := Nat.pow_le_pow_right (by omega) hj
  rw [ishl_nat hj, iand_nat hx (by omega)]
  by_cases h : x.testBit j = true
  · rw [if_pos h]
    have : x &&& 2 ^ j = 2 ^ j := Nat.eq_of_testBit_eq (fun i => by
      rw [Nat.testBit_and, Nat.testBit_two_pow]
      by_cases hi : j = i
      · rw [← hi, h]; simp
      · simp [hi])
    rw [this]
  · rw [if_neg h]
    have h' : x.testBit j = false := by simpa using h
    have : x &&& 2 ^ j = 0 := Nat.eq_of_testBit_eq (fun i => by
      rw [Nat.testBit_and, Nat.testBit_two_pow, Nat.zero_testBit]
      by_cases hi : j = i
      · rw [← hi, h']; simp
      · simp [hi])
    rw [this]; rfl
/-- what the letters that were are known by -/
def wsI (k : Int) (told : Int → Bool) (was : Int) : Prop := ∃ x : Nat, was = x ∧ x < 2 ^ 26 ∧ ∀ l, 97 ≤ l → l ≤ 122 → 0 ≤ itF k l → x.testBit (l - 97).toNat = told (itF k l)
theorem wsI_0 (k : Int) : wsI k (fun _ => false) 0 := ⟨0, rfl, by decide, fun l _ _ _ => Nat.zero_testBit _⟩
theorem wsI_bit {k was l : Int} {told : Int → Bool} (h : wsI k told was) (l1 : 97 ≤ l) (l2 : l ≤ 122) (hi : 0 ≤ itF k l) : iand was (ishl 1 (i32 (l - 97))) = 0 ↔ ¬ told (itF k l) = true := by
  obtain ⟨x, rfl, hx, hb⟩ := h
  have e : i32 (l - 97) = ((l - 97).toNat : Int) := by rw [i32_id (by omega) (by omega)]; omega
  have hp : 0 < 2 ^ (l - 97).toNat := Nat.pow_pos (by omega)
  rw [e, iand_pow (by omega) (by omega), hb l l1 l2 hi]
  by_cases z : told (itF k l) = true
  · rw [if_pos z]
    constructor
    · intro y; omega
    · intro y; exact absurd z y
  · rw [if_neg z]
    exact ⟨fun _ => z, fun _ => rfl⟩
theorem wsI_s {k was l : Int} {told : Int → Bool} (hk : 0 ≤ k ∧ k ≤ 3) (h : wsI k told was) (l1 : 97 ≤ l) (l2 : l ≤ 122) (hi : 0 ≤ itF k l) : wsI k (tdF told (itF k l)) (ior was (ishl 1 (i32 (l - 97)))) := by
  obtain ⟨x, rfl, hx, hb⟩ := h
  have e : i32 (l - 97) = ((l - 97).toNat : Int) := by rw [i32_id (by omega) (by omega)]; omega
  have h2 : 2 ^ (l - 97).toNat ≤ 2 ^ 25 := Nat.pow_le_pow_right (by omega) (by omega)
  rw [e, ishl_nat (by omega), ior_nat (by omega) (by omega)]
  refine ⟨_, rfl, Nat.or_lt_two_pow hx (by omega), fun l' m1 m2 m3 => ?_⟩
  rw [Nat.testBit_or, hb l' m1 m2 m3, Nat.testBit_two_pow]
  unfold tdF
  by_cases z : l' = l
  · rw [z, if_pos rfl]; simp
  · rw [if_neg (fun y => z (itF_inj hk m3 y))]
    have : ¬ (l - 97).toNat = (l' - 97).toNat := by omega
    simp [this]
/-- how a clause's items end -/
def itO (t : Int → Int) (n k : Int) (p : PS) (r : Int × Int × (Int → Int)) (T : St) : Prop := T 0 3 = r.1 ∧ ((¬ r.2.1 = -1 ∧ T 0 4 = r.2.1) ∨ (r.2.1 = r.1 ∧ T 0 4 = -1 ∧ r.1 < n ∧ ¬ t r.1 = 59 ∧ sk t n r.1 = r.1 ∧ 0 ≤ r.1) ∨ (r.2.1 = -1 ∧ T 0 4 = -1 ∧ psM (takeP k r.2.2 p) T ∧ nbM (takeP k r.2.2 p) T))
set_option maxHeartbeats 4000000 in
set_option maxRecDepth 8000 in
theorem t_M_items (S : St) (c : Int) (p : PS) (Q : Option AV → St → Prop) (hk : 0 ≤ kd c) (hn : S 0 2 ≤ 160) (hcb : 0 ≤ ctK (kd c) p ∧ ctK (kd c) p < mxK (kd c)) (t : Int → Int) (ht : S 1 = t) (n : Int) (hnn : S 0 2 = n) :
    ∀ (d : Nat) (a : Int) (told : Int → Bool) (v : Int → Int) (T : St) (was y2 : Int) (x4 x5 : Option AV), ctT told + d = 5 → Fr [2, 3, 4] [(0, 3), (0, 4), (0, 5), (0, 6), (0, 7), (0, 8), (0, 12), (0, 13)] S T → T 0 3 = a → (0 ≤ a ∧ a ≤ n) → T 0 4 = -1 → psM p T → (kd c ≠ 3 → nbM p T) → (∀ i, 0 ≤ i → i < szK (kd c) → vM T (kd c) i = v i) → wsI (kd c) told was → (∀ T', Fr [2, 3, 4] [(0, 3), (0, 4), (0, 5), (0, 6), (0, 7), (0, 8), (0, 12), (0, 13)] S T' → itO t n (kd c) p (itL t n (kd c) p.1.2.1 d a told v) T' → Q none T') → Smm H_M_readsClause 237 [some (.inr (.inr 0)), some (.inl c), some (.inl y2), some (.inl was), x4, x5] [] T Q := by
  have hk3 : kd c ≤ 3 := by have := kd_v c; omega
  have mx : mxK (kd c) ≤ 12 := by
    rcases k4 hk hk3 with z | z | z | z <;> rw [z] <;> decide
  have fin : ∀ (T : St) (x2 x3 x4 x5 : Option AV), psM p T → Q none (up T 0 (5 + kd c) (ctM T (kd c) + 1)) → Smm H_M_readsClause 337 [some (.inr (.inr 0)), some (.inl c), x2, x3, x4, x5] [] T Q := by
    intro T x2 x3 x4 x5 hP hq
    have hct := ctM_ps hP (kd c)
    rw [← hct] at hcb
    have e1 : i32 (ctM T (kd c) + 1) = ctM T (kd c) + 1 := i32_id (by omega) (by omega)
    rw [← e1] at hq
    clear e1 hcb hct hP
    rcases (kd_v c).resolve_left (by omega) with ⟨rfl, hz⟩ | ⟨rfl, hz⟩ | ⟨rfl, hz⟩ | ⟨rfl, hz⟩ <;> rw [hz] at hq <;> refine sound ok_M_readsClause [] 40 ?_
    · exact ⟨fun z => absurd rfl z, fun _ => hq⟩
    · exact ⟨fun _ => ⟨fun z => absurd rfl z, fun _ => hq⟩, fun z => absurd z (by decide)⟩
    · exact ⟨fun _ => ⟨fun _ => ⟨fun z => absurd rfl z, fun _ => hq⟩, fun z => absurd z (by decide)⟩, fun z => absurd z (by decide)⟩
    · exact ⟨fun _ => ⟨fun _ => ⟨fun _ => hq, fun z => absurd z (by decide)⟩, fun z => absurd z (by decide)⟩, fun z => absurd z (by decide)⟩
  -- the count goes up: nothing else
  have up5 : ∀ (T : St), up T 0 (5 + kd c) (ctM T (kd c) + 1) 0 3 = T 0 3 ∧ up T 0 (5 + kd c) (ctM T (kd c) + 1) 0 4 = T 0 4 ∧ ∀ B, Fr [2, 3, 4] [(0, 3), (0, 4), (0, 5), (0, 6), (0, 7), (0, 8), (0, 12), (0, 13)] B T → Fr [2, 3, 4] [(0, 3), (0, 4), (0, 5), (0, 6), (0, 7), (0, 8), (0, 12), (0, 13)] B (up T 0 (5 + kd c) (ctM T (kd c) + 1)) := fun T => by
    refine ⟨up_n _ _ _ (by omega), up_n _ _ _ (by omega), fun B hB => ?_⟩
    rcases k4 hk hk3 with z | z | z | z <;> rw [z] <;> exact hB.up _ _ _ rfl
  intro d
  induction d with
  | zero => intro a told v T was y2 x4 x5 hd; have := ctT_le told; omega
  | succ d ih =>
    intro a told v T was y2 x4 x5 hd hF ha hab hw hP hB hv hws hout
    have hsb := sk_b t n a
    have q1 : T 1 = t := by rw [hF.c 1 rfl, ht]
    have q2 : T 0 2 = n := by rw [hF.s 0 2 rfl, hnn]
    rw [itL] at hout
    generalize hs : sk t n a = s at hsb hout
    have hss : sk t n s = s := by rw [← hs]; exact sk_sk t n a
    -- the state behind the blanks
    generalize hT1 : up T 0 3 s = T1
    have hF1 : Fr [2, 3, 4] [(0, 3), (0, 4), (0, 5), (0, 6), (0, 7), (0, 8), (0, 12), (0, 13)] S T1 := by rw [← hT1]; exact hF.up _ _ _ rfl
    have r3 : T1 0 3 = s := by rw [← hT1, up_s]
    have r4 : T1 0 4 = -1 := by rw [← hT1, up_n _ _ _ (by decide), hw]
    have r1 : T1 1 = t := by rw [← hT1, up_o _ _ _ (by decide), q1]
    have r2 : T1 0 2 = n := by rw [← hT1, up_n _ _ _ (by decide), q2]
    have oc : ∀ c, c ≠ 0 → T1 c = T c := fun c hc => by rw [← hT1, up_o _ _ _ hc]
    have o0 : ∀ j, j ≠ 3 → T1 0 j = T 0 j := fun j hj => by rw [← hT1, up_n _ _ _ hj]
    have vM1 : ∀ i, 0 ≤ i → i < szK (kd c) → vM T1 (kd c) i = v i := fun i i0 i1 => by
      rw [← hv i i0 i1]
      unfold vM
      rw [oc 2 (by decide), oc 3 (by decide), oc 4 (by decide), o0 _ (by decide), o0 _ (by decide), o0 _ (by decide), o0 _ (by omega)]
    have hP1 : psM p T1 := by
      unfold psM at hP ⊢
      rw [oc 2 (by decide), oc 3 (by decide), oc 4 (by decide), o0 _ (by decide), o0 _ (by decide), o0 _ (by decide), o0 _ (by decide)]
      exact hP
    have hB1 : kd c ≠ 3 → nbM p T1 := fun z => by
      unfold nbM at hB ⊢
      rw [o0 _ (by decide), o0 _ (by decide)]
      exact hB z
    clear oc o0
    -- no letter
    have stop : ∀ (x3 : Option AV), ¬ (97 ≤ ch t n s ∧ ch t n s ≤ 122) → Smm H_M_readsClause 337 [some (.inr (.inr 0)), some (.inl c), some (.inl y2), x3, x4, x5] [] T1 Q := by
      intro x3 hz
      refine fin T1 _ _ _ _ hP1 ?_
      obtain ⟨u1, u2, u3⟩ := up5 T1
      refine hout _ (u3 S hF1) ?_
      by_cases g1 : ch t n s = -1 ∨ ch t n s = 59
      · rw [if_pos g1]
        have tk := take_M ⟨hk, hk3⟩ hP1 hB1 vM1
        exact ⟨by rw [u1, r3], Or.inr (Or.inr ⟨rfl, by rw [u2, r4], tk.1, tk.2⟩)⟩
      · rw [if_neg g1]
        have g2 : itF (kd c) (ch t n s) < 0 := by
          rcases itF_b (c := ch t n s) ⟨hk, hk3⟩ with z | z
          · exact z
          · exact absurd (itF_l ⟨hk, hk3⟩ z.1) hz
        rw [if_pos (Or.inl g2)]
        have hlt : s < n := by
          by_cases z : s < n
          · exact z
          · exact absurd (Or.inl (by unfold ch; rw [if_neg z])) g1
        refine ⟨by rw [u1, r3], Or.inr (Or.inl ⟨rfl, by rw [u2, r4], hlt, fun z => g1 (Or.inr (by unfold ch; rw [if_pos hlt, z])), hss, by dsimp only; omega⟩)⟩
    refine sound ok_M_readsClause [337, 237, 303] 100 ?_
    refine ⟨fun z => absurd z (by rw [hw]; decide), fun _ => ?_⟩
    refine t_M_sees T _ (by omega) (by omega) ?_
    rw [q1, q2, ha, hs, hT1]
    refine ⟨fun z => stop _ (by omega), fun g97 => ?_⟩
    have hlt : s < n := by
      by_cases z : s < n
      · exact z
      · unfold ch at g97; rw [if_neg z] at g97; exact absurd g97 (by decide)
    have hcs : ch t n s = t s := by unfold ch; rw [if_pos hlt]
    rw [hcs] at g97 hout stop
    have bs : 0 ≤ s ∧ s < 160 := by omega
    refine ⟨by rw [r3]; exact bs, ?_⟩
    refine ⟨fun z => stop _ (by rw [r1, r3] at z; omega), fun g122 => ?_⟩
    rw [r1, r3] at g122
    refine ⟨by rw [r3]; exact bs, ?_⟩
    rw [if_neg (by omega)] at hout
    clear stop hsb hs hss
    generalize hl : t s = l at g97 g122 hout
    have hls : T1 1 (T1 0 3) = l := by rw [r1, r3, hl]
    -- a wrong letter
    have bad : ∀ y4 y5 : Option AV, (itF (kd c) l < 0 ∨ told (itF (kd c) l) = true) → Smm H_M_readsClause 303 [some (.inr (.inr 0)), some (.inl c), some (.inl y2), some (.inl was), y4, y5] [] T1 Q := by
      intro y4 y5 hz
      rw [if_pos hz] at hout
      have hq := hout (up T1 0 4 s) (hF1.up _ _ _ rfl) ⟨by rw [up_n _ _ _ (by decide), r3], Or.inl ⟨by dsimp only; omega, by rw [up_s]⟩⟩
      rw [← r3] at hq
      refine sound ok_M_readsClause [] 20 ?_
      exact hq
    by_cases hitem : 0 ≤ itF (kd c) l
    · have hbit := wsI_bit hws g97 g122 hitem
      refine ⟨fun h3 => bad _ _ (Or.inr ?_), fun h3 => ?_⟩
      · rw [hls] at h3
        by_cases z : told (itF (kd c) l) = true
        · exact z
        · exact absurd (hbit.mpr z) h3
      · rw [hls] at h3
        have hnt := hbit.mp h3
        refine t_M_isItem T1 c _ _ hk (fun h5 => ?_) (fun h5 => ?_)
        · refine ⟨fun _ => ?_, fun z => absurd z (by decide)⟩
          rw [if_neg (fun z => z.elim (fun z => absurd z (by omega)) hnt)] at hout
          have hib := (itF_b (c := l) ⟨hk, hk3⟩).resolve_left (by omega)
          have hsz := szK_b (kd c)
          have hct := ctT_s (told := told) (i := itF (kd c) l) (by omega) hnt
          have hws2 := wsI_s ⟨hk, hk3⟩ hws g97 g122 hitem
          -- behind the letter
          generalize hT2 : up T1 0 3 (s + 1) = T2
          have hT2' : up T1 0 3 (i32 (T1 0 3 + 1)) = T2 := by rw [r3, i32_id (by omega) (by omega), hT2]
          have w3 : T2 0 3 = s + 1 := by rw [← hT2, up_s]
          have w4 : T2 0 4 = -1 := by rw [← hT2, up_n _ _ _ (by decide), r4]
          have w1 : T2 1 = t := by rw [← hT2, up_o _ _ _ (by decide), r1]
          have w2 : T2 0 2 = n := by rw [← hT2, up_n _ _ _ (by decide), r2]
          have hF2 : Fr [2, 3, 4] [(0, 3), (0, 4), (0, 5), (0, 6), (0, 7), (0, 8), (0, 12), (0, 13)] S T2 := by rw [← hT2]; exact hF1.up _ _ _ rfl
          have w6 : T2 0 6 = p.1.2.1 := by rw [← hT2, up_n _ _ _ (by decide)]; exact hP1.1.2.1
          have oc : ∀ (x y : Int) c, c ≠ 0 → up (up T2 0 3 x) 0 4 y c = T1 c := fun x y c hc => by rw [up_o _ _ _ hc, up_o _ _ _ hc, ← hT2, up_o _ _ _ hc]
          have o0 : ∀ (x y : Int) j, j ≠ 3 → j ≠ 4 → up (up T2 0 3 x) 0 4 y 0 j = T1 0 j := fun x y j hj hj2 => by rw [up_n _ _ _ hj2, up_n _ _ _ hj, ← hT2, up_n _ _ _ hj]
          have ctm : ctM T2 (kd c) = ctK (kd c) p := by
            rw [← ctM_ps hP1]
            unfold ctM
            rw [← hT2, up_n _ _ _ (by decide), up_n _ _ _ (by decide), up_n _ _ _ (by decide), up_n _ _ _ (by decide)]
          have go : ∀ Q' : Option AV → St → Prop, (∀ T', Smm H_M_readsClause 237 [some (.inr (.inr 0)), some (.inl c), some (.inl y2), some (.inl (ior was (ishl 1 (i32 (l - 97))))), some (.inl l), some (.inl (ishl 1 (i32 (l - 97))))] [] T' Q → Q' none T') → Smm H_M_readsItem 0 [some (.inr (.inr 0)), some (.inl c), some (.inl l), none] [] T2 Q' := by
            intro Q' hQ'
            refine t_M_readsItem T2 c l _ hk hitem (by omega) (by omega) (by rw [ctm]; exact hcb) (fun x W hW hx => ?_)
            refine hQ' _ ?_
            rw [w1, w2, w3, w6] at hW
            rw [w1, w2, w3] at hx
            rw [w1, w2, w3, w4]
            rw [← hW] at hout
            have hA := nmA_b (t := t) (n := n) (a := s + 1)
            have hWg := nmW_g (t := t) (n := n) (lo := loK (kd c) (itF (kd c) l)) (hi := hiK (kd c) (itF (kd c) l) p.1.2.1) (a := s + 1) (by omega)
            rw [← hW] at hWg
            generalize hU : up (up T2 0 3 (nmA t n (s + 1))) 0 4 (if W = -1 then -1 else W) = U
            have hFU : Fr [2, 3, 4] [(0, 3), (0, 4), (0, 5), (0, 6), (0, 7), (0, 8), (0, 12), (0, 13)] S U := by rw [← hU]; exact (hF2.up _ _ _ rfl).up _ _ _ rfl
            have hPU : psM p U := by
              rw [← hU]
              unfold psM at hP1 ⊢
              rw [oc _ _ 2 (by decide), oc _ _ 3 (by decide), oc _ _ 4 (by decide), o0 _ _ _ (by decide) (by decide), o0 _ _ _ (by decide) (by decide), o0 _ _ _ (by decide) (by decide), o0 _ _ _ (by decide) (by decide)]
              exact hP1
            have hvU : ∀ i, 0 ≤ i → i < szK (kd c) → vM U (kd c) i = v i := fun i i0 i1 => by
              rw [← vM1 i i0 i1, ← hU]
              unfold vM
              rw [oc _ _ 2 (by decide), oc _ _ 3 (by decide), oc _ _ 4 (by decide), o0 _ _ _ (by decide) (by decide), o0 _ _ _ (by decide) (by decide), o0 _ _ _ (by decide) (by decide), o0 _ _ _ (by omega) (by omega)]
            have hBU : kd c ≠ 3 → nbM p U := fun z => by
              have := hB1 z
              rw [← hU]
              unfold nbM at this ⊢
              rw [o0 _ _ _ (by decide) (by decide), o0 _ _ _ (by decide) (by decide)]
              exact this
            have u3 : U 0 3 = nmA t n (s + 1) := by rw [← hU, up_n _ _ _ (by decide), up_s]
            have u4 : U 0 4 = if W = -1 then -1 else W := by rw [← hU, up_s]
            clear hU oc o0
            obtain ⟨y1, y2, y3, y4, y5⟩ := wrM_ps (x := x) ⟨hk, hk3⟩ hib hPU
            have hFW := hFU.tr (wrM_fr U (k := kd c) (i := itF (kd c) l) x ⟨hk, hk3⟩ hib)
            generalize wrM U (kd c) (itF (kd c) l) x = V at y1 y2 y3 y4 y5 hFW
            by_cases hW1 : W = -1
            · rw [if_pos hW1] at hout u4
              have hf := nm_fine (by omega) (hW ▸ hW1 : nmW t n (loK (kd c) (itF (kd c) l)) (hiK (kd c) (itF (kd c) l) p.1.2.1) (s + 1) = -1)
              refine ih (nmA t n (s + 1)) (tdF told (itF (kd c) l)) (uf v (itF (kd c) l) (nmV t n (s + 1))) V _ _ _ _ (by omega) hFW (by rw [y4, u3]) (by omega) (by rw [y5, u4]) y1 (fun z => y2 z (hBU z)) (fun i i0 i1 => ?_) hws2 hout
              rw [y3 i i0 i1, ufs, hvU i i0 i1, hx hW1]
            · rw [if_neg hW1] at hout u4
              refine sound ok_M_readsClause [337] 20 ?_
              refine ⟨fun _ => ?_, fun z => absurd z (by rw [y5, u4]; omega)⟩
              refine fin V _ _ _ _ y1 ?_
              obtain ⟨z1, z2, z3⟩ := up5 V
              exact hout _ (z3 S hFW) ⟨by rw [z1, y4, u3], Or.inl ⟨hW1, by rw [z2, y5, u4]⟩⟩
          rw [← hT2', ← hls] at go
          refine go _ (fun T' h => ?_)
          exact h
        · exact ⟨fun z => absurd rfl z, fun _ => bad _ _ (Or.inl (by rw [hls] at h5; exact h5))⟩
    · refine ⟨fun h3 => bad _ _ (Or.inl (by omega)), fun h3 => ?_⟩
      refine t_M_isItem T1 c _ _ hk (fun h5 => absurd h5 (by rw [hls]; omega)) (fun h5 => ?_)
      exact ⟨fun z => absurd rfl z, fun _ => bad _ _ (Or.inl (by omega))⟩
