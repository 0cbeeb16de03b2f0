/-! a plan read by the class -/
def prR (A : Int) (u : Bool) (inner : Int) (xc : List Int) (lt : Int) (S : St) : Prop := S 43 2 = A ∧ S 55 4 = inner ∧ S 55 2 = xc.length ∧ plA (S 56) xc ∧ S 55 3 = lt ∧ S 55 5 = if u = true then 1 else 0
theorem t_prWrite (S : St) (x : Int) (xc : List Int) (Q : Option AV → St → Prop) (h1 : S 55 2 = xc.length) (h2 : plA (S 56) xc) (hl : xc.length < 160) (hQ : ∀ S', Fr [56] [(55, 2)] S S' → S' 55 2 = ((x :: xc).length : Nat) → plA (S' 56) (x :: xc) → Q none S') : Smm H_PlanReader_write 0 [some (.inr (.inr 55)), some (.inl x)] [] S Q := by
  have hng : ¬ 160 ≤ S 55 2 := by rw [h1]; omega
  have hix : 0 ≤ S 55 2 ∧ S 55 2 < 160 := by rw [h1]; omega
  have e : i32 (S 55 2 + 1) = S 55 2 + 1 := i32_id (by omega) (by omega)
  have hq := hQ (up (up S 56 (S 55 2) x) 55 2 (S 55 2 + 1)) (((Fr.rf _ _ _).up _ _ _ rfl).up _ _ _ rfl) (by rw [up_s, h1, List.length_cons]; push_cast; rfl) (by
    rw [up_o _ _ _ (by decide), h1]
    have := plA_push h2 x
    have e2 : up S 56 (xc.length : Int) x 56 = uf (S 56) xc.length x := by rw [up_c]; rfl
    rw [e2]
    exact this)
  rw [← e] at hq
  refine sound ok_PlanReader_write [] 20 ?_
  refine ⟨fun z => absurd z hng, fun _ => ?_⟩
  refine ⟨hix, ?_⟩
  exact hq
def stOk : Nat → Nat → Bool
  | _, 0 => true
  | s, v + 1 => decide (ior (ishl s 7) (iand v 127) = 128 * (s : Int) + v) && stOk s v
theorem stOk_at (s : Nat) : ∀ n : Nat, stOk s n = true → ∀ v, v < n → ior (ishl s 7) (iand v 127) = 128 * (s : Int) + v
  | 0, _, v, hv => absurd hv (by omega)
  | n + 1, h, v, hv => by
    rw [stOk, Bool.and_eq_true] at h
    by_cases z : v = n
    · rw [z]; exact of_decide_eq_true h.1
    · exact stOk_at s n h.2 v (by omega)
theorem stOk_0 : stOk 0 100 = true := by decide +kernel
theorem stOk_1 : stOk 1 100 = true := by decide +kernel
theorem stOk_2 : stOk 2 100 = true := by decide +kernel
theorem stOk_3 : stOk 3 100 = true := by decide +kernel
theorem stOk_4 : stOk 4 100 = true := by decide +kernel
theorem st_v {s v : Int} (hs : 0 ≤ s ∧ s ≤ 4) (hv : 0 ≤ v ∧ v ≤ 99) : ior (ishl s 7) (iand v 127) = 128 * s + v := by
  obtain ⟨m, hm⟩ : ∃ m : Nat, v = m := ⟨v.toNat, by omega⟩
  rcases (show s = 0 ∨ s = 1 ∨ s = 2 ∨ s = 3 ∨ s = 4 by omega) with rfl | rfl | rfl | rfl | rfl
  · rw [hm]; exact stOk_at 0 100 stOk_0 m (by omega)
  · rw [hm]; exact stOk_at 1 100 stOk_1 m (by omega)
  · rw [hm]; exact stOk_at 2 100 stOk_2 m (by omega)
  · rw [hm]; exact stOk_at 3 100 stOk_3 m (by omega)
  · rw [hm]; exact stOk_at 4 100 stOk_4 m (by omega)
set_option maxHeartbeats 4000000 in
theorem t_rLetter (S : St) (s a inner lt : Int) (u : Bool) (xc : List Int) (Q : Option AV → St → Prop) (hT : tpX S) (h : prR a u inner xc lt S) (h0 : 0 ≤ a) (han : a ≤ (S 43 1)) (hw : S 43 3 = -1) (hs : 0 ≤ s ∧ s ≤ 4) (hl : xc.length < 160)
    (hA : ¬ ch (S 44) (S 43 1) (sk (S 44) (S 43 1) a) = 43 → ∀ S', Fr [56] [(43, 2), (43, 3), (55, 2), (55, 3), (55, 4), (55, 5)] S S' → S' 43 3 = -1 → prR (sk (S 44) (S 43 1) a) u inner (128 * s :: xc) (ior lt (ishl 1 s)) S' → Q none S')
    (hB : ch (S 44) (S 43 1) (sk (S 44) (S 43 1) a) = 43 → ∀ (S' : St) (W : Int), Fr [56] [(43, 2), (43, 3), (55, 2), (55, 3), (55, 4), (55, 5)] S S' → W = nmW (S 44) (S 43 1) 0 99 (sk (S 44) (S 43 1) a + 1) → S' 43 3 = W → (W = -1 → prR (nmA (S 44) (S 43 1) (sk (S 44) (S 43 1) a + 1)) u inner ((128 * s + nmV (S 44) (S 43 1) (sk (S 44) (S 43 1) a + 1)) :: xc) (ior lt (ishl 1 s)) S') → Q none S') : Smm H_PlanReader_readLetter 0 [some (.inr (.inr 55)), some (.inl s), none] [] S Q := by
  obtain ⟨r1, r2, r3, r4, r5, r6⟩ := h
  have hn := hT.1
  obtain ⟨p, hp⟩ : ∃ p, sk (S 44) (S 43 1) a = p := ⟨_, rfl⟩
  have hpb := sk_b (S 44) (S 43 1) a
  rw [hp] at hpb hA hB
  have goN := fun Q' hq' => t_xNext S Q' (by rw [r1]; exact h0) hn.2 hq'
  rw [r1, hp] at goN
  have hF1 : Fr [] [(43, 2)] S (up S 43 2 p) := (Fr.rf _ _ _).up _ _ _ rfl
  have at38 : ∀ (S2 : St) (v : Int), Fr [] [(43, 2), (43, 3)] S S2 → (∀ S3, Fr [56] [(43, 2), (43, 3), (55, 2), (55, 3), (55, 4), (55, 5)] S S3 → S3 43 2 = S2 43 2 → S3 43 3 = S2 43 3 → prR (S2 43 2) u inner (ior (ishl s 7) (iand v 127) :: xc) (ior lt (ishl 1 s)) S3 → Q none S3) → Smm H_PlanReader_readLetter 38 [some (.inr (.inr 55)), some (.inl s), some (.inl v)] [] S2 Q := by
    intro S2 v hF2 fin
    refine sound ok_PlanReader_readLetter [] 40 ?_
    have e3 : S2 55 3 = lt := by rw [hF2.c 55 rfl]; exact r5
    have hF3 : Fr [] [(55, 3)] S2 (up S2 55 3 (ior (S2 55 3) (ishl 1 s))) := (Fr.rf _ _ _).up _ _ _ rfl
    refine t_prWrite _ _ xc _ (by rw [hF3.s 55 2 rfl, hF2.c 55 rfl]; exact r3) (by rw [hF3.c 56 rfl, hF2.c 56 rfl]; exact r4) hl (fun S4 hF4 b2 bc => ?_)
    refine fin S4 (((hF2.mo rfl rfl).tr (hF3.mo rfl rfl)).tr (hF4.mo rfl rfl)) ?_ ?_ ⟨?_, ?_, b2, bc, ?_, ?_⟩
    · rw [hF4.c 43 rfl, hF3.c 43 rfl]
    · rw [hF4.c 43 rfl, hF3.c 43 rfl]
    · rw [hF4.c 43 rfl, hF3.c 43 rfl]
    · rw [hF4.s 55 4 rfl, hF3.s 55 4 rfl, hF2.c 55 rfl]; exact r2
    · rw [hF4.s 55 3 rfl, up_s, e3]
    · rw [hF4.s 55 5 rfl, hF3.s 55 5 rfl, hF2.c 55 rfl]; exact r6
  refine sound ok_PlanReader_readLetter [38] 40 ?_
  refine goN _ ?_
  have q2 : up S 43 2 p 43 2 = p := up_s _ _ _ _
  have q3 : up S 43 2 p 43 3 = -1 := by rw [up_n _ _ _ (by decide)]; exact hw
  refine ⟨fun z => ?_, fun z => ?_⟩
  · refine at38 _ 0 (hF1.mo rfl rfl) (fun S3 hF3 b2 b3 hpr => ?_)
    rw [q2] at hpr
    rw [st_v hs (by omega), Int.add_zero] at hpr
    exact hA z S3 hF3 (by rw [b3]; exact q3) hpr
  · have hpn : p < (S 43 1) := by
      by_cases q : p < (S 43 1)
      · exact q
      · exfalso
        unfold ch at z
        rw [if_neg q] at z
        exact absurd z (by decide)
    have ep : i32 (up S 43 2 p 43 2 + 1) = p + 1 := by rw [q2]; exact i32_id (by omega) (by omega)
    have hF2 : Fr [] [(43, 2)] S (up (up S 43 2 p) 43 2 (p + 1)) := hF1.up _ _ _ rfl
    have g2 : up (up S 43 2 p) 43 2 (p + 1) 43 2 = p + 1 := up_s _ _ _ _
    have g1 : up (up S 43 2 p) 43 2 (p + 1) 43 1 = S 43 1 := by rw [hF2.s 43 1 rfl]
    have g3 : up (up S 43 2 p) 43 2 (p + 1) 43 3 = -1 := by rw [hF2.s 43 3 rfl]; exact hw
    have gb : up (up S 43 2 p) 43 2 (p + 1) 44 = S 44 := by rw [hF2.c 44 rfl]
    have goM := fun Q' hq' => t_xNumber (up (up S 43 2 p) 43 2 (p + 1)) 0 99 Q' (by rw [g2]; clear ep; omega) (by rw [g2]; clear ep; omega) (by rw [g1]; exact hn.2) g3 hq'
    rw [g1, g2, gb] at goM
    rw [← ep] at goM
    refine goM _ (fun v W hW hv => ?_)
    rw [ep] at hW hv ⊢
    clear goM
    have hF3 : Fr [] [(43, 2), (43, 3)] S (up (up (up (up S 43 2 p) 43 2 (p + 1)) 43 2 (nmA (S 44) (S 43 1) (p + 1))) 43 3 W) := ((hF2.mo rfl rfl : Fr [] [(43, 2), (43, 3)] S _).up _ _ _ rfl).up _ _ _ rfl
    refine at38 _ v hF3 (fun S3 hF4 b2 b3 hpr => ?_)
    have k2 : up (up (up (up S 43 2 p) 43 2 (p + 1)) 43 2 (nmA (S 44) (S 43 1) (p + 1))) 43 3 W 43 2 = nmA (S 44) (S 43 1) (p + 1) := by rw [up_n _ _ _ (by decide), up_s]
    have k3 : up (up (up (up S 43 2 p) 43 2 (p + 1)) 43 2 (nmA (S 44) (S 43 1) (p + 1))) 43 3 W 43 3 = W := up_s _ _ _ _
    refine hB z S3 W hF4 hW (by rw [b3]; exact k3) (fun y => ?_)
    have hv := hv y
    have hf := nm_fine (by clear ep; omega) (hW.symm.trans y)
    rw [k2, hv, st_v hs (by clear ep; omega)] at hpr
    exact hpr
