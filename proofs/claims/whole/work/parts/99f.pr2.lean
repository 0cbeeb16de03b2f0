/-! units read -/
theorem at_n {t : Int → Int} {n p c : Int} (h : ch t n p = c) (hc : ¬ c = -1) : p < n := by
  unfold ch at h
  by_cases q : p < n
  · exact q
  · rw [if_neg q] at h
    exact absurd h.symm hc
set_option maxHeartbeats 4000000 in
theorem t_rUnit (S : St) (p c inner lt : Int) (xc : List Int) (Q : Option AV → St → Prop) (hT : tpX S) (h : prR p true inner xc lt S) (h0 : 0 ≤ p) (hsk : sk (S 44) (S 43 1) p = p) (hc : ch (S 44) (S 43 1) p = c) (hc1 : ¬ c = -1) (hw : S 43 3 = -1) (hin : 0 ≤ inner ∧ inner ≤ 6) (hl : xc.length < 160)
    (hA : (c = 40 ∧ inner < 6) → ∀ S', Fr [56] [(43, 2), (43, 3), (55, 2), (55, 3), (55, 4), (55, 5)] S S' → S' 43 3 = -1 → prR (p + 1) true (inner + 1) (-1 :: xc) lt S' → Q none S')
    (hB : ¬ (c = 40 ∧ inner < 6) → (97 ≤ c ∧ c ≤ 101) → ¬ ch (S 44) (S 43 1) (sk (S 44) (S 43 1) (p + 1)) = 43 → ∀ S', Fr [56] [(43, 2), (43, 3), (55, 2), (55, 3), (55, 4), (55, 5)] S S' → S' 43 3 = -1 → prR (sk (S 44) (S 43 1) (p + 1)) false inner (128 * (c - 97) :: xc) (ior lt (ishl 1 (c - 97))) S' → Q none S')
    (hC : ¬ (c = 40 ∧ inner < 6) → (97 ≤ c ∧ c ≤ 101) → ch (S 44) (S 43 1) (sk (S 44) (S 43 1) (p + 1)) = 43 → ∀ (S' : St) (W : Int), Fr [56] [(43, 2), (43, 3), (55, 2), (55, 3), (55, 4), (55, 5)] S S' → W = nmW (S 44) (S 43 1) 0 99 (sk (S 44) (S 43 1) (p + 1) + 1) → S' 43 3 = W → (W = -1 → prR (nmA (S 44) (S 43 1) (sk (S 44) (S 43 1) (p + 1) + 1)) false inner ((128 * (c - 97) + nmV (S 44) (S 43 1) (sk (S 44) (S 43 1) (p + 1) + 1)) :: xc) (ior lt (ishl 1 (c - 97))) S') → Q none S')
    (hD : ¬ (c = 40 ∧ inner < 6) → ¬ (97 ≤ c ∧ c ≤ 101) → ∀ S', Fr [56] [(43, 2), (43, 3), (55, 2), (55, 3), (55, 4), (55, 5)] S S' → S' 43 3 = p → Q none S') : Smm H_PlanReader_readUnit 0 [some (.inr (.inr 55)), none] [] S Q := by
  obtain ⟨r1, r2, r3, r4, r5, r6⟩ := h
  have hn := hT.1
  have hpn := at_n hc hc1
  have goN := fun Q' hq' => t_xNext S Q' (by rw [r1]; exact h0) hn.2 hq'
  rw [r1, hsk, hc] at goN
  have eS : up S 43 2 p = S := by rw [← r1]; exact up_self S _ _
  rw [eS] at goN
  have ep : i32 (S 43 2 + 1) = p + 1 := by rw [r1]; exact i32_id (by omega) (by omega)
  have hF1 : Fr [] [(43, 2)] S (up S 43 2 (p + 1)) := (Fr.rf _ _ _).up _ _ _ rfl
  have at54 : ¬ (c = 40 ∧ inner < 6) → Smm H_PlanReader_readUnit 54 [some (.inr (.inr 55)), some (.inl c)] [] S Q := by
    intro hz
    have bad : ¬ (97 ≤ c ∧ c ≤ 101) → Smm H_PlanReader_readUnit 95 [some (.inr (.inr 55)), some (.inl c)] [] S Q := by
      intro hy
      refine sound ok_PlanReader_readUnit [] 20 ?_
      refine t_xFail S _ _ (fun _ => ?_) (fun z => absurd hw z)
      exact hD hz hy _ ((Fr.rf _ _ _).up _ _ _ rfl) (by rw [up_s]; exact r1)
    refine sound ok_PlanReader_readUnit [95] 40 ?_
    refine ⟨fun z => bad (by clear ep; omega), fun z => ?_⟩
    refine ⟨fun y => bad (by clear ep; omega), fun y => ?_⟩
    have hcl : 97 ≤ c ∧ c ≤ 101 := by clear ep; omega
    have ec : i32 (c - 97) = c - 97 := i32_id (by clear ep; omega) (by clear ep; omega)
    have gT : up S 43 2 (p + 1) 44 = S 44 := hF1.c _ rfl
    have gN : up S 43 2 (p + 1) 43 1 = S 43 1 := hF1.s _ _ rfl
    have hpr : prR (p + 1) true inner xc lt (up S 43 2 (p + 1)) := ⟨up_s _ _ _ _, by rw [hF1.c 55 rfl]; exact r2, by rw [hF1.c 55 rfl]; exact r3, by rw [hF1.c 56 rfl]; exact r4, by rw [hF1.c 55 rfl]; exact r5, by rw [hF1.c 55 rfl]; exact r6⟩
    have goL := fun Q' hA' hB' => t_rLetter (up S 43 2 (p + 1)) (c - 97) (p + 1) inner lt true xc Q' (tp_fr hT hF1 rfl rfl) hpr (by clear ep ec; omega) (by rw [gN]; clear ep ec; omega) (by rw [hF1.s 43 3 rfl]; exact hw) (by clear ep ec; omega) hl hA' hB'
    rw [gT, gN] at goL
    have uw : ∀ (S2 : St) (A : Int) (x2 : List Int) (l2 : Int), prR A true inner x2 l2 S2 → prR A false inner x2 l2 (up S2 55 5 0) := by
      rintro S2 A x2 l2 ⟨k1, k2, k3, k4, k5, k6⟩
      have hF2 : Fr [] [(55, 5)] S2 (up S2 55 5 0) := (Fr.rf _ _ _).up _ _ _ rfl
      exact ⟨by rw [hF2.c 43 rfl]; exact k1, by rw [hF2.s 55 4 rfl]; exact k2, by rw [hF2.s 55 2 rfl]; exact k3, by rw [hF2.c 56 rfl]; exact k4, by rw [hF2.s 55 3 rfl]; exact k5, by rw [up_s]; rfl⟩
    have goL2 := fun Q' hA' hB' => goL Q' hA' hB'
    rw [← ec, ← ep] at goL2
    refine goL2 _ (fun h43 S2 hF2 b3 hp2 => ?_) (fun h43 S2 W hF2 hW b3 hp2 => ?_)
    · rw [ec] at hp2
      rw [ep] at h43 hp2 hF2
      refine ⟨Or.inl rfl, ?_⟩
      have hF3 : Fr [] [(55, 5)] S2 (up S2 55 5 0) := (Fr.rf _ _ _).up _ _ _ rfl
      exact hB hz hcl h43 _ (((hF1.mo rfl rfl).tr hF2).tr (hF3.mo rfl rfl)) (by rw [hF3.c 43 rfl]; exact b3) (uw _ _ _ _ hp2)
    · rw [ec] at hp2
      rw [ep] at h43 hp2 hF2 hW
      refine ⟨Or.inl rfl, ?_⟩
      have hF3 : Fr [] [(55, 5)] S2 (up S2 55 5 0) := (Fr.rf _ _ _).up _ _ _ rfl
      exact hC hz hcl h43 _ W (((hF1.mo rfl rfl).tr hF2).tr (hF3.mo rfl rfl)) hW (by rw [hF3.c 43 rfl]; exact b3) (fun y => uw _ _ _ _ (hp2 y))
  refine sound ok_PlanReader_readUnit [54] 40 ?_
  refine goN _ ?_
  refine ⟨fun z => at54 (fun q => z q.1), fun z => ?_⟩
  refine ⟨fun y => at54 (fun q => absurd q.2 (by rw [r2] at y; clear ep; omega)), fun y => ?_⟩
  rw [r2] at y
  have ei : i32 (S 55 4 + 1) = inner + 1 := by rw [r2]; exact i32_id (by clear ep; omega) (by clear ep; omega)
  have hF2 : Fr [] [(43, 2), (55, 4)] S (up (up S 43 2 (p + 1)) 55 4 (inner + 1)) := ((Fr.rf _ _ _).up _ _ _ rfl).up _ _ _ rfl
  have goW := fun Q' hq' => t_prWrite (up (up S 43 2 (p + 1)) 55 4 (inner + 1)) (-1) xc Q' (by rw [hF2.s 55 2 rfl]; exact r3) (by rw [hF2.c 56 rfl]; exact r4) hl hq'
  rw [← ep, ← ei] at goW
  refine goW _ (fun S3 hF3 b2 bc => ?_)
  rw [ep, ei] at hF3
  refine hA ⟨z, y⟩ S3 ((hF2.mo rfl rfl).tr (hF3.mo rfl rfl)) ?_ ⟨?_, ?_, b2, bc, ?_, ?_⟩
  · rw [hF3.c 43 rfl, hF2.s 43 3 rfl]; exact hw
  · rw [hF3.c 43 rfl, up_o _ _ _ (by decide), up_s]
  · rw [hF3.s 55 4 rfl, up_s]
  · rw [hF3.s 55 3 rfl, hF2.s 55 3 rfl]; exact r5
  · rw [hF3.s 55 5 rfl, hF2.s 55 5 rfl]; exact r6
set_option maxHeartbeats 4000000 in
theorem t_rBehind (S : St) (p c inner lt : Int) (xc : List Int) (Q : Option AV → St → Prop) (hT : tpX S) (h : prR p false inner xc lt S) (h0 : 0 ≤ p) (hsk : sk (S 44) (S 43 1) p = p) (hc : ch (S 44) (S 43 1) p = c) (hc1 : ¬ c = -1) (hw : S 43 3 = -1) (hin : 0 ≤ inner ∧ inner ≤ 6) (hl : xc.length < 160)
    (hA : (c = 41 ∧ 0 < inner) → ∀ S', Fr [56] [(43, 2), (43, 3), (55, 2), (55, 3), (55, 4), (55, 5)] S S' → S' 43 3 = -1 → prR (p + 1) false (inner - 1) (-2 :: xc) lt S' → Q none S')
    (hB : (c = 38 ∨ c = 124) → ∀ S', Fr [56] [(43, 2), (43, 3), (55, 2), (55, 3), (55, 4), (55, 5)] S S' → S' 43 3 = -1 → prR (p + 1) true inner (if c = 124 then -3 :: xc else xc) lt S' → Q none S')
    (hD : ¬ (c = 41 ∧ 0 < inner) → ¬ (c = 38 ∨ c = 124) → ∀ S', Fr [56] [(43, 2), (43, 3), (55, 2), (55, 3), (55, 4), (55, 5)] S S' → S' 43 3 = p → Q none S') : Smm H_PlanReader_readBehindUnit 0 [some (.inr (.inr 55)), none] [] S Q := by
  obtain ⟨r1, r2, r3, r4, r5, r6⟩ := h
  have hn := hT.1
  have hpn := at_n hc hc1
  have goN := fun Q' hq' => t_xNext S Q' (by rw [r1]; exact h0) hn.2 hq'
  rw [r1, hsk, hc] at goN
  have eS : up S 43 2 p = S := by rw [← r1]; exact up_self S _ _
  rw [eS] at goN
  -- the end: one byte on
  have at86 : ∀ S2 : St, S2 43 2 = p → Q none (up S2 43 2 (p + 1)) → Smm H_PlanReader_readBehindUnit 86 [some (.inr (.inr 55)), some (.inl c)] [] S2 Q := by
    intro S2 b2 hq
    have ep : i32 (S2 43 2 + 1) = p + 1 := by rw [b2]; exact i32_id (by omega) (by omega)
    rw [← ep] at hq
    refine sound ok_PlanReader_readBehindUnit [] 20 ?_
    exact hq
  have onn : ∀ (S2 : St) (u : Bool) (i2 : Int) (x2 : List Int), prR p u i2 x2 lt S2 → prR (p + 1) u i2 x2 lt (up S2 43 2 (p + 1)) := by
    rintro S2 u i2 x2 ⟨k1, k2, k3, k4, k5, k6⟩
    have hF2 : Fr [] [(43, 2)] S2 (up S2 43 2 (p + 1)) := (Fr.rf _ _ _).up _ _ _ rfl
    exact ⟨up_s _ _ _ _, by rw [hF2.c 55 rfl]; exact k2, by rw [hF2.c 55 rfl]; exact k3, by rw [hF2.c 56 rfl]; exact k4, by rw [hF2.c 55 rfl]; exact k5, by rw [hF2.c 55 rfl]; exact k6⟩
  have at20 : (c = 38 ∨ c = 124) → Smm H_PlanReader_readBehindUnit 20 [some (.inr (.inr 55)), some (.inl c)] [] S Q := by
    intro hz
    have hF1 : Fr [] [(55, 5)] S (up S 55 5 1) := (Fr.rf _ _ _).up _ _ _ rfl
    have hp1 : prR p true inner xc lt (up S 55 5 1) := ⟨by rw [hF1.c 43 rfl]; exact r1, by rw [hF1.s 55 4 rfl]; exact r2, by rw [hF1.s 55 2 rfl]; exact r3, by rw [hF1.c 56 rfl]; exact r4, by rw [hF1.s 55 3 rfl]; exact r5, by rw [up_s]; rfl⟩
    refine sound ok_PlanReader_readBehindUnit [86] 20 ?_
    refine ⟨Or.inr rfl, ?_⟩
    refine ⟨fun y => ?_, fun y => ?_⟩
    · refine at86 _ hp1.1 ?_
      have := hB hz (up (up S 55 5 1) 43 2 (p + 1)) ((hF1.mo rfl rfl : Fr [56] [(43, 2), (43, 3), (55, 2), (55, 3), (55, 4), (55, 5)] S _).up _ _ _ rfl) (by rw [up_n _ _ _ (by decide), hF1.c 43 rfl]; exact hw)
      rw [if_neg y] at this
      exact this (onn _ _ _ _ hp1)
    · refine t_prWrite _ (-3) xc _ hp1.2.2.1 hp1.2.2.2.1 hl (fun S3 hF3 b2 bc => ?_)
      have hp3 : prR p true inner (-3 :: xc) lt S3 := ⟨by rw [hF3.c 43 rfl]; exact hp1.1, by rw [hF3.s 55 4 rfl]; exact hp1.2.1, b2, bc, by rw [hF3.s 55 3 rfl]; exact hp1.2.2.2.2.1, by rw [hF3.s 55 5 rfl]; exact hp1.2.2.2.2.2⟩
      refine at86 _ hp3.1 ?_
      have hF4 : Fr [56] [(43, 2), (43, 3), (55, 2), (55, 3), (55, 4), (55, 5)] S S3 := (hF1.mo rfl rfl).tr (hF3.mo rfl rfl)
      have := hB hz (up S3 43 2 (p + 1)) (hF4.up _ _ _ rfl) (by rw [up_n _ _ _ (by decide), hF3.c 43 rfl, hF1.c 43 rfl]; exact hw)
      rw [if_pos y] at this
      exact this (onn _ _ _ _ hp3)
  have at72 : ¬ (c = 41 ∧ 0 < inner) → ¬ (c = 38 ∨ c = 124) → Smm H_PlanReader_readBehindUnit 72 [some (.inr (.inr 55)), some (.inl c)] [] S Q := by
    intro hz hy
    refine sound ok_PlanReader_readBehindUnit [86] 20 ?_
    refine t_xFail S _ _ (fun _ => ?_) (fun z => absurd hw z)
    refine at86 _ (by rw [up_n _ _ _ (by decide)]; exact r1) ?_
    exact hD hz hy _ (((Fr.rf _ _ _).up _ _ _ rfl).up _ _ _ rfl) (by rw [up_n _ _ _ (by decide), up_s]; exact r1)
  refine sound ok_PlanReader_readBehindUnit [20, 40] 40 ?_
  refine goN _ ?_
  refine ⟨fun z => at20 (Or.inl z), fun z => ?_⟩
  refine ⟨fun y => ?_, fun y => at20 (Or.inr y)⟩
  have hno : ¬ (c = 38 ∨ c = 124) := fun q => q.elim z y
  refine sound ok_PlanReader_readBehindUnit [72, 86] 40 ?_
  refine ⟨fun x => at72 (fun q => x q.1) hno, fun x => ?_⟩
  refine ⟨fun w => at72 (fun q => absurd q.2 (by rw [r2] at w; omega)) hno, fun w => ?_⟩
  rw [r2] at w
  have ei : i32 (S 55 4 - 1) = inner - 1 := by rw [r2]; exact i32_id (by omega) (by omega)
  have hF2 : Fr [] [(55, 4)] S (up S 55 4 (inner - 1)) := (Fr.rf _ _ _).up _ _ _ rfl
  have goW := fun Q' hq' => t_prWrite (up S 55 4 (inner - 1)) (-2) xc Q' (by rw [hF2.s 55 2 rfl]; exact r3) (by rw [hF2.c 56 rfl]; exact r4) hl hq'
  rw [← ei] at goW
  refine goW _ (fun S3 hF3 b2 bc => ?_)
  rw [ei] at hF3
  have hp3 : prR p false (inner - 1) (-2 :: xc) lt S3 := ⟨by rw [hF3.c 43 rfl, hF2.c 43 rfl]; exact r1, by rw [hF3.s 55 4 rfl, up_s], b2, bc, by rw [hF3.s 55 3 rfl, hF2.s 55 3 rfl]; exact r5, by rw [hF3.s 55 5 rfl, hF2.s 55 5 rfl]; exact r6⟩
  refine at86 S3 hp3.1 ?_
  have hF4 : Fr [56] [(43, 2), (43, 3), (55, 2), (55, 3), (55, 4), (55, 5)] S S3 := (hF2.mo rfl rfl).tr (hF3.mo rfl rfl)
  exact hA ⟨x, w⟩ _ (hF4.up _ _ _ rfl) (by rw [up_n _ _ _ (by decide), hF3.c 43 rfl, hF2.c 43 rfl]; exact hw) (onn _ _ _ _ hp3)
