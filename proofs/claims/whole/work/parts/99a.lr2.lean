/-! an item read -/
theorem cst_lo {k i : Int} (hk : 0 ≤ k ∧ k ≤ 3) (hi : 0 ≤ i ∧ i < szK k) : cst 2 (4 * k + i) = loK k i := by
  have := szK_b k
  rcases k4 hk.1 hk.2 with rfl | rfl | rfl | rfl <;> rcases i4 (i := i) (by omega) with rfl | rfl | rfl | rfl <;> first | decide | exact absurd hi.2 (by decide)
theorem cst_hi {k i : Int} (ns : Int) (hk : 0 ≤ k ∧ k ≤ 3) (hi : 0 ≤ i ∧ i < szK k) (h : ¬ (k = 1 ∧ i = 2)) : cst 3 (4 * k + i) = hiK k i ns := by
  have := szK_b k
  rcases k4 hk.1 hk.2 with rfl | rfl | rfl | rfl <;> rcases i4 (i := i) (by omega) with rfl | rfl | rfl | rfl <;> first | rfl | exact absurd hi.2 (by decide) | exact absurd ⟨rfl, rfl⟩ h
theorem bit4 {x : Nat} {i : Int} (hx : x < 16) (hi : 0 ≤ i ∧ i < 4) : iand (ishr (x : Int) i) 1 = if x.testBit i.toNat = true then 1 else 0 := by
  have hx' : x = 0 ∨ x = 1 ∨ x = 2 ∨ x = 3 ∨ x = 4 ∨ x = 5 ∨ x = 6 ∨ x = 7 ∨ x = 8 ∨ x = 9 ∨ x = 10 ∨ x = 11 ∨ x = 12 ∨ x = 13 ∨ x = 14 ∨ x = 15 := by omega
  rcases i4 hi with rfl | rfl | rfl | rfl <;> rcases hx' with h | h | h | h | h | h | h | h | h | h | h | h | h | h | h | h <;> (rw [h]; decide)
theorem ch_t {t : Int → Int} {n p : Int} (h : ¬ ch t n p = -1) : p < n ∧ ch t n p = t p := by
  unfold ch at h ⊢
  by_cases z : p < n
  · rw [if_pos z]; exact ⟨z, rfl⟩
  · rw [if_neg z] at h; exact absurd rfl h
/-- the class's tape is whole -/
def tpX (S : St) : Prop := (0 ≤ S 43 1 ∧ S 43 1 ≤ 160) ∧ ∀ j, 0 ≤ j → j < S 43 1 → 1 ≤ S 44 j ∧ S 44 j ≤ 255
set_option maxHeartbeats 4000000 in
theorem t_readItem (S : St) (k p i : Int) (x : Nat) (Q : Option AV → St → Prop) (hT : tpX S) (h0 : 0 ≤ S 43 2) (hw : S 43 3 = -1) (hk : 0 ≤ k ∧ k ≤ 3) (hx : x < 16) (hp : sk (S 44) (S 43 1) (S 43 2) = p) (hc : ¬ ch (S 44) (S 43 1) p = -1) (hi : itF k (ch (S 44) (S 43 1) p) = i) (hns : 0 ≤ S 47 1 ∧ S 47 1 ≤ 5)
    (hA : (i < 0 ∨ x.testBit i.toNat = true) → ∀ S', Fr [] [(43, 2), (43, 3)] S S' → S' 43 2 = p → S' 43 3 = p → Q (some (.inl 0)) S')
    (hB : ¬ (i < 0 ∨ x.testBit i.toNat = true) → ∀ (S' : St) (v W : Int), Fr [46] [(43, 2), (43, 3)] S S' → S' 43 2 = nmA (S 44) (S 43 1) (p + 1) → S' 43 3 = W → W = nmW (S 44) (S 43 1) (loK k i) (hiK k i (S 47 1)) (p + 1) → (W = -1 → v = nmV (S 44) (S 43 1) (p + 1)) → S' 46 = uf (S 46) i v → Q (some (.inl (ishl 1 i))) S') : Smm H_LandReader_readItem 0 [some (.inr (.inr 45)), some (.inl k), some (.inl (x : Int)), none, none, none] [] S Q := by
  obtain ⟨⟨hn0, hn⟩, hby⟩ := hT
  obtain ⟨hpn, hcp⟩ := ch_t hc
  have hpb := sk_b (S 44) (S 43 1) (S 43 2)
  rw [hp] at hpb
  have hb := hby p (by omega) hpn
  have hc0 : ¬ ch (S 44) (S 43 1) p = 0 := by rw [hcp]; omega
  have hib := itF_b (k := k) (c := ch (S 44) (S 43 1) p) hk
  rw [hi] at hib
  have hsz := szK_b k
  have goN := fun Q' hq' => t_xNext S Q' h0 hn hq'
  rw [hp] at goN
  have goI := fun Q' hq' => t_itemOf (up S 43 2 p) k (ch (S 44) (S 43 1) p) Q' hk hc0 hq'
  rw [hi] at goI
  have e3 : up S 43 2 p 43 3 = -1 := by rw [up_n _ _ _ (by decide)]; exact hw
  have e2 : up S 43 2 p 43 2 = p := up_s _ _ _ _
  have f25 : (i < 0 ∨ x.testBit i.toNat = true) → Smm H_LandReader_readItem 25 [some (.inr (.inr 45)), some (.inl k), some (.inl (x : Int)), some (.inl i), none, none] [] (up S 43 2 p) Q := by
    intro hz
    refine sound ok_LandReader_readItem [] 40 ?_
    refine t_xFail _ _ _ (fun _ => ?_) (fun z => absurd e3 z)
    exact hA hz _ (((Fr.rf _ _ _).up _ _ _ rfl).up _ _ _ rfl) (by rw [up_n _ _ _ (by decide)]; exact e2) (by rw [up_s]; exact e2)
  refine sound ok_LandReader_readItem [25, 41] 60 ?_
  refine goN _ ?_
  refine goI _ ?_
  have hi41 : -1 ≤ i := by
    by_cases z : i = -1
    · omega
    · by_cases y : i < 0
      · exfalso
        have : itF k (ch (S 44) (S 43 1) p) = -1 ∨ 0 ≤ itF k (ch (S 44) (S 43 1) p) := by
          by_cases q : ∀ j, 0 ≤ j → j < 4 → ¬ ch (S 44) (S 43 1) p = cst 1 (4 * k + j)
          · exact Or.inl (it_no hk q)
          · have ⟨j, hj⟩ := Classical.not_forall.mp q
            have ⟨j0, hj⟩ := Classical.not_imp.mp hj
            have ⟨j1, hj⟩ := Classical.not_imp.mp hj
            right
            rw [it_at hk ⟨j0, j1⟩ hc0 (Classical.not_not.mp hj)]
            exact j0
        rw [hi] at this
        omega
      · omega
  have at41 : ¬ (i < 0 ∨ x.testBit i.toNat = true) → Smm H_LandReader_readItem 41 [some (.inr (.inr 45)), some (.inl k), some (.inl (x : Int)), some (.inl i), none, none] [] (up S 43 2 p) Q := by
    intro hz
    have hi0 : 0 ≤ i ∧ i < szK k := by omega
    have hi4 : 0 ≤ i ∧ i < 4 := by omega
    obtain ⟨x1, x2⟩ := ix4 hk hi4
    have ep : i32 (up S 43 2 p 43 2 + 1) = p + 1 := by rw [e2]; exact i32_id (by clear x1; omega) (by clear x1; omega)
    have lo := cst_lo hk hi0
    have hF1 : Fr [] [(43, 2)] S (up (up S 43 2 p) 43 2 (p + 1)) := ((Fr.rf _ _ _).up _ _ _ rfl).up _ _ _ rfl
    have g2 : up (up S 43 2 p) 43 2 (p + 1) 43 2 = p + 1 := up_s _ _ _ _
    have g1 : up (up S 43 2 p) 43 2 (p + 1) 43 1 = S 43 1 := by rw [hF1.s 43 1 rfl]
    have g3 : up (up S 43 2 p) 43 2 (p + 1) 43 3 = -1 := by rw [hF1.s 43 3 rfl]; exact hw
    have gb : up (up S 43 2 p) 43 2 (p + 1) 44 = S 44 := by rw [hF1.c 44 rfl]
    have gd : up (up S 43 2 p) 43 2 (p + 1) 47 1 = S 47 1 := by rw [hF1.c 47 rfl]
    have num : ∀ (hi' : Int) (x5 : Option AV), hi' = hiK k i (S 47 1) → Smm H_LandReader_readItem 116 [some (.inr (.inr 45)), some (.inl k), some (.inl (x : Int)), some (.inl i), some (.inl (i32 (i32 (k * 4) + i))), x5] [.inl hi', .inl (cst 2 (i32 (i32 (k * 4) + i))), .inr (.inr 43), .inl i, .inr (.inr 46)] (up (up S 43 2 p) 43 2 (p + 1)) Q := by
      intro hi' x5 hhi
      refine sound ok_LandReader_readItem [] 40 ?_
      refine t_xNumber _ _ _ _ (by rw [g2]; clear x1 ep; omega) (by rw [g2]; clear x1 ep; omega) (by rw [g1]; exact hn) g3 (fun v W hW hv => ?_)
      rw [g1, g2, gb] at hW hv
      rw [x1, lo, hhi] at hW
      refine ⟨hi4, ?_⟩
      have hF2 : Fr [] [(43, 2), (43, 3)] S (up (up (up (up S 43 2 p) 43 2 (p + 1)) 43 2 (nmA (up (up S 43 2 p) 43 2 (p + 1) 44) (up (up S 43 2 p) 43 2 (p + 1) 43 1) (up (up S 43 2 p) 43 2 (p + 1) 43 2))) 43 3 W) := ((hF1.mo rfl rfl : Fr [] [(43, 2), (43, 3)] S _).up _ _ _ rfl).up _ _ _ rfl
      refine hB hz _ v W ((hF2.mo rfl rfl : Fr [46] [(43, 2), (43, 3)] S _).up _ _ _ rfl) ?_ ?_ hW hv ?_
      · rw [up_o _ _ _ (by decide), up_n _ _ _ (by decide), up_s, g1, g2, gb]
      · rw [up_o _ _ _ (by decide), up_s]
      · funext j
        rw [up_c, hF2.c 46 rfl]
        rfl
    have num2 := num
    rw [← ep] at num
    refine sound ok_LandReader_readItem [116] 60 ?_
    have e1s : i32 (up (up S 43 2 p) 43 2 (p + 1) 47 1 - 1) = S 47 1 - 1 := by rw [gd]; exact i32_id (by clear x1 ep; omega) (by clear x1 ep; omega)
    refine ⟨fun hk1 => ?_, fun hk1 => ?_⟩
    · refine ⟨by rw [x1]; exact x2, ?_⟩
      refine ⟨fun _ => ?_, fun z => absurd rfl z⟩
      refine ⟨by rw [x1]; exact x2, ?_⟩
      exact num _ _ (by rw [x1]; exact cst_hi _ hk hi0 (fun q => hk1 q.1))
    · refine ⟨fun hk2 => ?_, fun hk2 => ?_⟩
      · refine ⟨by rw [x1]; exact x2, ?_⟩
        refine ⟨fun _ => ?_, fun z => absurd rfl z⟩
        refine ⟨by rw [x1]; exact x2, ?_⟩
        exact num _ _ (by rw [x1]; exact cst_hi _ hk hi0 (fun q => hk2 q.2))
      · refine ⟨by rw [x1]; exact x2, ?_⟩
        refine ⟨fun z => absurd z (by decide), fun _ => ?_⟩
        refine num _ _ ?_
        rw [ep, e1s, hk1, hk2]
        rfl
  refine ⟨fun z => f25 (Or.inl (by omega)), fun z => ?_⟩
  have hi4 : 0 ≤ i ∧ i < 4 := by omega
  have hb4 := bit4 hx hi4
  refine ⟨fun y => ?_, fun y => ?_⟩
  · refine at41 ?_
    rw [hb4] at y
    intro q
    rcases q with q | q
    · omega
    · rw [if_pos q] at y; exact absurd y (by decide)
  · rw [hb4] at y
    refine f25 (Or.inr ?_)
    by_cases q : x.testBit i.toNat = true
    · exact q
    · rw [if_neg q] at y; exact absurd rfl y
