/-! the reference: the tape fed, the land laid -/
/-- a byte of a word -/
def byt (w k : Int) : Int := iand (ishr w k) 255
def zb (b : Int) : Int := if b = 0 then 0 else 1
def lvN (w : Int) : Int := zb (byt w 0) + zb (byt w 8) + zb (byt w 16) + zb (byt w 24)
theorem zb_b (b : Int) : 0 ≤ zb b ∧ zb b ≤ 1 := by unfold zb; split <;> omega
theorem lvN_b (w : Int) : 0 ≤ lvN w ∧ lvN w ≤ 4 := by
  have := zb_b (byt w 0)
  have := zb_b (byt w 8)
  have := zb_b (byt w 16)
  have := zb_b (byt w 24)
  unfold lvN
  omega
theorem t_M_lives (S : St) (w : Int) (Q : Option AV → St → Prop) (hQ : Q (some (.inl (lvN w))) S) : Smm H_M_lives 0 [some (.inl w), none, none] [] S Q := by
  have step : ∀ (k n : Int), (0 ≤ k ∧ k < 32) → (0 ≤ n ∧ n ≤ 10) → (∀ m : Int, m = n + zb (byt w k) → Smm H_M_lives 4 [some (.inl w), some (.inl m), some (.inl (k + 8))] [] S Q) → Smm H_M_lives 4 [some (.inl w), some (.inl n), some (.inl k)] [] S Q := by
    intro k n hk hn ih
    have e8 : i32 (k + 8) = k + 8 := i32_id (by omega) (by omega)
    have e1 : i32 (n + 1) = n + 1 := i32_id (by omega) (by omega)
    refine sound ok_M_lives [4] 30 ?_
    refine ⟨fun h => absurd h (by omega), fun _ => ?_⟩
    refine ⟨fun h => ?_, fun h => ?_⟩
    · exact Smm.sub (ih n (by unfold zb byt; rw [if_pos h]; omega)) ⟨Or.inr rfl, Or.inr rfl, Or.inr (sI e8.symm), trivial⟩
    · exact Smm.sub (ih (n + 1) (by unfold zb byt; rw [if_neg h])) ⟨Or.inr rfl, Or.inr (sI e1.symm), Or.inr (sI e8.symm), trivial⟩
  have z0 := zb_b (byt w 0)
  have z8 := zb_b (byt w 8)
  have z16 := zb_b (byt w 16)
  have z24 := zb_b (byt w 24)
  refine sound ok_M_lives [4] 20 ?_
  refine step 0 0 (by omega) (by omega) (fun m1 h1 => step 8 m1 (by omega) (by omega) (fun m2 h2 => step 16 m2 (by omega) (by omega) (fun m3 h3 => step 24 m3 (by omega) (by omega) (fun m4 h4 => ?_))))
  refine sound ok_M_lives [4] 20 ?_
  refine ⟨fun _ => ?_, fun h => absurd h (by decide)⟩
  have e : m4 = lvN w := by unfold lvN; omega
  rw [e]
  exact hQ
/-- a byte comes to the tape -/
def cmB (S : St) (b : Int) : St := if b = 0 then S else up (up S 1 (S 0 2) b) 0 2 (S 0 2 + 1)
theorem cmB_n (S : St) (b : Int) : cmB S b 0 2 = S 0 2 + zb b := by
  unfold cmB zb
  split
  · omega
  · rw [up_s]
def cmS (S : St) (w : Int) : St := cmB (cmB (cmB (cmB S (byt w 24)) (byt w 16)) (byt w 8)) (byt w 0)
theorem cmS_n (S : St) (w : Int) : cmS S w 0 2 = S 0 2 + lvN w := by
  unfold cmS lvN
  rw [cmB_n, cmB_n, cmB_n, cmB_n]
  omega
theorem t_M_comes (S : St) (w : Int) (Q : Option AV → St → Prop) (h0 : 0 ≤ S 0 2) (h1 : S 0 2 + lvN w ≤ 160) (hQ : Q none (cmS S w)) : Smm H_M_comes 0 [some (.inr (.inr 0)), some (.inl w), none, none] [] S Q := by
  have step : ∀ (T : St) (k : Int) (x : Option AV), (0 ≤ k ∧ k < 32) → (0 ≤ T 0 2 ∧ T 0 2 + zb (byt w k) ≤ 160) → (∀ x, Smm H_M_comes 3 [some (.inr (.inr 0)), some (.inl w), some (.inl (k - 8)), x] [] (cmB T (byt w k)) Q) → Smm H_M_comes 3 [some (.inr (.inr 0)), some (.inl w), some (.inl k), x] [] T Q := by
    intro T k x hk hn ih
    have e8 : i32 (k + -8) = k - 8 := i32_id (by omega) (by omega)
    refine sound ok_M_comes [3] 60 ?_
    refine ⟨fun h => absurd h (by omega), fun _ => ?_⟩
    refine ⟨fun h => ?_, fun h => ?_⟩
    · have ih := ih (some (.inl (byt w k)))
      rw [show cmB T (byt w k) = T by unfold cmB byt; rw [if_pos h]] at ih
      exact Smm.sub ih ⟨Or.inr rfl, Or.inr rfl, Or.inr (sI e8.symm), Or.inr rfl, trivial⟩
    · have ih := ih (some (.inl (byt w k)))
      have hz : zb (byt w k) = 1 := by unfold zb byt; rw [if_neg h]
      have b1 : 0 ≤ T 0 2 ∧ T 0 2 < 160 := by omega
      have e1 : i32 (up T 1 (T 0 2) (byt w k) 0 2 + 1) = T 0 2 + 1 := by rw [up_o _ _ _ (by decide)]; exact i32_id (by omega) (by omega)
      rw [show cmB T (byt w k) = up (up T 1 (T 0 2) (byt w k)) 0 2 (T 0 2 + 1) by unfold cmB byt; rw [if_neg h], ← e1] at ih
      refine ⟨b1, ?_⟩
      exact Smm.sub ih ⟨Or.inr rfl, Or.inr rfl, Or.inr (sI e8.symm), Or.inr rfl, trivial⟩
  have z0 := zb_b (byt w 0)
  have z8 := zb_b (byt w 8)
  have z16 := zb_b (byt w 16)
  have z24 := zb_b (byt w 24)
  have n1 := cmB_n S (byt w 24)
  have n2 := cmB_n (cmB S (byt w 24)) (byt w 16)
  have n3 := cmB_n (cmB (cmB S (byt w 24)) (byt w 16)) (byt w 8)
  unfold lvN at h1
  refine sound ok_M_comes [3] 20 ?_
  refine step S 24 _ (by omega) (by omega) (fun x1 => step _ 16 _ (by omega) (by omega) (fun x2 => step _ 8 _ (by omega) (by omega) (fun x3 => step _ 0 _ (by omega) (by omega) (fun x4 => ?_))))
  refine sound ok_M_comes [3] 20 ?_
  exact ⟨fun _ => hQ, fun h => absurd h (by decide)⟩
def fdN (S : St) (a b c d e : Int) : Int := S 0 2 + lvN a + lvN b + lvN c + lvN d + lvN e
def fdS (S : St) (a b c d e : Int) : St := cmS (cmS (cmS (cmS (cmS (th S) a) b) c) d) e
theorem t_M_feed (S : St) (a b c d e : Int) (Q : Option AV → St → Prop) (hn : 0 ≤ S 0 2 ∧ S 0 2 ≤ 160) (h0 : 160 < fdN S a b c d e → Q (some (.inl (-1))) (th S)) (h1 : fdN S a b c d e ≤ 160 → Q (some (.inl (fdN S a b c d e))) (fdS S a b c d e)) : Smm H_M_feed 0 [some (.inr (.inr 0)), some (.inl a), some (.inl b), some (.inl c), some (.inl d), some (.inl e)] [] S Q := by
  have la := lvN_b a
  have lb := lvN_b b
  have lc := lvN_b c
  have ld := lvN_b d
  have le := lvN_b e
  have t2 : th S 0 2 = S 0 2 := th_0 S (by decide)
  have e1 : i32 (th S 0 2 + lvN a) = S 0 2 + lvN a := by rw [t2]; exact i32_id (by omega) (by omega)
  have e2 : i32 (i32 (th S 0 2 + lvN a) + lvN b) = S 0 2 + lvN a + lvN b := by rw [e1]; exact i32_id (by omega) (by omega)
  have e3 : i32 (i32 (i32 (th S 0 2 + lvN a) + lvN b) + lvN c) = S 0 2 + lvN a + lvN b + lvN c := by rw [e2]; exact i32_id (by omega) (by omega)
  have e4 : i32 (i32 (i32 (i32 (th S 0 2 + lvN a) + lvN b) + lvN c) + lvN d) = S 0 2 + lvN a + lvN b + lvN c + lvN d := by rw [e3]; exact i32_id (by omega) (by omega)
  have e5 : i32 (i32 (i32 (i32 (i32 (th S 0 2 + lvN a) + lvN b) + lvN c) + lvN d) + lvN e) = fdN S a b c d e := by rw [e4]; unfold fdN; exact i32_id (by omega) (by omega)
  have s1 := cmS_n (th S) a
  have s2 := cmS_n (cmS (th S) a) b
  have s3 := cmS_n (cmS (cmS (th S) a) b) c
  have s4 := cmS_n (cmS (cmS (cmS (th S) a) b) c) d
  have s5 := cmS_n (cmS (cmS (cmS (cmS (th S) a) b) c) d) e
  refine sound ok_M_feed [44] 60 ?_
  refine t_M_lives _ _ _ ?_
  refine t_M_lives _ _ _ ?_
  refine t_M_lives _ _ _ ?_
  refine t_M_lives _ _ _ ?_
  refine t_M_lives _ _ _ ?_
  refine ⟨fun h => ?_, fun h => ?_⟩
  · replace h : fdN S a b c d e ≤ 160 := by rw [← e5]; exact h
    have hq := h1 h
    have hx : fdN S a b c d e = fdS S a b c d e 0 2 := by unfold fdN fdS; omega
    rw [hx] at hq
    unfold fdN at h
    clear e1 e2 e3 e4 e5
    refine sound ok_M_feed [] 60 ?_
    refine t_M_comes (th S) _ _ (by omega) (by omega) ?_
    refine t_M_comes (cmS (th S) a) _ _ (by omega) (by omega) ?_
    refine t_M_comes (cmS (cmS (th S) a) b) _ _ (by omega) (by omega) ?_
    refine t_M_comes (cmS (cmS (cmS (th S) a) b) c) _ _ (by omega) (by omega) ?_
    refine t_M_comes (cmS (cmS (cmS (cmS (th S) a) b) c) d) _ _ (by omega) (by omega) ?_
    exact hq
  · exact h0 (by rw [← e5]; exact h)
theorem t_M_end (S : St) (n : Int) (Q : Option AV → St → Prop) (h0 : ¬ (0 ≤ n ∧ n ≤ S 0 2) → Q (some (.inl 0)) (th S)) (h1 : 0 ≤ n ∧ n ≤ S 0 2 → Q (some (.inl 1)) (up (th S) 0 2 n)) : Smm H_M_end 0 [some (.inr (.inr 0)), some (.inl n)] [] S Q := by
  have t2 : th S 0 2 = S 0 2 := th_0 S (by decide)
  refine sound ok_M_end [] 40 ?_
  refine ⟨fun h => ⟨Or.inl rfl, h0 (by omega)⟩, fun h => ?_⟩
  refine ⟨fun g => ?_, fun g => ?_⟩
  · replace g : n ≤ S 0 2 := by rw [← t2]; exact g
    exact ⟨Or.inr rfl, h1 (by omega)⟩
  · replace g : S 0 2 < n := by rw [← t2]; exact g
    exact ⟨Or.inl rfl, h0 (by omega)⟩
def cfI (v : Int) (g : Int → Int) (n : Int) : Int → Int := fun j => if 0 ≤ j ∧ j < n then v else g j
theorem cfI_0 (v : Int) (g : Int → Int) : cfI v g 0 = g := by funext j; unfold cfI; rw [if_neg (by omega)]
theorem cfI_s (v : Int) (g : Int → Int) {i : Int} (h : 0 ≤ i) : uf (cfI v g i) i v = cfI v g (i + 1) := by
  funext j
  unfold uf cfI
  by_cases hj : j = i
  · rw [if_pos hj, if_pos (by omega)]
  · rw [if_neg hj]
    by_cases hz : 0 ≤ j ∧ j < i
    · rw [if_pos hz, if_pos (by omega)]
    · rw [if_neg hz, if_neg (by omega)]
def wpS (S : St) : St := stC (stC (up S 0 18 0) 9 (cfI (-1) (S 9) 4)) 14 (cfI (-1) (S 14) 20)
theorem t_M_wipes (S : St) (Q : Option AV → St → Prop) (hQ : Q none (wpS S)) : Smm H_M_wipes 0 [some (.inr (.inr 0)), none] [] S Q := by
  have l2 : ∀ (i : Int) (_ : Unit), (0 ≤ i ∧ i ≤ 20) → Smm H_M_wipes 27 [some (.inr (.inr 0)), some (.inl i)] [] (stC (stC (up S 0 18 0) 9 (cfI (-1) (S 9) 4)) 14 (cfI (-1) (S 14) i)) Q := by
    refine lp_up (P := fun i _ => Smm H_M_wipes 27 [some (.inr (.inr 0)), some (.inl i)] [] (stC (stC (up S 0 18 0) 9 (cfI (-1) (S 9) 4)) 14 (cfI (-1) (S 14) i)) Q) (fun i _ => 0 ≤ i ∧ i ≤ 20) 20 ?_ ?_
    · rintro i - hi hi2
      refine sound ok_M_wipes [27] 20 ?_
      refine ⟨fun _ => ?_, fun h => absurd h (by omega)⟩
      rw [show i = 20 by omega]
      exact hQ
    · rintro i - hi hi2 ih
      have ih := ih () (by omega)
      rw [← cfI_s _ _ hi2.1, ← up_stC_s] at ih
      refine sound ok_M_wipes [27] 20 ?_
      refine ⟨fun h => absurd h (by omega), fun _ => ?_⟩
      refine ⟨by omega, ?_⟩
      exact Smm.sub ih ⟨Or.inr rfl, Or.inr (sI (i32_id (by omega) (by omega)).symm), trivial⟩
  have l1 : ∀ (i : Int) (_ : Unit), (0 ≤ i ∧ i ≤ 4) → Smm H_M_wipes 7 [some (.inr (.inr 0)), some (.inl i)] [] (stC (up S 0 18 0) 9 (cfI (-1) (S 9) i)) Q := by
    refine lp_up (P := fun i _ => Smm H_M_wipes 7 [some (.inr (.inr 0)), some (.inl i)] [] (stC (up S 0 18 0) 9 (cfI (-1) (S 9) i)) Q) (fun i _ => 0 ≤ i ∧ i ≤ 4) 4 ?_ ?_
    · rintro i - hi hi2
      have h2 := l2 0 () (by omega)
      rw [cfI_0, show S 14 = stC (up S 0 18 0) 9 (cfI (-1) (S 9) 4) 14 by rw [stC_o _ _ (by decide), up_o _ _ _ (by decide)], stC_id] at h2
      refine sound ok_M_wipes [27] 20 ?_
      refine ⟨fun _ => ?_, fun h => absurd h (by omega)⟩
      rw [show i = 4 by omega]
      exact h2
    · rintro i - hi hi2 ih
      have ih := ih () (by omega)
      rw [← cfI_s _ _ hi2.1, ← up_stC_s] at ih
      refine sound ok_M_wipes [7] 20 ?_
      refine ⟨fun h => absurd h (by omega), fun _ => ?_⟩
      refine ⟨by omega, ?_⟩
      exact Smm.sub ih ⟨Or.inr rfl, Or.inr (sI (i32_id (by omega) (by omega)).symm), trivial⟩
  have h1 := l1 0 () (by omega)
  rw [cfI_0, show S 9 = up S 0 18 0 9 by rw [up_o _ _ _ (by decide)], stC_id] at h1
  refine sound ok_M_wipes [7] 20 ?_
  exact ⟨Or.inl rfl, h1⟩
/-- who hears what, by the hearings told -/
def ltF (E : Int → Int) (b : Int → Int) : Nat → Int → Int
  | 0 => b
  | h + 1 => uf (ltF E b h) (5 * E (3 * h + 1) + E (3 * h)) (E (3 * h + 2))
/-- behind a land laid -/
def llS (S T : St) : Prop := Fr [7, 8, 9, 10, 11, 12, 13, 14] [(0, 2), (0, 18), (0, 19), (0, 20), (0, 21), (0, 22), (0, 49), (0, 52), (0, 56)] S T ∧ (T 0 18 = 1 ∧ T 0 2 = 0 ∧ T 0 19 = S 0 5 ∧ T 0 20 = S 0 6 ∧ T 0 21 = S 0 12 ∧ T 0 22 = S 0 13 ∧ T 0 49 = 0 ∧ T 0 52 = 0 ∧ T 0 56 = 0) ∧ (∀ g, 0 ≤ g → g < 4 → T 9 g = -1) ∧ (∀ g, 0 ≤ g → g < S 0 5 → T 7 g = S 2 (2 * g) ∧ T 8 g = S 2 (2 * g + 1)) ∧ (∀ s, 0 ≤ s → s < S 0 6 → T 10 s = S 3 (4 * s) ∧ T 11 s = S 3 (4 * s + 1) ∧ T 12 s = S 3 (4 * s + 2) ∧ T 13 s = S 3 (4 * s + 3)) ∧ ∀ j, 0 ≤ j → j < 20 → T 14 j = ltF (S 4) (fun _ => -1) (S 0 7).toNat j
set_option maxHeartbeats 4000000 in
theorem t_M_laysLand (S : St) (Q : Option AV → St → Prop) (hg : 0 ≤ S 0 5 ∧ S 0 5 ≤ 4) (hs : 0 ≤ S 0 6 ∧ S 0 6 ≤ 5) (he : 0 ≤ S 0 7 ∧ S 0 7 ≤ 12) (hb : ∀ h, 0 ≤ h → h < S 0 7 → 0 ≤ S 4 (3 * h) ∧ S 4 (3 * h) ≤ 4 ∧ 0 ≤ S 4 (3 * h + 1) ∧ S 4 (3 * h + 1) ≤ 3) (hQ : ∀ T, llS S T → Q none T) : Smm H_M_laysLand 0 [some (.inr (.inr 0)), none] [] S Q := by
  have c0 : ∀ c, c ≠ 0 → c ≠ 9 → c ≠ 14 → wpS S c = S c := fun c h1 h2 h3 => by unfold wpS; rw [stC_o _ _ h3, stC_o _ _ h2, up_o _ _ _ h1]
  have w0 : ∀ j, j ≠ 18 → wpS S 0 j = S 0 j := fun j hj => by unfold wpS; rw [stC_o _ _ (by decide), stC_o _ _ (by decide), up_n _ _ _ hj]
  generalize hU : up (up (up (up (up (up (wpS S) 0 18 1) 0 2 0) 0 19 (S 0 5)) 0 20 (S 0 6)) 0 21 (S 0 12)) 0 22 (S 0 13) = U
  have uc : ∀ c, c ≠ 0 → U c = wpS S c := fun c hc => by rw [← hU, up_o _ _ _ hc, up_o _ _ _ hc, up_o _ _ _ hc, up_o _ _ _ hc, up_o _ _ _ hc, up_o _ _ _ hc]
  have u2 : U 2 = S 2 := by rw [uc _ (by decide), c0 _ (by decide) (by decide) (by decide)]
  have u3 : U 3 = S 3 := by rw [uc _ (by decide), c0 _ (by decide) (by decide) (by decide)]
  have u4 : U 4 = S 4 := by rw [uc _ (by decide), c0 _ (by decide) (by decide) (by decide)]
  have v18 : U 0 18 = 1 := by rw [← hU]; simp [upr]
  have v2 : U 0 2 = 0 := by rw [← hU]; simp [upr]
  have v19 : U 0 19 = S 0 5 := by rw [← hU]; simp [upr]
  have v20 : U 0 20 = S 0 6 := by rw [← hU]; simp [upr]
  have v21 : U 0 21 = S 0 12 := by rw [← hU]; simp [upr]
  have v22 : U 0 22 = S 0 13 := by rw [← hU]; simp [upr]
  have v7 : U 0 7 = S 0 7 := by rw [← hU]; simp [upr]; exact w0 _ (by decide)
  have fU : Fr [7, 8, 9, 10, 11, 12, 13, 14] [(0, 2), (0, 18), (0, 19), (0, 20), (0, 21), (0, 22), (0, 49), (0, 52), (0, 56)] S U := by
    have : Fr [7, 8, 9, 10, 11, 12, 13, 14] [(0, 2), (0, 18), (0, 19), (0, 20), (0, 21), (0, 22), (0, 49), (0, 52), (0, 56)] S (wpS S) := by
      intro c j hx hy
      by_cases h : c = 0
      · subst h
        exact w0 j (fun z => hy (by rw [z]; decide))
      · exact congrFun (c0 c h (fun z => hx (by rw [z]; decide)) (fun z => hx (by rw [z]; decide))) j
    rw [← hU]
    exact (((((this.up _ _ _ rfl).up _ _ _ rfl).up _ _ _ rfl).up _ _ _ rfl).up _ _ _ rfl).up _ _ _ rfl
  have pU : ∀ g, 0 ≤ g → g < 4 → U 9 g = -1 := fun g g0 g1 => by
    rw [uc _ (by decide)]; unfold wpS; rw [stC_o _ _ (by decide), stC_s]; unfold cfI; rw [if_pos ⟨g0, g1⟩]
  have lU : ∀ j, 0 ≤ j → j < 20 → U 14 j = -1 := fun j j0 j1 => by
    rw [uc _ (by decide)]; unfold wpS; rw [stC_s]; unfold cfI; rw [if_pos ⟨j0, j1⟩]
  clear uc c0
  have l3 : ∀ (i : Int) (T : St), ((0 ≤ i ∧ i ≤ S 0 7) ∧ Fr [7, 8, 10, 11, 12, 13, 14] [] U T ∧ (∀ g, 0 ≤ g → g < S 0 5 → T 7 g = S 2 (2 * g) ∧ T 8 g = S 2 (2 * g + 1)) ∧ (∀ s, 0 ≤ s → s < S 0 6 → T 10 s = S 3 (4 * s) ∧ T 11 s = S 3 (4 * s + 1) ∧ T 12 s = S 3 (4 * s + 2) ∧ T 13 s = S 3 (4 * s + 3)) ∧ ∀ j, 0 ≤ j → j < 20 → T 14 j = ltF (S 4) (fun _ => -1) i.toNat j) → Smm H_M_laysLand 172 [some (.inr (.inr 0)), some (.inl i)] [] T Q := by
    refine lp_up (P := fun i T => Smm H_M_laysLand 172 [some (.inr (.inr 0)), some (.inl i)] [] T Q) _ (S 0 7) ?_ ?_
    · rintro i T hi ⟨hi2, hF, d1, d2, d3⟩
      have q7 : T 0 7 = S 0 7 := by rw [hF.c 0 rfl, v7]
      rw [show i = S 0 7 by omega] at d3
      refine sound ok_M_laysLand [] 40 ?_
      refine ⟨fun _ => ?_, fun h => absurd h (by omega)⟩
      refine ⟨Or.inl rfl, ?_⟩
      refine hQ _ ⟨?_, ⟨?_, ?_, ?_, ?_, ?_, ?_, ?_, ?_, ?_⟩, fun g g0 g1 => ?_, fun g g0 g1 => ?_, fun s s0 s1 => ?_, fun j j0 j1 => ?_⟩
      · exact (((fU.tr (hF.mo rfl rfl)).up _ _ _ rfl).up _ _ _ rfl).up _ _ _ rfl
      · rw [up_n _ _ _ (by decide), up_n _ _ _ (by decide), up_n _ _ _ (by decide), hF.c 0 rfl, v18]
      · rw [up_n _ _ _ (by decide), up_n _ _ _ (by decide), up_n _ _ _ (by decide), hF.c 0 rfl, v2]
      · rw [up_n _ _ _ (by decide), up_n _ _ _ (by decide), up_n _ _ _ (by decide), hF.c 0 rfl, v19]
      · rw [up_n _ _ _ (by decide), up_n _ _ _ (by decide), up_n _ _ _ (by decide), hF.c 0 rfl, v20]
      · rw [up_n _ _ _ (by decide), up_n _ _ _ (by decide), up_n _ _ _ (by decide), hF.c 0 rfl, v21]
      · rw [up_n _ _ _ (by decide), up_n _ _ _ (by decide), up_n _ _ _ (by decide), hF.c 0 rfl, v22]
      · rw [up_n _ _ _ (by decide), up_n _ _ _ (by decide), up_s]
      · rw [up_n _ _ _ (by decide), up_s]
      · rw [up_s]
      · rw [up_o _ _ _ (by decide), up_o _ _ _ (by decide), up_o _ _ _ (by decide), hF.c 9 rfl]; exact pU g g0 g1
      · rw [up_o _ _ _ (by decide), up_o _ _ _ (by decide), up_o _ _ _ (by decide), up_o _ _ _ (by decide), up_o _ _ _ (by decide), up_o _ _ _ (by decide)]; exact d1 g g0 g1
      · have e : ∀ c, c ≠ 0 → up (up (up T 0 49 0) 0 52 0) 0 56 0 c = T c := fun c hc => by rw [up_o _ _ _ hc, up_o _ _ _ hc, up_o _ _ _ hc]
        rw [e _ (by decide), e _ (by decide), e _ (by decide), e _ (by decide)]; exact d2 s s0 s1
      · rw [up_o _ _ _ (by decide), up_o _ _ _ (by decide), up_o _ _ _ (by decide)]; exact d3 j j0 j1
    · rintro i T hi ⟨hi2, hF, d1, d2, d3⟩ ih
      have q7 : T 0 7 = S 0 7 := by rw [hF.c 0 rfl, v7]
      have q4 : T 4 = S 4 := by rw [hF.c 4 rfl, u4]
      have hb := hb i hi2.1 hi
      have f0 : i32 (3 * i) = 3 * i := i32_id (by omega) (by omega)
      have f1 : i32 (i32 (3 * i) + 1) = 3 * i + 1 := by rw [f0]; exact i32_id (by omega) (by omega)
      have f2 : i32 (i32 (3 * i) + 2) = 3 * i + 2 := by rw [f0]; exact i32_id (by omega) (by omega)
      have f3 : i32 (i32 (5 * T 4 (i32 (i32 (3 * i) + 1))) + T 4 (i32 (3 * i))) = 5 * S 4 (3 * i + 1) + S 4 (3 * i) := by
        rw [f1, f0, q4]; unfold i32; omega
      have b0 : 0 ≤ 3 * i ∧ 3 * i < 36 := by omega
      have b1 : 0 ≤ 3 * i + 1 ∧ 3 * i + 1 < 36 := by omega
      have b2 : 0 ≤ 3 * i + 2 ∧ 3 * i + 2 < 36 := by omega
      have b3 : 0 ≤ 5 * S 4 (3 * i + 1) + S 4 (3 * i) ∧ 5 * S 4 (3 * i + 1) + S 4 (3 * i) < 20 := by omega
      refine sound ok_M_laysLand [172] 60 ?_
      refine ⟨fun h => absurd h (by rw [q7]; exact Int.not_le.mpr hi), fun _ => ?_⟩
      refine ⟨by rw [f1]; exact b1, ?_⟩
      refine ⟨by rw [f0]; exact b0, ?_⟩
      refine ⟨by rw [f2]; exact b2, ?_⟩
      refine ⟨by rw [f3]; exact b3, ?_⟩
      have hg : T 4 (i32 (i32 (3 * i) + 2)) = S 4 (3 * i + 2) := by rw [f2, q4]
      refine Smm.sub (ih (up T 14 (i32 (i32 (5 * T 4 (i32 (i32 (3 * i) + 1))) + T 4 (i32 (3 * i)))) (T 4 (i32 (i32 (3 * i) + 2)))) ⟨⟨Int.le_add_one hi2.1, hi⟩, hF.up _ _ _ rfl, fun g g0 g1 => ?_, fun s s0 s1 => ?_, fun j j0 j1 => ?_⟩) ⟨Or.inr rfl, Or.inr (sI (i32_id (by omega) (by omega)).symm), trivial⟩
      · rw [up_o _ _ _ (by decide), up_o _ _ _ (by decide)]; exact d1 g g0 g1
      · rw [up_o _ _ _ (by decide), up_o _ _ _ (by decide), up_o _ _ _ (by decide), up_o _ _ _ (by decide)]; exact d2 s s0 s1
      · rw [f3, hg]
        clear f0 f1 f2 f3 hg
        obtain ⟨k, rfl⟩ : ∃ k : Nat, i = k := ⟨i.toNat, by omega⟩
        rw [show ((k : Int) + 1).toNat = k + 1 by omega, ltF]
        by_cases hj : j = 5 * S 4 (3 * k + 1) + S 4 (3 * k)
        · rw [hj, up_s, uf_s]
        · rw [up_n _ _ _ hj, uf_n _ _ hj]; exact d3 j j0 j1
  have l2 : ∀ (i : Int) (T : St), ((0 ≤ i ∧ i ≤ S 0 6) ∧ Fr [7, 8, 10, 11, 12, 13, 14] [] U T ∧ (∀ g, 0 ≤ g → g < S 0 5 → T 7 g = S 2 (2 * g) ∧ T 8 g = S 2 (2 * g + 1)) ∧ (∀ s, 0 ≤ s → s < i → T 10 s = S 3 (4 * s) ∧ T 11 s = S 3 (4 * s + 1) ∧ T 12 s = S 3 (4 * s + 2) ∧ T 13 s = S 3 (4 * s + 3)) ∧ ∀ j, 0 ≤ j → j < 20 → T 14 j = -1) → Smm H_M_laysLand 94 [some (.inr (.inr 0)), some (.inl i)] [] T Q := by
    refine lp_up (P := fun i T => Smm H_M_laysLand 94 [some (.inr (.inr 0)), some (.inl i)] [] T Q) _ (S 0 6) ?_ ?_
    · rintro i T hi ⟨hi2, hF, d1, d2, d3⟩
      have q20 : T 0 20 = S 0 6 := by rw [hF.c 0 rfl, v20]
      refine sound ok_M_laysLand [172] 40 ?_
      refine ⟨fun _ => ?_, fun h => absurd h (by omega)⟩
      exact l3 0 T ⟨by omega, hF, d1, fun s s0 s1 => d2 s s0 (by omega), d3⟩
    · rintro i T hi ⟨hi2, hF, d1, d2, d3⟩ ih
      have q20 : T 0 20 = S 0 6 := by rw [hF.c 0 rfl, v20]
      have f0 : i32 (4 * i) = 4 * i := i32_id (by omega) (by omega)
      have f1 : i32 (i32 (4 * i) + 1) = 4 * i + 1 := by rw [f0]; exact i32_id (by omega) (by omega)
      have f2 : i32 (i32 (4 * i) + 2) = 4 * i + 2 := by rw [f0]; exact i32_id (by omega) (by omega)
      have f3 : i32 (i32 (4 * i) + 3) = 4 * i + 3 := by rw [f0]; exact i32_id (by omega) (by omega)
      have b0 : 0 ≤ 4 * i ∧ 4 * i < 20 := by omega
      have b1 : 0 ≤ 4 * i + 1 ∧ 4 * i + 1 < 20 := by omega
      have b2 : 0 ≤ 4 * i + 2 ∧ 4 * i + 2 < 20 := by omega
      have b3 : 0 ≤ 4 * i + 3 ∧ 4 * i + 3 < 20 := by omega
      have bi : 0 ≤ i ∧ i < 5 := by omega
      rw [← f1] at b1
      rw [← f2] at b2
      rw [← f3] at b3
      rw [← f0] at b0
      generalize hV : up (up (up (up T 10 i (T 3 (i32 (4 * i)))) 11 i (T 3 (i32 (i32 (4 * i) + 1)))) 12 i (T 3 (i32 (i32 (4 * i) + 2)))) 13 i (T 3 (i32 (i32 (4 * i) + 3))) = V
      have q3 : T 3 = S 3 := by rw [hF.c 3 rfl, u3]
      have ihV := ih V ⟨by omega, by rw [← hV]; exact (((hF.up _ _ _ rfl).up _ _ _ rfl).up _ _ _ rfl).up _ _ _ rfl, fun g g0 g1 => ?_, fun s s0 s1 => ?_, fun j j0 j1 => ?_⟩
      · refine sound ok_M_laysLand [94] 80 ?_
        refine ⟨fun h => absurd h (by rw [q20]; exact Int.not_le.mpr hi), fun _ => ?_⟩
        refine ⟨b0, ?_⟩
        refine ⟨bi, ?_⟩
        refine ⟨b1, ?_⟩
        refine ⟨bi, ?_⟩
        refine ⟨b2, ?_⟩
        refine ⟨bi, ?_⟩
        refine ⟨b3, ?_⟩
        refine ⟨bi, ?_⟩
        rw [← hV] at ihV
        exact Smm.sub ihV ⟨Or.inr rfl, Or.inr (sI (i32_id (by omega) (by omega)).symm), trivial⟩
      · rw [← hV, up_o _ _ _ (by decide), up_o _ _ _ (by decide), up_o _ _ _ (by decide), up_o _ _ _ (by decide), up_o _ _ _ (by decide), up_o _ _ _ (by decide), up_o _ _ _ (by decide), up_o _ _ _ (by decide)]; exact d1 g g0 g1
      · have g1 : V 10 s = if s = i then S 3 (4 * s) else T 10 s := by
          rw [← hV, up_o _ _ _ (by decide), up_o _ _ _ (by decide), up_o _ _ _ (by decide)]
          by_cases hsi : s = i
          · rw [hsi, up_s, if_pos rfl, f0, q3]
          · rw [up_n _ _ _ hsi, if_neg hsi]
        have g2 : V 11 s = if s = i then S 3 (4 * s + 1) else T 11 s := by
          rw [← hV, up_o _ _ _ (by decide), up_o _ _ _ (by decide)]
          by_cases hsi : s = i
          · rw [hsi, up_s, if_pos rfl, f1, q3]
          · rw [up_n _ _ _ hsi, if_neg hsi, up_o _ _ _ (by decide)]
        have g3 : V 12 s = if s = i then S 3 (4 * s + 2) else T 12 s := by
          rw [← hV, up_o _ _ _ (by decide)]
          by_cases hsi : s = i
          · rw [hsi, up_s, if_pos rfl, f2, q3]
          · rw [up_n _ _ _ hsi, if_neg hsi, up_o _ _ _ (by decide), up_o _ _ _ (by decide)]
        have g4 : V 13 s = if s = i then S 3 (4 * s + 3) else T 13 s := by
          rw [← hV]
          by_cases hsi : s = i
          · rw [hsi, up_s, if_pos rfl, f3, q3]
          · rw [up_n _ _ _ hsi, if_neg hsi, up_o _ _ _ (by decide), up_o _ _ _ (by decide), up_o _ _ _ (by decide)]
        rw [g1, g2, g3, g4]
        by_cases hsi : s = i
        · rw [if_pos hsi, if_pos hsi, if_pos hsi, if_pos hsi]; exact ⟨rfl, rfl, rfl, rfl⟩
        · rw [if_neg hsi, if_neg hsi, if_neg hsi, if_neg hsi]; exact d2 s s0 (by omega)
      · rw [← hV, up_o _ _ _ (by decide), up_o _ _ _ (by decide), up_o _ _ _ (by decide), up_o _ _ _ (by decide)]; exact d3 j j0 j1
  have l1 : ∀ (i : Int) (T : St), ((0 ≤ i ∧ i ≤ S 0 5) ∧ Fr [7, 8, 10, 11, 12, 13, 14] [] U T ∧ (∀ g, 0 ≤ g → g < i → T 7 g = S 2 (2 * g) ∧ T 8 g = S 2 (2 * g + 1)) ∧ ∀ j, 0 ≤ j → j < 20 → T 14 j = -1) → Smm H_M_laysLand 48 [some (.inr (.inr 0)), some (.inl i)] [] T Q := by
    refine lp_up (P := fun i T => Smm H_M_laysLand 48 [some (.inr (.inr 0)), some (.inl i)] [] T Q) _ (S 0 5) ?_ ?_
    · rintro i T hi ⟨hi2, hF, d1, d3⟩
      have q19 : T 0 19 = S 0 5 := by rw [hF.c 0 rfl, v19]
      refine sound ok_M_laysLand [94] 40 ?_
      refine ⟨fun _ => ?_, fun h => absurd h (by omega)⟩
      exact l2 0 T ⟨by omega, hF, fun g g0 g1 => d1 g g0 (by omega), fun s s0 s1 => absurd s1 (by omega), d3⟩
    · rintro i T hi ⟨hi2, hF, d1, d3⟩ ih
      have q19 : T 0 19 = S 0 5 := by rw [hF.c 0 rfl, v19]
      have q2 : T 2 = S 2 := by rw [hF.c 2 rfl, u2]
      have f0 : i32 (2 * i) = 2 * i := i32_id (by omega) (by omega)
      have f1 : i32 (i32 (2 * i) + 1) = 2 * i + 1 := by rw [f0]; exact i32_id (by omega) (by omega)
      have b0 : 0 ≤ 2 * i ∧ 2 * i < 8 := by omega
      have b1 : 0 ≤ 2 * i + 1 ∧ 2 * i + 1 < 8 := by omega
      have bi : 0 ≤ i ∧ i < 4 := by omega
      rw [← f1] at b1
      rw [← f0] at b0
      refine sound ok_M_laysLand [48] 60 ?_
      refine ⟨fun h => absurd h (by rw [q19]; exact Int.not_le.mpr hi), fun _ => ?_⟩
      refine ⟨b0, ?_⟩
      refine ⟨bi, ?_⟩
      refine ⟨b1, ?_⟩
      refine ⟨bi, ?_⟩
      refine Smm.sub (ih (up (up T 7 i (T 2 (i32 (2 * i)))) 8 i (T 2 (i32 (i32 (2 * i) + 1)))) ⟨by omega, (hF.up _ _ _ rfl).up _ _ _ rfl, fun g g0 g1 => ?_, fun j j0 j1 => ?_⟩) ⟨Or.inr rfl, Or.inr (sI (i32_id (by omega) (by omega)).symm), trivial⟩
      · rw [up_o _ _ _ (by decide)]
        by_cases hgi : g = i
        · rw [hgi, up_s, up_s, f1, f0, q2]; exact ⟨rfl, rfl⟩
        · rw [up_n _ _ _ hgi, up_n _ _ _ hgi, up_o _ _ _ (by decide)]; exact d1 g g0 (by omega)
      · rw [up_o _ _ _ (by decide), up_o _ _ _ (by decide)]; exact d3 j j0 j1
  have go := l1 0 U ⟨by omega, Fr.rf _ _ _, fun g g0 g1 => absurd g1 (by omega), lU⟩
  refine sound ok_M_laysLand [48] 60 ?_
  refine t_M_wipes S _ ?_
  refine ⟨Or.inr rfl, ?_⟩
  rw [← hU] at go
  have f1 : up (up (wpS S) 0 18 1) 0 2 0 0 5 = S 0 5 := by simp [upr]; exact w0 _ (by decide)
  have f2 : up (up (up (wpS S) 0 18 1) 0 2 0) 0 19 (S 0 5) 0 6 = S 0 6 := by simp [upr]; exact w0 _ (by decide)
  have f3 : up (up (up (up (wpS S) 0 18 1) 0 2 0) 0 19 (S 0 5)) 0 20 (S 0 6) 0 12 = S 0 12 := by simp [upr]; exact w0 _ (by decide)
  have f4 : up (up (up (up (up (wpS S) 0 18 1) 0 2 0) 0 19 (S 0 5)) 0 20 (S 0 6)) 0 21 (S 0 12) 0 13 = S 0 13 := by simp [upr]; exact w0 _ (by decide)
  rw [← f4, ← f3, ← f2, ← f1] at go
  exact go
