/-! the reference: what is asked of the land told, by counting openings -/
def th (S : St) : St := up S 0 0 0
theorem th_0 (S : St) {j : Int} (h : j ≠ 0) : th S 0 j = S 0 j := up_n _ _ _ h
theorem th_c (S : St) {c : Nat} (h : c ≠ 0) : th S c = S c := up_o _ _ _ h
/-- the land told, within its bounds -/
def ldM (S : St) : Prop := (2 ≤ S 0 19 ∧ S 0 19 ≤ 4) ∧ (1 ≤ S 0 20 ∧ S 0 20 ≤ 5) ∧ (2 ≤ S 0 21 ∧ S 0 21 ≤ 4 ∧ 0 ≤ S 0 22 ∧ S 0 22 ≤ 9) ∧ (∀ i, 0 ≤ i → i < S 0 20 → 0 ≤ S 10 i ∧ S 10 i ≤ 59 ∧ 0 ≤ S 11 i ∧ S 11 i ≤ 3 ∧ -1 ≤ S 12 i ∧ S 12 i < i ∧ 0 ≤ S 13 i ∧ S 13 i ≤ 3) ∧ (∀ j, 0 ≤ j → j < 20 → -1 ≤ S 14 j ∧ S 14 j ≤ 9) ∧ (∀ g, 0 ≤ g → g < 4 → -1 ≤ S 9 g ∧ S 9 g < S 0 31) ∧ (∀ g, 0 ≤ g → g < S 0 19 → 0 ≤ S 7 g ∧ S 7 g ≤ 99 ∧ 0 ≤ S 8 g ∧ S 8 g ≤ 99)
/-- the state in which the land told is asked -/
def tl (S : St) : St := asS (th S)
theorem asS_c (S : St) {c : Nat} (h : c ≠ 0 ∧ c ≠ 20 ∧ c ≠ 19 ∧ c ≠ 18 ∧ c ≠ 17) : asS S c = S c := by
  unfold asS
  rw [stC_o _ _ h.2.2.2.2, stC_o _ _ h.2.2.2.1, stC_o _ _ h.2.2.1, stC_o _ _ h.2.1, up_o _ _ _ h.1]
theorem asS_0 (S : St) {j : Int} (h : j ≠ 38) : asS S 0 j = S 0 j := by
  unfold asS
  rw [stC_o _ _ (by decide), stC_o _ _ (by decide), stC_o _ _ (by decide), stC_o _ _ (by decide), up_n _ _ _ h]
theorem asS_ap (S : St) : asS S 17 = cpI (S 10) (S 17) (S 0 20) := by unfold asS; rw [stC_s]
theorem asS_ae (S : St) : asS S 18 = cpI (S 11) (S 18) (S 0 20) := by unfold asS; rw [stC_o _ _ (by decide), stC_s]
theorem asS_al (S : St) : asS S 19 = cpI (S 14) (S 19) 20 := by unfold asS; rw [stC_o _ _ (by decide), stC_o _ _ (by decide), stC_s]
theorem asS_pl (S : St) : asS S 20 = cpI (fun g => if g < S 0 19 then S 9 g else -1) (S 20) 4 := by unfold asS; rw [stC_o _ _ (by decide), stC_o _ _ (by decide), stC_o _ _ (by decide), stC_s]
theorem asS_gone (S : St) : asS S 0 38 = 0 := by unfold asS; rw [stC_o _ _ (by decide), stC_o _ _ (by decide), stC_o _ _ (by decide), stC_o _ _ (by decide), up_s]
theorem asS_fr (S : St) : Fr [17, 18, 19, 20, 21, 22, 23, 24, 25, 26, 27, 28, 29, 31] [(0, 0), (0, 38)] S (asS S) := by
  intro c j hx hy
  by_cases hc : c = 0
  · subst hc
    exact asS_0 S (fun z => hy (by rw [z]; decide))
  · rw [asS_c S ⟨hc, fun z => hx (by rw [z]; decide), fun z => hx (by rw [z]; decide), fun z => hx (by rw [z]; decide), fun z => hx (by rw [z]; decide)⟩]
theorem asS_mAs {S : St} (h : ldM S) (hp : plM S) : mAs (asS S) := by
  obtain ⟨h1, h2, h3, h4, h5, h6, h7⟩ := h
  have e15 : asS S 15 = S 15 := asS_c S (by decide)
  have e16 : asS S 16 = S 16 := asS_c S (by decide)
  have e12 : asS S 12 = S 12 := asS_c S (by decide)
  have e13 : asS S 13 = S 13 := asS_c S (by decide)
  refine ⟨⟨⟨?_, ?_, ?_⟩, ?_, ?_, ?_⟩, ?_, ?_⟩
  · rw [asS_0 S (by decide)]; omega
  · intro i i0 i1
    rw [asS_0 S (by decide)] at i1
    rw [asS_ap, cpI_in _ _ i0 i1, e12, e13]
    have := h4 i i0 i1
    omega
  · intro j j0 j1
    rw [asS_al, cpI_in _ _ j0 j1]
    exact h5 j j0 j1
  · rw [asS_0 S (by decide)]; omega
  · intro g g0 g1
    rw [asS_pl, cpI_in _ _ g0 g1, asS_0 S (by decide)]
    have := h6 g g0 g1
    have := hp.1
    split <;> omega
  · unfold plM
    rw [asS_0 S (by decide), e15, e16]
    exact hp
  · rw [asS_0 S (by decide), asS_0 S (by decide), asS_0 S (by decide)]
    omega
  · intro i i0 i1
    rw [asS_0 S (by decide)] at i1
    rw [asS_ae, cpI_in _ _ i0 i1]
    have := h4 i i0 i1
    omega
theorem ldM_th {S : St} (h : ldM S) : ldM (th S) := by
  unfold ldM at *
  rw [th_0 S (by decide), th_0 S (by decide), th_0 S (by decide), th_0 S (by decide), th_0 S (by decide), th_c S (by decide), th_c S (by decide), th_c S (by decide), th_c S (by decide), th_c S (by decide), th_c S (by decide), th_c S (by decide), th_c S (by decide)]
  exact h
theorem plM_th {S : St} (h : plM S) : plM (th S) := by
  unfold plM at *
  rw [th_0 S (by decide), th_c S (by decide), th_c S (by decide)]
  exact h
theorem tl_mAs {S : St} (h : ldM S) (hp : plM S) : mAs (tl S) := asS_mAs (ldM_th h) (plM_th hp)
theorem tl_0 (S : St) {j : Int} (h0 : j ≠ 0) (h : j ≠ 38) : tl S 0 j = S 0 j := by unfold tl; rw [asS_0 _ h, th_0 _ h0]
theorem th_fr (S : St) : Fr [17, 18, 19, 20, 21, 22, 23, 24, 25, 26, 27, 28, 29, 31] [(0, 0), (0, 38)] S (th S) := (Fr.rf _ _ S).up _ _ _ rfl
theorem tl_fr (S : St) : Fr [17, 18, 19, 20, 21, 22, 23, 24, 25, 26, 27, 28, 29, 31] [(0, 0), (0, 38)] S (tl S) := (th_fr S).tr (asS_fr (th S))
/-- in how many ways it opens -/
def cntM (T : St) : Int := (wyM T).countP (opM T)
def lenM (T : St) : Int := (wyM T).length
theorem cntM_sm {S S' : St} (h : Sm S S') : cntM S' = cntM S := by unfold cntM; rw [wyM_sm h, opM_sm h]
theorem lenM_sm {S S' : St} (h : Sm S S') : lenM S' = lenM S := by unfold lenM; rw [wyM_sm h]
theorem cntM_b {T : St} (h : mAs T) : 0 ≤ cntM T ∧ cntM T ≤ lenM T ∧ 1 ≤ lenM T ∧ lenM T ≤ 16807 := by
  have h1 := wyM_len h
  have h2 := List.countP_le_length (p := opM T) (l := wyM T)
  unfold cntM lenM
  omega
theorem t_M_divisor (S : St) (a b : Nat) (Q : Option AV → St → Prop) (ha : a ≤ 2147483647) (hb : b ≤ 2147483647) (hQ : Q (some (.inl (Nat.gcd a b))) S) : Smm H_M_divisor 0 [some (.inl (a : Int)), some (.inl (b : Int)), none, none, none] [] S Q := by
  have loop : ∀ (q : Nat × Nat), (q.1 ≤ 2147483647 ∧ q.2 ≤ 2147483647 ∧ Nat.gcd q.1 q.2 = Nat.gcd a b) → Smm H_M_divisor 4 [some (.inl (a : Int)), some (.inl (b : Int)), some (.inl (q.1 : Int)), some (.inl (q.2 : Int)), none] [] S Q := by
    refine lp_me (P := fun q : Nat × Nat => Smm H_M_divisor 4 [some (.inl (a : Int)), some (.inl (b : Int)), some (.inl (q.1 : Int)), some (.inl (q.2 : Int)), none] [] S Q) _ (fun q => q.2) ?_
    rintro ⟨x, y⟩ ⟨hx, hy, hg⟩ ih
    dsimp only at hx hy hg ih ⊢
    refine sound ok_M_divisor [4] 40 ?_
    refine ⟨fun h2 => ?_, fun h2 => ?_⟩
    · have : y = 0 := by omega
      subst this
      rw [Nat.gcd_zero_right] at hg
      rw [hg]
      exact hQ
    · have hy0 : 0 < y := by omega
      have hlt := Nat.mod_lt x hy0
      refine ⟨h2, ?_⟩
      refine Smm.sub (ih (y, x % y) ⟨hy, by dsimp only; omega, ?_⟩ hlt) ⟨Or.inr rfl, Or.inr rfl, Or.inr rfl, Or.inr (sI ?_), Or.inl rfl, trivial⟩
      · dsimp only
        rw [← hg, Nat.gcd_comm, Nat.gcd_comm x y, ← Nat.gcd_rec]
      · rw [irem_pos (by omega) (by omega) (by omega) (by omega)]
        dsimp only
        omega
  refine sound ok_M_divisor [4] 20 ?_
  exact loop (a, b) ⟨ha, hb, rfl⟩
def aM_ways (S : St) (what : Int) : Int := if S 0 18 = 0 ∨ ¬ (0 ≤ what ∧ what ≤ 1) then -1 else if what = 1 then lenM (tl S) else cntM (tl S)
theorem t_M_ways (S : St) (what : Int) (Q : Option AV → St → Prop) (hL : ¬ S 0 18 = 0 → ldM S) (hp : plM S) (hQ : ∀ S', Fr [17, 18, 19, 20, 21, 22, 23, 24, 25, 26, 27, 28, 29, 31] [(0, 0), (0, 38)] S S' → Q (some (.inl (aM_ways S what))) S') : Smm H_M_ways 0 [some (.inr (.inr 0)), some (.inl what)] [] S Q := by
  have e18 : th S 0 18 = S 0 18 := th_0 S (by decide)
  have no : (S 0 18 = 0 ∨ ¬ (0 ≤ what ∧ what ≤ 1)) → Q (some (.inl (-1))) (th S) := fun hz => by
    have := hQ (th S) (th_fr S)
    unfold aM_ways at this
    rwa [if_pos hz] at this
  refine sound ok_M_ways [] 60 ?_
  refine ⟨fun h1 => no (Or.inl (e18 ▸ h1)), fun h1 => ?_⟩
  replace h1 : ¬ S 0 18 = 0 := fun z => h1 (e18.trans z)
  refine t_M_isPart _ _ _ _ (fun h2 => ?_) (fun h2 => ?_)
  · refine ⟨fun _ => ?_, fun z => absurd z (by decide)⟩
    have hl := hL h1
    have hA := tl_mAs hl hp
    refine t_M_asTold (th S) _ (by rw [th_0 S (by decide)]; have := hl.2.1; omega) (by rw [th_0 S (by decide)]; have := hl.1; omega) ?_
    refine ⟨fun h3 => ?_, fun h3 => ?_⟩
    · refine t_M_openings (tl S) _ hA (fun S' hF => ?_)
      have := hQ S' ((tl_fr S).tr (hF.mo rfl rfl))
      unfold aM_ways at this
      rw [if_neg (by omega), if_neg h3] at this
      exact this
    · refine t_M_allWays (tl S) _ hA ?_
      have := hQ (tl S) (tl_fr S)
      unfold aM_ways at this
      rw [if_neg (by omega), if_pos h3] at this
      exact this
  · exact ⟨fun z => absurd rfl z, fun _ => no (Or.inr h2)⟩
def aM_odds (S : St) (part : Int) : Int := if S 0 18 = 0 ∨ ¬ (0 ≤ part ∧ part ≤ 1) then -1 else if part = 0 then cntM (tl S) / Nat.gcd (lenM (tl S)).toNat (cntM (tl S)).toNat else lenM (tl S) / Nat.gcd (lenM (tl S)).toNat (cntM (tl S)).toNat
theorem gcd_b {a b : Nat} (ha : 1 ≤ a) (h : a ≤ 16807) : 1 ≤ Nat.gcd a b ∧ Nat.gcd a b ≤ 16807 := ⟨Nat.gcd_pos_of_pos_left b ha, Nat.le_trans (Nat.gcd_le_left b ha) h⟩
theorem t_M_odds (S : St) (part : Int) (Q : Option AV → St → Prop) (hL : ¬ S 0 18 = 0 → ldM S) (hp : plM S) (hQ : ∀ S', Fr [17, 18, 19, 20, 21, 22, 23, 24, 25, 26, 27, 28, 29, 31] [(0, 0), (0, 38)] S S' → Q (some (.inl (aM_odds S part))) S') : Smm H_M_odds 0 [some (.inr (.inr 0)), some (.inl part), none, none, none] [] S Q := by
  have e18 : th S 0 18 = S 0 18 := th_0 S (by decide)
  have no : (S 0 18 = 0 ∨ ¬ (0 ≤ part ∧ part ≤ 1)) → Q (some (.inl (-1))) (th S) := fun hz => by
    have := hQ (th S) (th_fr S)
    unfold aM_odds at this
    rwa [if_pos hz] at this
  refine sound ok_M_odds [] 60 ?_
  refine ⟨fun h1 => no (Or.inl (e18 ▸ h1)), fun h1 => ?_⟩
  replace h1 : ¬ S 0 18 = 0 := fun z => h1 (e18.trans z)
  refine t_M_isPart _ _ _ _ (fun h2 => ?_) (fun h2 => ?_)
  · refine ⟨fun _ => ?_, fun z => absurd z (by decide)⟩
    have hl := hL h1
    have hA := tl_mAs hl hp
    have hb := cntM_b hA
    refine t_M_asTold (th S) _ (by rw [th_0 S (by decide)]; have := hl.2.1; omega) (by rw [th_0 S (by decide)]; have := hl.1; omega) ?_
    refine t_M_allWays (tl S) _ hA ?_
    refine t_M_openings (tl S) _ hA (fun S' hF => ?_)
    have hg := gcd_b (a := (wyM (tl S)).length) (b := (wyM (tl S)).countP (opM (tl S))) (by unfold lenM at hb; omega) (by unfold lenM at hb; omega)
    refine t_M_divisor S' (wyM (tl S)).length ((wyM (tl S)).countP (opM (tl S))) _ (by unfold lenM at hb; omega) (by unfold lenM cntM at hb; omega) ?_
    have hq := hQ S' ((tl_fr S).tr (hF.mo rfl rfl))
    unfold aM_odds at hq
    rw [if_neg (by omega)] at hq
    have eL : (lenM (tl S)).toNat = (wyM (tl S)).length := by unfold lenM; omega
    have eC : (cntM (tl S)).toNat = (wyM (tl S)).countP (opM (tl S)) := by unfold cntM; omega
    rw [eL, eC] at hq
    refine ⟨fun h3 => ?_, fun h3 => ?_⟩
    · refine ⟨by omega, ?_⟩
      rw [if_neg h3] at hq
      rw [idiv_pos (by unfold lenM at hb; omega) (by unfold lenM at hb; omega) (by omega) (by omega)]
      exact hq
    · refine ⟨by omega, ?_⟩
      rw [if_pos h3] at hq
      rw [idiv_pos (by unfold cntM at hb; omega) (by unfold lenM cntM at hb; omega) (by omega) (by omega)]
      exact hq
  · exact ⟨fun z => absurd rfl z, fun _ => no (Or.inr h2)⟩
def aM_shift (S : St) (sign by_ : Int) : Int := if ¬ (¬ S 0 18 = 0 ∧ 0 ≤ sign ∧ sign < S 0 20) ∨ by_ < -9 ∨ 9 < by_ then -1 else cntM (up (tl S) 17 sign (S 10 sign + by_))
theorem mAs_ap {T : St} (h : mAs T) {i v : Int} (hv : -9 ≤ v ∧ v ≤ 68) : mAs (up T 17 i v) := by
  obtain ⟨⟨⟨h1, h2, h3⟩, h4⟩, h5⟩ := h
  refine ⟨⟨⟨?_, ?_, ?_⟩, ?_⟩, ?_⟩
  · rw [up_o _ _ _ (by decide)]; exact h1
  · intro j j0 j1
    rw [up_o _ _ _ (by decide)] at j1
    rw [up_o _ _ _ (by decide : (12 : Nat) ≠ 17), up_o _ _ _ (by decide : (13 : Nat) ≠ 17)]
    have := h2 j j0 j1
    by_cases hj : j = i
    · rw [hj, up_s]
      rw [hj] at this
      omega
    · rw [up_n _ _ _ hj]
      exact this
  · rw [up_o _ _ _ (by decide)]; exact h3
  · unfold plM
    rw [up_o _ _ _ (by decide), up_o _ _ _ (by decide), up_o _ _ _ (by decide), up_o _ _ _ (by decide)]
    exact h4
  · rw [up_o _ _ _ (by decide), up_o _ _ _ (by decide)]; exact h5
theorem t_M_shift (S : St) (sign by_ : Int) (Q : Option AV → St → Prop) (hL : ¬ S 0 18 = 0 → ldM S) (hp : plM S) (hQ : ∀ S', Fr [17, 18, 19, 20, 21, 22, 23, 24, 25, 26, 27, 28, 29, 31] [(0, 0), (0, 38)] S S' → Q (some (.inl (aM_shift S sign by_))) S') : Smm H_M_shift 0 [some (.inr (.inr 0)), some (.inl sign), some (.inl by_)] [] S Q := by
  have e18 : th S 0 18 = S 0 18 := th_0 S (by decide)
  have e20 : th S 0 20 = S 0 20 := th_0 S (by decide)
  have no : (¬ (¬ S 0 18 = 0 ∧ 0 ≤ sign ∧ sign < S 0 20) ∨ by_ < -9 ∨ 9 < by_) → Q (some (.inl (-1))) (th S) := fun hz => by
    have := hQ (th S) (th_fr S)
    unfold aM_shift at this
    rwa [if_pos hz] at this
  refine sound ok_M_shift [] 60 ?_
  refine t_M_isSign (th S) sign _ (fun h1 => ?_) (fun h1 => ?_)
  · rw [e18, e20] at h1
    refine ⟨fun z => absurd z (by decide), fun _ => ?_⟩
    refine ⟨fun h2 => no (by omega), fun h2 => ?_⟩
    refine ⟨fun h3 => ?_, fun h3 => no (by omega)⟩
    have hl := hL h1.1
    have hA := tl_mAs hl hp
    have hpt := hl.2.2.2.1 sign h1.2.1 h1.2.2
    have hn5 := hl.2.1
    refine t_M_asTold (th S) _ (by rw [th_0 S (by decide)]; have := hl.2.1; omega) (by rw [th_0 S (by decide)]; have := hl.1; omega) ?_
    have ep : asS (th S) 17 sign = S 10 sign := by rw [asS_ap, th_c S (by decide), cpI_in _ _ h1.2.1 (by rw [e20]; exact h1.2.2)]
    refine ⟨by omega, ?_⟩
    refine ⟨by omega, ?_⟩
    have ev : i32 (asS (th S) 17 sign + by_) = S 10 sign + by_ := by rw [ep]; unfold i32; omega
    rw [ev]
    refine t_M_openings _ _ (mAs_ap hA (by omega)) (fun S' hF => ?_)
    have := hQ S' (((tl_fr S).up 17 sign (S 10 sign + by_) rfl).tr (hF.mo rfl rfl))
    unfold aM_shift at this
    rw [if_neg (by omega)] at this
    exact this
  · rw [e18, e20] at h1
    exact ⟨fun _ => no (Or.inl h1), fun z => absurd rfl z⟩
