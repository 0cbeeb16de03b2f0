/-! the tape read: blanks, numbers, items -/
def skN (t : Int → Int) (n : Int) : Nat → Int → Int
  | 0, a => a
  | d + 1, a => if a < n ∧ t a = 32 then skN t n d (a + 1) else a
/-- behind the blanks -/
def sk (t : Int → Int) (n a : Int) : Int := skN t n (n - a).toNat a
def ch (t : Int → Int) (n a : Int) : Int := if a < n then t a else -1
theorem skN_b (t : Int → Int) (n : Int) : ∀ (d : Nat) (a : Int), a ≤ skN t n d a ∧ (skN t n d a ≤ n ∨ skN t n d a = a)
  | 0, a => ⟨Int.le_refl _, Or.inr rfl⟩
  | d + 1, a => by
    rw [skN]
    split
    · have := skN_b t n d (a + 1)
      omega
    · exact ⟨Int.le_refl _, Or.inr rfl⟩
theorem skN_e (t : Int → Int) (n : Int) : ∀ (d : Nat) (a : Int), n - a ≤ d → ¬ (skN t n d a < n ∧ t (skN t n d a) = 32)
  | 0, a, h => by rw [skN]; omega
  | d + 1, a, h => by
    rw [skN]
    split
    · exact skN_e t n d (a + 1) (by omega)
    · assumption
theorem sk_b (t : Int → Int) (n a : Int) : a ≤ sk t n a ∧ (sk t n a ≤ n ∨ sk t n a = a) := skN_b t n _ a
theorem sk_e (t : Int → Int) (n a : Int) : ¬ (sk t n a < n ∧ t (sk t n a) = 32) := skN_e t n _ a (by omega)
theorem sk_s {t : Int → Int} {n a : Int} (h : a < n ∧ t a = 32) : sk t n a = sk t n (a + 1) := by
  unfold sk
  obtain ⟨d, hd⟩ : ∃ d, (n - a).toNat = d + 1 := ⟨(n - a).toNat - 1, by omega⟩
  rw [hd, skN, if_pos h, show (n - (a + 1)).toNat = d by omega]
theorem sk_n {t : Int → Int} {n a : Int} (h : ¬ (a < n ∧ t a = 32)) : sk t n a = a := by
  unfold sk
  cases hd : (n - a).toNat with
  | zero => rfl
  | succ d => rw [skN, if_neg h]
theorem sk_sk (t : Int → Int) (n a : Int) : sk t n (sk t n a) = sk t n a := sk_n (sk_e t n a)
theorem up_self (S : St) (c : Nat) (j : Int) : up S c j (S c j) = S := by
  funext c' j'
  rw [upr]
  split
  · rename_i h; rw [h.1, h.2]
  · rfl
theorem t_M_sees (S : St) (Q : Option AV → St → Prop) (h0 : 0 ≤ S 0 3) (hn : S 0 2 ≤ 160) (hQ : Q (some (.inl (ch (S 1) (S 0 2) (sk (S 1) (S 0 2) (S 0 3))))) (up S 0 3 (sk (S 1) (S 0 2) (S 0 3)))) : Smm H_M_sees 0 [some (.inr (.inr 0))] [] S Q := by
  have out : ∀ a, 0 ≤ a → sk (S 1) (S 0 2) (S 0 3) = a → Smm H_M_sees 38 [some (.inr (.inr 0))] [] (up S 0 3 a) Q := by
    intro a ha he
    have e3 : up S 0 3 a 0 3 = a := up_s _ _ _ _
    have e2 : up S 0 3 a 0 2 = S 0 2 := up_n _ _ _ (by decide)
    have e1 : up S 0 3 a 1 = S 1 := up_o _ _ _ (by decide)
    rw [he] at hQ
    unfold ch at hQ
    refine sound ok_M_sees [] 40 ?_
    refine ⟨fun h => ?_, fun h => ?_⟩
    · rw [e3, e2] at h
      rw [if_neg (by omega)] at hQ
      exact hQ
    · rw [e3, e2] at h
      rw [if_pos h] at hQ
      refine ⟨by rw [e3]; omega, ?_⟩
      rw [← e1] at hQ
      have e4 : up S 0 3 a 1 (up S 0 3 a 0 3) = up S 0 3 a 1 a := by rw [e3]
      rw [← e4] at hQ
      exact hQ
  have loop : ∀ (d : Nat) (a : Int), S 0 2 - a ≤ d → 0 ≤ a → sk (S 1) (S 0 2) (S 0 3) = sk (S 1) (S 0 2) a → Smm H_M_sees 0 [some (.inr (.inr 0))] [] (up S 0 3 a) Q := by
    intro d
    induction d with
    | zero =>
      intro a hd ha he
      have e3 : up S 0 3 a 0 3 = a := up_s _ _ _ _
      have e2 : up S 0 3 a 0 2 = S 0 2 := up_n _ _ _ (by decide)
      refine sound ok_M_sees [38] 40 ?_
      refine ⟨fun h => out a ha (by rw [he]; exact sk_n (by omega)), fun h => absurd h (by omega)⟩
    | succ d ih =>
      intro a hd ha he
      have e3 : up S 0 3 a 0 3 = a := up_s _ _ _ _
      have e2 : up S 0 3 a 0 2 = S 0 2 := up_n _ _ _ (by decide)
      have e1 : up S 0 3 a 1 = S 1 := up_o _ _ _ (by decide)
      refine sound ok_M_sees [0, 38] 40 ?_
      refine ⟨fun h => out a ha (by rw [he]; exact sk_n (by omega)), fun h => ?_⟩
      rw [e3, e2] at h
      refine ⟨by rw [e3]; omega, ?_⟩
      refine ⟨fun h4 => ?_, fun h4 => ?_⟩
      · rw [e3, e1] at h4
        exact out a ha (by rw [he]; exact sk_n (fun z => h4 z.2))
      · rw [e3, e1] at h4
        have := ih (a + 1) (by omega) (by omega) (by rw [he]; exact sk_s ⟨h, h4⟩)
        rw [← up_up S 0 3 a (a + 1)] at this
        have e5 : i32 (up S 0 3 a 0 3 + 1) = a + 1 := by rw [e3]; exact i32_id (by omega) (by omega)
        rw [← e5] at this
        exact this
  have := loop (S 0 2 - S 0 3).toNat (S 0 3) (by omega) h0 rfl
  rwa [up_self] at this
abbrev dgt (t : Int → Int) (n p : Int) : Prop := p < n ∧ 48 ≤ t p ∧ t p ≤ 57
/-- a number: where it ends, what it is, where it is wrong (-1: nowhere) -/
def nmA (t : Int → Int) (n a : Int) : Int := if dgt t n (sk t n a) then (if dgt t n (sk t n a + 1) then sk t n a + 2 else sk t n a + 1) else sk t n a
def nmV (t : Int → Int) (n a : Int) : Int := if dgt t n (sk t n a + 1) then 10 * (t (sk t n a) - 48) + (t (sk t n a + 1) - 48) else t (sk t n a) - 48
def nmW (t : Int → Int) (n lo hi a : Int) : Int := if ¬ dgt t n (sk t n a) then sk t n a else if dgt t n (sk t n a + 1) ∧ dgt t n (sk t n a + 2) then sk t n a + 2 else if nmV t n a < lo ∨ hi < nmV t n a then nmA t n a - 1 else -1
theorem t_M_isDigit (S : St) (c : Int) (Q : Option AV → St → Prop) (h1 : 48 ≤ c ∧ c ≤ 57 → Q (some (.inl 1)) S) (h0 : ¬ (48 ≤ c ∧ c ≤ 57) → Q (some (.inl 0)) S) : Smm H_M_isDigit 0 [some (.inl c)] [] S Q := by
  refine sound ok_M_isDigit [] 40 ?_
  refine ⟨fun h2 => ⟨Or.inl rfl, h0 (by omega)⟩, fun h2 => ?_⟩
  exact ⟨fun h3 => ⟨Or.inl rfl, h0 (by omega)⟩, fun h3 => ⟨Or.inr rfl, h1 (by omega)⟩⟩
theorem nmW_g {t : Int → Int} {n lo hi a : Int} (h0 : 0 ≤ a) : -1 ≤ nmW t n lo hi a := by
  have h1 := sk_b t n a
  unfold nmW
  split
  · omega
  · split
    · omega
    · split
      · unfold nmA
        split
        · split <;> omega
        · omega
      · omega
theorem nmA_b {t : Int → Int} {n a : Int} : a ≤ nmA t n a ∧ (nmA t n a ≤ n ∨ nmA t n a = a) := by
  have h1 := sk_b t n a
  unfold nmA
  split
  · rename_i h; split
    · rename_i h2; have := h2.1; omega
    · have := h.1; omega
  · omega
theorem nm_fine {t : Int → Int} {n lo hi a : Int} (h0 : 0 ≤ a) (h : nmW t n lo hi a = -1) : lo ≤ nmV t n a ∧ nmV t n a ≤ hi ∧ 0 ≤ nmV t n a ∧ nmV t n a ≤ 99 ∧ a < nmA t n a ∧ nmA t n a ≤ n := by
  have h1 := sk_b t n a
  unfold nmW at h
  by_cases g1 : dgt t n (sk t n a)
  · rw [if_neg (fun z => z g1)] at h
    by_cases g2 : dgt t n (sk t n a + 1) ∧ dgt t n (sk t n a + 2)
    · rw [if_pos g2] at h; omega
    · rw [if_neg g2] at h
      have hA : nmA t n a = if dgt t n (sk t n a + 1) then sk t n a + 2 else sk t n a + 1 := by unfold nmA; rw [if_pos g1]
      have hV : nmV t n a = if dgt t n (sk t n a + 1) then 10 * (t (sk t n a) - 48) + (t (sk t n a + 1) - 48) else t (sk t n a) - 48 := rfl
      by_cases g3 : dgt t n (sk t n a + 1)
      · rw [if_pos g3] at hA hV
        obtain ⟨x1, x2, x3⟩ := g1
        obtain ⟨y1, y2, y3⟩ := g3
        split at h <;> omega
      · rw [if_neg g3] at hA hV
        obtain ⟨x1, x2, x3⟩ := g1
        split at h <;> omega
  · rw [if_pos g1] at h; omega
set_option maxHeartbeats 2000000 in
theorem t_M_reads (S : St) (lo hi : Int) (Q : Option AV → St → Prop) (h0 : 0 ≤ S 0 3) (hn : S 0 2 ≤ 160) (hQ : ∀ v W, W = nmW (S 1) (S 0 2) lo hi (S 0 3) → (W = -1 → v = nmV (S 1) (S 0 2) (S 0 3)) → Q (some (.inl v)) (up (up S 0 3 (nmA (S 1) (S 0 2) (S 0 3))) 0 4 (if W = -1 then S 0 4 else W))) : Smm H_M_reads 0 [some (.inr (.inr 0)), some (.inl lo), some (.inl hi), none, none] [] S Q := by
  generalize ht : S 1 = t at hQ
  generalize hnn : S 0 2 = n at hn hQ
  have hsb := sk_b t n (S 0 3)
  have hA : nmA t n (S 0 3) = if dgt t n (sk t n (S 0 3)) then (if dgt t n (sk t n (S 0 3) + 1) then sk t n (S 0 3) + 2 else sk t n (S 0 3) + 1) else sk t n (S 0 3) := rfl
  have hV : nmV t n (S 0 3) = if dgt t n (sk t n (S 0 3) + 1) then 10 * (t (sk t n (S 0 3)) - 48) + (t (sk t n (S 0 3) + 1) - 48) else t (sk t n (S 0 3)) - 48 := rfl
  have hWd : nmW t n lo hi (S 0 3) = if ¬ dgt t n (sk t n (S 0 3)) then sk t n (S 0 3) else if dgt t n (sk t n (S 0 3) + 1) ∧ dgt t n (sk t n (S 0 3) + 2) then sk t n (S 0 3) + 2 else if nmV t n (S 0 3) < lo ∨ hi < nmV t n (S 0 3) then nmA t n (S 0 3) - 1 else -1 := rfl
  have key := sk_b (S 1) (S 0 2) (S 0 3)
  rw [ht, hnn] at key
  generalize hk : sk t n (S 0 3) = p at hA hV hWd hsb key
  generalize nmA t n (S 0 3) = A at hQ hA hWd
  generalize nmV t n (S 0 3) = V at hQ hV hWd
  generalize nmW t n lo hi (S 0 3) = W at hQ hWd
  have hp0 : 0 ≤ p := by omega
  have e3 : ∀ a, up S 0 3 a 0 3 = a := fun a => up_s _ _ _ _
  have e2 : ∀ a, up S 0 3 a 0 2 = n := fun a => by rw [up_n _ _ _ (by decide), hnn]
  have e1 : ∀ a, up S 0 3 a 1 = t := fun a => by rw [up_o _ _ _ (by decide), ht]
  have e4 : ∀ a, up S 0 3 a 0 4 = S 0 4 := fun a => up_n _ _ _ (by decide)
  -- the end, behind the digits
  have fin : ∀ (v a : Int) (x : Option AV), 1 ≤ a → a ≤ 170 → A = a → (dgt t n p) → ¬ (dgt t n (p + 1) ∧ dgt t n (p + 2)) → v = V → Smm H_M_reads 101 [some (.inr (.inr 0)), some (.inl lo), some (.inl hi), some (.inl v), x] [] (up S 0 3 a) Q := by
    intro v a x ha ha2 hAa g1 g2 hv
    rw [if_neg (fun z => z g1), if_neg g2] at hWd
    have bad : (V < lo ∨ hi < V) → Smm H_M_reads 111 [some (.inr (.inr 0)), some (.inl lo), some (.inl hi), some (.inl v), x] [] (up S 0 3 a) Q := by
      intro hz
      rw [if_pos hz] at hWd
      · have hw : ¬ W = -1 := by omega
        have hq := hQ v W rfl (fun z => absurd z hw)
        rw [if_neg hw, hWd, hAa] at hq
        have e5 : i32 (up S 0 3 a 0 3 - 1) = a - 1 := by rw [e3]; exact i32_id (by omega) (by omega)
        rw [← e5] at hq
        refine sound ok_M_reads [] 40 ?_
        exact hq
    refine sound ok_M_reads [111] 40 ?_
    refine ⟨fun h => bad (Or.inl (by omega)), fun h => ?_⟩
    refine ⟨fun h5 => ?_, fun h5 => bad (Or.inr (by omega))⟩
    rw [if_neg (by omega)] at hWd
    have hq := hQ v W rfl (fun _ => hv)
    rw [if_pos hWd, hAa, ← e4 a, up_self] at hq
    exact hq
  have at2 : ∀ v : Int, dgt t n p → dgt t n (p + 1) → v = 10 * (t p - 48) + (t (p + 1) - 48) → Smm H_M_reads 25 [some (.inr (.inr 0)), some (.inl lo), some (.inl hi), some (.inl v), some (.inl 2)] [] (up S 0 3 (p + 2)) Q := by
    intro v g1 g2 hv
    have n1 := g2.1
    rw [if_pos g1, if_pos g2] at hA
    rw [if_pos g2] at hV
    refine sound ok_M_reads [101] 60 ?_
    refine ⟨fun h => ?_, fun h => ?_⟩
    · rw [e3, e2] at h
      exact fin v (p + 2) _ (by omega) (by omega) hA g1 (fun z => absurd z.2.1 (by omega)) (by omega)
    · rw [e3, e2] at h
      refine ⟨by rw [e3]; omega, ?_⟩
      refine t_M_isDigit _ _ _ (fun h5 => ?_) (fun h5 => ?_)
      · rw [e1, e3] at h5
        refine ⟨fun z => absurd z (by decide), fun _ => ?_⟩
        refine ⟨fun z => absurd rfl z, fun _ => ?_⟩
        rw [if_neg (fun z => z g1), if_pos ⟨g2, h, h5⟩] at hWd
        have hq := hQ lo W rfl (fun z => absurd z (by omega))
        rw [if_neg (by omega), hWd, hA] at hq
        have e5 : up S 0 3 (p + 2) 0 3 = p + 2 := e3 _
        have : Q (some (.inl lo)) (up (up S 0 3 (p + 2)) 0 4 (up S 0 3 (p + 2) 0 3)) := by rw [e5]; exact hq
        exact this
      · rw [e1, e3] at h5
        refine ⟨fun _ => ?_, fun z => absurd rfl z⟩
        exact fin v (p + 2) _ (by omega) (by omega) hA g1 (fun z => h5 z.2.2) (by omega)
  have at1 : ∀ v : Int, dgt t n p → v = t p - 48 → Smm H_M_reads 25 [some (.inr (.inr 0)), some (.inl lo), some (.inl hi), some (.inl v), some (.inl 1)] [] (up S 0 3 (p + 1)) Q := by
    intro v g1 hv
    have n1 := g1.1
    have n2 := g1.2
    refine sound ok_M_reads [101, 25] 60 ?_
    refine ⟨fun h => ?_, fun h => ?_⟩
    · rw [e3, e2] at h
      have g2 : ¬ dgt t n (p + 1) := fun z => absurd z.1 (by omega)
      rw [if_pos g1, if_neg g2] at hA
      rw [if_neg g2] at hV
      exact fin v (p + 1) _ (by omega) (by omega) hA g1 (fun z => g2 z.1) (by omega)
    · rw [e3, e2] at h
      refine ⟨by rw [e3]; omega, ?_⟩
      refine t_M_isDigit _ _ _ (fun h5 => ?_) (fun h5 => ?_)
      · rw [e1, e3] at h5
        refine ⟨fun z => absurd z (by decide), fun _ => ?_⟩
        refine ⟨fun _ => ?_, fun z => absurd z (by decide)⟩
        refine ⟨by rw [e3]; omega, ?_⟩
        have go := at2 _ g1 ⟨h, h5⟩ rfl
        rw [← up_up S 0 3 (p + 1) (p + 2)] at go
        have e5 : i32 (up S 0 3 (p + 1) 0 3 + 1) = p + 2 := by rw [e3, i32_id (by omega) (by omega)]; omega
        rw [← e5] at go
        refine Smm.sub go ⟨Or.inr rfl, Or.inr rfl, Or.inr rfl, Or.inr (sI ?_), Or.inr rfl, trivial⟩
        rw [e3, e1, hv, i32_id (v := 10 * (t p - 48)) (by omega) (by omega), i32_id (v := 10 * (t p - 48) + t (p + 1)) (by omega) (by omega), i32_id (by omega) (by omega)]
        omega
      · rw [e1, e3] at h5
        refine ⟨fun _ => ?_, fun z => absurd rfl z⟩
        have g2 : ¬ dgt t n (p + 1) := fun z => h5 z.2
        rw [if_pos g1, if_neg g2] at hA
        rw [if_neg g2] at hV
        exact fin v (p + 1) _ (by omega) (by omega) hA g1 (fun z => g2 z.1) (by omega)
  have at0 : dgt t n p → Smm H_M_reads 25 [some (.inr (.inr 0)), some (.inl lo), some (.inl hi), some (.inl 0), some (.inl 0)] [] (up S 0 3 p) Q := by
    intro g1
    have n1 := g1.1
    have n2 := g1.2
    refine sound ok_M_reads [101, 25] 60 ?_
    refine ⟨fun h => absurd h (by rw [e3, e2]; omega), fun h => ?_⟩
    refine ⟨by rw [e3]; omega, ?_⟩
    refine t_M_isDigit _ _ _ (fun h5 => ?_) (fun h5 => absurd n2 (by rw [e1, e3] at h5; exact h5))
    refine ⟨fun z => absurd z (by decide), fun _ => ?_⟩
    refine ⟨fun _ => ?_, fun z => absurd z (by decide)⟩
    refine ⟨by rw [e3]; omega, ?_⟩
    have go := at1 _ g1 rfl
    rw [← up_up S 0 3 p (p + 1)] at go
    have e5 : i32 (up S 0 3 p 0 3 + 1) = p + 1 := by rw [e3, i32_id (by omega) (by omega)]
    rw [← e5] at go
    refine Smm.sub go ⟨Or.inr rfl, Or.inr rfl, Or.inr rfl, Or.inr (sI ?_), Or.inr rfl, trivial⟩
    rw [e3, e1, show i32 (10 * 0) = 0 from rfl, i32_id (v := 0 + t p) (by omega) (by omega), i32_id (by omega) (by omega)]
    omega
  refine sound ok_M_reads [25] 60 ?_
  refine t_M_sees S _ h0 (by omega) ?_
  rw [ht, hnn, hk]
  unfold ch
  refine t_M_isDigit _ _ _ (fun h5 => ?_) (fun h5 => ?_)
  · refine ⟨fun _ => ?_, fun z => absurd z (by decide)⟩
    refine at0 ?_
    by_cases hz : p < n
    · rw [if_pos hz] at h5; exact ⟨hz, h5⟩
    · rw [if_neg hz] at h5; exact absurd h5.1 (by decide)
  · refine ⟨fun z => absurd rfl z, fun _ => ?_⟩
    have g1 : ¬ dgt t n p := fun z => h5 (by rw [if_pos z.1]; exact z.2)
    rw [if_pos g1] at hWd
    rw [if_neg g1] at hA
    have hq := hQ lo W rfl (fun z => absurd z (by omega))
    rw [if_neg (by omega), hWd, hA] at hq
    have : Q (some (.inl lo)) (up (up S 0 3 p) 0 4 (up S 0 3 p 0 3)) := by rw [e3]; exact hq
    exact this
