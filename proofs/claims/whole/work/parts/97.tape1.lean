/-! the class's tape -/
theorem t_xNext (S : St) (Q : Option AV → St → Prop) (h0 : 0 ≤ S 43 2) (hn : S 43 1 ≤ 160) (hQ : Q (some (.inl (ch (S 44) (S 43 1) (sk (S 44) (S 43 1) (S 43 2))))) (up S 43 2 (sk (S 44) (S 43 1) (S 43 2)))) : Smm H_Tape_next 0 [some (.inr (.inr 43))] [] S Q := by
  have out : ∀ a, 0 ≤ a → sk (S 44) (S 43 1) (S 43 2) = a → Smm H_Tape_next 38 [some (.inr (.inr 43))] [] (up S 43 2 a) Q := by
    intro a ha he
    have e3 : up S 43 2 a 43 2 = a := up_s _ _ _ _
    have e2 : up S 43 2 a 43 1 = S 43 1 := up_n _ _ _ (by decide)
    have e1 : up S 43 2 a 44 = S 44 := up_o _ _ _ (by decide)
    rw [he] at hQ
    unfold ch at hQ
    refine sound ok_Tape_next [] 40 ?_
    refine ⟨fun h => ?_, fun h => ?_⟩
    · rw [e3, e2] at h
      rw [if_neg (by omega)] at hQ
      exact hQ
    · rw [e3, e2] at h
      rw [if_pos h] at hQ
      refine ⟨by rw [e3]; omega, ?_⟩
      rw [← e1] at hQ
      have e4 : up S 43 2 a 44 (up S 43 2 a 43 2) = up S 43 2 a 44 a := by rw [e3]
      rw [← e4] at hQ
      exact hQ
  have loop : ∀ (d : Nat) (a : Int), S 43 1 - a ≤ d → 0 ≤ a → sk (S 44) (S 43 1) (S 43 2) = sk (S 44) (S 43 1) a → Smm H_Tape_next 0 [some (.inr (.inr 43))] [] (up S 43 2 a) Q := by
    intro d
    induction d with
    | zero =>
      intro a hd ha he
      have e3 : up S 43 2 a 43 2 = a := up_s _ _ _ _
      have e2 : up S 43 2 a 43 1 = S 43 1 := up_n _ _ _ (by decide)
      refine sound ok_Tape_next [38] 40 ?_
      refine ⟨fun h => out a ha (by rw [he]; exact sk_n (by omega)), fun h => absurd h (by omega)⟩
    | succ d ih =>
      intro a hd ha he
      have e3 : up S 43 2 a 43 2 = a := up_s _ _ _ _
      have e2 : up S 43 2 a 43 1 = S 43 1 := up_n _ _ _ (by decide)
      have e1 : up S 43 2 a 44 = S 44 := up_o _ _ _ (by decide)
      refine sound ok_Tape_next [0, 38] 40 ?_
      refine ⟨fun h => out a ha (by rw [he]; exact sk_n (by omega)), fun h => ?_⟩
      rw [e3, e2] at h
      refine ⟨by rw [e3]; omega, ?_⟩
      refine ⟨fun h4 => ?_, fun h4 => ?_⟩
      · rw [e3, e1] at h4
        exact out a ha (by rw [he]; exact sk_n (fun z => h4 z.2))
      · rw [e3, e1] at h4
        have := ih (a + 1) (by omega) (by omega) (by rw [he]; exact sk_s ⟨h, h4⟩)
        rw [← up_up S 43 2 a (a + 1)] at this
        have e5 : i32 (up S 43 2 a 43 2 + 1) = a + 1 := by rw [e3]; exact i32_id (by omega) (by omega)
        rw [← e5] at this
        exact this
  have := loop (S 43 1 - S 43 2).toNat (S 43 2) (by omega) h0 rfl
  rwa [up_self] at this
theorem t_xDigit (S : St) (p : Int) (Q : Option AV → St → Prop) (h0 : 0 ≤ p) (hn : S 43 1 ≤ 160) (h1 : dgt (S 44) (S 43 1) p → Q (some (.inl 1)) S) (h2 : ¬ dgt (S 44) (S 43 1) p → Q (some (.inl 0)) S) : Smm H_Tape_isDigitAt 0 [some (.inr (.inr 43)), some (.inl p)] [] S Q := by
  refine sound ok_Tape_isDigitAt [] 40 ?_
  refine ⟨fun h => ⟨Or.inl rfl, h2 (fun z => absurd z.1 (by omega))⟩, fun h => ?_⟩
  have hix : 0 ≤ p ∧ p < 160 := by omega
  refine ⟨hix, ?_⟩
  refine ⟨fun h3 => ⟨Or.inl rfl, h2 (fun z => absurd z.2.1 (by omega))⟩, fun h3 => ?_⟩
  refine ⟨hix, ?_⟩
  exact ⟨fun h4 => ⟨Or.inl rfl, h2 (fun z => absurd z.2.2 (by omega))⟩, fun h4 => ⟨Or.inr rfl, h1 ⟨h, by omega, by omega⟩⟩⟩
theorem t_xFail (S : St) (w : Int) (Q : Option AV → St → Prop) (h1 : S 43 3 = -1 → Q none (up S 43 3 w)) (h0 : ¬ S 43 3 = -1 → Q none S) : Smm H_Tape_fail 0 [some (.inr (.inr 43)), some (.inl w)] [] S Q := by
  refine sound ok_Tape_fail [] 20 ?_
  exact ⟨fun h => h0 h, fun h => h1 h⟩
theorem t_xFine (S : St) (Q : Option AV → St → Prop) (h1 : S 43 3 = -1 → Q (some (.inl 1)) S) (h0 : ¬ S 43 3 = -1 → Q (some (.inl 0)) S) : Smm H_Tape_isFine 0 [some (.inr (.inr 43))] [] S Q := by
  refine sound ok_Tape_isFine [] 20 ?_
  exact ⟨fun h => ⟨Or.inl rfl, h0 h⟩, fun h => ⟨Or.inr rfl, h1 h⟩⟩
theorem t_xRewind (S : St) (Q : Option AV → St → Prop) (hQ : Q none (up (up S 43 2 0) 43 3 (-1))) : Smm H_Tape_rewind 0 [some (.inr (.inr 43))] [] S Q := by
  refine sound ok_Tape_rewind [] 20 ?_
  exact hQ
set_option maxHeartbeats 4000000 in
theorem t_xNumber (S : St) (lo hi : Int) (Q : Option AV → St → Prop) (h0 : 0 ≤ S 43 2) (hat : S 43 2 ≤ 165) (hn : S 43 1 ≤ 160) (hw : S 43 3 = -1) (hQ : ∀ v W, W = nmW (S 44) (S 43 1) lo hi (S 43 2) → (W = -1 → v = nmV (S 44) (S 43 1) (S 43 2)) → Q (some (.inl v)) (up (up S 43 2 (nmA (S 44) (S 43 1) (S 43 2))) 43 3 W)) : Smm H_Tape_number 0 [some (.inr (.inr 43)), some (.inl lo), some (.inl hi), none, none, none] [] S Q := by
  generalize ht : S 44 = t at hQ
  generalize hnn : S 43 1 = n at hn hQ
  have hA : nmA t n (S 43 2) = if dgt t n (sk t n (S 43 2)) then (if dgt t n (sk t n (S 43 2) + 1) then sk t n (S 43 2) + 2 else sk t n (S 43 2) + 1) else sk t n (S 43 2) := rfl
  have hV : nmV t n (S 43 2) = if dgt t n (sk t n (S 43 2) + 1) then 10 * (t (sk t n (S 43 2)) - 48) + (t (sk t n (S 43 2) + 1) - 48) else t (sk t n (S 43 2)) - 48 := rfl
  have hWd : nmW t n lo hi (S 43 2) = if ¬ dgt t n (sk t n (S 43 2)) then sk t n (S 43 2) else if dgt t n (sk t n (S 43 2) + 1) ∧ dgt t n (sk t n (S 43 2) + 2) then sk t n (S 43 2) + 2 else if nmV t n (S 43 2) < lo ∨ hi < nmV t n (S 43 2) then nmA t n (S 43 2) - 1 else -1 := rfl
  have key := sk_b t n (S 43 2)
  generalize hk : sk t n (S 43 2) = p at hA hV hWd key
  generalize nmA t n (S 43 2) = A at hQ hA hWd
  generalize nmV t n (S 43 2) = V at hQ hV hWd
  generalize nmW t n lo hi (S 43 2) = W at hQ hWd
  have hp0 : 0 ≤ p := by omega
  have e3 : ∀ a, up S 43 2 a 43 2 = a := fun a => up_s _ _ _ _
  have e2 : ∀ a, up S 43 2 a 43 1 = n := fun a => by rw [up_n _ _ _ (by decide), hnn]
  have e1 : ∀ a, up S 43 2 a 44 = t := fun a => by rw [up_o _ _ _ (by decide), ht]
  have e4 : ∀ a, up S 43 2 a 43 3 = -1 := fun a => by rw [up_n _ _ _ (by decide), hw]
  have dg : ∀ (a q : Int) (Q' : Option AV → St → Prop), 0 ≤ q → (dgt t n q → Q' (some (.inl 1)) (up S 43 2 a)) → (¬ dgt t n q → Q' (some (.inl 0)) (up S 43 2 a)) → Smm H_Tape_isDigitAt 0 [some (.inr (.inr 43)), some (.inl q)] [] (up S 43 2 a) Q' := by
    intro a q Q' hq k1 k2
    exact t_xDigit _ q Q' hq (by rw [e2]; exact hn) (by rw [e1, e2]; exact k1) (by rw [e1, e2]; exact k2)
  have dg2 : ∀ (a : Int) (Q' : Option AV → St → Prop), 0 ≤ a → (dgt t n a → Q' (some (.inl 1)) (up S 43 2 a)) → (¬ dgt t n a → Q' (some (.inl 0)) (up S 43 2 a)) → Smm H_Tape_isDigitAt 0 [some (.inr (.inr 43)), some (.inl (up S 43 2 a 43 2))] [] (up S 43 2 a) Q' := by
    intro a Q' hq k1 k2
    rw [e3]
    exact dg a a Q' hq k1 k2
  have fl : ∀ (a w v x3 x5 : Int), A = a → W = w → (W = -1 → v = V) → Smm H_Tape_number 121 [some (.inr (.inr 43)), some (.inl lo), some (.inl hi), some (.inl x3), some (.inl v), some (.inl x5)] [] (up (up S 43 2 a) 43 3 w) Q := by
    intro a w v x3 x5 hA' hW' hv
    have hq := hQ v W rfl hv
    rw [hA', hW'] at hq
    refine sound ok_Tape_number [] 10 ?_
    exact hq
  have at69 : ∀ (v a x5 : Int), 0 ≤ a → a ≤ 170 → A = a → ((a = p ∧ W = p ∧ 0 ≤ p) ∨ (¬ a = p ∧ dgt t n a ∧ W = a) ∨ (¬ a = p ∧ ¬ dgt t n a ∧ v = V ∧ W = if V < lo ∨ hi < V then a - 1 else -1)) → Smm H_Tape_number 69 [some (.inr (.inr 43)), some (.inl lo), some (.inl hi), some (.inl p), some (.inl v), some (.inl x5)] [] (up S 43 2 a) Q := by
    intro v a x5 ha ha2 hA' hc
    have f88 : W = a → Smm H_Tape_number 88 [some (.inr (.inr 43)), some (.inl lo), some (.inl hi), some (.inl p), some (.inl v), some (.inl x5)] [] (up S 43 2 a) Q := by
      intro hW'
      refine sound ok_Tape_number [121] 20 ?_
      refine t_xFail _ _ _ (fun _ => ?_) (fun z => absurd (e4 a) z)
      have := fl a a v p x5 hA' hW' (fun z => absurd z (by omega))
      have e5 : up S 43 2 a 43 2 = a := e3 a
      rw [e5]
      exact this
    refine sound ok_Tape_number [88, 99] 40 ?_
    refine ⟨fun z => ?_, fun z => ?_⟩
    · rw [e3] at z
      refine f88 ?_
      rcases hc with hc | hc | hc
      · omega
      · exact absurd z hc.1
      · exact absurd z hc.1
    · rw [e3] at z
      refine dg2 a _ ha (fun g => ?_) (fun g => ?_)
      · refine ⟨fun z => absurd z (by decide), fun _ => ?_⟩
        refine f88 ?_
        rcases hc with hc | hc | hc
        · exact absurd hc.1 z
        · exact hc.2.2
        · exact absurd g hc.2.1
      · refine ⟨fun _ => ?_, fun z => absurd rfl z⟩
        have hc3 : v = V ∧ W = if V < lo ∨ hi < V then a - 1 else -1 := by
          rcases hc with hc | hc | hc
          · exact absurd hc.1 z
          · exact absurd hc.2.1 g
          · exact hc.2.2
        obtain ⟨hv, hWw⟩ := hc3
        have bad : (V < lo ∨ hi < V) → Smm H_Tape_number 111 [some (.inr (.inr 43)), some (.inl lo), some (.inl hi), some (.inl p), some (.inl v), some (.inl x5)] [] (up S 43 2 a) Q := by
          intro hb
          rw [if_pos hb] at hWw
          have e6 : i32 (up S 43 2 a 43 2 - 1) = a - 1 := by rw [e3]; exact i32_id (by omega) (by omega)
          refine sound ok_Tape_number [121] 20 ?_
          refine t_xFail _ _ _ (fun _ => ?_) (fun z => absurd (e4 a) z)
          rw [e6]
          exact fl a (a - 1) v p x5 hA' hWw (fun _ => hv)
        refine sound ok_Tape_number [111, 121] 20 ?_
        refine ⟨fun y => bad (Or.inl (by omega)), fun y => ?_⟩
        refine ⟨fun y2 => ?_, fun y2 => bad (Or.inr (by omega))⟩
        rw [if_neg (by omega)] at hWw
        have := fl a (-1) v p x5 hA' hWw (fun _ => hv)
        rw [← e4 a, up_self] at this
        exact this
  have at2 : ∀ v : Int, dgt t n p → dgt t n (p + 1) → v = 10 * (t p - 48) + (t (p + 1) - 48) → Smm H_Tape_number 16 [some (.inr (.inr 43)), some (.inl lo), some (.inl hi), some (.inl p), some (.inl v), some (.inl 2)] [] (up S 43 2 (p + 2)) Q := by
    intro v g1 g2 hv
    have n1 := g2.1
    rw [if_pos g1, if_pos g2] at hA
    rw [if_pos g2] at hV
    rw [if_neg (fun z => z g1)] at hWd
    refine sound ok_Tape_number [69] 20 ?_
    refine ⟨fun _ => ?_, fun z => absurd z (by decide)⟩
    refine at69 v (p + 2) 2 (by omega) (by omega) hA (Or.inr ?_)
    by_cases g3 : dgt t n (p + 2)
    · rw [if_pos ⟨g2, g3⟩] at hWd
      exact Or.inl ⟨by omega, g3, hWd⟩
    · rw [if_neg (fun z => g3 z.2), hA] at hWd
      exact Or.inr ⟨by omega, g3, by omega, hWd⟩
  have at1 : ∀ v : Int, dgt t n p → v = t p - 48 → Smm H_Tape_number 16 [some (.inr (.inr 43)), some (.inl lo), some (.inl hi), some (.inl p), some (.inl v), some (.inl 1)] [] (up S 43 2 (p + 1)) Q := by
    intro v g1 hv
    have n1 := g1.1
    have n2 := g1.2
    refine sound ok_Tape_number [69, 16] 60 ?_
    refine ⟨fun z => absurd z (by decide), fun _ => ?_⟩
    refine dg2 (p + 1) _ (by omega) (fun g2 => ?_) (fun g2 => ?_)
    · refine ⟨fun z => absurd z (by decide), fun _ => ?_⟩
      refine ⟨by rw [e3]; have := g2.1; omega, ?_⟩
      have go := at2 _ g1 g2 rfl
      rw [← up_up S 43 2 (p + 1) (p + 2)] at go
      have e6 : i32 (up S 43 2 (p + 1) 43 2 + 1) = p + 2 := by rw [e3, i32_id (by omega) (by omega)]; omega
      rw [← e6] at go
      refine Smm.sub go ⟨Or.inr rfl, Or.inr rfl, Or.inr rfl, Or.inr rfl, Or.inr (sI ?_), Or.inr rfl, trivial⟩
      have g22 := g2.2
      rw [e3, e1, hv, i32_id (v := 10 * (t p - 48)) (by omega) (by omega), i32_id (v := 10 * (t p - 48) + t (p + 1)) (by omega) (by omega), i32_id (by omega) (by omega)]
      omega
    · refine ⟨fun _ => ?_, fun z => absurd rfl z⟩
      rw [if_pos g1, if_neg g2] at hA
      rw [if_neg g2] at hV
      rw [if_neg (fun z => z g1), if_neg (fun z => g2 z.1), hA] at hWd
      exact at69 v (p + 1) 1 (by omega) (by omega) hA (Or.inr (Or.inr ⟨by omega, g2, by omega, hWd⟩))
  have at0 : Smm H_Tape_number 16 [some (.inr (.inr 43)), some (.inl lo), some (.inl hi), some (.inl p), some (.inl 0), some (.inl 0)] [] (up S 43 2 p) Q := by
    refine sound ok_Tape_number [69, 16] 60 ?_
    refine ⟨fun z => absurd z (by decide), fun _ => ?_⟩
    refine dg2 p _ hp0 (fun g1 => ?_) (fun g1 => ?_)
    · have n1 := g1.1
      have n2 := g1.2
      refine ⟨fun z => absurd z (by decide), fun _ => ?_⟩
      refine ⟨by rw [e3]; omega, ?_⟩
      have go := at1 _ g1 rfl
      rw [← up_up S 43 2 p (p + 1)] at go
      have e6 : i32 (up S 43 2 p 43 2 + 1) = p + 1 := by rw [e3, i32_id (by omega) (by omega)]
      rw [← e6] at go
      refine Smm.sub go ⟨Or.inr rfl, Or.inr rfl, Or.inr rfl, Or.inr rfl, Or.inr (sI ?_), Or.inr rfl, trivial⟩
      rw [e3, e1, show i32 (10 * 0) = 0 from rfl, i32_id (v := 0 + t p) (by omega) (by omega), i32_id (by omega) (by omega)]
      omega
    · refine ⟨fun _ => ?_, fun z => absurd rfl z⟩
      rw [if_neg g1] at hA
      rw [if_pos g1] at hWd
      exact at69 0 p 0 hp0 (by omega) hA (Or.inl ⟨rfl, hWd, hp0⟩)
  refine sound ok_Tape_number [16] 60 ?_
  refine t_xNext S _ h0 (by omega) ?_
  rw [ht, hnn, hk]
  exact at0
