/-! the duel: who is first without the other -/
set_option maxHeartbeats 2000000 in
theorem t_dFirst (T S : St) (f : Int → Int) (one other va : Int) (k : Nat) (Q : Option AV → St → Prop) (hT : mOk T) (hf : ofOk (T 0 20) f) (hW : wkI_l T S f) (hk : T 0 19 = k) (e1 : S 117 1 = one) (e2 : S 117 2 = other) (hva : va ≤ 1000000) (hne : ¬ one = other) (hQ : ∀ S', Fr [] [(117, 11), (117, 12)] S S' → S' 117 11 = ftF (uf (uf (tnM T (smM T f)) one va) other 1000000) k → S' 117 12 = ftP (uf (uf (tnM T (smM T f)) one va) other 1000000) k → Q none S') : Smm H_Duel_findFirst 0 [some (.inr (.inr 117)), some (.inr (.inr 95)), some (.inl va), none, none] [] S Q := by
  have hk4 := hT.2.1
  obtain ⟨t, ht⟩ : ∃ t, uf (uf (tnM T (smM T f)) one va) other 1000000 = t := ⟨_, rfl⟩
  rw [ht] at hQ
  have htl : ∀ j : Int, 0 ≤ j → j < k → t j ≤ 1000000 := fun j j0 j1 => by
    rw [← ht]
    unfold uf
    have := tnM_b hT hf (g := j) j0 (by omega)
    split
    · omega
    · split <;> omega
  have loop : ∀ (d g : Nat) (S1 : St) (y : Option AV), g + d = k → Fr [] [(117, 11), (117, 12)] S S1 → S1 117 11 = ftF t g → S1 117 12 = ftP t g → Smm H_Duel_findFirst 13 [some (.inr (.inr 117)), some (.inr (.inr 95)), some (.inl va), some (.inl (g : Int)), y] [] S1 Q := by
    intro d
    induction d with
    | zero =>
      intro g S1 y hg hF a1 a2
      have hgk : g = k := by omega
      rw [hgk] at a1 a2 ⊢
      have hW1 := wkI_fr_l hW hF rfl rfl
      have w1 : S1 95 1 = 0 := hW1.1.1
      have w2 : S1 63 0 = k := by rw [← hk]; exact hW1.1.2.1.1.1
      refine sound ok_Duel_findFirst [13] 20 ?_
      refine ⟨fun _ => ?_, fun z => absurd (w1.symm.trans z) (by decide)⟩
      exact ⟨fun _ => hQ S1 hF a1 a2, fun z => absurd z (by rw [w2]; exact Int.lt_irrefl _)⟩
    | succ d ih =>
      intro g S1 y hg hF a1 a2
      have hW1 := wkI_fr_l hW hF rfl rfl
      have w1 : S1 95 1 = 0 := hW1.1.1
      have w2 : S1 63 0 = k := by rw [← hk]; exact hW1.1.2.1.1.1
      have hng : ¬ S1 63 0 ≤ (g : Int) := by rw [w2]; omega
      have q1 : S1 117 1 = one := by rw [hF.s 117 1 rfl]; exact e1
      have q2 : S1 117 2 = other := by rw [hF.s 117 2 rfl]; exact e2
      have bg : (0 : Int) ≤ g ∧ (g : Int) < 4 := by omega
      have et : S1 101 g = tnM T (smM T f) g := hW1.2.2.2.2 g (by omega) (by omega)
      have hs := ft_step (t := t) (k := g) (fun j j0 j1 => htl j j0 (by omega))
      have hpl := ftP_le (t := t) g (fun j j0 j1 => htl j j0 (by omega))
      have e : ((g + 1 : Nat) : Int) = i32 ((g : Int) + 1) := i32_s (by omega)
      have nx : ∀ (v : Int), v = uf (tnM T (smM T f)) one va g → Smm H_Duel_findFirst 42 [some (.inr (.inr 117)), some (.inr (.inr 95)), some (.inl va), some (.inl (g : Int)), y] [.inl v] S1 Q := by
        intro v hv
        have tg : ¬ (g : Int) = other → t g = v := fun q => by rw [← ht, uf_n _ _ q, hv]
        have to : (g : Int) = other → t g = 1000000 := fun q => by rw [← ht, q, uf_s]
        have same : (ftP t g ≤ t g) → Smm H_Duel_findFirst 13 [some (.inr (.inr 117)), some (.inr (.inr 95)), some (.inl va), some (.inl ((g + 1 : Nat) : Int)), some (.inl v)] [] S1 Q := fun q => by
          obtain ⟨b1, b2⟩ := hs.2 q
          exact ih (g + 1) S1 _ (by clear e; omega) hF (by rw [a1, b1]) (by rw [a2, b2])
        refine sound ok_Duel_findFirst [13] 40 ?_
        refine ⟨fun z => ?_, fun z => ?_⟩
        · rw [q2] at z
          exact Smm.sub (same (by rw [to z]; exact hpl)) ⟨Or.inr rfl, Or.inr rfl, Or.inr rfl, Or.inr (sI e), Or.inr rfl, trivial⟩
        · rw [q2] at z
          have tv := tg z
          refine ⟨fun u => ?_, fun u => ?_⟩
          · rw [a2] at u
            exact Smm.sub (same (by rw [tv]; exact u)) ⟨Or.inr rfl, Or.inr rfl, Or.inr rfl, Or.inr (sI e), Or.inr rfl, trivial⟩
          · rw [a2] at u
            obtain ⟨b1, b2⟩ := hs.1 (by rw [tv]; exact u)
            refine Smm.sub (ih (g + 1) (up (up S1 117 11 g) 117 12 v) _ (by clear e; omega) ((hF.up _ _ _ rfl).up _ _ _ rfl) ?_ ?_) ⟨Or.inr rfl, Or.inr rfl, Or.inr rfl, Or.inr (sI e), Or.inr rfl, trivial⟩
            · rw [up_n _ _ _ (by decide), up_s, b1]
            · rw [up_s, b2, tv]
      refine sound ok_Duel_findFirst [42] 40 ?_
      refine ⟨fun _ => ?_, fun z => absurd (w1.symm.trans z) (by decide)⟩
      refine ⟨fun z => absurd z hng, fun _ => ?_⟩
      refine ⟨fun z => ?_, fun z => ?_⟩
      · rw [q1] at z
        exact ⟨bg, nx _ (by rw [uf_n _ _ z, et])⟩
      · rw [q1] at z
        exact nx _ (by rw [z, uf_s])
  refine sound ok_Duel_findFirst [13] 20 ?_
  refine loop k 0 _ none (by omega) (((Fr.rf _ _ _).up _ _ _ rfl).up _ _ _ rfl) ?_ ?_
  · rw [up_n _ _ _ (by decide), up_s]; rfl
  · rw [up_s]; rfl
