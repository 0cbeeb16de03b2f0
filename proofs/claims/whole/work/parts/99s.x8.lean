/-! the class: what is told and kept -/
theorem t_X_guard (R S : St) (g what : Int) (Q : Option AV → St → Prop) (h : Rel R S) (hQ : Q (some (.inl (aM_guard R g what))) S) : Smm H_X_guard 0 [some (.inr (.inr 40)), some (.inl g), some (.inl what)] [] S Q := by
  unfold aM_guard at hQ
  refine sound ok_X_guard [] 60 ?_
  refine t_xGuard R S g _ h.1 (fun h1 => ⟨fun _ => ?_, fun z => absurd z (by decide)⟩) (fun h1 => ⟨fun z => absurd rfl z, fun _ => ?_⟩)
  · have hk := (h.1.1.1 h1.1).1
    have hg4 : 0 ≤ g ∧ g < 4 := by omega
    obtain ⟨cp, ct⟩ := (h.1.2.2.1.2 h1.1).2.2.2 g h1.2.1 h1.2.2
    have cb := h.1.2.2.2.2.1.1 g hg4.1 hg4.2
    refine ⟨fun z => ?_, fun z => ?_, fun z => ?_, fun z => ?_, trivial⟩
    · rw [if_pos (Or.inr (by omega))] at hQ
      exact hQ
    · rw [if_neg (fun q => q.elim (fun q => q h1) (by omega)), if_pos z, ← cp] at hQ
      exact ⟨hg4, hQ⟩
    · rw [if_neg (fun q => q.elim (fun q => q h1) (by omega)), if_neg (by omega), if_pos (by omega), ← ct] at hQ
      exact ⟨hg4, hQ⟩
    · rw [if_neg (fun q => q.elim (fun q => q h1) (by omega)), if_neg (by omega), if_neg (by omega), ← cb] at hQ
      exact ⟨hg4, hQ⟩
  · rw [if_pos (Or.inl h1)] at hQ
    exact hQ
theorem t_X_hears (R S : St) (g s : Int) (Q : Option AV → St → Prop) (h : Rel R S) (hQ : Q (some (.inl (aM_hears R g s))) S) : Smm H_X_hears 0 [some (.inr (.inr 40)), some (.inl g), some (.inl s), none] [] S Q := by
  unfold aM_hears at hQ
  refine sound ok_X_hears [] 60 ?_
  refine t_xGuard R S g _ h.1 (fun h1 => ⟨fun z => absurd z (by decide), fun _ => ?_⟩) (fun h1 => ⟨fun _ => ?_, fun z => absurd rfl z⟩)
  · refine t_xSign R S s _ h.1 (fun h2 => ⟨fun _ => ?_, fun z => absurd z (by decide)⟩) (fun h2 => ⟨fun z => absurd rfl z, fun _ => ?_⟩)
    · rw [if_pos ⟨h1.1, h1.2, h2.2⟩] at hQ
      have hl0 := h.1.1.1 h1.1
      have hk := hl0.1
      have hs := hl0.2.1
      obtain ⟨x1, x2⟩ := g5x (g := g) (s := s) (by omega) (by omega)
      have hd := (h.1.2.2.1.2 h1.1).2.2.1 (5 * g + s) x2.1 x2.2
      have hb := hl0.2.2.2.2.1 (5 * g + s) x2.1 x2.2
      have hdx : S 70 (i32 (i32 (g * 5) + s)) = dl (R 14 (5 * g + s)) := by rw [x1]; exact hd
      refine ⟨by rw [x1]; exact x2, ?_⟩
      refine ⟨fun z => ?_, fun z => ?_⟩
      · rw [hdx] at z
        have h0 : 0 ≤ R 14 (5 * g + s) := by
          clear x1 hdx
          unfold dl at z
          by_cases y : R 14 (5 * g + s) < 0
          · rw [if_pos y] at z; exact absurd rfl z
          · omega
        rw [dl_id h0] at hdx
        rw [← hdx] at hQ
        exact hQ
      · rw [hdx] at z
        have h0 : R 14 (5 * g + s) = -1 := by
          clear x1 hdx
          unfold dl at z
          by_cases y : R 14 (5 * g + s) < 0
          · omega
          · rw [if_neg y] at z; omega
        rw [h0] at hQ
        exact hQ
    · rw [if_neg (fun q => h2 ⟨q.1, q.2.2⟩)] at hQ
      exact hQ
  · rw [if_neg (fun q => h1 ⟨q.1, q.2.1⟩)] at hQ
    exact hQ
theorem nx32 {n g : Int} (hn : 0 ≤ n ∧ n < 40) (hg : 0 ≤ g ∧ g < 4) : i32 (i32 (n * 4) + g) = 4 * n + g ∧ 0 ≤ 4 * n + g ∧ 4 * n + g < 160 := by
  rw [i32_id (v := n * 4) (by omega) (by omega), i32_id (by omega) (by omega)]
  omega
theorem t_X_turned (R S : St) (n g : Int) (Q : Option AV → St → Prop) (h : Rel R S) (hQ : Q (some (.inl (aM_turned R n g))) S) : Smm H_X_turned 0 [some (.inr (.inr 40)), some (.inl n), some (.inl g)] [] S Q := by
  unfold aM_turned at hQ
  refine sound ok_X_turned [] 60 ?_
  refine t_xNight R S n _ h.1 (fun h1 => ⟨fun z => absurd z (by decide), fun _ => ?_⟩) (fun h1 => ⟨fun _ => ?_, fun z => absurd rfl z⟩)
  · refine t_xGuard R S g _ h.1 (fun h2 => ⟨fun _ => ?_, fun z => absurd z (by decide)⟩) (fun h2 => ⟨fun z => absurd rfl z, fun _ => ?_⟩)
    · have hk := (h.1.1.1 h1.1).1
      have hnk := h.1.1.2.2.2.2.2.1
      obtain ⟨x1, x2⟩ := nx32 (n := n) (g := g) (by have := hnk.1; omega) (by omega)
      have ht := (h.1.2.2.2.2.1.2.2.1.2 n h1.2.1 h1.2.2).1 g h2.2.1 h2.2.2
      have hb := hnk.2 n g h1.2.1 h1.2.2 h2.2.1 h2.2.2
      refine ⟨by rw [x1]; exact x2, ?_⟩
      refine t_orHidden S _ _ ?_
      rw [x1, ht]
      clear x1
      by_cases y : R 32 (4 * n + g) = 1000000
      · rw [if_pos (Or.inr (Or.inr y))] at hQ
        rw [if_pos (by omega)]
        exact hQ
      · rw [if_neg (fun q => q.elim (fun q => q h1) (fun q => q.elim (fun q => q h2.2) y))] at hQ
        rw [if_neg (by omega)]
        exact hQ
    · rw [if_pos (Or.inr (Or.inl (fun q => h2 ⟨h1.1, q⟩)))] at hQ
      exact hQ
  · rw [if_pos (Or.inl h1)] at hQ
    exact hQ
theorem t_X_opened (R S : St) (n : Int) (Q : Option AV → St → Prop) (h : Rel R S) (hQ : Q (some (.inl (aM_opened R n))) S) : Smm H_X_opened 0 [some (.inr (.inr 40)), some (.inl n)] [] S Q := by
  unfold aM_opened at hQ
  refine sound ok_X_opened [] 60 ?_
  refine t_xNight R S n _ h.1 (fun h1 => ⟨fun z => absurd z (by decide), fun _ => ?_⟩) (fun h1 => ⟨fun _ => ?_, fun z => absurd rfl z⟩)
  · have hnk := h.1.1.2.2.2.2.2.1
    have ho := (h.1.2.2.2.2.1.2.2.1.2 n h1.2.1 h1.2.2).2.1
    rw [if_neg (fun z => z h1), ← ho] at hQ
    exact ⟨by have := hnk.1; omega, hQ⟩
  · rw [if_pos h1] at hQ
    exact hQ
set_option maxHeartbeats 1000000 in
theorem t_X_count (R S : St) (what : Int) (Q : Option AV → St → Prop) (h : Rel R S) (hQ : Q (some (.inl (aM_count R what))) S) : Smm H_X_count 0 [some (.inr (.inr 40)), some (.inl what)] [] S Q := by
  have e0 : S 63 0 = R 0 19 := h.1.2.2.1.1.1
  have e1 : S 63 1 = R 0 20 := h.1.2.2.1.1.2
  have e2 : S 57 3 = R 0 31 := h.1.2.2.2.1.1
  have e3 : S 43 1 = R 0 2 := h.1.2.1.1
  have e6 : S 79 1 = R 0 49 := h.1.2.2.2.2.1.2.1.1
  have e7 : S 79 5 = R 0 52 := h.1.2.2.2.2.1.2.2.1.1
  have hnk := h.1.1.2.2.2.2.2.1.1
  unfold aM_count at hQ
  refine sound ok_X_count [] 80 ?_
  refine ⟨fun z => ?_, fun z => ?_, fun z => ?_, fun z => ?_, fun z => ?_, fun z => ?_, fun z => ?_, fun z => ?_, fun z => ?_, fun z => ?_, trivial⟩
  · rw [if_neg (by omega), if_neg (by omega), if_neg (by omega), if_neg (by omega), if_neg (by omega), if_neg (by omega), if_neg (by omega), if_neg (by omega), if_neg (by omega)] at hQ
    exact hQ
  · rw [if_pos z, ← e0] at hQ
    exact hQ
  · rw [if_neg (by omega), if_pos (by omega), ← e1] at hQ
    exact hQ
  · rw [if_neg (by omega), if_neg (by omega), if_pos (by omega), ← e2] at hQ
    exact hQ
  · rw [if_neg (by omega), if_neg (by omega), if_neg (by omega), if_pos (by omega), ← e3] at hQ
    exact hQ
  · rw [if_neg (by omega), if_neg (by omega), if_neg (by omega), if_neg (by omega), if_pos (by omega)] at hQ
    refine t_told R S _ h.1 (fun h1 => ⟨fun z => absurd z (by decide), fun _ => ?_⟩) (fun h1 => ⟨fun _ => ?_, fun z => absurd rfl z⟩)
    · rw [← ((h.1.2.2.1.2 h1).1).1] at hQ
      exact hQ
    · rw [(h.1.1.2.1 h1).2.2.1] at hQ
      exact hQ
  · rw [if_neg (by omega), if_neg (by omega), if_neg (by omega), if_neg (by omega), if_neg (by omega), if_pos (by omega)] at hQ
    refine t_told R S _ h.1 (fun h1 => ⟨fun z => absurd z (by decide), fun _ => ?_⟩) (fun h1 => ⟨fun _ => ?_, fun z => absurd rfl z⟩)
    · rw [← ((h.1.2.2.1.2 h1).1).2.1] at hQ
      exact hQ
    · rw [(h.1.1.2.1 h1).2.2.2.1] at hQ
      exact hQ
  · rw [if_neg (by omega), if_neg (by omega), if_neg (by omega), if_neg (by omega), if_neg (by omega), if_neg (by omega), if_pos (by omega), ← e6] at hQ
    exact hQ
  · rw [if_neg (by omega), if_neg (by omega), if_neg (by omega), if_neg (by omega), if_neg (by omega), if_neg (by omega), if_neg (by omega), if_pos (by omega), ← e7] at hQ
    exact hQ
  · rw [if_neg (by omega), if_neg (by omega), if_neg (by omega), if_neg (by omega), if_neg (by omega), if_neg (by omega), if_neg (by omega), if_neg (by omega), if_pos (by omega)] at hQ
    obtain ⟨k, hk⟩ : ∃ k : Nat, R 0 52 = k := ⟨(R 0 52).toNat, by omega⟩
    rw [show (R 0 52).toNat = k by omega] at hQ
    exact t_bkOpened S (R 33) k _ ⟨by rw [e7]; exact hk, by omega⟩ (fun j j0 j1 => (h.1.2.2.2.2.1.2.2.1.2 j j0 (by omega)).2.1) hQ
theorem Rel.tp {R S : St} (h : Rel R S) : tpX S := by
  obtain ⟨h1, h2⟩ := h.1.1.2.2.2.1
  obtain ⟨e1, e2⟩ := h.1.2.1
  refine ⟨by rw [e1]; exact h1, fun j j0 j1 => ?_⟩
  rw [e1] at j1
  rw [e2]
  exact h2 j j0 j1
theorem t_X_fault (R S : St) (sort : Int) (Q : Option AV → St → Prop) (h : Rel R S) (hQ : ∀ S', Xs S S' → Rel R S' → Q (some (.inl (aM_fault R sort))) S') : Smm H_X_fault 0 [some (.inr (.inr 40)), some (.inl sort)] [] S Q := by
  obtain ⟨e1, e2⟩ := h.1.2.1
  unfold aM_fault at hQ
  rw [← e1, ← e2] at hQ
  refine sound ok_X_fault [] 40 ?_
  refine ⟨fun z => ?_, fun z => ?_⟩
  · rw [if_neg z] at hQ
    refine ⟨fun y => ?_, fun y => ?_⟩
    · rw [if_neg y] at hQ
      exact hQ S (Xs.rf S) h
    · rw [if_pos y] at hQ
      exact t_plRead S _ h.tp (fun S' hF _ => hQ S' (Xs.of hF rfl) (h.fr hF rfl rfl))
  · rw [if_pos z] at hQ
    exact t_ldRead S _ h.tp (fun S' hF _ => hQ S' (Xs.of hF rfl) (h.fr hF rfl rfl))
