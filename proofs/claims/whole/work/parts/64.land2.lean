/-! lands of the class: copies and what is changed in them -/
theorem cp_o (S : St) (a : Nat) (sp : Int) {b c : Nat} (dp n : Int) (h : c ≠ b) : cpS S a sp b dp n c = S c := by unfold cpS; rw [if_neg h]
theorem cpS_in (S : St) (a b : Nat) (n : Int) {j : Int} (h0 : 0 ≤ j) (h1 : j < n) : cpS S a 0 b 0 n b j = S a j := by
  unfold cpS
  rw [if_pos rfl, if_pos ⟨h0, by omega⟩, show (0 : Int) + (j - 0) = j by omega]
theorem Fr.cp {X : List Nat} {Y : List (Nat × Int)} {S S1 : St} (h : Fr X Y S S1) (a : Nat) (sp : Int) (b : Nat) (dp n : Int) (hb : X.contains b = true) : Fr X Y S (cpS S1 a sp b dp n) := by
  intro c j hx hy
  have : c ≠ b := fun z => hx (by rw [z]; simpa using hb)
  rw [cp_o _ _ _ _ _ this]
  exact h c j hx hy
set_option maxHeartbeats 1000000 in
theorem t_copy_o (S : St) (Q : Option AV → St → Prop) (hQ : ∀ S', Fr [72, 73, 74, 75, 76, 77, 78] [(71, 0), (71, 1), (71, 2), (71, 3), (71, 4), (71, 5), (71, 6), (71, 7)] S S' → (∀ j, 0 ≤ j → j < 8 → S' 71 j = S 63 j) → ((∀ j, 0 ≤ j → j < 4 → S' 72 j = S 64 j) ∧ (∀ j, 0 ≤ j → j < 4 → S' 73 j = S 65 j) ∧ (∀ j, 0 ≤ j → j < 5 → S' 74 j = S 66 j) ∧ (∀ j, 0 ≤ j → j < 5 → S' 75 j = S 67 j) ∧ (∀ j, 0 ≤ j → j < 5 → S' 76 j = S 68 j) ∧ (∀ j, 0 ≤ j → j < 5 → S' 77 j = S 69 j) ∧ (∀ j, 0 ≤ j → j < 20 → S' 78 j = S 70 j)) → Q none S') : Smm H_Land_copy 0 [some (.inr (.inr 71)), some (.inr (.inr 63))] [] S Q := by
  refine Smm.can (fun hC => ?_)
  have h01 : S 63 6 = 0 ∨ S 63 6 = 1 := hC 63 6 (3, 0, 0, 6) (by decide) rfl
  have hF : Fr [72, 73, 74, 75, 76, 77, 78] [(71, 0), (71, 1), (71, 2), (71, 3), (71, 4), (71, 5), (71, 6), (71, 7)] S (cpS (cpS (cpS (cpS (cpS (cpS (cpS (up (up (up (up (up (up (up (up S 71 0 (S 63 0)) 71 1 (S 63 1)) 71 2 (S 63 2)) 71 3 (S 63 3)) 71 4 (S 63 4)) 71 5 (S 63 5)) 71 6 (S 63 6)) 71 7 (S 63 7)) 64 0 72 0 4) 65 0 73 0 4) 66 0 74 0 5) 67 0 75 0 5) 68 0 76 0 5) 69 0 77 0 5) 70 0 78 0 20) := (((((((((((((((Fr.rf _ _ S).up _ _ _ rfl).up _ _ _ rfl).up _ _ _ rfl).up _ _ _ rfl).up _ _ _ rfl).up _ _ _ rfl).up _ _ _ rfl).up _ _ _ rfl).cp _ _ _ _ _ rfl).cp _ _ _ _ _ rfl).cp _ _ _ _ _ rfl).cp _ _ _ _ _ rfl).cp _ _ _ _ _ rfl).cp _ _ _ _ _ rfl).cp _ _ _ _ _ rfl
  have hs : ∀ j, 0 ≤ j → j < 8 → (cpS (cpS (cpS (cpS (cpS (cpS (cpS (up (up (up (up (up (up (up (up S 71 0 (S 63 0)) 71 1 (S 63 1)) 71 2 (S 63 2)) 71 3 (S 63 3)) 71 4 (S 63 4)) 71 5 (S 63 5)) 71 6 (S 63 6)) 71 7 (S 63 7)) 64 0 72 0 4) 65 0 73 0 4) 66 0 74 0 5) 67 0 75 0 5) 68 0 76 0 5) 69 0 77 0 5) 70 0 78 0 20) 71 j = S 63 j := fun j j0 j1 => by
    rw [cp_o _ _ _ _ _ (by decide), cp_o _ _ _ _ _ (by decide), cp_o _ _ _ _ _ (by decide), cp_o _ _ _ _ _ (by decide), cp_o _ _ _ _ _ (by decide), cp_o _ _ _ _ _ (by decide), cp_o _ _ _ _ _ (by decide)]
    have : j = 0 ∨ j = 1 ∨ j = 2 ∨ j = 3 ∨ j = 4 ∨ j = 5 ∨ j = 6 ∨ j = 7 := by omega
    rcases this with rfl | rfl | rfl | rfl | rfl | rfl | rfl | rfl <;> simp [upr]
  have ha0 : ∀ j, 0 ≤ j → j < 4 → (cpS (cpS (cpS (cpS (cpS (cpS (cpS (up (up (up (up (up (up (up (up S 71 0 (S 63 0)) 71 1 (S 63 1)) 71 2 (S 63 2)) 71 3 (S 63 3)) 71 4 (S 63 4)) 71 5 (S 63 5)) 71 6 (S 63 6)) 71 7 (S 63 7)) 64 0 72 0 4) 65 0 73 0 4) 66 0 74 0 5) 67 0 75 0 5) 68 0 76 0 5) 69 0 77 0 5) 70 0 78 0 20) 72 j = S 64 j := fun j j0 j1 => by
    rw [cp_o _ _ _ _ _ (by decide), cp_o _ _ _ _ _ (by decide), cp_o _ _ _ _ _ (by decide), cp_o _ _ _ _ _ (by decide), cp_o _ _ _ _ _ (by decide), cp_o _ _ _ _ _ (by decide), cpS_in _ _ _ _ j0 j1, up_o _ _ _ (by decide), up_o _ _ _ (by decide), up_o _ _ _ (by decide), up_o _ _ _ (by decide), up_o _ _ _ (by decide), up_o _ _ _ (by decide), up_o _ _ _ (by decide), up_o _ _ _ (by decide)]
  have ha1 : ∀ j, 0 ≤ j → j < 4 → (cpS (cpS (cpS (cpS (cpS (cpS (cpS (up (up (up (up (up (up (up (up S 71 0 (S 63 0)) 71 1 (S 63 1)) 71 2 (S 63 2)) 71 3 (S 63 3)) 71 4 (S 63 4)) 71 5 (S 63 5)) 71 6 (S 63 6)) 71 7 (S 63 7)) 64 0 72 0 4) 65 0 73 0 4) 66 0 74 0 5) 67 0 75 0 5) 68 0 76 0 5) 69 0 77 0 5) 70 0 78 0 20) 73 j = S 65 j := fun j j0 j1 => by
    rw [cp_o _ _ _ _ _ (by decide), cp_o _ _ _ _ _ (by decide), cp_o _ _ _ _ _ (by decide), cp_o _ _ _ _ _ (by decide), cp_o _ _ _ _ _ (by decide), cpS_in _ _ _ _ j0 j1, cp_o _ _ _ _ _ (by decide), up_o _ _ _ (by decide), up_o _ _ _ (by decide), up_o _ _ _ (by decide), up_o _ _ _ (by decide), up_o _ _ _ (by decide), up_o _ _ _ (by decide), up_o _ _ _ (by decide), up_o _ _ _ (by decide)]
  have ha2 : ∀ j, 0 ≤ j → j < 5 → (cpS (cpS (cpS (cpS (cpS (cpS (cpS (up (up (up (up (up (up (up (up S 71 0 (S 63 0)) 71 1 (S 63 1)) 71 2 (S 63 2)) 71 3 (S 63 3)) 71 4 (S 63 4)) 71 5 (S 63 5)) 71 6 (S 63 6)) 71 7 (S 63 7)) 64 0 72 0 4) 65 0 73 0 4) 66 0 74 0 5) 67 0 75 0 5) 68 0 76 0 5) 69 0 77 0 5) 70 0 78 0 20) 74 j = S 66 j := fun j j0 j1 => by
    rw [cp_o _ _ _ _ _ (by decide), cp_o _ _ _ _ _ (by decide), cp_o _ _ _ _ _ (by decide), cp_o _ _ _ _ _ (by decide), cpS_in _ _ _ _ j0 j1, cp_o _ _ _ _ _ (by decide), cp_o _ _ _ _ _ (by decide), up_o _ _ _ (by decide), up_o _ _ _ (by decide), up_o _ _ _ (by decide), up_o _ _ _ (by decide), up_o _ _ _ (by decide), up_o _ _ _ (by decide), up_o _ _ _ (by decide), up_o _ _ _ (by decide)]
  have ha3 : ∀ j, 0 ≤ j → j < 5 → (cpS (cpS (cpS (cpS (cpS (cpS (cpS (up (up (up (up (up (up (up (up S 71 0 (S 63 0)) 71 1 (S 63 1)) 71 2 (S 63 2)) 71 3 (S 63 3)) 71 4 (S 63 4)) 71 5 (S 63 5)) 71 6 (S 63 6)) 71 7 (S 63 7)) 64 0 72 0 4) 65 0 73 0 4) 66 0 74 0 5) 67 0 75 0 5) 68 0 76 0 5) 69 0 77 0 5) 70 0 78 0 20) 75 j = S 67 j := fun j j0 j1 => by
    rw [cp_o _ _ _ _ _ (by decide), cp_o _ _ _ _ _ (by decide), cp_o _ _ _ _ _ (by decide), cpS_in _ _ _ _ j0 j1, cp_o _ _ _ _ _ (by decide), cp_o _ _ _ _ _ (by decide), cp_o _ _ _ _ _ (by decide), up_o _ _ _ (by decide), up_o _ _ _ (by decide), up_o _ _ _ (by decide), up_o _ _ _ (by decide), up_o _ _ _ (by decide), up_o _ _ _ (by decide), up_o _ _ _ (by decide), up_o _ _ _ (by decide)]
  have ha4 : ∀ j, 0 ≤ j → j < 5 → (cpS (cpS (cpS (cpS (cpS (cpS (cpS (up (up (up (up (up (up (up (up S 71 0 (S 63 0)) 71 1 (S 63 1)) 71 2 (S 63 2)) 71 3 (S 63 3)) 71 4 (S 63 4)) 71 5 (S 63 5)) 71 6 (S 63 6)) 71 7 (S 63 7)) 64 0 72 0 4) 65 0 73 0 4) 66 0 74 0 5) 67 0 75 0 5) 68 0 76 0 5) 69 0 77 0 5) 70 0 78 0 20) 76 j = S 68 j := fun j j0 j1 => by
    rw [cp_o _ _ _ _ _ (by decide), cp_o _ _ _ _ _ (by decide), cpS_in _ _ _ _ j0 j1, cp_o _ _ _ _ _ (by decide), cp_o _ _ _ _ _ (by decide), cp_o _ _ _ _ _ (by decide), cp_o _ _ _ _ _ (by decide), up_o _ _ _ (by decide), up_o _ _ _ (by decide), up_o _ _ _ (by decide), up_o _ _ _ (by decide), up_o _ _ _ (by decide), up_o _ _ _ (by decide), up_o _ _ _ (by decide), up_o _ _ _ (by decide)]
  have ha5 : ∀ j, 0 ≤ j → j < 5 → (cpS (cpS (cpS (cpS (cpS (cpS (cpS (up (up (up (up (up (up (up (up S 71 0 (S 63 0)) 71 1 (S 63 1)) 71 2 (S 63 2)) 71 3 (S 63 3)) 71 4 (S 63 4)) 71 5 (S 63 5)) 71 6 (S 63 6)) 71 7 (S 63 7)) 64 0 72 0 4) 65 0 73 0 4) 66 0 74 0 5) 67 0 75 0 5) 68 0 76 0 5) 69 0 77 0 5) 70 0 78 0 20) 77 j = S 69 j := fun j j0 j1 => by
    rw [cp_o _ _ _ _ _ (by decide), cpS_in _ _ _ _ j0 j1, cp_o _ _ _ _ _ (by decide), cp_o _ _ _ _ _ (by decide), cp_o _ _ _ _ _ (by decide), cp_o _ _ _ _ _ (by decide), cp_o _ _ _ _ _ (by decide), up_o _ _ _ (by decide), up_o _ _ _ (by decide), up_o _ _ _ (by decide), up_o _ _ _ (by decide), up_o _ _ _ (by decide), up_o _ _ _ (by decide), up_o _ _ _ (by decide), up_o _ _ _ (by decide)]
  have ha6 : ∀ j, 0 ≤ j → j < 20 → (cpS (cpS (cpS (cpS (cpS (cpS (cpS (up (up (up (up (up (up (up (up S 71 0 (S 63 0)) 71 1 (S 63 1)) 71 2 (S 63 2)) 71 3 (S 63 3)) 71 4 (S 63 4)) 71 5 (S 63 5)) 71 6 (S 63 6)) 71 7 (S 63 7)) 64 0 72 0 4) 65 0 73 0 4) 66 0 74 0 5) 67 0 75 0 5) 68 0 76 0 5) 69 0 77 0 5) 70 0 78 0 20) 78 j = S 70 j := fun j j0 j1 => by
    rw [cpS_in _ _ _ _ j0 j1, cp_o _ _ _ _ _ (by decide), cp_o _ _ _ _ _ (by decide), cp_o _ _ _ _ _ (by decide), cp_o _ _ _ _ _ (by decide), cp_o _ _ _ _ _ (by decide), cp_o _ _ _ _ _ (by decide), up_o _ _ _ (by decide), up_o _ _ _ (by decide), up_o _ _ _ (by decide), up_o _ _ _ (by decide), up_o _ _ _ (by decide), up_o _ _ _ (by decide), up_o _ _ _ (by decide), up_o _ _ _ (by decide)]
  have hq := hQ _ hF hs ⟨ha0, ha1, ha2, ha3, ha4, ha5, ha6⟩
  refine sound ok_Land_copy [] 100 ?_
  refine ⟨h01, ?_⟩
  refine ⟨by decide, ?_⟩
  refine ⟨by decide, ?_⟩
  refine ⟨by decide, ?_⟩
  refine ⟨by decide, ?_⟩
  refine ⟨by decide, ?_⟩
  refine ⟨by decide, ?_⟩
  refine ⟨by decide, ?_⟩
  exact hq
set_option maxHeartbeats 1000000 in
theorem t_copy_l (S : St) (Q : Option AV → St → Prop) (hQ : ∀ S', Fr [64, 65, 66, 67, 68, 69, 70] [(63, 0), (63, 1), (63, 2), (63, 3), (63, 4), (63, 5), (63, 6), (63, 7)] S S' → (∀ j, 0 ≤ j → j < 8 → S' 63 j = S 47 j) → ((∀ j, 0 ≤ j → j < 4 → S' 64 j = S 48 j) ∧ (∀ j, 0 ≤ j → j < 4 → S' 65 j = S 49 j) ∧ (∀ j, 0 ≤ j → j < 5 → S' 66 j = S 50 j) ∧ (∀ j, 0 ≤ j → j < 5 → S' 67 j = S 51 j) ∧ (∀ j, 0 ≤ j → j < 5 → S' 68 j = S 52 j) ∧ (∀ j, 0 ≤ j → j < 5 → S' 69 j = S 53 j) ∧ (∀ j, 0 ≤ j → j < 20 → S' 70 j = S 54 j)) → Q none S') : Smm H_Land_copy 0 [some (.inr (.inr 63)), some (.inr (.inr 47))] [] S Q := by
  refine Smm.can (fun hC => ?_)
  have h01 : S 47 6 = 0 ∨ S 47 6 = 1 := hC 47 6 (3, 0, 0, 6) (by decide) rfl
  have hF : Fr [64, 65, 66, 67, 68, 69, 70] [(63, 0), (63, 1), (63, 2), (63, 3), (63, 4), (63, 5), (63, 6), (63, 7)] S (cpS (cpS (cpS (cpS (cpS (cpS (cpS (up (up (up (up (up (up (up (up S 63 0 (S 47 0)) 63 1 (S 47 1)) 63 2 (S 47 2)) 63 3 (S 47 3)) 63 4 (S 47 4)) 63 5 (S 47 5)) 63 6 (S 47 6)) 63 7 (S 47 7)) 48 0 64 0 4) 49 0 65 0 4) 50 0 66 0 5) 51 0 67 0 5) 52 0 68 0 5) 53 0 69 0 5) 54 0 70 0 20) := (((((((((((((((Fr.rf _ _ S).up _ _ _ rfl).up _ _ _ rfl).up _ _ _ rfl).up _ _ _ rfl).up _ _ _ rfl).up _ _ _ rfl).up _ _ _ rfl).up _ _ _ rfl).cp _ _ _ _ _ rfl).cp _ _ _ _ _ rfl).cp _ _ _ _ _ rfl).cp _ _ _ _ _ rfl).cp _ _ _ _ _ rfl).cp _ _ _ _ _ rfl).cp _ _ _ _ _ rfl
  have hs : ∀ j, 0 ≤ j → j < 8 → (cpS (cpS (cpS (cpS (cpS (cpS (cpS (up (up (up (up (up (up (up (up S 63 0 (S 47 0)) 63 1 (S 47 1)) 63 2 (S 47 2)) 63 3 (S 47 3)) 63 4 (S 47 4)) 63 5 (S 47 5)) 63 6 (S 47 6)) 63 7 (S 47 7)) 48 0 64 0 4) 49 0 65 0 4) 50 0 66 0 5) 51 0 67 0 5) 52 0 68 0 5) 53 0 69 0 5) 54 0 70 0 20) 63 j = S 47 j := fun j j0 j1 => by
    rw [cp_o _ _ _ _ _ (by decide), cp_o _ _ _ _ _ (by decide), cp_o _ _ _ _ _ (by decide), cp_o _ _ _ _ _ (by decide), cp_o _ _ _ _ _ (by decide), cp_o _ _ _ _ _ (by decide), cp_o _ _ _ _ _ (by decide)]
    have : j = 0 ∨ j = 1 ∨ j = 2 ∨ j = 3 ∨ j = 4 ∨ j = 5 ∨ j = 6 ∨ j = 7 := by omega
    rcases this with rfl | rfl | rfl | rfl | rfl | rfl | rfl | rfl <;> simp [upr]
  have ha0 : ∀ j, 0 ≤ j → j < 4 → (cpS (cpS (cpS (cpS (cpS (cpS (cpS (up (up (up (up (up (up (up (up S 63 0 (S 47 0)) 63 1 (S 47 1)) 63 2 (S 47 2)) 63 3 (S 47 3)) 63 4 (S 47 4)) 63 5 (S 47 5)) 63 6 (S 47 6)) 63 7 (S 47 7)) 48 0 64 0 4) 49 0 65 0 4) 50 0 66 0 5) 51 0 67 0 5) 52 0 68 0 5) 53 0 69 0 5) 54 0 70 0 20) 64 j = S 48 j := fun j j0 j1 => by
    rw [cp_o _ _ _ _ _ (by decide), cp_o _ _ _ _ _ (by decide), cp_o _ _ _ _ _ (by decide), cp_o _ _ _ _ _ (by decide), cp_o _ _ _ _ _ (by decide), cp_o _ _ _ _ _ (by decide), cpS_in _ _ _ _ j0 j1, up_o _ _ _ (by decide), up_o _ _ _ (by decide), up_o _ _ _ (by decide), up_o _ _ _ (by decide), up_o _ _ _ (by decide), up_o _ _ _ (by decide), up_o _ _ _ (by decide), up_o _ _ _ (by decide)]
  have ha1 : ∀ j, 0 ≤ j → j < 4 → (cpS (cpS (cpS (cpS (cpS (cpS (cpS (up (up (up (up (up (up (up (up S 63 0 (S 47 0)) 63 1 (S 47 1)) 63 2 (S 47 2)) 63 3 (S 47 3)) 63 4 (S 47 4)) 63 5 (S 47 5)) 63 6 (S 47 6)) 63 7 (S 47 7)) 48 0 64 0 4) 49 0 65 0 4) 50 0 66 0 5) 51 0 67 0 5) 52 0 68 0 5) 53 0 69 0 5) 54 0 70 0 20) 65 j = S 49 j := fun j j0 j1 => by
    rw [cp_o _ _ _ _ _ (by decide), cp_o _ _ _ _ _ (by decide), cp_o _ _ _ _ _ (by decide), cp_o _ _ _ _ _ (by decide), cp_o _ _ _ _ _ (by decide), cpS_in _ _ _ _ j0 j1, cp_o _ _ _ _ _ (by decide), up_o _ _ _ (by decide), up_o _ _ _ (by decide), up_o _ _ _ (by decide), up_o _ _ _ (by decide), up_o _ _ _ (by decide), up_o _ _ _ (by decide), up_o _ _ _ (by decide), up_o _ _ _ (by decide)]
  have ha2 : ∀ j, 0 ≤ j → j < 5 → (cpS (cpS (cpS (cpS (cpS (cpS (cpS (up (up (up (up (up (up (up (up S 63 0 (S 47 0)) 63 1 (S 47 1)) 63 2 (S 47 2)) 63 3 (S 47 3)) 63 4 (S 47 4)) 63 5 (S 47 5)) 63 6 (S 47 6)) 63 7 (S 47 7)) 48 0 64 0 4) 49 0 65 0 4) 50 0 66 0 5) 51 0 67 0 5) 52 0 68 0 5) 53 0 69 0 5) 54 0 70 0 20) 66 j = S 50 j := fun j j0 j1 => by
    rw [cp_o _ _ _ _ _ (by decide), cp_o _ _ _ _ _ (by decide), cp_o _ _ _ _ _ (by decide), cp_o _ _ _ _ _ (by decide), cpS_in _ _ _ _ j0 j1, cp_o _ _ _ _ _ (by decide), cp_o _ _ _ _ _ (by decide), up_o _ _ _ (by decide), up_o _ _ _ (by decide), up_o _ _ _ (by decide), up_o _ _ _ (by decide), up_o _ _ _ (by decide), up_o _ _ _ (by decide), up_o _ _ _ (by decide), up_o _ _ _ (by decide)]
  have ha3 : ∀ j, 0 ≤ j → j < 5 → (cpS (cpS (cpS (cpS (cpS (cpS (cpS (up (up (up (up (up (up (up (up S 63 0 (S 47 0)) 63 1 (S 47 1)) 63 2 (S 47 2)) 63 3 (S 47 3)) 63 4 (S 47 4)) 63 5 (S 47 5)) 63 6 (S 47 6)) 63 7 (S 47 7)) 48 0 64 0 4) 49 0 65 0 4) 50 0 66 0 5) 51 0 67 0 5) 52 0 68 0 5) 53 0 69 0 5) 54 0 70 0 20) 67 j = S 51 j := fun j j0 j1 => by
    rw [cp_o _ _ _ _ _ (by decide), cp_o _ _ _ _ _ (by decide), cp_o _ _ _ _ _ (by decide), cpS_in _ _ _ _ j0 j1, cp_o _ _ _ _ _ (by decide), cp_o _ _ _ _ _ (by decide), cp_o _ _ _ _ _ (by decide), up_o _ _ _ (by decide), up_o _ _ _ (by decide), up_o _ _ _ (by decide), up_o _ _ _ (by decide), up_o _ _ _ (by decide), up_o _ _ _ (by decide), up_o _ _ _ (by decide), up_o _ _ _ (by decide)]
  have ha4 : ∀ j, 0 ≤ j → j < 5 → (cpS (cpS (cpS (cpS (cpS (cpS (cpS (up (up (up (up (up (up (up (up S 63 0 (S 47 0)) 63 1 (S 47 1)) 63 2 (S 47 2)) 63 3 (S 47 3)) 63 4 (S 47 4)) 63 5 (S 47 5)) 63 6 (S 47 6)) 63 7 (S 47 7)) 48 0 64 0 4) 49 0 65 0 4) 50 0 66 0 5) 51 0 67 0 5) 52 0 68 0 5) 53 0 69 0 5) 54 0 70 0 20) 68 j = S 52 j := fun j j0 j1 => by
    rw [cp_o _ _ _ _ _ (by decide), cp_o _ _ _ _ _ (by decide), cpS_in _ _ _ _ j0 j1, cp_o _ _ _ _ _ (by decide), cp_o _ _ _ _ _ (by decide), cp_o _ _ _ _ _ (by decide), cp_o _ _ _ _ _ (by decide), up_o _ _ _ (by decide), up_o _ _ _ (by decide), up_o _ _ _ (by decide), up_o _ _ _ (by decide), up_o _ _ _ (by decide), up_o _ _ _ (by decide), up_o _ _ _ (by decide), up_o _ _ _ (by decide)]
  have ha5 : ∀ j, 0 ≤ j → j < 5 → (cpS (cpS (cpS (cpS (cpS (cpS (cpS (up (up (up (up (up (up (up (up S 63 0 (S 47 0)) 63 1 (S 47 1)) 63 2 (S 47 2)) 63 3 (S 47 3)) 63 4 (S 47 4)) 63 5 (S 47 5)) 63 6 (S 47 6)) 63 7 (S 47 7)) 48 0 64 0 4) 49 0 65 0 4) 50 0 66 0 5) 51 0 67 0 5) 52 0 68 0 5) 53 0 69 0 5) 54 0 70 0 20) 69 j = S 53 j := fun j j0 j1 => by
    rw [cp_o _ _ _ _ _ (by decide), cpS_in _ _ _ _ j0 j1, cp_o _ _ _ _ _ (by decide), cp_o _ _ _ _ _ (by decide), cp_o _ _ _ _ _ (by decide), cp_o _ _ _ _ _ (by decide), cp_o _ _ _ _ _ (by decide), up_o _ _ _ (by decide), up_o _ _ _ (by decide), up_o _ _ _ (by decide), up_o _ _ _ (by decide), up_o _ _ _ (by decide), up_o _ _ _ (by decide), up_o _ _ _ (by decide), up_o _ _ _ (by decide)]
  have ha6 : ∀ j, 0 ≤ j → j < 20 → (cpS (cpS (cpS (cpS (cpS (cpS (cpS (up (up (up (up (up (up (up (up S 63 0 (S 47 0)) 63 1 (S 47 1)) 63 2 (S 47 2)) 63 3 (S 47 3)) 63 4 (S 47 4)) 63 5 (S 47 5)) 63 6 (S 47 6)) 63 7 (S 47 7)) 48 0 64 0 4) 49 0 65 0 4) 50 0 66 0 5) 51 0 67 0 5) 52 0 68 0 5) 53 0 69 0 5) 54 0 70 0 20) 70 j = S 54 j := fun j j0 j1 => by
    rw [cpS_in _ _ _ _ j0 j1, cp_o _ _ _ _ _ (by decide), cp_o _ _ _ _ _ (by decide), cp_o _ _ _ _ _ (by decide), cp_o _ _ _ _ _ (by decide), cp_o _ _ _ _ _ (by decide), cp_o _ _ _ _ _ (by decide), up_o _ _ _ (by decide), up_o _ _ _ (by decide), up_o _ _ _ (by decide), up_o _ _ _ (by decide), up_o _ _ _ (by decide), up_o _ _ _ (by decide), up_o _ _ _ (by decide), up_o _ _ _ (by decide)]
  have hq := hQ _ hF hs ⟨ha0, ha1, ha2, ha3, ha4, ha5, ha6⟩
  refine sound ok_Land_copy [] 100 ?_
  refine ⟨h01, ?_⟩
  refine ⟨by decide, ?_⟩
  refine ⟨by decide, ?_⟩
  refine ⟨by decide, ?_⟩
  refine ⟨by decide, ?_⟩
  refine ⟨by decide, ?_⟩
  refine ⟨by decide, ?_⟩
  refine ⟨by decide, ?_⟩
  exact hq
/-- the other land, copied, is what the land is -/
theorem lr_copy {T S S' : St} (hR : lr_l T S) (hT : mOk T) (h0 : ∀ j, 0 ≤ j → j < 8 → S' 71 j = S 63 j) (h : (∀ j, 0 ≤ j → j < 4 → S' 72 j = S 64 j) ∧ (∀ j, 0 ≤ j → j < 4 → S' 73 j = S 65 j) ∧ (∀ j, 0 ≤ j → j < 5 → S' 74 j = S 66 j) ∧ (∀ j, 0 ≤ j → j < 5 → S' 75 j = S 67 j) ∧ (∀ j, 0 ≤ j → j < 5 → S' 76 j = S 68 j) ∧ (∀ j, 0 ≤ j → j < 5 → S' 77 j = S 69 j) ∧ (∀ j, 0 ≤ j → j < 20 → S' 78 j = S 70 j)) : lr_o T S' := by
  have hn5 := hT.1.1
  have hk4 := hT.2.1
  obtain ⟨⟨k1, k2, k3, k4, k5⟩, r1, r2, r3⟩ := hR
  obtain ⟨c0, c1, c2, c3, c4, c5, c6⟩ := h
  refine ⟨⟨by rw [h0 0 (by decide) (by decide)]; exact k1, by rw [h0 1 (by decide) (by decide)]; exact k2, by rw [h0 4 (by decide) (by decide)]; exact k3, by rw [h0 5 (by decide) (by decide)]; exact k4, by rw [h0 7 (by decide) (by decide)]; exact k5⟩, fun s s0 s1 => ?_, fun j j0 j1 => ?_, fun g g0 g1 => ?_⟩
  · rw [c2 s s0 (by omega), c3 s s0 (by omega), c4 s s0 (by omega), c5 s s0 (by omega)]; exact r1 s s0 s1
  · rw [c6 j j0 j1]; exact r2 j j0 j1
  · rw [c0 g g0 (by omega), c1 g g0 (by omega)]; exact r3 g g0 g1
theorem t_gainOf (S : St) (g a b : Int) (Q : Option AV → St → Prop) (hg : 0 ≤ g ∧ g < 4) (hQ : Q (some (.inl (i32 (i32 (S 64 g * a) + i32 (S 65 g * b))))) S) : Smm H_Land_gainOf 0 [some (.inr (.inr 63)), some (.inl g), some (.inl a), some (.inl b)] [] S Q := by
  refine sound ok_Land_gainOf [] 30 ?_
  refine ⟨hg, ?_⟩
  refine ⟨hg, ?_⟩
  exact hQ
theorem t_makeDeaf (S : St) (g : Int) (Q : Option AV → St → Prop) (hg : 0 ≤ g ∧ g < 4) (hQ : ∀ S', Fr [78] [] S S' → (∀ j, S' 78 j = if 5 * g ≤ j ∧ j < 5 * g + 5 then 2000000 else S 78 j) → Q none S') : Smm H_Land_makeDeaf 0 [some (.inr (.inr 71)), some (.inl g), none] [] S Q := by
  have loop : ∀ (i : Int) (T : St), ((0 ≤ i ∧ i ≤ 5) ∧ Fr [78] [] S T ∧ ∀ j, T 78 j = if 5 * g ≤ j ∧ j < 5 * g + i then 2000000 else S 78 j) → Smm H_Land_makeDeaf 2 [some (.inr (.inr 71)), some (.inl g), some (.inl i)] [] T Q := by
    refine lp_up (P := fun i T => Smm H_Land_makeDeaf 2 [some (.inr (.inr 71)), some (.inl g), some (.inl i)] [] T Q) _ 5 ?_ ?_
    · rintro i T hi ⟨hi2, hF, h1⟩
      rw [show i = 5 by omega] at h1
      refine sound ok_Land_makeDeaf [2] 20 ?_
      exact ⟨fun _ => hQ T hF h1, fun z => absurd z (by omega)⟩
    · rintro i T hi ⟨hi2, hF, h1⟩ ih
      have hk : 0 ≤ i + 1 ∧ i + 1 ≤ 5 := by omega
      have e : i + 1 = i32 (i + 1) := (i32_id (by omega) (by omega)).symm
      obtain ⟨g1, g2⟩ := g5x (g := g) (s := i) hg ⟨hi2.1, hi⟩
      refine sound ok_Land_makeDeaf [2] 40 ?_
      refine ⟨fun z => absurd z (Int.not_le.mpr hi), fun _ => ?_⟩
      refine ⟨by rw [g1]; exact g2, ?_⟩
      refine Smm.sub (ih _ ⟨hk, hF.up _ _ _ rfl, fun j => ?_⟩) ⟨Or.inr rfl, Or.inr rfl, Or.inr (sI e), trivial⟩
      rw [g1]
      clear g1 e
      by_cases hj : j = 5 * g + i
      · rw [hj, up_s, if_pos (by omega)]
      · rw [up_n _ _ _ hj, h1 j]
        by_cases z : 5 * g ≤ j ∧ j < 5 * g + i
        · rw [if_pos z, if_pos (by omega)]
        · rw [if_neg z, if_neg (by omega)]
  refine sound ok_Land_makeDeaf [2] 20 ?_
  exact loop 0 S ⟨by omega, Fr.rf _ _ _, fun j => by rw [if_neg (by omega)]⟩
theorem t_countAhead (T S : St) (s : Int) (Q : Option AV → St → Prop) (hT : mOk T) (hR : lr_l T S) (hs : 0 ≤ s ∧ s < T 0 20) (hQ : Q (some (.inl (chN (T 12) 5 s))) S) : Smm H_Land_countAhead 0 [some (.inr (.inr 63)), some (.inl s), none, none, none] [] S Q := by
  have hn5 := hT.1.1
  have hbe : ∀ i, 0 ≤ i → i < T 0 20 → S 68 i = T 12 i := fun i i0 i1 => (hR.2.1 i i0 i1).2.2.1
  have hbb : ∀ i, 0 ≤ i → i < T 0 20 → -1 ≤ T 12 i ∧ T 12 i < i := fun i i0 i1 => ⟨(hT.1.2.1 i i0 i1).1, (hT.1.2.1 i i0 i1).2.1⟩
  have hst : ∀ d s, 0 ≤ s → s < T 0 20 → s < ((d : Nat) : Int) → chN (T 12) (d + 1) s = chN (T 12) d s := fun d s s0 s1 s2 => chN_st (fun i i0 i1 => (hbb i i0 i1).2) d s s0 s1 s2
  -- found so far and what comes
  have loop : ∀ (k : Nat) (at_ n : Int) (d : Nat), k + d = 5 → (-1 ≤ at_ ∧ at_ < T 0 20) → (0 ≤ n ∧ n ≤ k) → (at_ < 0 ∨ at_ + 1 ≤ d) → n + (if at_ < 0 then 0 else chN (T 12) d at_ + 1) = chN (T 12) 5 s → Smm H_Land_countAhead 12 [some (.inr (.inr 63)), some (.inl s), some (.inl n), some (.inl at_), some (.inl (k : Int))] [] S Q := by
    intro k at_ n d
    induction d generalizing k at_ n with
    | zero =>
      intro hk ha hn hd he
      have h5 : k = 5 := by omega
      rw [if_pos (by omega)] at he
      rw [show n = chN (T 12) 5 s by omega]
      refine sound ok_Land_countAhead [12] 20 ?_
      exact ⟨fun _ => hQ, fun z => absurd z (by omega)⟩
    | succ d ih =>
      intro hk ha hn hd he
      refine sound ok_Land_countAhead [12] 40 ?_
      refine ⟨fun z => absurd z (by omega), fun _ => ?_⟩
      refine ⟨fun z => ?_, fun z => ?_⟩
      · rw [if_pos z] at he
        have hn2 : n = chN (T 12) 5 s := by omega
        rw [← hn2] at hQ
        exact hQ
      · rw [if_neg (by omega)] at he
        have b5 : 0 ≤ at_ ∧ at_ < 5 := by omega
        have hb := hbb at_ z ha.2
        have eb := hbe at_ z ha.2
        have f := ih (k + 1) (T 12 at_) (n + 1) (by omega) (by omega) (by omega) (by omega) (by
          rw [chN] at he
          by_cases y : T 12 at_ < 0
          · rw [if_pos y] at he ⊢; omega
          · rw [if_neg y] at he ⊢; omega)
        have e1 : n + 1 = i32 (n + 1) := (i32_id (by omega) (by omega)).symm
        have e2 : ((k + 1 : Nat) : Int) = i32 ((k : Int) + 1) := i32_s (by clear e1; omega)
        rw [← eb] at f
        refine ⟨b5, ?_⟩
        exact Smm.sub f ⟨Or.inr rfl, Or.inr rfl, Or.inr (sI e1), Or.inr rfl, Or.inr (sI e2), trivial⟩
  have b5 : 0 ≤ s ∧ s < 5 := by omega
  have hb := hbb s hs.1 hs.2
  have eb := hbe s hs.1 hs.2
  have f := loop 0 (T 12 s) 0 5 rfl (by omega) (by omega) (by omega) (by
    have e6 := hst 5 s hs.1 hs.2 (by omega)
    have e7 : chN (T 12) (5 + 1) s = if T 12 s < 0 then 0 else chN (T 12) 5 (T 12 s) + 1 := rfl
    rw [← e6, e7]
    omega)
  rw [← eb] at f
  refine sound ok_Land_countAhead [12] 20 ?_
  refine ⟨b5, ?_⟩
  exact f
