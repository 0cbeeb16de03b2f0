/-! the world: its cells read and written -/
theorem wl_get (w : Wd) (S : St) {c : Nat} (h : c < nC) : (wl w S)[c]? = some (w.2.1 c, cellE w c S) := by
  unfold wl
  rw [List.getElem?_map, List.getElem?_range h]
  rfl
theorem wl_len (w : Wd) (S : St) : (wl w S).length = nC := by simp [wl]
theorem wl_set (w : Wd) {S S' : St} {c : Nat} (h : c < nC) (ho : ∀ c', c' ≠ c → S' c' = S c') : (wl w S).set c (w.2.1 c, cellE w c S') = wl w S' := by
  apply List.ext_getElem?
  intro i
  by_cases hi : i < nC
  · by_cases hc : i = c
    · subst hc
      rw [List.getElem?_set_self (by rw [wl_len]; exact hi), wl_get w S' hi]
    · rw [List.getElem?_set_ne (Ne.symm hc), wl_get w S hi, wl_get w S' hi]
      unfold cellE
      rw [ho i hc]
  · rw [List.getElem?_eq_none (by rw [List.length_set, wl_len]; omega), List.getElem?_eq_none (by rw [wl_len]; omega)]
theorem wl_D (w : Wd) (S : St) (h : adOk w) : va_D (inA w) (wl w S) := by
  have key : ∀ (i : Nat) (q : Nat × va_E), (wl w S)[i]? = some q → i < nC ∧ q.1 = w.2.1 i := by
    intro i q hq
    have hi : i < nC := by
      have := (List.getElem?_eq_some_iff.mp hq).1
      rwa [wl_len] at this
    rw [wl_get w S hi] at hq
    cases hq
    exact ⟨hi, rfl⟩
  refine ⟨fun i j p q hp hq e => ?_, fun k q hq => ?_⟩
  · obtain ⟨h1, h2⟩ := key i p hp
    obtain ⟨h3, h4⟩ := key j q hq
    exact h.1 i j h1 h3 (by rw [← h2, ← h4, e])
  · obtain ⟨h1, h2⟩ := key k q hq
    exact ⟨k, h1, h2⟩
/-! shapes: what is so of all of them -/
def kdOk (ci : Nat) (k : Nat) (q : Nat × Nat × Nat × Int) : Bool := decide (q.2.2.2 = (k : Int)) && (match q.1 with
  | 0 => decide ((tyCl.getD ci (fun _ => .int)) k = .int)
  | 1 => decide ((tyCl.getD ci (fun _ => .int)) k = .long)
  | 2 => true
  | 3 => decide ((tyCl.getD ci (fun _ => .int)) k = .boolean)
  | 4 => (match (tyCl.getD ci (fun _ => .int)) k with | .object _ => true | _ => false)
  | _ => false)
def kdsOk (ci : Nat) : Nat → List (Nat × Nat × Nat × Int) → Bool
  | _, [] => true
  | k, q :: r => kdOk ci k q && kdsOk ci (k + 1) r
def shOk (c : Nat) : Bool := match shp c with
  | .inl (ci, ks) => Nat.blt c nC && Nat.blt ci 13 && Nat.beq ks.length (clE ci).2.2 && kdsOk ci 0 ks
  | .inr (0, n, m) => Nat.blt c nC && decide (m = (n : Int)) && Nat.blt n 100000
  | .inr (1, n, m) => Nat.blt c nC && decide (m = (n : Int)) && Nat.blt n 100000
  | .inr (2, n, m) => Nat.blt c nC && decide (m = (n : Int)) && Nat.blt n 100000
  | .inr (5, n, m) => Nat.beq c (sA n) && Nat.blt n 4 && decide (m = 16) && !(Nat.beq n 1)
  | .inr (6, n, m) => Nat.beq c (sA n) && Nat.beq n 1 && decide (m = 16)
  | .inr (9, _, _) => true
  | _ => false
theorem shOk_lt : (List.range 160).all shOk = true := by decide +kernel
theorem shp_out {c : Nat} (h : 160 ≤ c) : shp c = .inr (9, 0, 0) := by
  unfold shp
  have e : shpT.getD (c / 16) [] = [] := by
    rw [List.getD_eq_getElem?_getD, List.getElem?_eq_none (by show 10 ≤ c / 16; omega)]
    rfl
  rw [e]
  rfl
theorem shOk_all (c : Nat) : shOk c = true := by
  by_cases h : c < 160
  · exact List.all_eq_true.mp shOk_lt c (List.mem_range.mpr h)
  · unfold shOk
    rw [shp_out (by omega)]
    rfl
theorem kds_spec {ci : Nat} : ∀ (ks : List (Nat × Nat × Nat × Int)) (k0 : Nat), kdsOk ci k0 ks = true → ∀ (k : Nat) (q : Nat × Nat × Nat × Int), ks[k]? = some q → kdOk ci (k0 + k) q = true
  | [], _, _, k, q, h => by simp at h
  | x :: ks, k0, h, k, q, hq => by
    simp only [kdsOk, Bool.and_eq_true] at h
    cases k with
    | zero =>
      have e : x = q := by simpa using hq
      rw [← e]
      exact h.1
    | succ k =>
      have := kds_spec ks (k0 + 1) h.2 k q (by simpa using hq)
      rwa [show k0 + (k + 1) = k0 + 1 + k by omega]
theorem sh_obj {c ci : Nat} {ks : List (Nat × Nat × Nat × Int)} (h : shp c = .inl (ci, ks)) : c < nC ∧ ci < 13 ∧ ks.length = (clE ci).2.2 ∧ ∀ k q, ks[k]? = some q → kdOk ci k q = true := by
  have h1 := shOk_all c
  unfold shOk at h1
  rw [h] at h1
  simp only [Bool.and_eq_true] at h1
  obtain ⟨⟨⟨h1, h2⟩, h3⟩, h4⟩ := h1
  exact ⟨Nat.ble_eq.mp h1, Nat.ble_eq.mp h2, Nat.beq_eq.mp h3, fun k q hq => by simpa using kds_spec ks 0 h4 k q hq⟩
theorem sh_arr {c t n : Nat} {m : Int} (h : shp c = .inr (t, n, m)) (ht : t = 0 ∨ t = 1 ∨ t = 2) : c < nC ∧ m = (n : Int) ∧ n < 100000 := by
  have h1 := shOk_all c
  unfold shOk at h1
  rw [h] at h1
  rcases ht with rfl | rfl | rfl
  all_goals
    simp only [Bool.and_eq_true, decide_eq_true_eq] at h1
    exact ⟨Nat.ble_eq.mp h1.1.1, h1.1.2, Nat.ble_eq.mp h1.2⟩
theorem sh_st5 {c n : Nat} {m : Int} (h : shp c = .inr (5, n, m)) : c = sA n ∧ n < 4 ∧ m = 16 ∧ n ≠ 1 := by
  have h1 := shOk_all c
  unfold shOk at h1
  rw [h] at h1
  simp only [Bool.and_eq_true, decide_eq_true_eq, Bool.not_eq_true'] at h1
  exact ⟨Nat.beq_eq.mp h1.1.1.1, Nat.ble_eq.mp h1.1.1.2, h1.1.2, fun q => by rw [q] at h1; simp at h1⟩
theorem sh_st6 {c n : Nat} {m : Int} (h : shp c = .inr (6, n, m)) : c = sA 1 ∧ n = 1 ∧ m = 16 := by
  have h1 := shOk_all c
  unfold shOk at h1
  rw [h] at h1
  simp only [Bool.and_eq_true, decide_eq_true_eq] at h1
  have e := Nat.beq_eq.mp h1.1.2
  subst e
  exact ⟨Nat.beq_eq.mp h1.1.1, rfl, h1.2⟩
theorem clE_get : ∀ ci, ci < 13 → vwCl[ci]? = some (clE ci) := by
  intro ci h
  unfold clE
  rw [List.getD_eq_getElem?_getD]
  cases q : vwCl[ci]? with
  | none =>
    have := List.getElem?_eq_none_iff.mp q
    exact absurd this (by show ¬ 13 ≤ ci; omega)
  | some a => rfl
theorem uE : ∀ ci, ci < 13 → ∀ w ∈ u_ws (clE ci).1 (clE ci).2.1 (clE ci).2.2, w ∈ G
  | 0, _ => uX0
  | 1, _ => uX1
  | 2, _ => uX2
  | 3, _ => uX3
  | 4, _ => uX4
  | 5, _ => uX5
  | 6, _ => uX6
  | 7, _ => uX7
  | 8, _ => uX8
  | 9, _ => uX9
  | 10, _ => uX10
  | 11, _ => uX11
  | 12, _ => uX12
  | n + 13, h => absurd h (by omega)
theorem tyE : ∀ ci, ci < 13 → ∀ k, k < (clE ci).2.2 → parseFieldDescriptor ((clE ci).2.1 k).2.2.1 = some ((tyCl.getD ci (fun _ => .int)) k)
  | 0, _ => tyX0_ok
  | 1, _ => tyX1_ok
  | 2, _ => tyX2_ok
  | 3, _ => tyX3_ok
  | 4, _ => tyX4_ok
  | 5, _ => tyX5_ok
  | 6, _ => tyX6_ok
  | 7, _ => tyX7_ok
  | 8, _ => tyX8_ok
  | 9, _ => tyX9_ok
  | 10, _ => tyX10_ok
  | 11, _ => tyX11_ok
  | 12, _ => tyX12_ok
  | n + 13, h => absurd h (by omega)
theorem nmE : ∀ ci, ci < 13 → ∀ a, a < (clE ci).2.2 → ∀ b, b < (clE ci).2.2 → a ≠ b → ((clE ci).2.1 a).2.1 ≠ ((clE ci).2.1 b).2.1
  | 0, _ => nmX0
  | 1, _ => nmX1
  | 2, _ => nmX2
  | 3, _ => nmX3
  | 4, _ => nmX4
  | 5, _ => nmX5
  | 6, _ => nmX6
  | 7, _ => nmX7
  | 8, _ => nmX8
  | 9, _ => nmX9
  | 10, _ => nmX10
  | 11, _ => nmX11
  | 12, _ => nmX12
  | n + 13, h => absurd h (by omega)
/-! links -/
theorem flE {oc x ci k : Nat} (h : flC oc x ci k = true) : Cond.fieldLink (clN oc) x ((clE ci).2.1 k).1 ((clE ci).2.1 k).2.1 ((clE ci).2.1 k).2.2.1 ∈ G ∧ k < (clE ci).2.2 ∧ ci < 13 := by
  unfold flC at h
  obtain ⟨e, he, h⟩ := List.any_eq_true.mp h
  simp only [Bool.and_eq_true] at h
  obtain ⟨⟨⟨h1, h2⟩, h3⟩, h4⟩ := h
  have e1 := Nat.beq_eq.mp h1
  have e2 := Nat.beq_eq.mp h2
  have e3 := Nat.beq_eq.mp h3
  have e4 := Nat.beq_eq.mp h4
  subst e1 e2 e3 e4
  have h5 := List.all_eq_true.mp flL_ok e he
  simp only [Bool.and_eq_true, decide_eq_true_eq] at h5
  exact ⟨mG _ h5.1.1 rfl, Nat.ble_eq.mp h5.1.2, Nat.ble_eq.mp h5.2⟩
theorem mlE {oc x n : Nat} (h : mlC oc x n = true) : Cond.methodLink (clN oc) x (hdTab n).2.1 ∈ G := by
  unfold mlC at h
  obtain ⟨e, he, h⟩ := List.any_eq_true.mp h
  simp only [Bool.and_eq_true] at h
  obtain ⟨⟨h1, h2⟩, h3⟩ := h
  have e1 := Nat.beq_eq.mp h1
  have e2 := Nat.beq_eq.mp h2
  have e3 := Nat.beq_eq.mp h3
  subst e1 e2 e3
  have h5 := List.all_eq_true.mp mlL_ok e he
  simp only [Bool.and_eq_true, decide_eq_true_eq] at h5
  exact mG _ h5.1 rfl
theorem clCE {oc x : Nat} {v : Int} (h : clC oc x v = true) : Cond.constant (clN oc) x (Int32.ofInt v) ∈ G ∧ i32 v = v := by
  unfold clC at h
  obtain ⟨e, he, h⟩ := List.any_eq_true.mp h
  simp only [Bool.and_eq_true, decide_eq_true_eq] at h
  obtain ⟨⟨h1, h2⟩, h3⟩ := h
  have e1 := Nat.beq_eq.mp h1
  have e2 := Nat.beq_eq.mp h2
  subst e1 e2 h3
  have h5 := List.all_eq_true.mp clL_ok e he
  simp only [Bool.and_eq_true, decide_eq_true_eq] at h5
  exact ⟨mG _ h5.1 rfl, h5.2⟩
theorem cjCE {oc x : Nat} {v : Int} (h : cjC oc x v = true) : Cond.constantLong (clN oc) x (Int64.ofInt v) ∈ G ∧ i64 v = v := by
  unfold cjC at h
  obtain ⟨e, he, h⟩ := List.any_eq_true.mp h
  simp only [Bool.and_eq_true, decide_eq_true_eq] at h
  obtain ⟨⟨h1, h2⟩, h3⟩ := h
  have e1 := Nat.beq_eq.mp h1
  have e2 := Nat.beq_eq.mp h2
  subst e1 e2 h3
  have h5 := List.all_eq_true.mp clJ_ok e he
  simp only [Bool.and_eq_true, decide_eq_true_eq] at h5
  exact ⟨mG _ h5.1 rfl, h5.2⟩
theorem slE {oc x n : Nat} (h : slC oc x n = true) : ∃ q ∈ slL, q.1 = oc ∧ q.2.1 = x ∧ q.2.2.1 = n := by
  unfold slC at h
  obtain ⟨e, he, h⟩ := List.any_eq_true.mp h
  simp only [Bool.and_eq_true] at h
  obtain ⟨⟨h1, h2⟩, h3⟩ := h
  exact ⟨e, he, Nat.beq_eq.mp h1, Nat.beq_eq.mp h2, Nat.beq_eq.mp h3⟩
theorem slE4 : ∀ q ∈ slL, q.2.2.1 < 4 := by decide
theorem alE {oc x : Nat} (h : alC oc x = true) : Cond.methodLink (clN oc) x arraycopyName ∈ G := by
  unfold alC at h
  obtain ⟨e, he, h⟩ := List.any_eq_true.mp h
  simp only [Bool.and_eq_true] at h
  have e1 := Nat.beq_eq.mp h.1
  have e2 := Nat.beq_eq.mp h.2
  subst e1 e2
  have h5 := List.all_eq_true.mp alL_ok e he
  exact mG _ (of_decide_eq_true h5) rfl
theorem mmE {oc x n : Nat} (h : mmC oc x n = true) : Cond.methodLink (clN oc) x (mmN n) ∈ G := by
  unfold mmC at h
  obtain ⟨e, he, h⟩ := List.any_eq_true.mp h
  simp only [Bool.and_eq_true] at h
  obtain ⟨⟨h1, h2⟩, h3⟩ := h
  have e1 := Nat.beq_eq.mp h1
  have e2 := Nat.beq_eq.mp h2
  have e3 := Nat.beq_eq.mp h3
  subst e1 e2 e3
  have h5 := List.all_eq_true.mp mmL_ok e he
  exact mG _ (of_decide_eq_true h5) rfl
/-! numbers within their kinds -/
theorem up_c (S : St) (c : Nat) (j v : Int) : up S c j v c = fun j' => if j' = j then v else S c j' := by unfold up; rw [if_pos rfl]
theorem up_o (S : St) {c c' : Nat} (j v : Int) (h : c' ≠ c) : up S c j v c' = S c' := by unfold up; rw [if_neg h]
theorem cpS_c (S : St) (a : Nat) (sp : Int) (b : Nat) (dp n : Int) : cpS S a sp b dp n b = fun j => if dp ≤ j ∧ j < dp + n then S a (sp + (j - dp)) else S b j := by unfold cpS; rw [if_pos rfl]
theorem cpS_o (S : St) (a : Nat) (sp : Int) {b c' : Nat} (dp n : Int) (h : c' ≠ b) : cpS S a sp b dp n c' = S c' := by unfold cpS; rw [if_neg h]
theorem Can_up {S : St} {c : Nat} {j v : Int} (h : Can S) (hv : cnC c j v) : Can (up S c j v) := by
  intro c' j'
  by_cases hc : c' = c
  · subst hc
    rw [up_c]
    by_cases hj : j' = j
    · subst hj
      simp only [if_true]
      exact hv
    · simp only [if_neg hj]
      exact h c' j'
  · rw [up_o S j v hc]
    exact h c' j'
theorem Can_I {S : St} {c n : Nat} {m : Int} (h : Can S) (hs : shp c = .inr (0, n, m)) (j : Int) : i32 (S c j) = S c j := by
  have h1 := h c j
  unfold cnC at h1
  rw [hs] at h1
  exact h1
theorem Can_J {S : St} {c n : Nat} {m : Int} (h : Can S) (hs : shp c = .inr (1, n, m)) (j : Int) : i64 (S c j) = S c j := by
  have h1 := h c j
  unfold cnC at h1
  rw [hs] at h1
  exact h1
theorem Can_Z {S : St} {c n : Nat} {m : Int} (h : Can S) (hs : shp c = .inr (2, n, m)) (j : Int) : S c j = 0 ∨ S c j = 1 := by
  have h1 := h c j
  unfold cnC at h1
  rw [hs] at h1
  exact h1
theorem can01 {v : Int} (h : v = 0 ∨ v = 1) : i32 v = v := by rcases h with rfl | rfl <;> rfl
theorem Can_F {S : St} {c ci k : Nat} {ks : List (Nat × Nat × Nat × Int)} {q : Nat × Nat × Nat × Int} (h : Can S) (hs : shp c = .inl (ci, ks)) (hk : ks[k]? = some q) : cnK q.1 (S c q.2.2.2) := by
  have h1 := h c q.2.2.2
  unfold cnC at h1
  rw [hs] at h1
  exact h1 q (List.mem_of_getElem? hk) rfl
theorem kd_slot {ci k : Nat} {q : Nat × Nat × Nat × Int} (h : kdOk ci k q = true) : q.2.2.2 = (k : Int) := by
  unfold kdOk at h
  simp only [Bool.and_eq_true, decide_eq_true_eq] at h
  exact h.1
theorem cnC_F {c ci k : Nat} {ks : List (Nat × Nat × Nat × Int)} {q : Nat × Nat × Nat × Int} {v : Int} (hs : shp c = .inl (ci, ks)) (hk : ks[k]? = some q) (hv : cnK q.1 v) : cnC c q.2.2.2 v := by
  unfold cnC
  rw [hs]
  intro k' hk' e
  obtain ⟨i, hi⟩ := List.getElem?_of_mem hk'
  have h4 := (sh_obj hs).2.2.2
  have e1 := kd_slot (h4 i k' hi)
  have e2 := kd_slot (h4 k q hk)
  rw [e1, e2] at e
  have e3 : i = k := by omega
  subst e3
  rw [hi] at hk
  cases hk
  exact hv
