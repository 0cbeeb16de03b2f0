/-! the relation over what the reference scribbles -/
def peM (R U : St) : Prop := (∀ c ∈ ([1, 7, 8, 9, 10, 11, 12, 13, 14, 15, 16, 30, 32, 33, 34, 35, 36, 37, 38, 39] : List Nat), U c = R c) ∧ ∀ q ∈ ([(0, 2), (0, 18), (0, 19), (0, 20), (0, 21), (0, 22), (0, 31), (0, 49), (0, 51), (0, 52), (0, 56), (0, 57), (0, 58), (0, 59)] : List (Nat × Int)), U q.1 q.2 = R q.1 q.2
theorem pe_of {X : List Nat} {Y : List (Nat × Int)} {R U : St} (hF : Fr X Y R U) (hX : (([1, 7, 8, 9, 10, 11, 12, 13, 14, 15, 16, 30, 32, 33, 34, 35, 36, 37, 38, 39] : List Nat).all (fun c => !(X.contains c || Y.any (fun q => Nat.beq q.1 c))) && ([(0, 2), (0, 18), (0, 19), (0, 20), (0, 21), (0, 22), (0, 31), (0, 49), (0, 51), (0, 52), (0, 56), (0, 57), (0, 58), (0, 59)] : List (Nat × Int)).all (fun q => !(X.contains q.1 || Y.contains q))) = true) : peM R U := fr_get hF hX
theorem pe_tl {R U : St} (h : peM R U) (hl0 : ldM R) : SmR (tl R) (tl U) := by
  obtain ⟨k, ks⟩ := h
  have p19 : tl R 0 19 = R 0 19 := tl_0 R (by decide) (by decide)
  have p20 : tl R 0 20 = R 0 20 := tl_0 R (by decide) (by decide)
  have p21 : tl R 0 21 = R 0 21 := tl_0 R (by decide) (by decide)
  have p22 : tl R 0 22 = R 0 22 := tl_0 R (by decide) (by decide)
  have q19 : tl U 0 19 = U 0 19 := tl_0 U (by decide) (by decide)
  have q20 : tl U 0 20 = U 0 20 := tl_0 U (by decide) (by decide)
  have q21 : tl U 0 21 = U 0 21 := tl_0 U (by decide) (by decide)
  have q22 : tl U 0 22 = U 0 22 := tl_0 U (by decide) (by decide)
  have s20 : U 0 20 = R 0 20 := ks (0, 20) (by simp)
  have s19 : U 0 19 = R 0 19 := ks (0, 19) (by simp)
  refine ⟨⟨?_, ?_, ?_, ?_, rfl⟩, ⟨k 12 (by simp), k 13 (by simp), fun p p0 p1 => ⟨congrFun (k 16 (by simp)) p, fun i hi => congrFun (k 15 (by simp)) _⟩⟩, fun s s0 s1 => ?_, fun j j0 j1 => ?_, fun g g0 g1 => ?_⟩
  · rw [p19, q19]; exact s19
  · rw [p20, q20]; exact s20
  · rw [p21, q21]; exact ks (0, 21) (by simp)
  · rw [p22, q22]; exact ks (0, 22) (by simp)
  · rw [p20] at s1
    have e1 : tl R 17 s = R 10 s := if_pos ⟨s0, s1⟩
    have e2 : tl R 18 s = R 11 s := if_pos ⟨s0, s1⟩
    have e3 : tl U 17 s = U 10 s := if_pos ⟨s0, by rw [show (th U) 0 20 = U 0 20 from rfl, s20]; exact s1⟩
    have e4 : tl U 18 s = U 11 s := if_pos ⟨s0, by rw [show (th U) 0 20 = U 0 20 from rfl, s20]; exact s1⟩
    rw [e1, e2, e3, e4, k 10 (by simp), k 11 (by simp)]
    exact ⟨rfl, rfl⟩
  · have e1 : tl R 19 j = R 14 j := if_pos ⟨j0, j1⟩
    have e2 : tl U 19 j = U 14 j := if_pos ⟨j0, j1⟩
    rw [e1, e2, k 14 (by simp)]
  · have e1 : tl R 20 g = (if g < R 0 19 then R 9 g else -1) := if_pos ⟨g0, g1⟩
    have e2 : tl U 20 g = (if g < U 0 19 then U 9 g else -1) := if_pos ⟨g0, g1⟩
    rw [e1, e2, s19, k 9 (by simp)]
theorem ca_sm {R U S : St} (h : caX R S) (hr : rI R) (e18 : U 0 18 = R 0 18) (e19 : U 0 19 = R 0 19) (e20 : U 0 20 = R 0 20) (hs : ¬ R 0 18 = 0 → SmR (tl R) (tl U)) : caX U S := by
  obtain ⟨h1, h2, h3⟩ := h
  unfold caX
  rw [e18, e19, e20]
  refine ⟨?_, ?_, ?_⟩
  · rcases h1 with h1 | ⟨a, b, c⟩
    · exact Or.inl h1
    · have hT := (tl_mAs (hr.1 b) hr.2.2.1).1
      refine Or.inr ⟨a, b, ?_⟩
      rw [(hs b).wy]
      exact (hs b).sv hT c
  · rcases h2 with h2 | ⟨a, b, c⟩
    · exact Or.inl h2
    · have hT := (tl_mAs (hr.1 b) hr.2.2.1).1
      refine Or.inr ⟨a, b, c.congr (fun j => ?_)⟩
      rw [(hs b).wy, (hs b).pq hT]
  · rcases h3 with h3 | ⟨a, b, c, d, e, f⟩
    · exact Or.inl h3
    · have hl := hr.1 b
      have hT := (tl_mAs hl hr.2.2.1).1
      have hk := hl.1
      refine Or.inr ⟨a, b, c, d, e, ?_⟩
      rw [(hs b).wy]
      exact (hs b).dq hT (by omega) (by omega) f
theorem ca_pe {R U S : St} (h : caX R S) (hp : peM R U) (hr : rI R) : caX U S := by
  have hp2 := hp
  obtain ⟨k, ks⟩ := hp
  exact ca_sm h hr (ks (0, 18) (by simp)) (ks (0, 19) (by simp)) (ks (0, 20) (by simp)) (fun b => pe_tl hp2 (hr.1 b))
theorem rel_pe {R U S : St} (h : Rel R S) (hp : peM R U) : Rel U S := by
  have hc := ca_pe h.2 hp h.1.1
  obtain ⟨k, ks⟩ := hp
  refine ⟨?_, hc⟩
  have h := h.1
  unfold RelB rI ldM plM tpM scK ntK tpR ldX PlR plR1 bkX kpX bkI at h ⊢
  rw [ks (0, 2) (by simp), ks (0, 18) (by simp), ks (0, 19) (by simp), ks (0, 20) (by simp), ks (0, 21) (by simp), ks (0, 22) (by simp), ks (0, 31) (by simp), ks (0, 49) (by simp), ks (0, 51) (by simp), ks (0, 52) (by simp), ks (0, 56) (by simp), ks (0, 57) (by simp), ks (0, 58) (by simp), ks (0, 59) (by simp), k 1 (by simp), k 7 (by simp), k 8 (by simp), k 9 (by simp), k 10 (by simp), k 11 (by simp), k 12 (by simp), k 13 (by simp), k 14 (by simp), k 15 (by simp), k 16 (by simp), k 30 (by simp), k 32 (by simp), k 33 (by simp), k 34 (by simp), k 35 (by simp), k 36 (by simp), k 37 (by simp), k 38 (by simp), k 39 (by simp)]
  exact h
theorem rel_m {R U S : St} (h : Rel R S) (hF : Fr [17, 18, 19, 20, 21, 22, 23, 24, 25, 26, 27, 28, 29, 31] [(0, 0), (0, 38)] R U) : Rel U S := rel_pe h (pe_of hF rfl)
theorem rel_th {R S : St} (h : Rel R S) : Rel (th R) S := rel_m h (th_fr R)
/-- the class's cells alone count -/
def gh (A B : St) : St := fun c => if c < 40 then B c else A c
theorem gh_of {A B : St} (h : ∀ c, 40 ≤ c → B c = A c) : gh A B = B := by
  funext c
  unfold gh
  split
  · rfl
  · rename_i hc; exact (h c (by omega)).symm
theorem rel_gh {A B R : St} (h : Rel R A) : Rel R (gh A B) := h
theorem rel_x {R S S' : St} (h : Rel R S) (he : ∀ c, 40 ≤ c → S' c = S c) : Rel R S' := by
  rw [← gh_of he]
  exact rel_gh h
theorem m_x {X : List Nat} {Y : List (Nat × Int)} {S S' : St} (h : Fr X Y S S') (hX : (X.all (fun c => Nat.blt c 40) && Y.all (fun q => Nat.blt q.1 40)) = true) : ∀ c, 40 ≤ c → S' c = S c := by
  have h1 := Bool.and_eq_true_iff.mp hX
  intro c hc
  have hb : Nat.blt c 40 = false := by
    rw [Bool.eq_false_iff]
    intro q
    have := Nat.blt_eq.mp q
    omega
  funext j
  refine h c j (fun hx => ?_) (fun hy => ?_)
  · have := List.all_eq_true.mp h1.1 c hx
    rw [hb] at this
    exact absurd this (by decide)
  · have := List.all_eq_true.mp h1.2 (c, j) hy
    rw [hb] at this
    exact absurd this (by decide)
