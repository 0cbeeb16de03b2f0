/-! the relation kept -/
def Xs (S S' : St) : Prop := ∀ c, (c < 40 ∨ c = 131) → S' c = S c
theorem Xs.rf (S : St) : Xs S S := fun _ _ => rfl
theorem Xs.tr {S S1 S2 : St} (h : Xs S S1) (h2 : Xs S1 S2) : Xs S S2 := fun c hc => (h2 c hc).trans (h c hc)
theorem Xs.of {X : List Nat} {Y : List (Nat × Int)} {S S' : St} (h : Fr X Y S S') (hX : (X.all (fun c => !(Nat.blt c 40 || Nat.beq c 131)) && Y.all (fun q => !(Nat.blt q.1 40 || Nat.beq q.1 131))) = true) : Xs S S' := by
  have h1 := Bool.and_eq_true_iff.mp hX
  intro c hc
  have hb : (Nat.blt c 40 || Nat.beq c 131) = true := by
    rcases hc with hc | hc
    · rw [Nat.blt_eq.mpr hc, Bool.true_or]
    · rw [hc]; rfl
  funext j
  refine h c j (fun hx => ?_) (fun hy => ?_)
  · have := List.all_eq_true.mp h1.1 c hx
    rw [hb] at this
    exact absurd this (by decide)
  · have := List.all_eq_true.mp h1.2 (c, j) hy
    rw [hb] at this
    exact absurd this (by decide)
theorem fr_get {X : List Nat} {Y : List (Nat × Int)} {S S' : St} (h : Fr X Y S S') {A : List Nat} {B : List (Nat × Int)} (hX : (A.all (fun c => !(X.contains c || Y.any (fun q => Nat.beq q.1 c))) && B.all (fun q => !(X.contains q.1 || Y.contains q))) = true) : (∀ c ∈ A, S' c = S c) ∧ ∀ q ∈ B, S' q.1 q.2 = S q.1 q.2 := by
  have h1 := Bool.and_eq_true_iff.mp hX
  refine ⟨fun c hc => h.c c ?_, fun q hq => h.s q.1 q.2 ?_⟩
  · have := List.all_eq_true.mp h1.1 c hc
    simpa using this
  · have := List.all_eq_true.mp h1.2 q hq
    simpa using this
theorem RelB.fr {X : List Nat} {Y : List (Nat × Int)} {R S S' : St} (h : RelB R S) (hF : Fr X Y S S') (hX : ([44, 66, 67, 68, 69, 70, 64, 65, 57, 58, 59, 60, 79, 80, 81, 82, 83, 84, 85, 86, 87, 88, 89, 90, 91, 92, 93, 94].all (fun c => !(X.contains c || Y.any (fun q => Nat.beq q.1 c))) && ([(43, 1), (40, 10), (63, 0), (63, 1), (63, 4), (63, 5), (63, 7)] : List (Nat × Int)).all (fun q => !(X.contains q.1 || Y.contains q))) = true) : RelB R S' := by
  obtain ⟨k, ks⟩ := fr_get hF hX
  obtain ⟨h1, h2, h3, h4, h5, h6⟩ := h
  refine ⟨h1, ?_, ?_, PlR_sm h4 (k _ (by simp)) (k _ (by simp)) (k _ (by simp)) (k _ (by simp)), ?_, ?_⟩
  · unfold tpR
    rw [ks (43, 1) (by simp), k 44 (by simp)]
    exact h2
  · unfold ldX
    rw [ks (63, 0) (by simp), ks (63, 1) (by simp), ks (63, 4) (by simp), ks (63, 5) (by simp), ks (63, 7) (by simp), k 66 (by simp), k 67 (by simp), k 68 (by simp), k 69 (by simp), k 70 (by simp), k 64 (by simp), k 65 (by simp)]
    exact h3
  · unfold bkX bkI
    rw [k 79 (by simp), k 80 (by simp), k 81 (by simp), k 82 (by simp), k 83 (by simp), k 84 (by simp), k 85 (by simp), k 86 (by simp)]
    exact h5
  · unfold kpX bkI
    rw [ks (40, 10) (by simp), k 87 (by simp), k 88 (by simp), k 89 (by simp), k 90 (by simp), k 91 (by simp), k 92 (by simp), k 93 (by simp), k 94 (by simp)]
    exact h6
theorem caX.fr {X : List Nat} {Y : List (Nat × Int)} {R S S' : St} (h : caX R S) (hF : Fr X Y S S') (hX : ([106, 107, 108, 109, 110, 118, 119, 120].all (fun c => !(X.contains c || Y.any (fun q => Nat.beq q.1 c))) && ([(117, 0), (117, 1), (117, 2), (117, 10)] : List (Nat × Int)).all (fun q => !(X.contains q.1 || Y.contains q))) = true) : caX R S' := by
  obtain ⟨k, ks⟩ := fr_get hF hX
  unfold caX svP dI
  rw [k 106 (by simp), k 107 (by simp), k 108 (by simp), k 109 (by simp), k 110 (by simp), k 118 (by simp), k 119 (by simp), k 120 (by simp), ks (117, 0) (by simp), ks (117, 1) (by simp), ks (117, 2) (by simp), ks (117, 10) (by simp)]
  exact h
theorem Rel.fr {X : List Nat} {Y : List (Nat × Int)} {R S S' : St} (h : Rel R S) (hF : Fr X Y S S') (h1 : ([44, 66, 67, 68, 69, 70, 64, 65, 57, 58, 59, 60, 79, 80, 81, 82, 83, 84, 85, 86, 87, 88, 89, 90, 91, 92, 93, 94].all (fun c => !(X.contains c || Y.any (fun q => Nat.beq q.1 c))) && ([(43, 1), (40, 10), (63, 0), (63, 1), (63, 4), (63, 5), (63, 7)] : List (Nat × Int)).all (fun q => !(X.contains q.1 || Y.contains q))) = true) (h2 : ([106, 107, 108, 109, 110, 118, 119, 120].all (fun c => !(X.contains c || Y.any (fun q => Nat.beq q.1 c))) && ([(117, 0), (117, 1), (117, 2), (117, 10)] : List (Nat × Int)).all (fun q => !(X.contains q.1 || Y.contains q))) = true) : Rel R S' := ⟨h.1.fr hF h1, h.2.fr hF h2⟩
/-- the land told, tried as it is -/
theorem RelB.land {R S : St} (h : RelB R S) (hl : ¬ R 0 18 = 0) : ldM R ∧ plM R ∧ mAs (tl R) ∧ lr_l (tl R) S ∧ PlR (tl R) S ∧ ∀ g, 0 ≤ g → g < (tl R) 0 19 → S 80 g = (tl R) 20 g := by
  obtain ⟨h1, h2, h3, h4, h5, h6⟩ := h
  have hl0 := h1.1 hl
  have hp := h1.2.2.1
  obtain ⟨⟨c0, c1⟩, c⟩ := h3
  obtain ⟨⟨c4, c5, c7⟩, cs, cd, cg⟩ := c hl
  have p19 : tl R 0 19 = R 0 19 := tl_0 R (by decide) (by decide)
  have p20 : tl R 0 20 = R 0 20 := tl_0 R (by decide) (by decide)
  have p21 : tl R 0 21 = R 0 21 := tl_0 R (by decide) (by decide)
  have p22 : tl R 0 22 = R 0 22 := tl_0 R (by decide) (by decide)
  have hk := hl0.1
  refine ⟨hl0, hp, tl_mAs hl0 hp, ⟨⟨by rw [p19]; exact c0, by rw [p20]; exact c1, by rw [p21]; exact c4, by rw [p22]; exact c5, c7⟩, fun s s0 s1 => ?_, fun j j0 j1 => ?_, fun g g0 g1 => ?_⟩, h4, fun g g0 g1 => ?_⟩
  · rw [p20] at s1
    have e1 : tl R 17 s = R 10 s := if_pos ⟨s0, s1⟩
    have e2 : tl R 18 s = R 11 s := if_pos ⟨s0, s1⟩
    rw [e1, e2]
    exact cs s s0 s1
  · have e1 : tl R 19 j = R 14 j := if_pos ⟨j0, j1⟩
    rw [e1]
    exact cd j j0 j1
  · rw [p19] at g1
    exact cg g g0 g1
  · rw [p19] at g1
    have e1 : tl R 20 g = (if g < R 0 19 then R 9 g else -1) := if_pos ⟨g0, by omega⟩
    rw [e1, if_pos g1]
    exact h5.1 g g0 (by omega)
theorem relB_gl {A B S : St} (h : RelB A S) : RelB (gl A B) S := h
theorem caX_gl {A B S : St} (h : caX A S) : caX (gl A B) S := h
theorem rel_gl {R S S' : St} (h : Rel R S') (hx : Xs R S) (he : ∀ c, c < 40 → S c = R c) : Rel S S' := by
  have : gl R S = S := gl_of he
  rw [← this]
  exact ⟨relB_gl h.1, caX_gl h.2⟩
