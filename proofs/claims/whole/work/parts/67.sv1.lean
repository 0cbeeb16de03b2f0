/-! the survey: what is seen on a way -/
theorem wm_ex {n : Nat} {br : Int} {l : List Int} (hb : br < 1000000) : ∀ k : Nat, wmF n l k ≤ br ↔ ∃ i, i < k ∧ n ≤ i + 1 ∧ l.getD i 0 - l.getD (i + 1 - n) 0 ≤ br
  | 0 => by
    rw [wmF]
    constructor
    · intro h; omega
    · rintro ⟨i, h, _⟩; omega
  | k + 1 => by
    have ih := wm_ex (n := n) (l := l) hb k
    rw [wmF]
    constructor
    · intro h
      by_cases z : n ≤ k + 1
      · rw [if_pos z] at h
        by_cases y : wmF n l k ≤ br
        · obtain ⟨i, i1, i2, i3⟩ := ih.mp y
          exact ⟨i, by omega, i2, i3⟩
        · exact ⟨k, by omega, z, by omega⟩
      · rw [if_neg z] at h
        obtain ⟨i, i1, i2, i3⟩ := ih.mp h
        exact ⟨i, by omega, i2, i3⟩
    · rintro ⟨i, i1, i2, i3⟩
      by_cases y : i = k
      · subst y
        rw [if_pos i2]; omega
      · have := ih.mpr ⟨i, by omega, i2, i3⟩
        split <;> omega
theorem mo_ex {n : Nat} {br : Int} {l : List Int} : ∀ (d i : Nat), (∀ j, i ≤ j → j < i + d → ¬ l.getD j 0 = 1000000) → (¬ moF n br l i d = 1000000 ↔ ∃ j, (i ≤ j ∧ j < i + d) ∧ l.getD j 0 - l.getD (j + 1 - n) 0 ≤ br)
  | 0, i, _ => by
    rw [moF]
    constructor
    · intro h; exact absurd rfl h
    · rintro ⟨j, h, _⟩; omega
  | d + 1, i, h => by
    have ih := mo_ex (n := n) (br := br) (l := l) d (i + 1) (fun j j0 j1 => h j (by omega) (by omega))
    have hi := h i (Nat.le_refl _) (by omega)
    rw [moF]
    by_cases z : l.getD i 0 - l.getD (i + 1 - n) 0 ≤ br
    · rw [if_pos ⟨hi, z⟩]
      exact ⟨fun _ => ⟨i, ⟨Nat.le_refl _, by omega⟩, z⟩, fun _ => hi⟩
    · rw [if_neg (fun y => z y.2), ih]
      constructor
      · rintro ⟨j, j1, j2⟩; exact ⟨j, by omega, j2⟩
      · rintro ⟨j, j1, j2⟩
        by_cases y : j = i
        · subst y; exact absurd j2 z
        · exact ⟨j, by omega, j2⟩
/-- it opens just where there is a part at which it does -/
theorem op_og {T : St} (hT : mAs T) {f : Int → Int} (hf : ofOk (T 0 20) f) : opM T f = true ↔ ¬ ogM T f = 1000000 := by
  have hk4 := hT.1.2.1
  have hnd := hT.2.1
  have htb : ∀ j : Int, 0 ≤ j → j < ((T 0 19).toNat : Int) → tnM T (smM T f) j ≤ 1000000 := fun j j0 j1 => by
    have := tnM_b hT.1 hf j0 (by omega)
    omega
  have e1 : apM T f = _ := ap_row (by omega) htb
  have e2 : ogM T f = _ := og_row (breath := T 0 22) (need := T 0 21) (by omega) htb
  have hm : ∀ x ∈ gaF (tnM T (smM T f)) (fun _ => true) (T 0 19).toNat, ¬ x = 1000000 := fun x hx => by
    obtain ⟨j, j1, _, j3, j4⟩ := (gaF_mem _ x).mp hx
    omega
  unfold opM
  rw [decide_eq_true_iff, e1, e2]
  generalize gaF (tnM T (smM T f)) (fun _ => true) (T 0 19).toNat = l at hm
  have hg : ∀ j, j < l.length → ¬ l.getD j 0 = 1000000 := fun j hj => hm _ (by
    rw [List.getD_eq_getElem?_getD, List.getElem?_eq_getElem hj]
    exact List.getElem_mem hj)
  rw [wm_ex (by omega), mo_ex _ _ (fun j j0 j1 => hg j (by omega))]
  constructor
  · rintro ⟨i, i1, i2, i3⟩; exact ⟨i, by omega, i3⟩
  · rintro ⟨j, j1, j2⟩; exact ⟨j, by omega, by omega, j2⟩
theorem nd_og {T S : St} (hT : mOk T) (hP : PlR T S) {a y : Nat} (hy : ndI T S a y) {f : Int → Int} (hf : bd3 f) : ogM T f = ogM T (prN (nb y) f) := by
  have hk4 := hT.2.1
  unfold ogM
  exact ogF_congr (fun j j0 j1 => nd_tn hT hP hy hf (by omega))
theorem nd_fs {T S : St} (hT : mOk T) (hP : PlR T S) {a y : Nat} (hy : ndI T S a y) {f : Int → Int} (hf : bd3 f) : fsM T f = fsM T (prN (nb y) f) := by
  have hk4 := hT.2.1
  unfold fsM
  exact ftF_congr _ (fun j j0 j1 => nd_tn hT hP hy hf (by omega))
theorem t_svClear (S : St) (Q : Option AV → St → Prop) (hQ : ∀ S', Fr [107, 108, 109, 110] [(106, 2), (106, 7), (106, 8), (106, 9), (106, 10), (106, 11), (106, 12)] S S' → (S' 106 2 = 0 ∧ S' 106 7 = 1000000 ∧ S' 106 8 = 0 ∧ S' 106 9 = 0 ∧ S' 106 10 = 1000000 ∧ S' 106 11 = -1000000 ∧ S' 106 12 = 0) → (∀ g, 0 ≤ g → g < 4 → S' 107 g = 1000000 ∧ S' 108 g = 1000000 ∧ S' 109 g = 0 ∧ S' 110 g = 0) → Q none S') : Smm H_Survey_clear 0 [some (.inr (.inr 106)), none] [] S Q := by
  have loop : ∀ (i : Int) (T : St), ((0 ≤ i ∧ i ≤ 4) ∧ Fr [107, 108, 109, 110] [(106, 2)] S T ∧ T 106 2 = 0 ∧ ∀ g, 0 ≤ g → g < i → T 107 g = 1000000 ∧ T 108 g = 1000000 ∧ T 109 g = 0 ∧ T 110 g = 0) → Smm H_Survey_clear 7 [some (.inr (.inr 106)), some (.inl i)] [] T Q := by
    refine lp_up (P := fun i T => Smm H_Survey_clear 7 [some (.inr (.inr 106)), some (.inl i)] [] T Q) _ 4 ?_ ?_
    · rintro i T hi ⟨hi2, hF, h0, h1⟩
      refine sound ok_Survey_clear [7] 60 ?_
      refine ⟨fun _ => ?_, fun z => absurd z (by omega)⟩
      refine ⟨Or.inl rfl, ?_⟩
      refine hQ _ ((((((((hF.mo rfl rfl).up _ _ _ rfl).up _ _ _ rfl).up _ _ _ rfl).up _ _ _ rfl).up _ _ _ rfl)).up _ _ _ rfl) ⟨?_, ?_, ?_, ?_, ?_, ?_, ?_⟩ (fun g g0 g1 => ?_)
      · simp [upr, h0]
      · simp [upr]
      · simp [upr]
      · simp [upr]
      · simp [upr]
      · simp [upr]
      · simp [upr]
      · have := h1 g g0 (by omega)
        simp [upr, this]
    · rintro i T hi ⟨hi2, hF, h0, h1⟩ ih
      have bi : 0 ≤ i ∧ i < 4 := by omega
      have hk : 0 ≤ i + 1 ∧ i + 1 ≤ 4 := by omega
      have e : i + 1 = i32 (i + 1) := (i32_id (by omega) (by omega)).symm
      refine sound ok_Survey_clear [7] 60 ?_
      refine ⟨fun z => absurd z (Int.not_le.mpr hi), fun _ => ?_⟩
      refine ⟨bi, ?_⟩
      refine ⟨bi, ?_⟩
      refine ⟨bi, ?_⟩
      refine ⟨bi, ?_⟩
      refine Smm.sub (ih _ ⟨hk, (((hF.up _ _ _ rfl).up _ _ _ rfl).up _ _ _ rfl).up _ _ _ rfl, by simp [upr, h0], fun g g0 g1 => ?_⟩) ⟨Or.inr rfl, Or.inr (sI e), trivial⟩
      by_cases z : g = i
      · subst z; simp [upr]
      · have := h1 g g0 (by clear e; omega)
        simp [upr, z, this]
  refine sound ok_Survey_clear [7] 20 ?_
  exact loop 0 (up S 106 2 0) ⟨by omega, (Fr.rf _ _ _).up _ _ _ rfl, up_s _ _ _ _, fun g g0 g1 => absurd g1 (by omega)⟩
theorem t_seeSpread (S : St) (d : Int) (Q : Option AV → St → Prop) (h1 : 1000000 ≤ d → Q none (up S 106 9 1)) (h0 : d < 1000000 → Q none (up (up S 106 7 (min (S 106 7) d)) 106 8 (max (S 106 8) d))) : Smm H_Survey_seeSpread 0 [some (.inr (.inr 106)), some (.inl d)] [] S Q := by
  refine sound ok_Survey_seeSpread [] 40 ?_
  refine ⟨fun g => ?_, fun g => ?_⟩
  · exact h0 g
  · exact ⟨Or.inr rfl, h1 g⟩
theorem t_seeMoment (S : St) (v w : Int) (Q : Option AV → St → Prop) (hQ : Q none (up (up (up (up S 106 2 (i32 (S 106 2 + w))) 106 10 (min (S 106 10) v)) 106 11 (max (S 106 11) v)) 106 12 (i32 (S 106 12 + i32 (v * w))))) : Smm H_Survey_seeMoment 0 [some (.inr (.inr 106)), some (.inl v), some (.inl w)] [] S Q := by
  refine sound ok_Survey_seeMoment [] 60 ?_
  exact hQ
