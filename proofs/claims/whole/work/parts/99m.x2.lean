/-! the class: ways, odds, when, near, enough, gain, moment -/
theorem wy_of {T : St} (hT : mAs T) {f : Int → Int} (hf : f ∈ wyM T) : ofOk (T 0 20) f := bd_of (T := T) (wy_bd (er_b hT) hf)
theorem ap_ge {T : St} (hT : mAs T) {f : Int → Int} (hf : ofOk (T 0 20) f) : 0 ≤ apM T f := by
  have hk := hT.1.2.1
  have hn := hT.2.1
  unfold apM
  rw [ap_row (by omega) (fun j j0 j1 => by have := tnM_b hT.1 hf (g := j) j0 (by omega); omega)]
  by_cases z : wmF (T 0 21).toNat (gaF (tnM T (smM T f)) (fun _ => true) (T 0 19).toNat) (gaF (tnM T (smM T f)) (fun _ => true) (T 0 19).toNat).length ≤ -1
  · obtain ⟨i, i1, i2, i3⟩ := (wm_ex (by decide) _).mp z
    have := srtd_at _ (gaF_srtd (tnM T (smM T f)) (fun _ => true) (T 0 19).toNat) (i + 1 - (T 0 21).toNat) i (by omega) i1
    omega
  · omega
theorem mx_eq {p p' : (Int → Int) → Bool} {v : (Int → Int) → Int} {d d' : Int} {l : List (Int → Int)} (h : ∀ x, (d ≤ x ∧ ∀ f ∈ l, p f = true → v f ≤ x) ↔ (d' ≤ x ∧ ∀ f ∈ l, p' f = true → v f ≤ x)) : mxL p v d l = mxL p' v d' l := by
  have h1 := (mxL_le p v l d (mxL p' v d' l)).mpr ((h _).mpr ((mxL_le p' v l d' _).mp (Int.le_refl _)))
  have h2 := (mxL_le p' v l d' (mxL p v d l)).mpr ((h _).mp ((mxL_le p v l d _).mp (Int.le_refl _)))
  omega
/-- with some that is no less, it is the same from where one begins -/
theorem mx_from {p : (Int → Int) → Bool} {v : (Int → Int) → Int} {d d' : Int} {l : List (Int → Int)} {f : Int → Int} (hf : f ∈ l) (hp : p f = true) (h1 : d ≤ v f) (h2 : d' ≤ v f) : mxL p v d l = mxL p v d' l := by
  refine mx_eq (fun x => ⟨fun h => ⟨?_, h.2⟩, fun h => ⟨?_, h.2⟩⟩)
  · have := h.2 f hf hp
    omega
  · have := h.2 f hf hp
    omega
theorem mx_d {p : (Int → Int) → Bool} {v : (Int → Int) → Int} {d : Int} {l : List (Int → Int)} : d ≤ mxL p v d l := ((mxL_le p v l d _).mp (Int.le_refl _)).1
/-- some is finite, if the least is -/
theorem mn_some {v : (Int → Int) → Int} {l : List (Int → Int)} (h : mnL v 1000000 l < 1000000) : ∃ f ∈ l, v f < 1000000 := by
  by_cases z : ∃ f ∈ l, v f < 1000000
  · exact z
  · exfalso
    have := (mnL_le v l 1000000 1000000).mpr ⟨Int.le_refl _, fun f hf => by
      by_cases y : v f < 1000000
      · exact absurd ⟨f, hf, y⟩ z
      · omega⟩
    omega
theorem t_X_ways (R S : St) (what : Int) (Q : Option AV → St → Prop) (h : Rel R S) (hQ : ∀ S', Xs S S' → Rel R S' → Q (some (.inl (aM_ways R what))) S') : Smm H_X_ways 0 [some (.inr (.inr 40)), some (.inl what)] [] S Q := by
  have no : (R 0 18 = 0 ∨ ¬ (0 ≤ what ∧ what ≤ 1)) → Q (some (.inl (-1))) S := fun hz => by
    have := hQ S (Xs.rf S) h
    unfold aM_ways at this
    rwa [if_pos hz] at this
  refine sound ok_X_ways [] 60 ?_
  refine t_told R S _ h.1 (fun h1 => ⟨fun z => absurd z (by decide), fun _ => ?_⟩) (fun h1 => ⟨fun _ => no (Or.inl h1), fun z => absurd rfl z⟩)
  refine t_within S what 1 _ (fun h2 => ⟨fun _ => ?_, fun z => absurd z (by decide)⟩) (fun h2 => ⟨fun z => absurd rfl z, fun _ => no (Or.inr h2)⟩)
  have hn : ¬ (R 0 18 = 0 ∨ ¬ (0 ≤ what ∧ what ≤ 1)) := fun z => z.elim h1 (fun z => z h2)
  unfold aM_ways at hQ
  rw [if_neg hn] at hQ
  obtain ⟨hl0, hp, hT, hR, hP, hpo⟩ := h.1.land h1
  refine ⟨fun z => ?_, fun z => ?_⟩
  · rw [if_pos (by omega)] at hQ
    refine t_allWays_l (tl R) S _ hT hR ?_
    exact hQ S (Xs.rf S) h
  · rw [if_neg (by omega)] at hQ
    refine t_surveyed R S _ h h1 (fun S' hx hr hs => ?_)
    have e : S' 106 2 = cntM (tl R) := by rw [hs.1.1, Int.one_mul]; rfl
    have := hQ S' hx hr
    rw [← e] at this
    exact this
theorem t_X_odds (R S : St) (part : Int) (Q : Option AV → St → Prop) (h : Rel R S) (hQ : ∀ S', Xs S S' → Rel R S' → Q (some (.inl (aM_odds R part))) S') : Smm H_X_odds 0 [some (.inr (.inr 40)), some (.inl part)] [] S Q := by
  have no : (R 0 18 = 0 ∨ ¬ (0 ≤ part ∧ part ≤ 1)) → Q (some (.inl (-1))) S := fun hz => by
    have := hQ S (Xs.rf S) h
    unfold aM_odds at this
    rwa [if_pos hz] at this
  refine sound ok_X_odds [] 60 ?_
  refine t_told R S _ h.1 (fun h1 => ⟨fun z => absurd z (by decide), fun _ => ?_⟩) (fun h1 => ⟨fun _ => no (Or.inl h1), fun z => absurd rfl z⟩)
  refine t_within S part 1 _ (fun h2 => ⟨fun _ => ?_, fun z => absurd z (by decide)⟩) (fun h2 => ⟨fun z => absurd rfl z, fun _ => no (Or.inr h2)⟩)
  have hn : ¬ (R 0 18 = 0 ∨ ¬ (0 ≤ part ∧ part ≤ 1)) := fun z => z.elim h1 (fun z => z h2)
  unfold aM_odds at hQ
  rw [if_neg hn] at hQ
  refine t_surveyed R S _ h h1 (fun S' hx hr hs => ?_)
  obtain ⟨hl0, hp, hT, hR, hP, hpo⟩ := hr.1.land h1
  have e : S' 106 2 = cntM (tl R) := by rw [hs.1.1, Int.one_mul]; rfl
  have hb := cntM_b hT
  refine t_allWays_l (tl R) S' _ hT hR ?_
  have go := fun Q' hq' => t_fraction S' (cntM (tl R)) (lenM (tl R)) part Q' (by omega) (by omega) hq'
  rw [← e] at go
  refine go _ ?_
  rw [e]
  exact hQ S' hx hr
theorem t_X_when (R S : St) (g what : Int) (Q : Option AV → St → Prop) (h : Rel R S) (hQ : ∀ S', Xs S S' → Rel R S' → Q (some (.inl (aM_when R g what))) S') : Smm H_X_when 0 [some (.inr (.inr 40)), some (.inl g), some (.inl what), none] [] S Q := by
  have no : (¬ (¬ R 0 18 = 0 ∧ 0 ≤ g ∧ g < R 0 19) ∨ ¬ (0 ≤ what ∧ what ≤ 2)) → Q (some (.inl (-1000000))) S := fun hz => by
    have := hQ S (Xs.rf S) h
    unfold aM_when at this
    rwa [if_pos hz] at this
  refine sound ok_X_when [] 80 ?_
  refine t_xGuard R S g _ h.1 (fun h1 => ⟨fun z => absurd z (by decide), fun _ => ?_⟩) (fun h1 => ⟨fun _ => no (Or.inl h1), fun z => absurd rfl z⟩)
  refine t_within S what 2 _ (fun h2 => ⟨fun _ => ?_, fun z => absurd z (by decide)⟩) (fun h2 => ⟨fun z => absurd rfl z, fun _ => no (Or.inr h2)⟩)
  have hn : ¬ (¬ (¬ R 0 18 = 0 ∧ 0 ≤ g ∧ g < R 0 19) ∨ ¬ (0 ≤ what ∧ what ≤ 2)) := fun z => z.elim (fun z => z h1) (fun z => z h2)
  unfold aM_when at hQ
  rw [if_neg hn, wn_fold] at hQ
  dsimp only at hQ
  refine t_surveyed R S _ h h1.1 (fun S' hx hr hs => ?_)
  obtain ⟨hl0, hp, hT, hR, hP, hpo⟩ := hr.1.land h1.1
  have hk := hl0.1
  have p19 : tl R 0 19 = R 0 19 := tl_0 R (by decide) (by decide)
  obtain ⟨s1, s2, s3, s4⟩ := hs.2 g h1.2.1 (by rw [p19]; exact h1.2.2)
  have hg4 : 0 ≤ g ∧ g < 4 := by omega
  have hq := hQ S' hx hr
  have hmd := mnL_d (tnV (tl R) g) 1000000 (wyM (tl R))
  have tb : ∀ f ∈ wyM (tl R), tnV (tl R) g f = 1000000 ∨ (-1000 ≤ tnV (tl R) g f ∧ tnV (tl R) g f ≤ 1000) := fun f hf => tnM_b hT.1 (wy_of hT hf) hg4.1 hg4.2
  refine ⟨fun w2 => ?_, fun w2 => ?_⟩
  · refine ⟨fun w0 => ?_, fun w0 => ?_⟩
    · refine ⟨hg4, ?_⟩
      refine t_orHidden S' _ _ ?_
      rw [if_neg w0, if_pos (by omega)] at hq
      rw [s2]
      by_cases z : mnL (tnV (tl R) g) 1000000 (wyM (tl R)) = 1000000
      · rw [if_pos z, if_pos (Int.le_refl _)]
        have h1' := mx_none (v := tnV (tl R) g) (l := wyM (tl R)) (fun f hf => by have := tb f hf; omega) z (-1000000)
        have h2' := mx_d (p := fnB (tnV (tl R) g)) (v := tnV (tl R) g) (d := -1000000) (l := wyM (tl R))
        rw [show mxL (fnB (tnV (tl R) g)) (tnV (tl R) g) (-1000000) (wyM (tl R)) = -1000000 by omega] at hq
        exact hq
      · rw [if_neg z]
        have h3 := (mxL_le (fnB (tnV (tl R) g)) (tnV (tl R) g) (wyM (tl R)) (-1000000) 1000).mpr ⟨by decide, fun f hf hp => by
          have := tb f hf
          unfold fnB at hp
          have := of_decide_eq_true hp
          omega⟩
        rw [if_neg (by omega)]
        exact hq
    · refine ⟨hg4, ?_⟩
      refine t_orHidden S' _ _ ?_
      rw [if_pos w0] at hq
      rw [s1]
      by_cases z : mnL (tnV (tl R) g) 1000000 (wyM (tl R)) = 1000000
      · rw [if_pos z] at hq
        rw [if_pos (by omega)]
        exact hq
      · rw [if_neg z] at hq
        rw [if_neg (by omega)]
        exact hq
  · refine ⟨hg4, ?_⟩
    rw [if_neg (by omega), if_neg (by omega), Int.zero_add] at hq
    rw [Int.one_mul] at s3
    rw [← s3] at hq
    exact hq
theorem t_X_near (R S : St) (what : Int) (Q : Option AV → St → Prop) (h : Rel R S) (hQ : ∀ S', Xs S S' → Rel R S' → Q (some (.inl (aM_near R what))) S') : Smm H_X_near 0 [some (.inr (.inr 40)), some (.inl what), none] [] S Q := by
  have no : (R 0 18 = 0 ∨ ¬ (0 ≤ what ∧ what ≤ 1)) → Q (some (.inl (-1))) S := fun hz => by
    have := hQ S (Xs.rf S) h
    unfold aM_near at this
    rwa [if_pos hz] at this
  refine sound ok_X_near [] 60 ?_
  refine t_told R S _ h.1 (fun h1 => ⟨fun z => absurd z (by decide), fun _ => ?_⟩) (fun h1 => ⟨fun _ => no (Or.inl h1), fun z => absurd rfl z⟩)
  refine t_within S what 1 _ (fun h2 => ⟨fun _ => ?_, fun z => absurd z (by decide)⟩) (fun h2 => ⟨fun z => absurd rfl z, fun _ => no (Or.inr h2)⟩)
  have hn : ¬ (R 0 18 = 0 ∨ ¬ (0 ≤ what ∧ what ≤ 1)) := fun z => z.elim h1 (fun z => z h2)
  unfold aM_near at hQ
  rw [if_neg hn, nr_fold] at hQ
  dsimp only at hQ
  refine t_surveyed R S _ h h1 (fun S' hx hr hs => ?_)
  obtain ⟨hl0, hp, hT, hR, hP, hpo⟩ := hr.1.land h1
  obtain ⟨⟨s2, s7, s8, s9, s10, s11, s12⟩, _⟩ := hs
  have hq := hQ S' hx hr
  have hmd := mnL_d (apM (tl R)) 1000000 (wyM (tl R))
  have hal := fun f (_ : f ∈ wyM (tl R)) => ap_le (tl R) f
  refine ⟨fun z => ?_, fun z => ?_⟩
  · rw [s7] at z
    obtain ⟨f, hf, hff⟩ := mn_some z
    have hge := ap_ge hT (wy_of hT hf)
    have hpf : fnB (apM (tl R)) f = true := decide_eq_true (by omega)
    have em := mx_from (d := -1) (d' := 0) hf hpf (by omega) hge
    refine ⟨fun w => ?_, fun w => ?_⟩
    · rw [if_pos (by omega), em, ← s8] at hq
      exact hq
    · rw [if_neg (by omega), if_neg (by omega), ← s7] at hq
      exact hq
  · rw [s7] at z
    have hm : mnL (apM (tl R)) 1000000 (wyM (tl R)) = 1000000 := by omega
    have h1' := mx_none hal hm (-1)
    have h2' := mx_d (p := fnB (apM (tl R))) (v := apM (tl R)) (d := -1) (l := wyM (tl R))
    rw [if_pos hm, show mxL (fnB (apM (tl R))) (apM (tl R)) (-1) (wyM (tl R)) = -1 by omega] at hq
    split at hq <;> exact hq
theorem t_X_enough (R S : St) (Q : Option AV → St → Prop) (h : Rel R S) (hQ : ∀ S', Xs S S' → Rel R S' → Q (some (.inl (aM_enough R))) S') : Smm H_X_enough 0 [some (.inr (.inr 40)), none] [] S Q := by
  have no : R 0 18 = 0 → Q (some (.inl (-1))) S := fun hz => by
    have := hQ S (Xs.rf S) h
    unfold aM_enough at this
    rwa [if_pos hz] at this
  refine sound ok_X_enough [] 60 ?_
  refine t_told R S _ h.1 (fun h1 => ⟨fun _ => ?_, fun z => absurd z (by decide)⟩) (fun h1 => ⟨fun z => absurd rfl z, fun _ => no h1⟩)
  unfold aM_enough at hQ
  rw [if_neg h1, en_fold] at hQ
  refine t_surveyed R S _ h h1 (fun S' hx hr hs => ?_)
  obtain ⟨hl0, hp, hT, hR, hP, hpo⟩ := hr.1.land h1
  obtain ⟨⟨s2, s7, s8, s9, s10, s11, s12⟩, _⟩ := hs
  have hq := hQ S' hx hr
  have bad : (99 < mxL (fun _ => true) (apM (tl R)) 0 (wyM (tl R))) → Q (some (.inl (-1))) S' := fun z => by
    rw [if_pos z] at hq
    exact hq
  refine ⟨fun z => ?_, fun z => ?_⟩
  · rw [s9] at z
    have ha : (wyM (tl R)).any (fun f => !(fnB (apM (tl R)) f)) = true := by
      by_cases y : (wyM (tl R)).any (fun f => !(fnB (apM (tl R)) f)) = true
      · exact y
      · unfold inB at z
        rw [if_neg y] at z
        exact absurd rfl z
    obtain ⟨f, hf, hff⟩ := List.any_eq_true.mp ha
    have hv : apM (tl R) f = 1000000 := by
      unfold fnB at hff
      by_cases y : apM (tl R) f = 1000000
      · exact y
      · rw [decide_eq_true y] at hff
        exact absurd hff (by decide)
    refine bad ?_
    have := ((mxL_le (fun _ => true) (apM (tl R)) (wyM (tl R)) 0 _).mp (Int.le_refl _)).2 f hf rfl
    omega
  · rw [s9] at z
    have ha : ∀ f ∈ wyM (tl R), fnB (apM (tl R)) f = true := fun f hf => by
      by_cases y : fnB (apM (tl R)) f = true
      · exact y
      · exfalso
        have : (wyM (tl R)).any (fun f => !(fnB (apM (tl R)) f)) = true := List.any_eq_true.mpr ⟨f, hf, by simpa using y⟩
        unfold inB at z
        rw [if_pos this] at z
        exact absurd z (by decide)
    have em : mxL (fun _ => true) (apM (tl R)) 0 (wyM (tl R)) = mxL (fnB (apM (tl R))) (apM (tl R)) 0 (wyM (tl R)) := mx_eq (fun x => ⟨fun q => ⟨q.1, fun f hf _ => q.2 f hf rfl⟩, fun q => ⟨q.1, fun f hf _ => q.2 f hf (ha f hf)⟩⟩)
    rw [em, ← s8] at hq bad
    refine ⟨fun y => ?_, fun y => bad y⟩
    rw [if_neg (by omega)] at hq
    exact hq
theorem gn_sum (T : St) (g : Int) : ∀ l : List (Int → Int), smL (gnV T g) l = T 7 g * ((l.countP (opM T) : Nat) : Int) + T 8 g * smL (fun f => inB (!(opM T f) && decide (fsM T f = g))) l
  | [] => by rw [smL, smL, List.countP_nil]; simp
  | f :: l => by
    rw [smL, smL, List.countP_cons, gn_sum T g l]
    unfold gnV inB
    by_cases z : opM T f = true
    · rw [if_pos z, if_pos z, if_neg (by rw [z, Bool.not_true, Bool.false_and]; decide)]
      push_cast
      rw [Int.mul_add, Int.mul_one, Int.zero_add]
      omega
    · have zf : opM T f = false := by simpa using z
      rw [if_neg z, if_neg z]
      by_cases y : fsM T f = g
      · rw [if_pos y, if_pos (by rw [zf]; simp [y]), Int.mul_add, Int.mul_one, Nat.add_zero]
        omega
      · rw [if_neg y, if_neg (by rw [zf]; simp [y]), Int.zero_add, Int.zero_add]
        rfl
theorem ga32 {p t a b : Int} (hp : 0 ≤ p ∧ p ≤ 99) (ht : 0 ≤ t ∧ t ≤ 99) (ha : 0 ≤ a ∧ a ≤ 16807) (hb : 0 ≤ b ∧ b ≤ 16807) : i32 (i32 (p * a) + i32 (t * b)) = p * a + t * b ∧ 0 ≤ p * a + t * b := by
  have h1 : 0 ≤ p * a := Int.mul_nonneg hp.1 ha.1
  have h2 : p * a ≤ 99 * 16807 := Int.mul_le_mul hp.2 ha.2 ha.1 (by decide)
  have h3 : 0 ≤ t * b := Int.mul_nonneg ht.1 hb.1
  have h4 : t * b ≤ 99 * 16807 := Int.mul_le_mul ht.2 hb.2 hb.1 (by decide)
  rw [i32_id (v := p * a) (by omega) (by omega), i32_id (v := t * b) (by omega) (by omega)]
  exact ⟨i32_id (by omega) (by omega), by omega⟩
theorem t_X_gain (R S : St) (g : Int) (Q : Option AV → St → Prop) (h : Rel R S) (hQ : ∀ S', Xs S S' → Rel R S' → Q (some (.inl (aM_gain R g))) S') : Smm H_X_gain 0 [some (.inr (.inr 40)), some (.inl g), none] [] S Q := by
  have no : ¬ (¬ R 0 18 = 0 ∧ 0 ≤ g ∧ g < R 0 19) → Q (some (.inl (-1))) S := fun hz => by
    have := hQ S (Xs.rf S) h
    unfold aM_gain at this
    rwa [if_pos hz] at this
  refine sound ok_X_gain [] 60 ?_
  refine t_xGuard R S g _ h.1 (fun h1 => ⟨fun _ => ?_, fun z => absurd z (by decide)⟩) (fun h1 => ⟨fun z => absurd rfl z, fun _ => no h1⟩)
  unfold aM_gain at hQ
  rw [if_neg (fun z => z h1), gn_fold, Int.zero_add, gn_sum] at hQ
  refine t_surveyed R S _ h h1.1 (fun S' hx hr hs => ?_)
  obtain ⟨hl0, hp, hT, hR, hP, hpo⟩ := hr.1.land h1.1
  have hk := hl0.1
  have p19 : tl R 0 19 = R 0 19 := tl_0 R (by decide) (by decide)
  obtain ⟨s1, s2, s3, s4⟩ := hs.2 g h1.2.1 (by rw [p19]; exact h1.2.2)
  have hg4 : 0 ≤ g ∧ g < 4 := by omega
  have hw : S' 106 2 = (((wyM (tl R)).countP (opM (tl R)) : Nat) : Int) := by rw [hs.1.1, Int.one_mul]
  rw [Int.one_mul] at s4
  have hq := hQ S' hx hr
  have hlen := wyM_len hT
  have b1 : 0 ≤ S' 106 2 ∧ S' 106 2 ≤ 16807 := by
    have := cntM_b hT
    have e : S' 106 2 = cntM (tl R) := hw
    omega
  have b2 : 0 ≤ S' 110 g ∧ S' 110 g ≤ 16807 := by
    have := smL_b (g := fun f => inB (!(opM (tl R) f) && decide (fsM (tl R) f = g))) (c := 1) (fun f => inB_b _) (wyM (tl R))
    rw [s4]
    omega
  have hpt := hl0.2.2.2.2.2.2 g h1.2.1 h1.2.2
  obtain ⟨cp, ct⟩ := (hr.1.2.2.1.2 h1.1).2.2.2 g h1.2.1 h1.2.2
  have hp1 : tl R 7 g = R 7 g := rfl
  have ht1 : tl R 8 g = R 8 g := rfl
  refine ⟨hg4, ?_⟩
  refine t_gainOf S' g _ _ _ hg4 ?_
  rw [cp, ct, (ga32 (by omega) (by omega) b1 b2).1]
  rw [← hw, ← s4, hp1, ht1] at hq
  exact hq
set_option maxHeartbeats 1000000 in
theorem t_X_moment (R S : St) (what : Int) (Q : Option AV → St → Prop) (h : Rel R S) (hQ : ∀ S', Xs S S' → Rel R S' → Q (some (.inl (aM_moment R what))) S') : Smm H_X_moment 0 [some (.inr (.inr 40)), some (.inl what)] [] S Q := by
  have no : (R 0 18 = 0 ∨ ¬ (0 ≤ what ∧ what ≤ 2)) → Q (some (.inl (-1000000))) S := fun hz => by
    have := hQ S (Xs.rf S) h
    unfold aM_moment at this
    rwa [if_pos hz] at this
  refine sound ok_X_moment [] 80 ?_
  refine t_told R S _ h.1 (fun h1 => ⟨fun z => absurd z (by decide), fun _ => ?_⟩) (fun h1 => ⟨fun _ => no (Or.inl h1), fun z => absurd rfl z⟩)
  refine t_within S what 2 _ (fun h2 => ⟨fun z => absurd z (by decide), fun _ => ?_⟩) (fun h2 => ⟨fun _ => no (Or.inr h2), fun z => absurd rfl z⟩)
  have hn : ¬ (R 0 18 = 0 ∨ ¬ (0 ≤ what ∧ what ≤ 2)) := fun z => z.elim h1 (fun z => z h2)
  refine t_surveyed R S _ h h1 (fun S' hx hr hs => ?_)
  obtain ⟨hl0, hp, hT, hR, hP, hpo⟩ := hr.1.land h1
  obtain ⟨⟨s2, s7, s8, s9, s10, s11, s12⟩, _⟩ := hs
  have hlen := wyM_len hT
  have ogb : ∀ f ∈ wyM (tl R), ogM (tl R) f = 1000000 ∨ (-1000 ≤ ogM (tl R) f ∧ ogM (tl R) f ≤ 1000) := fun f hf => og_b hT (wy_of hT hf)
  have hq := hQ S' hx hr
  unfold aM_moment at hq
  rw [if_neg hn, ms_fold (tl R) (wyM (tl R)) (1000000, -1000000, 0) (fun f hf => by have := ogb f hf; omega) (by dsimp only; omega) (by dsimp only; omega)] at hq
  dsimp only at hq
  rw [Int.zero_add] at hq
  rw [Int.one_mul] at s2 s12
  have hmd := mnL_d (ogM (tl R)) 1000000 (wyM (tl R))
  have hiff : S' 106 2 = 0 ↔ mnL (ogM (tl R)) 1000000 (wyM (tl R)) = 1000000 := by
    rw [s2]
    constructor
    · intro z
      have hz : (wyM (tl R)).countP (opM (tl R)) = 0 := by omega
      rw [List.countP_eq_zero] at hz
      have := (mnL_le (ogM (tl R)) (wyM (tl R)) 1000000 1000000).mpr ⟨Int.le_refl _, fun f hf => by
        have h3 := hz f hf
        have h4 := op_og hT (wy_of hT hf)
        by_cases y : ogM (tl R) f = 1000000
        · omega
        · exact absurd (h4.mpr y) h3⟩
      omega
    · intro z
      have hz : (wyM (tl R)).countP (opM (tl R)) = 0 := by
        rw [List.countP_eq_zero]
        intro f hf hop
        have h4 := (op_og hT (wy_of hT hf)).mp hop
        have h5 := ((mnL_le (ogM (tl R)) (wyM (tl R)) 1000000 1000000).mp (by omega)).2 f hf
        have h6 := ogb f hf
        omega
      rw [hz]
      rfl
  refine ⟨fun z => ?_, fun z => ?_⟩
  · rw [if_neg (fun q => z (hiff.mpr q))] at hq
    refine ⟨fun w => ?_, fun w => ⟨fun w1 => ?_, fun w1 => ?_⟩⟩
    · rw [if_pos w, ← s10] at hq
      exact hq
    · rw [if_neg w, if_pos w1, ← s11] at hq
      exact hq
    · rw [if_neg w, if_neg w1, ← s12] at hq
      exact hq
  · rw [if_pos (hiff.mp z)] at hq
    exact hq
