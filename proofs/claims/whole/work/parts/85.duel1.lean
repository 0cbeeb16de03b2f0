/-! two keys more: spans, who is first -/
theorem opP_congr {n : Nat} {b : Int} {l l' : List Int} (h : ∀ q : Int → Bool, l.countP q = l'.countP q) (t : Int) : opP n b l t ↔ opP n b l' t := by
  unfold opP
  exact exists_congr (fun x => by rw [h])
/-- the row of the others with the one's turn put into it -/
def rwP (l : List Int) (v : Int) : List Int := if v < 1000000 then ins v l else l
theorem gaF_two {q : Int → Bool} {t : Int → Int} {one other u : Int} (hne : ¬ one = other) : ∀ k : Nat, (gaF (uf t one u) (fun j => decide (¬ j = other)) k).countP q = (gaF t (fun j => decide (¬ j = one ∧ ¬ j = other)) k).countP q + (if (0 ≤ one ∧ one < k) ∧ u < 1000000 ∧ q u = true then 1 else 0)
  | 0 => by
    rw [if_neg (by omega)]
    rfl
  | k + 1 => by
    rw [gaF_cn, gaF_cn, gaF_two hne k]
    by_cases z : (k : Int) = one
    · have h1 : ¬ (0 ≤ one ∧ one < (k : Int)) := by omega
      have h2 : 0 ≤ one ∧ one < ((k + 1 : Nat) : Int) := by omega
      have h3 : decide (¬ (k : Int) = one ∧ ¬ (k : Int) = other) = false := decide_eq_false (fun h => h.1 z)
      have h4 : decide (¬ (k : Int) = other) = true := decide_eq_true (by omega)
      have h5 : uf t one u k = u := by rw [z, uf_s]
      rw [h3, h4, h5]
      simp only [h1, h2, false_and, true_and, and_self, Bool.false_eq_true, if_false, Nat.add_zero]
      rw [if_neg (show ¬ (one < (k : Int) ∧ u < 1000000 ∧ q u = true) from fun h => absurd h.1 (by omega)), Nat.add_zero]
    · have h5 : uf t one u k = t k := uf_n _ _ z
      have h6 : (¬ (k : Int) = one ∧ ¬ (k : Int) = other) ↔ ¬ (k : Int) = other := by omega
      have h7 : (0 ≤ one ∧ one < (k : Int)) ↔ (0 ≤ one ∧ one < ((k + 1 : Nat) : Int)) := by omega
      rw [h5]
      simp only [h6, h7]
      omega
theorem rwP_cn (q : Int → Bool) (l : List Int) (v : Int) : (rwP l v).countP q = l.countP q + (if v < 1000000 ∧ q v = true then 1 else 0) := by
  unfold rwP
  by_cases z : v < 1000000
  · rw [if_pos z, ins_cn]
    simp only [z, true_and]
  · rw [if_neg z, if_neg (fun h => z h.1)]
    rfl
theorem rwP_srtd {l : List Int} (h : srtd l) (v : Int) : srtd (rwP l v) := by
  unfold rwP
  split
  · exact ins_srtd v l h
  · exact h
theorem rwP_len (l : List Int) (v : Int) : (rwP l v).length ≤ l.length + 1 := by
  unfold rwP
  split
  · rw [ins_len]; exact Nat.le_refl _
  · omega
theorem rwP_bd {l : List Int} {v : Int} (h : ∀ x ∈ l, -5000 ≤ x ∧ x ≤ 5000) (hv : v = 1000000 ∨ (-1000 ≤ v ∧ v ≤ 2000)) : ∀ x ∈ rwP l v, -5000 ≤ x ∧ x ≤ 5000 := by
  intro x hx
  unfold rwP at hx
  split at hx
  · rcases (ins_mem v l x).mp hx with hx | hx
    · omega
    · exact h x hx
  · exact h x hx
/-- the spans of the row tell of each turn of the other whether it opens -/
theorem du_cov {T : St} {f : Int → Int} (hT : mAs T) (hf : ofOk (T 0 20) f) {n k : Nat} (hn : T 0 21 = n) (hk : T 0 19 = k) {one other : Int} (h1 : 0 ≤ one ∧ one < k) (h2 : 0 ≤ other ∧ other < k) (hne : ¬ one = other) {va : Int} (hva : va = 1000000 ∨ (-1000 ≤ va ∧ va ≤ 2000)) {h base d : Int} (hd : 0 ≤ d ∧ d ≤ 9) (hh : (h = 1000000 ∧ 1000000 ≤ base ∧ base ≤ 3000000) ∨ (base = h ∧ -2000 ≤ h ∧ h ≤ 2000)) : cvL (spL n (T 0 22) (rwP (gaF (tnM T (smM T f)) (fun j => decide (¬ j = one ∧ ¬ j = other)) k) va)) (base + d) = inB (decide (apF (T 0 21) (uf (uf (tnM T (smM T f)) one va) other (plN h d)) (T 0 19).toNat ≤ T 0 22)) := by
  have hnd := hT.2.1
  have hk4 := hT.1.2.1
  have hrw := rwP_bd (rw_bd hT.1 hf (p := fun j => decide (¬ j = one ∧ ¬ j = other)) (k := k) (by omega)) hva
  have hsp := sp_op (n := n) (b := T 0 22) (by omega) (by omega) (srtd_at _ (rwP_srtd (gaF_srtd (tnM T (smM T f)) (fun j => decide (¬ j = one ∧ ¬ j = other)) k) va)) (lm_at hrw) (base + d) (by omega)
  have hone := op_one (n := n) (b := T 0 22) (t := uf (tnM T (smM T f)) one va) (g := other) (u := plN h d) (k := k) (by omega) (by omega) h2 (by unfold plN; split <;> omega) (fun j j0 j1 => by
    unfold uf
    have := tnM_b hT.1 hf (g := j) j0 (by omega)
    split <;> omega)
  have hcn : ∀ q : Int → Bool, (gaF (uf (tnM T (smM T f)) one va) (fun j => decide (¬ j = other)) k).countP q = (rwP (gaF (tnM T (smM T f)) (fun j => decide (¬ j = one ∧ ¬ j = other)) k) va).countP q := fun q => by
    rw [gaF_two hne, rwP_cn]
    simp only [h1, and_self, true_and]
  rw [opP_congr hcn] at hone
  have hop : opP n (T 0 22) (rwP (gaF (tnM T (smM T f)) (fun j => decide (¬ j = one ∧ ¬ j = other)) k) va) (plN h d) ↔ opP n (T 0 22) (rwP (gaF (tnM T (smM T f)) (fun j => decide (¬ j = one ∧ ¬ j = other)) k) va) (base + d) := by
    rcases hh with hh | hh
    · have : plN h d = 1000000 := by unfold plN; rw [if_pos hh.1]
      rw [this, opP_far (by omega) (by omega) hrw (Int.le_refl _), opP_far (by omega) (by omega) hrw (by omega)]
    · have : plN h d = base + d := by unfold plN; rw [if_neg (by omega)]; omega
      rw [this]
  rw [hn, hk, show ((k : Int)).toNat = k from rfl]
  have hu : uf (uf (tnM T (smM T f)) one va) other (plN h d) = fun j => if j = other then plN h d else uf (tnM T (smM T f)) one va j := rfl
  rw [hu]
  by_cases z : apF (n : Int) (fun j => if j = other then plN h d else uf (tnM T (smM T f)) one va j) k ≤ T 0 22
  · rw [inB_t z]
    exact hsp.1 (hop.mp (hone.mp z))
  · rw [inB_f z]
    exact hsp.2 (fun q => z (hone.mpr (hop.mpr q)))
/-- up to where the other is the first -/
def ahF (t : Int → Int) (other : Int) (k : Nat) : Int := if other < ftF (uf t other 1000000) k then ftP (uf t other 1000000) k else ftP (uf t other 1000000) k - 1
theorem ftP_le {t : Int → Int} : ∀ k : Nat, (∀ j : Int, 0 ≤ j → j < k → t j ≤ 1000000) → ftP t k ≤ 1000000
  | 0, _ => Int.le_refl _
  | k + 1, h => by
    have hs := ft_step (t := t) (k := k) (fun j j0 j1 => h j j0 (by omega))
    have hk := h k (by omega) (by omega)
    by_cases z : t k < ftP t k
    · rw [(hs.1 z).2]; exact hk
    · rw [(hs.2 (by omega)).2]; exact ftP_le k (fun j j0 j1 => h j j0 (by omega))
theorem ft_two {t : Int → Int} {other v : Int} (h0 : 0 ≤ other) (hv : v ≤ 1000000) : ∀ m : Nat, (∀ j : Int, 0 ≤ j → j < m → t j ≤ 1000000) → (m ≤ other → ftF (uf t other v) m = ftF (uf t other 1000000) m ∧ ftP (uf t other v) m = ftP (uf t other 1000000) m) ∧ (other < m → (v ≤ ahF t other m → ftF (uf t other v) m = other ∧ ftP (uf t other v) m = v) ∧ (ahF t other m < v → ftF (uf t other v) m = ftF (uf t other 1000000) m ∧ ftP (uf t other v) m = ftP (uf t other 1000000) m))
  | 0, _ => ⟨fun _ => ⟨rfl, rfl⟩, fun h => absurd h (by omega)⟩
  | m + 1, h => by
    obtain ⟨i1, i2⟩ := ft_two h0 hv m (fun j j0 j1 => h j j0 (by omega))
    have hk := h m (by omega) (by omega)
    have hn : ∀ j : Int, 0 ≤ j → j < (m : Int) + 1 → uf t other 1000000 j ≤ 1000000 := fun j j0 j1 => by
      have := h j j0 (by omega)
      unfold uf
      split <;> omega
    have hw : ∀ j : Int, 0 ≤ j → j < (m : Int) + 1 → uf t other v j ≤ 1000000 := fun j j0 j1 => by
      have := h j j0 (by omega)
      unfold uf
      split <;> omega
    have sn := ft_step (t := uf t other 1000000) (k := m) hn
    have sv := ft_step (t := uf t other v) (k := m) hw
    have hb := ftF_b (uf t other 1000000) m
    have hl := ftP_le (t := uf t other 1000000) m (fun j j0 j1 => hn j j0 (by omega))
    by_cases z : (m : Int) = other
    · have en : uf t other 1000000 m = 1000000 := by rw [z, uf_s]
      have ev : uf t other v m = v := by rw [z, uf_s]
      rw [en] at sn
      rw [ev] at sv
      obtain ⟨a1, a2⟩ := i1 (by omega)
      obtain ⟨b1, b2⟩ := sn.2 hl
      have ha : ahF t other (m + 1) = ftP (uf t other 1000000) m - 1 := by
        unfold ahF
        rw [b1, b2, if_neg (by omega)]
      refine ⟨fun q => absurd q (by omega), fun _ => ⟨fun q => ?_, fun q => ?_⟩⟩
      · obtain ⟨c1, c2⟩ := sv.1 (by omega)
        exact ⟨by omega, c2⟩
      · obtain ⟨c1, c2⟩ := sv.2 (by omega)
        rw [c1, c2, b1, b2]
        exact ⟨a1, a2⟩
    · have en : uf t other 1000000 m = t m := uf_n _ _ z
      have ev : uf t other v m = t m := uf_n _ _ z
      rw [en] at sn
      rw [ev] at sv
      by_cases y : (m : Int) < other
      · obtain ⟨a1, a2⟩ := i1 (by omega)
        refine ⟨fun _ => ?_, fun q => absurd q (by omega)⟩
        by_cases x : t m < ftP (uf t other 1000000) m
        · obtain ⟨b1, b2⟩ := sn.1 x
          obtain ⟨c1, c2⟩ := sv.1 (by omega)
          omega
        · obtain ⟨b1, b2⟩ := sn.2 (by omega)
          obtain ⟨c1, c2⟩ := sv.2 (by omega)
          omega
      · refine ⟨fun q => absurd q (by omega), fun _ => ?_⟩
        obtain ⟨j1, j2⟩ := i2 (by omega)
        by_cases x : t m < ftP (uf t other 1000000) m
        · obtain ⟨b1, b2⟩ := sn.1 x
          have ha : ahF t other (m + 1) = t m := by
            unfold ahF
            rw [b1, b2, if_pos (by omega)]
          have hA : ftP (uf t other 1000000) m - 1 ≤ ahF t other m := by
            unfold ahF
            split <;> omega
          refine ⟨fun q => ?_, fun q => ?_⟩
          · obtain ⟨d1, d2⟩ := j1 (by omega)
            obtain ⟨c1, c2⟩ := sv.2 (by omega)
            omega
          · by_cases u : v ≤ ahF t other m
            · obtain ⟨d1, d2⟩ := j1 u
              obtain ⟨c1, c2⟩ := sv.1 (by omega)
              omega
            · obtain ⟨d1, d2⟩ := j2 (by omega)
              obtain ⟨c1, c2⟩ := sv.1 (by omega)
              omega
        · obtain ⟨b1, b2⟩ := sn.2 (by omega)
          have ha : ahF t other (m + 1) = ahF t other m := by
            unfold ahF
            rw [b1, b2]
          have hA : ahF t other m ≤ ftP (uf t other 1000000) m := by
            unfold ahF
            split <;> omega
          refine ⟨fun q => ?_, fun q => ?_⟩
          · obtain ⟨d1, d2⟩ := j1 (by omega)
            obtain ⟨c1, c2⟩ := sv.2 (by omega)
            omega
          · obtain ⟨d1, d2⟩ := j2 (by omega)
            obtain ⟨c1, c2⟩ := sv.2 (by omega)
            omega
theorem ftF_no {t : Int → Int} {other : Int} (ho : t other = 1000000) (h0 : 0 ≤ other) : ∀ k : Nat, ¬ ftF t k = other
  | 0 => by show ¬ (-1 : Int) = other; omega
  | k + 1 => by
    have hst : ftF t (k + 1) = if ¬ t k = 1000000 ∧ (ftF t k < 0 ∨ t k < t (ftF t k)) then (k : Int) else ftF t k := rfl
    rw [hst]
    split
    · rename_i h
      intro q
      rw [q] at h
      exact h.1 ho
    · exact ftF_no ho h0 k
theorem ftP_lt {t : Int → Int} : ∀ k : Nat, (∀ j : Int, 0 ≤ j → j < k → t j ≤ 1000000) → 0 ≤ ftF t k → ftP t k < 1000000
  | 0, _, h => absurd h (show ¬ (0 : Int) ≤ -1 by decide)
  | k + 1, h, h0 => by
    have hs := ft_step (t := t) (k := k) (fun j j0 j1 => h j j0 (by omega))
    have hk := h k (by omega) (by omega)
    have hl := ftP_le (t := t) k (fun j j0 j1 => h j j0 (by omega))
    by_cases z : t k < ftP t k
    · rw [(hs.1 z).2]; omega
    · have hz := hs.2 (by omega)
      rw [hz.2]
      rw [hz.1] at h0
      exact ftP_lt k (fun j j0 j1 => h j j0 (by omega)) h0
theorem ahF_lt {t : Int → Int} {other : Int} {k : Nat} (h0 : 0 ≤ other) (h : ∀ j : Int, 0 ≤ j → j < k → t j ≤ 1000000) : ahF t other k < 1000000 := by
  have hn : ∀ j : Int, 0 ≤ j → j < k → uf t other 1000000 j ≤ 1000000 := fun j j0 j1 => by
    have := h j j0 j1
    unfold uf
    split <;> omega
  have h1 := ftP_le k hn
  unfold ahF
  split
  · exact ftP_lt k hn (by omega)
  · omega
/-- who is first of two more keys -/
theorem ft_who {t : Int → Int} {one other v : Int} {k : Nat} (h1 : 0 ≤ other ∧ other < k) (hne : ¬ one = other) (hv : v ≤ 1000000) (h : ∀ j : Int, 0 ≤ j → j < k → t j ≤ 1000000) : (ftF (uf t other v) k = other ↔ v ≤ ahF t other k) ∧ (ftF (uf t other v) k = one ↔ ahF t other k < v ∧ ftF (uf t other 1000000) k = one) := by
  have h2 := (ft_two (t := t) (v := v) h1.1 hv k h).2 h1.2
  have h3 := ftF_no (t := uf t other 1000000) (other := other) (uf_s _ _ _) h1.1 k
  by_cases z : v ≤ ahF t other k
  · obtain ⟨a1, a2⟩ := h2.1 z
    rw [a1]
    exact ⟨⟨fun _ => z, fun _ => rfl⟩, ⟨fun q => absurd q.symm hne, fun q => absurd q.1 (by omega)⟩⟩
  · obtain ⟨a1, a2⟩ := h2.2 (by omega)
    rw [a1]
    exact ⟨⟨fun q => absurd q h3, fun q => absurd q z⟩, ⟨fun q => ⟨by omega, q⟩, fun q => q.2⟩⟩
