/-! the reference: a clause read -/
theorem t_M_isItem (S : St) (c l : Int) (Q : Option AV → St → Prop) (hk : 0 ≤ kd c) (h1 : 0 ≤ itF (kd c) l → Q (some (.inl 1)) S) (h0 : itF (kd c) l < 0 → Q (some (.inl 0)) S) : Smm H_M_isItem 0 [some (.inl c), some (.inl l)] [] S Q := by
  rcases (kd_v c).resolve_left (by omega) with ⟨rfl, hz⟩ | ⟨rfl, hz⟩ | ⟨rfl, hz⟩ | ⟨rfl, hz⟩ <;> rw [hz] at h1 h0 <;> refine sound ok_M_isItem [] 60 ?_
  · refine ⟨fun _ => ?_, fun z => absurd rfl z⟩
    refine ⟨fun g => ⟨Or.inr rfl, h1 (by subst g; decide)⟩, fun g => ?_⟩
    refine ⟨fun g2 => ⟨Or.inl rfl, h0 (by simp [itF, g, g2])⟩, fun g2 => ⟨Or.inr rfl, h1 (by subst g2; decide)⟩⟩
  · refine ⟨fun z => absurd z (by decide), fun _ => ⟨fun z => absurd z (by decide), fun _ => ⟨fun _ => ?_, fun z => absurd rfl z⟩⟩⟩
    refine ⟨fun g => ⟨Or.inr rfl, h1 (by subst g; decide)⟩, fun g => ?_⟩
    refine ⟨fun g2 => ⟨Or.inr rfl, h1 (by subst g2; decide)⟩, fun g2 => ?_⟩
    refine ⟨fun g3 => ⟨Or.inr rfl, h1 (by subst g3; decide)⟩, fun g3 => ?_⟩
    refine ⟨fun g4 => ⟨Or.inl rfl, h0 (by simp [itF, g, g2, g3, g4])⟩, fun g4 => ⟨Or.inr rfl, h1 (by subst g4; decide)⟩⟩
  · refine ⟨fun z => absurd z (by decide), fun _ => ⟨fun _ => ?_, fun z => absurd rfl z⟩⟩
    refine ⟨fun g => ⟨Or.inr rfl, h1 (by subst g; decide)⟩, fun g => ?_⟩
    refine ⟨fun g2 => ⟨Or.inr rfl, h1 (by subst g2; decide)⟩, fun g2 => ?_⟩
    refine ⟨fun g3 => ⟨Or.inl rfl, h0 (by simp [itF, g, g2, g3])⟩, fun g3 => ⟨Or.inr rfl, h1 (by subst g3; decide)⟩⟩
  · refine ⟨fun z => absurd z (by decide), fun _ => ⟨fun z => absurd z (by decide), fun _ => ⟨fun z => absurd z (by decide), fun _ => ?_⟩⟩⟩
    refine ⟨fun g => ⟨Or.inr rfl, h1 (by subst g; decide)⟩, fun g => ?_⟩
    refine ⟨fun g2 => ⟨Or.inl rfl, h0 (by simp [itF, g, g2])⟩, fun g2 => ⟨Or.inr rfl, h1 (by subst g2; decide)⟩⟩
/-- where an item's number stands, till its clause is whole -/
def vM (T : St) (k i : Int) : Int := if k = 0 then T 2 (2 * T 0 5 + i) else if k = 1 then T 3 (4 * T 0 6 + i) else if k = 2 then T 4 (3 * T 0 7 + i) else T 0 (12 + i)
def wrM (T : St) (k i v : Int) : St := if k = 0 then up T 2 (2 * T 0 5 + i) v else if k = 1 then up T 3 (4 * T 0 6 + i) v else if k = 2 then up T 4 (3 * T 0 7 + i) v else up T 0 (12 + i) v
def ctM (T : St) (k : Int) : Int := if k = 0 then T 0 5 else if k = 1 then T 0 6 else if k = 2 then T 0 7 else T 0 8
set_option maxHeartbeats 4000000 in
set_option maxRecDepth 8000 in
theorem t_M_readsItem (S : St) (c l : Int) (Q : Option AV → St → Prop) (hk : 0 ≤ kd c) (hi : 0 ≤ itF (kd c) l) (h0 : 0 ≤ S 0 3) (hn : S 0 2 ≤ 160) (hc : 0 ≤ ctM S (kd c) ∧ ctM S (kd c) < mxK (kd c))
    (hQ : ∀ v W, W = nmW (S 1) (S 0 2) (loK (kd c) (itF (kd c) l)) (hiK (kd c) (itF (kd c) l) (S 0 6)) (S 0 3) → (W = -1 → v = nmV (S 1) (S 0 2) (S 0 3)) → Q none (wrM (up (up S 0 3 (nmA (S 1) (S 0 2) (S 0 3))) 0 4 (if W = -1 then S 0 4 else W)) (kd c) (itF (kd c) l) v)) : Smm H_M_readsItem 0 [some (.inr (.inr 0)), some (.inl c), some (.inl l), none] [] S Q := by
  have hkk : kd c ≤ 3 := by have := kd_v c; omega
  have hl := itF_inv ⟨hk, hkk⟩ hi
  have hib := (itF_b (c := l) ⟨hk, hkk⟩).resolve_left (by omega)
  generalize hie : itF (kd c) l = i at hi hl hib hQ
  rcases (kd_v c).resolve_left (by omega) with ⟨rfl, hz⟩ | ⟨rfl, hz⟩ | ⟨rfl, hz⟩ | ⟨rfl, hz⟩ <;> rw [hz] at hl hib hQ hc
  · have hi4 : i = 0 ∨ i = 1 := by simp only [szK] at hib; omega
    have hcb : 0 ≤ S 0 5 ∧ S 0 5 < 4 := by simpa [ctM, mxK] using hc
    have f0 : i32 (2 * S 0 5) = 2 * S 0 5 := i32_id (by omega) (by omega)
    rcases hi4 with rfl | rfl
    · have hl2 : l = 112 := hl
      subst hl2
      refine sound ok_M_readsItem [] 60 ?_
      refine ⟨fun z => absurd rfl z, fun _ => ?_⟩
      refine ⟨fun z => absurd rfl z, fun _ => ?_⟩
      have f1 : i32 (i32 (2 * S 0 5) + 0) = 2 * S 0 5 + 0 := by rw [f0]; exact i32_id (by omega) (by omega)
      have b1 : 0 ≤ 2 * S 0 5 + 0 ∧ 2 * S 0 5 + 0 < 8 := by omega
      refine t_M_reads S 0 99 _ h0 hn (fun v W hW hv => ?_)
      have hq := hQ v W hW hv
      refine ⟨by rw [f1]; exact b1, ?_⟩
      unfold wrM at hq
      rw [if_pos rfl] at hq
      rw [show ∀ x y, up (up S 0 3 x) 0 4 y 0 5 = S 0 5 from fun x y => by rw [up_n _ _ _ (by decide), up_n _ _ _ (by decide)], ← f1] at hq
      exact hq
    · have hl2 : l = 116 := hl
      subst hl2
      refine sound ok_M_readsItem [] 60 ?_
      refine ⟨fun z => absurd rfl z, fun _ => ?_⟩
      refine ⟨fun _ => ?_, fun z => absurd z (by decide)⟩
      have f1 : i32 (i32 (2 * S 0 5) + 1) = 2 * S 0 5 + 1 := by rw [f0]; exact i32_id (by omega) (by omega)
      have b1 : 0 ≤ 2 * S 0 5 + 1 ∧ 2 * S 0 5 + 1 < 8 := by omega
      refine t_M_reads S 0 99 _ h0 hn (fun v W hW hv => ?_)
      have hq := hQ v W hW hv
      refine ⟨by rw [f1]; exact b1, ?_⟩
      unfold wrM at hq
      rw [if_pos rfl] at hq
      rw [show ∀ x y, up (up S 0 3 x) 0 4 y 0 5 = S 0 5 from fun x y => by rw [up_n _ _ _ (by decide), up_n _ _ _ (by decide)], ← f1] at hq
      exact hq
  · have hi4 : i = 0 ∨ i = 1 ∨ i = 2 ∨ i = 3 := by simp only [szK] at hib; omega
    have hcb : 0 ≤ S 0 6 ∧ S 0 6 < 5 := by simpa [ctM, mxK] using hc
    have f0 : i32 (4 * S 0 6) = 4 * S 0 6 := i32_id (by omega) (by omega)
    rcases hi4 with rfl | rfl | rfl | rfl
    · have hl2 : l = 116 := hl
      subst hl2
      refine sound ok_M_readsItem [] 60 ?_
      refine ⟨fun _ => ?_, fun z => absurd z (by decide)⟩
      refine ⟨fun z => absurd rfl z, fun _ => ?_⟩
      refine ⟨fun z => absurd rfl z, fun _ => ?_⟩
      have f1 : i32 (4 * S 0 6) = 4 * S 0 6 + 0 := by rw [f0]; omega
      have b1 : 0 ≤ 4 * S 0 6 + 0 ∧ 4 * S 0 6 + 0 < 20 := by omega
      refine t_M_reads S 0 59 _ h0 hn (fun v W hW hv => ?_)
      have hq := hQ v W hW hv
      refine ⟨by rw [f1]; exact b1, ?_⟩
      unfold wrM at hq
      rw [if_neg (by decide), if_pos rfl] at hq
      rw [show ∀ x y, up (up S 0 3 x) 0 4 y 0 6 = S 0 6 from fun x y => by rw [up_n _ _ _ (by decide), up_n _ _ _ (by decide)], ← f1] at hq
      exact hq
    · have hl2 : l = 101 := hl
      subst hl2
      refine sound ok_M_readsItem [] 60 ?_
      refine ⟨fun _ => ?_, fun z => absurd z (by decide)⟩
      refine ⟨fun z => absurd rfl z, fun _ => ?_⟩
      refine ⟨fun _ => ?_, fun z => absurd z (by decide)⟩
      refine ⟨fun z => absurd rfl z, fun _ => ?_⟩
      have f1 : i32 (i32 (4 * S 0 6) + 1) = 4 * S 0 6 + 1 := by rw [f0]; exact i32_id (by omega) (by omega)
      have b1 : 0 ≤ 4 * S 0 6 + 1 ∧ 4 * S 0 6 + 1 < 20 := by omega
      refine t_M_reads S 0 3 _ h0 hn (fun v W hW hv => ?_)
      have hq := hQ v W hW hv
      refine ⟨by rw [f1]; exact b1, ?_⟩
      unfold wrM at hq
      rw [if_neg (by decide), if_pos rfl] at hq
      rw [show ∀ x y, up (up S 0 3 x) 0 4 y 0 6 = S 0 6 from fun x y => by rw [up_n _ _ _ (by decide), up_n _ _ _ (by decide)], ← f1] at hq
      exact hq
    · have hl2 : l = 111 := hl
      subst hl2
      refine sound ok_M_readsItem [] 60 ?_
      refine ⟨fun _ => ?_, fun z => absurd z (by decide)⟩
      refine ⟨fun z => absurd rfl z, fun _ => ?_⟩
      refine ⟨fun _ => ?_, fun z => absurd z (by decide)⟩
      refine ⟨fun _ => ?_, fun z => absurd z (by decide)⟩
      refine ⟨fun z => absurd rfl z, fun _ => ?_⟩
      have f1 : i32 (i32 (4 * S 0 6) + 2) = 4 * S 0 6 + 2 := by rw [f0]; exact i32_id (by omega) (by omega)
      have b1 : 0 ≤ 4 * S 0 6 + 2 ∧ 4 * S 0 6 + 2 < 20 := by omega
      have f2 : i32 (S 0 6 - 1) = S 0 6 - 1 := i32_id (by omega) (by omega)
      refine t_M_reads S 0 (i32 (S 0 6 - 1)) _ h0 hn (fun v W hW hv => ?_)
      have hq := hQ v W (by rw [f2] at hW; exact hW) hv
      refine ⟨by rw [f1]; exact b1, ?_⟩
      unfold wrM at hq
      rw [if_neg (by decide), if_pos rfl] at hq
      rw [show ∀ x y, up (up S 0 3 x) 0 4 y 0 6 = S 0 6 from fun x y => by rw [up_n _ _ _ (by decide), up_n _ _ _ (by decide)], ← f1] at hq
      exact hq
    · have hl2 : l = 118 := hl
      subst hl2
      refine sound ok_M_readsItem [] 60 ?_
      refine ⟨fun _ => ?_, fun z => absurd z (by decide)⟩
      refine ⟨fun z => absurd rfl z, fun _ => ?_⟩
      refine ⟨fun _ => ?_, fun z => absurd z (by decide)⟩
      refine ⟨fun _ => ?_, fun z => absurd z (by decide)⟩
      refine ⟨fun _ => ?_, fun z => absurd z (by decide)⟩
      have f1 : i32 (i32 (4 * S 0 6) + 3) = 4 * S 0 6 + 3 := by rw [f0]; exact i32_id (by omega) (by omega)
      have b1 : 0 ≤ 4 * S 0 6 + 3 ∧ 4 * S 0 6 + 3 < 20 := by omega
      refine t_M_reads S 0 3 _ h0 hn (fun v W hW hv => ?_)
      have hq := hQ v W hW hv
      refine ⟨by rw [f1]; exact b1, ?_⟩
      unfold wrM at hq
      rw [if_neg (by decide), if_pos rfl] at hq
      rw [show ∀ x y, up (up S 0 3 x) 0 4 y 0 6 = S 0 6 from fun x y => by rw [up_n _ _ _ (by decide), up_n _ _ _ (by decide)], ← f1] at hq
      exact hq
  · have hi4 : i = 0 ∨ i = 1 ∨ i = 2 := by simp only [szK] at hib; omega
    have hcb : 0 ≤ S 0 7 ∧ S 0 7 < 12 := by simpa [ctM, mxK] using hc
    have f0 : i32 (3 * S 0 7) = 3 * S 0 7 := i32_id (by omega) (by omega)
    rcases hi4 with rfl | rfl | rfl
    · have hl2 : l = 115 := hl
      subst hl2
      refine sound ok_M_readsItem [] 60 ?_
      refine ⟨fun _ => ?_, fun z => absurd z (by decide)⟩
      refine ⟨fun _ => ?_, fun z => absurd z (by decide)⟩
      refine ⟨fun z => absurd rfl z, fun _ => ?_⟩
      refine ⟨fun z => absurd rfl z, fun _ => ?_⟩
      have f1 : i32 (3 * S 0 7) = 3 * S 0 7 + 0 := by rw [f0]; omega
      have b1 : 0 ≤ 3 * S 0 7 + 0 ∧ 3 * S 0 7 + 0 < 36 := by omega
      refine t_M_reads S 0 4 _ h0 hn (fun v W hW hv => ?_)
      have hq := hQ v W hW hv
      refine ⟨by rw [f1]; exact b1, ?_⟩
      unfold wrM at hq
      rw [if_neg (by decide), if_neg (by decide), if_pos rfl] at hq
      rw [show ∀ x y, up (up S 0 3 x) 0 4 y 0 7 = S 0 7 from fun x y => by rw [up_n _ _ _ (by decide), up_n _ _ _ (by decide)], ← f1] at hq
      exact hq
    · have hl2 : l = 103 := hl
      subst hl2
      refine sound ok_M_readsItem [] 60 ?_
      refine ⟨fun _ => ?_, fun z => absurd z (by decide)⟩
      refine ⟨fun _ => ?_, fun z => absurd z (by decide)⟩
      refine ⟨fun z => absurd rfl z, fun _ => ?_⟩
      refine ⟨fun _ => ?_, fun z => absurd z (by decide)⟩
      refine ⟨fun z => absurd rfl z, fun _ => ?_⟩
      have f1 : i32 (i32 (3 * S 0 7) + 1) = 3 * S 0 7 + 1 := by rw [f0]; exact i32_id (by omega) (by omega)
      have b1 : 0 ≤ 3 * S 0 7 + 1 ∧ 3 * S 0 7 + 1 < 36 := by omega
      refine t_M_reads S 0 3 _ h0 hn (fun v W hW hv => ?_)
      have hq := hQ v W hW hv
      refine ⟨by rw [f1]; exact b1, ?_⟩
      unfold wrM at hq
      rw [if_neg (by decide), if_neg (by decide), if_pos rfl] at hq
      rw [show ∀ x y, up (up S 0 3 x) 0 4 y 0 7 = S 0 7 from fun x y => by rw [up_n _ _ _ (by decide), up_n _ _ _ (by decide)], ← f1] at hq
      exact hq
    · have hl2 : l = 100 := hl
      subst hl2
      refine sound ok_M_readsItem [] 60 ?_
      refine ⟨fun _ => ?_, fun z => absurd z (by decide)⟩
      refine ⟨fun _ => ?_, fun z => absurd z (by decide)⟩
      refine ⟨fun z => absurd rfl z, fun _ => ?_⟩
      refine ⟨fun _ => ?_, fun z => absurd z (by decide)⟩
      refine ⟨fun _ => ?_, fun z => absurd z (by decide)⟩
      have f1 : i32 (i32 (3 * S 0 7) + 2) = 3 * S 0 7 + 2 := by rw [f0]; exact i32_id (by omega) (by omega)
      have b1 : 0 ≤ 3 * S 0 7 + 2 ∧ 3 * S 0 7 + 2 < 36 := by omega
      refine t_M_reads S 0 9 _ h0 hn (fun v W hW hv => ?_)
      have hq := hQ v W hW hv
      refine ⟨by rw [f1]; exact b1, ?_⟩
      unfold wrM at hq
      rw [if_neg (by decide), if_neg (by decide), if_pos rfl] at hq
      rw [show ∀ x y, up (up S 0 3 x) 0 4 y 0 7 = S 0 7 from fun x y => by rw [up_n _ _ _ (by decide), up_n _ _ _ (by decide)], ← f1] at hq
      exact hq
  · have hi4 : i = 0 ∨ i = 1 := by simp only [szK] at hib; omega
    rcases hi4 with rfl | rfl
    · have hl2 : l = 110 := hl
      subst hl2
      refine sound ok_M_readsItem [] 60 ?_
      refine ⟨fun _ => ?_, fun z => absurd z (by decide)⟩
      refine ⟨fun _ => ?_, fun z => absurd z (by decide)⟩
      refine ⟨fun _ => ?_, fun z => absurd z (by decide)⟩
      refine ⟨fun z => absurd rfl z, fun _ => ?_⟩
      refine t_M_reads S 2 4 _ h0 hn (fun v W hW hv => ?_)
      exact hQ v W hW hv
    · have hl2 : l = 119 := hl
      subst hl2
      refine sound ok_M_readsItem [] 60 ?_
      refine ⟨fun _ => ?_, fun z => absurd z (by decide)⟩
      refine ⟨fun _ => ?_, fun z => absurd z (by decide)⟩
      refine ⟨fun _ => ?_, fun z => absurd z (by decide)⟩
      refine ⟨fun _ => ?_, fun z => absurd z (by decide)⟩
      refine t_M_reads S 0 9 _ h0 hn (fun v W hW hv => ?_)
      exact hQ v W hW hv
/-- the reference holds what was read -/
def psM (p : PS) (T : St) : Prop := (T 0 5 = p.1.1 ∧ T 0 6 = p.1.2.1 ∧ T 0 7 = p.1.2.2.1 ∧ T 0 8 = p.1.2.2.2) ∧ (∀ j, 0 ≤ j → j < 2 * p.1.1 → T 2 j = p.2.1 j) ∧ (∀ j, 0 ≤ j → j < 4 * p.1.2.1 → T 3 j = p.2.2.1 j) ∧ (∀ j, 0 ≤ j → j < 3 * p.1.2.2.1 → T 4 j = p.2.2.2.1 j)
def nbM (p : PS) (T : St) : Prop := T 0 12 = p.2.2.2.2.1 ∧ T 0 13 = p.2.2.2.2.2
theorem ctM_ps {p : PS} {T : St} (h : psM p T) (k : Int) : ctM T k = ctK k p := by
  unfold ctM ctK
  rw [h.1.1, h.1.2.1, h.1.2.2.1, h.1.2.2.2]
/-- an item put down -/
theorem wrM_ps {p : PS} {T : St} {k i x : Int} (hk : 0 ≤ k ∧ k ≤ 3) (hi : 0 ≤ i ∧ i < szK k) (h : psM p T) : psM p (wrM T k i x) ∧ (k ≠ 3 → nbM p T → nbM p (wrM T k i x)) ∧ (∀ j, 0 ≤ j → j < szK k → vM (wrM T k i x) k j = if j = i then x else vM T k j) ∧ wrM T k i x 0 3 = T 0 3 ∧ wrM T k i x 0 4 = T 0 4 := by
  obtain ⟨⟨c1, c2, c3, c4⟩, hG, hS, hE⟩ := h
  rcases k4 hk.1 hk.2 with rfl | rfl | rfl | rfl
  · have e : wrM T 0 i x = up T 2 (2 * T 0 5 + i) x := rfl
    rw [e]
    have e0 : up T 2 (2 * T 0 5 + i) x 0 = T 0 := up_o _ _ _ (by decide)
    refine ⟨⟨⟨by rw [e0]; exact c1, by rw [e0]; exact c2, by rw [e0]; exact c3, by rw [e0]; exact c4⟩, fun j j0 j1 => ?_, fun j j0 j1 => ?_, fun j j0 j1 => ?_⟩, fun _ hb => ⟨by rw [e0]; exact hb.1, by rw [e0]; exact hb.2⟩, fun j j0 j1 => ?_, by rw [e0], by rw [e0]⟩
    · rw [up_n _ _ _ (by omega)]; exact hG j j0 j1
    · rw [up_o _ _ _ (by decide)]; exact hS j j0 j1
    · rw [up_o _ _ _ (by decide)]; exact hE j j0 j1
    · show up T 2 (2 * T 0 5 + i) x 2 (2 * up T 2 (2 * T 0 5 + i) x 0 5 + j) = if j = i then x else T 2 (2 * T 0 5 + j)
      rw [e0]
      by_cases hj : j = i
      · rw [hj, up_s, if_pos rfl]
      · rw [up_n _ _ _ (by omega), if_neg hj]
  · have e : wrM T 1 i x = up T 3 (4 * T 0 6 + i) x := rfl
    rw [e]
    have e0 : up T 3 (4 * T 0 6 + i) x 0 = T 0 := up_o _ _ _ (by decide)
    refine ⟨⟨⟨by rw [e0]; exact c1, by rw [e0]; exact c2, by rw [e0]; exact c3, by rw [e0]; exact c4⟩, fun j j0 j1 => ?_, fun j j0 j1 => ?_, fun j j0 j1 => ?_⟩, fun _ hb => ⟨by rw [e0]; exact hb.1, by rw [e0]; exact hb.2⟩, fun j j0 j1 => ?_, by rw [e0], by rw [e0]⟩
    · rw [up_o _ _ _ (by decide)]; exact hG j j0 j1
    · rw [up_n _ _ _ (by omega)]; exact hS j j0 j1
    · rw [up_o _ _ _ (by decide)]; exact hE j j0 j1
    · show up T 3 (4 * T 0 6 + i) x 3 (4 * up T 3 (4 * T 0 6 + i) x 0 6 + j) = if j = i then x else T 3 (4 * T 0 6 + j)
      rw [e0]
      by_cases hj : j = i
      · rw [hj, up_s, if_pos rfl]
      · rw [up_n _ _ _ (by omega), if_neg hj]
  · have e : wrM T 2 i x = up T 4 (3 * T 0 7 + i) x := rfl
    rw [e]
    have e0 : up T 4 (3 * T 0 7 + i) x 0 = T 0 := up_o _ _ _ (by decide)
    refine ⟨⟨⟨by rw [e0]; exact c1, by rw [e0]; exact c2, by rw [e0]; exact c3, by rw [e0]; exact c4⟩, fun j j0 j1 => ?_, fun j j0 j1 => ?_, fun j j0 j1 => ?_⟩, fun _ hb => ⟨by rw [e0]; exact hb.1, by rw [e0]; exact hb.2⟩, fun j j0 j1 => ?_, by rw [e0], by rw [e0]⟩
    · rw [up_o _ _ _ (by decide)]; exact hG j j0 j1
    · rw [up_o _ _ _ (by decide)]; exact hS j j0 j1
    · rw [up_n _ _ _ (by omega)]; exact hE j j0 j1
    · show up T 4 (3 * T 0 7 + i) x 4 (3 * up T 4 (3 * T 0 7 + i) x 0 7 + j) = if j = i then x else T 4 (3 * T 0 7 + j)
      rw [e0]
      by_cases hj : j = i
      · rw [hj, up_s, if_pos rfl]
      · rw [up_n _ _ _ (by omega), if_neg hj]
  · have e : wrM T 3 i x = up T 0 (12 + i) x := rfl
    rw [e]
    have hi2 : 0 ≤ i ∧ i < 2 := hi
    refine ⟨⟨⟨by rw [up_n _ _ _ (by omega)]; exact c1, by rw [up_n _ _ _ (by omega)]; exact c2, by rw [up_n _ _ _ (by omega)]; exact c3, by rw [up_n _ _ _ (by omega)]; exact c4⟩, fun j j0 j1 => ?_, fun j j0 j1 => ?_, fun j j0 j1 => ?_⟩, fun z => absurd rfl z, fun j j0 j1 => ?_, by rw [up_n _ _ _ (by omega)], by rw [up_n _ _ _ (by omega)]⟩
    · rw [up_o _ _ _ (by decide)]; exact hG j j0 j1
    · rw [up_o _ _ _ (by decide)]; exact hS j j0 j1
    · rw [up_o _ _ _ (by decide)]; exact hE j j0 j1
    · show up T 0 (12 + i) x 0 (12 + j) = if j = i then x else T 0 (12 + j)
      by_cases hj : j = i
      · rw [hj, up_s, if_pos rfl]
      · rw [up_n _ _ _ (by omega), if_neg hj]
theorem wrM_fr (T : St) {k i : Int} (x : Int) (hk : 0 ≤ k ∧ k ≤ 3) (hi : 0 ≤ i ∧ i < szK k) : Fr [2, 3, 4] [(0, 3), (0, 4), (0, 5), (0, 6), (0, 7), (0, 8), (0, 12), (0, 13)] T (wrM T k i x) := by
  rcases k4 hk.1 hk.2 with rfl | rfl | rfl | rfl
  · exact (Fr.rf _ _ _).up _ _ _ rfl
  · exact (Fr.rf _ _ _).up _ _ _ rfl
  · exact (Fr.rf _ _ _).up _ _ _ rfl
  · have : i = 0 ∨ i = 1 := by have : 0 ≤ i ∧ i < 2 := hi; omega
    rcases this with rfl | rfl
    · exact (Fr.rf _ _ _).up _ _ _ rfl
    · exact (Fr.rf _ _ _).up _ _ _ rfl
/-- a clause is whole -/
theorem take_M {p : PS} {T : St} {k : Int} {v : Int → Int} (hk : 0 ≤ k ∧ k ≤ 3) (h : psM p T) (hb : k ≠ 3 → nbM p T) (hv : ∀ i, 0 ≤ i → i < szK k → vM T k i = v i) : psM (takeP k v p) (up T 0 (5 + k) (ctM T k + 1)) ∧ nbM (takeP k v p) (up T 0 (5 + k) (ctM T k + 1)) := by
  obtain ⟨⟨c1, c2, c3, c4⟩, hG, hS, hE⟩ := h
  have o : ∀ (j x : Int) c, c ≠ 0 → up T 0 j x c = T c := fun j x c hc => up_o _ _ _ hc
  rcases k4 hk.1 hk.2 with rfl | rfl | rfl | rfl
  · have hb := hb (by decide)
    have v0 : T 2 (2 * T 0 5 + 0) = v 0 := hv 0 (by decide) (by decide)
    have v1 : T 2 (2 * T 0 5 + 1) = v 1 := hv 1 (by decide) (by decide)
    rw [c1] at v0 v1
    refine ⟨⟨⟨?_, ?_, ?_, ?_⟩, fun j j0 j1 => ?_, fun j j0 j1 => ?_, fun j j0 j1 => ?_⟩, ?_, ?_⟩
    · show up T 0 5 (T 0 5 + 1) 0 5 = p.1.1 + 1
      rw [up_s, c1]
    · show up T 0 5 _ 0 6 = p.1.2.1
      rw [up_n _ _ _ (by decide), c2]
    · show up T 0 5 _ 0 7 = p.1.2.2.1
      rw [up_n _ _ _ (by decide), c3]
    · show up T 0 5 _ 0 8 = p.1.2.2.2
      rw [up_n _ _ _ (by decide), c4]
    · show up T 0 (5 + 0) _ 2 j = uf (uf p.2.1 (2 * p.1.1) (v 0)) (2 * p.1.1 + 1) (v 1) j
      replace j1 : j < 2 * (p.1.1 + 1) := j1
      rw [o _ _ _ (by decide), ufs, ufs]
      split
      · rename_i z; rw [z]; exact v1
      · split
        · rename_i z; rw [z, ← v0]; congr 1; omega
        · exact hG j j0 (by omega)
    · show up T 0 (5 + 0) _ 3 j = p.2.2.1 j
      rw [o _ _ _ (by decide)]; exact hS j j0 j1
    · show up T 0 (5 + 0) _ 4 j = p.2.2.2.1 j
      rw [o _ _ _ (by decide)]; exact hE j j0 j1
    · show up T 0 5 _ 0 12 = p.2.2.2.2.1
      rw [up_n _ _ _ (by decide)]; exact hb.1
    · show up T 0 5 _ 0 13 = p.2.2.2.2.2
      rw [up_n _ _ _ (by decide)]; exact hb.2
  · have hb := hb (by decide)
    have v0 : T 3 (4 * T 0 6 + 0) = v 0 := hv 0 (by decide) (by decide)
    have v1 : T 3 (4 * T 0 6 + 1) = v 1 := hv 1 (by decide) (by decide)
    have v2 : T 3 (4 * T 0 6 + 2) = v 2 := hv 2 (by decide) (by decide)
    have v3 : T 3 (4 * T 0 6 + 3) = v 3 := hv 3 (by decide) (by decide)
    rw [c2] at v0 v1 v2 v3
    refine ⟨⟨⟨?_, ?_, ?_, ?_⟩, fun j j0 j1 => ?_, fun j j0 j1 => ?_, fun j j0 j1 => ?_⟩, ?_, ?_⟩
    · show up T 0 6 _ 0 5 = p.1.1
      rw [up_n _ _ _ (by decide), c1]
    · show up T 0 6 (T 0 6 + 1) 0 6 = p.1.2.1 + 1
      rw [up_s, c2]
    · show up T 0 6 _ 0 7 = p.1.2.2.1
      rw [up_n _ _ _ (by decide), c3]
    · show up T 0 6 _ 0 8 = p.1.2.2.2
      rw [up_n _ _ _ (by decide), c4]
    · show up T 0 (5 + 1) _ 2 j = p.2.1 j
      rw [o _ _ _ (by decide)]; exact hG j j0 j1
    · show up T 0 (5 + 1) _ 3 j = uf (uf (uf (uf p.2.2.1 (4 * p.1.2.1) (v 0)) (4 * p.1.2.1 + 1) (v 1)) (4 * p.1.2.1 + 2) (v 2)) (4 * p.1.2.1 + 3) (v 3) j
      replace j1 : j < 4 * (p.1.2.1 + 1) := j1
      rw [o _ _ _ (by decide), ufs, ufs, ufs, ufs]
      split
      · rename_i z; rw [z]; exact v3
      · split
        · rename_i z; rw [z]; exact v2
        · split
          · rename_i z; rw [z]; exact v1
          · split
            · rename_i z; rw [z, ← v0]; congr 1; omega
            · exact hS j j0 (by omega)
    · show up T 0 (5 + 1) _ 4 j = p.2.2.2.1 j
      rw [o _ _ _ (by decide)]; exact hE j j0 j1
    · show up T 0 6 _ 0 12 = p.2.2.2.2.1
      rw [up_n _ _ _ (by decide)]; exact hb.1
    · show up T 0 6 _ 0 13 = p.2.2.2.2.2
      rw [up_n _ _ _ (by decide)]; exact hb.2
  · have hb := hb (by decide)
    have v0 : T 4 (3 * T 0 7 + 0) = v 0 := hv 0 (by decide) (by decide)
    have v1 : T 4 (3 * T 0 7 + 1) = v 1 := hv 1 (by decide) (by decide)
    have v2 : T 4 (3 * T 0 7 + 2) = v 2 := hv 2 (by decide) (by decide)
    rw [c3] at v0 v1 v2
    refine ⟨⟨⟨?_, ?_, ?_, ?_⟩, fun j j0 j1 => ?_, fun j j0 j1 => ?_, fun j j0 j1 => ?_⟩, ?_, ?_⟩
    · show up T 0 7 _ 0 5 = p.1.1
      rw [up_n _ _ _ (by decide), c1]
    · show up T 0 7 _ 0 6 = p.1.2.1
      rw [up_n _ _ _ (by decide), c2]
    · show up T 0 7 (T 0 7 + 1) 0 7 = p.1.2.2.1 + 1
      rw [up_s, c3]
    · show up T 0 7 _ 0 8 = p.1.2.2.2
      rw [up_n _ _ _ (by decide), c4]
    · show up T 0 (5 + 2) _ 2 j = p.2.1 j
      rw [o _ _ _ (by decide)]; exact hG j j0 j1
    · show up T 0 (5 + 2) _ 3 j = p.2.2.1 j
      rw [o _ _ _ (by decide)]; exact hS j j0 j1
    · show up T 0 (5 + 2) _ 4 j = uf (uf (uf p.2.2.2.1 (3 * p.1.2.2.1) (v 0)) (3 * p.1.2.2.1 + 1) (v 1)) (3 * p.1.2.2.1 + 2) (v 2) j
      replace j1 : j < 3 * (p.1.2.2.1 + 1) := j1
      rw [o _ _ _ (by decide), ufs, ufs, ufs]
      split
      · rename_i z; rw [z]; exact v2
      · split
        · rename_i z; rw [z]; exact v1
        · split
          · rename_i z; rw [z, ← v0]; congr 1; omega
          · exact hE j j0 (by omega)
    · show up T 0 7 _ 0 12 = p.2.2.2.2.1
      rw [up_n _ _ _ (by decide)]; exact hb.1
    · show up T 0 7 _ 0 13 = p.2.2.2.2.2
      rw [up_n _ _ _ (by decide)]; exact hb.2
  · have v0 : T 0 12 = v 0 := hv 0 (by decide) (by decide)
    have v1 : T 0 13 = v 1 := hv 1 (by decide) (by decide)
    refine ⟨⟨⟨?_, ?_, ?_, ?_⟩, fun j j0 j1 => ?_, fun j j0 j1 => ?_, fun j j0 j1 => ?_⟩, ?_, ?_⟩
    · show up T 0 8 _ 0 5 = p.1.1
      rw [up_n _ _ _ (by decide), c1]
    · show up T 0 8 _ 0 6 = p.1.2.1
      rw [up_n _ _ _ (by decide), c2]
    · show up T 0 8 _ 0 7 = p.1.2.2.1
      rw [up_n _ _ _ (by decide), c3]
    · show up T 0 8 (T 0 8 + 1) 0 8 = p.1.2.2.2 + 1
      rw [up_s, c4]
    · show up T 0 (5 + 3) _ 2 j = p.2.1 j
      rw [o _ _ _ (by decide)]; exact hG j j0 j1
    · show up T 0 (5 + 3) _ 3 j = p.2.2.1 j
      rw [o _ _ _ (by decide)]; exact hS j j0 j1
    · show up T 0 (5 + 3) _ 4 j = p.2.2.2.1 j
      rw [o _ _ _ (by decide)]; exact hE j j0 j1
    · show up T 0 8 _ 0 12 = v 0
      rw [up_n _ _ _ (by decide)]; exact v0
    · show up T 0 8 _ 0 13 = v 1
      rw [up_n _ _ _ (by decide)]; exact v1
