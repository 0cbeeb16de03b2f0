/-! the reference: the land read -/
/-- how a clause ends -/
def clO (t : Int → Int) (n a : Int) (p : PS) (T : St) : Prop := T 0 3 = (clP t n a p).1 ∧ ((¬ (clP t n a p).2.1 = -1 ∧ T 0 4 = (clP t n a p).2.1) ∨ ((clP t n a p).2.1 = (clP t n a p).1 ∧ T 0 4 = -1 ∧ (clP t n a p).1 < n ∧ ¬ t (clP t n a p).1 = 59 ∧ sk t n (clP t n a p).1 = (clP t n a p).1 ∧ 0 ≤ (clP t n a p).1) ∨ ((clP t n a p).2.1 = -1 ∧ T 0 4 = -1 ∧ psM (clP t n a p).2.2 T ∧ nbM (clP t n a p).2.2 T))
set_option maxHeartbeats 4000000 in
set_option maxRecDepth 8000 in
theorem t_M_readsClause (S : St) (p : PS) (Q : Option AV → St → Prop) (hp : okP p) (hP : psM p S) (hB : nbM p S) (ha : 0 ≤ S 0 3 ∧ S 0 3 ≤ S 0 2) (hn : S 0 2 ≤ 160) (hw : S 0 4 = -1)
    (hQ : ∀ T, Fr [2, 3, 4] [(0, 3), (0, 4), (0, 5), (0, 6), (0, 7), (0, 8), (0, 12), (0, 13)] S T → clO (S 1) (S 0 2) (S 0 3) p T → Q none T) : Smm H_M_readsClause 0 [some (.inr (.inr 0)), none, none, none, none, none] [] S Q := by
  generalize ht : S 1 = t at hQ
  generalize hnn : S 0 2 = n at hQ hn ha
  generalize hae : S 0 3 = a at hQ ha
  have hsb := sk_b t n a
  have hcl : clP t n a p = clP t n a p := rfl
  conv at hcl => rhs; rw [clP]
  unfold clO at hQ
  rw [hcl] at hQ
  clear hcl
  generalize hs : sk t n a = s at hsb hQ
  generalize hc : ch t n s = c at hQ
  generalize hT1 : up S 0 3 s = T1
  have hF1 : Fr [2, 3, 4] [(0, 3), (0, 4), (0, 5), (0, 6), (0, 7), (0, 8), (0, 12), (0, 13)] S T1 := by rw [← hT1]; exact (Fr.rf _ _ _).up _ _ _ rfl
  have r3 : T1 0 3 = s := by rw [← hT1, up_s]
  have r4 : T1 0 4 = -1 := by rw [← hT1, up_n _ _ _ (by decide), hw]
  have r1 : T1 1 = t := by rw [← hT1, up_o _ _ _ (by decide), ht]
  have r2 : T1 0 2 = n := by rw [← hT1, up_n _ _ _ (by decide), hnn]
  have hP1 : psM p T1 := by
    rw [← hT1]
    unfold psM at hP ⊢
    rw [up_o S _ _ (c' := 2) (by decide), up_o S _ _ (c' := 3) (by decide), up_o S _ _ (c' := 4) (by decide), up_n _ _ _ (by decide), up_n _ _ _ (by decide), up_n _ _ _ (by decide), up_n _ _ _ (by decide)]
    exact hP
  have hB1 : nbM p T1 := by
    rw [← hT1]
    unfold nbM at hB ⊢
    rw [up_n _ _ _ (by decide), up_n _ _ _ (by decide)]
    exact hB
  have no : (kd c < 0 ∨ mxK (kd c) ≤ ctK (kd c) p) → Smm H_M_readsClause 66 [some (.inr (.inr 0)), some (.inl c), none, none, none, none] [.inl 0] T1 Q := by
    intro hz
    rw [if_pos hz] at hQ
    have hq := hQ (up T1 0 4 s) (hF1.up _ _ _ rfl) ⟨by rw [up_n _ _ _ (by decide), r3], Or.inl ⟨by dsimp only; omega, by rw [up_s]⟩⟩
    rw [← r3] at hq
    refine sound ok_M_readsClause [] 20 ?_
    exact ⟨fun z => absurd rfl z, fun _ => hq⟩
  have yes : ¬ (kd c < 0 ∨ mxK (kd c) ≤ ctK (kd c) p) → Smm H_M_readsClause 66 [some (.inr (.inr 0)), some (.inl c), none, none, none, none] [.inl 1] T1 Q := by
    intro hz
    rw [if_neg hz] at hQ
    have hk : 0 ≤ kd c := by omega
    have hk3 : kd c ≤ 3 := by have := kd_v c; omega
    have hlt : s < n := by
      by_cases z : s < n
      · exact z
      · have h1 : c = -1 := by rw [← hc]; unfold ch; rw [if_neg z]
        rw [h1] at hk
        exact absurd hk (by decide)
    have hcb : 0 ≤ ctK (kd c) p ∧ ctK (kd c) p < mxK (kd c) := by
      obtain ⟨⟨x1, x2, x3, x4, x5, x6, x7, x8, x9⟩, _⟩ := hp
      refine ⟨?_, by omega⟩
      rcases k4 hk hk3 with z | z | z | z <;> rw [z]
      · exact x1
      · exact x3
      · exact x5
      · exact x7
    generalize hT2 : up T1 0 3 (s + 1) = T2
    have hT2' : up T1 0 3 (i32 (T1 0 3 + 1)) = T2 := by rw [r3, i32_id (by omega) (by omega), hT2]
    have w3 : T2 0 3 = s + 1 := by rw [← hT2, up_s]
    have w4 : T2 0 4 = -1 := by rw [← hT2, up_n _ _ _ (by decide), r4]
    have hF2 : Fr [2, 3, 4] [(0, 3), (0, 4), (0, 5), (0, 6), (0, 7), (0, 8), (0, 12), (0, 13)] S T2 := by rw [← hT2]; exact hF1.up _ _ _ rfl
    have hP2 : psM p T2 := by
      rw [← hT2]
      unfold psM at hP1 ⊢
      rw [up_o T1 _ _ (c' := 2) (by decide), up_o T1 _ _ (c' := 3) (by decide), up_o T1 _ _ (c' := 4) (by decide), up_n _ _ _ (by decide), up_n _ _ _ (by decide), up_n _ _ _ (by decide), up_n _ _ _ (by decide)]
      exact hP1
    have hB2 : nbM p T2 := by
      rw [← hT2]
      unfold nbM at hB1 ⊢
      rw [up_n _ _ _ (by decide), up_n _ _ _ (by decide)]
      exact hB1
    have go : ∀ T3, Fr [2, 3, 4] [(0, 3), (0, 4), (0, 5), (0, 6), (0, 7), (0, 8), (0, 12), (0, 13)] S T3 → T3 0 3 = s + 1 → T3 0 4 = -1 → psM p T3 → (kd c ≠ 3 → nbM p T3) → (∀ i, 0 ≤ i → i < szK (kd c) → vM T3 (kd c) i = dfK (kd c) i) → Smm H_M_readsClause 237 [some (.inr (.inr 0)), some (.inl c), some (.inl 1), some (.inl 0), none, none] [] T3 Q := by
      intro T3 g1 g2 g3 g4 g5 g6
      refine t_M_items S c p Q hk (by omega) hcb t ht n hnn 5 (s + 1) (fun _ => false) (dfK (kd c)) T3 0 1 none none rfl g1 g2 (by omega) g3 g4 g5 g6 (wsI_0 _) (fun T' hF' hO => ?_)
      refine hQ T' hF' ?_
      generalize itL t n (kd c) p.1.2.1 5 (s + 1) (fun _ => false) (dfK (kd c)) = r at hO ⊢
      by_cases hr : r.2.1 = -1
      · rw [if_pos hr]
        refine ⟨hO.1, ?_⟩
        rcases hO.2 with z | z | z
        · exact absurd hr z.1
        · have := z.2.2.2.2.2
          exact absurd z.1 (by omega)
        · exact Or.inr (Or.inr ⟨rfl, z.2⟩)
      · rw [if_neg hr]
        refine ⟨hO.1, ?_⟩
        rcases hO.2 with z | z | z
        · exact Or.inl z
        · exact Or.inr (Or.inl z)
        · exact absurd z.1 hr
    clear hQ
    have sz : ∀ i, 0 ≤ i → i < szK (kd c) → i = 0 ∨ i = 1 ∨ i = 2 ∨ i = 3 := fun i i0 i1 => by have := szK_b (kd c); omega
    -- the defaults
    rcases (kd_v c).resolve_left (by omega) with ⟨rfl, hz⟩ | ⟨rfl, hz⟩ | ⟨rfl, hz⟩ | ⟨rfl, hz⟩
    · rw [hz] at go hcb sz
      have hcv : T2 0 5 = ctK 0 p := ctM_ps hP2 0
      have hcb2 : 0 ≤ T2 0 5 ∧ T2 0 5 < 4 := by rw [hcv]; exact hcb
      have f0 : i32 (2 * T2 0 5) = 2 * T2 0 5 + 0 := by rw [i32_id (by omega) (by omega)]; omega
      have f1 : i32 (i32 (2 * T2 0 5) + 1) = 2 * T2 0 5 + 1 := by rw [f0, i32_id (by omega) (by omega)]; omega
      obtain ⟨a0, b0, c0, d0, e0⟩ := wrM_ps (k := 0) (i := 0) (x := 10) (by decide) (by decide) hP2
      have fr0 := wrM_fr T2 (k := 0) (i := 0) 10 (by decide) (by decide)
      obtain ⟨a1, b1, c1, d1, e1⟩ := wrM_ps (k := 0) (i := 1) (x := 0) (by decide) (by decide) a0
      have fr1 := wrM_fr (wrM T2 0 0 10) (k := 0) (i := 1) 0 (by decide) (by decide)
      have fin := go (wrM (wrM T2 0 0 10) 0 1 0) ((hF2.tr fr0).tr fr1) (by rw [d1, d0, w3]) (by rw [e1, e0, w4]) a1 (fun z => b1 z (b0 z (hB2))) (fun i i0 i1 => ?_)
      · have em : (wrM (wrM T2 0 0 10) 0 1 0) = (up (up T2 2 (2 * T2 0 5 + 0) 10) 2 (2 * T2 0 5 + 1) 0) := by
          have q : ∀ (V : St) (j x : Int), V 0 = T2 0 → wrM V 0 j x = up V 2 (2 * T2 0 5 + j) x := fun V j x hV => by
            show up V 2 (2 * V 0 5 + j) x = _
            rw [hV]
          rw [q T2 0 10 (by rfl)]
          rw [q (up T2 2 (2 * T2 0 5 + 0) 10) 1 0 (by rw [up_o _ _ _ (by decide)])]
        rw [em, ← f1, ← f0, ← hT2'] at fin
        rw [← hT2'] at f0 f1 hcb2
        refine sound ok_M_readsClause [237] 100 ?_
        refine ⟨fun _ => ?_, fun z => absurd z (by decide)⟩
        refine ⟨fun z => absurd rfl z, fun _ => ?_⟩
        have g0 : 0 ≤ i32 (2 * (up T1 0 3 (i32 (T1 0 3 + 1))) 0 5) ∧ i32 (2 * (up T1 0 3 (i32 (T1 0 3 + 1))) 0 5) < 8 := by rw [f0]; omega
        have g1 : 0 ≤ i32 (i32 (2 * (up T1 0 3 (i32 (T1 0 3 + 1))) 0 5) + 1) ∧ i32 (i32 (2 * (up T1 0 3 (i32 (T1 0 3 + 1))) 0 5) + 1) < 8 := by rw [f1]; omega
        refine ⟨g0, ?_⟩
        refine ⟨g1, ?_⟩
        exact fin
      · have i2 : i < 2 := i1
        have hi : i = 0 ∨ i = 1 := by omega
        rcases hi with rfl | rfl
        · rw [c1 0 (by decide) (by decide), if_neg (by decide), c0 0 (by decide) (by decide), if_pos rfl]
          rfl
        · rw [c1 1 (by decide) (by decide), if_pos rfl]
          rfl
    · rw [hz] at go hcb sz
      have hcv : T2 0 6 = ctK 1 p := ctM_ps hP2 1
      have hcb2 : 0 ≤ T2 0 6 ∧ T2 0 6 < 5 := by rw [hcv]; exact hcb
      have f0 : i32 (4 * T2 0 6) = 4 * T2 0 6 + 0 := by rw [i32_id (by omega) (by omega)]; omega
      have f1 : i32 (i32 (4 * T2 0 6) + 1) = 4 * T2 0 6 + 1 := by rw [f0, i32_id (by omega) (by omega)]; omega
      have f2 : i32 (i32 (4 * T2 0 6) + 2) = 4 * T2 0 6 + 2 := by rw [f0, i32_id (by omega) (by omega)]; omega
      have f3 : i32 (i32 (4 * T2 0 6) + 3) = 4 * T2 0 6 + 3 := by rw [f0, i32_id (by omega) (by omega)]; omega
      obtain ⟨a0, b0, c0, d0, e0⟩ := wrM_ps (k := 1) (i := 0) (x := 0) (by decide) (by decide) hP2
      have fr0 := wrM_fr T2 (k := 1) (i := 0) 0 (by decide) (by decide)
      obtain ⟨a1, b1, c1, d1, e1⟩ := wrM_ps (k := 1) (i := 1) (x := 0) (by decide) (by decide) a0
      have fr1 := wrM_fr (wrM T2 1 0 0) (k := 1) (i := 1) 0 (by decide) (by decide)
      obtain ⟨a2, b2, c2, d2, e2⟩ := wrM_ps (k := 1) (i := 2) (x := -1) (by decide) (by decide) a1
      have fr2 := wrM_fr (wrM (wrM T2 1 0 0) 1 1 0) (k := 1) (i := 2) (-1) (by decide) (by decide)
      obtain ⟨a3, b3, c3, d3, e3⟩ := wrM_ps (k := 1) (i := 3) (x := 0) (by decide) (by decide) a2
      have fr3 := wrM_fr (wrM (wrM (wrM T2 1 0 0) 1 1 0) 1 2 (-1)) (k := 1) (i := 3) 0 (by decide) (by decide)
      have fin := go (wrM (wrM (wrM (wrM T2 1 0 0) 1 1 0) 1 2 (-1)) 1 3 0) ((((hF2.tr fr0).tr fr1).tr fr2).tr fr3) (by rw [d3, d2, d1, d0, w3]) (by rw [e3, e2, e1, e0, w4]) a3 (fun z => b3 z (b2 z (b1 z (b0 z (hB2))))) (fun i i0 i1 => ?_)
      · have em : (wrM (wrM (wrM (wrM T2 1 0 0) 1 1 0) 1 2 (-1)) 1 3 0) = (up (up (up (up T2 3 (4 * T2 0 6 + 0) 0) 3 (4 * T2 0 6 + 1) 0) 3 (4 * T2 0 6 + 2) (-1)) 3 (4 * T2 0 6 + 3) 0) := by
          have q : ∀ (V : St) (j x : Int), V 0 = T2 0 → wrM V 1 j x = up V 3 (4 * T2 0 6 + j) x := fun V j x hV => by
            show up V 3 (4 * V 0 6 + j) x = _
            rw [hV]
          rw [q T2 0 0 (by rfl)]
          rw [q (up T2 3 (4 * T2 0 6 + 0) 0) 1 0 (by rw [up_o _ _ _ (by decide)])]
          rw [q (up (up T2 3 (4 * T2 0 6 + 0) 0) 3 (4 * T2 0 6 + 1) 0) 2 (-1) (by rw [up_o _ _ _ (by decide), up_o _ _ _ (by decide)])]
          rw [q (up (up (up T2 3 (4 * T2 0 6 + 0) 0) 3 (4 * T2 0 6 + 1) 0) 3 (4 * T2 0 6 + 2) (-1)) 3 0 (by rw [up_o _ _ _ (by decide), up_o _ _ _ (by decide), up_o _ _ _ (by decide)])]
        rw [em, ← f3, ← f2, ← f1, ← f0, ← hT2'] at fin
        rw [← hT2'] at f0 f1 f2 f3 hcb2
        refine sound ok_M_readsClause [237] 100 ?_
        refine ⟨fun _ => ?_, fun z => absurd z (by decide)⟩
        refine ⟨fun _ => ?_, fun z => absurd z (by decide)⟩
        refine ⟨fun z => absurd rfl z, fun _ => ?_⟩
        have g0 : 0 ≤ i32 (4 * (up T1 0 3 (i32 (T1 0 3 + 1))) 0 6) ∧ i32 (4 * (up T1 0 3 (i32 (T1 0 3 + 1))) 0 6) < 20 := by rw [f0]; omega
        have g1 : 0 ≤ i32 (i32 (4 * (up T1 0 3 (i32 (T1 0 3 + 1))) 0 6) + 1) ∧ i32 (i32 (4 * (up T1 0 3 (i32 (T1 0 3 + 1))) 0 6) + 1) < 20 := by rw [f1]; omega
        have g2 : 0 ≤ i32 (i32 (4 * (up T1 0 3 (i32 (T1 0 3 + 1))) 0 6) + 2) ∧ i32 (i32 (4 * (up T1 0 3 (i32 (T1 0 3 + 1))) 0 6) + 2) < 20 := by rw [f2]; omega
        have g3 : 0 ≤ i32 (i32 (4 * (up T1 0 3 (i32 (T1 0 3 + 1))) 0 6) + 3) ∧ i32 (i32 (4 * (up T1 0 3 (i32 (T1 0 3 + 1))) 0 6) + 3) < 20 := by rw [f3]; omega
        refine ⟨g0, ?_⟩
        refine ⟨g1, ?_⟩
        refine ⟨g2, ?_⟩
        refine ⟨g3, ?_⟩
        exact fin
      · have i2 : i < 4 := i1
        have hi : i = 0 ∨ i = 1 ∨ i = 2 ∨ i = 3 := by omega
        rcases hi with rfl | rfl | rfl | rfl
        · rw [c3 0 (by decide) (by decide), if_neg (by decide), c2 0 (by decide) (by decide), if_neg (by decide), c1 0 (by decide) (by decide), if_neg (by decide), c0 0 (by decide) (by decide), if_pos rfl]
          rfl
        · rw [c3 1 (by decide) (by decide), if_neg (by decide), c2 1 (by decide) (by decide), if_neg (by decide), c1 1 (by decide) (by decide), if_pos rfl]
          rfl
        · rw [c3 2 (by decide) (by decide), if_neg (by decide), c2 2 (by decide) (by decide), if_pos rfl]
          rfl
        · rw [c3 3 (by decide) (by decide), if_pos rfl]
          rfl
    · rw [hz] at go hcb sz
      have hcv : T2 0 7 = ctK 2 p := ctM_ps hP2 2
      have hcb2 : 0 ≤ T2 0 7 ∧ T2 0 7 < 12 := by rw [hcv]; exact hcb
      have f0 : i32 (3 * T2 0 7) = 3 * T2 0 7 + 0 := by rw [i32_id (by omega) (by omega)]; omega
      have f1 : i32 (i32 (3 * T2 0 7) + 1) = 3 * T2 0 7 + 1 := by rw [f0, i32_id (by omega) (by omega)]; omega
      have f2 : i32 (i32 (3 * T2 0 7) + 2) = 3 * T2 0 7 + 2 := by rw [f0, i32_id (by omega) (by omega)]; omega
      obtain ⟨a0, b0, c0, d0, e0⟩ := wrM_ps (k := 2) (i := 0) (x := 0) (by decide) (by decide) hP2
      have fr0 := wrM_fr T2 (k := 2) (i := 0) 0 (by decide) (by decide)
      obtain ⟨a1, b1, c1, d1, e1⟩ := wrM_ps (k := 2) (i := 1) (x := 0) (by decide) (by decide) a0
      have fr1 := wrM_fr (wrM T2 2 0 0) (k := 2) (i := 1) 0 (by decide) (by decide)
      obtain ⟨a2, b2, c2, d2, e2⟩ := wrM_ps (k := 2) (i := 2) (x := 0) (by decide) (by decide) a1
      have fr2 := wrM_fr (wrM (wrM T2 2 0 0) 2 1 0) (k := 2) (i := 2) 0 (by decide) (by decide)
      have fin := go (wrM (wrM (wrM T2 2 0 0) 2 1 0) 2 2 0) (((hF2.tr fr0).tr fr1).tr fr2) (by rw [d2, d1, d0, w3]) (by rw [e2, e1, e0, w4]) a2 (fun z => b2 z (b1 z (b0 z (hB2)))) (fun i i0 i1 => ?_)
      · have em : (wrM (wrM (wrM T2 2 0 0) 2 1 0) 2 2 0) = (up (up (up T2 4 (3 * T2 0 7 + 0) 0) 4 (3 * T2 0 7 + 1) 0) 4 (3 * T2 0 7 + 2) 0) := by
          have q : ∀ (V : St) (j x : Int), V 0 = T2 0 → wrM V 2 j x = up V 4 (3 * T2 0 7 + j) x := fun V j x hV => by
            show up V 4 (3 * V 0 7 + j) x = _
            rw [hV]
          rw [q T2 0 0 (by rfl)]
          rw [q (up T2 4 (3 * T2 0 7 + 0) 0) 1 0 (by rw [up_o _ _ _ (by decide)])]
          rw [q (up (up T2 4 (3 * T2 0 7 + 0) 0) 4 (3 * T2 0 7 + 1) 0) 2 0 (by rw [up_o _ _ _ (by decide), up_o _ _ _ (by decide)])]
        rw [em, ← f2, ← f1, ← f0, ← hT2'] at fin
        rw [← hT2'] at f0 f1 f2 hcb2
        refine sound ok_M_readsClause [237] 100 ?_
        refine ⟨fun _ => ?_, fun z => absurd z (by decide)⟩
        refine ⟨fun _ => ?_, fun z => absurd z (by decide)⟩
        refine ⟨fun _ => ?_, fun z => absurd z (by decide)⟩
        refine ⟨fun z => absurd rfl z, fun _ => ?_⟩
        have g0 : 0 ≤ i32 (3 * (up T1 0 3 (i32 (T1 0 3 + 1))) 0 7) ∧ i32 (3 * (up T1 0 3 (i32 (T1 0 3 + 1))) 0 7) < 36 := by rw [f0]; omega
        have g1 : 0 ≤ i32 (i32 (3 * (up T1 0 3 (i32 (T1 0 3 + 1))) 0 7) + 1) ∧ i32 (i32 (3 * (up T1 0 3 (i32 (T1 0 3 + 1))) 0 7) + 1) < 36 := by rw [f1]; omega
        have g2 : 0 ≤ i32 (i32 (3 * (up T1 0 3 (i32 (T1 0 3 + 1))) 0 7) + 2) ∧ i32 (i32 (3 * (up T1 0 3 (i32 (T1 0 3 + 1))) 0 7) + 2) < 36 := by rw [f2]; omega
        refine ⟨g0, ?_⟩
        refine ⟨g1, ?_⟩
        refine ⟨g2, ?_⟩
        exact fin
      · have i2 : i < 3 := i1
        have hi : i = 0 ∨ i = 1 ∨ i = 2 := by omega
        rcases hi with rfl | rfl | rfl
        · rw [c2 0 (by decide) (by decide), if_neg (by decide), c1 0 (by decide) (by decide), if_neg (by decide), c0 0 (by decide) (by decide), if_pos rfl]
          rfl
        · rw [c2 1 (by decide) (by decide), if_neg (by decide), c1 1 (by decide) (by decide), if_pos rfl]
          rfl
        · rw [c2 2 (by decide) (by decide), if_pos rfl]
          rfl
    · rw [hz] at go hcb sz
      have hcb2 : p.1.2.2.2 < 1 := hcb.2
      have hcb3 : 0 ≤ p.1.2.2.2 := hcb.1
      have e21 := hp.1.2.2.2.2.2.2.2.2 (by omega)
      refine sound ok_M_readsClause [237] 60 ?_
      refine ⟨fun _ => ?_, fun z => absurd z (by decide)⟩
      refine ⟨fun _ => ?_, fun z => absurd z (by decide)⟩
      refine ⟨fun _ => ?_, fun z => absurd z (by decide)⟩
      refine ⟨fun _ => ?_, fun z => absurd z (by decide)⟩
      have fin := go T2 hF2 w3 w4 hP2 (fun z => absurd rfl z) (fun i i0 i1 => ?_)
      · rw [← hT2'] at fin
        exact fin
      · have i2 : i < 2 := i1
        have hi : i = 0 ∨ i = 1 := by omega
        rcases hi with rfl | rfl
        · show T2 0 12 = 2
          rw [hB2.1, e21]
        · show T2 0 13 = 1
          rw [hB2.2, e21]
  refine sound ok_M_readsClause [66] 60 ?_
  refine t_M_sees S _ (by omega) (by omega) ?_
  rw [ht, hnn, hae, hs, hc, hT1]
  have q5 : T1 0 5 = p.1.1 := hP1.1.1
  have q6 : T1 0 6 = p.1.2.1 := hP1.1.2.1
  have q7 : T1 0 7 = p.1.2.2.1 := hP1.1.2.2.1
  have q8 : T1 0 8 = p.1.2.2.2 := hP1.1.2.2.2
  rcases kd_v c with hz | ⟨rfl, hz⟩ | ⟨rfl, hz⟩ | ⟨rfl, hz⟩ | ⟨rfl, hz⟩
  · have c1 : ¬ c = 103 := fun z => by rw [z] at hz; exact absurd hz (by decide)
    have c2 : ¬ c = 115 := fun z => by rw [z] at hz; exact absurd hz (by decide)
    have c3 : ¬ c = 104 := fun z => by rw [z] at hz; exact absurd hz (by decide)
    have c4 : ¬ c = 98 := fun z => by rw [z] at hz; exact absurd hz (by decide)
    refine ⟨fun _ => ?_, fun z => absurd z c1⟩
    refine ⟨fun _ => ?_, fun z => absurd z c2⟩
    refine ⟨fun _ => ?_, fun z => absurd z c3⟩
    exact ⟨fun _ => no (Or.inl hz), fun z => absurd z c4⟩
  · rw [hz] at no yes
    refine ⟨fun z => absurd rfl z, fun _ => ?_⟩
    refine ⟨fun g => yes ?_, fun g => ?_⟩
    · rw [q5] at g
      rintro (y | y)
      · exact absurd y (by decide)
      · exact absurd (show 4 ≤ p.1.1 from y) (by omega)
    · rw [q5] at g
      refine ⟨fun _ => ?_, fun z => absurd z (by decide)⟩
      refine ⟨fun _ => ?_, fun z => absurd z (by decide)⟩
      exact ⟨fun _ => no (Or.inr g), fun z => absurd z (by decide)⟩
  · rw [hz] at no yes
    refine ⟨fun _ => ?_, fun z => absurd z (by decide)⟩
    refine ⟨fun z => absurd rfl z, fun _ => ?_⟩
    refine ⟨fun g => yes ?_, fun g => ?_⟩
    · rw [q6] at g
      rintro (y | y)
      · exact absurd y (by decide)
      · exact absurd (show 5 ≤ p.1.2.1 from y) (by omega)
    · rw [q6] at g
      refine ⟨fun _ => ?_, fun z => absurd z (by decide)⟩
      exact ⟨fun _ => no (Or.inr g), fun z => absurd z (by decide)⟩
  · rw [hz] at no yes
    refine ⟨fun _ => ?_, fun z => absurd z (by decide)⟩
    refine ⟨fun _ => ?_, fun z => absurd z (by decide)⟩
    refine ⟨fun z => absurd rfl z, fun _ => ?_⟩
    refine ⟨fun g => yes ?_, fun g => ?_⟩
    · rw [q7] at g
      rintro (y | y)
      · exact absurd y (by decide)
      · exact absurd (show 12 ≤ p.1.2.2.1 from y) (by omega)
    · rw [q7] at g
      exact ⟨fun _ => no (Or.inr g), fun z => absurd z (by decide)⟩
  · rw [hz] at no yes
    have nb := hp.1.2.2.2.2.2.2.1
    refine ⟨fun _ => ?_, fun z => absurd z (by decide)⟩
    refine ⟨fun _ => ?_, fun z => absurd z (by decide)⟩
    refine ⟨fun _ => ?_, fun z => absurd z (by decide)⟩
    refine ⟨fun z => absurd rfl z, fun _ => ?_⟩
    refine ⟨fun g => no (Or.inr ?_), fun g => yes ?_⟩
    · rw [q8] at g
      show 1 ≤ p.1.2.2.2
      omega
    · rw [q8] at g
      rintro (y | y)
      · exact absurd y (by decide)
      · exact absurd (show 1 ≤ p.1.2.2.2 from y) (by omega)
