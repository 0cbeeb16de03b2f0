/-! the class: texts -/
theorem lw_ok {t : Int → Int} {n : Int} (hn : 0 ≤ n) (h : lwW t n = -1) : (rdP t n).1 = -1 ∧ whP (rdP t n).2 ∧ okP (rdP t n).2 := by
  have hok := ldP_ok (t := t) (n := n) (n + 1).toNat 0 p0 (by omega) hn okP_0
  unfold lwW at h
  by_cases z : (rdP t n).1 = -1
  · rw [if_pos z] at h
    by_cases y : whP (rdP t n).2
    · exact ⟨z, y, hok.1⟩
    · rw [if_neg y] at h
      omega
  · rw [if_neg z] at h
    exact absurd h z
set_option maxHeartbeats 4000000 in
theorem t_takeLand (R S : St) (Q : Option AV → St → Prop) (h : Rel R S) (h0 : ¬ lwW (R 1) (R 0 2) = -1 → ∀ S', Xs S S' → Rel R S' → Q (some (.inl (-1))) S') (h1 : lwW (R 1) (R 0 2) = -1 → ∀ S', Xs S S' → (∀ U, ldT R (rdP (R 1) (R 0 2)).2 U → Rel U S') → Q (some (.inl (rdP (R 1) (R 0 2)).2.1.1)) S') : Smm H_X_takeLand 0 [some (.inr (.inr 40))] [] S Q := by
  obtain ⟨e1, e2⟩ := h.1.2.1
  have hn := h.1.1.2.2.2.1.1
  rw [← e1, ← e2] at h0 h1
  rw [← e1] at hn
  refine sound ok_X_takeLand [] 60 ?_
  refine t_ldRead S _ h.tp (fun S1 hF1 hd => ?_)
  refine ⟨fun z => ?_, fun z => h0 z S1 (Xs.of hF1 rfl) (h.fr hF1 rfl rfl)⟩
  obtain ⟨w1, w2, w3⟩ := lw_ok hn.1 z
  have hd := hd z
  have hh1 := h1 z
  generalize (rdP (S 44) (S 43 1)).2 = p at hd hh1 w2 w3
  refine t_copy_l S1 _ (fun S2 hF2 c0 ca => ?_)
  have hF3 : Fr [] [(43, 1)] S2 (up S2 43 1 0) := (Fr.rf _ _ _).up _ _ _ rfl
  refine t_bkLeave (up S2 43 1 0) _ (fun S4 hF4 cb cp => ?_)
  refine ⟨Or.inl rfl, ?_⟩
  have hF5 : Fr [] [(40, 10)] S4 (up S4 40 10 0) := (Fr.rf _ _ _).up _ _ _ rfl
  refine t_forget (up S4 40 10 0) _ ?_
  have hF6 := fo_fr (up S4 40 10 0)
  obtain ⟨⟨ng, ns, ne, nb⟩, G, Sg, E, nd, br⟩ := p
  obtain ⟨⟨k1, k2, k3, k4, k5, k6, k7, k8, k9⟩, hG, hSg, hE, hN⟩ := w3
  obtain ⟨v1, v2, v3, v4⟩ := w2
  obtain ⟨⟨d0, d1, d2, d3, d4, d5, d7⟩, d6, dg, ds, dd⟩ := hd
  obtain ⟨ca0, ca1, ca2, ca3, ca4, ca5, ca6⟩ := ca
  dsimp only at *
  have land : ∀ c ∈ [63, 66, 67, 68, 69, 70, 64, 65], up (up (up (up S4 40 10 0) 106 0 0) 106 1 0) 117 0 0 c = S2 c := fun c hc => by
    have q3 := (fr_get hF3 (A := [63, 66, 67, 68, 69, 70, 64, 65]) (B := []) rfl).1 c hc
    have q4 := (fr_get hF4 (A := [63, 66, 67, 68, 69, 70, 64, 65]) (B := []) rfl).1 c hc
    have q5 := (fr_get hF5 (A := [63, 66, 67, 68, 69, 70, 64, 65]) (B := []) rfl).1 c hc
    have q6 := (fr_get hF6 (A := [63, 66, 67, 68, 69, 70, 64, 65]) (B := []) rfl).1 c hc
    rw [q6, q5, q4, q3]
  have l0 : up (up (up (up S4 40 10 0) 106 0 0) 106 1 0) 117 0 0 63 0 = ng := by
    rw [land 63 (by simp), c0 0 (by decide) (by decide)]
    exact d0
  have hq := hh1 (up (up (up (up S4 40 10 0) 106 0 0) 106 1 0) 117 0 0) ((((((Xs.of hF1 rfl).tr (Xs.of hF2 rfl)).tr (Xs.of hF3 rfl)).tr (Xs.of hF4 rfl)).tr (Xs.of hF5 rfl)).tr (Xs.of hF6 rfl)) (fun U hU => ?_)
  · rw [← l0] at hq
    exact hq
  obtain ⟨hFU, ⟨u18, u2, u19, u20, u21, u22, u49, u52, u56⟩, up1, ug, us, ul⟩ := hU
  dsimp only at u19 u20 u21 u22 ug us ul
  obtain ⟨k, ks⟩ := fr_get hFU (A := [1, 15, 16, 30, 32, 33, 34, 35, 36, 37, 38, 39]) (B := [(0, 31), (0, 51), (0, 57), (0, 58), (0, 59)]) rfl
  obtain ⟨⟨r1, r2, r3, r4, r5, r6, r7⟩, t, l, pl, b, i⟩ := h.1
  have hplans := r3.1
  have hlt := fun j => ltF_h (E := E) (j := j) ne.toNat (fun k' k0 k1 => (hE k' k0 (by omega)).2.2)
  have stay : ∀ c ∈ [44, 57, 58, 59, 60], up (up (up (up S4 40 10 0) 106 0 0) 106 1 0) 117 0 0 c = S c := fun c hc => by
    have q1 := (fr_get hF1 (A := [44, 57, 58, 59, 60]) (B := []) rfl).1 c hc
    have q2 := (fr_get hF2 (A := [44, 57, 58, 59, 60]) (B := []) rfl).1 c hc
    have q3 := (fr_get hF3 (A := [44, 57, 58, 59, 60]) (B := []) rfl).1 c hc
    have q4 := (fr_get hF4 (A := [44, 57, 58, 59, 60]) (B := []) rfl).1 c hc
    have q5 := (fr_get hF5 (A := [44, 57, 58, 59, 60]) (B := []) rfl).1 c hc
    have q6 := (fr_get hF6 (A := [44, 57, 58, 59, 60]) (B := []) rfl).1 c hc
    rw [q6, q5, q4, q3, q2, q1]
  have e31 : U 0 31 = R 0 31 := ks (0, 31) (by simp)
  have hRI : rI U := by
    refine ⟨fun _ => ⟨?_, ?_, ?_, fun s s0 s1 => ?_, fun j j0 j1 => ?_, fun g g0 g1 => ?_, fun g g0 g1 => ?_⟩, fun q => absurd (u18.symm.trans q) (by decide), ?_, ?_, ?_, ?_, fun q => absurd u56 q⟩
    · rw [u19]; omega
    · rw [u20]; omega
    · rw [u21, u22]; omega
    · rw [u20] at s1
      obtain ⟨x1, x2, x3, x4⟩ := us s s0 s1
      have q := hSg s s0 s1
      rw [x1, x2, x3, x4]
      omega
    · rw [ul j j0 j1]
      rcases hlt j with ⟨l1, _⟩ | ⟨l1, _⟩ <;> omega
    · rw [up1 g g0 g1, e31]; omega
    · rw [u19] at g1
      obtain ⟨x1, x2⟩ := ug g g0 g1
      have q1 := hG (2 * g) (by omega) (by omega)
      have q2 := hG (2 * g + 1) (by omega) (by omega)
      rw [x1, x2]
      omega
    · unfold plM at r3 ⊢
      rw [ks (0, 31) (by simp), k 16 (by simp), k 15 (by simp)]
      exact r3
    · exact ⟨by rw [u2]; decide, fun j j0 j1 => absurd j1 (by rw [u2]; omega)⟩
    · exact ⟨by rw [u49]; decide, fun j j0 j1 => absurd j1 (by rw [u49]; omega)⟩
    · exact ⟨by rw [u52]; decide, fun m g m0 m1 => absurd m1 (by rw [u52]; omega)⟩
  refine ⟨⟨hRI, ⟨?_, ?_⟩, ⟨⟨?_, ?_⟩, fun _ => ⟨⟨?_, ?_, ?_⟩, fun s s0 s1 => ?_, fun j j0 j1 => ?_, fun g g0 g1 => ?_⟩⟩, ?_, ⟨fun g g0 g1 => ?_, ⟨?_, fun j j0 j1 => ?_⟩, ⟨?_, fun j j0 j1 => ?_⟩, ?_⟩, ⟨?_, fun q => absurd u56 q⟩⟩, ca_0 _ _⟩
  · rw [hF6.c 43 rfl, hF5.c 43 rfl, hF4.c 43 rfl, up_s, u2]
  · rw [stay 44 (by simp), e2]
    exact (k 1 (by simp)).symm
  · rw [l0, u19]
  · rw [land 63 (by simp), c0 1 (by decide) (by decide), u20]; exact d1
  · rw [land 63 (by simp), c0 4 (by decide) (by decide), u21]; exact d4
  · rw [land 63 (by simp), c0 5 (by decide) (by decide), u22]; exact d5
  · rw [land 63 (by simp), c0 7 (by decide) (by decide)]; exact d7
  · rw [u20] at s1
    obtain ⟨x1, x2, x3, x4⟩ := us s s0 s1
    obtain ⟨y1, y2, y3, y4⟩ := ds s s0 s1
    rw [land 66 (by simp), land 67 (by simp), land 68 (by simp), land 69 (by simp), ca2 s s0 (by omega), ca3 s s0 (by omega), ca4 s s0 (by omega), ca5 s s0 (by omega), x1, x2, x3, x4]
    exact ⟨y1, y2, y3, y4⟩
  · rw [land 70 (by simp), ca6 j j0 j1, ul j j0 j1]
    exact dd j j0 j1
  · rw [u19] at g1
    obtain ⟨x1, x2⟩ := ug g g0 g1
    obtain ⟨y1, y2⟩ := dg g g0 g1
    rw [land 64 (by simp), land 65 (by simp), ca0 g g0 (by omega), ca1 g g0 (by omega), x1, x2]
    exact ⟨y1, y2⟩
  · unfold PlR plR1
    rw [stay 57 (by simp), stay 58 (by simp), stay 59 (by simp), stay 60 (by simp), ks (0, 31) (by simp), k 16 (by simp), k 15 (by simp)]
    exact pl
  · rw [hF6.c 80 rfl, hF5.c 80 rfl, cp g g0 g1, up1 g g0 g1]
  · rw [hF6.c 79 rfl, hF5.c 79 rfl, cb.1, u49]
  · rw [u49] at j1; omega
  · rw [hF6.c 79 rfl, hF5.c 79 rfl, cb.2, u52]
  · rw [u52] at j1; omega
  · rw [hF6.c 79 rfl, hF5.c 79 rfl, hF4.s 79 9 rfl, hF3.c 79 rfl, hF2.c 79 rfl, hF1.c 79 rfl, ks (0, 51) (by simp)]
    exact b.2.2.2
  · rw [hF6.c 40 rfl, up_s, u56]
theorem plM_of {U S : St} (h : PlR U S) : plM U := by
  refine ⟨h.2.1, fun p p0 p1 => ?_⟩
  obtain ⟨rc, xc, c1, c2, c3, c4, c5⟩ := h.2.2 p p0 p1
  refine ⟨rc.length, c1, ?_⟩
  have f1 : (rc.length : Int) ≤ 160 := c5.1
  have f2 : 1 ≤ rc.length := c5.2.1
  exact cd_of c5.2.2.2.1 c5.2.2.2.2.1 f2 (by omega) c2
theorem FT_mo {n : Int} {q : PT} (h : FT n q) (hn : n ≤ 160) : FT 160 ((0, 0), ([], q.2.1.2), (q.2.2.1, q.2.2.2)) := by
  obtain ⟨a, b, c, d⟩ := h
  exact ⟨by show (q.2.1.2.length : Int) ≤ 160; omega, b, by show (q.2.2.1.length : Int) ≤ 160; omega, d⟩
set_option maxHeartbeats 4000000 in
theorem t_takePlan (R S : St) (Q : Option AV → St → Prop) (h : Rel R S) (h0 : ¬ (¬ R 0 31 = 8 ∧ (rdT (R 1) (R 0 2)).1 = -1) → ∀ S', Xs S S' → Rel R S' → Q (some (.inl (-1))) S') (h1 : ¬ R 0 31 = 8 → (rdT (R 1) (R 0 2)).1 = -1 → ∀ S', Xs S S' → (∀ U, plT R (rdT (R 1) (R 0 2)).2.2.1.2 U → Rel U S') → Q (some (.inl (R 0 31))) S') : Smm H_X_takePlan 0 [some (.inr (.inr 40))] [] S Q := by
  obtain ⟨e1, e2⟩ := h.1.2.1
  have hn := h.1.1.2.2.2.1.1
  have hp8 := h.1.1.2.2.1.1
  have ec : S 57 3 = R 0 31 := h.1.2.2.2.1.1
  rw [← e1, ← e2] at h0 h1
  rw [← e1] at hn
  refine sound ok_X_takePlan [] 60 ?_
  refine ⟨fun z => h0 (fun q => q.1 (by omega)) S (Xs.rf S) h, fun z => ?_⟩
  refine t_plRead S _ h.tp (fun S1 hF1 hd => ?_)
  refine ⟨fun y => ?_, fun y => h0 (fun q => y q.2) S1 (Xs.of hF1 rfl) (h.fr hF1 rfl rfl)⟩
  have hft := FT_mo (rdT_ok hn.1 y) hn.2
  have hd := hd y
  have hh1 := h1 (by omega) y
  generalize (rdT (S 44) (S 43 1)).2 = qq at hd hh1 hft
  obtain ⟨qa, ⟨wt, rc⟩, ⟨xc, lt⟩⟩ := qq
  dsimp only at hd hh1 hft
  obtain ⟨s1, s2, s3⟩ := hd
  have ec1 : S1 57 3 = R 0 31 := by rw [hF1.c 57 rfl]; exact ec
  have hxl : (xc.length : Int) ≤ 160 := hft.2.2.1
  have hrl : (rc.length : Int) ≤ 160 := hft.1
  refine t_plAdd S1 (R 0 31) _ ec1 (by omega) (by rw [s1]; omega) (fun S2 hF2 c3 cs cl cc => ?_)
  have hF3 : Fr [] [(43, 1)] S2 (up S2 43 1 0) := (Fr.rf _ _ _).up _ _ _ rfl
  have ev : i32 (up S2 43 1 0 57 3 - 1) = R 0 31 := by
    rw [hF3.c 57 rfl, c3, i32_id (by omega) (by omega)]
    omega
  have hq := hh1 (up S2 43 1 0) (((Xs.of hF1 rfl).tr (Xs.of hF2 rfl)).tr (Xs.of hF3 rfl)) (fun U hU => ?_)
  · rw [← ev] at hq
    exact hq
  clear ev
  obtain ⟨hFU, u31, u2, ⟨u5, u6⟩, u7, u8⟩ := hU
  obtain ⟨k, ks⟩ := fr_get hFU (A := [1, 7, 8, 9, 10, 11, 12, 13, 14, 30, 32, 33, 34, 35, 36, 37, 38, 39]) (B := [(0, 18), (0, 19), (0, 20), (0, 21), (0, 22), (0, 49), (0, 51), (0, 52), (0, 56), (0, 57), (0, 58), (0, 59)]) rfl
  obtain ⟨⟨r1, r2, r3, r4, r5, r6, r7⟩, t, l, pl, b, i⟩ := h.1
  have hP : PlR U (up S2 43 1 0) := by
    refine ⟨?_, by rw [u31]; omega, fun p p0 p1 => ?_⟩
    · show up S2 43 1 0 57 3 = U 0 31
      rw [hF3.c 57 rfl, c3, u31]
    · rw [u31] at p1
      unfold plR1
      rw [hF3.c 58 rfl, hF3.c 59 rfl, hF3.c 60 rfl]
      by_cases w : p = R 0 31
      · refine ⟨rc, xc, by rw [w, u5], fun j hj => by rw [w]; exact u7 j hj, by rw [cs, if_pos w]; exact s1, fun j hj => ?_, ?_⟩
        · rw [cc, if_pos (by rw [w, s1]; omega), w, show 160 * R 0 31 + (j : Int) - 160 * R 0 31 = j by omega]
          exact s2 j hj
        · rw [cl, if_pos w, s3]
          exact hft
      · obtain ⟨rc', xc', f1, f2, f3, f4, f5⟩ := pl.2.2 p p0 (by omega)
        have g1 : (rc'.length : Int) ≤ 160 := f5.1
        have g2 : (xc'.length : Int) ≤ 160 := f5.2.2.1
        refine ⟨rc', xc', by rw [u6 p w]; exact f1, fun j hj => by rw [u8 (160 * p + j) (by omega)]; exact f2 j hj, by rw [cs, if_neg w, hF1.c 59 rfl]; exact f3, fun j hj => ?_, ?_⟩
        · rw [cc, if_neg (by omega), hF1.c 58 rfl]
          exact f4 j hj
        · rw [cl, if_neg w, hF1.c 60 rfl]
          exact f5
  have hc0 : caX R (up S2 43 1 0) := ((h.2.fr hF1 rfl).fr hF2 rfl).fr hF3 rfl
  have hc := ca_sm hc0 h.1.1 (ks (0, 18) (by simp)) (ks (0, 19) (by simp)) (ks (0, 20) (by simp)) (fun _ => tl_sm (ks (0, 19) (by simp)) (ks (0, 20) (by simp)) (ks (0, 21) (by simp)) (ks (0, 22) (by simp)) (k 12 (by simp)) (k 13 (by simp)) (k 10 (by simp)) (k 11 (by simp)) (k 14 (by simp)) (fun g _ _ => congrFun (k 9 (by simp)) g) (fun p p0 p1 => ⟨u6 p (by omega), fun j hj => by
    obtain ⟨rc', xc', f1, f2, f3, f4, f5⟩ := pl.2.2 p p0 p1
    have g1 : (rc'.length : Int) ≤ 160 := f5.1
    exact u8 _ (by omega)⟩))
  have hRI : rI U := by
    unfold rI
    refine ⟨?_, ?_, plM_of hP, ?_, ?_, ?_, ?_⟩
    · rw [ks (0, 18) (by simp)]
      intro hl
      obtain ⟨x1, x2, x3, x4, x5, x6, x7⟩ := r1 hl
      unfold ldM
      rw [ks (0, 19) (by simp), ks (0, 20) (by simp), ks (0, 21) (by simp), ks (0, 22) (by simp), k 10 (by simp), k 11 (by simp), k 12 (by simp), k 13 (by simp), k 14 (by simp), k 9 (by simp), k 7 (by simp), k 8 (by simp), u31]
      exact ⟨x1, x2, x3, x4, x5, fun g g0 g1 => by have := x6 g g0 g1; omega, x7⟩
    · rw [ks (0, 18) (by simp), ks (0, 19) (by simp), ks (0, 20) (by simp), ks (0, 21) (by simp), ks (0, 22) (by simp), ks (0, 49) (by simp), ks (0, 52) (by simp), ks (0, 56) (by simp)]
      exact r2
    · exact ⟨by rw [u2]; decide, fun j j0 j1 => absurd j1 (by rw [u2]; omega)⟩
    · rw [ks (0, 19) (by simp), ks (0, 20) (by simp), ks (0, 49) (by simp), k 30 (by simp)]
      exact r5
    · rw [ks (0, 19) (by simp), ks (0, 52) (by simp), k 32 (by simp)]
      exact r6
    · rw [ks (0, 56) (by simp), ks (0, 19) (by simp), ks (0, 20) (by simp), k 35 (by simp), ks (0, 58) (by simp), k 36 (by simp), ks (0, 57) (by simp), k 37 (by simp), u31]
      intro him
      obtain ⟨x1, x2, x3⟩ := r7 him
      exact ⟨fun g g0 g1 => by have := x1 g g0 g1; omega, x2, x3⟩
  have hS : ∀ c ∈ [44, 63, 66, 67, 68, 69, 70, 64, 65, 40, 79, 80, 81, 82, 83, 84, 85, 86, 87, 88, 89, 90, 91, 92, 93, 94], up S2 43 1 0 c = S c := fun c hc => by
    have q1 := (fr_get hF1 (A := [44, 63, 66, 67, 68, 69, 70, 64, 65, 40, 79, 80, 81, 82, 83, 84, 85, 86, 87, 88, 89, 90, 91, 92, 93, 94]) (B := []) rfl).1 c hc
    have q2 := (fr_get hF2 (A := [44, 63, 66, 67, 68, 69, 70, 64, 65, 40, 79, 80, 81, 82, 83, 84, 85, 86, 87, 88, 89, 90, 91, 92, 93, 94]) (B := []) rfl).1 c hc
    have q3 := (fr_get hF3 (A := [44, 63, 66, 67, 68, 69, 70, 64, 65, 40, 79, 80, 81, 82, 83, 84, 85, 86, 87, 88, 89, 90, 91, 92, 93, 94]) (B := []) rfl).1 c hc
    rw [q3, q2, q1]
  refine ⟨⟨hRI, ⟨?_, ?_⟩, ?_, hP, ?_, ?_⟩, hc⟩
  · rw [up_s, u2]
  · rw [hS 44 (by simp), e2]
    exact (k 1 (by simp)).symm
  · unfold ldX
    rw [hS 63 (by simp), hS 66 (by simp), hS 67 (by simp), hS 68 (by simp), hS 69 (by simp), hS 70 (by simp), hS 64 (by simp), hS 65 (by simp), ks (0, 19) (by simp), ks (0, 20) (by simp), ks (0, 18) (by simp), ks (0, 21) (by simp), ks (0, 22) (by simp), k 10 (by simp), k 11 (by simp), k 12 (by simp), k 13 (by simp), k 14 (by simp), k 7 (by simp), k 8 (by simp)]
    exact l
  · unfold bkX bkI
    rw [hS 79 (by simp), hS 80 (by simp), hS 81 (by simp), hS 82 (by simp), hS 83 (by simp), hS 84 (by simp), hS 85 (by simp), hS 86 (by simp), ks (0, 19) (by simp), ks (0, 49) (by simp), ks (0, 52) (by simp), ks (0, 51) (by simp), k 9 (by simp), k 30 (by simp), k 32 (by simp), k 33 (by simp), k 34 (by simp)]
    exact b
  · unfold kpX bkI
    rw [hS 40 (by simp), hS 87 (by simp), hS 88 (by simp), hS 89 (by simp), hS 90 (by simp), hS 91 (by simp), hS 92 (by simp), hS 93 (by simp), hS 94 (by simp), ks (0, 56) (by simp), ks (0, 19) (by simp), ks (0, 58) (by simp), ks (0, 57) (by simp), ks (0, 59) (by simp), k 35 (by simp), k 36 (by simp), k 37 (by simp), k 38 (by simp), k 39 (by simp)]
    exact i
theorem t_X_text (R S : St) (sort : Int) (Q : Option AV → St → Prop) (h : Rel R S)
    (h0 : ¬ (sort = 0 ∧ lwW (R 1) (R 0 2) = -1) → ¬ (sort = 1 ∧ ¬ R 0 31 = 8 ∧ (rdT (R 1) (R 0 2)).1 = -1) → ∀ S', Xs S S' → Rel R S' → Q (some (.inl (-1))) S')
    (hL : sort = 0 → lwW (R 1) (R 0 2) = -1 → ∀ S', Xs S S' → (∀ U, ldT R (rdP (R 1) (R 0 2)).2 U → Rel U S') → Q (some (.inl (rdP (R 1) (R 0 2)).2.1.1)) S')
    (hP : sort = 1 → ¬ R 0 31 = 8 → (rdT (R 1) (R 0 2)).1 = -1 → ∀ S', Xs S S' → (∀ U, plT R (rdT (R 1) (R 0 2)).2.2.1.2 U → Rel U S') → Q (some (.inl (R 0 31))) S') : Smm H_X_text 0 [some (.inr (.inr 40)), some (.inl sort)] [] S Q := by
  refine sound ok_X_text [] 40 ?_
  refine ⟨fun z => ?_, fun z => ?_⟩
  · refine ⟨fun y => h0 (fun q => z q.1) (fun q => y q.1) S (Xs.rf S) h, fun y => ?_⟩
    exact t_takePlan R S _ h (fun q => h0 (fun w => z w.1) (fun w => q w.2)) (hP y)
  · exact t_takeLand R S _ h (fun q => h0 (fun w => q w.2) (fun w => absurd (z.symm.trans w.1) (by decide))) (hL z)
/-- what is out of a plan that is read is never more than the tape -/
theorem plR_len {t : Int → Int} {n : Int} : ∀ (d : Nat) (u : Bool) (q : PT), 0 ≤ q.1.1 → q.1.1 ≤ n → ((q.2.1.1.length : Int) + q.2.1.2.length ≤ q.1.1) → (((plR t n d u q).2.2.1.2.length : Nat) : Int) ≤ n
  | 0, _, q, h0, h1, h2 => by
    rw [plR]
    dsimp only
    omega
  | d + 1, true, q, h0, h1, h2 => by
    have hs := sk_b t n q.1.1
    have hs2 := sk_b t n (sk t n q.1.1 + 1)
    rw [plR]
    by_cases z : ch t n (sk t n q.1.1) = 40 ∧ q.1.2 < 6
    · have hp := at_n z.1 (by decide)
      rw [if_pos z]
      refine plR_len d true _ ?_ ?_ ?_ <;> dsimp only <;> (try rw [List.length_cons]) <;> omega
    · rw [if_neg z]
      by_cases y : 97 ≤ ch t n (sk t n q.1.1) ∧ ch t n (sk t n q.1.1) ≤ 101
      · have hp := at_n (c := ch t n (sk t n q.1.1)) rfl (by omega)
        rw [if_pos y]
        by_cases x : ch t n (sk t n (sk t n q.1.1 + 1)) = 43
        · rw [if_pos x]
          have hp2 := at_n x (by decide)
          by_cases w : nmW t n 0 99 (sk t n (sk t n q.1.1 + 1) + 1) = -1
          · rw [if_pos w]
            have hf := nm_fine (t := t) (n := n) (lo := 0) (hi := 99) (a := sk t n (sk t n q.1.1 + 1) + 1) (by omega) w
            refine plR_len d false _ ?_ ?_ ?_ <;> dsimp only <;> (try rw [List.length_cons]) <;> omega
          · rw [if_neg w]
            dsimp only
            omega
        · rw [if_neg x]
          refine plR_len d false _ ?_ ?_ ?_ <;> dsimp only <;> (try rw [List.length_cons]) <;> omega
      · rw [if_neg y]
        dsimp only
        omega
  | d + 1, false, q, h0, h1, h2 => by
    have hs := sk_b t n q.1.1
    rw [plR]
    by_cases z : ch t n (sk t n q.1.1) = 41 ∧ 0 < q.1.2
    · have hp := at_n z.1 (by decide)
      have hc := coF_len (-2) q.2.1.1 q.2.1.2
      have ht := List.length_tail (l := (coF (-2) q.2.1.1 q.2.1.2).1)
      rw [if_pos z]
      refine plR_len d false _ ?_ ?_ ?_ <;> dsimp only <;> (try rw [ht]) <;> omega
    · rw [if_neg z]
      by_cases y : ch t n (sk t n q.1.1) = -1
      · rw [if_pos y]
        have hc := coF_len (-2) q.2.1.1 q.2.1.2
        split
        · dsimp only
          omega
        · dsimp only
          omega
      · rw [if_neg y]
        have hp := at_n (c := ch t n (sk t n q.1.1)) rfl y
        by_cases x : ch t n (sk t n q.1.1) = 38 ∨ ch t n (sk t n q.1.1) = 124
        · rw [if_pos x]
          have hc := coF_len (opV (ch t n (sk t n q.1.1))) q.2.1.1 q.2.1.2
          refine plR_len d true _ ?_ ?_ ?_ <;> dsimp only <;> (try rw [List.length_cons]) <;> omega
        · rw [if_neg x]
          dsimp only
          omega
theorem rdT_len {t : Int → Int} {n : Int} (hn : 0 ≤ n ∧ n ≤ 160) : (rdT t n).2.2.1.2.length ≤ 160 := by
  have := plR_len (t := t) (n := n) (n + 1).toNat true q0 (Int.le_refl _) hn.1 (Int.le_refl _)
  unfold rdT
  omega
