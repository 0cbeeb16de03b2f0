/-! the reference: when, near, enough -/
def enF (T : St) (a : Int) (f : Int → Int) : Int := if a < apM T f then apM T f else a
def aM_enough (S : St) : Int := if S 0 18 = 0 then -1 else if 99 < (wyM (tl S)).foldl (enF (tl S)) 0 then -1 else (wyM (tl S)).foldl (enF (tl S)) 0
theorem t_M_enough (S : St) (Q : Option AV → St → Prop) (hL : ¬ S 0 18 = 0 → ldM S) (hp : plM S) (hQ : ∀ S', Fr [17, 18, 19, 20, 21, 22, 23, 24, 25, 26, 27, 28, 29, 31] [(0, 0), (0, 38)] S S' → Q (some (.inl (aM_enough S))) S') : Smm H_M_enough 0 [some (.inr (.inr 0)), none, none] [] S Q := by
  have e18 : th S 0 18 = S 0 18 := th_0 S (by decide)
  refine sound ok_M_enough [24] 60 ?_
  refine ⟨fun h1 => ?_, fun h1 => ?_⟩
  · replace h1 : ¬ S 0 18 = 0 := fun z => h1 (e18.trans z)
    have hl0 := hL h1
    have hA := tl_mAs hl0 hp
    have hlen := wyM_len hA
    have loop : ∀ (post pre : List (Int → Int)) (f : Int → Int) (q : St × Int), wyM (tl S) = pre ++ f :: post → (Fr [21, 22, 23, 24, 25] [] (tl S) q.1 ∧ Wy q.1 f ∧ q.2 = pre.foldl (enF (tl S)) 0) → Smm H_M_enough 24 [some (.inr (.inr 0)), some (.inl q.2), none] [] q.1 Q := by
      refine lp_wy (P := fun _ (q : St × Int) => Smm H_M_enough 24 [some (.inr (.inr 0)), some (.inl q.2), none] [] q.1 Q) (fun pre f q => Fr [21, 22, 23, 24, 25] [] (tl S) q.1 ∧ Wy q.1 f ∧ q.2 = pre.foldl (enF (tl S)) 0) ?_
      rintro pre f post ⟨T, a⟩ hl ⟨hF, hW, ha⟩ ih
      dsimp only at hF hW ha ⊢
      have hSm : Sm (tl S) T := Sm.of hF rfl
      have hA' := mAs_sm hSm hA
      have hfm0 : f ∈ wyM (tl S) := by rw [hl]; exact List.mem_append_right _ List.mem_cons_self
      have hfm : f ∈ wyM T := by rw [wyM_sm hSm]; exact hfm0
      have hpl : pre.length < (wyM (tl S)).length := by rw [hl, List.length_append, List.length_cons]; omega
      have next : ∀ (T2 : St) (b : Int) (x : Option AV), Fr [25] [] T T2 → b = (enF (tl S)) a f → Smm H_M_enough 36 [some (.inr (.inr 0)), some (.inl b), x] [] T2 Q := by
        intro T2 b x hF2 hb
        have hb2 : b = (pre ++ [f]).foldl (enF (tl S)) 0 := by rw [List.foldl_append, ← ha, hb]; rfl
        have hSm2 : Sm (tl S) T2 := Sm.of (hF.tr (hF2.mo rfl rfl)) rfl
        refine sound ok_M_enough [24, 43] 20 ?_
        refine t_M_nextW T2 pre f post _ (mAs_sm hSm2 hA) (by rw [wyM_sm hSm2]; exact hl) (fun i i0 i1 => ?_) (fun f' post' S3 hp hF3 hW3 => ?_) (fun S3 hp hF3 => ?_)
        · rw [hF2.c 21 rfl]
          exact hW.1 i i0 (by rw [hSm2.1] at i1; rw [hSm.1]; exact i1)
        · refine ⟨fun _ => ?_, fun z => absurd z (by decide)⟩
          exact Smm.sub (ih f' post' (S3, b) hp ⟨(hF.tr (hF2.mo rfl rfl)).tr (hF3.mo rfl rfl), hW3, hb2⟩) ⟨Or.inr rfl, Or.inr rfl, Or.inl rfl, trivial⟩
        · refine ⟨fun z => absurd rfl z, fun _ => ?_⟩
          have hx : b = (wyM (tl S)).foldl (enF (tl S)) 0 := by rw [hl, hp]; exact hb2
          have hFx := (hF.tr (hF2.mo rfl rfl)).tr (hF3.mo rfl rfl)
          rw [hx]
          have hq := hQ S3 ((tl_fr S).tr (hFx.mo rfl rfl))
          unfold aM_enough at hq
          rw [if_neg h1] at hq
          refine sound ok_M_enough [] 20 ?_
          refine ⟨fun h3 => ?_, fun h3 => ?_⟩
          · rw [if_neg (by omega)] at hq; exact hq
          · rw [if_pos h3] at hq; exact hq
      refine sound ok_M_enough [36] 40 ?_
      refine t_M_apart T _ hA'.1.2.1 ⟨hA'.2.1.2.1, hA'.2.1.2.2.1⟩ (Wy_b hA' hfm hW) (fun T2 hF2 => ?_)
      have hap := Wy_ap hA' hW
      rw [apM_sm hSm] at hap
      rw [hap]
      refine ⟨fun h3 => ?_, fun h3 => ?_⟩
      · exact next T2 a _ hF2 (by unfold enF; rw [if_neg (by omega)])
      · exact next T2 _ _ hF2 (by unfold enF; rw [if_pos h3])
    obtain ⟨r, hr⟩ := wy_first (err := (tl S) 18) ((tl S) 0 20).toNat (fun i hi => (hA.2.2 i (by omega) (by have := hA.1.1.1; omega)).1)
    refine t_M_asTold (th S) _ (by rw [th_0 S (by decide)]; have := hl0.2.1; omega) (by rw [th_0 S (by decide)]; have := hl0.1; omega) ?_
    refine t_M_firstWay (tl S) _ hA (fun T hF hW => ?_)
    exact loop r [] _ (T, 0) hr ⟨hF.mo rfl rfl, hW, rfl⟩
  · have := hQ (th S) (th_fr S)
    unfold aM_enough at this
    rw [if_pos (e18 ▸ h1)] at this
    exact this
def nrF (T : St) (a : Int × Int) (f : Int → Int) : Int × Int := (if apM T f < a.1 then apM T f else a.1, if ¬ apM T f = 1000000 ∧ a.2 < apM T f then apM T f else a.2)
def aM_near (S : St) (what : Int) : Int := if S 0 18 = 0 ∨ ¬ (0 ≤ what ∧ what ≤ 1) then -1 else if what = 1 then ((wyM (tl S)).foldl (nrF (tl S)) (1000000, -1)).2 else if ((wyM (tl S)).foldl (nrF (tl S)) (1000000, -1)).1 = 1000000 then -1 else ((wyM (tl S)).foldl (nrF (tl S)) (1000000, -1)).1
theorem t_M_near (S : St) (what : Int) (Q : Option AV → St → Prop) (hL : ¬ S 0 18 = 0 → ldM S) (hp : plM S) (hQ : ∀ S', Fr [17, 18, 19, 20, 21, 22, 23, 24, 25, 26, 27, 28, 29, 31] [(0, 0), (0, 38)] S S' → Q (some (.inl (aM_near S what))) S') : Smm H_M_near 0 [some (.inr (.inr 0)), some (.inl what), none, none, none] [] S Q := by
  have e18 : th S 0 18 = S 0 18 := th_0 S (by decide)
  have no : (S 0 18 = 0 ∨ ¬ (0 ≤ what ∧ what ≤ 1)) → Q (some (.inl (-1))) (th S) := fun hz => by
    have := hQ (th S) (th_fr S)
    unfold aM_near at this
    rwa [if_pos hz] at this
  refine sound ok_M_near [36] 60 ?_
  refine ⟨fun h1 => no (Or.inl (e18 ▸ h1)), fun h1 => ?_⟩
  replace h1 : ¬ S 0 18 = 0 := fun z => h1 (e18.trans z)
  refine t_M_isPart _ _ _ _ (fun h2 => ?_) (fun h2 => ?_)
  · refine ⟨fun _ => ?_, fun z => absurd z (by decide)⟩
    have hl0 := hL h1
    have hA := tl_mAs hl0 hp
    have hlen := wyM_len hA
    have loop : ∀ (post pre : List (Int → Int)) (f : Int → Int) (q : St × (Int × Int)), wyM (tl S) = pre ++ f :: post → (Fr [21, 22, 23, 24, 25] [] (tl S) q.1 ∧ Wy q.1 f ∧ q.2 = pre.foldl (nrF (tl S)) (1000000, -1)) → Smm H_M_near 36 [some (.inr (.inr 0)), some (.inl what), some (.inl q.2.1), some (.inl q.2.2), none] [] q.1 Q := by
      refine lp_wy (P := fun _ (q : St × (Int × Int)) => Smm H_M_near 36 [some (.inr (.inr 0)), some (.inl what), some (.inl q.2.1), some (.inl q.2.2), none] [] q.1 Q) (fun pre f q => Fr [21, 22, 23, 24, 25] [] (tl S) q.1 ∧ Wy q.1 f ∧ q.2 = pre.foldl (nrF (tl S)) (1000000, -1)) ?_
      rintro pre f post ⟨T, a⟩ hl ⟨hF, hW, ha⟩ ih
      dsimp only at hF hW ha ⊢
      have hSm : Sm (tl S) T := Sm.of hF rfl
      have hA' := mAs_sm hSm hA
      have hfm0 : f ∈ wyM (tl S) := by rw [hl]; exact List.mem_append_right _ List.mem_cons_self
      have hfm : f ∈ wyM T := by rw [wyM_sm hSm]; exact hfm0
      have hpl : pre.length < (wyM (tl S)).length := by rw [hl, List.length_append, List.length_cons]; omega
      have next : ∀ (T2 : St) (b : (Int × Int)) (x : Option AV), Fr [25] [] T T2 → b = (nrF (tl S)) a f → Smm H_M_near 68 [some (.inr (.inr 0)), some (.inl what), some (.inl b.1), some (.inl b.2), x] [] T2 Q := by
        intro T2 b x hF2 hb
        have hb2 : b = (pre ++ [f]).foldl (nrF (tl S)) (1000000, -1) := by rw [List.foldl_append, ← ha, hb]; rfl
        have hSm2 : Sm (tl S) T2 := Sm.of (hF.tr (hF2.mo rfl rfl)) rfl
        refine sound ok_M_near [36, 75] 20 ?_
        refine t_M_nextW T2 pre f post _ (mAs_sm hSm2 hA) (by rw [wyM_sm hSm2]; exact hl) (fun i i0 i1 => ?_) (fun f' post' S3 hp hF3 hW3 => ?_) (fun S3 hp hF3 => ?_)
        · rw [hF2.c 21 rfl]
          exact hW.1 i i0 (by rw [hSm2.1] at i1; rw [hSm.1]; exact i1)
        · refine ⟨fun _ => ?_, fun z => absurd z (by decide)⟩
          exact Smm.sub (ih f' post' (S3, b) hp ⟨(hF.tr (hF2.mo rfl rfl)).tr (hF3.mo rfl rfl), hW3, hb2⟩) ⟨Or.inr rfl, Or.inr rfl, Or.inr rfl, Or.inr rfl, Or.inl rfl, trivial⟩
        · refine ⟨fun z => absurd rfl z, fun _ => ?_⟩
          have hx : b = (wyM (tl S)).foldl (nrF (tl S)) (1000000, -1) := by rw [hl, hp]; exact hb2
          have hFx := (hF.tr (hF2.mo rfl rfl)).tr (hF3.mo rfl rfl)
          rw [hx]
          have hq := hQ S3 ((tl_fr S).tr (hFx.mo rfl rfl))
          unfold aM_near at hq
          rw [if_neg (by omega)] at hq
          refine sound ok_M_near [] 20 ?_
          refine ⟨fun h3 => ?_, fun h3 => ?_⟩
          · rw [if_neg h3] at hq
            refine ⟨fun h4 => ?_, fun h4 => ?_⟩
            · rw [if_neg h4] at hq; exact hq
            · rw [if_pos h4] at hq; exact hq
          · rw [if_pos h3] at hq; exact hq
      refine sound ok_M_near [51] 40 ?_
      refine t_M_apart T _ hA'.1.2.1 ⟨hA'.2.1.2.1, hA'.2.1.2.2.1⟩ (Wy_b hA' hfm hW) (fun T2 hF2 => ?_)
      have hap := Wy_ap hA' hW
      rw [apM_sm hSm] at hap
      rw [hap]
      have rest : ∀ e1 : Int, e1 = (if apM (tl S) f < a.1 then apM (tl S) f else a.1) → Smm H_M_near 51 [some (.inr (.inr 0)), some (.inl what), some (.inl e1), some (.inl a.2), some (.inl (apM (tl S) f))] [] T2 Q := by
        intro e1 he1
        refine sound ok_M_near [68] 40 ?_
        refine ⟨fun h3 => ?_, fun h3 => ?_⟩
        · exact next T2 (e1, a.2) _ hF2 (Prod.ext he1 (by show a.2 = ite _ _ _; rw [if_neg (fun z => z.1 h3)]))
        · refine ⟨fun h4 => ?_, fun h4 => ?_⟩
          · exact next T2 (e1, a.2) _ hF2 (Prod.ext he1 (by show a.2 = ite _ _ _; rw [if_neg (fun z => absurd z.2 (by omega))]))
          · exact next T2 (e1, apM (tl S) f) _ hF2 (Prod.ext he1 (by show apM (tl S) f = ite _ _ _; rw [if_pos ⟨h3, h4⟩]))
      refine ⟨fun h3 => ?_, fun h3 => ?_⟩
      · exact rest a.1 (by rw [if_neg (by omega)])
      · exact rest _ (by rw [if_pos h3])
    obtain ⟨r, hr⟩ := wy_first (err := (tl S) 18) ((tl S) 0 20).toNat (fun i hi => (hA.2.2 i (by omega) (by have := hA.1.1.1; omega)).1)
    refine t_M_asTold (th S) _ (by rw [th_0 S (by decide)]; have := hl0.2.1; omega) (by rw [th_0 S (by decide)]; have := hl0.1; omega) ?_
    refine t_M_firstWay (tl S) _ hA (fun T hF hW => ?_)
    exact loop r [] _ (T, (1000000, -1)) hr ⟨hF.mo rfl rfl, hW, rfl⟩
  · exact ⟨fun z => absurd rfl z, fun _ => no (Or.inr h2)⟩
def wnF (T : St) (g : Int) (a : Int × Int × Int) (f : Int → Int) : Int × Int × Int := (if tnM T (smM T f) g < a.1 then tnM T (smM T f) g else a.1, if ¬ tnM T (smM T f) g = 1000000 ∧ a.2.1 < tnM T (smM T f) g then tnM T (smM T f) g else a.2.1, if tnM T (smM T f) g = 1000000 then a.2.2 + 1 else a.2.2)
theorem wnF_n (T : St) (g : Int) : ∀ (l : List (Int → Int)) (a : Int × Int × Int), 0 ≤ a.2.2 → 0 ≤ (l.foldl (wnF T g) a).2.2 ∧ (l.foldl (wnF T g) a).2.2 ≤ a.2.2 + l.length
  | [], a, h => ⟨h, by simp⟩
  | f :: l, a, h => by
    have h1 : 0 ≤ (wnF T g a f).2.2 ∧ (wnF T g a f).2.2 ≤ a.2.2 + 1 := by unfold wnF; dsimp only; split <;> omega
    have := wnF_n T g l (wnF T g a f) h1.1
    rw [List.foldl_cons, List.length_cons]
    omega
def aM_when (S : St) (g what : Int) : Int := if ¬ (¬ S 0 18 = 0 ∧ 0 ≤ g ∧ g < S 0 19) ∨ ¬ (0 ≤ what ∧ what ≤ 2) then -1000000 else if what = 0 then (if ((wyM (tl S)).foldl (wnF (tl S) g) (1000000, -1000000, 0)).1 = 1000000 then -1000000 else ((wyM (tl S)).foldl (wnF (tl S) g) (1000000, -1000000, 0)).1) else if what = 1 then ((wyM (tl S)).foldl (wnF (tl S) g) (1000000, -1000000, 0)).2.1 else ((wyM (tl S)).foldl (wnF (tl S) g) (1000000, -1000000, 0)).2.2
theorem t_M_when (S : St) (g what : Int) (Q : Option AV → St → Prop) (hL : ¬ S 0 18 = 0 → ldM S) (hp : plM S) (hQ : ∀ S', Fr [17, 18, 19, 20, 21, 22, 23, 24, 25, 26, 27, 28, 29, 31] [(0, 0), (0, 38)] S S' → Q (some (.inl (aM_when S g what))) S') : Smm H_M_when 0 [some (.inr (.inr 0)), some (.inl g), some (.inl what), none, none, none, none] [] S Q := by
  have e18 : th S 0 18 = S 0 18 := th_0 S (by decide)
  have e19 : th S 0 19 = S 0 19 := th_0 S (by decide)
  have no : (¬ (¬ S 0 18 = 0 ∧ 0 ≤ g ∧ g < S 0 19) ∨ ¬ (0 ≤ what ∧ what ≤ 2)) → Q (some (.inl (-1000000))) (th S) := fun hz => by
    have := hQ (th S) (th_fr S)
    unfold aM_when at this
    rwa [if_pos hz] at this
  refine sound ok_M_when [45] 60 ?_
  refine t_M_isGuard (th S) g _ (fun h1 => ?_) (fun h1 => by
    rw [e18, e19] at h1
    exact ⟨fun _ => no (Or.inl h1), fun z => absurd rfl z⟩)
  rw [e18, e19] at h1
  refine ⟨fun z => absurd z (by decide), fun _ => ?_⟩
  refine t_M_isPart _ _ _ _ (fun h2 => ?_) (fun h2 => ?_)
  · refine ⟨fun _ => ?_, fun z => absurd z (by decide)⟩
    have hl0 := hL h1.1
    have hA := tl_mAs hl0 hp
    have hk4 := hl0.1
    have p19 : tl S 0 19 = S 0 19 := tl_0 S (by decide) (by decide)
    have hlen := wyM_len hA
    have loop : ∀ (post pre : List (Int → Int)) (f : Int → Int) (q : St × (Int × Int × Int)), wyM (tl S) = pre ++ f :: post → (Fr [21, 22, 23, 24, 25] [] (tl S) q.1 ∧ Wy q.1 f ∧ q.2 = pre.foldl (wnF (tl S) g) (1000000, -1000000, 0)) → Smm H_M_when 45 [some (.inr (.inr 0)), some (.inl g), some (.inl what), some (.inl q.2.1), some (.inl q.2.2.1), some (.inl q.2.2.2), none] [] q.1 Q := by
      refine lp_wy (P := fun _ (q : St × (Int × Int × Int)) => Smm H_M_when 45 [some (.inr (.inr 0)), some (.inl g), some (.inl what), some (.inl q.2.1), some (.inl q.2.2.1), some (.inl q.2.2.2), none] [] q.1 Q) (fun pre f q => Fr [21, 22, 23, 24, 25] [] (tl S) q.1 ∧ Wy q.1 f ∧ q.2 = pre.foldl (wnF (tl S) g) (1000000, -1000000, 0)) ?_
      rintro pre f post ⟨T, a⟩ hl ⟨hF, hW, ha⟩ ih
      dsimp only at hF hW ha ⊢
      have hSm : Sm (tl S) T := Sm.of hF rfl
      have hA' := mAs_sm hSm hA
      have hfm0 : f ∈ wyM (tl S) := by rw [hl]; exact List.mem_append_right _ List.mem_cons_self
      have hfm : f ∈ wyM T := by rw [wyM_sm hSm]; exact hfm0
      have hpl : pre.length < (wyM (tl S)).length := by rw [hl, List.length_append, List.length_cons]; omega
      have next : ∀ (T2 : St) (b : (Int × Int × Int)) (x : Option AV), Fr [25] [] T T2 → b = (wnF (tl S) g) a f → Smm H_M_when 87 [some (.inr (.inr 0)), some (.inl g), some (.inl what), some (.inl b.1), some (.inl b.2.1), some (.inl b.2.2), x] [] T2 Q := by
        intro T2 b x hF2 hb
        have hb2 : b = (pre ++ [f]).foldl (wnF (tl S) g) (1000000, -1000000, 0) := by rw [List.foldl_append, ← ha, hb]; rfl
        have hSm2 : Sm (tl S) T2 := Sm.of (hF.tr (hF2.mo rfl rfl)) rfl
        refine sound ok_M_when [45, 94] 20 ?_
        refine t_M_nextW T2 pre f post _ (mAs_sm hSm2 hA) (by rw [wyM_sm hSm2]; exact hl) (fun i i0 i1 => ?_) (fun f' post' S3 hp hF3 hW3 => ?_) (fun S3 hp hF3 => ?_)
        · rw [hF2.c 21 rfl]
          exact hW.1 i i0 (by rw [hSm2.1] at i1; rw [hSm.1]; exact i1)
        · refine ⟨fun _ => ?_, fun z => absurd z (by decide)⟩
          exact Smm.sub (ih f' post' (S3, b) hp ⟨(hF.tr (hF2.mo rfl rfl)).tr (hF3.mo rfl rfl), hW3, hb2⟩) ⟨Or.inr rfl, Or.inr rfl, Or.inr rfl, Or.inr rfl, Or.inr rfl, Or.inr rfl, Or.inl rfl, trivial⟩
        · refine ⟨fun z => absurd rfl z, fun _ => ?_⟩
          have hx : b = (wyM (tl S)).foldl (wnF (tl S) g) (1000000, -1000000, 0) := by rw [hl, hp]; exact hb2
          have hFx := (hF.tr (hF2.mo rfl rfl)).tr (hF3.mo rfl rfl)
          rw [hx]
          have hq := hQ S3 ((tl_fr S).tr (hFx.mo rfl rfl))
          unfold aM_when at hq
          rw [if_neg (by omega)] at hq
          refine sound ok_M_when [] 40 ?_
          refine ⟨fun h3 => ?_, fun h3 => ?_⟩
          · rw [if_neg h3] at hq
            refine ⟨fun h4 => ?_, fun h4 => ?_⟩
            · rw [if_neg h4] at hq; exact hq
            · rw [if_pos h4] at hq; exact hq
          · rw [if_pos h3] at hq
            refine ⟨fun h4 => ?_, fun h4 => ?_⟩
            · rw [if_neg h4] at hq; exact hq
            · rw [if_pos h4] at hq; exact hq
      have q19 : T 0 19 = S 0 19 := by rw [hSm.1, p19]
      have hv : T 23 g = tnM (tl S) (smM (tl S) f) g := by rw [hW.2.2 g h1.2.1 (by omega), tnM_sm hSm, smM_sm hSm]
      have hcn := wnF_n (tl S) g pre (1000000, -1000000, 0) (Int.le_refl 0)
      rw [← ha] at hcn
      dsimp only at hcn
      have rest : ∀ (e2 e3 : Int) (x : Option AV), e2 = (wnF (tl S) g a f).2.1 → e3 = (wnF (tl S) g a f).2.2 → Smm H_M_when 78 [some (.inr (.inr 0)), some (.inl g), some (.inl what), some (.inl a.1), some (.inl e2), some (.inl e3), some (.inl (T 23 g))] [] T Q := by
        intro e2 e3 x he2 he3
        refine sound ok_M_when [87] 40 ?_
        refine ⟨fun h3 => ?_, fun h3 => ?_⟩
        · rw [hv] at h3
          exact next T (a.1, e2, e3) _ (Fr.rf _ _ _) (by rw [he2, he3]; unfold wnF; rw [if_neg (by omega)])
        · rw [hv] at h3
          exact next T (T 23 g, e2, e3) _ (Fr.rf _ _ _) (by rw [he2, he3, hv]; unfold wnF; rw [if_pos h3])
      refine sound ok_M_when [78] 60 ?_
      refine ⟨by omega, ?_⟩
      refine ⟨fun h3 => ?_, fun h3 => ?_⟩
      · rw [hv] at h3
        refine ⟨fun h4 => ?_, fun h4 => ?_⟩
        · rw [hv] at h4
          exact rest a.2.1 a.2.2 none (by unfold wnF; dsimp only; rw [if_neg (fun z => absurd z.2 (by omega))]) (by unfold wnF; dsimp only; rw [if_neg h3])
        · rw [hv] at h4
          exact rest _ a.2.2 none (by unfold wnF; dsimp only; rw [if_pos ⟨h3, h4⟩, hv]) (by unfold wnF; dsimp only; rw [if_neg h3])
      · rw [hv] at h3
        exact rest a.2.1 _ none (by unfold wnF; dsimp only; rw [if_neg (fun z => z.1 h3)]) (by unfold wnF; dsimp only; rw [if_pos h3]; unfold i32; omega)
    obtain ⟨r, hr⟩ := wy_first (err := (tl S) 18) ((tl S) 0 20).toNat (fun i hi => (hA.2.2 i (by omega) (by have := hA.1.1.1; omega)).1)
    refine t_M_asTold (th S) _ (by rw [th_0 S (by decide)]; have := hl0.2.1; omega) (by rw [th_0 S (by decide)]; have := hl0.1; omega) ?_
    refine t_M_firstWay (tl S) _ hA (fun T hF hW => ?_)
    exact loop r [] _ (T, (1000000, -1000000, 0)) hr ⟨hF.mo rfl rfl, hW, rfl⟩
  · exact ⟨fun z => absurd rfl z, fun _ => no (Or.inr h2)⟩
