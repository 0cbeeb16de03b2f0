/-! the reference: when, near, enough -/
def enF (T : St) (a : Int) (f : Int → Int) : Int := if a < apM T f then apM T f else a
def aM_enough (S : St) : Int := if S 0 18 = 0 then -1 else if 99 < (wyM (tl S)).foldl (enF (tl S)) 0 then -1 else (wyM (tl S)).foldl (enF (tl S)) 0
theorem t_M_enough (S : St) (Q : Option AV → St → Prop) (hL : ¬ S 0 18 = 0 → ldM S) (hp : plM S) (hQ : ∀ S', Fr [17, 18, 19, 20, 21, 22, 23, 24, 25, 26, 27, 28, 29, 31] [(0, 0), (0, 38)] S S' → Q (some (.inl (aM_enough S))) S') : Smm H_M_enough 0 [some (.inr (.inr 0)), none, none] [] S Q := by
  have e18 : th S 0 18 = S 0 18 := th_0 S (by decide)
  refine sound ok_M_enough [24] 60 ?_
  refine ⟨fun h1 => ?_, fun h1 => ?_⟩
  · replace h1 : ¬ S 0 18 = 0 := fun z => h1 (e18.trans z)
    have hl0 := hL h1
    have hA := tl_mAs hl0 hp
    have hlen := wyM_len hA
    have loop : ∀ (post pre : List (Int → Int)) (f : Int → Int) (q : St × Int), wyM (tl S) = pre ++ f :: post → (Fr [21, 22, 23, 24, 25] [] (tl S) q.1 ∧ Wy q.1 f ∧ q.2 = pre.foldl (enF (tl S)) 0) → Smm H_M_enough 24 [some (.inr (.inr 0)), some (.inl q.2), none] [] q.1 Q := by
      refine lp_wy (P := fun _ (q : St × Int) => Smm H_M_enough 24 [some (.inr (.inr 0)), some (.inl q.2), none] [] q.1 Q) (fun pre f q => Fr [21, 22, 23, 24, 25] [] (tl S) q.1 ∧ Wy q.1 f ∧ q.2 = pre.foldl (enF (tl S)) 0) ?_
      rintro pre f post ⟨T, a⟩ hl ⟨hF, hW, ha⟩ ih
      dsimp only at hF hW ha ⊢
      have hSm : Sm (tl S) T := Sm.of hF rfl
      have hA' := mAs_sm hSm hA
      have hfm0 : f ∈ wyM (tl S) := by rw [hl]; exact List.mem_append_right _ List.mem_cons_self
      have hfm : f ∈ wyM T := by rw [wyM_sm hSm]; exact hfm0
      have hpl : pre.length < (wyM (tl S)).length := by rw [hl, List.length_append, List.length_cons]; omega
      have next : ∀ (T2 : St) (b : Int) (x : Option AV), Fr [25] [] T T2 → b = (enF (tl S)) a f → Smm H_M_enough 36 [some (.inr (.inr 0)), some (.inl b), x] [] T2 Q := by
        intro T2 b x hF2 hb
        have hb2 : b = (pre ++ [f]).foldl (enF (tl S)) 0 := by rw [List.foldl_append, ← ha, hb]; rfl
        have hSm2 : Sm (tl S) T2 := Sm.of (hF.tr (hF2.mo rfl rfl)) rfl
        refine sound ok_M_enough [24, 43] 20 ?_
        refine t_M_nextW T2 pre f post _ (mAs_sm hSm2 hA) (by rw [wyM_sm hSm2]; exact hl) (fun i i0 i1 => ?_) (fun f' post' S3 hp hF3 hW3 => ?_) (fun S3 hp hF3 => ?_)
        · rw [hF2.c 21 rfl]
          exact hW.1 i i0 (by rw [hSm2.1] at i1; rw [hSm.1]; exact i1)
        · refine ⟨fun _ => ?_, fun z => absurd z (by decide)⟩
          exact Smm.sub (ih f' post' (S3, b) hp ⟨(hF.tr (hF2.mo rfl rfl)).tr (hF3.mo rfl rfl), hW3, hb2⟩) ⟨Or.inr rfl, Or.inr rfl, Or.inl rfl, trivial⟩
        · refine ⟨fun z => absurd rfl z, fun _ => ?_⟩
          have hx : b = (wyM (tl S)).foldl (enF (tl S)) 0 := by rw [hl, hp]; exact hb2
          have hFx := (hF.tr (hF2.mo rfl rfl)).tr (hF3.mo rfl rfl)
          rw [hx]
          have hq := hQ S3 ((tl_fr S).tr (hFx.mo rfl rfl))
          unfold aM_enough at hq
          rw [if_neg h1] at hq
          refine sound ok_M_enough [] 20 ?_
          refine ⟨fun h3 => ?_, fun h3 => ?_⟩
          · rw [if_neg (by omega)] at hq; exact hq
          · rw [if_pos h3] at hq; exact hq
      refine sound ok_M_enough [36] 40 ?_
      refine t_M_apart T _ hA'.1.2.1 ⟨hA'.2.1.2.1, hA'.2.1.2.2.1⟩ (Wy_b hA' hfm hW) (fun T2 hF2 => ?_)
      have hap := Wy_ap hA' hW
      rw [apM_sm hSm] at hap
      rw [hap]
      refine ⟨fun h3 => ?_, fun h3 => ?_⟩
      · exact next T2 a _ hF2 (by unfold enF; rw [if_neg (by omega)])
      · exact next T2 _ _ hF2 (by unfold enF; rw [if_pos h3])
    obtain ⟨r, hr⟩ := wy_first (err := (tl S) 18) ((tl S) 0 20).toNat (fun i hi => (hA.2.2 i (by omega) (by have := hA.1.1.1; omega)).1)
    refine t_M_asTold (th S) _ (by rw [th_0 S (by decide)]; have := hl0.2.1; omega) (by rw [th_0 S (by decide)]; have := hl0.1; omega) ?_
    refine t_M_firstWay (tl S) _ hA (fun T hF hW => ?_)
    exact loop r [] _ (T, 0) hr ⟨hF.mo rfl rfl, hW, rfl⟩
  · have := hQ (th S) (th_fr S)
    unfold aM_enough at this
    rw [if_pos (e18 ▸ h1)] at this
    exact this
