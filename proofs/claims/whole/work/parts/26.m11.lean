/-! the reference: moment; misfits, fits, lies -/
theorem i32_l (a b : Int) : i32 (i32 a + b) = i32 (a + b) := by unfold i32; omega
theorem i32_i (a : Int) : i32 (i32 a) = i32 a := by unfold i32; omega
/-- the part at which it opens on a way -/
def ogM (T : St) (f : Int → Int) : Int := ogF (T 0 21) (T 0 22) (tnM T (smM T f)) (T 0 19).toNat
def msF (T : St) (a : Int × Int × Int) (f : Int → Int) : Int × Int × Int := (if ogM T f < a.1 then ogM T f else a.1, if ¬ ogM T f = 1000000 ∧ a.2.1 < ogM T f then ogM T f else a.2.1, if ogM T f = 1000000 then a.2.2 else i32 (a.2.2 + ogM T f))
def aM_moment (S : St) (what : Int) : Int := if S 0 18 = 0 ∨ ¬ (0 ≤ what ∧ what ≤ 2) then -1000000 else
  if ((wyM (tl S)).foldl (msF (tl S)) (1000000, -1000000, 0)).1 = 1000000 then -1000000 else if what = 0 then ((wyM (tl S)).foldl (msF (tl S)) (1000000, -1000000, 0)).1 else if what = 1 then ((wyM (tl S)).foldl (msF (tl S)) (1000000, -1000000, 0)).2.1 else ((wyM (tl S)).foldl (msF (tl S)) (1000000, -1000000, 0)).2.2
theorem t_M_moment (S : St) (what : Int) (Q : Option AV → St → Prop) (hL : ¬ S 0 18 = 0 → ldM S) (hp : plM S) (hQ : ∀ S', Fr [17, 18, 19, 20, 21, 22, 23, 24, 25, 26, 27, 28, 29, 31] [(0, 0), (0, 38)] S S' → Q (some (.inl (aM_moment S what))) S') : Smm H_M_moment 0 [some (.inr (.inr 0)), some (.inl what), none, none, none, none] [] S Q := by
  have e18 : th S 0 18 = S 0 18 := th_0 S (by decide)
  have no : (S 0 18 = 0 ∨ ¬ (0 ≤ what ∧ what ≤ 2)) → Q (some (.inl (-1000000))) (th S) := fun hz => by
    have := hQ (th S) (th_fr S)
    unfold aM_moment at this
    rwa [if_pos hz] at this
  refine sound ok_M_moment [43] 60 ?_
  refine ⟨fun h1 => no (Or.inl (e18 ▸ h1)), fun h1 => ?_⟩
  replace h1 : ¬ S 0 18 = 0 := fun z => h1 (e18.trans z)
  refine t_M_isPart _ _ _ _ (fun h2 => ?_) (fun h2 => ?_)
  · refine ⟨fun _ => ?_, fun z => absurd z (by decide)⟩
    have hl0 := hL h1
    have hA := tl_mAs hl0 hp
    have p19 : tl S 0 19 = S 0 19 := tl_0 S (by decide) (by decide)
    have hlen := wyM_len hA
    have loop : ∀ (post pre : List (Int → Int)) (f : Int → Int) (q : St × (Int × Int × Int)), wyM (tl S) = pre ++ f :: post → (Fr [21, 22, 23, 24, 25] [] (tl S) q.1 ∧ Wy q.1 f ∧ q.2 = pre.foldl (msF (tl S)) (1000000, -1000000, 0)) → Smm H_M_moment 43 [some (.inr (.inr 0)), some (.inl what), some (.inl q.2.1), some (.inl q.2.2.1), some (.inl q.2.2.2), none] [] q.1 Q := by
      refine lp_wy (P := fun _ (q : St × (Int × Int × Int)) => Smm H_M_moment 43 [some (.inr (.inr 0)), some (.inl what), some (.inl q.2.1), some (.inl q.2.2.1), some (.inl q.2.2.2), none] [] q.1 Q) (fun pre f q => Fr [21, 22, 23, 24, 25] [] (tl S) q.1 ∧ Wy q.1 f ∧ q.2 = pre.foldl (msF (tl S)) (1000000, -1000000, 0)) ?_
      rintro pre f post ⟨T, a⟩ hl ⟨hF, hW, ha⟩ ih
      dsimp only at hF hW ha ⊢
      have hSm : Sm (tl S) T := Sm.of hF rfl
      have hA' := mAs_sm hSm hA
      have hfm0 : f ∈ wyM (tl S) := by rw [hl]; exact List.mem_append_right _ List.mem_cons_self
      have hfm : f ∈ wyM T := by rw [wyM_sm hSm]; exact hfm0
      have hpl : pre.length < (wyM (tl S)).length := by rw [hl, List.length_append, List.length_cons]; omega
      have next : ∀ (T2 : St) (b : (Int × Int × Int)) (x : Option AV), Fr [25] [] T T2 → b = (msF (tl S)) a f → Smm H_M_moment 82 [some (.inr (.inr 0)), some (.inl what), some (.inl b.1), some (.inl b.2.1), some (.inl b.2.2), x] [] T2 Q := by
        intro T2 b x hF2 hb
        have hb2 : b = (pre ++ [f]).foldl (msF (tl S)) (1000000, -1000000, 0) := by rw [List.foldl_append, ← ha, hb]; rfl
        have hSm2 : Sm (tl S) T2 := Sm.of (hF.tr (hF2.mo rfl rfl)) rfl
        refine sound ok_M_moment [43, 89] 20 ?_
        refine t_M_nextW T2 pre f post _ (mAs_sm hSm2 hA) (by rw [wyM_sm hSm2]; exact hl) (fun i i0 i1 => ?_) (fun f' post' S3 hp hF3 hW3 => ?_) (fun S3 hp hF3 => ?_)
        · rw [hF2.c 21 rfl]
          exact hW.1 i i0 (by rw [hSm2.1] at i1; rw [hSm.1]; exact i1)
        · refine ⟨fun _ => ?_, fun z => absurd z (by decide)⟩
          exact Smm.sub (ih f' post' (S3, b) hp ⟨(hF.tr (hF2.mo rfl rfl)).tr (hF3.mo rfl rfl), hW3, hb2⟩) ⟨Or.inr rfl, Or.inr rfl, Or.inr rfl, Or.inr rfl, Or.inr rfl, Or.inl rfl, trivial⟩
        · refine ⟨fun z => absurd rfl z, fun _ => ?_⟩
          have hx : b = (wyM (tl S)).foldl (msF (tl S)) (1000000, -1000000, 0) := by rw [hl, hp]; exact hb2
          have hFx := (hF.tr (hF2.mo rfl rfl)).tr (hF3.mo rfl rfl)
          rw [hx]
          have hq := hQ S3 ((tl_fr S).tr (hFx.mo rfl rfl))
          unfold aM_moment at hq
          rw [if_neg (by omega)] at hq
          refine sound ok_M_moment [] 20 ?_
          refine ⟨fun h3 => ?_, fun h3 => ?_⟩
          · rw [if_neg h3] at hq
            refine ⟨fun h4 => ?_, fun h4 => ?_⟩
            · rw [if_neg h4] at hq
              refine ⟨fun h5 => ?_, fun h5 => ?_⟩
              · rw [if_neg h5] at hq; exact hq
              · rw [if_pos h5] at hq; exact hq
            · rw [if_pos h4] at hq; exact hq
          · rw [if_pos h3] at hq; exact hq
      have eog : ogF (T 0 21) (T 0 22) (T 23) (T 0 19).toNat = ogM (tl S) f := by
        unfold ogM
        rw [hSm.1]
        refine ogF_congr (fun j j0 j1 => ?_)
        have hk0 := hA.1.2.1
        rw [hW.2.2 j j0 (by rw [hSm.1]; omega), tnM_sm hSm, smM_sm hSm]
      refine sound ok_M_moment [58] 40 ?_
      refine t_M_opening T _ hA'.1.2.1 ⟨hA'.2.1.2.1, hA'.2.1.2.2.1⟩ (Wy_b hA' hfm hW) (fun T2 hF2 => ?_)
      rw [eog]
      generalize hv : ogM (tl S) f = v
      have rest : ∀ (e1 : Int), e1 = (msF (tl S) a f).1 → Smm H_M_moment 58 [some (.inr (.inr 0)), some (.inl what), some (.inl e1), some (.inl a.2.1), some (.inl a.2.2), some (.inl v)] [] T2 Q := by
        intro e1 he1
        refine sound ok_M_moment [82] 40 ?_
        refine ⟨fun h3 => ?_, fun h3 => ?_⟩
        · exact next T2 (e1, a.2.1, a.2.2) _ hF2 (by rw [he1]; unfold msF; dsimp only; rw [hv, if_neg (c := ¬ v = 1000000 ∧ a.2.1 < v) (fun z => z.1 h3), if_pos h3])
        · refine ⟨fun h4 => ?_, fun h4 => ?_⟩
          · exact next T2 (e1, a.2.1, i32 (a.2.2 + v)) _ hF2 (by rw [he1]; unfold msF; dsimp only; rw [hv, if_neg (c := ¬ v = 1000000 ∧ a.2.1 < v) (fun z => absurd z.2 (by omega)), if_neg h3])
          · exact next T2 (e1, v, i32 (a.2.2 + v)) _ hF2 (by rw [he1]; unfold msF; dsimp only; rw [hv, if_pos (c := ¬ v = 1000000 ∧ a.2.1 < v) ⟨h3, h4⟩, if_neg h3])
      refine ⟨fun h3 => ?_, fun h3 => ?_⟩
      · exact rest a.1 (by unfold msF; dsimp only; rw [hv, if_neg (by omega)])
      · exact rest v (by unfold msF; dsimp only; rw [hv, if_pos h3])
    obtain ⟨r, hr⟩ := wy_first (err := (tl S) 18) ((tl S) 0 20).toNat (fun i hi => (hA.2.2 i (by omega) (by have := hA.1.1.1; omega)).1)
    refine t_M_asTold (th S) _ (by rw [th_0 S (by decide)]; have := hl0.2.1; omega) (by rw [th_0 S (by decide)]; have := hl0.1; omega) ?_
    refine t_M_firstWay (tl S) _ hA (fun T hF hW => ?_)
    exact loop r [] _ (T, (1000000, -1000000, 0)) hr ⟨hF.mo rfl rfl, hW, rfl⟩
  · exact ⟨fun z => absurd rfl z, fun _ => no (Or.inr h2)⟩
