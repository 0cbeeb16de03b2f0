/-! the reference: misfits, fits, lies -/
/-- the scratches within their bounds -/
def scOk (S : St) : Prop := (0 ≤ S 0 49 ∧ S 0 49 ≤ 10) ∧ ∀ k, 0 ≤ k → k < S 0 49 → (0 ≤ S 30 (3 * k) ∧ S 30 (3 * k) < S 0 19) ∧ (-1 ≤ S 30 (3 * k + 1) ∧ S 30 (3 * k + 1) < S 0 20) ∧ -99 ≤ S 30 (3 * k + 2) ∧ S 30 (3 * k + 2) ≤ 199
/-- what scratch k tells of on a way -/
def svM (T : St) (f : Int → Int) (k : Int) : Int := if T 30 (3 * k + 1) = -1 then tnM T (smM T f) (T 30 (3 * k)) else hdM (T 19) (smM T f) (T 30 (3 * k)) (T 30 (3 * k + 1))
def mfM (T : St) (f : Int → Int) : Int := bitF (fun k => decide (¬ svM T f k = T 30 (3 * k + 2))) (T 0 49).toNat
theorem mfM_sm {S S' : St} (h : Sm S S') (h2 : S' 30 = S 30) : mfM S' = mfM S := by
  funext f
  unfold mfM
  have e : svM S' = svM S := by funext f k; unfold svM; rw [h2, tnM_sm h, smM_sm h, h.2.2.2.2.2.2.2.1]
  rw [e, h2, h.1]
theorem t_M_misfits (T : St) (f : Int → Int) (Q : Option AV → St → Prop) (hA : mAs T) (hf : f ∈ wyM T) (hW : Wy T f) (hS : scOk T) (hQ : Q (some (.inl (mfM T f))) T) : Smm H_M_misfits 0 [some (.inr (.inr 0)), none, none, none, none, none] [] T Q := by
  have hk4 := hA.1.2.1
  have hn5 := hA.1.1.1
  have hs10 := hS.1
  have ho := wyM_of hA hf
  generalize hp : (fun k : Nat => decide (¬ svM T f k = T 30 (3 * k + 2))) = p
  have loop : ∀ (i : Int) (_ : Unit), (0 ≤ i ∧ i ≤ T 0 49) → Smm H_M_misfits 4 [some (.inr (.inr 0)), some (.inl (bitF p i.toNat)), some (.inl i), none, none, none] [] T Q := by
    refine lp_up (P := fun i _ => Smm H_M_misfits 4 [some (.inr (.inr 0)), some (.inl (bitF p i.toNat)), some (.inl i), none, none, none] [] T Q) (fun i _ => 0 ≤ i ∧ i ≤ T 0 49) (T 0 49) ?_ ?_
    · rintro i - hi hi2
      refine sound ok_M_misfits [4] 20 ?_
      refine ⟨fun _ => ?_, fun h3 => absurd h3 (by omega)⟩
      rw [show i = T 0 49 by omega]
      unfold mfM at hQ
      rw [hp] at hQ
      exact hQ
    · rintro i - hi hi2 ih
      obtain ⟨k, rfl⟩ : ∃ k : Nat, i = k := ⟨i.toNat, by omega⟩
      have ih := ih () (by omega)
      rw [show ((k : Int) + 1).toNat = k + 1 by omega, bitF] at ih
      rw [show ((k : Int)).toNat = k by omega]
      obtain ⟨b1, b2, b3⟩ := hS.2 k (by omega) hi
      have e0 : i32 (3 * (k : Int)) = 3 * k := i32_id (by omega) (by omega)
      have e1 : i32 (i32 (3 * (k : Int)) + 1) = 3 * k + 1 := by rw [e0]; exact i32_id (by omega) (by omega)
      have e2 : i32 (i32 (3 * (k : Int)) + 2) = 3 * k + 2 := by rw [e0]; exact i32_id (by omega) (by omega)
      have rest : ∀ x y : Int, Smm H_M_misfits 55 [some (.inr (.inr 0)), some (.inl (bitF p k)), some (.inl (k : Int)), some (.inl x), some (.inl y), none] [.inl (svM T f k)] T Q := by
        intro x y
        refine sound ok_M_misfits [4] 40 ?_
        refine ⟨by rw [e2]; omega, ?_⟩
        rw [e2]
        refine ⟨fun h3 => ?_, fun h3 => ?_⟩
        · refine Smm.sub ih ⟨Or.inr rfl, Or.inr (sI ?_), Or.inr (sI (by unfold i32; omega)), Or.inl rfl, Or.inl rfl, Or.inl rfl, trivial⟩
          rw [← hp, if_neg (by simpa using h3)]
        · refine Smm.sub ih ⟨Or.inr rfl, Or.inr (sI ?_), Or.inr (sI (by unfold i32; omega)), Or.inl rfl, Or.inl rfl, Or.inl rfl, trivial⟩
          rw [← hp, if_pos (by simpa using h3)]
      refine sound ok_M_misfits [4, 55] 60 ?_
      refine ⟨fun h3 => absurd h3 (by omega), fun _ => ?_⟩
      refine ⟨by rw [e0]; omega, ?_⟩
      refine ⟨by rw [e1]; omega, ?_⟩
      rw [e1, e0]
      refine ⟨fun h3 => ?_, fun h3 => ?_⟩
      · have hs : 0 ≤ T 30 (3 * k + 1) ∧ T 30 (3 * k + 1) < 5 := by omega
        have hsn := hW.2.1 (T 30 (3 * k + 1)) hs.1 b2.2
        have hsb := smM_b hA.1 ho hs.1 b2.2
        have hal := hA.1.1.2.2 (5 * T 30 (3 * k) + T 30 (3 * k + 1)) (by omega) (by omega)
        refine t_M_heardAt T _ _ _ (by omega) hs (by rw [hsn]; omega) hal.2 ?_
        have ev : svM T f k = hdM (T 19) (T 22) (T 30 (3 * k)) (T 30 (3 * k + 1)) := by
          unfold svM
          rw [if_neg h3]
          exact hdM_congr hsn.symm
        rw [← ev]
        exact rest _ _
      · have ev : svM T f k = T 23 (T 30 (3 * k)) := by
          unfold svM
          rw [if_pos h3, hW.2.2 _ b1.1 b1.2]
        refine ⟨by omega, ?_⟩
        rw [← ev]
        exact rest _ _
  refine sound ok_M_misfits [4] 20 ?_
  exact loop 0 () (by omega)
theorem scOk_tl {S : St} (h : scOk S) : scOk (tl S) := by
  unfold scOk
  rw [tl_0 S (by decide) (by decide), tl_0 S (by decide) (by decide), tl_0 S (by decide) (by decide), show tl S 30 = S 30 by unfold tl; rw [asS_c _ (by decide), th_c S (by decide)]]
  exact h
theorem scOk_sm {S S' : St} (h : Sm S S') (h2 : S' 30 = S 30) (k : scOk S) : scOk S' := by
  unfold scOk
  rw [h.1, h2]
  exact k
def ftS (T : St) (sign : Int) (a : Int × Int) (f : Int → Int) : Int × Int := if mfM T f = 0 then (i32 (a.1 + 1), if sign < 0 then a.2 else ior a.2 (ishl 1 (f sign + 3))) else a
def aM_fits (S : St) (sign : Int) : Int := if S 0 18 = 0 ∨ (¬ sign = -1 ∧ ¬ (0 ≤ sign ∧ sign < S 0 20)) then -1 else if sign = -1 then ((wyM (tl S)).foldl (ftS (tl S) sign) (0, 0)).1 else ((wyM (tl S)).foldl (ftS (tl S) sign) (0, 0)).2
theorem t_M_fits (S : St) (sign : Int) (Q : Option AV → St → Prop) (hL : ¬ S 0 18 = 0 → ldM S) (hp : plM S) (hS : scOk S) (hQ : ∀ S', Fr [17, 18, 19, 20, 21, 22, 23, 24, 25, 26, 27, 28, 29, 31] [(0, 0), (0, 38)] S S' → Q (some (.inl (aM_fits S sign))) S') : Smm H_M_fits 0 [some (.inr (.inr 0)), some (.inl sign), none, none] [] S Q := by
  have e18 : th S 0 18 = S 0 18 := th_0 S (by decide)
  have e20 : th S 0 20 = S 0 20 := th_0 S (by decide)
  have no : (S 0 18 = 0 ∨ (¬ sign = -1 ∧ ¬ (0 ≤ sign ∧ sign < S 0 20))) → Q (some (.inl (-1))) (th S) := fun hz => by
    have := hQ (th S) (th_fr S)
    unfold aM_fits at this
    rwa [if_pos hz] at this
  have main : ¬ S 0 18 = 0 → (sign = -1 ∨ (0 ≤ sign ∧ sign < S 0 20)) → Smm H_M_fits 27 [some (.inr (.inr 0)), some (.inl sign), none, none] [] (th S) Q := by
    intro h1 h2
    have hl0 := hL h1
    have hA := tl_mAs hl0 hp
    have p20 : tl S 0 20 = S 0 20 := tl_0 S (by decide) (by decide)
    have hlen := wyM_len hA
    have loop : ∀ (post pre : List (Int → Int)) (f : Int → Int) (q : St × (Int × Int)), wyM (tl S) = pre ++ f :: post → (Fr [21, 22, 23, 24, 25] [] (tl S) q.1 ∧ Wy q.1 f ∧ q.2 = pre.foldl (ftS (tl S) sign) (0, 0)) → Smm H_M_fits 39 [some (.inr (.inr 0)), some (.inl sign), some (.inl q.2.1), some (.inl q.2.2)] [] q.1 Q := by
      refine lp_wy (P := fun _ (q : St × (Int × Int)) => Smm H_M_fits 39 [some (.inr (.inr 0)), some (.inl sign), some (.inl q.2.1), some (.inl q.2.2)] [] q.1 Q) (fun pre f q => Fr [21, 22, 23, 24, 25] [] (tl S) q.1 ∧ Wy q.1 f ∧ q.2 = pre.foldl (ftS (tl S) sign) (0, 0)) ?_
      rintro pre f post ⟨T, a⟩ hl ⟨hF, hW, ha⟩ ih
      dsimp only at hF hW ha ⊢
      have hSm : Sm (tl S) T := Sm.of hF rfl
      have hA' := mAs_sm hSm hA
      have hfm0 : f ∈ wyM (tl S) := by rw [hl]; exact List.mem_append_right _ List.mem_cons_self
      have hfm : f ∈ wyM T := by rw [wyM_sm hSm]; exact hfm0
      have hpl : pre.length < (wyM (tl S)).length := by rw [hl, List.length_append, List.length_cons]; omega
      have next : ∀ (T2 : St) (b : (Int × Int)), Fr [25] [] T T2 → b = (ftS (tl S) sign) a f → Smm H_M_fits 66 [some (.inr (.inr 0)), some (.inl sign), some (.inl b.1), some (.inl b.2)] [] T2 Q := by
        intro T2 b hF2 hb
        have hb2 : b = (pre ++ [f]).foldl (ftS (tl S) sign) (0, 0) := by rw [List.foldl_append, ← ha, hb]; rfl
        have hSm2 : Sm (tl S) T2 := Sm.of (hF.tr (hF2.mo rfl rfl)) rfl
        refine sound ok_M_fits [39, 73] 20 ?_
        refine t_M_nextW T2 pre f post _ (mAs_sm hSm2 hA) (by rw [wyM_sm hSm2]; exact hl) (fun i i0 i1 => ?_) (fun f' post' S3 hp hF3 hW3 => ?_) (fun S3 hp hF3 => ?_)
        · rw [hF2.c 21 rfl]
          exact hW.1 i i0 (by rw [hSm2.1] at i1; rw [hSm.1]; exact i1)
        · refine ⟨fun _ => ?_, fun z => absurd z (by decide)⟩
          exact Smm.sub (ih f' post' (S3, b) hp ⟨(hF.tr (hF2.mo rfl rfl)).tr (hF3.mo rfl rfl), hW3, hb2⟩) ⟨Or.inr rfl, Or.inr rfl, Or.inr rfl, Or.inr rfl, trivial⟩
        · refine ⟨fun z => absurd rfl z, fun _ => ?_⟩
          have hx : b = (wyM (tl S)).foldl (ftS (tl S) sign) (0, 0) := by rw [hl, hp]; exact hb2
          have hFx := (hF.tr (hF2.mo rfl rfl)).tr (hF3.mo rfl rfl)
          rw [hx]
          have hq := hQ S3 ((tl_fr S).tr (hFx.mo rfl rfl))
          unfold aM_fits at hq
          rw [if_neg (by omega)] at hq
          refine sound ok_M_fits [] 20 ?_
          refine ⟨fun h3 => ?_, fun h3 => ?_⟩
          · rw [if_neg h3] at hq; exact hq
          · rw [if_pos h3] at hq; exact hq
      have erow : T 30 = tl S 30 := hF.c 30 rfl
      have q20 : T 0 20 = S 0 20 := by rw [hSm.1, p20]
      have hn5 := hl0.2.1
      refine sound ok_M_fits [66] 40 ?_
      refine t_M_misfits T f _ hA' hfm hW (scOk_sm hSm erow (scOk_tl hS)) ?_
      rw [mfM_sm hSm erow]
      refine ⟨fun h3 => ?_, fun h3 => ?_⟩
      · exact next T a (Fr.rf _ _ _) (by unfold ftS; rw [if_neg h3])
      · refine ⟨fun h4 => ?_, fun h4 => ?_⟩
        · exact next T (i32 (a.1 + 1), a.2) (Fr.rf _ _ _) (by unfold ftS; rw [if_pos h3, if_pos h4])
        · refine ⟨by omega, ?_⟩
          have hof := wyM_of hA hfm0 sign (by omega) (by rw [p20]; omega)
          have e3 : i32 (T 21 sign + 3) = f sign + 3 := by rw [hW.1 sign (by omega) (by rw [q20]; omega)]; unfold i32; omega
          refine next T (i32 (a.1 + 1), ior a.2 (ishl 1 (i32 (T 21 sign + 3)))) (Fr.rf _ _ _) ?_
          unfold ftS
          rw [if_pos h3, if_neg (by omega), e3]
    obtain ⟨r, hr⟩ := wy_first (err := (tl S) 18) ((tl S) 0 20).toNat (fun i hi => (hA.2.2 i (by omega) (by have := hA.1.1.1; omega)).1)
    refine sound ok_M_fits [39] 20 ?_
    refine t_M_asTold (th S) _ (by rw [th_0 S (by decide)]; have := hl0.2.1; omega) (by rw [th_0 S (by decide)]; have := hl0.1; omega) ?_
    refine t_M_firstWay (tl S) _ hA (fun T hF hW => ?_)
    exact loop r [] _ (T, (0, 0)) hr ⟨hF.mo rfl rfl, hW, rfl⟩
  refine sound ok_M_fits [27] 60 ?_
  refine ⟨fun h1 => no (Or.inl (e18 ▸ h1)), fun h1 => ?_⟩
  replace h1 : ¬ S 0 18 = 0 := fun z => h1 (e18.trans z)
  refine ⟨fun h2 => main h1 (Or.inl h2), fun h2 => ?_⟩
  refine t_M_isSign (th S) sign _ (fun h3 => ?_) (fun h3 => ?_)
  · rw [e18, e20] at h3
    exact ⟨fun _ => main h1 (Or.inr h3.2), fun z => absurd z (by decide)⟩
  · rw [e18, e20] at h3
    exact ⟨fun z => absurd rfl z, fun _ => no (Or.inr ⟨h2, fun z => h3 ⟨h1, z⟩⟩)⟩
def lsS (T : St) (a : Int) (f : Int → Int) : Int := if a < 0 ∨ bcF 30 (mfM T f).toNat < bcF 30 a.toNat ∨ (bcF 30 (mfM T f).toNat = bcF 30 a.toNat ∧ mfM T f < a) then mfM T f else a
theorem mfM_b {T : St} (h : scOk T) (f : Int → Int) : 0 ≤ mfM T f ∧ mfM T f < 1024 := by
  have hs := h.1
  unfold mfM
  have := bitF_b (p := fun k => decide (¬ svM T f k = T 30 (3 * k + 2))) (k := (T 0 49).toNat) (by omega)
  have h2 : (2 : Int) ^ (T 0 49).toNat ≤ 2 ^ 10 := by exact_mod_cast Nat.pow_le_pow_right (n := 2) (by omega) (show (T 0 49).toNat ≤ 10 by omega)
  omega
theorem lsS_b {T : St} (h : scOk T) : ∀ (l : List (Int → Int)) (a : Int), -1 ≤ a ∧ a < 1024 → -1 ≤ l.foldl (lsS T) a ∧ l.foldl (lsS T) a < 1024
  | [], a, h0 => h0
  | f :: l, a, h0 => by
    rw [List.foldl_cons]
    refine lsS_b h l _ ?_
    unfold lsS
    split
    · have := mfM_b h f; omega
    · exact h0
def aM_lies (S : St) : Int := if S 0 18 = 0 then -1 else (wyM (tl S)).foldl (lsS (tl S)) (-1)
theorem t_M_lies (S : St) (Q : Option AV → St → Prop) (hL : ¬ S 0 18 = 0 → ldM S) (hp : plM S) (hS : scOk S) (hQ : ∀ S', Fr [17, 18, 19, 20, 21, 22, 23, 24, 25, 26, 27, 28, 29, 31] [(0, 0), (0, 38)] S S' → Q (some (.inl (aM_lies S))) S') : Smm H_M_lies 0 [some (.inr (.inr 0)), none, none] [] S Q := by
  have e18 : th S 0 18 = S 0 18 := th_0 S (by decide)
  refine sound ok_M_lies [24] 60 ?_
  refine ⟨fun h1 => ?_, fun h1 => ?_⟩
  · replace h1 : ¬ S 0 18 = 0 := fun z => h1 (e18.trans z)
    have hl0 := hL h1
    have hA := tl_mAs hl0 hp
    have hlen := wyM_len hA
    have loop : ∀ (post pre : List (Int → Int)) (f : Int → Int) (q : St × Int), wyM (tl S) = pre ++ f :: post → (Fr [21, 22, 23, 24, 25] [] (tl S) q.1 ∧ Wy q.1 f ∧ q.2 = pre.foldl (lsS (tl S)) (-1)) → Smm H_M_lies 24 [some (.inr (.inr 0)), some (.inl q.2), none] [] q.1 Q := by
      refine lp_wy (P := fun _ (q : St × Int) => Smm H_M_lies 24 [some (.inr (.inr 0)), some (.inl q.2), none] [] q.1 Q) (fun pre f q => Fr [21, 22, 23, 24, 25] [] (tl S) q.1 ∧ Wy q.1 f ∧ q.2 = pre.foldl (lsS (tl S)) (-1)) ?_
      rintro pre f post ⟨T, a⟩ hl ⟨hF, hW, ha⟩ ih
      dsimp only at hF hW ha ⊢
      have hSm : Sm (tl S) T := Sm.of hF rfl
      have hA' := mAs_sm hSm hA
      have hfm0 : f ∈ wyM (tl S) := by rw [hl]; exact List.mem_append_right _ List.mem_cons_self
      have hfm : f ∈ wyM T := by rw [wyM_sm hSm]; exact hfm0
      have hpl : pre.length < (wyM (tl S)).length := by rw [hl, List.length_append, List.length_cons]; omega
      have next : ∀ (T2 : St) (b : Int) (x : Option AV), Fr [25] [] T T2 → b = (lsS (tl S)) a f → Smm H_M_lies 62 [some (.inr (.inr 0)), some (.inl b), x] [] T2 Q := by
        intro T2 b x hF2 hb
        have hb2 : b = (pre ++ [f]).foldl (lsS (tl S)) (-1) := by rw [List.foldl_append, ← ha, hb]; rfl
        have hSm2 : Sm (tl S) T2 := Sm.of (hF.tr (hF2.mo rfl rfl)) rfl
        refine sound ok_M_lies [24, 69] 20 ?_
        refine t_M_nextW T2 pre f post _ (mAs_sm hSm2 hA) (by rw [wyM_sm hSm2]; exact hl) (fun i i0 i1 => ?_) (fun f' post' S3 hp hF3 hW3 => ?_) (fun S3 hp hF3 => ?_)
        · rw [hF2.c 21 rfl]
          exact hW.1 i i0 (by rw [hSm2.1] at i1; rw [hSm.1]; exact i1)
        · refine ⟨fun _ => ?_, fun z => absurd z (by decide)⟩
          exact Smm.sub (ih f' post' (S3, b) hp ⟨(hF.tr (hF2.mo rfl rfl)).tr (hF3.mo rfl rfl), hW3, hb2⟩) ⟨Or.inr rfl, Or.inr rfl, Or.inl rfl, trivial⟩
        · refine ⟨fun z => absurd rfl z, fun _ => ?_⟩
          have hx : b = (wyM (tl S)).foldl (lsS (tl S)) (-1) := by rw [hl, hp]; exact hb2
          have hFx := (hF.tr (hF2.mo rfl rfl)).tr (hF3.mo rfl rfl)
          rw [hx]
          have hq := hQ S3 ((tl_fr S).tr (hFx.mo rfl rfl))
          unfold aM_lies at hq
          rw [if_neg h1] at hq
          refine sound ok_M_lies [] 20 ?_
          exact hq
      have erow : T 30 = tl S 30 := hF.c 30 rfl
      have hab := lsS_b (scOk_tl hS) pre (-1) (by omega)
      rw [← ha] at hab
      have hvb := mfM_b (scOk_tl hS) f
      refine sound ok_M_lies [62] 60 ?_
      refine t_M_misfits T f _ hA' hfm hW (scOk_sm hSm erow (scOk_tl hS)) ?_
      rw [mfM_sm hSm erow]
      generalize hv : mfM (tl S) f = v at hvb
      have yes : (a < 0 ∨ bcF 30 v.toNat < bcF 30 a.toNat ∨ (bcF 30 v.toNat = bcF 30 a.toNat ∧ v < a)) → Smm H_M_lies 62 [some (.inr (.inr 0)), some (.inl v), some (.inl v)] [] T Q := fun hz => next T v _ (Fr.rf _ _ _) (by unfold lsS; rw [hv, if_pos hz])
      have no : ¬ (a < 0 ∨ bcF 30 v.toNat < bcF 30 a.toNat ∨ (bcF 30 v.toNat = bcF 30 a.toNat ∧ v < a)) → Smm H_M_lies 62 [some (.inr (.inr 0)), some (.inl a), some (.inl v)] [] T Q := fun hz => next T a _ (Fr.rf _ _ _) (by unfold lsS; rw [hv, if_neg hz])
      refine ⟨fun h3 => yes (Or.inl h3), fun h3 => ?_⟩
      have hav : ∃ n : Nat, a = n := ⟨a.toNat, by omega⟩
      have hvv : ∃ n : Nat, v = n := ⟨v.toNat, by omega⟩
      obtain ⟨a', ea⟩ := hav
      obtain ⟨v', ev⟩ := hvv
      rw [ea, ev] at yes no ⊢
      rw [show ((a' : Nat) : Int).toNat = a' by omega, show ((v' : Nat) : Int).toNat = v' by omega] at yes no
      refine t_M_bitsOf T v' _ (by omega) ?_
      refine t_M_bitsOf T a' _ (by omega) ?_
      refine ⟨fun h4 => yes (Or.inr (Or.inl (by omega))), fun h4 => ?_⟩
      refine t_M_bitsOf T v' _ (by omega) ?_
      refine t_M_bitsOf T a' _ (by omega) ?_
      refine ⟨fun h5 => no (fun z => by omega), fun h5 => ?_⟩
      refine ⟨fun h6 => no (fun z => by omega), fun h6 => yes (Or.inr (Or.inr ⟨by omega, by omega⟩))⟩
    obtain ⟨r, hr⟩ := wy_first (err := (tl S) 18) ((tl S) 0 20).toNat (fun i hi => (hA.2.2 i (by omega) (by have := hA.1.1.1; omega)).1)
    refine t_M_asTold (th S) _ (by rw [th_0 S (by decide)]; have := hl0.2.1; omega) (by rw [th_0 S (by decide)]; have := hl0.1; omega) ?_
    refine t_M_firstWay (tl S) _ hA (fun T hF hW => ?_)
    exact loop r [] _ (T, -1) hr ⟨hF.mo rfl rfl, hW, rfl⟩
  · have := hQ (th S) (th_fr S)
    unfold aM_lies at this
    rw [if_pos (e18 ▸ h1)] at this
    exact this
