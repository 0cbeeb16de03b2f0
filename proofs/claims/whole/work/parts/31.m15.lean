/-! the reference: waits; best, thief -/
/-- so many later, if at all -/
def plN (h n : Int) : Int := if h = 1000000 then 1000000 else h + n
/-- does it open on a way, if guard g turns at v instead -/
def op1 (T : St) (f : Int → Int) (g v : Int) : Bool := decide (apF (T 0 21) (uf (tnM T (smM T f)) g v) (T 0 19).toNat ≤ T 0 22)
/-- tallies: of the ways ahead, and of this one up to place i -/
def tyI (P : Int → (Int → Int) → Bool) (pre : List (Int → Int)) (f : Int → Int) (i N : Int) (t : Int → Int) : Prop := ∀ k, 0 ≤ k → k < N → t k = (pre.countP (P k) : Int) + if k < i ∧ P k f = true then 1 else 0
theorem ty_yes {P : Int → (Int → Int) → Bool} {pre : List (Int → Int)} {f : Int → Int} {i N : Int} {t : Int → Int} (h : tyI P pre f i N t) (h0 : 0 ≤ i) (h1 : i < N) (hp : P i f = true) : tyI P pre f (i + 1) N (uf t i (t i + 1)) := by
  intro k k0 k1
  have hk := h k k0 k1
  by_cases hz : k = i
  · subst hz
    rw [uf_s, hk, if_neg (by omega), if_pos ⟨by omega, hp⟩]
    omega
  · rw [uf_n _ _ hz, hk]
    simp [show (k < i + 1 ↔ k < i) by omega]
theorem ty_no {P : Int → (Int → Int) → Bool} {pre : List (Int → Int)} {f : Int → Int} {i N : Int} {t : Int → Int} (h : tyI P pre f i N t) (hp : P i f = false) : tyI P pre f (i + 1) N t := by
  intro k k0 k1
  rw [h k k0 k1]
  by_cases hz : k = i
  · subst hz
    simp [hp]
  · simp [show (k < i + 1 ↔ k < i) by omega]
theorem ty_next {P : Int → (Int → Int) → Bool} {pre : List (Int → Int)} {f : Int → Int} {N : Int} {t : Int → Int} (h : tyI P pre f N N t) (f' : Int → Int) : tyI P (pre ++ [f]) f' 0 N t := by
  intro k k0 k1
  rw [h k k0 k1, List.countP_append, List.countP_cons, List.countP_nil, if_neg (c := k < 0 ∧ P k f' = true) (by omega)]
  by_cases hp : P k f = true
  · simp [hp, k1]
  · simp [hp]
theorem ty_b {P : Int → (Int → Int) → Bool} {pre : List (Int → Int)} {f : Int → Int} {i N : Int} {t : Int → Int} (h : tyI P pre f i N t) {k : Int} (h0 : 0 ≤ k) (h1 : k < N) : 0 ≤ t k ∧ t k ≤ pre.length + 1 := by
  rw [h k h0 h1]
  have := List.countP_le_length (p := P k) (l := pre)
  split <;> omega
/-- the first of the highest -/
def bmF (t : Int → Int) : Nat → Int
  | 0 => 0
  | k + 1 => if t (bmF t k) < t k then k else bmF t k
theorem bmF_b (t : Int → Int) : ∀ k : Nat, 0 ≤ bmF t k ∧ (bmF t k < k ∨ bmF t k = 0)
  | 0 => ⟨Int.le_refl _, Or.inr rfl⟩
  | k + 1 => by
    have := bmF_b t k
    rw [bmF]
    split <;> omega
theorem bmF_1 (t : Int → Int) : bmF t 1 = 0 := by simp [bmF]
theorem bmF_congr {t t' : Int → Int} : ∀ k : Nat, (∀ j : Int, 0 ≤ j → j < k → t j = t' j) → bmF t k = bmF t' k
  | 0, _ => rfl
  | k + 1, h => by
    have hb := bmF_b t' k
    rw [bmF, bmF, bmF_congr k (fun j h0 hj => h j h0 (by omega)), h k (by omega) (by omega), h (bmF t' k) (by omega) (by omega)]
/-- by waiting n parts -/
def waP (T : St) (g : Int) (n : Int) (f : Int → Int) : Bool := op1 T f g (plN (tnM T (smM T f) g) n)
def aM_waits (S : St) (g what : Int) : Int := if ¬ (¬ S 0 18 = 0 ∧ 0 ≤ g ∧ g < S 0 19) ∨ ¬ (0 ≤ what ∧ what ≤ 1) then -1 else
  if what = 0 then bmF (fun n => ((wyM (tl S)).countP (waP (tl S) g n) : Int)) 10 else ((wyM (tl S)).countP (waP (tl S) g (bmF (fun n => ((wyM (tl S)).countP (waP (tl S) g n) : Int)) 10)) : Int)
set_option maxHeartbeats 2000000 in
theorem t_M_waits (S : St) (g what : Int) (Q : Option AV → St → Prop) (hL : ¬ S 0 18 = 0 → ldM S) (hp : plM S) (hQ : ∀ S', Fr [17, 18, 19, 20, 21, 22, 23, 24, 25, 26, 27, 28, 29, 31] [(0, 0), (0, 38)] S S' → Q (some (.inl (aM_waits S g what))) S') : Smm H_M_waits 0 [some (.inr (.inr 0)), some (.inl g), some (.inl what), none, none] [] S Q := by
  have e18 : th S 0 18 = S 0 18 := th_0 S (by decide)
  have e19 : th S 0 19 = S 0 19 := th_0 S (by decide)
  have no : (¬ (¬ S 0 18 = 0 ∧ 0 ≤ g ∧ g < S 0 19) ∨ ¬ (0 ≤ what ∧ what ≤ 1)) → Q (some (.inl (-1))) (th S) := fun hz => by
    have := hQ (th S) (th_fr S)
    unfold aM_waits at this
    rwa [if_pos hz] at this
  refine sound ok_M_waits [29] 60 ?_
  refine t_M_isGuard (th S) g _ (fun h1 => ?_) (fun h1 => by
    rw [e18, e19] at h1
    exact ⟨fun _ => no (Or.inl h1), fun z => absurd rfl z⟩)
  rw [e18, e19] at h1
  refine ⟨fun z => absurd z (by decide), fun _ => ?_⟩
  refine t_M_isPart _ _ _ _ (fun h2 => ?_) (fun h2 => ?_)
  · refine ⟨fun _ => ?_, fun z => absurd z (by decide)⟩
    have hl0 := hL h1.1
    have hA := tl_mAs hl0 hp
    have hk4 := hl0.1
    have p19 : tl S 0 19 = S 0 19 := tl_0 S (by decide) (by decide)
    have fin : ∀ (T : St) (x y : Int), Fr [21, 22, 23, 24, 25, 26, 27, 28, 29, 31] [] (tl S) T → tyI (waP (tl S) g) (wyM (tl S)) (fun _ => 0) 0 10 (T 26) → Smm H_M_waits 123 [some (.inr (.inr 0)), some (.inl g), some (.inl what), some (.inl x), some (.inl y)] [] T Q := by
      intro T x y hF hx
      have ht : ∀ k : Int, 0 ≤ k → k < 10 → T 26 k = ((wyM (tl S)).countP (waP (tl S) g k) : Int) := fun k k0 k1 => by
        rw [hx k k0 k1, if_neg (by omega)]; omega
      have eb := bmF_congr (t := T 26) (t' := fun n => ((wyM (tl S)).countP (waP (tl S) g n) : Int)) 10 (fun j j0 j1 => ht j j0 (by omega))
      have hbb := bmF_b (T 26) 10
      have hq := hQ T ((tl_fr S).tr (hF.mo rfl rfl))
      unfold aM_waits at hq
      rw [if_neg (by omega), ← eb] at hq
      have loop : ∀ (i : Int) (_ : Unit), (1 ≤ i ∧ i ≤ 10) → Smm H_M_waits 128 [some (.inr (.inr 0)), some (.inl g), some (.inl what), some (.inl (bmF (T 26) i.toNat)), some (.inl i)] [] T Q := by
        refine lp_up (P := fun i _ => Smm H_M_waits 128 [some (.inr (.inr 0)), some (.inl g), some (.inl what), some (.inl (bmF (T 26) i.toNat)), some (.inl i)] [] T Q) (fun i _ => 1 ≤ i ∧ i ≤ 10) 10 ?_ ?_
        · rintro i - hi hi2
          rw [show i.toNat = 10 by omega]
          refine sound ok_M_waits [128] 30 ?_
          refine ⟨fun _ => ?_, fun h3 => absurd h3 (by omega)⟩
          refine ⟨fun h4 => ?_, fun h4 => ?_⟩
          · rw [if_neg h4, ← ht _ hbb.1 (by omega)] at hq
            refine ⟨by omega, ?_⟩
            exact hq
          · rw [if_pos h4] at hq
            exact hq
        · rintro i - hi hi2 ih
          obtain ⟨k, rfl⟩ : ∃ k : Nat, i = k := ⟨i.toNat, by omega⟩
          have ih := ih () (by omega)
          rw [show ((k : Int) + 1).toNat = k + 1 by omega, bmF] at ih
          rw [show ((k : Int)).toNat = k by omega]
          have hb := bmF_b (T 26) k
          refine sound ok_M_waits [128] 40 ?_
          refine ⟨fun h3 => absurd h3 (by omega), fun _ => ?_⟩
          refine ⟨by omega, ?_⟩
          refine ⟨by omega, ?_⟩
          refine ⟨fun h3 => ?_, fun h3 => ?_⟩
          · rw [if_neg (by omega)] at ih
            exact Smm.sub ih ⟨Or.inr rfl, Or.inr rfl, Or.inr rfl, Or.inr rfl, Or.inr (sI (i32_id (by omega) (by omega)).symm), trivial⟩
          · rw [if_pos (by omega)] at ih
            exact Smm.sub ih ⟨Or.inr rfl, Or.inr rfl, Or.inr rfl, Or.inr rfl, Or.inr (sI (i32_id (by omega) (by omega)).symm), trivial⟩
      refine sound ok_M_waits [128] 20 ?_
      exact Smm.sub (loop 1 () (by omega)) ⟨Or.inr rfl, Or.inr rfl, Or.inr rfl, Or.inr (sI (bmF_1 _)), Or.inr rfl, trivial⟩
    have hlen := wyM_len hA
    have loop : ∀ (post pre : List (Int → Int)) (f : Int → Int) (T : St), wyM (tl S) = pre ++ f :: post → (Fr [21, 22, 23, 24, 25, 26, 27, 28, 29, 31] [] (tl S) T ∧ Wy T f ∧ tyI (waP (tl S) g) pre (fun _ => 0) 0 10 (T 26)) → Smm H_M_waits 52 [some (.inr (.inr 0)), some (.inl g), some (.inl what), none, none] [] T Q := by
      refine lp_wy (P := fun _ (T : St) => Smm H_M_waits 52 [some (.inr (.inr 0)), some (.inl g), some (.inl what), none, none] [] T Q) (fun pre f T => Fr [21, 22, 23, 24, 25, 26, 27, 28, 29, 31] [] (tl S) T ∧ Wy T f ∧ tyI (waP (tl S) g) pre (fun _ => 0) 0 10 (T 26)) ?_
      rintro pre f post T hl ⟨hF, hW, hI⟩ ih
      have hSm : Sm (tl S) T := Sm.of hF rfl
      have hA' := mAs_sm hSm hA
      have hfm0 : f ∈ wyM (tl S) := by rw [hl]; exact List.mem_append_right _ List.mem_cons_self
      have hfm : f ∈ wyM T := by rw [wyM_sm hSm]; exact hfm0
      have hpl : pre.length < (wyM (tl S)).length := by rw [hl, List.length_append, List.length_cons]; omega
      have next : ∀ (T2 : St) (x y : Int), Fr [21, 22, 23, 24, 25, 26, 27, 28, 29, 31] [] (tl S) T2 → (∀ i, 0 ≤ i → i < (tl S) 0 20 → T2 21 i = f i) → tyI (waP (tl S) g) (pre ++ [f]) (fun _ => 0) 0 10 (T2 26) → Smm H_M_waits 116 [some (.inr (.inr 0)), some (.inl g), some (.inl what), some (.inl x), some (.inl y)] [] T2 Q := by
        intro T2 x y hF2 ho2 hI2
        have hSm2 : Sm (tl S) T2 := Sm.of hF2 rfl
        refine sound ok_M_waits [52, 123] 20 ?_
        refine t_M_nextW T2 pre f post _ (mAs_sm hSm2 hA) (by rw [wyM_sm hSm2]; exact hl) (fun i i0 i1 => ho2 i i0 (by rw [hSm2.1] at i1; exact i1)) (fun f' post' S3 hp hF3 hW3 => ?_) (fun S3 hp hF3 => ?_)
        · refine ⟨fun _ => ?_, fun z => absurd z (by decide)⟩
          refine Smm.sub (ih f' post' S3 hp ⟨hF2.tr (hF3.mo rfl rfl), hW3, ?_⟩) ⟨Or.inr rfl, Or.inr rfl, Or.inr rfl, Or.inl rfl, Or.inl rfl, trivial⟩
          rw [hF3.c 26 rfl]
          exact hI2
        · refine ⟨fun z => absurd rfl z, fun _ => ?_⟩
          have hx : tyI (waP (tl S) g) (wyM (tl S)) (fun _ => 0) 0 10 (S3 26) := by rw [hF3.c 26 rfl, hl, hp]; exact hI2
          have hFx := hF2.tr (hF3.mo rfl rfl)
          exact Smm.sub (fin S3 x y hFx hx) ⟨Or.inr rfl, Or.inr rfl, Or.inr rfl, Or.inr rfl, Or.inr rfl, trivial⟩
      have q19 : T 0 19 = S 0 19 := by rw [hSm.1, p19]
      have hv : T 23 g = tnM (tl S) (smM (tl S) f) g := by rw [hW.2.2 g h1.2.1 (by omega), tnM_sm hSm, smM_sm hSm]
      have hvb := tnM_b hA.1 (wyM_of hA hfm0) h1.2.1 (by omega)
      generalize hown : tnM (tl S) (smM (tl S) f) g = own at hv hvb
      have inner : ∀ (i : Int) (T2 : St), ((0 ≤ i ∧ i ≤ 10) ∧ Fr [25, 23, 26] [] T T2 ∧ (∀ j, ¬ j = g → T2 23 j = T 23 j) ∧ tyI (waP (tl S) g) pre f i 10 (T2 26)) → Smm H_M_waits 62 [some (.inr (.inr 0)), some (.inl g), some (.inl what), some (.inl own), some (.inl i)] [] T2 Q := by
        refine lp_up (P := fun i T2 => Smm H_M_waits 62 [some (.inr (.inr 0)), some (.inl g), some (.inl what), some (.inl own), some (.inl i)] [] T2 Q) _ 10 ?_ ?_
        · rintro i T2 hi ⟨hi2, hF2, htn, hty⟩
          refine sound ok_M_waits [116] 20 ?_
          refine ⟨fun _ => ?_, fun h3 => absurd h3 (by omega)⟩
          refine next T2 _ _ (hF.tr (hF2.mo rfl rfl)) (fun j j0 j1 => ?_) ?_
          · rw [hF2.c 21 rfl]
            exact hW.1 j j0 (by rw [hSm.1]; exact j1)
          · rw [show i = 10 by omega] at hty
            exact ty_next hty _
        · rintro i T2 hi ⟨hi2, hF2, htn, hty⟩ ih
          have r0 : T2 0 = T 0 := hF2.c 0 rfl
          have r19 : T2 0 19 = S 0 19 := by rw [r0, q19]
          have hwa : waP (tl S) g i f = op1 (tl S) f g (plN own i) := by unfold waP; rw [hown]
          have hub := ty_b hty hi2.1 hi
          have go : ∀ v, v = plN own i → Smm H_M_waits 91 [some (.inr (.inr 0)), some (.inl g), some (.inl what), some (.inl own), some (.inl i)] [.inl v, .inl g, .inr (.inr 23)] T2 Q := by
            intro v hvv
            have hvb2 : v = 1000000 ∨ (-1000 ≤ v ∧ v ≤ 2000) := by rw [hvv]; unfold plN; split <;> omega
            have hF3 := hF2.up 23 g v rfl
            have etn : ∀ j, 0 ≤ j → j < S 0 19 → up T2 23 g v 23 j = uf (tnM (tl S) (smM (tl S) f)) g v j := fun j j0 j1 => by
              by_cases hj : j = g
              · rw [hj, up_s, uf_s]
              · rw [up_n _ _ _ hj, uf_n _ _ hj, htn j hj, hW.2.2 j j0 (by omega), tnM_sm hSm, smM_sm hSm]
            have u0 : up T2 23 g v 0 = tl S 0 := by rw [up_o _ _ _ (by decide), r0, hSm.1]
            have eap : apF (up T2 23 g v 0 21) (up T2 23 g v 23) (up T2 23 g v 0 19).toNat = apF (tl S 0 21) (uf (tnM (tl S) (smM (tl S) f)) g v) (tl S 0 19).toNat := by
              rw [u0]
              exact apF_congr (fun j j0 j1 => etn j j0 (by omega))
            refine sound ok_M_waits [62] 40 ?_
            refine ⟨by omega, ?_⟩
            refine t_M_doesOpen (up T2 23 g v) _ (by rw [u0]; exact hA.1.2.1) (by rw [u0]; exact ⟨hA.2.1.2.1, hA.2.1.2.2.1⟩) (fun j j0 j1 => ?_) (fun T3 hF4 hop => ?_) (fun T3 hF4 hop => ?_)
            · rw [u0, p19] at j1
              rw [etn j j0 j1]
              by_cases hj : j = g
              · rw [hj, uf_s]; exact hvb2
              · rw [uf_n _ _ hj]
                have := tnM_b hA.1 (wyM_of hA hfm0) j0 (show j < 4 by omega)
                omega
            · rw [eap, u0] at hop
              have ht3 : T3 26 = T2 26 := by rw [hF4.c 26 rfl, up_o _ _ _ (by decide)]
              refine ⟨fun z => absurd z (by decide), fun _ => ?_⟩
              refine ⟨by omega, ?_⟩
              refine ⟨by omega, ?_⟩
              refine Smm.sub (ih (up T3 26 i (i32 (T3 26 i + 1))) ⟨by omega, (hF3.tr (hF4.mo rfl rfl)).up _ _ _ rfl, fun j hj => ?_, ?_⟩) ⟨Or.inr rfl, Or.inr rfl, Or.inr rfl, Or.inr rfl, Or.inr (sI (i32_id (by omega) (by omega)).symm), trivial⟩
              · rw [up_o _ _ _ (by decide), hF4.c 23 rfl, up_n _ _ _ hj]
                exact htn j hj
              · rw [up_c, ht3, i32_id (by omega) (by omega)]
                exact ty_yes hty hi2.1 hi (by rw [hwa, ← hvv]; exact decide_eq_true hop)
            · rw [eap, u0] at hop
              have ht3 : T3 26 = T2 26 := by rw [hF4.c 26 rfl, up_o _ _ _ (by decide)]
              refine ⟨fun _ => ?_, fun z => absurd rfl z⟩
              refine Smm.sub (ih T3 ⟨by omega, hF3.tr (hF4.mo rfl rfl), fun j hj => ?_, ?_⟩) ⟨Or.inr rfl, Or.inr rfl, Or.inr rfl, Or.inr rfl, Or.inr (sI (i32_id (by omega) (by omega)).symm), trivial⟩
              · rw [hF4.c 23 rfl, up_n _ _ _ hj]
                exact htn j hj
              · rw [ht3]
                exact ty_no hty (by rw [hwa, ← hvv]; exact decide_eq_false hop)
          refine sound ok_M_waits [91] 40 ?_
          refine ⟨fun h3 => absurd h3 (by omega), fun _ => ?_⟩
          refine ⟨fun h3 => ?_, fun h3 => ?_⟩
          · exact go _ (by unfold plN; rw [if_neg h3]; exact i32_id (by omega) (by omega))
          · exact go _ (by unfold plN; rw [if_pos h3])
      refine sound ok_M_waits [62] 30 ?_
      refine ⟨by omega, ?_⟩
      rw [hv]
      refine inner 0 T ⟨by omega, Fr.rf _ _ _, fun _ _ => rfl, ?_⟩
      intro k k0 k1
      have := hI k k0 k1
      rw [this]
      simp [show ¬ k < 0 by omega]
    obtain ⟨r, hr⟩ := wy_first (err := (tl S) 18) ((tl S) 0 20).toNat (fun i hi => (hA.2.2 i (by omega) (by have := hA.1.1.1; omega)).1)
    refine t_M_asTold (th S) _ (by rw [th_0 S (by decide)]; have := hl0.2.1; omega) (by rw [th_0 S (by decide)]; have := hl0.1; omega) ?_
    have clear : ∀ (i : Int) (T : St), ((0 ≤ i ∧ i ≤ 10) ∧ Fr [26] [] (tl S) T ∧ ∀ k, 0 ≤ k → k < i → T 26 k = 0) → Smm H_M_waits 29 [some (.inr (.inr 0)), some (.inl g), some (.inl what), some (.inl i), none] [] T Q := by
      refine lp_up (P := fun i T => Smm H_M_waits 29 [some (.inr (.inr 0)), some (.inl g), some (.inl what), some (.inl i), none] [] T Q) _ 10 ?_ ?_
      · rintro i T hi ⟨hi2, hF, hz⟩
        have hSm : Sm (tl S) T := Sm.of hF rfl
        refine sound ok_M_waits [52] 20 ?_
        refine ⟨fun _ => ?_, fun h3 => absurd h3 (by omega)⟩
        refine t_M_firstWay T _ (mAs_sm hSm hA) (fun T2 hF2 hW => ?_)
        refine Smm.sub (loop r [] (fsF (tl S 18) (tl S 0 20).toNat) T2 hr ⟨(hF.mo rfl rfl).tr (hF2.mo rfl rfl), ?_, ?_⟩) ⟨Or.inr rfl, Or.inr rfl, Or.inr rfl, Or.inl rfl, Or.inl rfl, trivial⟩
        · rw [← hSm.1, ← hSm.2.2.2.2.2.2.1]
          exact hW
        · rw [hF2.c 26 rfl]
          intro k k0 k1
          rw [hz k k0 (by omega), if_neg (by omega)]
          rfl
      · rintro i T hi ⟨hi2, hF, hz⟩ ih
        refine sound ok_M_waits [29] 20 ?_
        refine ⟨fun h3 => absurd h3 (by omega), fun _ => ?_⟩
        refine ⟨by omega, ?_⟩
        refine Smm.sub (ih (up T 26 i 0) ⟨by omega, hF.up _ _ _ rfl, fun k k0 k1 => ?_⟩) ⟨Or.inr rfl, Or.inr rfl, Or.inr rfl, Or.inr (sI (i32_id (by omega) (by omega)).symm), Or.inl rfl, trivial⟩
        by_cases hk : k = i
        · rw [hk, up_s]
        · rw [up_n _ _ _ hk]
          exact hz k k0 (by omega)
    exact clear 0 (tl S) ⟨by omega, Fr.rf _ _ _, fun k k0 k1 => by omega⟩
  · exact ⟨fun z => absurd rfl z, fun _ => no (Or.inr h2)⟩
