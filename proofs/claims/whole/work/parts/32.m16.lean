/-! the reference: best, thief -/
/-- a simple plan k instead (z: 0 by what the guard hears, else by the signs as they are) -/
def beP (T : St) (g z k : Int) (f : Int → Int) : Bool := op1 T f g (plN (if z = 0 then hdM (T 19) (smM T f) g (k / 10) else smM T f (k / 10)) (k % 10))
set_option maxHeartbeats 2000000 in
theorem t_M_talliesOne (B : St) (g z : Int) (Q : Option AV → St → Prop) (hA : mAs B) (h1 : 0 ≤ g ∧ g < B 0 19) (hQ : ∀ S', Fr [21, 22, 23, 24, 25, 26, 27, 28, 29, 31] [] B S' → (∀ k, 0 ≤ k → k < 10 * B 0 20 → S' 26 k = ((wyM B).countP (beP B g z k) : Int)) → Q none S') : Smm H_M_talliesOne 0 [some (.inr (.inr 0)), some (.inl g), some (.inl z), none, none, none, none] [] B Q := by
    have hk4 := hA.1.2.1
    have hn5 := hA.1.1.1
    generalize hN : 10 * B 0 20 = N at hQ
    have hlen := wyM_len hA
    have loop : ∀ (post pre : List (Int → Int)) (f : Int → Int) (T : St), wyM B = pre ++ f :: post → (Fr [21, 22, 23, 24, 25, 26, 27, 28, 29, 31] [] B T ∧ Wy T f ∧ tyI (beP B g z) pre (fun _ => 0) 0 N (T 26)) → Smm H_M_talliesOne 25 [some (.inr (.inr 0)), some (.inl g), some (.inl z), none, none, none, none] [] T Q := by
      refine lp_wy (P := fun _ (T : St) => Smm H_M_talliesOne 25 [some (.inr (.inr 0)), some (.inl g), some (.inl z), none, none, none, none] [] T Q) (fun pre f T => Fr [21, 22, 23, 24, 25, 26, 27, 28, 29, 31] [] B T ∧ Wy T f ∧ tyI (beP B g z) pre (fun _ => 0) 0 N (T 26)) ?_
      rintro pre f post T hl ⟨hF, hW, hI⟩ ih
      have hSm : Sm B T := Sm.of hF rfl
      have hA' := mAs_sm hSm hA
      have hfm0 : f ∈ wyM B := by rw [hl]; exact List.mem_append_right _ List.mem_cons_self
      have hfm : f ∈ wyM T := by rw [wyM_sm hSm]; exact hfm0
      have hpl : pre.length < (wyM B).length := by rw [hl, List.length_append, List.length_cons]; omega
      have next : ∀ (T2 : St) (x y : Int) (x5 x6 : Option AV), Fr [21, 22, 23, 24, 25, 26, 27, 28, 29, 31] [] B T2 → (∀ i, 0 ≤ i → i < B 0 20 → T2 21 i = f i) → tyI (beP B g z) (pre ++ [f]) (fun _ => 0) 0 N (T2 26) → Smm H_M_talliesOne 145 [some (.inr (.inr 0)), some (.inl g), some (.inl z), some (.inl x), some (.inl y), x5, x6] [] T2 Q := by
        intro T2 x y x5 x6 hF2 ho2 hI2
        have hSm2 : Sm B T2 := Sm.of hF2 rfl
        refine sound ok_M_talliesOne [25, 152] 20 ?_
        refine t_M_nextW T2 pre f post _ (mAs_sm hSm2 hA) (by rw [wyM_sm hSm2]; exact hl) (fun i i0 i1 => ho2 i i0 (by rw [hSm2.1] at i1; exact i1)) (fun f' post' S3 hp hF3 hW3 => ?_) (fun S3 hp hF3 => ?_)
        · refine ⟨fun _ => ?_, fun z => absurd z (by decide)⟩
          refine Smm.sub (ih f' post' S3 hp ⟨hF2.tr (hF3.mo rfl rfl), hW3, ?_⟩) ⟨Or.inr rfl, Or.inr rfl, Or.inr rfl, Or.inl rfl, Or.inl rfl, Or.inl rfl, Or.inl rfl, trivial⟩
          rw [hF3.c 26 rfl]
          exact hI2
        · refine ⟨fun z => absurd rfl z, fun _ => ?_⟩
          have hx : tyI (beP B g z) (wyM B) (fun _ => 0) 0 N (S3 26) := by rw [hF3.c 26 rfl, hl, hp]; exact hI2
          have hFx := hF2.tr (hF3.mo rfl rfl)
          refine sound ok_M_talliesOne [] 10 ?_
          exact hQ S3 hFx (fun k k0 k1 => by rw [hx k k0 k1, if_neg (by omega)]; omega)
      have q19 : T 0 19 = B 0 19 := by rw [hSm.1]
      have hv : T 23 g = tnM B (smM B f) g := by rw [hW.2.2 g h1.1 (by omega), tnM_sm hSm, smM_sm hSm]
      have ho := wyM_of hA hfm0
      generalize hown : tnM B (smM B f) g = own at hv
      have outer : ∀ (s : Int) (q : St × Option AV × Option AV), ((0 ≤ s ∧ s ≤ B 0 20) ∧ Fr [25, 23, 26] [] T q.1 ∧ (∀ j, ¬ j = g → q.1 23 j = T 23 j) ∧ tyI (beP B g z) pre f (10 * s) N (q.1 26)) → Smm H_M_talliesOne 35 [some (.inr (.inr 0)), some (.inl g), some (.inl z), some (.inl own), some (.inl s), q.2.1, q.2.2] [] q.1 Q := by
        refine lp_up (P := fun s (q : St × Option AV × Option AV) => Smm H_M_talliesOne 35 [some (.inr (.inr 0)), some (.inl g), some (.inl z), some (.inl own), some (.inl s), q.2.1, q.2.2] [] q.1 Q) _ (B 0 20) ?_ ?_
        · rintro s ⟨T2, x5, x6⟩ hi ⟨hi2, hF2, htn, hty⟩
          dsimp only at hF2 htn hty ⊢
          have r0 : T2 0 = B 0 := by rw [hF2.c 0 rfl, hSm.1]
          have r20 : T2 0 20 = B 0 20 := by rw [r0]
          refine sound ok_M_talliesOne [145] 20 ?_
          refine ⟨fun _ => ?_, fun h3 => absurd h3 (by omega)⟩
          refine ⟨by omega, ?_⟩
          have hF3 := hF2.up 23 g own rfl
          refine next _ own s x5 x6 (hF.tr (hF3.mo rfl rfl)) (fun j j0 j1 => ?_) ?_
          · rw [hF3.c 21 rfl]
            exact hW.1 j j0 (by rw [hSm.1]; exact j1)
          · rw [up_o _ _ _ (by decide)]
            rw [show 10 * s = N by omega] at hty
            exact ty_next hty _
        · rintro s ⟨T2, x5, x6⟩ hi ⟨hi2, hF2, htn, hty⟩ ihO
          dsimp only at hF2 htn hty ⊢
          have r0 : T2 0 = B 0 := by rw [hF2.c 0 rfl, hSm.1]
          have r20 : T2 0 20 = B 0 20 := by rw [r0]
          have hsn : T2 22 s = smM B f s := by rw [hF2.c 22 rfl, hW.2.1 s hi2.1 (by rw [hSm.1]; exact hi), smM_sm hSm]
          have hsb := smM_b hA.1 ho hi2.1 hi
          have hal := hA.1.1.2.2 (5 * g + s) (by omega) (by omega)
          have eal : T2 19 = B 19 := by rw [hF2.c 19 rfl, hSm.2.2.2.2.2.2.2.1]
          generalize hh : (if z = 0 then hdM (B 19) (smM B f) g s else smM B f s) = h
          have hhb : h = 1000000 ∨ (-600 ≤ h ∧ h ≤ 600) := by
            have h9 := hdM_b (al := B 19) (f := smM B f) (g := g) (s := s) (b := 500) (by omega) hsb hal
            rw [← hh]
            split <;> omega
          have inner : ∀ (i : Int) (T3 : St), ((0 ≤ i ∧ i ≤ 10) ∧ Fr [25, 23, 26] [] T T3 ∧ (∀ j, ¬ j = g → T3 23 j = T 23 j) ∧ tyI (beP B g z) pre f (10 * s + i) N (T3 26)) → Smm H_M_talliesOne 70 [some (.inr (.inr 0)), some (.inl g), some (.inl z), some (.inl own), some (.inl s), some (.inl h), some (.inl i)] [] T3 Q := by
            refine lp_up (P := fun i T3 => Smm H_M_talliesOne 70 [some (.inr (.inr 0)), some (.inl g), some (.inl z), some (.inl own), some (.inl s), some (.inl h), some (.inl i)] [] T3 Q) _ 10 ?_ ?_
            · rintro i T3 hj ⟨hj2, hF3, htn3, hty3⟩
              refine sound ok_M_talliesOne [35] 20 ?_
              refine ⟨fun _ => ?_, fun h3 => absurd h3 (by omega)⟩
              rw [show 10 * s + i = 10 * (s + 1) by omega] at hty3
              exact Smm.sub (ihO (T3, some (.inl h), some (.inl i)) ⟨by omega, hF3, htn3, hty3⟩) ⟨Or.inr rfl, Or.inr rfl, Or.inr rfl, Or.inr rfl, Or.inr (sI (i32_id (by omega) (by omega)).symm), Or.inr rfl, Or.inr rfl, trivial⟩
            · rintro i T3 hj ⟨hj2, hF3, htn3, hty3⟩ ih
              have t0 : T3 0 = B 0 := by rw [hF3.c 0 rfl, hSm.1]
              have hki : 0 ≤ 10 * s + i ∧ 10 * s + i < N := by omega
              have hwa : beP B g z (10 * s + i) f = op1 B f g (plN h i) := by
                unfold beP
                rw [show (10 * s + i) / 10 = s by omega, show (10 * s + i) % 10 = i by omega, hh]
              have hub := ty_b hty3 hki.1 hki.2
              have eix : i32 (i32 (10 * s) + i) = 10 * s + i := by rw [i32_id (v := 10 * s) (by omega) (by omega)]; exact i32_id (by omega) (by omega)
              have go : ∀ v, v = plN h i → Smm H_M_talliesOne 101 [some (.inr (.inr 0)), some (.inl g), some (.inl z), some (.inl own), some (.inl s), some (.inl h), some (.inl i)] [.inl v, .inl g, .inr (.inr 23)] T3 Q := by
                intro v hvv
                have hvb2 : v = 1000000 ∨ (-1000 ≤ v ∧ v ≤ 2000) := by rw [hvv]; unfold plN; split <;> omega
                have hF4 := hF3.up 23 g v rfl
                have etn : ∀ j, 0 ≤ j → j < B 0 19 → up T3 23 g v 23 j = uf (tnM B (smM B f)) g v j := fun j j0 j1 => by
                  by_cases hj : j = g
                  · rw [hj, up_s, uf_s]
                  · rw [up_n _ _ _ hj, uf_n _ _ hj, htn3 j hj, hW.2.2 j j0 (by omega), tnM_sm hSm, smM_sm hSm]
                have u0 : up T3 23 g v 0 = B 0 := by rw [up_o _ _ _ (by decide), t0]
                have eap : apF (up T3 23 g v 0 21) (up T3 23 g v 23) (up T3 23 g v 0 19).toNat = apF (B 0 21) (uf (tnM B (smM B f)) g v) (B 0 19).toNat := by
                  rw [u0]
                  exact apF_congr (fun j j0 j1 => etn j j0 (by omega))
                refine sound ok_M_talliesOne [70] 40 ?_
                refine ⟨by omega, ?_⟩
                refine t_M_doesOpen (up T3 23 g v) _ (by rw [u0]; exact hA.1.2.1) (by rw [u0]; exact ⟨hA.2.1.2.1, hA.2.1.2.2.1⟩) (fun j j0 j1 => ?_) (fun T4 hF5 hop => ?_) (fun T4 hF5 hop => ?_)
                · rw [u0] at j1
                  rw [etn j j0 j1]
                  by_cases hj : j = g
                  · rw [hj, uf_s]; exact hvb2
                  · rw [uf_n _ _ hj]
                    have := tnM_b hA.1 ho j0 (show j < 4 by omega)
                    omega
                · rw [eap, u0] at hop
                  have ht4 : T4 26 = T3 26 := by rw [hF5.c 26 rfl, up_o _ _ _ (by decide)]
                  refine ⟨fun z => absurd z (by decide), fun _ => ?_⟩
                  refine ⟨by rw [eix]; omega, ?_⟩
                  refine ⟨by rw [eix]; omega, ?_⟩
                  rw [eix]
                  refine Smm.sub (ih (up T4 26 (10 * s + i) (i32 (T4 26 (10 * s + i) + 1))) ⟨by omega, (hF4.tr (hF5.mo rfl rfl)).up _ _ _ rfl, fun j hj => ?_, ?_⟩) ⟨Or.inr rfl, Or.inr rfl, Or.inr rfl, Or.inr rfl, Or.inr rfl, Or.inr rfl, Or.inr (sI (i32_id (by omega) (by omega)).symm), trivial⟩
                  · rw [up_o _ _ _ (by decide), hF5.c 23 rfl, up_n _ _ _ hj]
                    exact htn3 j hj
                  · rw [up_c, ht4, i32_id (by omega) (by omega)]
                    rw [show 10 * s + (i + 1) = 10 * s + i + 1 by omega]
                    exact ty_yes hty3 hki.1 hki.2 (by rw [hwa, ← hvv]; exact decide_eq_true hop)
                · rw [eap, u0] at hop
                  have ht4 : T4 26 = T3 26 := by rw [hF5.c 26 rfl, up_o _ _ _ (by decide)]
                  refine ⟨fun _ => ?_, fun z => absurd rfl z⟩
                  refine Smm.sub (ih T4 ⟨by omega, hF4.tr (hF5.mo rfl rfl), fun j hj => ?_, ?_⟩) ⟨Or.inr rfl, Or.inr rfl, Or.inr rfl, Or.inr rfl, Or.inr rfl, Or.inr rfl, Or.inr (sI (i32_id (by omega) (by omega)).symm), trivial⟩
                  · rw [hF5.c 23 rfl, up_n _ _ _ hj]
                    exact htn3 j hj
                  · rw [ht4, show 10 * s + (i + 1) = 10 * s + i + 1 by omega]
                    exact ty_no hty3 (by rw [hwa, ← hvv]; exact decide_eq_false hop)
              refine sound ok_M_talliesOne [101] 40 ?_
              refine ⟨fun h3 => absurd h3 (by omega), fun _ => ?_⟩
              refine ⟨fun h3 => ?_, fun h3 => ?_⟩
              · exact go _ (by unfold plN; rw [if_neg h3]; exact i32_id (by omega) (by omega))
              · exact go _ (by unfold plN; rw [if_pos h3])
          have start : Smm H_M_talliesOne 70 [some (.inr (.inr 0)), some (.inl g), some (.inl z), some (.inl own), some (.inl s), some (.inl h), some (.inl 0)] [] T2 Q := inner 0 T2 ⟨by omega, hF2, htn, by rw [Int.add_zero]; exact hty⟩
          refine sound ok_M_talliesOne [70] 40 ?_
          refine ⟨fun h3 => absurd h3 (by omega), fun _ => ?_⟩
          refine ⟨fun h3 => ?_, fun h3 => ?_⟩
          · rw [if_pos h3] at hh
            refine t_M_heardAt T2 g s _ (by omega) (by omega) (by rw [hsn]; omega) (by rw [eal]; exact hal.2) ?_
            have eh : hdM (T2 19) (T2 22) g s = h := by rw [eal, ← hh]; exact hdM_congr hsn
            rw [eh]
            exact start
          · rw [if_neg h3] at hh
            refine ⟨by omega, ?_⟩
            rw [hsn, hh]
            exact start
      refine sound ok_M_talliesOne [35] 30 ?_
      refine ⟨by omega, ?_⟩
      rw [hv]
      refine outer 0 (T, none, none) ⟨by omega, Fr.rf _ _ _, fun _ _ => rfl, ?_⟩
      intro k k0 k1
      have := hI k k0 k1
      dsimp only
      rw [this]
      simp [show ¬ k < 0 by omega]
    obtain ⟨r, hr⟩ := wy_first (err := B 18) (B 0 20).toNat (fun i hi => (hA.2.2 i (by omega) (by have := hA.1.1.1; omega)).1)
    have clear : ∀ (i : Int) (T : St), ((0 ≤ i ∧ i ≤ 50) ∧ Fr [26] [] B T ∧ ∀ k, 0 ≤ k → k < i → T 26 k = 0) → Smm H_M_talliesOne 2 [some (.inr (.inr 0)), some (.inl g), some (.inl z), some (.inl i), none, none, none] [] T Q := by
      refine lp_up (P := fun i T => Smm H_M_talliesOne 2 [some (.inr (.inr 0)), some (.inl g), some (.inl z), some (.inl i), none, none, none] [] T Q) _ 50 ?_ ?_
      · rintro i T hi ⟨hi2, hF, hz⟩
        have hSm : Sm B T := Sm.of hF rfl
        refine sound ok_M_talliesOne [25] 20 ?_
        refine ⟨fun _ => ?_, fun h3 => absurd h3 (by omega)⟩
        refine t_M_firstWay T _ (mAs_sm hSm hA) (fun T2 hF2 hW => ?_)
        refine Smm.sub (loop r [] (fsF (B 18) (B 0 20).toNat) T2 hr ⟨(hF.mo rfl rfl).tr (hF2.mo rfl rfl), ?_, ?_⟩) ⟨Or.inr rfl, Or.inr rfl, Or.inr rfl, Or.inl rfl, Or.inl rfl, Or.inl rfl, Or.inl rfl, trivial⟩
        · rw [← hSm.1, ← hSm.2.2.2.2.2.2.1]
          exact hW
        · rw [hF2.c 26 rfl]
          intro k k0 k1
          rw [hz k k0 (by omega), if_neg (by omega)]
          rfl
      · rintro i T hi ⟨hi2, hF, hz⟩ ih
        refine sound ok_M_talliesOne [2] 20 ?_
        refine ⟨fun h3 => absurd h3 (by omega), fun _ => ?_⟩
        refine ⟨by omega, ?_⟩
        refine Smm.sub (ih (up T 26 i 0) ⟨by omega, hF.up _ _ _ rfl, fun k k0 k1 => ?_⟩) ⟨Or.inr rfl, Or.inr rfl, Or.inr rfl, Or.inr (sI (i32_id (by omega) (by omega)).symm), Or.inl rfl, Or.inl rfl, Or.inl rfl, trivial⟩
        by_cases hk : k = i
        · rw [hk, up_s]
        · rw [up_n _ _ _ hk]
          exact hz k k0 (by omega)
    refine sound ok_M_talliesOne [2] 10 ?_
    exact clear 0 B ⟨by omega, Fr.rf _ _ _, fun k k0 k1 => by omega⟩
theorem t_M_firstMost (T : St) (Q : Option AV → St → Prop) (hn : 1 ≤ T 0 20 ∧ T 0 20 ≤ 5) (hQ : Q (some (.inl (bmF (T 26) (10 * T 0 20).toNat))) T) : Smm H_M_firstMost 0 [some (.inr (.inr 0)), none, none] [] T Q := by
  have en : i32 (10 * T 0 20) = 10 * T 0 20 := i32_id (by omega) (by omega)
  have loop : ∀ (i : Int) (_ : Unit), (1 ≤ i ∧ i ≤ 10 * T 0 20) → Smm H_M_firstMost 4 [some (.inr (.inr 0)), some (.inl (bmF (T 26) i.toNat)), some (.inl i)] [] T Q := by
    refine lp_up (P := fun i _ => Smm H_M_firstMost 4 [some (.inr (.inr 0)), some (.inl (bmF (T 26) i.toNat)), some (.inl i)] [] T Q) (fun i _ => 1 ≤ i ∧ i ≤ 10 * T 0 20) (10 * T 0 20) ?_ ?_
    · rintro i - hi hi2
      refine sound ok_M_firstMost [4] 30 ?_
      refine ⟨fun _ => ?_, fun h3 => absurd h3 (by omega)⟩
      rw [show i = 10 * T 0 20 by omega]
      exact hQ
    · rintro i - hi hi2 ih
      obtain ⟨k, rfl⟩ : ∃ k : Nat, i = k := ⟨i.toNat, by omega⟩
      have ih := ih () (by omega)
      rw [show ((k : Int) + 1).toNat = k + 1 by omega, bmF] at ih
      rw [show ((k : Int)).toNat = k by omega]
      have hb := bmF_b (T 26) k
      refine sound ok_M_firstMost [4] 40 ?_
      refine ⟨fun h3 => absurd h3 (by omega), fun _ => ?_⟩
      refine ⟨by omega, ?_⟩
      refine ⟨by omega, ?_⟩
      refine ⟨fun h3 => ?_, fun h3 => ?_⟩
      · rw [if_neg (by omega)] at ih
        exact Smm.sub ih ⟨Or.inr rfl, Or.inr rfl, Or.inr (sI (i32_id (by omega) (by omega)).symm), trivial⟩
      · rw [if_pos (by omega)] at ih
        exact Smm.sub ih ⟨Or.inr rfl, Or.inr rfl, Or.inr (sI (i32_id (by omega) (by omega)).symm), trivial⟩
  refine sound ok_M_firstMost [4] 20 ?_
  exact Smm.sub (loop 1 () (by omega)) ⟨Or.inr rfl, Or.inr (sI (bmF_1 _)), Or.inr rfl, trivial⟩
def aM_best (S : St) (z g what : Int) : Int := if ¬ (¬ S 0 18 = 0 ∧ 0 ≤ g ∧ g < S 0 19) ∨ ¬ (0 ≤ what ∧ what ≤ 1) then -1 else
  if what = 0 then bmF (fun k => ((wyM (tl S)).countP (beP (tl S) g z k) : Int)) (10 * S 0 20).toNat else ((wyM (tl S)).countP (beP (tl S) g z (bmF (fun k => ((wyM (tl S)).countP (beP (tl S) g z k) : Int)) (10 * S 0 20).toNat)) : Int)
theorem t_M_best (S : St) (g what : Int) (Q : Option AV → St → Prop) (hL : ¬ S 0 18 = 0 → ldM S) (hp : plM S) (hQ : ∀ S', Fr [17, 18, 19, 20, 21, 22, 23, 24, 25, 26, 27, 28, 29, 31] [(0, 0), (0, 38)] S S' → Q (some (.inl (aM_best S 0 g what))) S') : Smm H_M_best 0 [some (.inr (.inr 0)), some (.inl g), some (.inl what), none] [] S Q := by
  have e18 : th S 0 18 = S 0 18 := th_0 S (by decide)
  have e19 : th S 0 19 = S 0 19 := th_0 S (by decide)
  have no : (¬ (¬ S 0 18 = 0 ∧ 0 ≤ g ∧ g < S 0 19) ∨ ¬ (0 ≤ what ∧ what ≤ 1)) → Q (some (.inl (-1))) (th S) := fun hz => by
    have := hQ (th S) (th_fr S)
    unfold aM_best at this
    rwa [if_pos hz] at this
  refine sound ok_M_best [] 60 ?_
  refine t_M_isGuard (th S) g _ (fun h1 => ?_) (fun h1 => by
    rw [e18, e19] at h1
    exact ⟨fun _ => no (Or.inl h1), fun z => absurd rfl z⟩)
  rw [e18, e19] at h1
  refine ⟨fun z => absurd z (by decide), fun _ => ?_⟩
  refine t_M_isPart _ _ _ _ (fun h2 => ?_) (fun h2 => ?_)
  · refine ⟨fun _ => ?_, fun z => absurd z (by decide)⟩
    have hl0 := hL h1.1
    have hA := tl_mAs hl0 hp
    have hk4 := hl0.1
    have hn5 := hl0.2.1
    have p19 : tl S 0 19 = S 0 19 := tl_0 S (by decide) (by decide)
    have p20 : tl S 0 20 = S 0 20 := tl_0 S (by decide) (by decide)
    refine t_M_asTold (th S) _ (by rw [th_0 S (by decide)]; omega) (by rw [th_0 S (by decide)]; omega) ?_
    refine t_M_talliesOne (tl S) g 0 _ hA (by omega) (fun T hF ht => ?_)
    have r20 : T 0 20 = S 0 20 := by rw [hF.c 0 rfl, p20]
    have eb := bmF_congr (t := T 26) (t' := fun k => ((wyM (tl S)).countP (beP (tl S) g 0 k) : Int)) (10 * S 0 20).toNat (fun j j0 j1 => ht j j0 (by omega))
    have hbb := bmF_b (T 26) (10 * S 0 20).toNat
    have hq := hQ T ((tl_fr S).tr (hF.mo rfl rfl))
    unfold aM_best at hq
    rw [if_neg (by omega), ← eb] at hq
    refine t_M_firstMost T _ (by omega) ?_
    rw [r20]
    refine ⟨fun h4 => ?_, fun h4 => ?_⟩
    · rw [if_neg h4, ← ht _ hbb.1 (by omega)] at hq
      refine ⟨by omega, ?_⟩
      exact hq
    · rw [if_pos h4] at hq
      exact hq
  · exact ⟨fun z => absurd rfl z, fun _ => no (Or.inr h2)⟩
theorem t_M_thief (S : St) (g what : Int) (Q : Option AV → St → Prop) (hL : ¬ S 0 18 = 0 → ldM S) (hp : plM S) (hQ : ∀ S', Fr [17, 18, 19, 20, 21, 22, 23, 24, 25, 26, 27, 28, 29, 31] [(0, 0), (0, 38)] S S' → Q (some (.inl (aM_best S 1 g what))) S') : Smm H_M_thief 0 [some (.inr (.inr 0)), some (.inl g), some (.inl what), none] [] S Q := by
  have e18 : th S 0 18 = S 0 18 := th_0 S (by decide)
  have e19 : th S 0 19 = S 0 19 := th_0 S (by decide)
  have no : (¬ (¬ S 0 18 = 0 ∧ 0 ≤ g ∧ g < S 0 19) ∨ ¬ (0 ≤ what ∧ what ≤ 1)) → Q (some (.inl (-1))) (th S) := fun hz => by
    have := hQ (th S) (th_fr S)
    unfold aM_best at this
    rwa [if_pos hz] at this
  refine sound ok_M_thief [] 60 ?_
  refine t_M_isGuard (th S) g _ (fun h1 => ?_) (fun h1 => by
    rw [e18, e19] at h1
    exact ⟨fun _ => no (Or.inl h1), fun z => absurd rfl z⟩)
  rw [e18, e19] at h1
  refine ⟨fun z => absurd z (by decide), fun _ => ?_⟩
  refine t_M_isPart _ _ _ _ (fun h2 => ?_) (fun h2 => ?_)
  · refine ⟨fun _ => ?_, fun z => absurd z (by decide)⟩
    have hl0 := hL h1.1
    have hA := tl_mAs hl0 hp
    have hk4 := hl0.1
    have hn5 := hl0.2.1
    have p19 : tl S 0 19 = S 0 19 := tl_0 S (by decide) (by decide)
    have p20 : tl S 0 20 = S 0 20 := tl_0 S (by decide) (by decide)
    refine t_M_asTold (th S) _ (by rw [th_0 S (by decide)]; omega) (by rw [th_0 S (by decide)]; omega) ?_
    refine t_M_talliesOne (tl S) g 1 _ hA (by omega) (fun T hF ht => ?_)
    have r20 : T 0 20 = S 0 20 := by rw [hF.c 0 rfl, p20]
    have eb := bmF_congr (t := T 26) (t' := fun k => ((wyM (tl S)).countP (beP (tl S) g 1 k) : Int)) (10 * S 0 20).toNat (fun j j0 j1 => ht j j0 (by omega))
    have hbb := bmF_b (T 26) (10 * S 0 20).toNat
    have hq := hQ T ((tl_fr S).tr (hF.mo rfl rfl))
    unfold aM_best at hq
    rw [if_neg (by omega), ← eb] at hq
    refine t_M_firstMost T _ (by omega) ?_
    rw [r20]
    refine ⟨fun h4 => ?_, fun h4 => ?_⟩
    · rw [if_neg h4, ← ht _ hbb.1 (by omega)] at hq
      refine ⟨by omega, ?_⟩
      exact hq
    · rw [if_pos h4] at hq
      exact hq
  · exact ⟨fun z => absurd rfl z, fun _ => no (Or.inr h2)⟩
