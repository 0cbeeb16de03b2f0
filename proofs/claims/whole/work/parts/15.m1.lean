/-! the reference: times, plans, turns -/
theorem sI {a b : Int} (h : a = b) : (some (.inl a) : Option AV) = some (.inl b) := by rw [h]
theorem idiv_pos {a b : Int} (ha : 0 ≤ a) (ha2 : a ≤ 2147483647) (hb : 0 < b) (hb2 : b ≤ 2147483647) : idiv a b = a / b := by
  unfold idiv
  rw [Int32.toInt_div, toInt_i32, toInt_i32, i32_id (by omega) ha2, i32_id (by omega) hb2, Int.tdiv_eq_ediv_of_nonneg ha]
  have h1 := Int.ediv_nonneg ha (Int.le_of_lt hb)
  have h2 := Int.ediv_le_self b ha
  generalize a / b = q at *
  show Int.bmod q 4294967296 = q
  simp only [Int.bmod]
  split <;> omega
theorem ofInt_div {a b : Int} (ha : 0 ≤ a) (ha2 : a ≤ 2147483647) (hb : 0 < b) (hb2 : b ≤ 2147483647) : Int32.ofInt a / Int32.ofInt b = Int32.ofInt (a / b) := by
  have h := idiv_pos ha ha2 hb hb2
  unfold idiv at h
  rw [← Int32.ofInt_toInt (Int32.ofInt a / Int32.ofInt b), h]
theorem irem_pos {a b : Int} (ha : 0 ≤ a) (ha2 : a ≤ 2147483647) (hb : 0 < b) (hb2 : b ≤ 2147483647) : irem a b = a % b := by
  unfold irem
  rw [ofInt_div ha ha2 hb hb2, ← Int32.ofInt_mul, ← Int32.ofInt_sub, toInt_i32]
  have h1 : a - a / b * b = a % b := by rw [Int.emod_def, Int.mul_comm]
  rw [h1]
  have h2 := Int.emod_nonneg a (Int.ne_of_gt hb)
  have h3 := Int.emod_lt_of_pos a hb
  exact i32_id (by omega) (by omega)
theorem t_M_heardAt (S : St) (g s : Int) (Q : Option AV → St → Prop) (hg : 0 ≤ g ∧ g < 4) (hs : 0 ≤ s ∧ s < 5) (hb : -1000 ≤ S 22 s ∧ S 22 s ≤ 1000000) (hl : S 19 (5 * g + s) ≤ 9) (hQ : Q (some (.inl (hdM (S 19) (S 22) g s))) S) : Smm H_M_heardAt 0 [some (.inr (.inr 0)), some (.inl g), some (.inl s), none] [] S Q := by
  have e0 : i32 (i32 (5 * g) + s) = 5 * g + s := by unfold i32; omega
  refine sound ok_M_heardAt [] 60 ?_
  refine ⟨by rw [e0]; omega, ?_⟩
  refine ⟨fun h1 => ?_, fun h1 => ?_⟩
  · rw [e0] at h1
    have e1 : hdM (S 19) (S 22) g s = 1000000 := by unfold hdM; rw [if_pos (Or.inl h1)]
    rw [e1] at hQ
    exact hQ
  · rw [e0] at h1
    refine ⟨hs, ?_⟩
    refine ⟨fun h2 => ?_, fun h2 => ?_⟩
    · refine ⟨hs, ?_⟩
      have e1 : hdM (S 19) (S 22) g s = i32 (S 22 s + S 19 (i32 (i32 (5 * g) + s))) := by
        unfold hdM
        rw [if_neg (by omega), e0]
        unfold i32
        omega
      rw [e1] at hQ
      exact hQ
    · have e1 : hdM (S 19) (S 22) g s = 1000000 := by unfold hdM; rw [if_pos (Or.inr h2)]
      rw [e1] at hQ
      exact hQ
/-- the pile holds these, the last on top -/
def plOk (S : St) (l : List Int) : Prop := ∀ j : Nat, j < l.length → S 24 j = l.getD (l.length - 1 - j) 0
set_option maxHeartbeats 4000000 in
theorem t_M_byPlan (S : St) (g p : Int) (m : Nat) (Q : Option AV → St → Prop) (hg : 0 ≤ g ∧ g < 4) (hp : 0 ≤ p ∧ p < 8) (hn : 0 ≤ S 0 20 ∧ S 0 20 ≤ 5)
    (hb : ∀ s, 0 ≤ s → s < S 0 20 → -1000 ≤ S 22 s ∧ S 22 s ≤ 1000000) (hl : ∀ j, 0 ≤ j → j < 20 → -1 ≤ S 19 j ∧ S 19 j ≤ 9)
    (hm : S 16 p = m) (hc : cdOk (fun i => S 15 (160 * p + i)) m)
    (hQ : ∀ S', Fr [24] [] S S' → Q (some (.inl (plV (fun i => S 15 (160 * p + i)) m (hrF (S 0 20) (S 19) (S 22) g)))) S') : Smm H_M_byPlan 0 [some (.inr (.inr 0)), some (.inl g), some (.inl p), none, none, none, none, none, none] [] S Q := by
  generalize hcode : (fun i => S 15 (160 * p + i)) = code at hc hQ
  generalize hhear : hrF (S 0 20) (S 19) (S 22) g = hear at hQ
  have hm160 := hc.2.1
  have loop : ∀ (i : Int) (S' : St), ((0 ≤ i ∧ i ≤ m) ∧ Fr [24] [] S S' ∧ plOk S' (pkR code hear i.toNat)) → Smm H_M_byPlan 9 [some (.inr (.inr 0)), some (.inl g), some (.inl p), some (.inl (dpR code i.toNat : Int)), some (.inl (160 * p + i)), none, none, none, none] [] S' Q := by
    refine lp_up (P := fun i S' => Smm H_M_byPlan 9 [some (.inr (.inr 0)), some (.inl g), some (.inl p), some (.inl (dpR code i.toNat : Int)), some (.inl (160 * p + i)), none, none, none, none] [] S' Q) (fun i S' => (0 ≤ i ∧ i ≤ m) ∧ Fr [24] [] S S' ∧ plOk S' (pkR code hear i.toNat)) m ?_ ?_
    · rintro i S' hi ⟨hi2, hF, hP⟩
      have ei : i = m := by omega
      subst ei
      refine sound ok_M_byPlan [9] 60 ?_
      refine ⟨hp, ?_⟩
      have e16 : S' 16 = S 16 := hF.c 16 rfl
      refine ⟨fun h1 => ?_, fun h1 => ?_⟩
      · have hlen := pkR_len (hear := hear) hc m (Nat.le_refl m)
        rw [hc.2.2.1] at hlen
        have hv := hP 0 (by rw [show ((m : Int)).toNat = m by omega]; omega)
        rw [show ((m : Int)).toNat = m by omega, hlen] at hv
        refine ⟨by omega, ?_⟩
        have hQ' := hQ S' hF
        have e1 : plV code m hear = S' 24 0 := by
          unfold plV
          have hv2 : S' 24 0 = (pkR code hear m).getD 0 0 := by simpa using hv
          rw [hv2]
          match hq : pkR code hear m with
          | [] => rw [hq] at hlen; simp at hlen
          | a :: r => rfl
        rw [e1] at hQ'
        exact hQ'
      · rw [e16, hm] at h1
        exact absurd h1 (by unfold i32; omega)
    · rintro i S' hi ⟨hi2, hF, hP⟩ ih
      obtain ⟨k, rfl⟩ : ∃ k : Nat, i = k := ⟨i.toNat, by omega⟩
      have etn : ((k : Int)).toNat = k := by omega
      have etn1 : ((k : Int) + 1).toNat = k + 1 := by omega
      rw [etn] at hP
      rw [etn1] at ih
      have hdl := dpR_le (code := code) k
      have e16 : S' 16 = S 16 := hF.c 16 rfl
      have e15 : S' 15 = S 15 := hF.c 15 rfl
      have e0 : S' 0 = S 0 := hF.c 0 rfl
      have e19 : S' 19 = S 19 := hF.c 19 rfl
      have e22 : S' 22 = S 22 := hF.c 22 rfl
      have ecode : S' 15 (160 * p + k) = code k := by rw [e15, ← hcode]
      have hlen := pkR_len (hear := hear) hc k (by omega)
      have hstep : pkR code hear (k + 1) = stR hear (code k) (pkR code hear k) := rfl
      have hdstep : dpR code (k + 1) = if 0 ≤ code k then dpR code k + 1 else dpR code k - 1 := rfl
      have e2 : i32 (160 * p + k + 1) = 160 * p + (k + 1) := by unfold i32; omega
      refine sound ok_M_byPlan [9, 69] 200 ?_
      refine ⟨hp, ?_⟩
      refine ⟨fun h1 => ?_, fun h1 => ?_⟩
      · rw [e16, hm] at h1
        exact absurd h1 (by unfold i32; omega)
      · refine ⟨by omega, ?_⟩
        rw [etn]
        -- what a push leaves
        have push : ∀ v : Int, 0 ≤ code k → v = (if hear (code k / 100) = 1000000 then 1000000 else hear (code k / 100) + code k % 100) → ((0 ≤ (k : Int) + 1 ∧ (k : Int) + 1 ≤ m) ∧ Fr [24] [] S (up S' 24 (dpR code k : Int) v) ∧ plOk (up S' 24 (dpR code k : Int) v) (pkR code hear (k + 1))) := by
          intro v hc0 hv
          refine ⟨by omega, hF.up _ _ _ rfl, ?_⟩
          have hs2 : pkR code hear (k + 1) = v :: pkR code hear k := by rw [hstep]; unfold stR; rw [if_pos hc0, ← hv]
          intro j hj
          rw [hs2] at hj ⊢
          rw [List.length_cons] at hj ⊢
          by_cases hjd : j = dpR code k
          · subst hjd
            rw [up_s, hlen, show dpR code k + 1 - 1 - dpR code k = 0 by omega]
            rfl
          · rw [up_n _ _ _ (by omega), hP j (by omega), hlen, show dpR code k + 1 - 1 - j = (dpR code k - 1 - j) + 1 by omega]
            rfl
        refine ⟨fun h2 => ?_, fun h2 => ?_⟩
        · -- an operator
          rw [ecode] at h2
          rcases hc.2.2.2 k (by omega) with q | q
          · omega
          · match hq : pkR code hear k with
            | [] => rw [hq] at hlen; simp at hlen; omega
            | [a] => rw [hq] at hlen; simp at hlen; omega
            | b :: a :: r =>
              have hd2 : dpR code k = r.length + 2 := by rw [← hlen, hq]; rfl
              have hPb : S' 24 ((r.length : Int) + 1) = b := by
                have := hP (r.length + 1) (by rw [hq]; simp)
                rw [hq] at this
                simpa using this
              have hPa : S' 24 (r.length : Int) = a := by
                have := hP r.length (by rw [hq]; simp; omega)
                rw [hq] at this
                simpa using this
              have op : ∀ v : Int, v = (if code k = -1 then max a b else min a b) → ((0 ≤ (k : Int) + 1 ∧ (k : Int) + 1 ≤ m) ∧ Fr [24] [] S (up S' 24 (r.length : Int) v) ∧ plOk (up S' 24 (r.length : Int) v) (pkR code hear (k + 1))) := by
                intro v hv
                refine ⟨by omega, hF.up _ _ _ rfl, ?_⟩
                have hs2 : pkR code hear (k + 1) = v :: r := by rw [hstep, hq]; unfold stR; rw [if_neg (by omega)]; show _ :: r = _; rw [← hv]
                intro j hj
                rw [hs2] at hj ⊢
                rw [List.length_cons] at hj ⊢
                by_cases hjd : j = r.length
                · subst hjd
                  rw [up_s, show r.length + 1 - 1 - r.length = 0 by omega]
                  rfl
                · rw [up_n _ _ _ (by omega), hP j (by rw [hq]; simp; omega), hq]
                  rw [show (b :: a :: r).length - 1 - j = (r.length - 1 - j) + 2 by simp; omega, show r.length + 1 - 1 - j = (r.length - 1 - j) + 1 by omega]
                  rfl
              have et : i32 ((dpR code k : Int) + -1) = (r.length : Int) + 1 := by rw [hd2]; unfold i32; omega
              have et2 : i32 (i32 ((dpR code k : Int) + -1) - 1) = (r.length : Int) := by rw [et]; unfold i32; omega
              have ed : (dpR code (k + 1) : Int) = i32 ((dpR code k : Int) + -1) := by rw [hdstep, if_neg (by omega), et, hd2]; omega
              refine ⟨by rw [et2]; omega, ?_⟩
              refine ⟨by rw [et]; omega, ?_⟩
              rw [et2, et, hPa, hPb]
              have fin : ∀ v : Int, v = (if code k = -1 then max a b else min a b) → ∀ (x5 x6 x7 x8 : Option AV), Smm H_M_byPlan 9 [some (.inr (.inr 0)), some (.inl g), some (.inl p), some (.inl ((r.length : Int) + 1)), some (.inl (i32 (160 * p + k + 1))), x5, x6, x7, x8] [] (up S' 24 (r.length : Int) v) Q := by
                intro v hv x5 x6 x7 x8
                exact Smm.sub (ih _ (op v hv)) ⟨Or.inr rfl, Or.inr rfl, Or.inr rfl, Or.inr (sI (by rw [ed, et])), Or.inr (sI e2.symm), Or.inl rfl, Or.inl rfl, Or.inl rfl, Or.inl rfl, trivial⟩
              have et3 : i32 ((r.length : Int) + 1 - 1) = (r.length : Int) := by unfold i32; omega
              rw [ecode]
              refine ⟨fun h3 => ?_, fun h3 => ?_⟩
              · -- the earliest
                refine ⟨fun h4 => ?_, fun h4 => ?_⟩
                · refine ⟨fun h5 => ?_, fun h5 => absurd rfl h5⟩
                  refine ⟨by rw [et3]; omega, ?_⟩
                  rw [et3]
                  exact fin b (by rw [if_neg h3]; omega) _ _ _ _
                · refine ⟨fun h5 => absurd h5 (by decide), fun h5 => ?_⟩
                  refine ⟨by rw [et3]; omega, ?_⟩
                  rw [et3]
                  exact fin a (by rw [if_neg h3]; omega) _ _ _ _
              · refine ⟨fun h4 => ?_, fun h4 => ?_⟩
                · refine ⟨fun h5 => ?_, fun h5 => absurd rfl h5⟩
                  refine ⟨by rw [et3]; omega, ?_⟩
                  rw [et3]
                  exact fin b (by rw [if_pos h3]; omega) _ _ _ _
                · refine ⟨fun h5 => absurd h5 (by decide), fun h5 => ?_⟩
                  refine ⟨by rw [et3]; omega, ?_⟩
                  rw [et3]
                  exact fin a (by rw [if_pos h3]; omega) _ _ _ _
        · -- a sign
          rw [ecode] at h2
          have hcb : code k ≤ 499 := by
            rcases hc.2.2.2 k (by omega) with q | q
            · exact q.2
            · omega
          rw [ecode]
          have ed : (dpR code (k + 1) : Int) = i32 ((dpR code k : Int) + 1) := by rw [hdstep, if_pos h2]; unfold i32; omega
          have fin : ∀ v : Int, v = (if hear (code k / 100) = 1000000 then 1000000 else hear (code k / 100) + code k % 100) → ∀ (x5 x6 x7 x8 : Option AV), Smm H_M_byPlan 9 [some (.inr (.inr 0)), some (.inl g), some (.inl p), some (.inl (i32 ((dpR code k : Int) + 1))), some (.inl (i32 (160 * p + k + 1))), x5, x6, x7, x8] [] (up S' 24 (dpR code k : Int) v) Q := by
            intro v hv x5 x6 x7 x8
            exact Smm.sub (ih _ (push v h2 hv)) ⟨Or.inr rfl, Or.inr rfl, Or.inr rfl, Or.inr (sI ed), Or.inr (sI e2.symm), Or.inl rfl, Or.inl rfl, Or.inl rfl, Or.inl rfl, trivial⟩
          refine ⟨by decide, ?_⟩
          rw [idiv_pos h2 (by omega) (by omega) (by omega)]
          have hs5 : 0 ≤ code k / 100 ∧ code k / 100 < 5 := by omega
          have rest : ∀ h : Int, h = hear (code k / 100) → -1000 ≤ h → h ≤ 1000009 → Smm H_M_byPlan 69 [some (.inr (.inr 0)), some (.inl g), some (.inl p), some (.inl (dpR code k : Int)), some (.inl (160 * p + k)), some (.inl (code k)), some (.inl (code k / 100)), none, none] [.inl h] S' Q := by
            intro h hh hb1 hb2
            refine sound ok_M_byPlan [9] 100 ?_
            refine ⟨fun h3 => ?_, fun h3 => ?_⟩
            · refine ⟨by decide, ?_⟩
              refine ⟨by omega, ?_⟩
              rw [irem_pos h2 (by omega) (by omega) (by omega)]
              exact fin _ (by rw [← hh, if_neg h3]; unfold i32; omega) _ _ _ _
            · refine ⟨by omega, ?_⟩
              exact fin _ (by rw [← hh, if_pos h3]) _ _ _ _
          refine ⟨fun h3 => ?_, fun h3 => ?_⟩
          · rw [e0] at h3
            exact rest 1000000 (by rw [← hhear]; unfold hrF; rw [if_neg (by omega)]) (by omega) (by omega)
          · rw [e0] at h3
            refine t_M_heardAt _ _ _ _ hg hs5 (by rw [e22]; exact hb _ hs5.1 h3) (by rw [e19]; exact (hl _ (by omega) (by omega)).2) ?_
            have hbb := hb _ hs5.1 h3
            have hll := hl (5 * g + code k / 100) (by omega) (by omega)
            refine rest _ (by rw [e19, e22, ← hhear]; unfold hrF; rw [if_pos h3]) ?_ ?_
            · rw [e19, e22]; unfold hdM; split <;> omega
            · rw [e19, e22]; unfold hdM; split <;> omega
  refine sound ok_M_byPlan [9] 60 ?_
  have h0 := loop 0 S ⟨by omega, Fr.rf _ _ _, fun j hj => by simp [pkR] at hj⟩
  exact Smm.sub h0 ⟨Or.inr rfl, Or.inr rfl, Or.inr rfl, Or.inr rfl, Or.inr (sI (by unfold i32; omega)), Or.inl rfl, Or.inl rfl, Or.inl rfl, Or.inl rfl, trivial⟩
