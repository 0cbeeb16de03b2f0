/-! the reference: a way's times and turns; how near they are -/
/-- the plans told, as the reference holds them -/
def plM (S : St) : Prop := (0 ≤ S 0 31 ∧ S 0 31 ≤ 8) ∧ ∀ p, 0 ≤ p → p < S 0 31 → ∃ m : Nat, S 16 p = m ∧ cdOk (fun i => S 15 (160 * p + i)) m
/-- a land, as the reference tries it -/
def mOk (S : St) : Prop := sgOk (S 0 20) (S 12) (S 13) (S 17) (S 19) ∧ (0 ≤ S 0 19 ∧ S 0 19 ≤ 4) ∧ (∀ g, 0 ≤ g → g < 4 → -1 ≤ S 20 g ∧ S 20 g < S 0 31) ∧ plM S
/-- the times of the signs, by these offs -/
def smM (S : St) (off : Int → Int) : Int → Int := snF (S 12) (S 13) (S 17) (S 19) (S 0 38) off (S 0 20).toNat
/-- when a guard turns, by these times -/
def tnM (S : St) (f : Int → Int) (g : Int) : Int := if S 20 g < 0 then 1000000 else plV (fun i => S 15 (160 * S 20 g + i)) (S 16 (S 20 g)).toNat (hrF (S 0 20) (S 19) f g)
theorem plR_b {code hear : Int → Int} {m : Nat} {B : Int} (h : cdOk code m) (hB : 0 ≤ B) (hh : ∀ s, 0 ≤ s → s < 5 → hear s = 1000000 ∨ (-B ≤ hear s ∧ hear s ≤ B)) : ∀ k : Nat, k ≤ m → ∀ x ∈ pkR code hear k, x = 1000000 ∨ (-B ≤ x ∧ x ≤ B + 99) := by
  intro k
  induction k with
  | zero => intro _ x hx; simp [pkR] at hx
  | succ k ih =>
    intro hk x hx
    have ih := ih (by omega)
    rw [pkR] at hx
    unfold stR at hx
    by_cases hc : 0 ≤ code k
    · rw [if_pos hc] at hx
      rcases List.mem_cons.mp hx with q | q
      · rcases h.2.2.2 k (by omega) with z | z
        · have := hh (code k / 100) (by omega) (by omega)
          split at q
          · exact Or.inl q
          · omega
        · omega
      · exact ih x q
    · rw [if_neg hc] at hx
      split at hx
      · rename_i b a r hp
        rw [hp] at ih
        have ha := ih a (by simp)
        have hb := ih b (by simp)
        rcases List.mem_cons.mp hx with q | q
        · split at q <;> omega
        · exact ih x (by simp [q])
      · exact ih x hx
theorem plV_b {code hear : Int → Int} {m : Nat} {B : Int} (h : cdOk code m) (hB : 0 ≤ B) (hh : ∀ s, 0 ≤ s → s < 5 → hear s = 1000000 ∨ (-B ≤ hear s ∧ hear s ≤ B)) : plV code m hear = 1000000 ∨ (-B ≤ plV code m hear ∧ plV code m hear ≤ B + 99) := by
  unfold plV
  match hq : pkR code hear m with
  | [] => exact Or.inl rfl
  | a :: r => exact plR_b h hB hh m (Nat.le_refl m) a (by rw [hq]; simp)
theorem smM_b {S : St} (h : mOk S) {off : Int → Int} (ho : ofOk (S 0 20) off) {s : Int} (h0 : 0 ≤ s) (h1 : s < S 0 20) : smM S off s = 1000000 ∨ (-500 ≤ smM S off s ∧ smM S off s ≤ 500) := by
  have hn := h.1.1
  have := snF_b (gone := S 0 38) h.1 ho (S 0 20).toNat (by omega) s h0 (by omega)
  unfold smM
  omega
theorem hrF_b {S : St} (h : mOk S) {off : Int → Int} (ho : ofOk (S 0 20) off) {g s : Int} (hg : 0 ≤ g ∧ g < 4) (hs : 0 ≤ s ∧ s < 5) : hrF (S 0 20) (S 19) (smM S off) g s = 1000000 ∨ (-600 ≤ hrF (S 0 20) (S 19) (smM S off) g s ∧ hrF (S 0 20) (S 19) (smM S off) g s ≤ 600) := by
  unfold hrF
  split
  · rename_i hlt
    have := hdM_b (al := S 19) (f := smM S off) (g := g) (s := s) (b := 500) (by omega) (smM_b h ho hs.1 hlt) (h.1.2.2 _ (by omega) (by omega))
    omega
  · exact Or.inl rfl
theorem tnM_b {S : St} (h : mOk S) {off : Int → Int} (ho : ofOk (S 0 20) off) {g : Int} (h0 : 0 ≤ g) (h1 : g < 4) : tnM S (smM S off) g = 1000000 ∨ (-1000 ≤ tnM S (smM S off) g ∧ tnM S (smM S off) g ≤ 1000) := by
  unfold tnM
  split
  · exact Or.inl rfl
  · rename_i hz
    obtain ⟨a1, a2⟩ := h.2.2.1 g h0 h1
    obtain ⟨m, hm, hc⟩ := h.2.2.2.2 (S 20 g) (by omega) a2
    rw [hm, show ((m : Int)).toNat = m by omega]
    rcases plV_b (B := 600) hc (by omega) (fun s hs hs2 => hrF_b h ho ⟨h0, h1⟩ ⟨hs, hs2⟩) with q | q
    · exact Or.inl q
    · exact Or.inr ⟨Int.le_trans (by decide) q.1, Int.le_trans q.2 (by decide)⟩
set_option maxHeartbeats 4000000 in
theorem t_M_goes (S : St) (Q : Option AV → St → Prop) (h : mOk S) (ho : ofOk (S 0 20) (S 21))
    (hQ : ∀ S', Fr [22, 23, 24] [] S S' → (∀ i, 0 ≤ i → i < S 0 20 → S' 22 i = smM S (S 21) i) → (∀ g, 0 ≤ g → g < S 0 19 → S' 23 g = tnM S (smM S (S 21)) g) → Q none S') : Smm H_M_goes 0 [some (.inr (.inr 0)), none, none] [] S Q := by
  have hn := h.1.1
  have hk := h.2.1
  have loop2 : ∀ (g : Int) (S' : St), ((0 ≤ g ∧ g ≤ S 0 19) ∧ Fr [22, 23, 24] [] S S' ∧ (∀ i, 0 ≤ i → i < S 0 20 → S' 22 i = smM S (S 21) i) ∧ (∀ j, 0 ≤ j → j < g → S' 23 j = tnM S (smM S (S 21)) j)) → Smm H_M_goes 94 [some (.inr (.inr 0)), some (.inl g), none] [] S' Q := by
    refine lp_up (P := fun g S' => Smm H_M_goes 94 [some (.inr (.inr 0)), some (.inl g), none] [] S' Q) _ (S 0 19) ?_ ?_
    · rintro g S' hg ⟨hg2, hF, h1, h2⟩
      have e0 : S' 0 = S 0 := hF.c 0 rfl
      have q19 : S' 0 19 = S 0 19 := by rw [e0]
      refine sound ok_M_goes [94] 20 ?_
      refine ⟨fun _ => hQ S' hF h1 (fun j h0 hj => h2 j h0 (by omega)), fun h3 => absurd h3 (by omega)⟩
    · rintro g S' hg ⟨hg2, hF, h1, h2⟩ ih
      have e0 : S' 0 = S 0 := hF.c 0 rfl
      have e20 : S' 20 = S 20 := hF.c 20 rfl
      have e19 : S' 19 = S 19 := hF.c 19 rfl
      have e15 : S' 15 = S 15 := hF.c 15 rfl
      have e16 : S' 16 = S 16 := hF.c 16 rfl
      have e2 : i32 (g + 1) = g + 1 := by unfold i32; omega
      have fin : ∀ (S2 : St) (v : Int), Fr [24] [] S' S2 → v = tnM S (smM S (S 21)) g → Smm H_M_goes 94 [some (.inr (.inr 0)), some (.inl (i32 (g + 1))), none] [] (up S2 23 g v) Q := by
        intro S2 v hF2 hv
        rw [e2]
        have hF3 : Fr [22, 23, 24] [] S S2 := hF.tr (hF2.mo rfl rfl)
        refine ih _ ⟨by omega, hF3.up _ _ _ rfl, fun i h0 hi => ?_, fun j h0 hj => ?_⟩
        · rw [up_o _ _ _ (by decide), hF2.c 22 rfl]
          exact h1 i h0 hi
        · by_cases hjg : j = g
          · subst hjg
            rw [up_s]
            exact hv
          · rw [up_n _ _ _ hjg, hF2.c 23 rfl]
            exact h2 j h0 (by omega)
      have q19 : S' 0 19 = S 0 19 := by rw [e0]
      refine sound ok_M_goes [94] 60 ?_
      refine ⟨fun h3 => absurd h3 (by omega), fun _ => ?_⟩
      refine ⟨by omega, ?_⟩
      refine ⟨fun h3 => ?_, fun h3 => ?_⟩
      · rw [e20] at h3
        refine ⟨by omega, ?_⟩
        obtain ⟨a1, a2⟩ := h.2.2.1 g hg2.1 (by omega)
        obtain ⟨m, hm, hc⟩ := h.2.2.2.2 (S 20 g) h3 a2
        have hpl := h.2.2.2.1
        refine t_M_byPlan S' g (S' 20 g) m _ (by omega) (by rw [e20]; omega) (by rw [e0]; omega) (fun s h0 hs => ?_) (by rw [e19]; exact h.1.2.2) (by rw [e16, e20]; exact hm) (by rw [e15, e20]; exact hc) (fun S2 hF2 => ?_)
        · rw [e0] at hs
          rw [h1 s h0 hs]
          have := smM_b h ho h0 hs
          omega
        · refine ⟨by omega, ?_⟩
          refine fin S2 _ hF2 ?_
          unfold tnM
          rw [if_neg (by omega), e15, e20, e0, e19, hm, show ((m : Int)).toNat = m by omega]
          refine plV_congr hc (fun s h0 hs => ?_)
          unfold hrF
          split
          · rename_i hlt
            exact hdM_congr (h1 s h0 hlt)
          · rfl
      · rw [e20] at h3
        refine ⟨by omega, ?_⟩
        refine fin S' _ (Fr.rf _ _ _) ?_
        unfold tnM
        rw [if_pos h3]
  have loop1 : ∀ (i : Int) (S' : St), ((0 ≤ i ∧ i ≤ S 0 20) ∧ Fr [22, 23, 24] [] S S' ∧ (∀ j, 0 ≤ j → j < i → S' 22 j = snF (S 12) (S 13) (S 17) (S 19) (S 0 38) (S 21) i.toNat j)) → Smm H_M_goes 2 [some (.inr (.inr 0)), some (.inl i), none] [] S' Q := by
    refine lp_up (P := fun i S' => Smm H_M_goes 2 [some (.inr (.inr 0)), some (.inl i), none] [] S' Q) _ (S 0 20) ?_ ?_
    · rintro i S' hi ⟨hi2, hF, h1⟩
      have e0 : S' 0 = S 0 := hF.c 0 rfl
      have q20 : S' 0 20 = S 0 20 := by rw [e0]
      refine sound ok_M_goes [94] 20 ?_
      refine ⟨fun _ => ?_, fun h3 => absurd h3 (by omega)⟩
      refine loop2 0 S' ⟨by omega, hF, fun j h0 hj => ?_, fun j h0 hj => absurd hj (by omega)⟩
      rw [h1 j h0 (by omega)]
      unfold smM
      rw [show i = S 0 20 by omega]
    · rintro i S' hi ⟨hi2, hF, h1⟩ ih
      obtain ⟨k, rfl⟩ : ∃ k : Nat, i = k := ⟨i.toNat, by omega⟩
      rw [show ((k : Int)).toNat = k by omega] at h1
      rw [show ((k : Int) + 1).toNat = k + 1 by omega] at ih
      have e0 : S' 0 = S 0 := hF.c 0 rfl
      have e12 : S' 12 = S 12 := hF.c 12 rfl
      have e13 : S' 13 = S 13 := hF.c 13 rfl
      have e17 : S' 17 = S 17 := hF.c 17 rfl
      have e19 : S' 19 = S 19 := hF.c 19 rfl
      have e21 : S' 21 = S 21 := hF.c 21 rfl
      have e2 : i32 ((k : Int) + 1) = k + 1 := by unfold i32; omega
      obtain ⟨b1, b2, b3, b4, b5, b6⟩ := h.1.2.1 k hi2.1 hi
      have ob := ho k hi2.1 hi
      have hsb := snF_b (gone := S 0 38) h.1 ho k (by omega)
      generalize hsn : snF (S 12) (S 13) (S 17) (S 19) (S 0 38) (S 21) k = f at h1 hsb
      have hsv : snF (S 12) (S 13) (S 17) (S 19) (S 0 38) (S 21) (k + 1) = uf f k (sgv (S 12) (S 13) (S 17) (S 19) (S 0 38) (S 21) f k) := by rw [snF, hsn]
      have fin : ∀ (v : Int) (x2 : Option AV), v = sgv (S 12) (S 13) (S 17) (S 19) (S 0 38) (S 21) f k → Smm H_M_goes 2 [some (.inr (.inr 0)), some (.inl (i32 ((k : Int) + 1))), x2] [] (up S' 22 k v) Q := by
        intro v x2 hv
        refine Smm.sub (ih _ ⟨by omega, hF.up _ _ _ rfl, fun j h0 hj => ?_⟩) ⟨Or.inr rfl, Or.inr (sI e2.symm), Or.inl rfl, trivial⟩
        rw [hsv]
        by_cases hjk : j = k
        · subst hjk
          rw [up_s, uf, if_pos rfl]
          exact hv
        · rw [up_n _ _ _ hjk, uf, if_neg hjk]
          exact h1 j h0 (by omega)
      have rest : ∀ b : Int, b = sgb (S 12) (S 13) (S 19) f k → (b = 1000000 ∨ (-1000 ≤ b ∧ b ≤ 1000)) → Smm H_M_goes 39 [some (.inr (.inr 0)), some (.inl (k : Int)), none] [.inl b] S' Q := by
        intro b hb hbb
        refine sound ok_M_goes [2] 60 ?_
        refine ⟨fun h3 => ?_, fun h3 => ?_⟩
        · refine ⟨by omega, ?_⟩
          refine fin _ _ ?_
          unfold sgv
          rw [← hb, if_pos (Or.inl h3)]
        · refine ⟨fun h4 => ?_, fun h4 => ?_⟩
          · rw [e0] at h4
            refine ⟨by omega, ?_⟩
            refine ⟨by omega, ?_⟩
            refine ⟨by omega, ?_⟩
            refine fin _ _ ?_
            unfold sgv
            rw [← hb, if_neg (fun z => z.elim h3 h4), e17, e21]
            unfold i32
            omega
          · rw [e0] at h4
            refine ⟨by omega, ?_⟩
            refine fin _ _ ?_
            unfold sgv
            rw [← hb, if_pos (Or.inr h4)]
      have q20 : S' 0 20 = S 0 20 := by rw [e0]
      refine sound ok_M_goes [2, 39] 60 ?_
      refine ⟨fun h3 => absurd h3 (by omega), fun _ => ?_⟩
      refine ⟨by omega, ?_⟩
      refine ⟨fun h3 => ?_, fun h3 => ?_⟩
      · rw [e12] at h3
        refine ⟨by omega, ?_⟩
        refine ⟨by omega, ?_⟩
        have hfb := hsb (S 12 k) h3 b2
        have hfe := h1 (S 12 k) h3 b2
        have hll := h.1.2.2 (5 * S 13 k + S 12 k) (by omega) (by omega)
        refine t_M_heardAt S' (S' 13 k) (S' 12 k) _ (by rw [e13]; omega) (by rw [e12]; omega) (by rw [e12, hfe]; omega) (by rw [e19, e13, e12]; omega) ?_
        refine rest _ ?_ ?_
        · unfold sgb
          rw [if_neg (by omega), e12, e13, e19]
          exact hdM_congr hfe
        · rw [e12, e13, e19]
          have := hdM_b (al := S 19) (f := S' 22) (g := S 13 k) (s := S 12 k) (b := 500) (by omega) (by omega) hll
          omega
      · rw [e12] at h3
        refine rest 0 ?_ (by omega)
        unfold sgb
        rw [if_pos h3]
  refine sound ok_M_goes [2] 20 ?_
  exact loop1 0 S ⟨by omega, Fr.rf _ _ _, fun j h0 hj => absurd hj (by omega)⟩
set_option maxHeartbeats 4000000 in
theorem t_M_sorts (S : St) (Q : Option AV → St → Prop) (hk : 0 ≤ S 0 19 ∧ S 0 19 ≤ 4)
    (hQ : ∀ S', Fr [25] [] S S' → (∀ j : Nat, (j : Int) < S 0 19 → S' 25 j = (isF (S 23) (S 0 19).toNat).getD j 0) → Q none S') : Smm H_M_sorts 0 [some (.inr (.inr 0)), none, none, none] [] S Q := by
  have outer : ∀ (g : Int) (S' : St), ((0 ≤ g ∧ g ≤ S 0 19) ∧ Fr [25] [] S S' ∧ (∀ j : Nat, (j : Int) < g → S' 25 j = (isF (S 23) g.toNat).getD j 0)) → Smm H_M_sorts 2 [some (.inr (.inr 0)), some (.inl g), none, none] [] S' Q := by
    refine lp_up (P := fun g S' => Smm H_M_sorts 2 [some (.inr (.inr 0)), some (.inl g), none, none] [] S' Q) _ (S 0 19) ?_ ?_
    · rintro g S' hg ⟨hg2, hF, h1⟩
      have e0 : S' 0 = S 0 := hF.c 0 rfl
      have q19 : S' 0 19 = S 0 19 := by rw [e0]
      refine sound ok_M_sorts [2] 20 ?_
      refine ⟨fun _ => hQ S' hF (fun j hj => ?_), fun h3 => absurd h3 (by omega)⟩
      rw [h1 j (by omega), show g = S 0 19 by omega]
    · rintro g S' hg ⟨hg2, hF, h1⟩ ih
      obtain ⟨k, rfl⟩ : ∃ k : Nat, g = k := ⟨g.toNat, by omega⟩
      rw [show ((k : Int)).toNat = k by omega] at h1
      rw [show ((k : Int) + 1).toNat = k + 1 by omega] at ih
      have e0 : S' 0 = S 0 := hF.c 0 rfl
      have e23 : S' 23 = S 23 := hF.c 23 rfl
      have e2 : i32 ((k : Int) + 1) = k + 1 := by unfold i32; omega
      have hsr := isF_srtd (S 23) k
      have hln := isF_len (S 23) k
      have hst : isF (S 23) (k + 1) = ins (S 23 k) (isF (S 23) k) := rfl
      generalize isF (S 23) k = l at h1 hsr hln hst
      have inner : ∀ (q : Int) (S2 : St), ((0 ≤ q + 1 ∧ q + 1 ≤ k) ∧ Fr [25] [] S S2 ∧ (∀ j : Nat, (j : Int) < q + 1 → S2 25 j = l.getD j 0) ∧ (∀ j : Nat, q + 1 < j → j ≤ k → S2 25 j = l.getD (j - 1) 0) ∧ (∀ j : Nat, q + 1 ≤ j → j < k → S 23 k < l.getD j 0)) → Smm H_M_sorts 19 [some (.inr (.inr 0)), some (.inl (k : Int)), some (.inl (S 23 k)), some (.inl (q + 1))] [] S2 Q := by
        have out : ∀ (q : Int) (S2 : St), (0 ≤ q + 1 ∧ q + 1 ≤ k) → Fr [25] [] S S2 → (∀ j : Nat, (j : Int) < q + 1 → S2 25 j = l.getD j 0) → (∀ j : Nat, q + 1 < j → j ≤ k → S2 25 j = l.getD (j - 1) 0) → (∀ j : Nat, q + 1 ≤ j → j < k → S 23 k < l.getD j 0) → (q + 1 = 0 ∨ l.getD q.toNat 0 ≤ S 23 k) → Smm H_M_sorts 55 [some (.inr (.inr 0)), some (.inl (k : Int)), some (.inl (S 23 k)), some (.inl (q + 1))] [] S2 Q := by
          intro q S2 hq hF2 a1 a2 a3 a4
          refine sound ok_M_sorts [2] 20 ?_
          refine ⟨by omega, ?_⟩
          refine Smm.sub (ih _ ⟨by omega, hF2.up _ _ _ rfl, fun j hj => ?_⟩) ⟨Or.inr rfl, Or.inr (sI e2.symm), Or.inl rfl, Or.inl rfl, trivial⟩
          rw [hst, ins_at (S 23 k) l (q + 1).toNat hsr (by omega) (fun j h4 h5 => a3 j (by omega) (by omega)) (by
            rcases a4 with z | z
            · exact Or.inl (by omega)
            · by_cases hz : q + 1 = 0
              · exact Or.inl (by omega)
              · exact Or.inr (by rw [show (q + 1).toNat - 1 = q.toNat by omega]; exact z)), getD_ins _ _ _ _ (by omega)]
          by_cases hj1 : (j : Int) = q + 1
          · rw [hj1, up_s, if_neg (by omega), if_pos (by omega)]
          · rw [up_n _ _ _ hj1]
            by_cases hj2 : (j : Int) < q + 1
            · rw [if_pos (by omega)]
              exact a1 j hj2
            · rw [if_neg (by omega), if_neg (by omega)]
              exact a2 j (by omega) (by omega)
        refine lp_dn (P := fun q S2 => Smm H_M_sorts 19 [some (.inr (.inr 0)), some (.inl (k : Int)), some (.inl (S 23 k)), some (.inl (q + 1))] [] S2 Q) _ ?_ ?_
        · rintro q S2 hq ⟨b0, hF2, a1, a2, a3⟩
          refine sound ok_M_sorts [55] 20 ?_
          refine ⟨fun _ => out q S2 b0 hF2 a1 a2 a3 (Or.inl (by omega)), fun h3 => absurd h3 (by omega)⟩
        · rintro q S2 hq ⟨b0, hF2, a1, a2, a3⟩ ih2
          have eq1 : i32 (q + 1 - 1) = q := by unfold i32; omega
          have hv : S2 25 q = l.getD q.toNat 0 := by
            have := a1 q.toNat (by omega)
            rwa [show ((q.toNat : Nat) : Int) = q by omega] at this
          refine sound ok_M_sorts [55, 19] 40 ?_
          refine ⟨fun h3 => absurd h3 (by omega), fun _ => ?_⟩
          refine ⟨by rw [eq1]; omega, ?_⟩
          refine ⟨fun h4 => ?_, fun h4 => ?_⟩
          · rw [eq1] at h4
            exact out q S2 b0 hF2 a1 a2 a3 (Or.inr (by rw [← hv]; exact h4))
          · rw [eq1] at h4
            refine ⟨by rw [eq1]; omega, ?_⟩
            refine ⟨by omega, ?_⟩
            rw [eq1]
            refine Smm.sub (ih2 (up S2 25 (q + 1) (S2 25 q)) ⟨by omega, hF2.up _ _ _ rfl, fun j hj => ?_, fun j hj hj2 => ?_, fun j hj hj2 => ?_⟩) ⟨Or.inr rfl, Or.inr rfl, Or.inr rfl, Or.inr (sI (by unfold i32; omega)), trivial⟩
            · rw [up_n _ _ _ (by omega)]
              exact a1 j (by omega)
            · by_cases hjq : (j : Int) = q + 1
              · rw [hjq, up_s, hv, show j - 1 = q.toNat by omega]
              · rw [up_n _ _ _ hjq]
                exact a2 j (by omega) hj2
            · by_cases hjq : (j : Int) = q
              · have := h4
                rw [hv] at this
                rw [show j = q.toNat by omega]
                exact this
              · exact a3 j (by omega) hj2
      have q19 : S' 0 19 = S 0 19 := by rw [e0]
      refine sound ok_M_sorts [19] 40 ?_
      refine ⟨fun h3 => absurd h3 (by omega), fun _ => ?_⟩
      refine ⟨by omega, ?_⟩
      refine Smm.sub (inner (k - 1) S' ⟨by omega, hF, fun j hj => h1 j (by omega), fun j hj hj2 => absurd hj (by omega), fun j hj hj2 => absurd hj (by omega)⟩) ⟨Or.inr rfl, Or.inr rfl, Or.inr (sI (by rw [e23])), Or.inr (sI (by omega)), trivial⟩
  refine sound ok_M_sorts [2] 20 ?_
  exact outer 0 S ⟨by omega, Fr.rf _ _ _, fun j hj => absurd hj (by omega)⟩
