/-! the reference: nearness, ways -/
/-- the cells that say what land is tried are the same -/
def Sm (S S' : St) : Prop := S' 0 = S 0 ∧ S' 12 = S 12 ∧ S' 13 = S 13 ∧ S' 15 = S 15 ∧ S' 16 = S 16 ∧ S' 17 = S 17 ∧ S' 18 = S 18 ∧ S' 19 = S 19 ∧ S' 20 = S 20
theorem Sm.of {X : List Nat} {S S' : St} (h : Fr X [] S S') (hX : ([0, 12, 13, 15, 16, 17, 18, 19, 20].all (fun c => !(X.contains c))) = true) : Sm S S' := by
  have key : ∀ c ∈ ([0, 12, 13, 15, 16, 17, 18, 19, 20] : List Nat), S' c = S c := by
    intro c hc
    have := List.all_eq_true.mp hX c hc
    exact h.c c (by simpa using this)
  exact ⟨key _ (by simp), key _ (by simp), key _ (by simp), key _ (by simp), key _ (by simp), key _ (by simp), key _ (by simp), key _ (by simp), key _ (by simp)⟩
/-- a land tried, with its errors, need and breath -/
def mAs (S : St) : Prop := mOk S ∧ (1 ≤ S 0 20 ∧ 2 ≤ S 0 21 ∧ S 0 21 ≤ 4 ∧ 0 ≤ S 0 22 ∧ S 0 22 ≤ 9) ∧ ∀ i, 0 ≤ i → i < S 0 20 → 0 ≤ S 18 i ∧ S 18 i ≤ 3
theorem mOk_sm {S S' : St} (h : Sm S S') (k : mOk S) : mOk S' := by
  obtain ⟨h0, h1, h2, h3, h4, h5, h6, h7, h8⟩ := h
  unfold mOk plM at *
  rw [h0, h1, h2, h3, h4, h5, h7, h8]
  exact k
theorem mAs_sm {S S' : St} (h : Sm S S') (k : mAs S) : mAs S' := by
  have k1 := mOk_sm h k.1
  refine ⟨k1, ?_, ?_⟩
  · rw [h.1]; exact k.2.1
  · rw [h.1, h.2.2.2.2.2.2.1]; exact k.2.2
theorem smM_sm {S S' : St} (h : Sm S S') : smM S' = smM S := by
  obtain ⟨h0, h1, h2, h3, h4, h5, h6, h7, h8⟩ := h
  funext off
  unfold smM
  rw [h0, h1, h2, h5, h7]
theorem tnM_sm {S S' : St} (h : Sm S S') : tnM S' = tnM S := by
  obtain ⟨h0, h1, h2, h3, h4, h5, h6, h7, h8⟩ := h
  funext f g
  unfold tnM
  rw [h0, h3, h4, h7, h8]
/-- all ways of the land tried -/
def wyM (S : St) : List (Int → Int) := wyF (S 18) (S 0 20).toNat
theorem wyM_sm {S S' : St} (h : Sm S S') : wyM S' = wyM S := by unfold wyM; rw [h.1, h.2.2.2.2.2.2.1]
/-- how near the turns are on a way; whether it opens -/
def apM (S : St) (f : Int → Int) : Int := apF (S 0 21) (tnM S (smM S f)) (S 0 19).toNat
theorem apM_sm {S S' : St} (h : Sm S S') : apM S' = apM S := by funext f; unfold apM; rw [h.1, tnM_sm h, smM_sm h]
def opM (S : St) (f : Int → Int) : Bool := decide (apM S f ≤ S 0 22)
theorem opM_sm {S S' : St} (h : Sm S S') : opM S' = opM S := by funext f; unfold opM; rw [h.1, apM_sm h]
/-- the reference stands at this way -/
def Wy (S : St) (f : Int → Int) : Prop := (∀ i, 0 ≤ i → i < S 0 20 → S 21 i = f i) ∧ (∀ i, 0 ≤ i → i < S 0 20 → S 22 i = smM S f i) ∧ ∀ g, 0 ≤ g → g < S 0 19 → S 23 g = tnM S (smM S f) g
theorem wyM_of {S : St} (h : mAs S) {f : Int → Int} (hf : f ∈ wyM S) : ofOk (S 0 20) f := by
  have hn := h.1.1.1
  have h1 := (wy_mem (S 0 20).toNat (fun i hi => (h.2.2 i (by omega) (by omega)).1) f hf).1
  intro i h0 hi
  have := h1 i h0 (by omega)
  have := h.2.2 i h0 hi
  omega
theorem t_M_isPart (S : St) (a b : Int) (Q : Option AV → St → Prop) (h1 : 0 ≤ a ∧ a ≤ b → Q (some (.inl 1)) S) (h0 : ¬ (0 ≤ a ∧ a ≤ b) → Q (some (.inl 0)) S) : Smm H_M_isPart 0 [some (.inl a), some (.inl b)] [] S Q := by
  refine sound ok_M_isPart [] 40 ?_
  refine ⟨fun h2 => ⟨Or.inl rfl, h0 (by omega)⟩, fun h2 => ?_⟩
  exact ⟨fun h3 => ⟨Or.inl rfl, h0 (by omega)⟩, fun h3 => ⟨Or.inr rfl, h1 (by omega)⟩⟩
theorem t_M_isGuard (S : St) (g : Int) (Q : Option AV → St → Prop) (h1 : ¬ S 0 18 = 0 ∧ 0 ≤ g ∧ g < S 0 19 → Q (some (.inl 1)) S) (h0 : ¬ (¬ S 0 18 = 0 ∧ 0 ≤ g ∧ g < S 0 19) → Q (some (.inl 0)) S) : Smm H_M_isGuard 0 [some (.inr (.inr 0)), some (.inl g)] [] S Q := by
  refine sound ok_M_isGuard [] 40 ?_
  refine ⟨fun h2 => ⟨Or.inl rfl, h0 (by omega)⟩, fun h2 => ?_⟩
  refine ⟨fun h3 => ⟨Or.inl rfl, h0 (by omega)⟩, fun h3 => ?_⟩
  exact ⟨fun h4 => ⟨Or.inl rfl, h0 (by omega)⟩, fun h4 => ⟨Or.inr rfl, h1 (by omega)⟩⟩
theorem t_M_isSign (S : St) (g : Int) (Q : Option AV → St → Prop) (h1 : ¬ S 0 18 = 0 ∧ 0 ≤ g ∧ g < S 0 20 → Q (some (.inl 1)) S) (h0 : ¬ (¬ S 0 18 = 0 ∧ 0 ≤ g ∧ g < S 0 20) → Q (some (.inl 0)) S) : Smm H_M_isSign 0 [some (.inr (.inr 0)), some (.inl g)] [] S Q := by
  refine sound ok_M_isSign [] 40 ?_
  refine ⟨fun h2 => ⟨Or.inl rfl, h0 (by omega)⟩, fun h2 => ?_⟩
  refine ⟨fun h3 => ⟨Or.inl rfl, h0 (by omega)⟩, fun h3 => ?_⟩
  exact ⟨fun h4 => ⟨Or.inl rfl, h0 (by omega)⟩, fun h4 => ⟨Or.inr rfl, h1 (by omega)⟩⟩
theorem t_M_allWays (S : St) (Q : Option AV → St → Prop) (h : mAs S) (hQ : Q (some (.inl (wyM S).length)) S) : Smm H_M_allWays 0 [some (.inr (.inr 0)), none, none] [] S Q := by
  have hn := h.1.1.1
  have loop : ∀ (i : Int) (_ : Unit), (0 ≤ i ∧ i ≤ S 0 20) → Smm H_M_allWays 4 [some (.inr (.inr 0)), some (.inl ((wyF (S 18) i.toNat).length : Int)), some (.inl i)] [] S Q := by
    refine lp_up (P := fun i _ => Smm H_M_allWays 4 [some (.inr (.inr 0)), some (.inl ((wyF (S 18) i.toNat).length : Int)), some (.inl i)] [] S Q) (fun i _ => 0 ≤ i ∧ i ≤ S 0 20) (S 0 20) ?_ ?_
    · rintro i - hi hi2
      refine sound ok_M_allWays [4] 20 ?_
      refine ⟨fun _ => ?_, fun h3 => absurd h3 (by omega)⟩
      have e : i = S 0 20 := by omega
      subst e
      exact hQ
    · rintro i - hi hi2 ih
      obtain ⟨k, rfl⟩ : ∃ k : Nat, i = k := ⟨i.toNat, by omega⟩
      have ih := ih () (by omega)
      rw [show ((k : Int) + 1).toNat = k + 1 by omega, wy_lenS] at ih
      have hl := wy_len (err := S 18) k (fun j hj => h.2.2 j (by omega) (by omega))
      have he := h.2.2 k (by omega) hi
      have h7 : 7 ^ k ≤ 7 ^ 5 := Nat.pow_le_pow_right (by omega) (by omega)
      have h75 : 7 ^ 5 = 16807 := rfl
      refine sound ok_M_allWays [4] 40 ?_
      refine ⟨fun h3 => absurd h3 (by omega), fun _ => ?_⟩
      refine ⟨by omega, ?_⟩
      refine Smm.sub ih ⟨Or.inr rfl, Or.inr (sI ?_), Or.inr (sI (by unfold i32; omega)), trivial⟩
      rw [show ((k : Int)).toNat = k by omega]
      have e1 : i32 (i32 (2 * S 18 k) + 1) = 2 * S 18 k + 1 := by unfold i32; omega
      rw [e1]
      have e2 : ((2 * S 18 k + 1).toNat : Int) = 2 * S 18 k + 1 := by omega
      have hm : (wyF (S 18) k).length * (2 * S 18 k + 1).toNat ≤ 16807 * 7 := Nat.mul_le_mul (by omega) (by omega)
      have e3 : (((wyF (S 18) k).length * (2 * S 18 k + 1).toNat : Nat) : Int) = ((wyF (S 18) k).length : Int) * (2 * S 18 k + 1) := by rw [Int.natCast_mul, e2]
      rw [← e3]
      generalize (wyF (S 18) k).length * (2 * S 18 k + 1).toNat = z at hm ⊢
      unfold i32
      omega
  refine sound ok_M_allWays [4] 20 ?_
  exact loop 0 () (by omega)
set_option maxHeartbeats 4000000 in
theorem t_M_apart (S : St) (Q : Option AV → St → Prop) (hk : 0 ≤ S 0 19 ∧ S 0 19 ≤ 4) (hn : 2 ≤ S 0 21 ∧ S 0 21 ≤ 4) (hb : ∀ g, 0 ≤ g → g < S 0 19 → S 23 g = 1000000 ∨ (-1000 ≤ S 23 g ∧ S 23 g ≤ 2000))
    (hQ : ∀ S', Fr [25] [] S S' → Q (some (.inl (apF (S 0 21) (S 23) (S 0 19).toNat))) S') : Smm H_M_apart 0 [some (.inr (.inr 0)), none, none, none] [] S Q := by
  refine sound ok_M_apart [15] 40 ?_
  refine t_M_sorts S _ hk (fun S' hF hr => ?_)
  have e0 : S' 0 = S 0 := hF.c 0 rfl
  have q19 : S' 0 19 = S 0 19 := by rw [e0]
  have q21 : S' 0 21 = S 0 21 := by rw [e0]
  have hs := isF_srtd (S 23) (S 0 19).toNat
  have hl := isF_len (S 23) (S 0 19).toNat
  have hm : ∀ x ∈ isF (S 23) (S 0 19).toNat, x = 1000000 ∨ (-1000 ≤ x ∧ x ≤ 2000) := fun x hx => by
    obtain ⟨j, h1, h2⟩ := (isF_mem _ _).mp hx
    rw [h2]
    exact hb j (by omega) (by omega)
  have hQ' := hQ S' hF
  unfold apF at hQ'
  generalize isF (S 23) (S 0 19).toNat = l at hr hs hl hm hQ'
  have hcl := cnF_le l
  have hlt := cnF_lt l
  have hge := cnF_ge l hs (fun x hx => by have := hm x hx; omega)
  have hbd : ∀ j : Nat, j < l.length → l.getD j 0 = 1000000 ∨ (-1000 ≤ l.getD j 0 ∧ l.getD j 0 ≤ 2000) := fun j hj => hm _ (by
    rw [List.getD_eq_getElem?_getD, List.getElem?_eq_getElem hj]
    exact List.getElem_mem hj)
  have wb : ∀ i : Nat, i ≤ cnF l → wmF (S 0 21).toNat l i ≤ 1000000 ∧ -5000 ≤ wmF (S 0 21).toNat l i := by
    intro i
    induction i with
    | zero => intro _; rw [wmF]; omega
    | succ i ih =>
      intro hi
      have ih := ih (by omega)
      rw [wmF]
      split
      · have h1 := hbd i (by omega)
        have h2 := hbd (i + 1 - (S 0 21).toNat) (by omega)
        have h3 := hlt i (by omega)
        have h4 := hlt (i + 1 - (S 0 21).toNat) (by omega)
        omega
      · exact ih
  have wz : ∀ i : Nat, i + 1 ≤ (S 0 21).toNat → wmF (S 0 21).toNat l i = 1000000 := by
    intro i
    induction i with
    | zero => intro _; rfl
    | succ i ih => intro hi; rw [wmF, if_neg (by omega)]; exact ih (by omega)
  have loop : ∀ (i : Int) (_ : Unit), (S 0 21 - 1 ≤ i ∧ i ≤ l.length ∨ i = S 0 21 - 1) ∧ (i ≤ cnF l ∨ i = S 0 21 - 1) → Smm H_M_apart 15 [some (.inr (.inr 0)), some (.inl (wmF (S 0 21).toNat l (min i.toNat (cnF l)))), some (.inl i), none] [] S' Q := by
    refine lp_up (P := fun i _ => Smm H_M_apart 15 [some (.inr (.inr 0)), some (.inl (wmF (S 0 21).toNat l (min i.toNat (cnF l)))), some (.inl i), none] [] S' Q) (fun i _ => (S 0 21 - 1 ≤ i ∧ i ≤ l.length ∨ i = S 0 21 - 1) ∧ (i ≤ cnF l ∨ i = S 0 21 - 1)) (S 0 19) ?_ ?_
    · rintro i - hi ⟨hi2, hi3⟩
      refine sound ok_M_apart [15] 20 ?_
      refine ⟨fun _ => ?_, fun h3 => absurd h3 (by omega)⟩
      rw [show min i.toNat (cnF l) = cnF l by omega]
      exact hQ'
    · rintro i - hi ⟨hi2, hi3⟩ ih
      have hri := hr i.toNat (by omega)
      rw [show ((i.toNat : Nat) : Int) = i by omega] at hri
      refine sound ok_M_apart [15] 60 ?_
      refine ⟨fun h3 => absurd h3 (by omega), fun _ => ?_⟩
      refine ⟨by omega, ?_⟩
      refine ⟨fun h3 => ?_, fun h3 => ?_⟩
      · refine ⟨by omega, ?_⟩
        have e1 : i32 (i32 (i - S' 0 21) + 1) = i - S 0 21 + 1 := by rw [q21]; unfold i32; omega
        refine ⟨by rw [e1]; omega, ?_⟩
        have hri2 := hr (i - S 0 21 + 1).toNat (by omega)
        rw [show (((i - S 0 21 + 1).toNat : Nat) : Int) = i - S 0 21 + 1 by omega] at hri2
        have hic : i < cnF l := by
          rcases Int.lt_or_le i (cnF l) with q | q
          · exact q
          · have := hge i.toNat (by omega) (by omega)
            rw [hri] at h3
            exact absurd this h3
        have hb1 := hbd i.toNat (by omega)
        have hb2 := hbd (i - S 0 21 + 1).toNat (by omega)
        have hn1 := hlt i.toNat (by omega)
        have hn2 := hlt (i - S 0 21 + 1).toNat (by omega)
        have hw := wb i.toNat (by omega)
        have e2 : i32 (S' 25 i - S' 25 (i32 (i32 (i - S' 0 21) + 1))) = l.getD i.toNat 0 - l.getD (i - S 0 21 + 1).toNat 0 := by rw [e1, hri, hri2]; unfold i32; omega
        have e3 : wmF (S 0 21).toNat l (min (i + 1).toNat (cnF l)) = min (wmF (S 0 21).toNat l (min i.toNat (cnF l))) (l.getD i.toNat 0 - l.getD (i - S 0 21 + 1).toNat 0) := by
          rw [show min (i + 1).toNat (cnF l) = i.toNat + 1 by omega, show min i.toNat (cnF l) = i.toNat by omega, wmF, if_pos (by omega), show i.toNat + 1 - (S 0 21).toNat = (i - S 0 21 + 1).toNat by omega]
        have ih := ih () (by omega)
        rw [e3] at ih
        refine ⟨fun h4 => ?_, fun h4 => ?_⟩
        · rw [e2] at h4
          exact Smm.sub ih ⟨Or.inr rfl, Or.inr (sI (by omega)), Or.inr (sI (by unfold i32; omega)), Or.inl rfl, trivial⟩
        · rw [e2] at h4
          exact Smm.sub ih ⟨Or.inr rfl, Or.inr (sI (by rw [e2]; omega)), Or.inr (sI (by unfold i32; omega)), Or.inl rfl, trivial⟩
      · have hic : cnF l ≤ i.toNat := by
          rcases Nat.lt_or_ge i.toNat (cnF l) with q | q
          · rw [hri] at h3
            exact absurd h3 (hlt _ q)
          · exact q
        rw [show min i.toNat (cnF l) = cnF l by omega]
        exact hQ'
  refine Smm.sub (loop (S 0 21 - 1) () ⟨Or.inr rfl, Or.inr rfl⟩) ⟨Or.inr rfl, Or.inr (sI (wz _ (by omega))), Or.inr (sI (by rw [q21]; unfold i32; omega)), Or.inl rfl, trivial⟩
theorem t_M_doesOpen (S : St) (Q : Option AV → St → Prop) (hk : 0 ≤ S 0 19 ∧ S 0 19 ≤ 4) (hn : 2 ≤ S 0 21 ∧ S 0 21 ≤ 4) (hb : ∀ g, 0 ≤ g → g < S 0 19 → S 23 g = 1000000 ∨ (-1000 ≤ S 23 g ∧ S 23 g ≤ 2000))
    (h1 : ∀ S', Fr [25] [] S S' → apF (S 0 21) (S 23) (S 0 19).toNat ≤ S 0 22 → Q (some (.inl 1)) S')
    (h0 : ∀ S', Fr [25] [] S S' → ¬ apF (S 0 21) (S 23) (S 0 19).toNat ≤ S 0 22 → Q (some (.inl 0)) S') : Smm H_M_doesOpen 0 [some (.inr (.inr 0))] [] S Q := by
  refine sound ok_M_doesOpen [] 40 ?_
  refine t_M_apart S _ hk hn hb (fun S' hF => ?_)
  have e0 : S' 0 = S 0 := hF.c 0 rfl
  have q22 : S' 0 22 = S 0 22 := by rw [e0]
  refine ⟨fun h2 => ⟨Or.inl rfl, h0 S' hF (by omega)⟩, fun h2 => ⟨Or.inr rfl, h1 S' hF (by omega)⟩⟩
theorem fsF_v {err : Int → Int} : ∀ (n : Nat) (i : Int), 0 ≤ i → i < n → fsF err n i = -err i
  | 0, i, h0, h => absurd h (by omega)
  | n + 1, i, h0, h => by
    rw [fsF]
    by_cases hi : i = n
    · rw [hi, uf_s]
    · rw [uf_n _ _ hi]
      exact fsF_v n i h0 (by omega)
/-- goes, at a way -/
theorem t_M_goesW (S : St) (f : Int → Int) (Q : Option AV → St → Prop) (h : mAs S) (hf : f ∈ wyM S) (ho : ∀ i, 0 ≤ i → i < S 0 20 → S 21 i = f i) (hQ : ∀ S', Fr [22, 23, 24] [] S S' → Wy S' f → Q none S') : Smm H_M_goes 0 [some (.inr (.inr 0)), none, none] [] S Q := by
  have hn := h.1.1.1
  have hof : ofOk (S 0 20) (S 21) := fun i h0 hi => by rw [ho i h0 hi]; exact wyM_of h hf i h0 hi
  have hsm : smM S (S 21) = smM S f := by
    unfold smM
    exact snF_congr _ (fun i hi => ho i (by omega) (by omega))
  refine t_M_goes S Q h.1 hof (fun S' hF h1 h2 => hQ S' hF ?_)
  have hSm : Sm S S' := Sm.of hF rfl
  refine ⟨fun i h0 hi => ?_, fun i h0 hi => ?_, fun g h0 hg => ?_⟩
  · rw [hSm.1] at hi
    rw [hF.c 21 rfl]
    exact ho i h0 hi
  · rw [hSm.1] at hi
    rw [smM_sm hSm, h1 i h0 hi, hsm]
  · rw [hSm.1] at hg
    rw [smM_sm hSm, tnM_sm hSm, h2 g h0 hg, hsm]
theorem t_M_firstWay (S : St) (Q : Option AV → St → Prop) (h : mAs S) (hQ : ∀ S', Fr [21, 22, 23, 24] [] S S' → Wy S' (fsF (S 18) (S 0 20).toNat) → Q none S') : Smm H_M_firstWay 0 [some (.inr (.inr 0)), none] [] S Q := by
  have hn := h.1.1.1
  have loop : ∀ (i : Int) (S' : St), ((0 ≤ i ∧ i ≤ S 0 20) ∧ Fr [21] [] S S' ∧ ∀ j, 0 ≤ j → j < i → S' 21 j = -S 18 j) → Smm H_M_firstWay 2 [some (.inr (.inr 0)), some (.inl i)] [] S' Q := by
    refine lp_up (P := fun i S' => Smm H_M_firstWay 2 [some (.inr (.inr 0)), some (.inl i)] [] S' Q) _ (S 0 20) ?_ ?_
    · rintro i S' hi ⟨hi2, hF, h1⟩
      have hSm : Sm S S' := Sm.of hF rfl
      have q20 : S' 0 20 = S 0 20 := by rw [hSm.1]
      refine sound ok_M_firstWay [2] 20 ?_
      refine ⟨fun _ => ?_, fun h3 => absurd h3 (by omega)⟩
      refine t_M_goesW S' (fsF (S 18) (S 0 20).toNat) _ (mAs_sm hSm h) ?_ (fun j h0 hj => ?_) (fun S2 hF2 hW => ?_)
      · rw [wyM_sm hSm]
        obtain ⟨r, hr⟩ := wy_first (err := S 18) (S 0 20).toNat (fun i hi => (h.2.2 i (by omega) (by omega)).1)
        unfold wyM
        rw [hr]
        exact List.mem_cons_self
      · rw [h1 j h0 (by omega), fsF_v _ _ h0 (by omega)]
      · exact hQ S2 ((hF.mo rfl rfl).tr (hF2.mo rfl rfl)) hW
    · rintro i S' hi ⟨hi2, hF, h1⟩ ih
      have hSm : Sm S S' := Sm.of hF rfl
      have q20 : S' 0 20 = S 0 20 := by rw [hSm.1]
      have he := h.2.2 i hi2.1 hi
      refine sound ok_M_firstWay [2] 40 ?_
      refine ⟨fun h3 => absurd h3 (by omega), fun _ => ?_⟩
      refine ⟨by omega, ?_⟩
      refine ⟨by omega, ?_⟩
      refine Smm.sub (ih _ ⟨by omega, hF.up _ _ _ rfl, fun j h0 hj => ?_⟩) ⟨Or.inr rfl, Or.inr (sI (by unfold i32; omega)), trivial⟩
      by_cases hji : j = i
      · rw [hji, up_s, hF.c 18 rfl]
        unfold i32
        omega
      · rw [up_n _ _ _ hji]
        exact h1 j h0 (by omega)
  refine sound ok_M_firstWay [2] 20 ?_
  exact loop 0 S ⟨by omega, Fr.rf _ _ _, fun j h0 hj => absurd hj (by omega)⟩
theorem t_M_nextWay (S : St) (f : Int → Int) (Q : Option AV → St → Prop) (h : mAs S) (hW : ∀ i, 0 ≤ i → i < S 0 20 → S 21 i = f i) (hb : ∀ i, 0 ≤ i → i < S 0 20 → -3 ≤ f i ∧ f i ≤ 3) (hm : ∀ f', nxF (S 18) (S 0 20).toNat f = some f' → f' ∈ wyM S)
    (h1 : ∀ f' S', nxF (S 18) (S 0 20).toNat f = some f' → Fr [21, 22, 23, 24] [] S S' → Wy S' f' → Q (some (.inl 1)) S') (h0 : ∀ S', nxF (S 18) (S 0 20).toNat f = none → Fr [21, 22, 23, 24] [] S S' → Q (some (.inl 0)) S') : Smm H_M_nextWay 0 [some (.inr (.inr 0)), none] [] S Q := by
  have hn := h.1.1.1
  have out : ∀ (s : Int) (S' : St) (g : Int → Int), (-1 ≤ s ∧ s < S 0 20) → Fr [21] [] S S' → (∀ i, 0 ≤ i → i < S 0 20 → S' 21 i = g i) → (∀ i, 0 ≤ i → i < S 0 20 → -3 ≤ g i ∧ g i ≤ 3) → nxF (S 18) (s + 1).toNat g = nxF (S 18) (S 0 20).toNat f → (s = -1 ∨ ¬ g s = S 18 s) → Smm H_M_nextWay 45 [some (.inr (.inr 0)), some (.inl s)] [] S' Q := by
    intro s S' g hs hF hg hgb hx hz
    have hSm : Sm S S' := Sm.of hF rfl
    refine sound ok_M_nextWay [] 60 ?_
    refine ⟨fun h2 => ?_, fun h2 => ?_⟩
    · refine ⟨by omega, ?_⟩
      refine ⟨by omega, ?_⟩
      obtain ⟨k, hk⟩ : ∃ k : Nat, s = k := ⟨s.toNat, by omega⟩
      subst hk
      rw [show ((k : Int) + 1).toNat = k + 1 by omega, nxF, if_neg (hz.resolve_left (by omega))] at hx
      have hF2 : Fr [21] [] S (up S' 21 k (i32 (S' 21 k + 1))) := hF.up _ _ _ rfl
      have hSm2 : Sm S (up S' 21 k (i32 (S' 21 k + 1))) := Sm.of hF2 rfl
      refine t_M_goesW _ (uf g k (g k + 1)) _ (mAs_sm hSm2 h) (by rw [wyM_sm hSm2]; exact hm _ hx.symm) (fun i i0 i1 => ?_) (fun S3 hF3 hW3 => ?_)
      · rw [hSm2.1] at i1
        by_cases hik : i = k
        · rw [hik, up_s, uf_s, hg k (by omega) (by omega)]
          have := hgb k (by omega) (by omega)
          unfold i32
          omega
        · rw [up_n _ _ _ hik, uf_n _ _ hik]
          exact hg i i0 i1
      · exact ⟨Or.inr rfl, h1 _ S3 hx.symm ((hF2.mo rfl rfl).tr (hF3.mo rfl rfl)) hW3⟩
    · rw [show s = -1 by omega] at hx
      exact ⟨Or.inl rfl, h0 S' hx.symm (hF.mo rfl rfl)⟩
  have loop : ∀ (s : Int) (q : St × (Int → Int)), ((-1 ≤ s ∧ s < S 0 20) ∧ Fr [21] [] S q.1 ∧ (∀ i, 0 ≤ i → i < S 0 20 → q.1 21 i = q.2 i) ∧ (∀ i, 0 ≤ i → i < S 0 20 → -3 ≤ q.2 i ∧ q.2 i ≤ 3) ∧ nxF (S 18) (s + 1).toNat q.2 = nxF (S 18) (S 0 20).toNat f) → Smm H_M_nextWay 7 [some (.inr (.inr 0)), some (.inl s)] [] q.1 Q := by
    refine lp_dn (P := fun s (q : St × (Int → Int)) => Smm H_M_nextWay 7 [some (.inr (.inr 0)), some (.inl s)] [] q.1 Q) _ ?_ ?_
    · rintro s ⟨S', g⟩ hs ⟨hs2, hF, hg, hgb, hx⟩
      refine sound ok_M_nextWay [45] 20 ?_
      exact ⟨fun _ => out s S' g hs2 hF hg hgb hx (Or.inl (by omega)), fun h3 => absurd h3 (by omega)⟩
    · rintro s ⟨S', g⟩ hs ⟨hs2, hF, hg, hgb, hx⟩ ih
      dsimp only at hF hg hgb hx ih ⊢
      have e18 : S' 18 = S 18 := hF.c 18 rfl
      have hgs := hg s hs hs2.2
      refine sound ok_M_nextWay [45, 7] 40 ?_
      refine ⟨fun h3 => absurd h3 (by omega), fun _ => ?_⟩
      refine ⟨by omega, ?_⟩
      refine ⟨by omega, ?_⟩
      refine ⟨fun h3 => ?_, fun h3 => ?_⟩
      · rw [hgs, e18] at h3
        exact out s S' g hs2 hF hg hgb hx (Or.inr h3)
      · rw [hgs, e18] at h3
        have he := h.2.2 s hs hs2.2
        have e1 : i32 (-S' 18 s) = -S 18 s := by rw [e18]; unfold i32; omega
        refine ⟨by omega, ?_⟩
        refine ⟨by omega, ?_⟩
        obtain ⟨k, hk⟩ : ∃ k : Nat, s = k := ⟨s.toNat, by omega⟩
        subst hk
        rw [show ((k : Int) + 1).toNat = k + 1 by omega, nxF, if_pos h3] at hx
        refine Smm.sub (ih (up S' 21 k (i32 (-S' 18 k)), uf g k (-S 18 k)) ⟨by omega, hF.up _ _ _ rfl, fun i i0 i1 => ?_, fun i i0 i1 => ?_, ?_⟩) ⟨Or.inr rfl, Or.inr (sI (by unfold i32; omega)), trivial⟩
        · dsimp only
          by_cases hik : i = k
          · rw [hik, up_s, uf_s, e1]
          · rw [up_n _ _ _ hik, uf_n _ _ hik]
            exact hg i i0 i1
        · by_cases hik : i = k
          · rw [hik]
            show -3 ≤ uf g k _ k ∧ uf g k _ k ≤ 3
            rw [uf_s]
            omega
          · show -3 ≤ uf g k _ i ∧ uf g k _ i ≤ 3
            rw [uf_n _ _ hik]
            exact hgb i i0 i1
        · rw [show ((k : Int) - 1 + 1).toNat = k by omega]
          exact hx
  refine sound ok_M_nextWay [7] 20 ?_
  refine Smm.sub (loop (S 0 20 - 1) (S, f) ⟨by omega, Fr.rf _ _ _, hW, hb, by rw [show S 0 20 - 1 + 1 = S 0 20 by omega]⟩) ⟨Or.inr rfl, Or.inr (sI (by unfold i32; omega)), trivial⟩
/-- a loop over all ways of the reference: at its end the next way, or none -/
theorem t_M_nextW (S : St) (pre : List (Int → Int)) (f : Int → Int) (post : List (Int → Int)) (Q : Option AV → St → Prop) (h : mAs S) (hl : wyM S = pre ++ f :: post) (hW : ∀ i, 0 ≤ i → i < S 0 20 → S 21 i = f i)
    (h1 : ∀ f' post' S', post = f' :: post' → Fr [21, 22, 23, 24] [] S S' → Wy S' f' → Q (some (.inl 1)) S') (h0 : ∀ S', post = [] → Fr [21, 22, 23, 24] [] S S' → Q (some (.inl 0)) S') : Smm H_M_nextWay 0 [some (.inr (.inr 0)), none] [] S Q := by
  have hn := h.1.1.1
  have hx := wy_next (err := S 18) (S 0 20).toNat (fun i hi => (h.2.2 i (by omega) (by omega)).1) pre f post hl
  have hfm : f ∈ wyM S := by rw [hl]; exact List.mem_append_right _ List.mem_cons_self
  refine t_M_nextWay S f Q h hW (wyM_of h hfm) (fun f' hf' => ?_) (fun f' S' hf' hF hW' => ?_) (fun S' hf' hF => ?_)
  · rw [hx] at hf'
    cases post with
    | nil => cases hf'
    | cons a r =>
      have : a = f' := Option.some.inj hf'
      rw [hl, this]
      exact List.mem_append_right _ (List.mem_cons_of_mem _ List.mem_cons_self)
  · rw [hx] at hf'
    cases post with
    | nil => cases hf'
    | cons a r =>
      have : a = f' := Option.some.inj hf'
      subst this
      exact h1 a r S' rfl hF hW'
  · rw [hx] at hf'
    cases post with
    | nil => exact h0 S' rfl hF
    | cons a r => cases hf'
theorem Wy_b {S : St} (h : mAs S) {f : Int → Int} (hf : f ∈ wyM S) (hW : Wy S f) : ∀ g, 0 ≤ g → g < S 0 19 → S 23 g = 1000000 ∨ (-1000 ≤ S 23 g ∧ S 23 g ≤ 2000) := fun g h0 hg => by
  rw [hW.2.2 g h0 hg]
  have hk := h.1.2.1
  have := tnM_b h.1 (wyM_of h hf) h0 (by omega)
  omega
theorem Wy_ap {S : St} (h : mAs S) {f : Int → Int} (hW : Wy S f) : apF (S 0 21) (S 23) (S 0 19).toNat = apM S f := by
  have hk := h.1.2.1
  exact apF_congr (fun j h0 hj => hW.2.2 j h0 (by omega))
theorem wyM_len {S : St} (h : mAs S) : 1 ≤ (wyM S).length ∧ (wyM S).length ≤ 16807 := by
  have hn := h.1.1.1
  obtain ⟨h1, h2⟩ := wy_len (err := S 18) (S 0 20).toNat (fun j hj => h.2.2 j (by omega) (by omega))
  have h7 : 7 ^ (S 0 20).toNat ≤ 7 ^ 5 := Nat.pow_le_pow_right (by omega) (by omega)
  have h75 : 7 ^ 5 = 16807 := rfl
  exact ⟨h1, by unfold wyM; omega⟩
theorem Wy_sm {S S' : St} (h : Sm S S') (h1 : S' 21 = S 21) (h2 : S' 22 = S 22) (h3 : S' 23 = S 23) {f : Int → Int} (hW : Wy S f) : Wy S' f := by
  unfold Wy
  rw [smM_sm h, tnM_sm h, h1, h2, h3, h.1]
  exact hW
theorem t_M_openings (S : St) (Q : Option AV → St → Prop) (h : mAs S) (hQ : ∀ S', Fr [21, 22, 23, 24, 25] [] S S' → Q (some (.inl ((wyM S).countP (opM S)))) S') : Smm H_M_openings 0 [some (.inr (.inr 0)), none] [] S Q := by
  have hlen := wyM_len h
  have loop : ∀ (post pre : List (Int → Int)) (f : Int → Int) (q : St × Int), wyM S = pre ++ f :: post → (Fr [21, 22, 23, 24, 25] [] S q.1 ∧ Wy q.1 f ∧ q.2 = pre.countP (opM S)) → Smm H_M_openings 6 [some (.inr (.inr 0)), some (.inl q.2)] [] q.1 Q := by
    refine lp_wy (P := fun _ (q : St × Int) => Smm H_M_openings 6 [some (.inr (.inr 0)), some (.inl q.2)] [] q.1 Q) (fun pre f q => Fr [21, 22, 23, 24, 25] [] S q.1 ∧ Wy q.1 f ∧ q.2 = pre.countP (opM S)) ?_
    rintro pre f post ⟨S', a⟩ hl ⟨hF, hW, ha⟩ ih
    dsimp only at hF hW ha ⊢
    have hSm : Sm S S' := Sm.of hF rfl
    have hA := mAs_sm hSm h
    have hfm : f ∈ wyM S' := by rw [wyM_sm hSm, hl]; exact List.mem_append_right _ List.mem_cons_self
    have hcn := List.countP_le_length (p := opM S) (l := wyM S)
    have hcn2 : (wyM S).countP (opM S) = pre.countP (opM S) + (f :: post).countP (opM S) := by rw [hl, List.countP_append]
    have hcn3 := List.countP_cons (p := opM S) (a := f) (l := post)
    have next : ∀ (S2 : St) (b : Int), Fr [25] [] S' S2 → b = (pre ++ [f]).countP (opM S) → Smm H_M_openings 16 [some (.inr (.inr 0)), some (.inl b)] [] S2 Q := by
      intro S2 b hF2 hb
      have hSm2 : Sm S S2 := Sm.of (hF.tr (hF2.mo rfl rfl)) rfl
      refine sound ok_M_openings [6] 20 ?_
      refine t_M_nextW S2 pre f post _ (mAs_sm hSm2 h) (by rw [wyM_sm hSm2]; exact hl) (fun i i0 i1 => ?_) (fun f' post' S3 hp hF3 hW3 => ?_) (fun S3 hp hF3 => ?_)
      · rw [hF2.c 21 rfl]
        exact hW.1 i i0 (by rw [hSm2.1] at i1; rw [hSm.1]; exact i1)
      · refine ⟨fun _ => ?_, fun z => absurd z (by decide)⟩
        exact ih f' post' (S3, b) hp ⟨(hF.tr (hF2.mo rfl rfl)).tr (hF3.mo rfl rfl), hW3, hb⟩
      · refine ⟨fun z => absurd rfl z, fun _ => ?_⟩
        rw [hb, ← hp, ← hl]
        exact hQ S3 ((hF.tr (hF2.mo rfl rfl)).tr (hF3.mo rfl rfl))
    have hap := Wy_ap hA hW
    rw [apM_sm hSm] at hap
    refine sound ok_M_openings [16] 40 ?_
    refine t_M_doesOpen S' _ hA.1.2.1 ⟨hA.2.1.2.1, hA.2.1.2.2.1⟩ (Wy_b hA hfm hW) (fun S2 hF2 hop => ?_) (fun S2 hF2 hop => ?_)
    · refine ⟨fun z => absurd z (by decide), fun _ => ?_⟩
      refine next S2 _ hF2 ?_
      rw [hap, hSm.1] at hop
      have ho : opM S f = true := decide_eq_true hop
      rw [List.countP_append, List.countP_cons, ho, List.countP_nil, ha]
      simp only [if_true]
      unfold i32
      omega
    · refine ⟨fun _ => ?_, fun z => absurd rfl z⟩
      refine next S2 _ hF2 ?_
      rw [hap, hSm.1] at hop
      have ho : opM S f = false := decide_eq_false hop
      rw [List.countP_append, List.countP_cons, ho, List.countP_nil, ha]
      simp
  refine sound ok_M_openings [6] 20 ?_
  refine t_M_firstWay S _ h (fun S' hF hW => ?_)
  obtain ⟨r, hr⟩ := wy_first (err := S 18) (S 0 20).toNat (fun i hi => (h.2.2 i (by omega) (by have := h.1.1.1; omega)).1)
  exact loop r [] _ (S', 0) hr ⟨hF.mo rfl rfl, hW, rfl⟩
