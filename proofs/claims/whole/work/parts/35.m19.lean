/-! the reference: pair, sure, rest -/
theorem lp_g2 {σ : Type} {PO : Nat → σ → Prop} {PI : Nat → Nat → σ → Prop} (w v : Nat) (IO : Nat → σ → Prop) (II : Nat → Nat → σ → Prop)
    (hOx : ∀ s, IO w s → PO w s) (hOs : ∀ a s, a < w → IO a s → (∀ s', II a 0 s' → PI a 0 s') → PO a s)
    (hIx : ∀ a s, a < w → II a v s → (∀ s', IO (a + 1) s' → PO (a + 1) s') → PI a v s)
    (hIs : ∀ a b s, a < w → b < v → II a b s → (∀ s', II a (b + 1) s' → PI a (b + 1) s') → PI a b s) (s : σ) (h : IO 0 s) : PO 0 s := by
  have key : ∀ (d a : Nat) (s : σ), a + d = w → IO a s → PO a s := by
    intro d
    induction d with
    | zero => intro a s ha h; rw [show a = w by omega] at h ⊢; exact hOx s h
    | succ d ih =>
      intro a s ha h
      refine hOs a s (by omega) h (fun s' h' => ?_)
      have key2 : ∀ (e b : Nat) (s : σ), b + e = v → II a b s → PI a b s := by
        intro e
        induction e with
        | zero => intro b s hb h; rw [show b = v by omega] at h ⊢; exact hIx a s (by omega) h (fun s2 h2 => ih (a + 1) s2 (by omega) h2)
        | succ e ih2 => intro b s hb h; exact hIs a b s (by omega) (by omega) h (fun s2 h2 => ih2 (b + 1) s2 (by omega) h2)
      exact key2 v 0 s' (by omega) h'
  exact key w 0 s (by omega) h
/-- the lowest pair with most -/
def bpR (t : Int → Int) (a : Nat) : Nat → Int → Int
  | 0, r => r
  | b + 1, r => if t (bpR t a b r) < t (50 * a + b) then 50 * a + b else bpR t a b r
def bpA (t : Int → Int) (w : Nat) : Nat → Int
  | 0 => 0
  | a + 1 => bpR t a w (bpA t w a)
theorem bpR_b (t : Int → Int) {a : Nat} {r : Int} (hr : 0 ≤ r ∧ r < 2500) (ha : a < 50) : ∀ b : Nat, b ≤ 50 → 0 ≤ bpR t a b r ∧ bpR t a b r < 2500
  | 0, _ => hr
  | b + 1, hb => by
    have := bpR_b t hr ha b (by omega)
    rw [bpR]
    split <;> omega
theorem bpA_b (t : Int → Int) {w : Nat} (hw : w ≤ 50) : ∀ a : Nat, a ≤ 50 → 0 ≤ bpA t w a ∧ bpA t w a < 2500
  | 0, _ => by rw [bpA]; omega
  | a + 1, ha => bpR_b t (bpA_b t hw a (by omega)) (by omega) w hw
theorem bpR_congr {t t' : Int → Int} (h : ∀ k, 0 ≤ k → k < 2500 → t k = t' k) {a : Nat} (ha : a < 50) {r : Int} (hr : 0 ≤ r ∧ r < 2500) : ∀ b : Nat, b ≤ 50 → bpR t a b r = bpR t' a b r
  | 0, _ => rfl
  | b + 1, hb => by
    have h1 := bpR_b t' hr ha b (by omega)
    rw [bpR, bpR, bpR_congr h ha hr b (by omega), h _ h1.1 h1.2, h (50 * a + b) (by omega) (by omega)]
theorem bpA_congr {t t' : Int → Int} (h : ∀ k, 0 ≤ k → k < 2500 → t k = t' k) {w : Nat} (hw : w ≤ 50) : ∀ a : Nat, a ≤ 50 → bpA t w a = bpA t' w a
  | 0, _ => rfl
  | a + 1, ha => by rw [bpA, bpA, bpA_congr h hw a (by omega), bpR_congr h (by omega) (bpA_b t' hw a (by omega)) w hw]
def pwM (S : St) (one other k : Int) : Int := smL (wP (tl S) one other k) (wyM (tl S))
def pgM (S : St) (one other g k : Int) : Int := smL (wG (tl S) one other g k) (wyM (tl S))
def aM_pair (S : St) (one other what : Int) : Int := if ¬ (0 ≤ what ∧ what ≤ 1) ∨ ¬ prM S one other then -1 else
  if what = 0 then 100 * (bpA (pwM S one other) (10 * S 0 20).toNat (10 * S 0 20).toNat / 50) + bpA (pwM S one other) (10 * S 0 20).toNat (10 * S 0 20).toNat % 50 else pwM S one other (bpA (pwM S one other) (10 * S 0 20).toNat (10 * S 0 20).toNat)
theorem prM_lt {S : St} (hl0 : ldM S) : ∀ g, 0 ≤ g → g < tl S 0 19 → 0 ≤ tl S 7 g ∧ tl S 7 g ≤ 99 ∧ 0 ≤ tl S 8 g ∧ tl S 8 g ≤ 99 := fun g g0 g1 => by
  have p19 : tl S 0 19 = S 0 19 := tl_0 S (by decide) (by decide)
  have e7 : tl S 7 = S 7 := (tl_fr S).c _ rfl
  have e8 : tl S 8 = S 8 := (tl_fr S).c _ rfl
  rw [e7, e8]
  exact hl0.2.2.2.2.2.2 g g0 (by omega)
set_option maxHeartbeats 4000000 in
theorem t_M_pair (S : St) (one other what : Int) (Q : Option AV → St → Prop) (hL : ¬ S 0 18 = 0 → ldM S) (hp : plM S) (hQ : ∀ S', Fr [17, 18, 19, 20, 21, 22, 23, 24, 25, 26, 27, 28, 29, 31] [(0, 0), (0, 38)] S S' → Q (some (.inl (aM_pair S one other what))) S') : Smm H_M_pair 0 [some (.inr (.inr 0)), some (.inl one), some (.inl other), some (.inl what), none, none, none] [] S Q := by
  have no : ∀ S', Fr [17, 18, 19, 20, 21, 22, 23, 24, 25, 26, 27, 28, 29, 31] [(0, 0), (0, 38)] S S' → (¬ (0 ≤ what ∧ what ≤ 1) ∨ ¬ prM S one other) → Q (some (.inl (-1))) S' := fun S' hF hz => by
    have := hQ S' hF
    unfold aM_pair at this
    rwa [if_pos hz] at this
  refine sound ok_M_pair [24] 60 ?_
  refine t_M_isPart _ _ _ _ (fun h2 => ?_) (fun h2 => ⟨fun _ => no _ (th_fr S) (Or.inl h2), fun z => absurd rfl z⟩)
  refine ⟨fun z => absurd z (by decide), fun _ => ?_⟩
  refine t_M_isPair S one other _ hL hp (fun S' hF hz => ⟨fun z => absurd rfl z, fun _ => no S' hF (Or.inr hz)⟩) (fun hpr => ⟨fun _ => ?_, fun z => absurd z (by decide)⟩)
  have hl0 := hL hpr.1
  have hA := tl_mAs hl0 hp
  have hn5 := hl0.2.1
  have p19 : tl S 0 19 = S 0 19 := tl_0 S (by decide) (by decide)
  have p20 : tl S 0 20 = S 0 20 := tl_0 S (by decide) (by decide)
  refine sound ok_M_pair [36] 30 ?_
  refine t_M_talliesPairs (tl S) one other _ hA (by rw [p19]; exact hpr.2.1) (by rw [p19]; exact hpr.2.2.1) hpr.2.2.2.1 (prM_lt hl0) (fun T hF ht => ?_)
  obtain ⟨w, hw⟩ : ∃ w : Nat, 10 * S 0 20 = w := ⟨(10 * S 0 20).toNat, by omega⟩
  have hq := hQ T ((tl_fr S).tr (hF.mo rfl rfl))
  unfold aM_pair at hq
  have ht1 : ∀ k, 0 ≤ k → k < 2500 → T 27 k = pwM S one other k := fun k k0 k1 => (ht k k0 k1).1
  have hz : ¬ (¬ (0 ≤ what ∧ what ≤ 1) ∨ ¬ prM S one other) := fun z => z.elim (fun z => z h2) (fun z => z hpr)
  rw [if_neg hz, show (10 * S 0 20).toNat = w by omega, ← bpA_congr ht1 (w := w) (by omega) w (by omega)] at hq
  have hbb := bpA_b (T 27) (w := w) (by omega) w (by omega)
  have en : i32 (10 * T 0 20) = w := by rw [hF.c 0 rfl, p20, ← hw]; exact i32_id (by omega) (by omega)
  rw [← ht1 _ hbb.1 hbb.2] at hq
  generalize ht2 : T 27 = t at hq hbb
  refine Smm.sub (lp_g2 (σ := Option AV) (PO := fun a x => Smm H_M_pair 36 [some (.inr (.inr 0)), some (.inl one), some (.inl other), some (.inl what), some (.inl (bpA t w a)), some (.inl (a : Int)), x] [] T Q) (PI := fun a b _ => Smm H_M_pair 51 [some (.inr (.inr 0)), some (.inl one), some (.inl other), some (.inl what), some (.inl (bpR t a b (bpA t w a))), some (.inl (a : Int)), some (.inl (b : Int))] [] T Q) w w (fun _ _ => True) (fun _ _ _ => True) ?_ ?_ ?_ ?_ none trivial) ⟨Or.inr rfl, Or.inr rfl, Or.inr rfl, Or.inr rfl, Or.inr rfl, Or.inr rfl, Or.inl rfl, trivial⟩
  · rintro x -
    refine sound ok_M_pair [36] 60 ?_
    refine ⟨fun _ => ?_, fun h3 => absurd h3 (by rw [en]; omega)⟩
    generalize bpA t w w = q at hq hbb
    refine ⟨fun h4 => ?_, fun h4 => ?_⟩
    · rw [if_neg h4] at hq
      refine ⟨by omega, ?_⟩
      rw [ht2]
      exact hq
    · rw [if_pos h4] at hq
      refine ⟨by decide, ?_⟩
      refine ⟨by decide, ?_⟩
      have e1 : i32 (i32 (100 * idiv q 50) + irem q 50) = 100 * (q / 50) + q % 50 := by
        rw [idiv_pos hbb.1 (by omega) (by omega) (by omega), irem_pos hbb.1 (by omega) (by omega) (by omega), i32_id (v := 100 * (q / 50)) (by omega) (by omega), i32_id (by omega) (by omega)]
      rw [← e1] at hq
      exact hq
  · rintro a x ha - ih
    refine sound ok_M_pair [51] 30 ?_
    refine ⟨fun h3 => absurd h3 (by rw [en]; omega), fun _ => ?_⟩
    exact ih none trivial
  · rintro a x ha - ih
    refine sound ok_M_pair [36] 30 ?_
    refine ⟨fun _ => ?_, fun h3 => absurd h3 (by rw [en]; omega)⟩
    refine Smm.sub (ih none trivial) ⟨Or.inr rfl, Or.inr rfl, Or.inr rfl, Or.inr rfl, Or.inr rfl, Or.inr (sI ?_), Or.inl rfl, trivial⟩
    rw [i32_id (by omega) (by omega)]
    omega
  · rintro a b x ha hb - ih
    have hr := bpR_b t (bpA_b t (w := w) (by omega) a (by omega)) (show a < 50 by omega) b (by omega)
    have hw50 : w ≤ 50 := by omega
    have hkb := (gd_k ha hb hw50).2.2
    have ek := gd_i ha hb hw50
    have ih := ih none trivial
    rw [bpR] at ih
    refine sound ok_M_pair [51] 60 ?_
    refine ⟨fun h3 => absurd h3 (by rw [en]; exact Int.not_le.mpr (Int.ofNat_lt.mpr hb)), fun _ => ?_⟩
    refine ⟨by rw [ek]; exact hkb, ?_⟩
    refine ⟨hr, ?_⟩
    refine ⟨fun h3 => ?_, fun h3 => ?_⟩
    · rw [ht2, ek] at h3
      rw [if_neg (Int.not_lt.mpr h3)] at ih
      exact Smm.sub ih ⟨Or.inr rfl, Or.inr rfl, Or.inr rfl, Or.inr rfl, Or.inr rfl, Or.inr rfl, Or.inr (sI (gd_n hb (show w ≤ 50 by omega))), trivial⟩
    · rw [ht2, ek] at h3
      rw [if_pos h3] at ih
      exact Smm.sub ih ⟨Or.inr rfl, Or.inr rfl, Or.inr rfl, Or.inr rfl, Or.inr (sI ek.symm), Or.inr rfl, Or.inr (sI (gd_n hb (show w ≤ 50 by omega))), trivial⟩
/-- how many are just so -/
def ctF (t : Int → Int) (v : Int) : Nat → Int
  | 0 => 0
  | k + 1 => if t k = v then ctF t v k + 1 else ctF t v k
theorem ctF_b (t : Int → Int) (v : Int) : ∀ k : Nat, 0 ≤ ctF t v k ∧ ctF t v k ≤ k
  | 0 => by rw [ctF]; omega
  | k + 1 => by
    have := ctF_b t v k
    rw [ctF]
    split <;> omega
theorem ctF_congr {t t' : Int → Int} (v : Int) : ∀ k : Nat, (∀ j : Int, 0 ≤ j → j < k → t j = t' j) → ctF t v k = ctF t' v k
  | 0, _ => rfl
  | k + 1, h => by rw [ctF, ctF, ctF_congr v k (fun j j0 j1 => h j j0 (by omega)), h k (by omega) (by omega)]
def aM_sure (S : St) (one other : Int) : Int := if ¬ prM S one other then -1 else ctF (pwM S one other) (lenM (tl S)) 2500
theorem t_M_sure (S : St) (one other : Int) (Q : Option AV → St → Prop) (hL : ¬ S 0 18 = 0 → ldM S) (hp : plM S) (hQ : ∀ S', Fr [17, 18, 19, 20, 21, 22, 23, 24, 25, 26, 27, 28, 29, 31] [(0, 0), (0, 38)] S S' → Q (some (.inl (aM_sure S one other))) S') : Smm H_M_sure 0 [some (.inr (.inr 0)), some (.inl one), some (.inl other), none, none, none] [] S Q := by
  have no : ∀ S', Fr [17, 18, 19, 20, 21, 22, 23, 24, 25, 26, 27, 28, 29, 31] [(0, 0), (0, 38)] S S' → ¬ prM S one other → Q (some (.inl (-1))) S' := fun S' hF hz => by
    have := hQ S' hF
    unfold aM_sure at this
    rwa [if_pos hz] at this
  refine sound ok_M_sure [16] 60 ?_
  refine t_M_isPair S one other _ hL hp (fun S' hF hz => ⟨fun z => absurd rfl z, fun _ => no S' hF hz⟩) (fun hpr => ⟨fun _ => ?_, fun z => absurd z (by decide)⟩)
  have hl0 := hL hpr.1
  have hA := tl_mAs hl0 hp
  have p19 : tl S 0 19 = S 0 19 := tl_0 S (by decide) (by decide)
  refine sound ok_M_sure [33] 30 ?_
  refine t_M_talliesPairs (tl S) one other _ hA (by rw [p19]; exact hpr.2.1) (by rw [p19]; exact hpr.2.2.1) hpr.2.2.2.1 (prM_lt hl0) (fun T hF ht => ?_)
  have hSm : Sm (tl S) T := Sm.of hF rfl
  refine t_M_allWays T _ (mAs_sm hSm hA) ?_
  have hq := hQ T ((tl_fr S).tr (hF.mo rfl rfl))
  unfold aM_sure at hq
  rw [if_neg (fun z => z hpr), ← ctF_congr (t := T 27) (t' := pwM S one other) _ 2500 (fun k k0 k1 => (ht k k0 (by omega)).1)] at hq
  rw [show ((wyM T).length : Int) = lenM (tl S) by rw [wyM_sm hSm]; rfl]
  generalize lenM (tl S) = v at hq
  have loop : ∀ (i : Int) (_ : Unit), (0 ≤ i ∧ i ≤ 2500) → Smm H_M_sure 33 [some (.inr (.inr 0)), some (.inl one), some (.inl other), some (.inl v), some (.inl (ctF (T 27) v i.toNat)), some (.inl i)] [] T Q := by
    refine lp_up (P := fun i _ => Smm H_M_sure 33 [some (.inr (.inr 0)), some (.inl one), some (.inl other), some (.inl v), some (.inl (ctF (T 27) v i.toNat)), some (.inl i)] [] T Q) (fun i _ => 0 ≤ i ∧ i ≤ 2500) 2500 ?_ ?_
    · rintro i - hi hi2
      refine sound ok_M_sure [33] 30 ?_
      refine ⟨fun _ => ?_, fun h3 => absurd h3 (by omega)⟩
      rw [show i.toNat = 2500 by omega]
      exact hq
    · rintro i - hi hi2 ih
      obtain ⟨k, rfl⟩ : ∃ k : Nat, i = k := ⟨i.toNat, by omega⟩
      have ih := ih () (by omega)
      rw [show ((k : Int) + 1).toNat = k + 1 by omega, ctF] at ih
      rw [show ((k : Int)).toNat = k by omega]
      have hb := ctF_b (T 27) v k
      refine sound ok_M_sure [33] 40 ?_
      refine ⟨fun h3 => absurd h3 (by omega), fun _ => ?_⟩
      refine ⟨by omega, ?_⟩
      refine ⟨fun h3 => ?_, fun h3 => ?_⟩
      · rw [if_neg h3] at ih
        exact Smm.sub ih ⟨Or.inr rfl, Or.inr rfl, Or.inr rfl, Or.inr rfl, Or.inr rfl, Or.inr (sI (i32_id (by omega) (by omega)).symm), trivial⟩
      · rw [if_pos h3] at ih
        exact Smm.sub ih ⟨Or.inr rfl, Or.inr rfl, Or.inr rfl, Or.inr rfl, Or.inr (sI (i32_id (by omega) (by omega)).symm), Or.inr (sI (i32_id (by omega) (by omega)).symm), trivial⟩
  exact loop 0 () (by omega)
/-- a pair by which neither has more alone -/
def rsP (u v : Int → Int) (w : Nat) (a b : Int) : Prop := ∀ k : Int, 0 ≤ k → k < w → u (50 * k + b) ≤ u (50 * a + b) ∧ v (50 * a + k) ≤ v (50 * a + b)
theorem t_M_isRest (T : St) (a b w : Nat) (Q : Option AV → St → Prop) (hn : 1 ≤ T 0 20 ∧ T 0 20 ≤ 5) (hw : 10 * T 0 20 = w) (ha : a < w) (hb : b < w) (h1 : rsP (T 28) (T 29) w a b → Q (some (.inl 1)) T) (h0 : ¬ rsP (T 28) (T 29) w a b → Q (some (.inl 0)) T) : Smm H_M_isRest 0 [some (.inr (.inr 0)), some (.inl (a : Int)), some (.inl (b : Int)), none] [] T Q := by
  have hw50 : w ≤ 50 := by omega
  have en : i32 (10 * T 0 20) = w := by rw [hw]; exact i32_id (by omega) (by omega)
  have loop : ∀ (i : Int) (_ : Unit), ((0 ≤ i ∧ i ≤ w) ∧ ∀ k : Int, 0 ≤ k → k < i → T 28 (50 * k + b) ≤ T 28 (50 * a + b) ∧ T 29 (50 * a + k) ≤ T 29 (50 * a + b)) → Smm H_M_isRest 2 [some (.inr (.inr 0)), some (.inl (a : Int)), some (.inl (b : Int)), some (.inl i)] [] T Q := by
    refine lp_up (P := fun i _ => Smm H_M_isRest 2 [some (.inr (.inr 0)), some (.inl (a : Int)), some (.inl (b : Int)), some (.inl i)] [] T Q) _ w ?_ ?_
    · rintro i - hi ⟨hi2, hI⟩
      refine sound ok_M_isRest [2] 30 ?_
      refine ⟨fun _ => ⟨Or.inr rfl, h1 (fun k k0 k1 => hI k k0 (by omega))⟩, fun h3 => absurd h3 (by rw [en]; omega)⟩
    · rintro i - hi ⟨hi2, hI⟩ ih
      obtain ⟨k, rfl⟩ : ∃ k : Nat, i = k := ⟨i.toNat, by omega⟩
      have hk : k < w := by omega
      have ekb := gd_i hk hb hw50
      have eab := gd_i ha hb hw50
      have eak := gd_i ha hk hw50
      refine sound ok_M_isRest [2] 60 ?_
      refine ⟨fun h3 => absurd h3 (by rw [en]; omega), fun _ => ?_⟩
      refine ⟨by rw [ekb]; omega, ?_⟩
      refine ⟨by rw [eab]; omega, ?_⟩
      refine ⟨fun h3 => ⟨Or.inl rfl, h0 (fun z => ?_)⟩, fun h3 => ?_⟩
      · rw [ekb, eab] at h3
        have := (z k (by omega) (by omega)).1
        omega
      · rw [ekb, eab] at h3
        refine ⟨by rw [eak]; omega, ?_⟩
        refine ⟨by rw [eab]; omega, ?_⟩
        refine ⟨fun h4 => ?_, fun h4 => ⟨Or.inl rfl, h0 (fun z => ?_)⟩⟩
        · rw [eak, eab] at h4
          refine Smm.sub (ih () ⟨by omega, fun j j0 j1 => ?_⟩) ⟨Or.inr rfl, Or.inr rfl, Or.inr rfl, Or.inr (sI (i32_id (by omega) (by omega)).symm), trivial⟩
          by_cases hj : j = k
          · rw [hj]; exact ⟨h3, h4⟩
          · exact hI j j0 (by omega)
        · rw [eak, eab] at h4
          have := (z k (by omega) (by omega)).2
          omega
  refine sound ok_M_isRest [2] 30 ?_
  exact loop 0 () ⟨by omega, fun k k0 k1 => absurd k1 (by omega)⟩
/-- the i-th in a grid, and how many there are -/
def srS (p : Bool) (i v : Int) (q : Int × Int) : Int × Int := if 0 ≤ q.2 then q else if p then (if q.1 = i then (q.1, v) else (q.1 + 1, q.2)) else q
def srR (p : Nat → Nat → Bool) (i : Int) (a : Nat) : Nat → Int × Int → Int × Int
  | 0, q => q
  | b + 1, q => srS (p a b) i (100 * a + b) (srR p i a b q)
def srA (p : Nat → Nat → Bool) (i : Int) (w : Nat) : Nat → Int × Int
  | 0 => (0, -1)
  | a + 1 => srR p i a w (srA p i w a)
theorem srS_f (p : Bool) (i v : Int) {q : Int × Int} (h : 0 ≤ q.2) : srS p i v q = q := by unfold srS; rw [if_pos h]
theorem srR_f (p : Nat → Nat → Bool) (i : Int) (a : Nat) {q : Int × Int} (h : 0 ≤ q.2) : ∀ b, srR p i a b q = q
  | 0 => rfl
  | b + 1 => by rw [srR, srR_f p i a h b, srS_f _ _ _ h]
theorem srR_e (p : Nat → Nat → Bool) (i : Int) (a : Nat) (q : Int × Int) {b : Nat} (h : 0 ≤ (srR p i a b q).2) : ∀ d, srR p i a (b + d) q = srR p i a b q
  | 0 => rfl
  | d + 1 => by rw [show b + (d + 1) = (b + d) + 1 by omega, srR, srR_e p i a q h d, srS_f _ _ _ h]
theorem srA_e (p : Nat → Nat → Bool) (i : Int) (w : Nat) {a : Nat} (h : 0 ≤ (srA p i w a).2) : ∀ d, srA p i w (a + d) = srA p i w a
  | 0 => rfl
  | d + 1 => by rw [show a + (d + 1) = (a + d) + 1 by omega, srA, srA_e p i w h d, srR_f _ _ _ h]
/-- where it was found it stays found -/
theorem srA_at (p : Nat → Nat → Bool) (i : Int) {w a b : Nat} (ha : a < w) (hb : b ≤ w) (h : 0 ≤ (srR p i a b (srA p i w a)).2) : srA p i w w = srR p i a b (srA p i w a) := by
  have h1 := srR_e p i a (srA p i w a) h (w - b)
  rw [show b + (w - b) = w by omega] at h1
  have h2 : srA p i w (a + 1) = srR p i a b (srA p i w a) := by rw [srA, h1]
  have h3 := srA_e p i w (a := a + 1) (by rw [h2]; exact h) (w - (a + 1))
  rw [show a + 1 + (w - (a + 1)) = w by omega] at h3
  rw [h3, h2]
theorem srR_congr {p p' : Nat → Nat → Bool} (i : Int) (a : Nat) (q : Int × Int) : ∀ b, (∀ c, c < b → p a c = p' a c) → srR p i a b q = srR p' i a b q
  | 0, _ => rfl
  | b + 1, h => by rw [srR, srR, srR_congr i a q b (fun c hc => h c (by omega)), h b (by omega)]
theorem srA_congr {p p' : Nat → Nat → Bool} (i : Int) (w : Nat) : ∀ a, (∀ c d, c < a → d < w → p c d = p' c d) → srA p i w a = srA p' i w a
  | 0, _ => rfl
  | a + 1, h => by rw [srA, srA, srA_congr i w a (fun c d hc hd => h c d (by omega) hd), srR_congr i a _ w (fun d hd => h a d (by omega) hd)]
theorem srS_b (p : Bool) (i v : Int) {q : Int × Int} {n : Int} (h : 0 ≤ q.1 ∧ q.1 ≤ n ∧ -1 ≤ q.2) (hv : 0 ≤ v) : 0 ≤ (srS p i v q).1 ∧ (srS p i v q).1 ≤ n + 1 ∧ -1 ≤ (srS p i v q).2 := by
  unfold srS
  split
  · omega
  · split
    · split
      · exact ⟨h.1, by omega, by show -1 ≤ v; omega⟩
      · exact ⟨by show 0 ≤ q.1 + 1; omega, by show q.1 + 1 ≤ n + 1; omega, h.2.2⟩
    · omega
theorem srR_b (p : Nat → Nat → Bool) (i : Int) (a : Nat) {q : Int × Int} {n : Int} (h : 0 ≤ q.1 ∧ q.1 ≤ n ∧ -1 ≤ q.2) : ∀ b : Nat, 0 ≤ (srR p i a b q).1 ∧ (srR p i a b q).1 ≤ n + b ∧ -1 ≤ (srR p i a b q).2
  | 0 => by rw [srR]; simpa using h
  | b + 1 => by
    have := srS_b (p a b) i (100 * a + b) (srR_b p i a h b) (by omega)
    rw [srR]
    omega
theorem srA_b (p : Nat → Nat → Bool) (i : Int) {w : Nat} (hw : w ≤ 50) : ∀ a : Nat, 0 ≤ (srA p i w a).1 ∧ (srA p i w a).1 ≤ 50 * a ∧ -1 ≤ (srA p i w a).2
  | 0 => by rw [srA]; exact ⟨by decide, by decide, by decide⟩
  | a + 1 => by
    have := srR_b p i a (srA_b p i hw a) w
    rw [srA]
    omega
def anS (i : Int) (q : Int × Int) : Int := if 0 ≤ q.2 then q.2 else if i = -1 then q.1 else -1
noncomputable def rsB (u v : Int → Int) (w a b : Nat) : Bool := @decide (rsP u v w a b) (Classical.propDecidable _)
theorem rsB_t {u v : Int → Int} {w a b : Nat} (h : rsP u v w a b) : rsB u v w a b = true := @decide_eq_true _ (Classical.propDecidable _) h
theorem rsB_f {u v : Int → Int} {w a b : Nat} (h : ¬ rsP u v w a b) : rsB u v w a b = false := @decide_eq_false _ (Classical.propDecidable _) h
theorem rsP_congr {u v u' v' : Int → Int} {w a b : Nat} (hw : w ≤ 50) (ha : a < w) (hb : b < w) (h : ∀ k, 0 ≤ k → k < 2500 → u k = u' k ∧ v k = v' k) : rsP u v w a b ↔ rsP u' v' w a b := by
  have e1 := h (50 * a + b) (by omega) (by omega)
  constructor
  · intro z k k0 k1
    have := z k k0 k1
    rwa [(h (50 * k + b) (by omega) (by omega)).1, (h (50 * a + k) (by omega) (by omega)).2, e1.1, e1.2] at this
  · intro z k k0 k1
    have := z k k0 k1
    rwa [← (h (50 * k + b) (by omega) (by omega)).1, ← (h (50 * a + k) (by omega) (by omega)).2, ← e1.1, ← e1.2] at this
theorem rsB_congr {u v u' v' : Int → Int} {w a b : Nat} (hw : w ≤ 50) (ha : a < w) (hb : b < w) (h : ∀ k, 0 ≤ k → k < 2500 → u k = u' k ∧ v k = v' k) : rsB u v w a b = rsB u' v' w a b := by
  by_cases z : rsP u v w a b
  · rw [rsB_t z, rsB_t ((rsP_congr hw ha hb h).mp z)]
  · rw [rsB_f z, rsB_f (fun y => z ((rsP_congr hw ha hb h).mpr y))]
noncomputable def aM_rest (S : St) (one other i : Int) : Int := if i < -1 ∨ ¬ prM S one other then -1 else anS i (srA (rsB (pgM S one other one) (pgM S one other other) (10 * S 0 20).toNat) i (10 * S 0 20).toNat (10 * S 0 20).toNat)
set_option maxHeartbeats 4000000 in
theorem t_M_rest (S : St) (one other i : Int) (Q : Option AV → St → Prop) (hL : ¬ S 0 18 = 0 → ldM S) (hp : plM S) (hQ : ∀ S', Fr [17, 18, 19, 20, 21, 22, 23, 24, 25, 26, 27, 28, 29, 31] [(0, 0), (0, 38)] S S' → Q (some (.inl (aM_rest S one other i))) S') : Smm H_M_rest 0 [some (.inr (.inr 0)), some (.inl one), some (.inl other), some (.inl i), none, none, none] [] S Q := by
  have no : ∀ S', Fr [17, 18, 19, 20, 21, 22, 23, 24, 25, 26, 27, 28, 29, 31] [(0, 0), (0, 38)] S S' → (i < -1 ∨ ¬ prM S one other) → Q (some (.inl (-1))) S' := fun S' hF hz => by
    have := hQ S' hF
    unfold aM_rest at this
    rwa [if_pos hz] at this
  refine sound ok_M_rest [21] 60 ?_
  refine ⟨fun h2 => no _ (th_fr S) (Or.inl h2), fun h2 => ?_⟩
  refine t_M_isPair S one other _ hL hp (fun S' hF hz => ⟨fun z => absurd rfl z, fun _ => no S' hF (Or.inr hz)⟩) (fun hpr => ⟨fun _ => ?_, fun z => absurd z (by decide)⟩)
  have hl0 := hL hpr.1
  have hA := tl_mAs hl0 hp
  have hn5 := hl0.2.1
  have p19 : tl S 0 19 = S 0 19 := tl_0 S (by decide) (by decide)
  have p20 : tl S 0 20 = S 0 20 := tl_0 S (by decide) (by decide)
  refine sound ok_M_rest [33] 30 ?_
  refine t_M_talliesPairs (tl S) one other _ hA (by rw [p19]; exact hpr.2.1) (by rw [p19]; exact hpr.2.2.1) hpr.2.2.2.1 (prM_lt hl0) (fun T hF ht => ?_)
  obtain ⟨w, hw⟩ : ∃ w : Nat, 10 * S 0 20 = w := ⟨(10 * S 0 20).toNat, by omega⟩
  have hw50 : w ≤ 50 := by omega
  have hq := hQ T ((tl_fr S).tr (hF.mo rfl rfl))
  unfold aM_rest at hq
  have q20 : T 0 20 = S 0 20 := by rw [hF.c 0 rfl, p20]
  have en : i32 (10 * T 0 20) = w := by rw [q20, hw]; exact i32_id (by omega) (by omega)
  have hz : ¬ (i < -1 ∨ ¬ prM S one other) := fun z => z.elim (fun z => absurd z (by omega)) (fun z => z hpr)
  have ec : srA (rsB (pgM S one other one) (pgM S one other other) w) i w w = srA (rsB (T 28) (T 29) w) i w w := srA_congr i w w (fun a b ha hb => rsB_congr hw50 ha hb (fun k k0 k1 => ⟨(ht k k0 k1).2.1.symm, (ht k k0 k1).2.2.symm⟩))
  rw [if_neg hz, show (10 * S 0 20).toNat = w by omega, ec] at hq
  generalize hpp : rsB (T 28) (T 29) w = p at hq
  refine Smm.sub (lp_g2 (σ := Option AV) (PO := fun a x => Smm H_M_rest 33 [some (.inr (.inr 0)), some (.inl one), some (.inl other), some (.inl i), some (.inl (srA p i w a).1), some (.inl (a : Int)), x] [] T Q) (PI := fun a b _ => Smm H_M_rest 48 [some (.inr (.inr 0)), some (.inl one), some (.inl other), some (.inl i), some (.inl (srR p i a b (srA p i w a)).1), some (.inl (a : Int)), some (.inl (b : Int))] [] T Q) w w (fun a _ => (srA p i w a).2 < 0) (fun a b _ => (srR p i a b (srA p i w a)).2 < 0) ?_ ?_ ?_ ?_ none (by rw [srA]; decide)) ⟨Or.inr rfl, Or.inr rfl, Or.inr rfl, Or.inr rfl, Or.inr rfl, Or.inr rfl, Or.inl rfl, trivial⟩
  · rintro x hx
    unfold anS at hq
    rw [if_neg (by omega)] at hq
    refine sound ok_M_rest [33] 60 ?_
    refine ⟨fun _ => ?_, fun h3 => absurd h3 (by rw [en]; omega)⟩
    refine ⟨fun h4 => ?_, fun h4 => ?_⟩
    · rw [if_neg h4] at hq
      exact hq
    · rw [if_pos h4] at hq
      exact hq
  · rintro a x ha hx ih
    refine sound ok_M_rest [48] 30 ?_
    refine ⟨fun h3 => absurd h3 (by rw [en]; omega), fun _ => ?_⟩
    exact ih none hx
  · rintro a x ha hx ih
    refine sound ok_M_rest [33] 30 ?_
    refine ⟨fun _ => ?_, fun h3 => absurd h3 (by rw [en]; omega)⟩
    refine Smm.sub (ih none hx) ⟨Or.inr rfl, Or.inr rfl, Or.inr rfl, Or.inr rfl, Or.inr rfl, Or.inr (sI ?_), Or.inl rfl, trivial⟩
    rw [i32_id (by omega) (by omega)]
    omega
  · rintro a b x ha hb hx ih
    have hbd := srR_b p i a (srA_b p i hw50 a) b
    have hst : srR p i a (b + 1) (srA p i w a) = srS (p a b) i (100 * a + b) (srR p i a b (srA p i w a)) := rfl
    have hat := srA_at p i (w := w) (a := a) (b := b + 1) ha (by omega)
    have ih := ih none
    rw [hst] at hat ih
    generalize srR p i a b (srA p i w a) = q at hbd hat ih hx
    unfold srS at hat ih
    rw [if_neg (by omega)] at hat ih
    refine sound ok_M_rest [48] 60 ?_
    refine ⟨fun h3 => absurd h3 (by rw [en]; omega), fun _ => ?_⟩
    refine t_M_isRest T a b w _ (by omega) (by omega) ha hb (fun hr => ?_) (fun hr => ?_)
    · have hp1 : p a b = true := by rw [← hpp]; exact rsB_t hr
      rw [if_pos hp1] at hat ih
      refine ⟨fun _ => ?_, fun z => absurd z (by decide)⟩
      refine ⟨fun h4 => ?_, fun h4 => ?_⟩
      · rw [if_neg h4] at ih
        exact Smm.sub (ih hx) ⟨Or.inr rfl, Or.inr rfl, Or.inr rfl, Or.inr rfl, Or.inr (sI (i32_id (by omega) (by omega)).symm), Or.inr rfl, Or.inr (sI (gd_n hb hw50)), trivial⟩
      · rw [if_pos h4] at hat
        have hat := hat (show (0 : Int) ≤ 100 * (a : Int) + b by omega)
        rw [hat] at hq
        unfold anS at hq
        rw [if_pos (show (0 : Int) ≤ 100 * (a : Int) + b by omega)] at hq
        have e1 : i32 (i32 (100 * (a : Int)) + b) = 100 * a + b := by rw [i32_id (v := 100 * (a : Int)) (by omega) (by omega), i32_id (by omega) (by omega)]
        rw [← e1] at hq
        exact hq
    · have hp1 : p a b = false := by rw [← hpp]; exact rsB_f hr
      rw [if_neg (by rw [hp1]; decide)] at ih
      refine ⟨fun z => absurd rfl z, fun _ => ?_⟩
      exact Smm.sub (ih hx) ⟨Or.inr rfl, Or.inr rfl, Or.inr rfl, Or.inr rfl, Or.inr rfl, Or.inr rfl, Or.inr (sI (gd_n hb hw50)), trivial⟩
