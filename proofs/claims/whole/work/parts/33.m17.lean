/-! the reference: pairs -/
/-- places of a grid, row by row, that are still to come -/
def rmR (a : Nat) : Nat → Nat → List (Nat × Nat)
  | 0, _ => []
  | d + 1, b => (a, b) :: rmR a d (b + 1)
def rmA (w : Nat) : Nat → Nat → List (Nat × Nat)
  | 0, _ => []
  | d + 1, a => rmR a w 0 ++ rmA w d (a + 1)
theorem lp_gd {σ : Type} {PO : Nat → σ → Prop} {PI : Nat → Nat → σ → Prop} (w : Nat) (IO : Nat → List (Nat × Nat) → σ → Prop) (II : Nat → Nat → List (Nat × Nat) → σ → Prop)
    (hOx : ∀ s, IO w [] s → PO w s) (hOs : ∀ a s rem, a < w → IO a rem s → (∀ s', II a 0 rem s' → PI a 0 s') → PO a s)
    (hIx : ∀ a s rem, a < w → II a w rem s → (∀ s', IO (a + 1) rem s' → PO (a + 1) s') → PI a w s)
    (hIs : ∀ a b s rem, a < w → b < w → II a b ((a, b) :: rem) s → (∀ s', II a (b + 1) rem s' → PI a (b + 1) s') → PI a b s) (s : σ) (h : IO 0 (rmA w w 0) s) : PO 0 s := by
  have key : ∀ (d a : Nat) (s : σ), a + d = w → IO a (rmA w d a) s → PO a s := by
    intro d
    induction d with
    | zero =>
      intro a s ha h
      rw [show a = w by omega] at h ⊢
      exact hOx s h
    | succ d ih =>
      intro a s ha h
      refine hOs a s _ (by omega) h (fun s' h' => ?_)
      rw [rmA] at h'
      have inner : ∀ (e b : Nat) (s : σ), b + e = w → II a b (rmR a e b ++ rmA w d (a + 1)) s → PI a b s := by
        intro e
        induction e with
        | zero =>
          intro b s hb h
          rw [show b = w by omega] at h ⊢
          exact hIx a s _ (by omega) h (fun s' h' => ih (a + 1) s' (by omega) h')
        | succ e ihe =>
          intro b s hb h
          exact hIs a b s _ (by omega) (by omega) h (fun s' h' => ihe (b + 1) s' (by omega) h')
      exact inner w 0 s' (by omega) h'
  exact key w 0 s (by omega) h
/-- a sum over ways -/
def smL (g : (Int → Int) → Int) : List (Int → Int) → Int
  | [] => 0
  | f :: l => g f + smL g l
theorem smL_app (g : (Int → Int) → Int) : ∀ (l l' : List (Int → Int)), smL g (l ++ l') = smL g l + smL g l'
  | [], l' => by rw [List.nil_append, smL]; omega
  | f :: l, l' => by rw [List.cons_append, smL, smL, smL_app g l l']; omega
theorem smL_b {g : (Int → Int) → Int} {c : Int} (h : ∀ f, 0 ≤ g f ∧ g f ≤ c) : ∀ l : List (Int → Int), 0 ≤ smL g l ∧ smL g l ≤ c * l.length
  | [] => by rw [smL]; simp
  | f :: l => by
    have h1 := h f
    have h2 := smL_b h l
    rw [smL, List.length_cons]
    constructor
    · omega
    · have : c * ((l.length + 1 : Nat) : Int) = c * l.length + c := by rw [Int.natCast_add, Int.mul_add]; simp
      omega
/-- sums in a row: of the ways ahead, and of this one up to place i -/
def tsI (w : Int → (Int → Int) → Int) (pre : List (Int → Int)) (f : Int → Int) (i N : Int) (t : Int → Int) : Prop := ∀ k, 0 ≤ k → k < N → t k = smL (w k) pre + if k < i then w k f else 0
theorem ts_add {w : Int → (Int → Int) → Int} {pre : List (Int → Int)} {f : Int → Int} {i N : Int} {t : Int → Int} (h : tsI w pre f i N t) {x : Int} (hx : x = t i + w i f) : tsI w pre f (i + 1) N (uf t i x) := by
  intro k k0 k1
  have hk := h k k0 k1
  by_cases hz : k = i
  · subst hz
    rw [uf_s, hx, hk, if_neg (by omega), if_pos (by omega)]
    omega
  · rw [uf_n _ _ hz, hk]
    by_cases hi : k < i
    · rw [if_pos hi, if_pos (by omega)]
    · rw [if_neg hi, if_neg (by omega)]
theorem ts_no {w : Int → (Int → Int) → Int} {pre : List (Int → Int)} {f : Int → Int} {i N : Int} {t : Int → Int} (h : tsI w pre f i N t) (hx : w i f = 0) : tsI w pre f (i + 1) N t := by
  intro k k0 k1
  rw [h k k0 k1]
  by_cases hz : k = i
  · subst hz
    rw [if_neg (by omega), if_pos (by omega), hx]
  · by_cases hi : k < i
    · rw [if_pos hi, if_pos (by omega)]
    · rw [if_neg hi, if_neg (by omega)]
theorem ts_jump {w : Int → (Int → Int) → Int} {pre : List (Int → Int)} {f : Int → Int} {i j N : Int} {t : Int → Int} (h : tsI w pre f i N t) (hij : i ≤ j) (hz : ∀ k, i ≤ k → k < j → w k f = 0) : tsI w pre f j N t := by
  intro k k0 k1
  rw [h k k0 k1]
  by_cases hk : k < i
  · rw [if_pos hk, if_pos (by omega)]
  · rw [if_neg hk]
    by_cases hj : k < j
    · rw [if_pos hj, hz k (by omega) hj]
    · rw [if_neg hj]
theorem ts_next {w : Int → (Int → Int) → Int} {pre : List (Int → Int)} {f : Int → Int} {i N : Int} {t : Int → Int} (h : tsI w pre f i N t) (hi : N ≤ i) (f' : Int → Int) : tsI w (pre ++ [f]) f' 0 N t := by
  intro k k0 k1
  rw [h k k0 k1, if_pos (by omega), if_neg (by omega), smL_app, smL, smL]
  omega
theorem ts_b {w : Int → (Int → Int) → Int} {pre : List (Int → Int)} {f : Int → Int} {i N c : Int} {t : Int → Int} (h : tsI w pre f i N t) (hw : ∀ k f, 0 ≤ w k f ∧ w k f ≤ c) {k : Int} (h0 : 0 ≤ k) (h1 : k < N) : 0 ≤ t k ∧ t k ≤ c * pre.length + c := by
  rw [h k h0 h1]
  have := smL_b (hw k) pre
  have := hw k f
  split <;> omega
/-- the turn of a guard by its simple plan a -/
def vsM (T : St) (f : Int → Int) (g a : Int) : Int := plN (hdM (T 19) (smM T f) g (a / 10)) (a % 10)
/-- the turns, if two guards have simple plans -/
def t2M (T : St) (f : Int → Int) (one other a b : Int) : Int → Int := uf (uf (tnM T (smM T f)) one (vsM T f one a)) other (vsM T f other b)
def op2 (T : St) (f : Int → Int) (one other a b : Int) : Bool := decide (apF (T 0 21) (t2M T f one other a b) (T 0 19).toNat ≤ T 0 22)
def ft2 (T : St) (f : Int → Int) (one other a b : Int) : Int := ftF (t2M T f one other a b) (T 0 19).toNat
def vlK (w k : Int) : Prop := k / 50 < w ∧ k % 50 < w
def wP (T : St) (one other k : Int) (f : Int → Int) : Int := if k / 50 < 10 * T 0 20 ∧ k % 50 < 10 * T 0 20 then (if op2 T f one other (k / 50) (k % 50) then 1 else 0) else 0
/-- what guard g (one of them) has of it -/
def wG (T : St) (one other g k : Int) (f : Int → Int) : Int := if k / 50 < 10 * T 0 20 ∧ k % 50 < 10 * T 0 20 then (if op2 T f one other (k / 50) (k % 50) then T 7 g else if ft2 T f one other (k / 50) (k % 50) = g then T 8 g else 0) else 0
abbrev prM (S : St) (one other : Int) : Prop := ¬ S 0 18 = 0 ∧ (0 ≤ one ∧ one < S 0 19) ∧ (0 ≤ other ∧ other < S 0 19) ∧ ¬ one = other ∧ lenM (tl S) ≤ 400
theorem t_M_isPair (S : St) (one other : Int) (Q : Option AV → St → Prop) (hL : ¬ S 0 18 = 0 → ldM S) (hp : plM S) (h0 : ∀ S', Fr [17, 18, 19, 20, 21, 22, 23, 24, 25, 26, 27, 28, 29, 31] [(0, 0), (0, 38)] S S' → ¬ prM S one other → Q (some (.inl 0)) S') (h1 : prM S one other → Q (some (.inl 1)) (tl S)) : Smm H_M_isPair 0 [some (.inr (.inr 0)), some (.inl one), some (.inl other)] [] (th S) Q := by
  have e18 : th S 0 18 = S 0 18 := th_0 S (by decide)
  have e19 : th S 0 19 = S 0 19 := th_0 S (by decide)
  refine sound ok_M_isPair [] 60 ?_
  refine t_M_isGuard (th S) one _ (fun g1 => ?_) (fun g1 => ?_)
  · rw [e18, e19] at g1
    refine ⟨fun z => absurd z (by decide), fun _ => ?_⟩
    refine t_M_isGuard (th S) other _ (fun g2 => ?_) (fun g2 => ?_)
    · rw [e18, e19] at g2
      refine ⟨fun z => absurd z (by decide), fun _ => ?_⟩
      refine ⟨fun h3 => ?_, fun h3 => ⟨Or.inl rfl, h0 _ (th_fr S) (fun z => z.2.2.2.1 h3)⟩⟩
      have hl0 := hL g1.1
      have hA := tl_mAs hl0 hp
      refine t_M_asTold (th S) _ (by rw [th_0 S (by decide)]; have := hl0.2.1; omega) (by rw [th_0 S (by decide)]; have := hl0.1; omega) ?_
      refine t_M_allWays (tl S) _ hA ?_
      refine ⟨fun h4 => ⟨Or.inl rfl, h0 _ (tl_fr S) (fun z => ?_)⟩, fun h4 => ⟨Or.inr rfl, h1 ⟨g1.1, g1.2, g2.2, h3, h4⟩⟩⟩
      have := z.2.2.2.2
      unfold lenM at this
      omega
    · rw [e18, e19] at g2
      exact ⟨fun _ => ⟨Or.inl rfl, h0 _ (th_fr S) (fun z => g2 ⟨z.1, z.2.2.1⟩)⟩, fun z => absurd rfl z⟩
  · rw [e18, e19] at g1
    exact ⟨fun _ => ⟨Or.inl rfl, h0 _ (th_fr S) (fun z => g1 ⟨z.1, z.2.1⟩)⟩, fun z => absurd rfl z⟩
