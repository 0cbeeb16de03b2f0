/-! plans read: the pure reading; the reference -/
/-- how far, how deep; what waits, what is out; the steps, the letters -/
abbrev PT : Type := (Int × Int) × (List Int × List Int) × (List Int × Int)
/-- what waits comes out -/
def coF (l : Int) : List Int → List Int → List Int × List Int
  | [], rc => ([], rc)
  | w :: wt, rc => if w < l then (w :: wt, rc) else coF l wt (w :: rc)
def opV (c : Int) : Int := if c = 38 then -1 else -2
def plR (t : Int → Int) (n : Int) : Nat → Bool → PT → Int × PT
  | 0, _, q => (-1, q)
  | d + 1, true, q =>
    if ch t n (sk t n q.1.1) = 40 ∧ q.1.2 < 6 then plR t n d true ((sk t n q.1.1 + 1, q.1.2 + 1), (-3 :: q.2.1.1, q.2.1.2), (-1 :: q.2.2.1, q.2.2.2))
    else if 97 ≤ ch t n (sk t n q.1.1) ∧ ch t n (sk t n q.1.1) ≤ 101 then
      (if ch t n (sk t n (sk t n q.1.1 + 1)) = 43 then
        (if nmW t n 0 99 (sk t n (sk t n q.1.1 + 1) + 1) = -1 then plR t n d false ((nmA t n (sk t n (sk t n q.1.1 + 1) + 1), q.1.2), (q.2.1.1, (100 * (ch t n (sk t n q.1.1) - 97) + nmV t n (sk t n (sk t n q.1.1 + 1) + 1)) :: q.2.1.2), ((128 * (ch t n (sk t n q.1.1) - 97) + nmV t n (sk t n (sk t n q.1.1 + 1) + 1)) :: q.2.2.1, ior q.2.2.2 (ishl 1 (ch t n (sk t n q.1.1) - 97))))
        else (nmW t n 0 99 (sk t n (sk t n q.1.1 + 1) + 1), q))
      else plR t n d false ((sk t n (sk t n q.1.1 + 1), q.1.2), (q.2.1.1, (100 * (ch t n (sk t n q.1.1) - 97)) :: q.2.1.2), ((128 * (ch t n (sk t n q.1.1) - 97)) :: q.2.2.1, ior q.2.2.2 (ishl 1 (ch t n (sk t n q.1.1) - 97)))))
    else (sk t n q.1.1, q)
  | d + 1, false, q =>
    if ch t n (sk t n q.1.1) = 41 ∧ 0 < q.1.2 then plR t n d false ((sk t n q.1.1 + 1, q.1.2 - 1), ((coF (-2) q.2.1.1 q.2.1.2).1.tail, (coF (-2) q.2.1.1 q.2.1.2).2), (-2 :: q.2.2.1, q.2.2.2))
    else if ch t n (sk t n q.1.1) = -1 then (if 0 < q.1.2 then (n, q) else (-1, (sk t n q.1.1, q.1.2), coF (-2) q.2.1.1 q.2.1.2, q.2.2))
    else if ch t n (sk t n q.1.1) = 38 ∨ ch t n (sk t n q.1.1) = 124 then plR t n d true ((sk t n q.1.1 + 1, q.1.2), (opV (ch t n (sk t n q.1.1)) :: (coF (opV (ch t n (sk t n q.1.1))) q.2.1.1 q.2.1.2).1, (coF (opV (ch t n (sk t n q.1.1))) q.2.1.1 q.2.1.2).2), ((if ch t n (sk t n q.1.1) = 124 then -3 :: q.2.2.1 else q.2.2.1), q.2.2.2))
    else (sk t n q.1.1, q)
def q0 : PT := ((0, 0), ([], []), ([], 0))
def rdT (t : Int → Int) (n : Int) : Int × PT := plR t n (n + 1).toNat true q0
/-- an array holds a pile, the last on top -/
def plA (f : Int → Int) (l : List Int) : Prop := ∀ j : Nat, j < l.length → f j = l.getD (l.length - 1 - j) 0
theorem plA_nil (f : Int → Int) : plA f [] := fun j hj => absurd hj (by simp)
theorem plA_push {f : Int → Int} {l : List Int} (h : plA f l) (x : Int) : plA (uf f l.length x) (x :: l) := by
  intro j hj
  rw [List.length_cons] at hj ⊢
  by_cases hjd : j = l.length
  · subst hjd
    rw [uf_s, show l.length + 1 - 1 - l.length = 0 by omega]
    rfl
  · rw [uf_n _ _ (by omega), h j (by omega), show l.length + 1 - 1 - j = (l.length - 1 - j) + 1 by omega]
    rfl
theorem plA_pop {f : Int → Int} {x : Int} {l : List Int} (h : plA f (x :: l)) : plA f l ∧ f l.length = x := by
  constructor
  · intro j hj
    have := h j (by simp; omega)
    rw [this, List.length_cons, show l.length + 1 - 1 - j = (l.length - 1 - j) + 1 by omega]
    rfl
  · have := h l.length (by simp)
    rw [this, List.length_cons, show l.length + 1 - 1 - l.length = 0 by omega]
    rfl
theorem coF_len (l : Int) : ∀ (wt rc : List Int), (coF l wt rc).1.length + (coF l wt rc).2.length = wt.length + rc.length
  | [], rc => by rw [coF]
  | w :: wt, rc => by
    rw [coF]
    split
    · rfl
    · rw [coF_len l wt (w :: rc)]; simp; omega
theorem t_M_comesOut (l : Int) (Q : Option AV → St → Prop) : ∀ (wt rc : List Int) (T : St), T 0 17 = wt.length → T 0 15 = rc.length → plA (T 6) wt → plA (T 5) rc → wt.length + rc.length ≤ 160 → (∀ T', Fr [5, 6] [(0, 3), (0, 4), (0, 15), (0, 17)] T T' → T' 0 3 = T 0 3 → T' 0 4 = T 0 4 → T' 0 17 = (coF l wt rc).1.length → T' 0 15 = (coF l wt rc).2.length → plA (T' 6) (coF l wt rc).1 → plA (T' 5) (coF l wt rc).2 → Q none T') → Smm H_M_comesOut 0 [some (.inr (.inr 0)), some (.inl l)] [] T Q
  | [], rc, T, h1, h2, h3, h4, hl, hQ => by
    refine sound ok_M_comesOut [] 20 ?_
    refine ⟨fun _ => hQ T (Fr.rf _ _ _) rfl rfl h1 h2 h3 h4, fun z => absurd z (by rw [h1]; simp)⟩
  | w :: wt, rc, T, h1, h2, h3, h4, hl, hQ => by
    have p3 := plA_pop h3
    rw [List.length_cons] at h1 hl
    have e1 : i32 (T 0 17 - 1) = wt.length := by rw [h1, i32_id (by omega) (by omega)]; omega
    have b1 : 0 ≤ i32 (T 0 17 - 1) ∧ i32 (T 0 17 - 1) < 160 := by rw [e1]; omega
    have v1 : T 6 (i32 (T 0 17 - 1)) = w := by rw [e1]; exact p3.2
    rw [coF] at hQ
    refine sound ok_M_comesOut [0] 60 ?_
    refine ⟨fun z => absurd z (by rw [h1]; omega), fun _ => ?_⟩
    refine ⟨b1, ?_⟩
    refine ⟨fun g => ?_, fun g => ?_⟩
    · rw [v1] at g
      rw [if_pos g] at hQ
      exact hQ T (Fr.rf _ _ _) rfl rfl (by rw [h1]; simp) h2 h3 h4
    · rw [v1] at g
      rw [if_neg (by omega)] at hQ
      have b2 : 0 ≤ T 0 15 ∧ T 0 15 < 160 := by rw [h2]; omega
      have e2 : i32 (T 0 15 + 1) = rc.length + 1 := by rw [h2, i32_id (by omega) (by omega)]
      have ih := t_M_comesOut l Q wt (w :: rc) (up (up (up T 0 17 (i32 (T 0 17 - 1))) 5 (T 0 15) (T 6 (i32 (T 0 17 - 1)))) 0 15 (i32 (T 0 15 + 1))) ?_ ?_ ?_ ?_ (by simp; omega) (fun T' hF g1 g2 g3 g4 g5 g6 => hQ T' ?_ ?_ ?_ g3 g4 g5 g6)
      · refine ⟨b1, ?_⟩
        refine ⟨b2, ?_⟩
        exact ih
      · rw [up_n _ _ _ (by decide), up_o _ _ _ (by decide), up_s, e1]
      · rw [up_s, e2]; simp
      · rw [up_o _ _ _ (by decide), up_o _ _ _ (by decide), up_o _ _ _ (by decide)]; exact p3.1
      · rw [up_o _ _ _ (by decide), up_c, up_o _ _ _ (by decide), v1, h2]
        exact plA_push h4 w
      · exact (((Fr.rf _ _ T).up _ _ _ rfl).up _ _ _ rfl |>.up _ _ _ rfl).tr hF
      · rw [g1, up_n _ _ _ (by decide), up_o _ _ _ (by decide), up_n _ _ _ (by decide)]
      · rw [g2, up_n _ _ _ (by decide), up_o _ _ _ (by decide), up_n _ _ _ (by decide)]
/-- how many wait for their end -/
def c3 : List Int → Int
  | [] => 0
  | w :: wt => (if w = -3 then 1 else 0) + c3 wt
theorem c3_g : ∀ l, 0 ≤ c3 l
  | [] => Int.le_refl _
  | w :: wt => by
    have := c3_g wt
    rw [c3]; split <;> omega
theorem coF_c3 (l : Int) (hl : l = -1 ∨ l = -2) : ∀ (wt rc : List Int), c3 (coF l wt rc).1 = c3 wt
  | [], rc => by rw [coF]
  | w :: wt, rc => by
    rw [coF]
    split
    · rfl
    · rename_i h
      rw [coF_c3 l hl wt, c3, if_neg (by omega)]
      omega
/-- what is on top, if one waits for its end -/
theorem coF_top : ∀ (wt rc : List Int), (∀ w ∈ wt, w = -1 ∨ w = -2 ∨ w = -3) → 0 < c3 wt → ∃ r, (coF (-2) wt rc).1 = -3 :: r
  | [], rc, _, h => by rw [c3] at h; omega
  | w :: wt, rc, hw, h => by
    rw [coF]
    have h1 := hw w (by simp)
    by_cases g : w < -2
    · rw [if_pos g]
      exact ⟨wt, by rw [show w = -3 by omega]⟩
    · rw [if_neg g]
      refine coF_top wt (w :: rc) (fun x hx => hw x (by simp [hx])) ?_
      rw [c3, if_neg (by omega)] at h
      omega
theorem coF_mem (l : Int) : ∀ (wt rc : List Int) (x : Int), x ∈ (coF l wt rc).1 → x ∈ wt
  | [], rc, x, h => by rw [coF] at h; exact h
  | w :: wt, rc, x, h => by
    rw [coF] at h
    split at h
    · exact h
    · exact List.mem_cons_of_mem _ (coF_mem l wt (w :: rc) x h)
/-- within bounds -/
def okT (n : Int) (q : PT) : Prop := (0 ≤ q.1.1 ∧ q.1.1 ≤ n) ∧ (0 ≤ q.1.2 ∧ q.1.2 ≤ 6) ∧ (q.2.1.1.length : Int) + q.2.1.2.length ≤ q.1.1 ∧ c3 q.2.1.1 = q.1.2 ∧ (∀ w ∈ q.2.1.1, w = -1 ∨ w = -2 ∨ w = -3) ∧ (q.2.2.1.length : Int) ≤ q.1.1
theorem opV_v (c : Int) : opV c = -1 ∨ opV c = -2 := by unfold opV; split <;> simp
