/-! the clauses of a land; the reference: its items -/
def kd (c : Int) : Int := if c = 103 then 0 else if c = 115 then 1 else if c = 104 then 2 else if c = 98 then 3 else -1
def itF (k c : Int) : Int := if k = 0 then (if c = 112 then 0 else if c = 116 then 1 else -1) else if k = 1 then (if c = 116 then 0 else if c = 101 then 1 else if c = 111 then 2 else if c = 118 then 3 else -1) else if k = 2 then (if c = 115 then 0 else if c = 103 then 1 else if c = 100 then 2 else -1) else (if c = 110 then 0 else if c = 119 then 1 else -1)
def szK (k : Int) : Int := if k = 1 then 4 else if k = 2 then 3 else 2
def loK (k i : Int) : Int := if k = 3 ∧ i = 0 then 2 else 0
def hiK (k i ns : Int) : Int := if k = 0 then 99 else if k = 1 then (if i = 0 then 59 else if i = 1 then 3 else if i = 2 then ns - 1 else 3) else if k = 2 then (if i = 0 then 4 else if i = 1 then 3 else 9) else (if i = 0 then 4 else 9)
def dfK (k i : Int) : Int := if k = 0 then (if i = 0 then 10 else 0) else if k = 1 then (if i = 2 then -1 else 0) else if k = 2 then 0 else (if i = 0 then 2 else if i = 1 then 1 else 0)
def tdF (told : Int → Bool) (i : Int) : Int → Bool := fun j => if j = i then true else told j
/-- the items of a clause: where they end, where they are wrong (-1: nowhere), what they are -/
def itL (t : Int → Int) (n k ns : Int) : Nat → Int → (Int → Bool) → (Int → Int) → Int × Int × (Int → Int)
  | 0, a, _, v => (a, -1, v)
  | d + 1, a, told, v =>
    if ch t n (sk t n a) = -1 ∨ ch t n (sk t n a) = 59 then (sk t n a, -1, v)
    else if itF k (ch t n (sk t n a)) < 0 ∨ told (itF k (ch t n (sk t n a))) = true then (sk t n a, sk t n a, v)
    else if nmW t n (loK k (itF k (ch t n (sk t n a)))) (hiK k (itF k (ch t n (sk t n a))) ns) (sk t n a + 1) = -1 then itL t n k ns d (nmA t n (sk t n a + 1)) (tdF told (itF k (ch t n (sk t n a)))) (uf v (itF k (ch t n (sk t n a))) (nmV t n (sk t n a + 1)))
    else (nmA t n (sk t n a + 1), nmW t n (loK k (itF k (ch t n (sk t n a)))) (hiK k (itF k (ch t n (sk t n a))) ns) (sk t n a + 1), v)
/-- a land as it is read: how many guards, signs, hearings, treasuries; their numbers; need, breath -/
abbrev PS : Type := (Int × Int × Int × Int) × (Int → Int) × (Int → Int) × (Int → Int) × Int × Int
def takeP (k : Int) (v : Int → Int) (p : PS) : PS :=
  if k = 0 then ((p.1.1 + 1, p.1.2), uf (uf p.2.1 (2 * p.1.1) (v 0)) (2 * p.1.1 + 1) (v 1), p.2.2)
  else if k = 1 then ((p.1.1, p.1.2.1 + 1, p.1.2.2), p.2.1, uf (uf (uf (uf p.2.2.1 (4 * p.1.2.1) (v 0)) (4 * p.1.2.1 + 1) (v 1)) (4 * p.1.2.1 + 2) (v 2)) (4 * p.1.2.1 + 3) (v 3), p.2.2.2)
  else if k = 2 then ((p.1.1, p.1.2.1, p.1.2.2.1 + 1, p.1.2.2.2), p.2.1, p.2.2.1, uf (uf (uf p.2.2.2.1 (3 * p.1.2.2.1) (v 0)) (3 * p.1.2.2.1 + 1) (v 1)) (3 * p.1.2.2.1 + 2) (v 2), p.2.2.2.2)
  else ((p.1.1, p.1.2.1, p.1.2.2.1, p.1.2.2.2 + 1), p.2.1, p.2.2.1, p.2.2.2.1, v 0, v 1)
def mxK (k : Int) : Int := if k = 0 then 4 else if k = 1 then 5 else if k = 2 then 12 else 1
def ctK (k : Int) (p : PS) : Int := if k = 0 then p.1.1 else if k = 1 then p.1.2.1 else if k = 2 then p.1.2.2.1 else p.1.2.2.2
def clP (t : Int → Int) (n a : Int) (p : PS) : Int × Int × PS :=
  if kd (ch t n (sk t n a)) < 0 ∨ mxK (kd (ch t n (sk t n a))) ≤ ctK (kd (ch t n (sk t n a))) p then (sk t n a, sk t n a, p)
  else if (itL t n (kd (ch t n (sk t n a))) p.1.2.1 5 (sk t n a + 1) (fun _ => false) (dfK (kd (ch t n (sk t n a))))).2.1 = -1 then ((itL t n (kd (ch t n (sk t n a))) p.1.2.1 5 (sk t n a + 1) (fun _ => false) (dfK (kd (ch t n (sk t n a))))).1, -1, takeP (kd (ch t n (sk t n a))) (itL t n (kd (ch t n (sk t n a))) p.1.2.1 5 (sk t n a + 1) (fun _ => false) (dfK (kd (ch t n (sk t n a))))).2.2 p)
  else ((itL t n (kd (ch t n (sk t n a))) p.1.2.1 5 (sk t n a + 1) (fun _ => false) (dfK (kd (ch t n (sk t n a))))).1, (itL t n (kd (ch t n (sk t n a))) p.1.2.1 5 (sk t n a + 1) (fun _ => false) (dfK (kd (ch t n (sk t n a))))).2.1, p)
def ldP (t : Int → Int) (n : Int) : Nat → Int → PS → Int × PS
  | 0, _, p => (-1, p)
  | d + 1, a, p => if (clP t n a p).2.1 = -1 then (if ch t n (clP t n a p).1 = 59 then ldP t n d ((clP t n a p).1 + 1) (clP t n a p).2.2 else (-1, (clP t n a p).2.2)) else ((clP t n a p).2.1, (clP t n a p).2.2)
def p0 : PS := ((0, 0, 0, 0), fun _ => 0, fun _ => 0, fun _ => 0, 2, 1)
/-- all is told that a land must have, and all that it names -/
def whP (p : PS) : Prop := 2 ≤ p.1.1 ∧ 1 ≤ p.1.2.1 ∧ (∀ s, 0 ≤ s → s < p.1.2.1 → 0 ≤ p.2.2.1 (4 * s + 2) → p.2.2.1 (4 * s + 3) < p.1.1) ∧ ∀ h, 0 ≤ h → h < p.1.2.2.1 → p.2.2.2.1 (3 * h) < p.1.2.1 ∧ p.2.2.2.1 (3 * h + 1) < p.1.1 ∧ ∀ k, 0 ≤ k → k < h → ¬ (p.2.2.2.1 (3 * k) = p.2.2.2.1 (3 * h) ∧ p.2.2.2.1 (3 * k + 1) = p.2.2.2.1 (3 * h + 1))
/-- within bounds -/
def okP (p : PS) : Prop := (0 ≤ p.1.1 ∧ p.1.1 ≤ 4 ∧ 0 ≤ p.1.2.1 ∧ p.1.2.1 ≤ 5 ∧ 0 ≤ p.1.2.2.1 ∧ p.1.2.2.1 ≤ 12 ∧ 0 ≤ p.1.2.2.2 ∧ p.1.2.2.2 ≤ 1 ∧ (p.1.2.2.2 = 0 → p.2.2.2.2 = (2, 1))) ∧ (∀ j, 0 ≤ j → j < 2 * p.1.1 → 0 ≤ p.2.1 j ∧ p.2.1 j ≤ 99) ∧ (∀ s, 0 ≤ s → s < p.1.2.1 → (0 ≤ p.2.2.1 (4 * s) ∧ p.2.2.1 (4 * s) ≤ 59) ∧ (0 ≤ p.2.2.1 (4 * s + 1) ∧ p.2.2.1 (4 * s + 1) ≤ 3) ∧ (-1 ≤ p.2.2.1 (4 * s + 2) ∧ p.2.2.1 (4 * s + 2) < s) ∧ (0 ≤ p.2.2.1 (4 * s + 3) ∧ p.2.2.1 (4 * s + 3) ≤ 3)) ∧ (∀ h, 0 ≤ h → h < p.1.2.2.1 → (0 ≤ p.2.2.2.1 (3 * h) ∧ p.2.2.2.1 (3 * h) ≤ 4) ∧ (0 ≤ p.2.2.2.1 (3 * h + 1) ∧ p.2.2.2.1 (3 * h + 1) ≤ 3) ∧ (0 ≤ p.2.2.2.1 (3 * h + 2) ∧ p.2.2.2.1 (3 * h + 2) ≤ 9)) ∧ (2 ≤ p.2.2.2.2.1 ∧ p.2.2.2.2.1 ≤ 4 ∧ 0 ≤ p.2.2.2.2.2 ∧ p.2.2.2.2.2 ≤ 9)
theorem kd_v (c : Int) : kd c < 0 ∨ (c = 103 ∧ kd c = 0) ∨ (c = 115 ∧ kd c = 1) ∨ (c = 104 ∧ kd c = 2) ∨ (c = 98 ∧ kd c = 3) := by
  unfold kd
  split
  · rename_i h; exact Or.inr (Or.inl ⟨h, rfl⟩)
  · split
    · rename_i h; exact Or.inr (Or.inr (Or.inl ⟨h, rfl⟩))
    · split
      · rename_i h; exact Or.inr (Or.inr (Or.inr (Or.inl ⟨h, rfl⟩)))
      · split
        · rename_i h; exact Or.inr (Or.inr (Or.inr (Or.inr ⟨h, rfl⟩)))
        · exact Or.inl (by decide)
/-- what an item's number is bounded by, so that the land stays within its bounds -/
def vOk (k ns : Int) (v : Int → Int) : Prop := if k = 0 then (0 ≤ v 0 ∧ v 0 ≤ 99 ∧ 0 ≤ v 1 ∧ v 1 ≤ 99) else if k = 1 then (0 ≤ v 0 ∧ v 0 ≤ 59 ∧ 0 ≤ v 1 ∧ v 1 ≤ 3 ∧ -1 ≤ v 2 ∧ v 2 < ns ∧ 0 ≤ v 3 ∧ v 3 ≤ 3) else if k = 2 then (0 ≤ v 0 ∧ v 0 ≤ 4 ∧ 0 ≤ v 1 ∧ v 1 ≤ 3 ∧ 0 ≤ v 2 ∧ v 2 ≤ 9) else (2 ≤ v 0 ∧ v 0 ≤ 4 ∧ 0 ≤ v 1 ∧ v 1 ≤ 9)
theorem k4 {k : Int} (h : 0 ≤ k) (h2 : k ≤ 3) : k = 0 ∨ k = 1 ∨ k = 2 ∨ k = 3 := by omega
theorem itF_b {k c : Int} (hk : 0 ≤ k ∧ k ≤ 3) : itF k c < 0 ∨ (0 ≤ itF k c ∧ itF k c < szK k) := by
  rcases k4 hk.1 hk.2 with rfl | rfl | rfl | rfl <;> simp only [itF, szK] <;> (repeat' split) <;> simp_all
def ltK (k i : Int) : Int := if k = 0 then (if i = 0 then 112 else 116) else if k = 1 then (if i = 0 then 116 else if i = 1 then 101 else if i = 2 then 111 else 118) else if k = 2 then (if i = 0 then 115 else if i = 1 then 103 else 100) else (if i = 0 then 110 else 119)
theorem itF_inv {k c : Int} (hk : 0 ≤ k ∧ k ≤ 3) (h : 0 ≤ itF k c) : c = ltK k (itF k c) := by
  rcases k4 hk.1 hk.2 with rfl | rfl | rfl | rfl
  · by_cases h1 : c = 112
    · subst h1; rfl
    · by_cases h2 : c = 116
      · subst h2; rfl
      · simp [itF, h1, h2] at h
  · by_cases h1 : c = 116
    · subst h1; rfl
    · by_cases h2 : c = 101
      · subst h2; rfl
      · by_cases h3 : c = 111
        · subst h3; rfl
        · by_cases h4 : c = 118
          · subst h4; rfl
          · simp [itF, h1, h2, h3, h4] at h
  · by_cases h1 : c = 115
    · subst h1; rfl
    · by_cases h2 : c = 103
      · subst h2; rfl
      · by_cases h3 : c = 100
        · subst h3; rfl
        · simp [itF, h1, h2, h3] at h
  · by_cases h1 : c = 110
    · subst h1; rfl
    · by_cases h2 : c = 119
      · subst h2; rfl
      · simp [itF, h1, h2] at h
theorem itF_inj {k c c' : Int} (hk : 0 ≤ k ∧ k ≤ 3) (h : 0 ≤ itF k c) (e : itF k c = itF k c') : c = c' := by
  rw [itF_inv hk h, e, ← itF_inv hk (by rw [← e]; exact h)]
theorem itF_l {k c : Int} (hk : 0 ≤ k ∧ k ≤ 3) (h : 0 ≤ itF k c) : 97 ≤ c ∧ c ≤ 122 := by
  rcases k4 hk.1 hk.2 with rfl | rfl | rfl | rfl <;> simp only [itF] at h <;> (repeat' split at h) <;> simp_all
theorem dfK_ok {k ns : Int} (hk : 0 ≤ k ∧ k ≤ 3) (hn : 0 ≤ ns) : vOk k ns (dfK k) := by
  rcases k4 hk.1 hk.2 with rfl | rfl | rfl | rfl <;> simp [vOk, dfK] <;> omega
theorem vOk_set {k ns i x : Int} {v : Int → Int} (hk : 0 ≤ k ∧ k ≤ 3) (hi : 0 ≤ i ∧ i < szK k) (h : vOk k ns v) (hx : loK k i ≤ x ∧ x ≤ hiK k i ns) : vOk k ns (uf v i x) := by
  rcases k4 hk.1 hk.2 with rfl | rfl | rfl | rfl
  · have : i = 0 ∨ i = 1 := by simp [szK] at hi; omega
    rcases this with rfl | rfl <;> simp [vOk, loK, hiK, uf] at * <;> omega
  · have : i = 0 ∨ i = 1 ∨ i = 2 ∨ i = 3 := by simp [szK] at hi; omega
    rcases this with rfl | rfl | rfl | rfl <;> simp [vOk, loK, hiK, uf] at * <;> omega
  · have : i = 0 ∨ i = 1 ∨ i = 2 := by simp [szK] at hi; omega
    rcases this with rfl | rfl | rfl <;> simp [vOk, loK, hiK, uf] at * <;> omega
  · have : i = 0 ∨ i = 1 := by simp [szK] at hi; omega
    rcases this with rfl | rfl <;> simp [vOk, loK, hiK, uf] at * <;> omega
/-- how many items are told -/
def ctT (told : Int → Bool) : Nat := (if told 0 then 1 else 0) + (if told 1 then 1 else 0) + (if told 2 then 1 else 0) + (if told 3 then 1 else 0)
theorem ctT_s {told : Int → Bool} {i : Int} (hi : 0 ≤ i ∧ i < 4) (h : ¬ told i = true) : ctT (tdF told i) = ctT told + 1 ∧ ctT told ≤ 3 := by
  have : i = 0 ∨ i = 1 ∨ i = 2 ∨ i = 3 := by omega
  rcases this with rfl | rfl | rfl | rfl <;> simp [ctT, tdF, h] <;> (repeat' split) <;> omega
theorem szK_b (k : Int) : szK k ≤ 4 := by unfold szK; split; decide; split <;> decide
/-- the items end in bounds -/
theorem itL_ok {t : Int → Int} {n k ns : Int} (hk : 0 ≤ k ∧ k ≤ 3) : ∀ (d : Nat) (a : Int) (told : Int → Bool) (v : Int → Int), 0 ≤ a → a ≤ n → ctT told + d = 5 → vOk k ns v → (a ≤ (itL t n k ns d a told v).1 ∧ (itL t n k ns d a told v).1 ≤ n) ∧ -1 ≤ (itL t n k ns d a told v).2.1 ∧ ((itL t n k ns d a told v).2.1 = -1 → vOk k ns (itL t n k ns d a told v).2.2 ∧ (d = 0 ∨ ch t n (itL t n k ns d a told v).1 = -1 ∨ ch t n (itL t n k ns d a told v).1 = 59) ∧ (d = 0 ∨ sk t n (itL t n k ns d a told v).1 = (itL t n k ns d a told v).1))
  | 0, a, told, v, h0, ha, hc, hv => by
    rw [itL]
    exact ⟨⟨Int.le_refl _, ha⟩, Int.le_refl _, fun _ => ⟨hv, Or.inl rfl, Or.inl rfl⟩⟩
  | d + 1, a, told, v, h0, ha, hc, hv => by
    have hs := sk_b t n a
    rw [itL]
    by_cases g1 : ch t n (sk t n a) = -1 ∨ ch t n (sk t n a) = 59
    · rw [if_pos g1]
      exact ⟨⟨hs.1, by dsimp only; omega⟩, Int.le_refl _, fun _ => ⟨hv, Or.inr g1, Or.inr (sk_sk t n a)⟩⟩
    · rw [if_neg g1]
      have hlt : sk t n a < n := by
        by_cases z : sk t n a < n
        · exact z
        · exact absurd (Or.inl (by unfold ch; rw [if_neg z])) g1
      by_cases g2 : itF k (ch t n (sk t n a)) < 0 ∨ told (itF k (ch t n (sk t n a))) = true
      · rw [if_pos g2]
        exact ⟨⟨hs.1, by omega⟩, by dsimp only; omega, fun z => absurd z (by dsimp only; omega)⟩
      · rw [if_neg g2]
        have hib := (itF_b (c := ch t n (sk t n a)) hk).resolve_left (fun z => g2 (Or.inl z))
        have hsz := szK_b k
        generalize hi : itF k (ch t n (sk t n a)) = i at *
        have hnA := nmA_b (t := t) (n := n) (a := sk t n a + 1)
        by_cases g3 : nmW t n (loK k i) (hiK k i ns) (sk t n a + 1) = -1
        · rw [if_pos g3]
          have hf := nm_fine (by omega) g3
          have hct := ctT_s (told := told) (i := i) (by omega) (fun z => g2 (Or.inr z))
          have ih := itL_ok (t := t) (n := n) (ns := ns) hk d (nmA t n (sk t n a + 1)) (tdF told i) (uf v i (nmV t n (sk t n a + 1))) (by omega) hf.2.2.2.2.2 (by omega) (vOk_set hk hib hv ⟨hf.1, hf.2.1⟩)
          have hd : ¬ d = 0 := by omega
          refine ⟨⟨by omega, ih.1.2⟩, ih.2.1, fun z => ?_⟩
          obtain ⟨x1, x2, x3⟩ := ih.2.2 z
          exact ⟨x1, Or.inr (x2.resolve_left hd), Or.inr (x3.resolve_left hd)⟩
        · rw [if_neg g3]
          exact ⟨⟨by dsimp only; omega, by dsimp only; omega⟩, nmW_g (by omega), fun z => absurd z g3⟩
theorem okP_0 : okP p0 := by
  refine ⟨⟨by decide, by decide, by decide, by decide, by decide, by decide, by decide, by decide, fun _ => rfl⟩, fun j j0 j1 => absurd j1 (by show ¬ j < 2 * 0; omega), fun s s0 s1 => absurd s1 (by show ¬ s < 0; omega), fun h h0 h1 => absurd h1 (by show ¬ h < 0; omega), by decide, by decide, by decide, by decide⟩
theorem ufs {f : Int → Int} {i v j : Int} : uf f i v j = if j = i then v else f j := rfl
theorem okP_take {k : Int} {v : Int → Int} {p : PS} (hk : 0 ≤ k ∧ k ≤ 3) (hp : okP p) (hv : vOk k p.1.2.1 v) (hc : ctK k p < mxK k) : okP (takeP k v p) := by
  obtain ⟨⟨c1, c2, c3, c4, c5, c6, c7, c8, c9⟩, hG, hS, hE, hN⟩ := hp
  obtain ⟨⟨ng, ns, ne, nb⟩, G, Sg, E, nd, br⟩ := p
  dsimp only at c1 c2 c3 c4 c5 c6 c7 c8 c9 hG hS hE hN hv
  rcases k4 hk.1 hk.2 with rfl | rfl | rfl | rfl
  · simp only [vOk, ctK, mxK, takeP, if_true] at hv hc ⊢
    refine ⟨⟨by dsimp only; omega, by dsimp only; omega, c3, c4, c5, c6, c7, c8, c9⟩, fun j j0 j1 => ?_, hS, hE, hN⟩
    dsimp only at j1 ⊢
    rw [ufs, ufs]
    split
    · omega
    · split
      · omega
      · exact hG j j0 (by omega)
  · simp only [vOk, ctK, mxK, takeP, if_true, show ¬ (1 : Int) = 0 by decide, if_false] at hv hc ⊢
    refine ⟨⟨c1, c2, by dsimp only; omega, by dsimp only; omega, c5, c6, c7, c8, c9⟩, hG, fun s s0 s1 => ?_, hE, hN⟩
    dsimp only at s1 ⊢
    by_cases hs : s = ns
    · subst hs
      simp only [ufs, eq_self, if_true, ite_true]
      refine ⟨?_, ?_, ?_, ?_⟩ <;> (repeat' split) <;> omega
    · have := hS s s0 (by omega)
      simp only [ufs, eq_self, if_true, ite_true]
      refine ⟨?_, ?_, ?_, ?_⟩ <;> (repeat' split) <;> omega
  · simp only [vOk, ctK, mxK, takeP, if_true, show ¬ (2 : Int) = 0 by decide, show ¬ (2 : Int) = 1 by decide, if_false] at hv hc ⊢
    refine ⟨⟨c1, c2, c3, c4, by dsimp only; omega, by dsimp only; omega, c7, c8, c9⟩, hG, hS, fun h h0 h1 => ?_, hN⟩
    dsimp only at h1 ⊢
    by_cases hs : h = ne
    · subst hs
      simp only [ufs, eq_self, if_true, ite_true]
      refine ⟨?_, ?_, ?_⟩ <;> (repeat' split) <;> omega
    · have := hE h h0 (by omega)
      simp only [ufs, eq_self, if_true, ite_true]
      refine ⟨?_, ?_, ?_⟩ <;> (repeat' split) <;> omega
  · simp only [vOk, ctK, mxK, takeP, show ¬ (3 : Int) = 0 by decide, show ¬ (3 : Int) = 1 by decide, show ¬ (3 : Int) = 2 by decide, if_false] at hv hc ⊢
    exact ⟨⟨c1, c2, c3, c4, c5, c6, by dsimp only; omega, by dsimp only; omega, fun z => absurd z (by dsimp only; omega)⟩, hG, hS, hE, hv⟩
/-- a clause read stays within bounds -/
theorem clP_ok {t : Int → Int} {n a : Int} {p : PS} (h0 : 0 ≤ a) (ha : a ≤ n) (hp : okP p) : okP (clP t n a p).2.2 ∧ (a ≤ (clP t n a p).1 ∧ (clP t n a p).1 ≤ n) ∧ -1 ≤ (clP t n a p).2.1 ∧ ((clP t n a p).2.1 = -1 → a < (clP t n a p).1 ∧ (ch t n (clP t n a p).1 = -1 ∨ ch t n (clP t n a p).1 = 59) ∧ sk t n (clP t n a p).1 = (clP t n a p).1) := by
  have hs := sk_b t n a
  unfold clP
  by_cases g1 : kd (ch t n (sk t n a)) < 0 ∨ mxK (kd (ch t n (sk t n a))) ≤ ctK (kd (ch t n (sk t n a))) p
  · rw [if_pos g1]
    exact ⟨hp, ⟨hs.1, by dsimp only; omega⟩, by dsimp only; omega, fun z => absurd z (by dsimp only; omega)⟩
  · rw [if_neg g1]
    have hk : 0 ≤ kd (ch t n (sk t n a)) ∧ kd (ch t n (sk t n a)) ≤ 3 := by
      have := kd_v (ch t n (sk t n a))
      omega
    have hlt : sk t n a < n := by
      by_cases z : sk t n a < n
      · exact z
      · exfalso
        refine g1 (Or.inl ?_)
        unfold ch
        rw [if_neg z]
        decide
    generalize kd (ch t n (sk t n a)) = k at *
    have hit := itL_ok (t := t) (n := n) (k := k) (ns := p.1.2.1) hk 5 (sk t n a + 1) (fun _ => false) (dfK k) (by omega) (by omega) rfl (dfK_ok hk hp.1.2.2.1)
    generalize itL t n k p.1.2.1 5 (sk t n a + 1) (fun _ => false) (dfK k) = r at hit ⊢
    by_cases g2 : r.2.1 = -1
    · rw [if_pos g2]
      obtain ⟨x1, x2, x3⟩ := hit.2.2 g2
      exact ⟨okP_take hk hp x1 (by omega), ⟨by dsimp only; omega, by dsimp only; omega⟩, Int.le_refl _, fun _ => ⟨by dsimp only; omega, x2.resolve_left (by decide), x3.resolve_left (by decide)⟩⟩
    · rw [if_neg g2]
      exact ⟨hp, ⟨by dsimp only; omega, by dsimp only; omega⟩, hit.2.1, fun z => absurd z g2⟩
theorem ldP_ok {t : Int → Int} {n : Int} : ∀ (d : Nat) (a : Int) (p : PS), 0 ≤ a → a ≤ n → okP p → okP (ldP t n d a p).2 ∧ -1 ≤ (ldP t n d a p).1
  | 0, a, p, _, _, hp => ⟨hp, Int.le_refl _⟩
  | d + 1, a, p, h0, ha, hp => by
    obtain ⟨h1, h2, h3, h4⟩ := clP_ok (t := t) h0 ha hp
    rw [ldP]
    generalize clP t n a p = r at h1 h2 h3 h4 ⊢
    by_cases g1 : r.2.1 = -1
    · rw [if_pos g1]
      by_cases g2 : ch t n r.1 = 59
      · rw [if_pos g2]
        have : r.1 < n := by
          by_cases z : r.1 < n
          · exact z
          · unfold ch at g2; rw [if_neg z] at g2; exact absurd g2 (by decide)
        exact ldP_ok d (r.1 + 1) r.2.2 (by omega) (by omega) h1
      · rw [if_neg g2]
        exact ⟨h1, Int.le_refl _⟩
    · rw [if_neg g1]
      exact ⟨h1, h3⟩
