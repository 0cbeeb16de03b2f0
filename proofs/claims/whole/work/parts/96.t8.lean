/-! fits and lies, over the ways that are walked -/
def scA (T : St) (a : Nat) : Prop := ∀ i, 0 ≤ i → i < T 0 49 → ∀ s : Nat, T 30 (3 * i + 1) = s → a.testBit s = true
theorem nd_mf {T S : St} (hT : mOk T) (hP : PlR T S) {a y : Nat} (hy : ndI T S a y) {f : Int → Int} (hf : bd3 f) (hS : scOk T) (hA : scA T a) : mfM T f = mfM T (prN (nb y) f) := by
  obtain ⟨hs1, hs2⟩ := hS
  unfold mfM
  refine bitF_congr _ (fun j hj => ?_)
  have hb := hs2 j (by omega) (by omega)
  have e : svM T f j = svM T (prN (nb y) f) j := by
    unfold svM
    by_cases z : T 30 (3 * (j : Int) + 1) = -1
    · rw [if_pos z, if_pos z]
      exact nd_tn hT hP hy hf hb.1
    · rw [if_neg z, if_neg z]
      obtain ⟨s, hs⟩ : ∃ s : Nat, T 30 (3 * (j : Int) + 1) = s := ⟨(T 30 (3 * (j : Int) + 1)).toNat, by omega⟩
      rw [hs]
      exact nd_hd hT hy hf (by omega) (fun _ => hA j (by omega) (by omega) s hs)
  rw [e]
def mf0 (T : St) (f : Int → Int) : Bool := decide (mfM T f = 0)
theorem ft_fold {T : St} {sign : Int} : ∀ (l : List (Int → Int)) (c : Int) (x : Nat), 0 ≤ c → c + l.length ≤ 100000 → x < 128 → (∀ f ∈ l, -3 ≤ f sign ∧ f sign ≤ 3) → ∃ x' : Nat, l.foldl (ftS T sign) (c, (x : Int)) = (c + ((l.countP (mf0 T) : Nat) : Int), (x' : Int)) ∧ x' < 128 ∧ ∀ j : Nat, x'.testBit j = (x.testBit j || (decide (0 ≤ sign) && l.any (fun f => mf0 T f && decide (f sign + 3 = j))))
  | [], c, x, _, _, hx, _ => ⟨x, by simp, hx, fun j => by simp⟩
  | f :: l, c, x, h0, hc, hx, hb => by
    rw [List.length_cons] at hc
    have hbf := hb f List.mem_cons_self
    have hbl : ∀ g ∈ l, -3 ≤ g sign ∧ g sign ≤ 3 := fun g hg => hb g (List.mem_cons_of_mem _ hg)
    rw [List.foldl_cons]
    by_cases z : mfM T f = 0
    · have zt : mf0 T f = true := decide_eq_true z
      have e1 : i32 (c + 1) = c + 1 := i32_id (by omega) (by omega)
      by_cases s0 : sign < 0
      · have e : ftS T sign (c, (x : Int)) f = (c + 1, (x : Int)) := by
          unfold ftS
          rw [if_pos z, if_pos s0, e1]
        rw [e]
        obtain ⟨x', h1, h2, h3⟩ := ft_fold l (c + 1) x (by clear e1; omega) (by clear e1; omega) hx hbl
        refine ⟨x', ?_, h2, fun j => ?_⟩
        · rw [h1, List.countP_cons, if_pos zt]
          congr 1
          clear e1
          push_cast
          omega
        · rw [h3 j, decide_eq_false (show ¬ 0 ≤ sign by clear e1; omega), Bool.false_and, Bool.false_and]
      · obtain ⟨k, hk⟩ : ∃ k : Nat, f sign + 3 = k := ⟨(f sign + 3).toNat, by clear e1; omega⟩
        obtain ⟨o1, o2⟩ := ior128 hx (pw128 (show k < 7 by clear e1; omega))
        have e : ftS T sign (c, (x : Int)) f = (c + 1, ((x ||| 2 ^ k : Nat) : Int)) := by
          unfold ftS
          rw [if_pos z, if_neg s0, e1, hk, ishl_nat (by clear e1; omega), o1]
        rw [e]
        obtain ⟨x', h1, h2, h3⟩ := ft_fold l (c + 1) (x ||| 2 ^ k) (by clear e1 o1; omega) (by clear e1 o1; omega) o2 hbl
        refine ⟨x', ?_, h2, fun j => ?_⟩
        · rw [h1, List.countP_cons, if_pos zt]
          congr 1
          clear e1 o1
          push_cast
          omega
        · rw [h3 j, decide_eq_true (show 0 ≤ sign by clear e1 o1; omega), Bool.true_and, Bool.true_and, List.any_cons, zt, Bool.true_and, Nat.testBit_or, Nat.testBit_two_pow, hk]
          have : decide (k = j) = decide ((k : Int) = j) := by
            by_cases y : k = j
            · rw [decide_eq_true y, decide_eq_true (by clear e1 o1; omega)]
            · rw [decide_eq_false y, decide_eq_false (by clear e1 o1; omega)]
          rw [this, Bool.or_assoc]
    · have zf : mf0 T f = false := decide_eq_false z
      have e : ftS T sign (c, (x : Int)) f = (c, (x : Int)) := by
        unfold ftS
        rw [if_neg z]
      rw [e]
      obtain ⟨x', h1, h2, h3⟩ := ft_fold l c x h0 (by omega) hx hbl
      refine ⟨x', ?_, h2, fun j => ?_⟩
      · rw [h1, List.countP_cons, if_neg (by rw [zf]; decide)]
        rfl
      · rw [h3 j, List.any_cons, zf, Bool.false_and, Bool.false_or]
/-- the offs of a sign on a walked way, as bits -/
def ofB (r e : Int) (s : Int) (f : Int → Int) (j : Nat) : Bool := decide (f s - (if 0 < r then 0 else e) ≤ (j : Int) - 3 ∧ (j : Int) - 3 ≤ f s + (if 0 < r then 0 else e))
theorem ft_X {T S : St} (hT : mAs T) (hP : PlR T S) {a y : Nat} (hy : ndI T S a y) (hS : scOk T) (hA : scA T a) {s : Int} (hs : 0 ≤ s ∧ s < T 0 20) (j : Nat) : (wyX T y).any (fun f => mf0 T f && ofB (rcN (nb y) (T 18) s) (T 18 s) s f j) = (wyM T).any (fun f => mf0 T f && decide (f s + 3 = j)) := by
  have hn := hT.1.1.1
  have eb := hT.2.2 s hs.1 hs.2
  have hm : ∀ f, bd3 f → mf0 T f = mf0 T (prN (nb y) f) := fun f hf => by unfold mf0; rw [nd_mf hT.1 hP hy hf hS hA]
  have he := er_b hT
  have hsn : s < ((T 0 20).toNat : Int) := by omega
  rw [Bool.eq_iff_iff, List.any_eq_true, List.any_eq_true]
  constructor
  · rintro ⟨f, hf, hb⟩
    obtain ⟨m1, m2, m3⟩ := wX_mem hT hf
    rw [Bool.and_eq_true] at hb
    have hb2 := of_decide_eq_true hb.2
    have hbx := (wy_mem (err := rcN (nb y) (T 18)) (T 0 20).toNat (fun i hi => ((wX_b hT y).2.2.1 i hi).1) f hf).1 s hs.1 hsn
    by_cases z : nb y s = true
    · have hr : rcN (nb y) (T 18) s = T 18 s := by unfold rcN; rw [if_pos z]
      rw [hr] at hb2 hbx
      refine ⟨f, m1, ?_⟩
      rw [Bool.and_eq_true]
      refine ⟨hb.1, decide_eq_true ?_⟩
      split at hb2 <;> omega
    · have hr : rcN (nb y) (T 18) s = 0 := by unfold rcN; rw [if_neg z]
      rw [hr] at hb2 hbx
      rw [if_neg (by omega)] at hb2
      have hmem := (wy_mem (T 0 20).toNat (fun i hi => (he i hi).1) f m1)
      have hin : uf f s ((j : Int) - 3) ∈ wyM T := wy_in (T 0 20).toNat (fun i hi => (he i hi).1) _ (fun i i0 i1 => by
        unfold uf
        split
        · rename_i h; rw [h]; omega
        · exact hmem.1 i i0 i1) (fun i hi => by
        rw [uf_n _ _ (by omega)]
        exact hmem.2 i hi)
      have hpr : prN (nb y) (uf f s ((j : Int) - 3)) = f := by
        have h2 : prN (nb y) (uf f s ((j : Int) - 3)) = prN (nb y) f := by
          funext i
          unfold prN
          split
          · rename_i h
            exact uf_n _ _ (fun q => z (by rw [← q]; exact h))
          · rfl
        rw [h2, m3]
      refine ⟨uf f s ((j : Int) - 3), hin, ?_⟩
      rw [Bool.and_eq_true, hm _ (wy_bd he hin), hpr]
      refine ⟨hb.1, decide_eq_true ?_⟩
      rw [uf_s]
      omega
  · rintro ⟨f, hf, hb⟩
    obtain ⟨p1, p2⟩ := wM_mem (y := y) hT hf
    rw [Bool.and_eq_true] at hb
    have hb2 := of_decide_eq_true hb.2
    have hbx := (wy_mem (T 0 20).toNat (fun i hi => (he i hi).1) f hf).1 s hs.1 hsn
    refine ⟨prN (nb y) f, p1, ?_⟩
    rw [Bool.and_eq_true, ← hm f p2]
    refine ⟨hb.1, decide_eq_true ?_⟩
    unfold prN rcN
    by_cases z : nb y s = true
    · rw [if_pos z, if_pos z]
      split <;> omega
    · rw [if_neg z, if_neg z, if_neg (by omega)]
      omega
/-- fewest first, then lowest -/
def ky (x : Int) : Int := 1024 * ((bcF 30 x.toNat : Nat) : Int) + x
theorem ky_lt {a v : Int} (ha : 0 ≤ a ∧ a < 1024) (hv : 0 ≤ v ∧ v < 1024) : (bcF 30 v.toNat < bcF 30 a.toNat ∨ (bcF 30 v.toNat = bcF 30 a.toNat ∧ v < a)) ↔ ky v < ky a := by
  unfold ky
  omega
theorem ky_inj {a v : Int} (ha : 0 ≤ a ∧ a < 1024) (hv : 0 ≤ v ∧ v < 1024) (h : ky a = ky v) : a = v := by
  unfold ky at h
  omega
theorem ls_fold {T : St} (hS : scOk T) : ∀ (l : List (Int → Int)) (a : Int), 0 ≤ a ∧ a < 1024 → (0 ≤ l.foldl (lsS T) a ∧ l.foldl (lsS T) a < 1024) ∧ (l.foldl (lsS T) a = a ∨ ∃ f ∈ l, l.foldl (lsS T) a = mfM T f) ∧ ky (l.foldl (lsS T) a) ≤ ky a ∧ ∀ f ∈ l, ky (l.foldl (lsS T) a) ≤ ky (mfM T f)
  | [], a, ha => ⟨ha, Or.inl rfl, Int.le_refl _, fun f hf => absurd hf (by simp)⟩
  | f :: l, a, ha => by
    have hb := mfM_b hS f
    have hk := ky_lt ha hb
    rw [List.foldl_cons]
    have e : lsS T a f = if ky (mfM T f) < ky a then mfM T f else a := by
      unfold lsS
      by_cases z : ky (mfM T f) < ky a
      · rw [if_pos z, if_pos (Or.inr (hk.mpr z))]
      · rw [if_neg z, if_neg (fun q => q.elim (fun q => absurd q (by omega)) (fun q => z (hk.mp q)))]
    by_cases z : ky (mfM T f) < ky a
    · rw [if_pos z] at e
      rw [e]
      obtain ⟨h1, h2, h3, h4⟩ := ls_fold hS l (mfM T f) hb
      refine ⟨h1, Or.inr ?_, by omega, fun g hg => ?_⟩
      · rcases h2 with h2 | ⟨g, hg, h2⟩
        · exact ⟨f, List.mem_cons_self, h2⟩
        · exact ⟨g, List.mem_cons_of_mem _ hg, h2⟩
      · rcases List.mem_cons.mp hg with q | q
        · rw [q]; exact h3
        · exact h4 g q
    · rw [if_neg z] at e
      rw [e]
      obtain ⟨h1, h2, h3, h4⟩ := ls_fold hS l a ha
      refine ⟨h1, ?_, h3, fun g hg => ?_⟩
      · rcases h2 with h2 | ⟨g, hg, h2⟩
        · exact Or.inl h2
        · exact Or.inr ⟨g, List.mem_cons_of_mem _ hg, h2⟩
      · rcases List.mem_cons.mp hg with q | q
        · rw [q]; omega
        · exact h4 g q
theorem bcF_ub : ∀ d n : Nat, bcF d n ≤ d
  | 0, _ => Nat.le_refl _
  | d + 1, n => by
    have := bcF_ub d (n / 2)
    rw [bcF]
    omega
theorem bcF_ones : ∀ d : Nat, bcF d (2 ^ d - 1) = d
  | 0 => rfl
  | d + 1 => by
    have h : 1 ≤ 2 ^ d := Nat.one_le_two_pow
    rw [bcF, Nat.pow_succ, show (2 ^ d * 2 - 1) / 2 = 2 ^ d - 1 by omega, bcF_ones d]
    omega
/-- all of them unlike is the most -/
theorem ky_all {x n : Nat} (hn : n ≤ 10) (hx : x < 2 ^ n) : ky x ≤ ky ((2 ^ n - 1 : Nat) : Int) := by
  have h1 : bcF 30 x = bcF n x := by
    have := bcF_low n x hx (30 - n)
    rw [show n + (30 - n) = 30 by omega] at this
    exact this
  have h2 : bcF 30 (2 ^ n - 1) = n := by
    have := bcF_low n (2 ^ n - 1) (by omega) (30 - n)
    rw [show n + (30 - n) = 30 by omega, bcF_ones] at this
    exact this
  have h3 := bcF_ub n x
  unfold ky
  rw [show ((x : Int)).toNat = x from rfl, show (((2 ^ n - 1 : Nat) : Int)).toNat = 2 ^ n - 1 from rfl, h1, h2]
  omega
theorem ls_X {T S : St} (hT : mAs T) (hP : PlR T S) {a y : Nat} (hy : ndI T S a y) (hS : scOk T) (hA : scA T a) {n : Nat} (hn : T 0 49 = n) : (wyX T y).foldl (lsS T) ((2 ^ n - 1 : Nat) : Int) = (wyM T).foldl (lsS T) (-1) := by
  have hn10 := hS.1
  have hp : 2 ^ n ≤ 2 ^ 10 := Nat.pow_le_pow_right (by omega) (by omega)
  obtain ⟨a1, a2, a3, a4⟩ := ls_fold hS (wyX T y) ((2 ^ n - 1 : Nat) : Int) (by omega)
  obtain ⟨r, hr⟩ := wy_first (err := T 18) (T 0 20).toNat (fun i hi => (er_b hT i hi).1)
  have hr' : wyM T = fsF (T 18) (T 0 20).toNat :: r := hr
  have hb0 := mfM_b hS (fsF (T 18) (T 0 20).toNat)
  have hfirst : (wyM T).foldl (lsS T) (-1) = r.foldl (lsS T) (mfM T (fsF (T 18) (T 0 20).toNat)) := by
    rw [hr', List.foldl_cons]
    have : lsS T (-1) (fsF (T 18) (T 0 20).toNat) = mfM T (fsF (T 18) (T 0 20).toNat) := by
      unfold lsS
      rw [if_pos (Or.inl (by decide))]
    rw [this]
  obtain ⟨b1, b2, b3, b4⟩ := ls_fold hS r _ hb0
  rw [hfirst]
  have hmem : ∃ f ∈ wyM T, r.foldl (lsS T) (mfM T (fsF (T 18) (T 0 20).toNat)) = mfM T f := by
    rw [hr']
    rcases b2 with b2 | ⟨f, hf, b2⟩
    · exact ⟨_, List.mem_cons_self, b2⟩
    · exact ⟨f, List.mem_cons_of_mem _ hf, b2⟩
  have hall : ∀ f ∈ wyM T, ky (r.foldl (lsS T) (mfM T (fsF (T 18) (T 0 20).toNat))) ≤ ky (mfM T f) := fun f hf => by
    rw [hr'] at hf
    rcases List.mem_cons.mp hf with q | q
    · rw [q]; exact b3
    · exact b4 f q
  obtain ⟨f2, hf2, e2⟩ := hmem
  obtain ⟨p1, p2⟩ := wM_mem (y := y) hT hf2
  refine ky_inj a1 b1 ?_
  have l1 : ky ((wyX T y).foldl (lsS T) ((2 ^ n - 1 : Nat) : Int)) ≤ ky (r.foldl (lsS T) (mfM T (fsF (T 18) (T 0 20).toNat))) := by
    rw [e2, nd_mf hT.1 hP hy p2 hS hA]
    exact a4 _ p1
  have l2 : ky (r.foldl (lsS T) (mfM T (fsF (T 18) (T 0 20).toNat))) ≤ ky ((wyX T y).foldl (lsS T) ((2 ^ n - 1 : Nat) : Int)) := by
    rcases a2 with a2 | ⟨f, hf, a2⟩
    · rw [a2, e2]
      have hbf : 0 ≤ mfM T f2 ∧ mfM T f2 < 2 ^ n := by
        unfold mfM
        have := bitF_b (p := fun k : Nat => decide (¬ svM T f2 k = T 30 (3 * k + 2))) (k := (T 0 49).toNat) (by omega)
        rw [show (T 0 49).toNat = n by omega] at this ⊢
        exact this
      obtain ⟨x, hx⟩ : ∃ x : Nat, mfM T f2 = x := ⟨(mfM T f2).toNat, by omega⟩
      rw [hx] at hbf ⊢
      exact ky_all (by omega) (by exact_mod_cast hbf.2)
    · rw [a2]
      exact hall f (wX_mem hT hf).1
  omega
