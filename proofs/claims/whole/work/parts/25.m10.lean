/-! the reference: opening, firstToTurn; moment, gain -/
/-- the first place from i on (d are left) at whose turn it opens: that turn; 1000000: none -/
def moF (need : Nat) (breath : Int) (l : List Int) : Nat → Nat → Int
  | _, 0 => 1000000
  | i, d + 1 => if ¬ l.getD i 0 = 1000000 ∧ l.getD i 0 - l.getD (i + 1 - need) 0 ≤ breath then l.getD i 0 else moF need breath l (i + 1) d
/-- the part at which it opens, by these turns -/
def ogF (need breath : Int) (t : Int → Int) (k : Nat) : Int := moF need.toNat breath (isF t k) (need.toNat - 1) (k + 1 - need.toNat)
theorem ogF_congr {need breath : Int} {t t' : Int → Int} {k : Nat} (h : ∀ j : Int, 0 ≤ j → j < k → t j = t' j) : ogF need breath t k = ogF need breath t' k := by unfold ogF; rw [isF_congr k h]
theorem moF_b {need : Nat} {breath : Int} {l : List Int} {B : Int} (hB : ∀ j : Nat, j < l.length → l.getD j 0 = 1000000 ∨ (-B ≤ l.getD j 0 ∧ l.getD j 0 ≤ B)) : ∀ (d i : Nat), i + d ≤ l.length → moF need breath l i d = 1000000 ∨ (-B ≤ moF need breath l i d ∧ moF need breath l i d ≤ B)
  | 0, i, _ => Or.inl rfl
  | d + 1, i, h => by
    rw [moF]
    split
    · rename_i hz
      have := hB i (by omega)
      omega
    · exact moF_b hB d (i + 1) (by omega)
set_option maxHeartbeats 4000000 in
theorem t_M_opening (S : St) (Q : Option AV → St → Prop) (hk : 0 ≤ S 0 19 ∧ S 0 19 ≤ 4) (hn : 2 ≤ S 0 21 ∧ S 0 21 ≤ 4) (hb : ∀ g, 0 ≤ g → g < S 0 19 → S 23 g = 1000000 ∨ (-1000 ≤ S 23 g ∧ S 23 g ≤ 2000))
    (hQ : ∀ S', Fr [25] [] S S' → Q (some (.inl (ogF (S 0 21) (S 0 22) (S 23) (S 0 19).toNat))) S') : Smm H_M_opening 0 [some (.inr (.inr 0)), none] [] S Q := by
  refine sound ok_M_opening [11] 40 ?_
  refine t_M_sorts S _ hk (fun S' hF hr => ?_)
  have e0 : S' 0 = S 0 := hF.c 0 rfl
  have q19 : S' 0 19 = S 0 19 := by rw [e0]
  have q21 : S' 0 21 = S 0 21 := by rw [e0]
  have q22 : S' 0 22 = S 0 22 := by rw [e0]
  have hl := isF_len (S 23) (S 0 19).toNat
  have hm : ∀ x ∈ isF (S 23) (S 0 19).toNat, x = 1000000 ∨ (-1000 ≤ x ∧ x ≤ 2000) := fun x hx => by
    obtain ⟨j, h1, h2⟩ := (isF_mem _ _).mp hx
    rw [h2]
    exact hb j (by omega) (by omega)
  have hQ' := hQ S' hF
  unfold ogF at hQ'
  generalize isF (S 23) (S 0 19).toNat = l at hr hl hm hQ'
  have hbd : ∀ j : Nat, j < l.length → l.getD j 0 = 1000000 ∨ (-1000 ≤ l.getD j 0 ∧ l.getD j 0 ≤ 2000) := fun j hj => hm _ (by
    rw [List.getD_eq_getElem?_getD, List.getElem?_eq_getElem hj]
    exact List.getElem_mem hj)
  have loop : ∀ (i : Int) (_ : Unit), (S 0 21 - 1 ≤ i ∧ moF (S 0 21).toNat (S 0 22) l i.toNat (S 0 19 - i).toNat = moF (S 0 21).toNat (S 0 22) l ((S 0 21).toNat - 1) ((S 0 19).toNat + 1 - (S 0 21).toNat)) → Smm H_M_opening 11 [some (.inr (.inr 0)), some (.inl i)] [] S' Q := by
    refine lp_up (P := fun i _ => Smm H_M_opening 11 [some (.inr (.inr 0)), some (.inl i)] [] S' Q) (fun i _ => S 0 21 - 1 ≤ i ∧ moF (S 0 21).toNat (S 0 22) l i.toNat (S 0 19 - i).toNat = moF (S 0 21).toNat (S 0 22) l ((S 0 21).toNat - 1) ((S 0 19).toNat + 1 - (S 0 21).toNat)) (S 0 19) ?_ ?_
    · rintro i - hi ⟨hi2, hi3⟩
      refine sound ok_M_opening [11] 20 ?_
      refine ⟨fun _ => ?_, fun h3 => absurd h3 (by omega)⟩
      rw [← hi3, show (S 0 19 - i).toNat = 0 by omega, moF] at hQ'
      exact hQ'
    · rintro i - hi ⟨hi2, hi3⟩ ih
      have hri := hr i.toNat (by omega)
      rw [show ((i.toNat : Nat) : Int) = i by omega] at hri
      have hri2 := hr (i - S 0 21 + 1).toNat (by omega)
      rw [show (((i - S 0 21 + 1).toNat : Nat) : Int) = i - S 0 21 + 1 by omega] at hri2
      have e1 : i32 (i32 (i - S' 0 21) + 1) = i - S 0 21 + 1 := by rw [q21]; unfold i32; omega
      have hb1 := hbd i.toNat (by omega)
      have hb2 := hbd (i - S 0 21 + 1).toNat (by omega)
      have e2 : i32 (S' 25 i - S' 25 (i32 (i32 (i - S' 0 21) + 1))) = l.getD i.toNat 0 - l.getD (i - S 0 21 + 1).toNat 0 := by rw [e1, hri, hri2]; unfold i32; omega
      rw [show (S 0 19 - i).toNat = (S 0 19 - (i + 1)).toNat + 1 by omega, moF, show i.toNat + 1 - (S 0 21).toNat = (i - S 0 21 + 1).toNat by omega, show i.toNat + 1 = (i + 1).toNat by omega] at hi3
      have go : ¬ (¬ l.getD i.toNat 0 = 1000000 ∧ l.getD i.toNat 0 - l.getD (i - S 0 21 + 1).toNat 0 ≤ S 0 22) → Smm H_M_opening 11 [some (.inr (.inr 0)), some (.inl (i32 (i + 1)))] [] S' Q := fun hz => by
        rw [if_neg hz] at hi3
        exact Smm.sub (ih () ⟨by omega, hi3⟩) ⟨Or.inr rfl, Or.inr (sI (by unfold i32; omega)), trivial⟩
      refine sound ok_M_opening [11] 60 ?_
      refine ⟨fun h3 => absurd h3 (by omega), fun _ => ?_⟩
      refine ⟨by omega, ?_⟩
      refine ⟨fun h3 => ?_, fun h3 => ?_⟩
      · rw [hri] at h3
        exact go (fun z => z.1 h3)
      · rw [hri] at h3
        refine ⟨by omega, ?_⟩
        refine ⟨by rw [e1]; omega, ?_⟩
        refine ⟨fun h4 => ?_, fun h4 => ?_⟩
        · rw [e2, q22] at h4
          exact go (fun z => absurd z.2 (by omega))
        · rw [e2, q22] at h4
          refine ⟨by omega, ?_⟩
          rw [if_pos ⟨h3, h4⟩] at hi3
          rw [← hi3, ← hri] at hQ'
          exact hQ'
  refine Smm.sub (loop (S 0 21 - 1) () ⟨Int.le_refl _, ?_⟩) ⟨Or.inr rfl, Or.inr (sI (by rw [q21]; unfold i32; omega)), trivial⟩
  rw [show (S 0 21 - 1).toNat = (S 0 21).toNat - 1 by omega, show (S 0 19 - (S 0 21 - 1)).toNat = (S 0 19).toNat + 1 - (S 0 21).toNat by omega]
/-- who turns first (of several the lowest); -1: nobody -/
def ftF (t : Int → Int) : Nat → Int
  | 0 => -1
  | g + 1 => if ¬ t g = 1000000 ∧ (ftF t g < 0 ∨ t g < t (ftF t g)) then g else ftF t g
theorem ftF_b (t : Int → Int) : ∀ k : Nat, -1 ≤ ftF t k ∧ ftF t k < k
  | 0 => by show -1 ≤ (-1 : Int) ∧ (-1 : Int) < 0; omega
  | k + 1 => by
    have := ftF_b t k
    rw [ftF]
    split <;> omega
theorem ftF_congr {t t' : Int → Int} : ∀ (k : Nat), (∀ j : Int, 0 ≤ j → j < k → t j = t' j) → ftF t k = ftF t' k
  | 0, _ => rfl
  | k + 1, h => by
    have ih := ftF_congr k (fun j h0 hj => h j h0 (by omega))
    have hb := ftF_b t' k
    rw [ftF, ftF, ih, h k (by omega) (by omega)]
    by_cases hz : ftF t' k < 0
    · simp [hz]
    · rw [h (ftF t' k) (by omega) (by omega)]
theorem t_M_firstToTurn (S : St) (Q : Option AV → St → Prop) (hk : 0 ≤ S 0 19 ∧ S 0 19 ≤ 4) (hQ : Q (some (.inl (ftF (S 23) (S 0 19).toNat))) S) : Smm H_M_firstToTurn 0 [some (.inr (.inr 0)), none, none] [] S Q := by
  have loop : ∀ (i : Int) (_ : Unit), (0 ≤ i ∧ i ≤ S 0 19) → Smm H_M_firstToTurn 4 [some (.inr (.inr 0)), some (.inl (ftF (S 23) i.toNat)), some (.inl i)] [] S Q := by
    refine lp_up (P := fun i _ => Smm H_M_firstToTurn 4 [some (.inr (.inr 0)), some (.inl (ftF (S 23) i.toNat)), some (.inl i)] [] S Q) (fun i _ => 0 ≤ i ∧ i ≤ S 0 19) (S 0 19) ?_ ?_
    · rintro i - hi hi2
      refine sound ok_M_firstToTurn [4] 20 ?_
      refine ⟨fun _ => ?_, fun h3 => absurd h3 (by omega)⟩
      rw [show i = S 0 19 by omega]
      exact hQ
    · rintro i - hi hi2 ih
      obtain ⟨k, rfl⟩ : ∃ k : Nat, i = k := ⟨i.toNat, by omega⟩
      have ih := ih () (by omega)
      rw [show ((k : Int) + 1).toNat = k + 1 by omega, ftF] at ih
      rw [show ((k : Int)).toNat = k by omega]
      have hb := ftF_b (S 23) k
      have no : ¬ (¬ S 23 k = 1000000 ∧ (ftF (S 23) k < 0 ∨ S 23 k < S 23 (ftF (S 23) k))) → Smm H_M_firstToTurn 4 [some (.inr (.inr 0)), some (.inl (ftF (S 23) k)), some (.inl (i32 ((k : Int) + 1)))] [] S Q := fun hz => by
        rw [if_neg hz] at ih
        exact Smm.sub ih ⟨Or.inr rfl, Or.inr rfl, Or.inr (sI (by unfold i32; omega)), trivial⟩
      have yes : (¬ S 23 k = 1000000 ∧ (ftF (S 23) k < 0 ∨ S 23 k < S 23 (ftF (S 23) k))) → Smm H_M_firstToTurn 4 [some (.inr (.inr 0)), some (.inl (k : Int)), some (.inl (i32 ((k : Int) + 1)))] [] S Q := fun hz => by
        rw [if_pos hz] at ih
        exact Smm.sub ih ⟨Or.inr rfl, Or.inr rfl, Or.inr (sI (by unfold i32; omega)), trivial⟩
      refine sound ok_M_firstToTurn [4] 60 ?_
      refine ⟨fun h3 => absurd h3 (by omega), fun _ => ?_⟩
      refine ⟨by omega, ?_⟩
      refine ⟨fun h3 => no (fun z => z.1 h3), fun h3 => ?_⟩
      refine ⟨fun h4 => yes ⟨h3, Or.inl h4⟩, fun h4 => ?_⟩
      refine ⟨by omega, ?_⟩
      refine ⟨by omega, ?_⟩
      exact ⟨fun h5 => no (fun z => by rcases z.2 with q | q <;> omega), fun h5 => yes ⟨h3, Or.inr h5⟩⟩
  refine sound ok_M_firstToTurn [4] 20 ?_
  exact loop 0 () (by omega)
/-- who turns first on a way -/
def fsM (T : St) (f : Int → Int) : Int := ftF (tnM T (smM T f)) (T 0 19).toNat
def gnF (T : St) (g : Int) (a : Int) (f : Int → Int) : Int := if opM T f then a + T 7 g else if fsM T f = g then a + T 8 g else a
theorem gnF_b {T : St} {g : Int} (h : 0 ≤ T 7 g ∧ T 7 g ≤ 99 ∧ 0 ≤ T 8 g ∧ T 8 g ≤ 99) : ∀ (l : List (Int → Int)) (a : Int), 0 ≤ a → 0 ≤ l.foldl (gnF T g) a ∧ l.foldl (gnF T g) a ≤ a + 99 * l.length
  | [], a, h0 => ⟨h0, by simp⟩
  | f :: l, a, h0 => by
    have h1 : 0 ≤ gnF T g a f ∧ gnF T g a f ≤ a + 99 := by
      unfold gnF
      split
      · omega
      · split <;> omega
    have := gnF_b h l (gnF T g a f) h1.1
    rw [List.foldl_cons, List.length_cons]
    omega
def aM_gain (S : St) (g : Int) : Int := if ¬ (¬ S 0 18 = 0 ∧ 0 ≤ g ∧ g < S 0 19) then -1 else (wyM (tl S)).foldl (gnF (tl S) g) 0
theorem t_M_gain (S : St) (g : Int) (Q : Option AV → St → Prop) (hL : ¬ S 0 18 = 0 → ldM S) (hp : plM S) (hQ : ∀ S', Fr [17, 18, 19, 20, 21, 22, 23, 24, 25, 26, 27, 28, 29, 31] [(0, 0), (0, 38)] S S' → Q (some (.inl (aM_gain S g))) S') : Smm H_M_gain 0 [some (.inr (.inr 0)), some (.inl g), none] [] S Q := by
  have e18 : th S 0 18 = S 0 18 := th_0 S (by decide)
  have e19 : th S 0 19 = S 0 19 := th_0 S (by decide)
  refine sound ok_M_gain [25] 60 ?_
  refine t_M_isGuard (th S) g _ (fun h1 => ?_) (fun h1 => ?_)
  · rw [e18, e19] at h1
    refine ⟨fun _ => ?_, fun z => absurd z (by decide)⟩
    have hl0 := hL h1.1
    have hA := tl_mAs hl0 hp
    have hk4 := hl0.1
    have p19 : tl S 0 19 = S 0 19 := tl_0 S (by decide) (by decide)
    have p7 : tl S 7 = S 7 := by unfold tl; rw [asS_c _ (by decide), th_c S (by decide)]
    have p8 : tl S 8 = S 8 := by unfold tl; rw [asS_c _ (by decide), th_c S (by decide)]
    have hpt := hl0.2.2.2.2.2.2 g h1.2.1 h1.2.2
    have hlen := wyM_len hA
    have loop : ∀ (post pre : List (Int → Int)) (f : Int → Int) (q : St × Int), wyM (tl S) = pre ++ f :: post → (Fr [21, 22, 23, 24, 25] [] (tl S) q.1 ∧ Wy q.1 f ∧ q.2 = pre.foldl (gnF (tl S) g) 0) → Smm H_M_gain 25 [some (.inr (.inr 0)), some (.inl g), some (.inl q.2)] [] q.1 Q := by
      refine lp_wy (P := fun _ (q : St × Int) => Smm H_M_gain 25 [some (.inr (.inr 0)), some (.inl g), some (.inl q.2)] [] q.1 Q) (fun pre f q => Fr [21, 22, 23, 24, 25] [] (tl S) q.1 ∧ Wy q.1 f ∧ q.2 = pre.foldl (gnF (tl S) g) 0) ?_
      rintro pre f post ⟨T, a⟩ hl ⟨hF, hW, ha⟩ ih
      dsimp only at hF hW ha ⊢
      have hSm : Sm (tl S) T := Sm.of hF rfl
      have hA' := mAs_sm hSm hA
      have hfm0 : f ∈ wyM (tl S) := by rw [hl]; exact List.mem_append_right _ List.mem_cons_self
      have hfm : f ∈ wyM T := by rw [wyM_sm hSm]; exact hfm0
      have hpl : pre.length < (wyM (tl S)).length := by rw [hl, List.length_append, List.length_cons]; omega
      have next : ∀ (T2 : St) (b : Int), Fr [25] [] T T2 → b = (gnF (tl S) g) a f → Smm H_M_gain 61 [some (.inr (.inr 0)), some (.inl g), some (.inl b)] [] T2 Q := by
        intro T2 b hF2 hb
        have hb2 : b = (pre ++ [f]).foldl (gnF (tl S) g) 0 := by rw [List.foldl_append, ← ha, hb]; rfl
        have hSm2 : Sm (tl S) T2 := Sm.of (hF.tr (hF2.mo rfl rfl)) rfl
        refine sound ok_M_gain [25, 68] 20 ?_
        refine t_M_nextW T2 pre f post _ (mAs_sm hSm2 hA) (by rw [wyM_sm hSm2]; exact hl) (fun i i0 i1 => ?_) (fun f' post' S3 hp hF3 hW3 => ?_) (fun S3 hp hF3 => ?_)
        · rw [hF2.c 21 rfl]
          exact hW.1 i i0 (by rw [hSm2.1] at i1; rw [hSm.1]; exact i1)
        · refine ⟨fun _ => ?_, fun z => absurd z (by decide)⟩
          exact Smm.sub (ih f' post' (S3, b) hp ⟨(hF.tr (hF2.mo rfl rfl)).tr (hF3.mo rfl rfl), hW3, hb2⟩) ⟨Or.inr rfl, Or.inr rfl, Or.inr rfl, trivial⟩
        · refine ⟨fun z => absurd rfl z, fun _ => ?_⟩
          have hx : b = (wyM (tl S)).foldl (gnF (tl S) g) 0 := by rw [hl, hp]; exact hb2
          have hFx := (hF.tr (hF2.mo rfl rfl)).tr (hF3.mo rfl rfl)
          rw [hx]
          have hq := hQ S3 ((tl_fr S).tr (hFx.mo rfl rfl))
          unfold aM_gain at hq
          rw [if_neg (by omega)] at hq
          refine sound ok_M_gain [] 20 ?_
          exact hq
      have q19 : T 0 19 = S 0 19 := by rw [hSm.1, p19]
      have hcn := gnF_b (T := tl S) (g := g) (by rw [p7, p8]; exact hpt) pre 0 (Int.le_refl 0)
      rw [← ha] at hcn
      have hap := Wy_ap hA' hW
      rw [apM_sm hSm] at hap
      refine sound ok_M_gain [61] 60 ?_
      refine t_M_doesOpen T _ hA'.1.2.1 ⟨hA'.2.1.2.1, hA'.2.1.2.2.1⟩ (Wy_b hA' hfm hW) (fun T2 hF2 hop => ?_) (fun T2 hF2 hop => ?_)
      · rw [hap, hSm.1] at hop
        have ho : opM (tl S) f = true := decide_eq_true hop
        have r7 : T2 7 = S 7 := by rw [hF2.c 7 rfl, hF.c 7 rfl, p7]
        refine ⟨fun z => absurd z (by decide), fun _ => ?_⟩
        refine ⟨by omega, ?_⟩
        refine next T2 _ hF2 ?_
        unfold gnF
        rw [ho, r7, p7]
        simp only [if_true]
        unfold i32
        omega
      · rw [hap, hSm.1] at hop
        have ho : opM (tl S) f = false := decide_eq_false hop
        refine ⟨fun _ => ?_, fun z => absurd rfl z⟩
        have r23 : T2 23 = T 23 := hF2.c 23 rfl
        have r0 : T2 0 = T 0 := hF2.c 0 rfl
        have r19 : T2 0 19 = S 0 19 := by rw [r0, q19]
        have efs : ftF (T2 23) (T2 0 19).toNat = fsM (tl S) f := by
          unfold fsM
          rw [r23, r19, p19]
          refine ftF_congr _ (fun j j0 j1 => ?_)
          rw [hW.2.2 j j0 (by omega), tnM_sm hSm, smM_sm hSm]
        refine t_M_firstToTurn T2 _ (by rw [r19]; omega) ?_
        rw [efs]
        refine ⟨fun h3 => ?_, fun h3 => ?_⟩
        · refine next T2 _ hF2 ?_
          unfold gnF
          rw [ho, if_neg (by decide), if_neg h3]
        · have r8 : T2 8 = S 8 := by rw [hF2.c 8 rfl, hF.c 8 rfl, p8]
          refine ⟨by omega, ?_⟩
          refine next T2 _ hF2 ?_
          unfold gnF
          rw [ho, if_neg (by decide), if_pos h3, r8, p8]
          unfold i32
          omega
    obtain ⟨r, hr⟩ := wy_first (err := (tl S) 18) ((tl S) 0 20).toNat (fun i hi => (hA.2.2 i (by omega) (by have := hA.1.1.1; omega)).1)
    refine t_M_asTold (th S) _ (by rw [th_0 S (by decide)]; have := hl0.2.1; omega) (by rw [th_0 S (by decide)]; have := hl0.1; omega) ?_
    refine t_M_firstWay (tl S) _ hA (fun T hF hW => ?_)
    exact loop r [] _ (T, 0) hr ⟨hF.mo rfl rfl, hW, rfl⟩
  · rw [e18, e19] at h1
    refine ⟨fun z => absurd rfl z, fun _ => ?_⟩
    have := hQ (th S) (th_fr S)
    unfold aM_gain at this
    rw [if_pos h1] at this
    exact this
