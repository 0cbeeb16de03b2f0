/-! the reference: sets -/
theorem tb_div (x j : Nat) : x.testBit j = decide (x / 2 ^ j % 2 = 1) := Nat.testBit_eq_decide_div_mod_eq
/-- a bit is taken away -/
theorem clr_nat {a s : Nat} (ha : a < 2147483648) (hs : s ≤ 30) : ∃ x : Nat, iand (a : Int) (ixor (ishl 1 (s : Int)) (-1)) = (x : Int) ∧ x ≤ a ∧ ∀ j, x.testBit j = (a.testBit j && decide (¬ j = s)) := by
  have h2 : 2 ^ s ≤ 2 ^ 30 := Nat.pow_le_pow_right (by omega) hs
  have e : iand (a : Int) (ixor (ishl 1 (s : Int)) (-1)) = (BitVec.ofNat 32 a &&& (BitVec.ofNat 32 (2 ^ s) ^^^ BitVec.allOnes 32)).toInt := by
    rw [ishl_nat hs]
    show ((Int32.ofInt (a : Int)).toBitVec &&& (Int32.ofInt ((Int32.ofInt ((2 ^ s : Nat) : Int) ^^^ Int32.ofInt (-1)).toInt)).toBitVec).toInt = _
    rw [Int32.ofInt_toInt]
    show ((Int32.ofInt (a : Int)).toBitVec &&& ((Int32.ofInt ((2 ^ s : Nat) : Int)).toBitVec ^^^ (Int32.ofInt (-1)).toBitVec)).toInt = _
    rw [bv_nat ha, bv_nat (a := 2 ^ s) (by omega)]
    rfl
  have hn : (BitVec.ofNat 32 a &&& (BitVec.ofNat 32 (2 ^ s) ^^^ BitVec.allOnes 32)).toNat = a &&& (2 ^ s ^^^ (2 ^ 32 - 1)) := by
    rw [BitVec.toNat_and, BitVec.toNat_xor, BitVec.toNat_allOnes, BitVec.toNat_ofNat, BitVec.toNat_ofNat, Nat.mod_eq_of_lt (by omega), Nat.mod_eq_of_lt (by omega)]
  have hle : a &&& (2 ^ s ^^^ (2 ^ 32 - 1)) ≤ a := Nat.and_le_left
  refine ⟨a &&& (2 ^ s ^^^ (2 ^ 32 - 1)), ?_, hle, fun j => ?_⟩
  · rw [e]
    exact toInt_nat hn (by omega)
  · rw [Nat.testBit_and, Nat.testBit_xor, Nat.testBit_two_pow_sub_one, Nat.testBit_two_pow]
    by_cases hj : j < 32
    · by_cases hjs : s = j
      · subst hjs; simp [hj]
      · simp [hj, hjs, Ne.symm hjs, show ¬ j = s from fun z => hjs z.symm]
    · have : a.testBit j = false := Nat.testBit_lt_two_pow (Nat.lt_of_lt_of_le ha (Nat.le_trans (show 2147483648 ≤ 2 ^ 31 by decide) (Nat.pow_le_pow_right (by omega) (by omega))))
      rw [this]; simp
/-- a number by its bits -/
def BtI (v : Int) (P : Nat → Bool) : Prop := ∃ x : Nat, v = x ∧ x < 65536 ∧ ∀ j, x.testBit j = P j
theorem BtI.congr {v : Int} {P P' : Nat → Bool} (h : BtI v P) (hp : ∀ j, P j = P' j) : BtI v P' := by
  obtain ⟨x, h1, h2, h3⟩ := h
  exact ⟨x, h1, h2, fun j => by rw [h3 j, hp j]⟩
theorem BtI.uniq {v v' : Int} {P : Nat → Bool} (h : BtI v P) (h' : BtI v' P) : v = v' := by
  obtain ⟨x, h1, h2, h3⟩ := h
  obtain ⟨y, h4, h5, h6⟩ := h'
  rw [h1, h4, Nat.eq_of_testBit_eq (fun j => (h3 j).trans (h6 j).symm)]
theorem BtI.bit {v : Int} {P : Nat → Bool} (h : BtI v P) {k : Nat} (hk : k < 32) : iand (ishr v (k : Int)) 1 = if P k = true then 1 else 0 := by
  obtain ⟨x, h1, h2, h3⟩ := h
  rw [h1, bit_nat (by omega) hk, ← h3 k, tb_div]
  by_cases z : x / 2 ^ k % 2 = 1
  · simp [z]
  · rw [if_neg (by simp [z])]
    omega
theorem BtI.clr {v : Int} {P : Nat → Bool} (h : BtI v P) {k : Nat} (hk : k ≤ 30) : BtI (iand v (ixor (ishl 1 (k : Int)) (-1))) (fun j => P j && decide (¬ j = k)) := by
  obtain ⟨x, h1, h2, h3⟩ := h
  obtain ⟨y, h4, h5, h6⟩ := clr_nat (a := x) (s := k) (by omega) hk
  exact ⟨y, by rw [h1, h4], by omega, fun j => by rw [h6 j, h3 j]⟩
theorem pw2 {w : Nat} (hw : 2 ≤ w ∧ w ≤ 4) : 4 ≤ 2 ^ w ∧ 2 ^ w ≤ 16 := by
  have : w = 2 ∨ w = 3 ∨ w = 4 := by omega
  rcases this with rfl | rfl | rfl <;> decide
theorem pw4 {w : Nat} (hw : 2 ≤ w ∧ w ≤ 4) : 16 ≤ 2 ^ (2 ^ w) ∧ 2 ^ (2 ^ w) ≤ 65536 := by
  have : w = 2 ∨ w = 3 ∨ w = 4 := by omega
  rcases this with rfl | rfl | rfl <;> decide
/-- all but the set of nobody -/
theorem BtI.all {w : Nat} (hw : 2 ≤ w ∧ w ≤ 4) : BtI (i32 (ishl 1 (ishl 1 (w : Int)) - 2)) (fun j => decide (1 ≤ j ∧ j < 2 ^ w)) := by
  have key : ∀ w : Nat, 2 ≤ w → w ≤ 4 → ∀ j, (2 ^ (2 ^ w) - 2).testBit j = decide (1 ≤ j ∧ j < 2 ^ w) := by
    intro w h1 h2 j
    rw [tb_div]
    have hz : 2 ^ (2 ^ w) - 2 < 65536 := by
      have : w = 2 ∨ w = 3 ∨ w = 4 := by omega
      rcases this with rfl | rfl | rfl <;> decide
    by_cases hj : j < 16
    · have h3 : w = 2 ∨ w = 3 ∨ w = 4 := by omega
      have h4 : j = 0 ∨ j = 1 ∨ j = 2 ∨ j = 3 ∨ j = 4 ∨ j = 5 ∨ j = 6 ∨ j = 7 ∨ j = 8 ∨ j = 9 ∨ j = 10 ∨ j = 11 ∨ j = 12 ∨ j = 13 ∨ j = 14 ∨ j = 15 := by omega
      rcases h3 with rfl | rfl | rfl <;> rcases h4 with rfl | rfl | rfl | rfl | rfl | rfl | rfl | rfl | rfl | rfl | rfl | rfl | rfl | rfl | rfl | rfl <;> decide
    · have h5 : 2 ^ 16 ≤ 2 ^ j := Nat.pow_le_pow_right (by omega) (by omega)
      have h6 : 2 ^ w ≤ 2 ^ 4 := Nat.pow_le_pow_right (by omega) h2
      rw [Nat.div_eq_of_lt (by omega)]
      have : ¬ (1 ≤ j ∧ j < 2 ^ w) := by omega
      simp [this]
  have hb := pw2 hw
  have hc := pw4 hw
  refine ⟨2 ^ (2 ^ w) - 2, ?_, by omega, key w hw.1 hw.2⟩
  rw [ishl_nat (by omega), ishl_nat (by omega), i32_id (by omega) (by omega)]
  omega
/-- the turns if just a set of guards turns -/
def msk (t : Int → Int) (set g : Int) : Int := if iand (ishr set g) 1 = 0 then 1000000 else t g
def opS (T : St) (f : Int → Int) (set : Nat) : Bool := decide (apF (T 0 21) (msk (tnM T (smM T f)) set) (T 0 19).toNat ≤ T 0 22)
def pS (T : St) (w : Nat) (l : List (Int → Int)) (j : Nat) : Bool := decide (1 ≤ j ∧ j < 2 ^ w) && l.all (fun f => opS T f j)
def sMap (t : Int → Int) (n : Int) (g : Int → Int) : Int → Int := fun j => if 0 ≤ j ∧ j < n then g j else t j
set_option maxHeartbeats 4000000 in
theorem t_M_setBits (S : St) (Q : Option AV → St → Prop) (hl0 : ldM S) (hp : plM S) (hQ : ∀ S' v, Fr [17, 18, 19, 20, 21, 22, 23, 24, 25, 26, 27, 28, 29, 31] [(0, 0), (0, 38)] S S' → BtI v (pS (tl S) (S 0 19).toNat (wyM (tl S))) → Q (some (.inl v)) S') : Smm H_M_setBits 0 [some (.inr (.inr 0)), none, none, none] [] (th S) Q := by
  have hA := tl_mAs hl0 hp
  have hk4 := hl0.1
  have hn5 := hl0.2.1
  have p19 : tl S 0 19 = S 0 19 := tl_0 S (by decide) (by decide)
  obtain ⟨w, hw⟩ : ∃ w : Nat, S 0 19 = w := ⟨(S 0 19).toNat, by omega⟩
  have hwb : 2 ≤ w ∧ w ≤ 4 := by omega
  rw [show (S 0 19).toNat = w by omega] at hQ
  have hK := pw2 hwb
  generalize hKe : 2 ^ w = K at hK
  have eK : ishl 1 (w : Int) = K := by rw [ishl_nat (by omega), hKe]
  have q19 : ∀ T, Fr [21, 22, 23, 24, 25, 26, 27, 28, 29, 31] [] (tl S) T → T 0 19 = w := fun T hF => by rw [hF.c 0 rfl, p19, hw]
  clear hw p19
  have hlen := wyM_len hA
  have loop : ∀ (post pre : List (Int → Int)) (f : Int → Int) (q : St × Int × Option AV × Option AV), wyM (tl S) = pre ++ f :: post → (Fr [21, 22, 23, 24, 25, 26, 27, 28, 29, 31] [] (tl S) q.1 ∧ Wy q.1 f ∧ BtI q.2.1 (pS (tl S) w pre)) → Smm H_M_setBits 19 [some (.inr (.inr 0)), some (.inl q.2.1), q.2.2.1, q.2.2.2] [] q.1 Q := by
    refine lp_wy (P := fun _ (q : St × Int × Option AV × Option AV) => Smm H_M_setBits 19 [some (.inr (.inr 0)), some (.inl q.2.1), q.2.2.1, q.2.2.2] [] q.1 Q) (fun pre f q => Fr [21, 22, 23, 24, 25, 26, 27, 28, 29, 31] [] (tl S) q.1 ∧ Wy q.1 f ∧ BtI q.2.1 (pS (tl S) w pre)) ?_
    rintro pre f post ⟨T, v0, y2, y3⟩ hl ⟨hF, hW, hI⟩ ih
    dsimp only at hF hW hI ⊢
    have hfm0 : f ∈ wyM (tl S) := by rw [hl]; exact List.mem_append_right _ List.mem_cons_self
    have hSm : Sm (tl S) T := Sm.of hF rfl
    have hof := wyM_of hA hfm0
    have hofs : ∀ i, 0 ≤ i → i < tl S 0 20 → T 21 i = f i := fun i i0 i1 => hW.1 i i0 (by rw [hSm.1]; exact i1)
    have htn : ∀ g : Int, 0 ≤ g → g < w → T 23 g = tnM (tl S) (smM (tl S) f) g := fun g g0 g1 => by
      rw [hW.2.2 g g0 (by rw [q19 T hF]; exact g1), tnM_sm hSm, smM_sm hSm]
    have tb : ∀ g : Int, 0 ≤ g → g < w → tnM (tl S) (smM (tl S) f) g = 1000000 ∨ (-1000 ≤ tnM (tl S) (smM (tl S) f) g ∧ tnM (tl S) (smM (tl S) f) g ≤ 2000) := fun g g0 g1 => by
      have := tnM_b hA.1 hof (g := g) g0 (by omega)
      omega
    have q21 : ∀ T2, Fr [21, 22, 23, 24, 25, 26, 27, 28, 29, 31] [] (tl S) T2 → T2 0 = tl S 0 := fun T2 h => h.c 0 rfl
    -- what goes on behind one set
    have nx : ∀ (T2 : St) (v : Int) (x3 : Option AV), Fr [21, 22, 23, 24, 25, 26, 27, 28, 29, 31] [] (tl S) T2 → (∀ i, 0 ≤ i → i < tl S 0 20 → T2 21 i = f i) → BtI v (pS (tl S) w (pre ++ [f])) → Smm H_M_setBits 152 [some (.inr (.inr 0)), some (.inl v), some (.inl (K : Int)), x3] [] T2 Q := by
      intro T2 v x3 hF2 ho2 hI2
      have hSm2 : Sm (tl S) T2 := Sm.of hF2 rfl
      refine sound ok_M_setBits [19] 20 ?_
      refine t_M_nextW T2 pre f post _ (mAs_sm hSm2 hA) (by rw [wyM_sm hSm2]; exact hl) (fun i i0 i1 => ho2 i i0 (by rw [hSm2.1] at i1; exact i1)) (fun f' post' S3 hp hF3 hW3 => ?_) (fun S3 hp hF3 => ?_)
      · refine ⟨fun _ => ?_, fun z => absurd z (by decide)⟩
        exact ih f' post' (S3, v, some (.inl (K : Int)), x3) hp ⟨hF2.tr (hF3.mo rfl rfl), hW3, hI2⟩
      · refine ⟨fun z => absurd rfl z, fun _ => ?_⟩
        refine hQ S3 v ((tl_fr S).tr ((hF2.tr (hF3.mo rfl rfl)).mo rfl rfl)) ?_
        rw [hl, hp]
        exact hI2
    have sets : ∀ (i : Int) (q : St × Int × Option AV), ((1 ≤ i ∧ i ≤ K) ∧ Fr [21, 22, 23, 24, 25, 26, 27, 28, 29, 31] [] (tl S) q.1 ∧ (∀ i, 0 ≤ i → i < tl S 0 20 → q.1 21 i = f i) ∧ (∀ g : Int, 0 ≤ g → g < w → q.1 23 g = tnM (tl S) (smM (tl S) f) g) ∧ BtI q.2.1 (fun j => pS (tl S) w pre j && (decide (i ≤ j) || opS (tl S) f j))) → Smm H_M_setBits 21 [some (.inr (.inr 0)), some (.inl q.2.1), some (.inl i), q.2.2] [] q.1 Q := by
      refine lp_up (P := fun i (q : St × Int × Option AV) => Smm H_M_setBits 21 [some (.inr (.inr 0)), some (.inl q.2.1), some (.inl i), q.2.2] [] q.1 Q) _ K ?_ ?_
      · rintro i ⟨T2, v, x3⟩ hi ⟨hi2, hF2, ho2, ht2, hI2⟩
        dsimp only at hF2 ho2 ht2 hI2 ⊢
        rw [show i = K by omega] at hI2 ⊢
        refine sound ok_M_setBits [152] 20 ?_
        refine ⟨fun _ => nx T2 v x3 hF2 ho2 (hI2.congr (fun j => ?_)), fun h3 => absurd h3 (by rw [q19 T2 hF2, eK]; omega)⟩
        unfold pS
        rw [List.all_append, List.all_cons, List.all_nil, hKe]
        by_cases z : 1 ≤ j ∧ j < K
        · have : ¬ (K : Int) ≤ j := by omega
          simp [z, this]
        · simp [z]
      · rintro i ⟨T2, v, x3⟩ hi ⟨hi2, hF2, ho2, ht2, hI2⟩ ih2
        obtain ⟨s, rfl⟩ : ∃ k : Nat, i = k := ⟨i.toNat, by omega⟩
        dsimp only at hF2 ho2 ht2 hI2 ih2 ⊢
        have hs : s < K := by omega
        have hs1 : 1 ≤ s := by omega
        have hK16 := hK.2
        clear hi hi2
        have hbit := hI2.bit (k := s) (by omega)
        have go : ∀ (T3 : St) (v3 : Int) (y : Option AV), Fr [21, 22, 23, 24, 25, 26, 27, 28, 29, 31] [] (tl S) T3 → (∀ i, 0 ≤ i → i < tl S 0 20 → T3 21 i = f i) → (∀ g : Int, 0 ≤ g → g < w → T3 23 g = tnM (tl S) (smM (tl S) f) g) → BtI v3 (fun j => pS (tl S) w pre j && (decide ((s : Int) + 1 ≤ j) || opS (tl S) f j)) → Smm H_M_setBits 146 [some (.inr (.inr 0)), some (.inl v3), some (.inl (s : Int)), y] [] T3 Q := by
          intro T3 v3 y g1 g2 g3 g4
          refine sound ok_M_setBits [21] 20 ?_
          exact Smm.sub (ih2 (T3, v3, y) ⟨by omega, g1, g2, g3, g4⟩) ⟨Or.inr rfl, Or.inr rfl, Or.inr (sI (i32_id (by omega) (by omega)).symm), Or.inr rfl, trivial⟩
        have gp : ∀ b : Bool, (pS (tl S) w pre s = false ∨ opS (tl S) f s = b) → ∀ j, (pS (tl S) w pre j && (decide ((s : Int) ≤ j) || opS (tl S) f j) && (b || decide (¬ j = s) || !(pS (tl S) w pre s))) = (pS (tl S) w pre j && (decide ((s : Int) + 1 ≤ j) || opS (tl S) f j)) := by
          intro b hb j
          by_cases hj : j = s
          · subst hj
            rcases hb with hb | hb
            · simp [hb]
            · rw [hb]
              have : ¬ ((j : Int) + 1 ≤ j) := by omega
              simp only [this, Int.le_refl, decide_true, decide_false]
              cases pS (tl S) w pre j <;> cases b <;> rfl
          · have : decide ((s : Int) ≤ j) = decide ((s : Int) + 1 ≤ j) := by
              by_cases z : (s : Int) ≤ j
              · have z2 : (s : Int) + 1 ≤ j := by omega
                simp [z, z2]
              · have z2 : ¬ (s : Int) + 1 ≤ j := by omega
                simp [z, z2]
            rw [this]
            simp [hj]
        refine sound ok_M_setBits [44, 146] 30 ?_
        refine ⟨fun h3 => absurd h3 (by rw [q19 T2 hF2, eK]; exact nle_n hs), fun _ => ?_⟩
        refine ⟨fun h3 => ?_, fun h3 => ?_⟩
        · -- the set is there still
          rw [hbit] at h3
          have hps : pS (tl S) w pre s = true := by
            by_cases z : pS (tl S) w pre s = true
            · exact z
            · rw [if_neg (by simp [z])] at h3
              exact absurd rfl h3
          -- the turns are put back
          have restore : ∀ (i : Int) (q : St × Int), ((0 ≤ i ∧ i ≤ w) ∧ Fr [21, 22, 23, 24, 25, 26, 27, 28, 29, 31] [] (tl S) q.1 ∧ (∀ i, 0 ≤ i → i < tl S 0 20 → q.1 21 i = f i) ∧ (∀ g, 0 ≤ g → g < i → q.1 23 g = tnM (tl S) (smM (tl S) f) g) ∧ (∀ g : Int, 0 ≤ g → g < w → q.1 31 g = tnM (tl S) (smM (tl S) f) g) ∧ BtI q.2 (fun j => pS (tl S) w pre j && (decide ((s : Int) + 1 ≤ j) || opS (tl S) f j))) → Smm H_M_setBits 120 [some (.inr (.inr 0)), some (.inl q.2), some (.inl (s : Int)), some (.inl i)] [] q.1 Q := by
            refine lp_up (P := fun i (q : St × Int) => Smm H_M_setBits 120 [some (.inr (.inr 0)), some (.inl q.2), some (.inl (s : Int)), some (.inl i)] [] q.1 Q) _ w ?_ ?_
            · rintro i ⟨T3, v3⟩ hi ⟨hi2, g1, g2, g3, g4, g5⟩
              dsimp only at g1 g2 g3 g4 g5 ⊢
              refine sound ok_M_setBits [146] 20 ?_
              exact ⟨fun _ => go T3 v3 _ g1 g2 (fun g g0 gw => g3 g g0 (by omega)) g5, fun h4 => absurd h4 (by rw [q19 T3 g1]; omega)⟩
            · rintro i ⟨T3, v3⟩ hi ⟨hi2, g1, g2, g3, g4, g5⟩ ih3
              dsimp only at g1 g2 g3 g4 g5 ih3 ⊢
              refine sound ok_M_setBits [120] 30 ?_
              refine ⟨fun h4 => absurd h4 (by rw [q19 T3 g1]; omega), fun _ => ?_⟩
              refine ⟨by omega, ?_⟩
              refine ⟨by omega, ?_⟩
              refine Smm.sub (ih3 (up T3 23 i (T3 31 i), v3) ⟨by omega, g1.up _ _ _ rfl, fun j j0 j1 => ?_, fun g g0 gi => ?_, fun g g0 gi => ?_, g5⟩) ⟨Or.inr rfl, Or.inr rfl, Or.inr rfl, Or.inr (sI (i32_id (by omega) (by omega)).symm), trivial⟩
              · dsimp only; rw [up_o _ _ _ (by decide)]; exact g2 j j0 j1
              · dsimp only
                by_cases hg : g = i
                · rw [hg, up_s]; exact g4 i (by omega) (by omega)
                · rw [up_n _ _ _ hg]; exact g3 g g0 (by omega)
              · dsimp only; rw [up_o _ _ _ (by decide)]; exact g4 g g0 gi
          have test : ∀ (T3 : St) (x : Option AV), Fr [21, 22, 23, 24, 25, 26, 27, 28, 29, 31] [] (tl S) T3 → (∀ i, 0 ≤ i → i < tl S 0 20 → T3 21 i = f i) → (∀ g : Int, 0 ≤ g → g < w → T3 23 g = msk (tnM (tl S) (smM (tl S) f)) s g) → (∀ g : Int, 0 ≤ g → g < w → T3 31 g = tnM (tl S) (smM (tl S) f) g) → Smm H_M_setBits 103 [some (.inr (.inr 0)), some (.inl v), some (.inl (s : Int)), x] [] T3 Q := by
            intro T3 x g1 g2 g3 g4
            have eap : apF (T3 0 21) (T3 23) (T3 0 19).toNat = apF (tl S 0 21) (msk (tnM (tl S) (smM (tl S) f)) s) (tl S 0 19).toNat := by
              rw [q21 T3 g1]
              refine apF_congr (fun j j0 j1 => g3 j j0 ?_)
              have := q19 T3 g1
              rw [q21 T3 g1] at this
              omega
            have mb : ∀ g, 0 ≤ g → g < T3 0 19 → T3 23 g = 1000000 ∨ (-1000 ≤ T3 23 g ∧ T3 23 g ≤ 2000) := fun g g0 gw => by
              rw [q19 T3 g1] at gw
              rw [g3 g g0 gw]
              unfold msk
              split
              · exact Or.inl rfl
              · exact tb g g0 gw
            refine sound ok_M_setBits [120] 40 ?_
            refine t_M_doesOpen T3 _ (by rw [q19 T3 g1]; omega) (by rw [q21 T3 g1]; exact ⟨hA.2.1.2.1, hA.2.1.2.2.1⟩) mb (fun T4 hF4 hop => ?_) (fun T4 hF4 hop => ?_)
            · rw [eap, q21 T3 g1] at hop
              have ho : opS (tl S) f s = true := decide_eq_true hop
              refine ⟨fun _ => ?_, fun z => absurd z (by decide)⟩
              refine restore 0 (T4, v) ⟨by omega, g1.tr (hF4.mo rfl rfl), fun i i0 i1 => ?_, fun g g0 gi => absurd gi (by omega), fun g g0 gi => ?_, hI2.congr (fun j => ?_)⟩
              · dsimp only; rw [hF4.c 21 rfl]; exact g2 i i0 i1
              · dsimp only; rw [hF4.c 31 rfl]; exact g4 g g0 gi
              · rw [← gp true (Or.inr ho) j]; simp
            · rw [eap, q21 T3 g1] at hop
              have ho : opS (tl S) f s = false := decide_eq_false hop
              refine ⟨fun z => absurd rfl z, fun _ => ?_⟩
              refine restore 0 (T4, iand v (ixor (ishl 1 (s : Int)) (-1))) ⟨by omega, g1.tr (hF4.mo rfl rfl), fun i i0 i1 => ?_, fun g g0 gi => absurd gi (by omega), fun g g0 gi => ?_, (hI2.clr (k := s) (by omega)).congr (fun j => ?_)⟩
              · dsimp only; rw [hF4.c 21 rfl]; exact g2 i i0 i1
              · dsimp only; rw [hF4.c 31 rfl]; exact g4 g g0 gi
              · rw [← gp false (Or.inr ho) j, hps]; simp
          have mask : ∀ (i : Int) (T3 : St), ((0 ≤ i ∧ i ≤ w) ∧ Fr [21, 22, 23, 24, 25, 26, 27, 28, 29, 31] [] (tl S) T3 ∧ (∀ i, 0 ≤ i → i < tl S 0 20 → T3 21 i = f i) ∧ (∀ g, 0 ≤ g → g < i → T3 23 g = msk (tnM (tl S) (smM (tl S) f)) s g) ∧ (∀ g : Int, i ≤ g → g < w → T3 23 g = tnM (tl S) (smM (tl S) f) g) ∧ (∀ g : Int, 0 ≤ g → g < w → T3 31 g = tnM (tl S) (smM (tl S) f) g)) → Smm H_M_setBits 72 [some (.inr (.inr 0)), some (.inl v), some (.inl (s : Int)), some (.inl i)] [] T3 Q := by
            refine lp_up (P := fun i T3 => Smm H_M_setBits 72 [some (.inr (.inr 0)), some (.inl v), some (.inl (s : Int)), some (.inl i)] [] T3 Q) _ w ?_ ?_
            · rintro i T3 hi ⟨hi2, g1, g2, g3, g4, g5⟩
              refine sound ok_M_setBits [103] 20 ?_
              exact ⟨fun _ => test T3 _ g1 g2 (fun g g0 gw => g3 g g0 (by omega)) g5, fun h4 => absurd h4 (by rw [q19 T3 g1]; omega)⟩
            · rintro i T3 hi ⟨hi2, g1, g2, g3, g4, g5⟩ ih3
              refine sound ok_M_setBits [72] 30 ?_
              refine ⟨fun h4 => absurd h4 (by rw [q19 T3 g1]; omega), fun _ => ?_⟩
              refine ⟨fun h4 => ?_, fun h4 => ?_⟩
              · refine Smm.sub (ih3 T3 ⟨by omega, g1, g2, fun g g0 gi => ?_, fun g gi gw => g4 g (by omega) gw, g5⟩) ⟨Or.inr rfl, Or.inr rfl, Or.inr rfl, Or.inr (sI (i32_id (by omega) (by omega)).symm), trivial⟩
                by_cases hg : g = i
                · rw [hg, g4 i (by omega) (by omega)]
                  unfold msk
                  rw [if_neg h4]
                · exact g3 g g0 (by omega)
              · refine ⟨by omega, ?_⟩
                refine Smm.sub (ih3 (up T3 23 i 1000000) ⟨by omega, g1.up _ _ _ rfl, fun j j0 j1 => ?_, fun g g0 gi => ?_, fun g gi gw => ?_, fun g g0 gi => ?_⟩) ⟨Or.inr rfl, Or.inr rfl, Or.inr rfl, Or.inr (sI (i32_id (by omega) (by omega)).symm), trivial⟩
                · rw [up_o _ _ _ (by decide)]; exact g2 j j0 j1
                · by_cases hg : g = i
                  · rw [hg, up_s]
                    unfold msk
                    rw [if_pos h4]
                  · rw [up_n _ _ _ hg]; exact g3 g g0 (by omega)
                · rw [up_n _ _ _ (by omega)]; exact g4 g (by omega) gw
                · rw [up_o _ _ _ (by decide)]; exact g5 g g0 gi
          have save : ∀ (i : Int) (T3 : St), ((0 ≤ i ∧ i ≤ w) ∧ Fr [21, 22, 23, 24, 25, 26, 27, 28, 29, 31] [] (tl S) T3 ∧ (∀ i, 0 ≤ i → i < tl S 0 20 → T3 21 i = f i) ∧ (∀ g : Int, 0 ≤ g → g < w → T3 23 g = tnM (tl S) (smM (tl S) f) g) ∧ (∀ g, 0 ≤ g → g < i → T3 31 g = tnM (tl S) (smM (tl S) f) g)) → Smm H_M_setBits 44 [some (.inr (.inr 0)), some (.inl v), some (.inl (s : Int)), some (.inl i)] [] T3 Q := by
            refine lp_up (P := fun i T3 => Smm H_M_setBits 44 [some (.inr (.inr 0)), some (.inl v), some (.inl (s : Int)), some (.inl i)] [] T3 Q) _ w ?_ ?_
            · rintro i T3 hi ⟨hi2, g1, g2, g3, g4⟩
              refine sound ok_M_setBits [72] 20 ?_
              exact ⟨fun _ => mask 0 T3 ⟨by omega, g1, g2, fun g g0 gi => absurd gi (by omega), fun g g0 gw => g3 g g0 gw, fun g g0 gw => g4 g g0 (by omega)⟩, fun h4 => absurd h4 (by rw [q19 T3 g1]; omega)⟩
            · rintro i T3 hi ⟨hi2, g1, g2, g3, g4⟩ ih3
              refine sound ok_M_setBits [44] 30 ?_
              refine ⟨fun h4 => absurd h4 (by rw [q19 T3 g1]; omega), fun _ => ?_⟩
              refine ⟨by omega, ?_⟩
              refine ⟨by omega, ?_⟩
              refine Smm.sub (ih3 (up T3 31 i (T3 23 i)) ⟨by omega, g1.up _ _ _ rfl, fun j j0 j1 => ?_, fun g g0 gi => ?_, fun g g0 gi => ?_⟩) ⟨Or.inr rfl, Or.inr rfl, Or.inr rfl, Or.inr (sI (i32_id (by omega) (by omega)).symm), trivial⟩
              · rw [up_o _ _ _ (by decide)]; exact g2 j j0 j1
              · rw [up_o _ _ _ (by decide)]; exact g3 g g0 gi
              · by_cases hg : g = i
                · rw [hg, up_s]; exact g3 i (by omega) (by omega)
                · rw [up_n _ _ _ hg]; exact g4 g g0 (by omega)
          exact save 0 T2 ⟨by omega, hF2, ho2, ht2, fun g g0 gi => absurd gi (by omega)⟩
        · rw [hbit] at h3
          have hps : pS (tl S) w pre s = false := by
            by_cases z : pS (tl S) w pre s = true
            · rw [if_pos (by simp [z])] at h3
              exact absurd h3 (by decide)
            · simpa using z
          refine go T2 v _ hF2 ho2 ht2 (hI2.congr (fun j => ?_))
          rw [← gp true (Or.inl hps) j]; simp
    refine sound ok_M_setBits [21] 20 ?_
    refine sets 1 (T, v0, y3) ⟨by omega, hF, hofs, htn, hI.congr (fun j => ?_)⟩
    unfold pS
    by_cases z : 1 ≤ j
    · have : (1 : Int) ≤ j := by omega
      simp [this]
    · simp [z]
  obtain ⟨r, hr⟩ := wy_first (err := tl S 18) (tl S 0 20).toNat (fun i hi => (hA.2.2 i (by omega) (by have := hA.1.1.1; omega)).1)
  refine sound ok_M_setBits [19] 30 ?_
  refine t_M_asTold (th S) _ (by rw [th_0 S (by decide)]; omega) (by rw [th_0 S (by decide)]; omega) ?_
  refine t_M_firstWay (tl S) _ hA (fun T hF hW => ?_)
  have hall := BtI.all hwb
  rw [← q19 (tl S) (Fr.rf _ _ _)] at hall
  refine loop r [] _ (T, i32 (ishl 1 (ishl 1 (tl S 0 19)) - 2), none, none) hr ⟨hF.mo rfl rfl, hW, hall.congr (fun j => ?_)⟩
  unfold pS
  simp
