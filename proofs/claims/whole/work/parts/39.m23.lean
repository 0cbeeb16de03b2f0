/-! the reference: draws, nights, images -/
theorem jdiv_pos {a b : Int} (ha : 0 ≤ a) (ha2 : a ≤ 9223372036854775807) (hb : 0 < b) (hb2 : b ≤ 9223372036854775807) : jdiv a b = a / b := by
  unfold jdiv
  rw [Int64.toInt_div, toInt_i64, toInt_i64, i64_id (by omega) ha2, i64_id (by omega) hb2, Int.tdiv_eq_ediv_of_nonneg ha]
  have h1 := Int.ediv_nonneg ha (Int.le_of_lt hb)
  have h2 := Int.ediv_le_self b ha
  generalize a / b = q at *
  show Int.bmod q 18446744073709551616 = q
  simp only [Int.bmod]
  split <;> omega
theorem ofInt_div64 {a b : Int} (ha : 0 ≤ a) (ha2 : a ≤ 9223372036854775807) (hb : 0 < b) (hb2 : b ≤ 9223372036854775807) : Int64.ofInt a / Int64.ofInt b = Int64.ofInt (a / b) := by
  have h := jdiv_pos ha ha2 hb hb2
  unfold jdiv at h
  rw [← Int64.ofInt_toInt (Int64.ofInt a / Int64.ofInt b), h]
theorem jrem_pos {a b : Int} (ha : 0 ≤ a) (ha2 : a ≤ 9223372036854775807) (hb : 0 < b) (hb2 : b ≤ 9223372036854775807) : jrem a b = a % b := by
  unfold jrem
  rw [ofInt_div64 ha ha2 hb hb2, ← Int64.ofInt_mul, ← Int64.ofInt_sub, toInt_i64]
  have h1 : a - a / b * b = a % b := by rw [Int.emod_def, Int.mul_comm]
  rw [h1]
  have h2 := Int.emod_nonneg a (Int.ne_of_gt hb)
  have h3 := Int.emod_lt_of_pos a hb
  exact i64_id (by omega) (by omega)
theorem jushr33 (a : Int) : 0 ≤ jushr a 33 ∧ jushr a 33 < 2147483648 := by
  have e : jushr a 33 = (((Int64.ofInt a).toUInt64.toBitVec >>> 33)).toInt := rfl
  have hn : (((Int64.ofInt a).toUInt64.toBitVec >>> 33)).toNat < 2147483648 := by
    rw [BitVec.toNat_ushiftRight, Nat.shiftRight_eq_div_pow]
    have := (Int64.ofInt a).toUInt64.toBitVec.isLt
    omega
  rw [e, BitVec.toInt_eq_toNat_cond, if_pos (by omega)]
  omega
def drN (x : Int) : Int := i64 (i64 (x * 6364136223846793005) + 1442695040888963407)
def drV (x m : Int) : Int := i32 (jrem (jushr x 33) m)
theorem drV_b (x : Int) {m : Int} (h : 1 ≤ m ∧ m ≤ 7) : 0 ≤ drV x m ∧ drV x m < m := by
  have h1 := jushr33 x
  unfold drV
  rw [jrem_pos h1.1 (by omega) (by omega) (by omega)]
  have h2 := Int.emod_nonneg (jushr x 33) (show m ≠ 0 by omega)
  have h3 := Int.emod_lt_of_pos (jushr x 33) (show 0 < m by omega)
  rw [i32_id (by omega) (by omega)]
  exact ⟨h2, h3⟩
theorem t_M_draw (S : St) (m : Int) (Q : Option AV → St → Prop) (hm : 1 ≤ m ∧ m ≤ 7) (hQ : Q (some (.inl (drV (drN (S 0 51)) m))) (up S 0 51 (drN (S 0 51)))) : Smm H_M_draw 0 [some (.inr (.inr 0)), some (.inl m)] [] S Q := by
  refine sound ok_M_draw [] 60 ?_
  refine ⟨by omega, ?_⟩
  exact hQ
def dxF (x : Int) : Nat → Int
  | 0 => x
  | k + 1 => drN (dxF x k)
/-- the offs that are drawn -/
def ngO (S : St) (s : Int) : Int := drV (dxF (S 0 51) (s.toNat + 1)) (2 * S 11 s + 1) - S 11 s
def ngB (S : St) : Int := if apM (tl S) (ngO S) ≤ S 0 22 then 1 else 0
def Sm2 (S S' : St) : Prop := (S' 0 19 = S 0 19 ∧ S' 0 20 = S 0 20 ∧ S' 0 31 = S 0 31 ∧ S' 0 38 = S 0 38) ∧ S' 12 = S 12 ∧ S' 13 = S 13 ∧ S' 15 = S 15 ∧ S' 16 = S 16 ∧ S' 17 = S 17 ∧ S' 19 = S 19 ∧ S' 20 = S 20
theorem Sm2.of {X : List Nat} {Y : List (Nat × Int)} {S S' : St} (h : Fr X Y S S') (hX : ([(0, 19), (0, 20), (0, 31), (0, 38)].all (fun (q : Nat × Int) => !(X.contains q.1 || Y.contains q)) && [12, 13, 15, 16, 17, 19, 20].all (fun c => !(X.contains c || Y.any (fun q => Nat.beq q.1 c)))) = true) : Sm2 S S' := by
  have h1 := Bool.and_eq_true_iff.mp hX
  have k1 : ∀ q ∈ ([(0, 19), (0, 20), (0, 31), (0, 38)] : List (Nat × Int)), S' q.1 q.2 = S q.1 q.2 := by
    intro q hq
    have := List.all_eq_true.mp h1.1 q hq
    exact h.s q.1 q.2 (by simpa using this)
  have k2 : ∀ c ∈ ([12, 13, 15, 16, 17, 19, 20] : List Nat), S' c = S c := by
    intro c hc
    have := List.all_eq_true.mp h1.2 c hc
    exact h.c c (by simpa using this)
  exact ⟨⟨k1 (0, 19) (by simp), k1 (0, 20) (by simp), k1 (0, 31) (by simp), k1 (0, 38) (by simp)⟩, k2 _ (by simp), k2 _ (by simp), k2 _ (by simp), k2 _ (by simp), k2 _ (by simp), k2 _ (by simp), k2 _ (by simp)⟩
theorem mOk_s2 {S S' : St} (h : Sm2 S S') (k : mOk S) : mOk S' := by
  obtain ⟨⟨a1, a2, a3, a4⟩, h1, h2, h3, h4, h5, h7, h8⟩ := h
  unfold mOk plM at *
  rw [a1, a2, a3, h1, h2, h3, h4, h5, h7, h8]
  exact k
theorem smM_s2 {S S' : St} (h : Sm2 S S') : smM S' = smM S := by
  obtain ⟨⟨a1, a2, a3, a4⟩, h1, h2, h3, h4, h5, h7, h8⟩ := h
  funext off
  unfold smM
  rw [a2, a4, h1, h2, h5, h7]
theorem tnM_s2 {S S' : St} (h : Sm2 S S') : tnM S' = tnM S := by
  obtain ⟨⟨a1, a2, a3, a4⟩, h1, h2, h3, h4, h5, h7, h8⟩ := h
  funext f g
  unfold tnM
  rw [a2, h3, h4, h7, h8]
/-- behind a night -/
def ngS (S T : St) : Prop := Fr [17, 18, 19, 20, 21, 22, 23, 24, 25, 26, 27, 28, 29, 31, 32, 33, 34] [(0, 0), (0, 38), (0, 51), (0, 52)] S T ∧ T 0 52 = S 0 52 + 1 ∧ T 0 51 = dxF (S 0 51) (S 0 20).toNat ∧ (T 34 (S 0 52) = S 0 51 ∧ ∀ j, ¬ j = S 0 52 → T 34 j = S 34 j) ∧ (T 33 (S 0 52) = ngB S ∧ ∀ j, ¬ j = S 0 52 → T 33 j = S 33 j) ∧ (∀ g, 0 ≤ g → g < S 0 19 → T 32 (4 * S 0 52 + g) = tnM (tl S) (smM (tl S) (ngO S)) g) ∧ ∀ j, ¬ (4 * S 0 52 ≤ j ∧ j < 4 * S 0 52 + S 0 19) → T 32 j = S 32 j
set_option maxHeartbeats 4000000 in
theorem t_M_night (S : St) (Q : Option AV → St → Prop) (hN : 0 ≤ S 0 52 ∧ S 0 52 ≤ 40) (hL : ¬ S 0 18 = 0 → ldM S) (hp : plM S) (h0 : (S 0 18 = 0 ∨ S 0 52 = 40) → Q (some (.inl (-1))) (th S)) (h1 : ¬ S 0 18 = 0 → ¬ S 0 52 = 40 → ∀ T, ngS S T → Q (some (.inl (ngB S))) T) : Smm H_M_night 0 [some (.inr (.inr 0)), none] [] S Q := by
  have e18 : th S 0 18 = S 0 18 := th_0 S (by decide)
  have e52 : th S 0 52 = S 0 52 := th_0 S (by decide)
  refine sound ok_M_night [42] 60 ?_
  refine ⟨fun g1 => h0 (Or.inl (e18 ▸ g1)), fun g1 => ?_⟩
  refine ⟨fun g2 => ?_, fun g2 => h0 (Or.inr (e52 ▸ g2))⟩
  replace g1 : ¬ S 0 18 = 0 := fun z => g1 (e18.trans z)
  replace g2 : ¬ S 0 52 = 40 := fun z => g2 (e52.trans z)
  have h1 := h1 g1 g2
  have hl0 := hL g1
  have hk4 := hl0.1
  have hn5 := hl0.2.1
  have hA := tl_mAs hl0 hp
  have p19 : tl S 0 19 = S 0 19 := tl_0 S (by decide) (by decide)
  have p20 : tl S 0 20 = S 0 20 := tl_0 S (by decide) (by decide)
  have p51 : tl S 0 51 = S 0 51 := tl_0 S (by decide) (by decide)
  have p52 : tl S 0 52 = S 0 52 := tl_0 S (by decide) (by decide)
  have p22 : tl S 0 22 = S 0 22 := tl_0 S (by decide) (by decide)
  have p11 : tl S 11 = S 11 := (tl_fr S).c _ rfl
  refine t_M_asTold (th S) _ (by rw [th_0 S (by decide)]; omega) (by rw [th_0 S (by decide)]; omega) ?_
  have heb : ∀ s, 0 ≤ s → s < S 0 20 → 0 ≤ S 11 s ∧ S 11 s ≤ 3 := fun s s0 s1 => ⟨(hl0.2.2.2.1 s s0 s1).2.2.1, (hl0.2.2.2.1 s s0 s1).2.2.2.1⟩
  have hob : ∀ s, 0 ≤ s → s < S 0 20 → -3 ≤ ngO S s ∧ ngO S s ≤ 3 := fun s s0 s1 => by
    have h2 := heb s s0 s1
    have h3 := drV_b (dxF (S 0 51) (s.toNat + 1)) (m := 2 * S 11 s + 1) (by omega)
    unfold ngO
    omega
  have b52 : 0 ≤ tl S 0 52 ∧ tl S 0 52 < 40 := by omega
  refine ⟨b52, ?_⟩
  have hof : ofOk (tl S 0 20) (ngO S) := fun s s0 s1 => hob s s0 (by rw [← p20]; exact s1)
  have fin : ∀ (i : Int) (T : St), ((0 ≤ i ∧ i ≤ S 0 19) ∧ Fr [21, 22, 23, 24, 25, 32, 34] [(0, 51)] (tl S) T ∧ T 0 51 = dxF (S 0 51) (S 0 20).toNat ∧ (T 34 (S 0 52) = S 0 51 ∧ ∀ j, ¬ j = S 0 52 → T 34 j = S 34 j) ∧ T 33 = S 33 ∧ (∀ g, 0 ≤ g → g < S 0 19 → T 23 g = tnM (tl S) (smM (tl S) (ngO S)) g) ∧ (∀ g, 0 ≤ g → g < i → T 32 (4 * S 0 52 + g) = tnM (tl S) (smM (tl S) (ngO S)) g) ∧ ∀ j, ¬ (4 * S 0 52 ≤ j ∧ j < 4 * S 0 52 + i) → T 32 j = S 32 j) → Smm H_M_night 89 [some (.inr (.inr 0)), some (.inl i)] [] T Q := by
    refine lp_up (P := fun i T => Smm H_M_night 89 [some (.inr (.inr 0)), some (.inl i)] [] T Q) _ (S 0 19) ?_ ?_
    · rintro i T hi ⟨hi2, hF, d1, d2, d3, d4, d5, d6⟩
      rw [show i = S 0 19 by omega] at d5 d6 ⊢
      have q19 : T 0 19 = S 0 19 := by rw [hF.s 0 19 rfl, p19]
      have q21 : T 0 21 = tl S 0 21 := hF.s 0 21 rfl
      have q22 : T 0 22 = S 0 22 := by rw [hF.s 0 22 rfl, p22]
      have q52 : T 0 52 = S 0 52 := by rw [hF.s 0 52 rfl, p52]
      have eap : apF (T 0 21) (T 23) (T 0 19).toNat = apM (tl S) (ngO S) := by
        unfold apM
        rw [q19, q21, p19]
        exact apF_congr (fun j j0 j1 => d4 j j0 (by omega))
      have last : ∀ (T2 : St) (v : Int), v = ngB S → Fr [25] [] T T2 → Smm H_M_night 134 [some (.inr (.inr 0)), some (.inl (S 0 19))] [.inl v, .inl (S 0 52), .inr (.inr 33)] T2 Q := by
        intro T2 v hv hF2
        have q52' : T2 0 52 = S 0 52 := by rw [hF2.c 0 rfl, q52]
        have f52 : up T2 33 (S 0 52) v 0 52 = S 0 52 := by rw [up_o _ _ _ (by decide), q52']
        have v01 : v = 0 ∨ v = 1 := by
          rw [hv]; unfold ngB; split
          · exact Or.inr rfl
          · exact Or.inl rfl
        have n1 : i32 (S 0 52 + 1) = S 0 52 + 1 := i32_id (by omega) (by omega)
        have n2 : i32 (i32 (S 0 52 + 1) - 1) = S 0 52 := by rw [n1, i32_id (by omega) (by omega)]; omega
        have b40 : 0 ≤ S 0 52 ∧ S 0 52 < 40 := by omega
        have hq := h1 (up (up T2 33 (S 0 52) v) 0 52 (i32 (S 0 52 + 1))) ⟨?_, ?_, ?_, ⟨?_, ?_⟩, ⟨?_, ?_⟩, ?_, ?_⟩
        · rw [← hv] at hq
          rw [← f52] at hq n2 b40
          have n3 : up (up T2 33 (S 0 52) v) 0 52 (i32 (S 0 52 + 1)) 0 52 = i32 (S 0 52 + 1) := up_s _ _ _ _
          have n4 : up (up T2 33 (S 0 52) v) 0 52 (i32 (S 0 52 + 1)) 33 (S 0 52) = v := by rw [up_o _ _ _ (by decide), up_s]
          rw [f52] at hq n2 b40
          refine sound ok_M_night [145] 40 ?_
          refine ⟨b40, ?_⟩
          refine ⟨v01, ?_⟩
          have go : Smm H_M_night 145 [some (.inr (.inr 0)), some (.inl (S 0 19))] [] (up (up T2 33 (S 0 52) v) 0 52 (i32 (S 0 52 + 1))) Q := by
            refine sound ok_M_night [] 40 ?_
            refine ⟨by rw [n3, n2]; exact b40, ?_⟩
            refine ⟨fun z => ?_, fun z => ?_⟩
            · rw [n3, n2, n4] at z
              rw [z] at hq ⊢
              exact hq
            · rw [n3, n2, n4] at z
              rw [show v = 1 from v01.resolve_left z] at hq ⊢
              exact hq
          rw [← f52] at go
          rw [f52] at go
          have e : up T2 33 (S 0 52) v 0 52 + 1 = S 0 52 + 1 := by rw [f52]
          rw [← e] at go
          exact go
        · exact (tl_fr S).mo rfl rfl |>.tr (((hF.mo rfl rfl).tr (hF2.mo rfl rfl)).up _ _ _ rfl |>.up _ _ _ rfl)
        · rw [up_s, n1]
        · rw [up_n _ _ _ (by decide), up_o _ _ _ (by decide), hF2.c 0 rfl, d1]
        · rw [up_o _ _ _ (by decide), up_o _ _ _ (by decide), hF2.c 34 rfl]; exact d2.1
        · intro j hj
          rw [up_o _ _ _ (by decide), up_o _ _ _ (by decide), hF2.c 34 rfl]; exact d2.2 j hj
        · rw [up_o _ _ _ (by decide), up_s, hv]
        · intro j hj
          rw [up_o _ _ _ (by decide), up_n _ _ _ hj, hF2.c 33 rfl, d3]
        · intro g g0 g1
          rw [up_o _ _ _ (by decide), up_o _ _ _ (by decide), hF2.c 32 rfl]; exact d5 g g0 g1
        · intro j hj
          rw [up_o _ _ _ (by decide), up_o _ _ _ (by decide), hF2.c 32 rfl]; exact d6 j hj
      have at122 : Smm H_M_night 134 [some (.inr (.inr 0)), some (.inl (S 0 19))] [] T Q → True := fun _ => trivial
      clear at122
      refine sound ok_M_night [134] 40 ?_
      refine ⟨fun _ => ?_, fun h3 => absurd h3 (by omega)⟩
      refine t_M_doesOpen T _ (by omega) (by rw [q21]; exact ⟨hA.2.1.2.1, hA.2.1.2.2.1⟩) (fun g g0 g1 => ?_) (fun T2 hF2 hop => ?_) (fun T2 hF2 hop => ?_)
      · rw [d4 g g0 (by omega)]
        have := tnM_b hA.1 hof (g := g) g0 (by omega)
        omega
      · rw [eap, q22] at hop
        have := last T2 1 (by unfold ngB; rw [if_pos hop]) hF2
        rw [← q52] at this
        exact this
      · rw [eap, q22] at hop
        have := last T2 0 (by unfold ngB; rw [if_neg hop]) hF2
        rw [← q52] at this
        exact this
    · rintro i T hi ⟨hi2, hF, d1, d2, d3, d4, d5, d6⟩ ih
      have q19 : T 0 19 = S 0 19 := by rw [hF.s 0 19 rfl, p19]
      have q52 : T 0 52 = S 0 52 := by rw [hF.s 0 52 rfl, p52]
      have e1 : i32 (i32 (4 * T 0 52) + i) = 4 * S 0 52 + i := by rw [q52]; unfold i32; omega
      have b1 : 0 ≤ 4 * S 0 52 + i ∧ 4 * S 0 52 + i < 160 := by omega
      have b2 : 0 ≤ i ∧ i < 4 := by omega
      refine sound ok_M_night [89] 40 ?_
      refine ⟨fun h3 => absurd h3 (by omega), fun _ => ?_⟩
      refine ⟨b2, ?_⟩
      refine ⟨by rw [e1]; exact b1, ?_⟩
      refine Smm.sub (ih (up T 32 (i32 (i32 (4 * T 0 52) + i)) (T 23 i)) ?_) ⟨Or.inr rfl, Or.inr (sI (i32_id (by omega) (by omega)).symm), trivial⟩
      rw [e1]
      refine ⟨by omega, hF.up _ _ _ rfl, ?_, ⟨?_, fun j hj => ?_⟩, ?_, fun g g0 g1 => ?_, fun g g0 g1 => ?_, fun j hj => ?_⟩
      · rw [up_o _ _ _ (by decide)]; exact d1
      · rw [up_o _ _ _ (by decide)]; exact d2.1
      · rw [up_o _ _ _ (by decide)]; exact d2.2 j hj
      · rw [up_o _ _ _ (by decide)]; exact d3
      · rw [up_o _ _ _ (by decide)]; exact d4 g g0 g1
      · by_cases hg : g = i
        · rw [hg, up_s]; exact d4 i (by omega) (by omega)
        · rw [up_n _ _ _ (by omega)]; exact d5 g g0 (by omega)
      · rw [up_n _ _ _ (by omega)]; exact d6 j (by omega)
  have first : ∀ (i : Int) (T : St), ((0 ≤ i ∧ i ≤ S 0 20) ∧ Fr [21, 34] [(0, 51)] (tl S) T ∧ T 0 51 = dxF (S 0 51) i.toNat ∧ (T 34 (S 0 52) = S 0 51 ∧ ∀ j, ¬ j = S 0 52 → T 34 j = S 34 j) ∧ ∀ s, 0 ≤ s → s < i → T 21 s = ngO S s) → Smm H_M_night 42 [some (.inr (.inr 0)), some (.inl i)] [] T Q := by
    refine lp_up (P := fun i T => Smm H_M_night 42 [some (.inr (.inr 0)), some (.inl i)] [] T Q) _ (S 0 20) ?_ ?_
    · rintro i T hi ⟨hi2, hF, d1, d2, d3⟩
      rw [show i = S 0 20 by omega] at d1 d3 ⊢
      have hS2 : Sm2 (tl S) T := Sm2.of hF rfl
      have q20 : T 0 20 = S 0 20 := by rw [hF.s 0 20 rfl, p20]
      have hsm : smM T (T 21) = smM (tl S) (ngO S) := by
        rw [smM_s2 hS2]
        unfold smM
        exact snF_congr _ (fun k hk => d3 k (by omega) (by rw [p20] at hk; omega))
      refine sound ok_M_night [89] 20 ?_
      refine ⟨fun _ => ?_, fun h3 => absurd h3 (by omega)⟩
      refine t_M_goes T _ (mOk_s2 hS2 hA.1) (fun s s0 s1 => by rw [d3 s s0 (by omega)]; exact hob s s0 (by omega)) (fun T2 hF2 hs2 ht2 => ?_)
      have q19 : T 0 19 = S 0 19 := by rw [hF.s 0 19 rfl, p19]
      refine fin 0 T2 ⟨by omega, (hF.mo rfl rfl).tr (hF2.mo rfl rfl), ?_, ⟨?_, fun j hj => ?_⟩, ?_, fun g g0 g1 => ?_, fun g g0 g1 => absurd g1 (by omega), fun j _ => ?_⟩
      · rw [hF2.c 0 rfl]; exact d1
      · rw [hF2.c 34 rfl]; exact d2.1
      · rw [hF2.c 34 rfl]; exact d2.2 j hj
      · rw [hF2.c 33 rfl, hF.c 33 rfl]; exact (tl_fr S).c _ rfl
      · rw [ht2 g g0 (by omega), hsm, tnM_s2 hS2]
      · rw [hF2.c 32 rfl, hF.c 32 rfl, (tl_fr S).c 32 rfl]
    · rintro i T hi ⟨hi2, hF, d1, d2, d3⟩ ih
      have q20 : T 0 20 = S 0 20 := by rw [hF.s 0 20 rfl, p20]
      have q11 : T 11 = S 11 := by rw [hF.c 11 rfl, p11]
      obtain ⟨k, rfl⟩ : ∃ k : Nat, i = k := ⟨i.toNat, by omega⟩
      have he := heb k (by omega) hi
      have e1 : i32 (i32 (2 * T 11 k) + 1) = 2 * S 11 k + 1 := by rw [q11]; unfold i32; omega
      have b2 : 0 ≤ (k : Int) ∧ (k : Int) < 5 := by omega
      refine sound ok_M_night [42] 60 ?_
      refine ⟨fun h3 => absurd h3 (by omega), fun _ => ?_⟩
      refine ⟨b2, ?_⟩
      refine t_M_draw T _ _ (by rw [e1]; omega) ?_
      rw [e1]
      refine ⟨b2, ?_⟩
      refine ⟨b2, ?_⟩
      have e11 : up T 0 51 (drN (T 0 51)) 11 = S 11 := by rw [up_o _ _ _ (by decide), q11]
      have hv := drV_b (drN (T 0 51)) (m := 2 * S 11 k + 1) (by omega)
      refine Smm.sub (ih (up (up T 0 51 (drN (T 0 51))) 21 k (i32 (drV (drN (T 0 51)) (2 * S 11 k + 1) - up T 0 51 (drN (T 0 51)) 11 k))) ⟨by omega, (hF.up _ _ _ rfl).up _ _ _ rfl, ?_, ⟨?_, fun j hj => ?_⟩, fun s s0 s1 => ?_⟩) ⟨Or.inr rfl, Or.inr (sI (i32_id (by omega) (by omega)).symm), trivial⟩
      · rw [up_o _ _ _ (by decide), up_s, d1, show ((k : Int) + 1).toNat = k + 1 by omega, show ((k : Int)).toNat = k by omega]; rfl
      · rw [up_o _ _ _ (by decide), up_o _ _ _ (by decide)]; exact d2.1
      · rw [up_o _ _ _ (by decide), up_o _ _ _ (by decide)]; exact d2.2 j hj
      · by_cases hs : s = k
        · rw [hs, up_s, e11, d1]
          unfold ngO
          rw [d1] at hv
          rw [show ((k : Int)).toNat = k by omega] at hv ⊢
          exact i32_id (by omega) (by omega)
        · rw [up_n _ _ _ hs, up_o _ _ _ (by decide)]
          exact d3 s s0 (by omega)
  refine first 0 (up (tl S) 34 (tl S 0 52) (tl S 0 51)) ⟨by omega, (Fr.rf _ _ _).up _ _ _ rfl, ?_, ⟨?_, fun j hj => ?_⟩, fun s s0 s1 => absurd s1 (by omega)⟩
  · rw [up_o _ _ _ (by decide), p51]; rfl
  · rw [p52, up_s, p51]
  · rw [p52, up_n _ _ _ hj]; exact congrFun ((tl_fr S).c 34 rfl) j
