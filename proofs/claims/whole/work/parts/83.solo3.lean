/-! a solo's tallies -/
def oI (P : Int → (Int → Int) → Bool) (N w : Int) (pre : List (Int → Int)) (S : St) : Prop := ∀ j, 0 ≤ j → j < 50 → S 112 j = if j < N then w * ((pre.countP (P j) : Nat) : Int) else 0
theorem cnt_1 (P : (Int → Int) → Bool) (pre : List (Int → Int)) (f : Int → Int) : (((pre ++ [f]).countP P : Nat) : Int) = ((pre.countP P : Nat) : Int) + inB (P f) := by
  rw [List.countP_append, List.countP_cons, List.countP_nil]
  unfold inB
  split <;> push_cast <;> omega
theorem oI_b {P : Int → (Int → Int) → Bool} {N w : Int} {pre : List (Int → Int)} {S : St} {M : Nat} (h : oI P N w pre S) (hw : 1 ≤ w) (hl : pre.length ≤ M) (hM : w * (M : Int) ≤ 16807) : ∀ j, 0 ≤ j → j < 50 → 0 ≤ S 112 j ∧ S 112 j ≤ 16807 := fun j j0 j1 => by
  rw [h j j0 j1]
  have := wg_mul (a := pre.countP (P j)) hw (Nat.le_trans List.countP_le_length hl) hM
  split <;> omega
theorem spL_len {n : Nat} {b : Int} {l : List Int} (hn : 2 ≤ n) (hl : l.length ≤ 4) : (spL n b l).length ≤ 4 := by
  unfold spL
  split
  · simp
  · exact Nat.le_trans (spS_len _ _ _ _) (by omega)
theorem spS_b {n : Nat} {b : Int} {l : List Int} (hn : 2 ≤ n) (hb : 0 ≤ b ∧ b ≤ 9) (hm : ∀ i : Nat, i < l.length → -5000 ≤ l.getD i 0 ∧ l.getD i 0 ≤ 5000) : ∀ k : Nat, k + n ≤ l.length + 2 → (-2000000 ≤ (spS n b l k).1 ∧ (spS n b l k).1 ≤ 6000) ∧ ∀ p ∈ (spS n b l k).2, (-2000000 ≤ p.1 ∧ p.1 ≤ 4000000) ∧ (-2000000 ≤ p.2 ∧ p.2 ≤ 4000000)
  | 0, _ => ⟨by show -2000000 ≤ (-2000000 : Int) ∧ (-2000000 : Int) ≤ 6000; omega, fun p hp => by simp [spS] at hp⟩
  | k + 1, hk => by
    obtain ⟨h1, h2⟩ := spS_b hn hb hm k (by omega)
    have a1 := hm k (by omega)
    have a2 := hm (k + n - 2) (by omega)
    rw [spS]
    split
    · refine ⟨by dsimp only; omega, fun p hp => ?_⟩
      rw [List.mem_append] at hp
      rcases hp with hp | hp
      · exact h2 p hp
      · rw [List.mem_singleton] at hp
        rw [hp]
        dsimp only
        omega
    · exact ⟨h1, h2⟩
theorem spL_b {n : Nat} {b : Int} {l : List Int} (hn : 2 ≤ n) (hb : 0 ≤ b ∧ b ≤ 9) (hm : ∀ i : Nat, i < l.length → -5000 ≤ l.getD i 0 ∧ l.getD i 0 ≤ 5000) : ∀ p ∈ spL n b l, (-2000000 ≤ p.1 ∧ p.1 ≤ 4000000) ∧ (-2000000 ≤ p.2 ∧ p.2 ≤ 4000000) := fun p hp => by
  unfold spL at hp
  split at hp
  · rw [List.mem_singleton] at hp
    rw [hp]
    dsimp only
    omega
  · by_cases z : n ≤ l.length + 2
    · exact (spS_b hn hb hm (l.length + 2 - n) (by omega)).2 p hp
    · rw [show l.length + 2 - n = 0 by omega] at hp
      simp [spS] at hp
theorem sp_at {sp : List (Int × Int)} (h : ∀ p ∈ sp, (-2000000 ≤ p.1 ∧ p.1 ≤ 4000000) ∧ (-2000000 ≤ p.2 ∧ p.2 ≤ 4000000)) : ∀ j : Nat, j < sp.length → (-2000000 ≤ (sp.getD j (0, 0)).1 ∧ (sp.getD j (0, 0)).1 ≤ 4000000) ∧ (-2000000 ≤ (sp.getD j (0, 0)).2 ∧ (sp.getD j (0, 0)).2 ≤ 4000000) := fun j hj => by
  rw [List.getD_eq_getElem?_getD, List.getElem?_eq_getElem hj]
  exact h _ (List.getElem_mem hj)
/-- one row of numbers, added -/
theorem so_row {T S : St} {f : Int → Int} (hT : mAs T) (hf : ofOk (T 0 20) f) {n k : Nat} (hn : T 0 21 = n) (hk : T 0 19 = k) {g : Int} (hg : 0 ≤ g ∧ g < k) {h base : Int} (hh : (h = 1000000 ∧ 1000000 ≤ base ∧ base ≤ 3000000) ∨ (base = h ∧ -2000 ≤ h ∧ h ≤ 2000)) (st w : Int) (hst : 0 ≤ st ∧ st + 10 ≤ 50) (hw : 0 ≤ w ∧ w ≤ 16807) (hS : spI 113 115 116 S (spL n (T 0 22) (gaF (tnM T (smM T f)) (fun j => decide (¬ j = g)) k))) (hv : ∀ j, 0 ≤ j → j < 50 → 0 ≤ S 112 j ∧ S 112 j ≤ 16807) (Q : Option AV → St → Prop) (hQ : ∀ S', Fr [112] [] S S' → (∀ j, S' 112 j = S 112 j + if st ≤ j ∧ j ≤ st + 9 then w * inB (op1 T f g (plN h (j - st))) else 0) → Q none S') : Smm H_Solo_addOpen 0 [some (.inr (.inr 111)), some (.inl st), some (.inl base), some (.inl w), none] [] S Q := by
  have hnd := hT.2.1
  have hk4 := hT.1.2.1
  have hrw := rw_bd hT.1 hf (p := fun j => decide (¬ j = g)) (k := k) (by omega)
  have hgl := gaF_len (tnM T (smM T f)) (fun j => decide (¬ j = g)) k
  refine t_soAdd S _ st base w Q hS (spL_len (by omega) (by omega)) (sp_at (spL_b (by omega) (by omega) (lm_at hrw))) hst (by omega) hw hv (fun S' hF d => hQ S' hF (fun j => ?_))
  rw [d j]
  by_cases z : st ≤ j ∧ j ≤ st + 9
  · rw [if_pos z, if_pos z, so_cov hT hf hn hk hg (h := h) (base := base) (d := j - st) (by omega) hh]
  · rw [if_neg z, if_neg z]
theorem s10 {s : Int} (h : 0 ≤ s ∧ s < 5) : i32 (s * 10) = s * 10 := i32_id (by omega) (by omega)
theorem be_h {T : St} {f : Int → Int} (hT : mOk T) (hf : ofOk (T 0 20) f) {g s : Int} (hg : 0 ≤ g ∧ g < 4) (hs : 0 ≤ s ∧ s < T 0 20) : (hdM (T 19) (smM T f) g s = 1000000 ∧ 1000000 ≤ smM T f s + dl (T 19 (5 * g + s)) ∧ smM T f s + dl (T 19 (5 * g + s)) ≤ 3000000) ∨ (smM T f s + dl (T 19 (5 * g + s)) = hdM (T 19) (smM T f) g s ∧ -2000 ≤ hdM (T 19) (smM T f) g s ∧ hdM (T 19) (smM T f) g s ≤ 2000) := by
  have hn5 := hT.1.1
  have hb := sm_bd hT hf s hs.1 hs.2
  have hl := hT.1.2.2 (5 * g + s) (by omega) (by omega)
  have hd := dl_b hl
  have := dl_hear hb hl
  have h4 : hdM (T 19) (smM T f) g s = 1000000 ∨ (-1000 ≤ hdM (T 19) (smM T f) g s ∧ hdM (T 19) (smM T f) g s ≤ 1000) := by
    unfold hdM
    split <;> omega
  omega
set_option maxHeartbeats 2000000 in
theorem so_body (T S : St) (f : Int → Int) (pre : List (Int → Int)) (g z w : Int) (M : Nat) (x6 x7 x8 : Int) (x9 x10 : Option AV) (Q : Option AV → St → Prop) (hT : mAs T) (hf : ofOk (T 0 20) f) (hW : wkI_l T S f) (hg : 0 ≤ g ∧ g < T 0 19) (hz : z = 0 ∨ z = 1) (hw2 : S 95 2 = w) (hw : 1 ≤ w ∧ w ≤ 16807) (hl : pre.length + 1 ≤ M) (hM : w * (M : Int) ≤ 16807) (h : oI (beP T g z) (10 * T 0 20) w pre S)
    (hQ : ∀ (S' : St) (v : Int) (v' : Option AV), Fr [112, 114, 115, 116] [(113, 1), (113, 4)] S S' → oI (beP T g z) (10 * T 0 20) w (pre ++ [f]) S' → Smm H_Solo_trySimple 113 [some (.inr (.inr 111)), some (.inr (.inr 95)), some (.inr (.inr 63)), some (.inr (.inr 80)), some (.inl g), some (.inl z), some (.inl x6), some (.inl x7), some (.inl x8), some (.inl v), v'] [] S' Q) : Smm H_Solo_trySimple 48 [some (.inr (.inr 111)), some (.inr (.inr 95)), some (.inr (.inr 63)), some (.inr (.inr 80)), some (.inl g), some (.inl z), some (.inl x6), some (.inl x7), some (.inl x8), x9, x10] [] S Q := by
  have hk4 := hT.1.2.1
  have hn5 := hT.1.1.1
  have hnd := hT.2.1
  obtain ⟨k, hk⟩ : ∃ k : Nat, T 0 19 = k := ⟨(T 0 19).toNat, by omega⟩
  obtain ⟨n, hn⟩ : ∃ n : Nat, T 0 21 = n := ⟨(T 0 21).toNat, by omega⟩
  have hgk : 0 ≤ g ∧ g < (k : Int) := by omega
  have hg4 : 0 ≤ g ∧ g < 4 := by omega
  have loop : ∀ (s : Int) (q : St × Option AV), ((0 ≤ s ∧ s ≤ T 0 20) ∧ Fr [112, 114, 115, 116] [(113, 1), (113, 4)] S q.1 ∧ spI 113 115 116 q.1 (spL n (T 0 22) (gaF (tnM T (smM T f)) (fun j => decide (¬ j = g)) k)) ∧ ∀ j, 0 ≤ j → j < 50 → q.1 112 j = S 112 j + if j < 10 * s then w * inB (beP T g z j f) else 0) → Smm H_Solo_trySimple 58 [some (.inr (.inr 111)), some (.inr (.inr 95)), some (.inr (.inr 63)), some (.inr (.inr 80)), some (.inl g), some (.inl z), some (.inl x6), some (.inl x7), some (.inl x8), some (.inl s), q.2] [] q.1 Q := by
    refine lp_up (P := fun s (q : St × Option AV) => Smm H_Solo_trySimple 58 [some (.inr (.inr 111)), some (.inr (.inr 95)), some (.inr (.inr 63)), some (.inr (.inr 80)), some (.inl g), some (.inl z), some (.inl x6), some (.inl x7), some (.inl x8), some (.inl s), q.2] [] q.1 Q) _ (T 0 20) ?_ ?_
    · rintro s ⟨S1, y⟩ hs ⟨hs2, hF, hsp, d⟩
      dsimp only at hF hsp d ⊢
      have hW1 := wkI_fr_l hW hF rfl rfl
      have w2 : S1 63 1 = T 0 20 := hW1.1.2.1.1.2.1
      refine sound ok_Solo_trySimple [58, 113] 20 ?_
      refine ⟨fun _ => hQ S1 _ _ hF (fun j j0 j1 => ?_), fun z => absurd z (by rw [w2]; omega)⟩
      rw [d j j0 j1, h j j0 j1]
      by_cases u : j < 10 * T 0 20
      · rw [if_pos u, if_pos u, if_pos (show j < 10 * s by omega), cnt_1, Int.mul_add]
      · rw [if_neg u, if_neg u, if_neg (show ¬ j < 10 * s by omega)]
        rfl
    · rintro s ⟨S1, y⟩ hs ⟨hs2, hF, hsp, d⟩ ih
      dsimp only at hF hsp d ih ⊢
      have hW1 := wkI_fr_l hW hF rfl rfl
      have w2 : S1 63 1 = T 0 20 := hW1.1.2.1.1.2.1
      have w3 : S1 95 2 = w := by rw [hF.c 95 rfl]; exact hw2
      have hng : ¬ S1 63 1 ≤ s := by rw [w2]; omega
      have bs : 0 ≤ s ∧ s < 5 := by omega
      have bs2 : 0 ≤ s ∧ s < T 0 20 := by omega
      have hs1 : 0 ≤ s + 1 ∧ s + 1 ≤ T 0 20 := by omega
      have hv : ∀ j, 0 ≤ j → j < 50 → 0 ≤ S1 112 j ∧ S1 112 j ≤ 16807 := fun j j0 j1 => by
        rw [d j j0 j1, h j j0 j1]
        have m1 := wg_mul (a := pre.countP (beP T g z j)) hw.1 (Nat.le_trans List.countP_le_length (by omega)) hM
        have m2 := wg_mul (a := (pre ++ [f]).countP (beP T g z j)) hw.1 (Nat.le_trans List.countP_le_length (by simp; omega)) hM
        rw [cnt_1, Int.mul_add] at m2
        by_cases u : j < 10 * T 0 20
        · rw [if_pos u]
          split <;> omega
        · rw [if_neg u, if_neg (show ¬ j < 10 * s by omega)]
          omega
      have e := s10 bs
      have e3 : s + 1 = i32 (s + 1) := (i32_id (by clear e; omega) (by clear e; omega)).symm
      have hst : 0 ≤ s * 10 ∧ s * 10 + 10 ≤ 50 := by clear e e3; omega
      have at90 : ∀ (hh base : Int), hh = (if z = 0 then hdM (T 19) (smM T f) g s else smM T f s) → ((hh = 1000000 ∧ 1000000 ≤ base ∧ base ≤ 3000000) ∨ (base = hh ∧ -2000 ≤ hh ∧ hh ≤ 2000)) → Smm H_Solo_trySimple 90 [some (.inr (.inr 111)), some (.inr (.inr 95)), some (.inr (.inr 63)), some (.inr (.inr 80)), some (.inl g), some (.inl z), some (.inl x6), some (.inl x7), some (.inl x8), some (.inl s), y] [.inl base] S1 Q := by
        intro hh base he hb
        have go := fun Q' hq' => so_row hT hf hn hk hgk hb (s * 10) w hst (by clear e e3; omega) hsp hv Q' hq'
        rw [← e, ← w3] at go
        refine sound ok_Solo_trySimple [58] 40 ?_
        refine go _ (fun S2 hF2 d2 => ?_)
        rw [e, w3] at d2
        refine Smm.sub (ih (S2, some (.inl base)) ⟨hs1, hF.tr (hF2.mo rfl rfl), ?_, fun j j0 j1 => ?_⟩) ⟨Or.inr rfl, Or.inr rfl, Or.inr rfl, Or.inr rfl, Or.inr rfl, Or.inr rfl, Or.inr rfl, Or.inr rfl, Or.inr rfl, Or.inr (sI e3), Or.inr rfl, trivial⟩
        · refine ⟨?_, fun j hj => ?_⟩
          · dsimp only; rw [hF2.c 113 rfl]; exact hsp.1
          · dsimp only; rw [hF2.c 115 rfl, hF2.c 116 rfl]; exact hsp.2 j hj
        · dsimp only
          rw [d2 j, d j j0 j1]
          clear e e3 go
          by_cases u : j < 10 * s
          · rw [if_pos u, if_pos (show j < 10 * (s + 1) by omega), if_neg (show ¬ (s * 10 ≤ j ∧ j ≤ s * 10 + 9) by omega), Int.add_zero]
          · rw [if_neg u, Int.add_zero]
            by_cases v : j < 10 * (s + 1)
            · rw [if_pos v, if_pos (show s * 10 ≤ j ∧ j ≤ s * 10 + 9 by omega)]
              have hj : beP T g z j f = op1 T f g (plN hh (j - s * 10)) := by
                unfold beP
                rw [show j / 10 = s by omega, show j % 10 = j - s * 10 by omega, ← he]
              rw [hj]
            · rw [if_neg v, if_neg (show ¬ (s * 10 ≤ j ∧ j ≤ s * 10 + 9) by omega)]
      refine sound ok_Solo_trySimple [58, 90] 40 ?_
      refine ⟨fun z => absurd z hng, fun _ => ?_⟩
      refine ⟨fun hz0 => ?_, fun hz0 => ?_⟩
      · refine t_hearing T S1 f g s _ hT.1 hf hW1 hg4 bs2 ?_
        exact at90 (hdM (T 19) (smM T f) g s) _ (by rw [if_pos hz0]) (be_h hT.1 hf hg4 bs2)
      · refine ⟨bs, ?_⟩
        have ea := hW1.2.2.1 s bs2.1 bs2.2
        have hb := sm_bd hT.1 hf s bs2.1 bs2.2
        rw [← ea] at hb
        exact at90 (S1 100 s) (S1 100 s) (by rw [if_neg hz0, ea]) (by clear e e3; omega)
  refine sound ok_Solo_trySimple [58] 40 ?_
  refine t_soFind T S f g n k _ hT hf hW hn hk (fun S1 hF1 hs1 => ?_)
  refine loop 0 (S1, x10) ⟨by omega, hF1.mo rfl rfl, hs1, fun j j0 j1 => ?_⟩
  dsimp only
  rw [hF1.c 112 rfl, if_neg (show ¬ j < 10 * 0 by omega), Int.add_zero]
