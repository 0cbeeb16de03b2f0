/-! the duel: what a way adds, in the reference's words -/
def wF (T : St) (one other g k : Int) (f : Int → Int) : Int := if k / 50 < 10 * T 0 20 ∧ k % 50 < 10 * T 0 20 then (if op2 T f one other (k / 50) (k % 50) then 0 else if ft2 T f one other (k / 50) (k % 50) = g then 1 else 0) else 0
theorem gaF_lt {t : Int → Int} {p : Int → Bool} {g : Int} (hp : p g = false) (h0 : 0 ≤ g) : ∀ k : Nat, g < k → (gaF t p k).length < k
  | 0, h => absurd h (by omega)
  | k + 1, h => by
    have hl := gaF_len t p k
    rw [gaF]
    by_cases z : (k : Int) = g
    · rw [if_neg (fun q => by rw [z, hp] at q; exact absurd q.1 (by decide))]
      omega
    · have := gaF_lt (t := t) hp h0 k (by omega)
      split
      · rw [ins_len]; omega
      · omega
theorem vs_b {T : St} {f : Int → Int} (hT : mOk T) (hf : ofOk (T 0 20) f) {g a : Int} (hg : 0 ≤ g ∧ g < 4) (ha : 0 ≤ a ∧ a < 10 * T 0 20) : vsM T f g a = 1000000 ∨ (-1000 ≤ vsM T f g a ∧ vsM T f g a ≤ 2000) := by
  have hn5 := hT.1.1
  have hb := sm_bd hT hf (a / 10) (by omega) (by omega)
  have hl := hT.1.2.2 (5 * g + a / 10) (by omega) (by omega)
  unfold vsM plN hdM
  by_cases z : T 19 (5 * g + a / 10) < 0 ∨ smM T f (a / 10) = 1000000
  · rw [if_pos z, if_pos rfl]
    exact Or.inl rfl
  · rw [if_neg z]
    split <;> omega
theorem vs_p {T : St} {f : Int → Int} (hT : mOk T) (hf : ofOk (T 0 20) f) {g a : Int} (hg : 0 ≤ g ∧ g < 4) (ha : 0 ≤ a ∧ a < 10 * T 0 20) : min (smM T f (a / 10) + dl (T 19 (5 * g + a / 10)) + a % 10) 1000000 = vsM T f g a := by
  have h := be_h hT hf hg (s := a / 10) (by omega)
  unfold vsM plN
  split
  · omega
  · omega
theorem dw_val {T : St} {f : Int → Int} (hT : mAs T) (hf : ofOk (T 0 20) f) {n k : Nat} (hn : T 0 21 = n) (hk : T 0 19 = k) {one other : Int} (h1 : 0 ≤ one ∧ one < k) (h2 : 0 ≤ other ∧ other < k) (hne : ¬ one = other) {a s : Int} (ha : 0 ≤ a ∧ a < 10 * T 0 20) (hs : 0 ≤ s ∧ s < T 0 20) {b : Int} (hb : b = 1 ↔ ftF (uf (uf (tnM T (smM T f)) one (vsM T f one a)) other 1000000) k = one) (w j : Int) :
    dwO (spL n (T 0 22) (rwP (gaF (tnM T (smM T f)) (fun j => decide (¬ j = one ∧ ¬ j = other)) k) (vsM T f one a))) (50 * a + 10 * s) (smM T f s + dl (T 19 (5 * other + s))) w j = (if 50 * a + 10 * s ≤ j ∧ j ≤ 50 * a + 10 * s + 9 then w * wP T one other j f else 0) ∧ dwX (spL n (T 0 22) (rwP (gaF (tnM T (smM T f)) (fun j => decide (¬ j = one ∧ ¬ j = other)) k) (vsM T f one a))) (50 * a + 10 * s) (smM T f s + dl (T 19 (5 * other + s))) w (ahF (uf (tnM T (smM T f)) one (vsM T f one a)) other k) j = (if 50 * a + 10 * s ≤ j ∧ j ≤ 50 * a + 10 * s + 9 then w * wF T one other other j f else 0) ∧ (if b = 1 then dwY (spL n (T 0 22) (rwP (gaF (tnM T (smM T f)) (fun j => decide (¬ j = one ∧ ¬ j = other)) k) (vsM T f one a))) (50 * a + 10 * s) (smM T f s + dl (T 19 (5 * other + s))) w (ahF (uf (tnM T (smM T f)) one (vsM T f one a)) other k) j else 0) = (if 50 * a + 10 * s ≤ j ∧ j ≤ 50 * a + 10 * s + 9 then w * wF T one other one j f else 0) := by
  have hk4 := hT.1.2.1
  have hn5 := hT.1.1.1
  by_cases z : 50 * a + 10 * s ≤ j ∧ j ≤ 50 * a + 10 * s + 9
  · obtain ⟨d, hd⟩ : ∃ d, j - (50 * a + 10 * s) = d := ⟨_, rfl⟩
    have hd9 : 0 ≤ d ∧ d ≤ 9 := by omega
    have hh := be_h hT.1 hf (g := other) (by omega) hs
    have hva := vs_b hT.1 hf (g := one) (by omega) ha
    have j1 : j / 50 = a := by omega
    have j2 : j % 50 / 10 = s := by omega
    have j3 : j % 50 % 10 = d := by omega
    have hvo : vsM T f other (j % 50) = plN (hdM (T 19) (smM T f) other s) d := by
      unfold vsM
      rw [j2, j3]
    have hcov := du_cov hT hf hn hk h1 h2 hne hva hd9 hh
    have hop : op2 T f one other (j / 50) (j % 50) = decide (apF (T 0 21) (uf (uf (tnM T (smM T f)) one (vsM T f one a)) other (plN (hdM (T 19) (smM T f) other s) d)) (T 0 19).toNat ≤ T 0 22) := by
      unfold op2 t2M
      rw [j1, hvo]
    rw [← hop] at hcov
    have htl : ∀ i : Int, 0 ≤ i → i < k → uf (tnM T (smM T f)) one (vsM T f one a) i ≤ 1000000 := fun i i0 i1 => by
      unfold uf
      have := tnM_b hT.1 hf (g := i) i0 (by omega)
      split <;> omega
    have hpl : plN (hdM (T 19) (smM T f) other s) d ≤ 1000000 := by
      unfold plN
      split <;> omega
    have hwho := ft_who (v := plN (hdM (T 19) (smM T f) other s) d) h2 hne hpl htl
    have hlt := ahF_lt h2.1 htl
    have hft : ft2 T f one other (j / 50) (j % 50) = ftF (uf (uf (tnM T (smM T f)) one (vsM T f one a)) other (plN (hdM (T 19) (smM T f) other s) d)) k := by
      unfold ft2 t2M
      rw [j1, hvo, hk]
      rfl
    rw [← hft] at hwho
    have hta : (smM T f s + dl (T 19 (5 * other + s))) + d ≤ (ahF (uf (tnM T (smM T f)) one (vsM T f one a)) other k) ↔ plN (hdM (T 19) (smM T f) other s) d ≤ (ahF (uf (tnM T (smM T f)) one (vsM T f one a)) other k) := by
      unfold plN
      split <;> omega
    have hval : j / 50 < 10 * T 0 20 ∧ j % 50 < 10 * T 0 20 := by omega
    unfold dwO dwX dwY wP wF
    rw [if_pos z, if_pos z, if_pos z, if_pos z, if_pos z, if_pos z, if_pos hval, if_pos hval, if_pos hval, hd, hcov]
    refine ⟨?_, ?_, ?_⟩
    · unfold inB
      rfl
    · by_cases y : op2 T f one other (j / 50) (j % 50) = true
      · rw [if_pos y, y]
        show (if _ then w - w * 1 else 0) = w * 0
        rw [Int.mul_one, Int.sub_self, Int.mul_zero]
        split <;> rfl
      · rw [if_neg y]
        rw [show op2 T f one other (j / 50) (j % 50) = false by simpa using y]
        show (if _ then w - w * 0 else 0) = w * _
        rw [Int.mul_zero, Int.sub_zero]
        by_cases x : (smM T f s + dl (T 19 (5 * other + s))) + d ≤ (ahF (uf (tnM T (smM T f)) one (vsM T f one a)) other k)
        · rw [if_pos x, if_pos (hwho.1.mpr (hta.mp x)), Int.mul_one]
        · rw [if_neg x, if_neg (fun q => x (hta.mpr (hwho.1.mp q))), Int.mul_zero]
    · by_cases y : op2 T f one other (j / 50) (j % 50) = true
      · rw [if_pos y, y]
        show (if b = 1 then (if _ then w - w * 1 else 0) else 0) = w * 0
        rw [Int.mul_one, Int.sub_self, Int.mul_zero]
        split
        · split <;> rfl
        · rfl
      · rw [if_neg y]
        rw [show op2 T f one other (j / 50) (j % 50) = false by simpa using y]
        show (if b = 1 then (if _ then w - w * 0 else 0) else 0) = w * _
        rw [Int.mul_zero, Int.sub_zero]
        by_cases x : ft2 T f one other (j / 50) (j % 50) = one
        · obtain ⟨x1, x2⟩ := hwho.2.mp x
          rw [if_pos x, if_pos (hb.mpr x2), if_pos (by omega), Int.mul_one]
        · rw [if_neg x, Int.mul_zero]
          by_cases u : b = 1
          · rw [if_pos u, if_neg (fun q => x (hwho.2.mpr ⟨by omega, hb.mp u⟩))]
          · rw [if_neg u]
  · unfold dwO dwX dwY
    rw [if_neg z, if_neg z, if_neg z, if_neg z]
    refine ⟨rfl, rfl, ?_⟩
    split <;> rfl
theorem wPF_b (T : St) (one other g k : Int) (f : Int → Int) : (0 ≤ wP T one other k f ∧ wP T one other k f ≤ 1) ∧ (0 ≤ wF T one other g k f ∧ wF T one other g k f ≤ 1) := by
  unfold wP wF
  constructor
  · split
    · split <;> omega
    · omega
  · split
    · split
      · omega
      · split <;> omega
    · omega
