/-! plans of class and reference; what a turn depends on -/
def plR1 (T S : St) (p : Int) : Prop := ∃ rc xc : List Int, T 16 p = rc.length ∧ (∀ k : Nat, k < rc.length → T 15 (160 * p + k) = rc.getD (rc.length - 1 - k) 0) ∧ S 59 p = xc.length ∧ (∀ k : Nat, k < xc.length → S 58 (160 * p + k) = xc.getD (xc.length - 1 - k) 0) ∧ FT 160 ((0, 0), ([], rc), (xc, S 60 p))
def PlR (T S : St) : Prop := S 57 3 = T 0 31 ∧ (0 ≤ T 0 31 ∧ T 0 31 ≤ 8) ∧ ∀ p, 0 ≤ p → p < T 0 31 → plR1 T S p
theorem pkR_pkL {hear : Int → Int} : ∀ (rc : List Int) (code : Int → Int), (∀ k : Nat, k < rc.length → code k = rc.getD (rc.length - 1 - k) 0) → pkR code hear rc.length = pkL hear rc
  | [], code, _ => rfl
  | c :: rs, code, h => by
    have h1 : code (rs.length : Int) = c := by
      have := h rs.length (by simp)
      rw [this]; simp
    have ih := pkR_pkL (hear := hear) rs code (fun k hk => by
      rw [h k (by simp; omega), List.length_cons, show rs.length + 1 - 1 - k = (rs.length - 1 - k) + 1 by omega]
      rfl)
    rw [List.length_cons, pkR, h1, ih]
    rfl
theorem dpR_dpL : ∀ (rc : List Int) (code : Int → Int), (∀ k : Nat, k < rc.length → code k = rc.getD (rc.length - 1 - k) 0) → dpR code rc.length = dpL rc
  | [], code, _ => rfl
  | c :: rs, code, h => by
    have h1 : code (rs.length : Int) = c := by
      have := h rs.length (by simp)
      rw [this]; simp
    have ih := dpR_dpL rs code (fun k hk => by
      rw [h k (by simp; omega), List.length_cons, show rs.length + 1 - 1 - k = (rs.length - 1 - k) + 1 by omega]
      rfl)
    rw [List.length_cons, dpR, h1, ih]
    rfl
theorem wf_all : ∀ (rc : List Int) (code : Int → Int), wfL rc → (∀ k : Nat, k < rc.length → code k = rc.getD (rc.length - 1 - k) 0) → ∀ k : Nat, k < rc.length → (0 ≤ code k ∧ code k ≤ 499) ∨ ((code k = -1 ∨ code k = -2) ∧ 2 ≤ dpR code k)
  | [], code, _, _, k, hk => by simp at hk
  | c :: rs, code, hw, h, k, hk => by
    have h1 : code (rs.length : Int) = c := by
      have := h rs.length (by simp)
      rw [this]; simp
    have h2 : ∀ k : Nat, k < rs.length → code k = rs.getD (rs.length - 1 - k) 0 := fun k hk => by
      rw [h k (by simp; omega), List.length_cons, show rs.length + 1 - 1 - k = (rs.length - 1 - k) + 1 by omega]
      rfl
    by_cases hz : k = rs.length
    · rw [hz, h1, dpR_dpL rs code h2]
      exact hw.2
    · exact wf_all rs code hw.1 h2 k (by simp at hk; omega)
theorem cd_of {rc : List Int} {code : Int → Int} (hw : wfL rc) (hd : dpL rc = 1) (h1 : 1 ≤ rc.length) (h2 : rc.length ≤ 160) (h : ∀ k : Nat, k < rc.length → code k = rc.getD (rc.length - 1 - k) 0) : cdOk code rc.length := ⟨h1, h2, by rw [dpR_dpL rc code h, hd], wf_all rc code hw h⟩
theorem PlR_plM {T S : St} (h : PlR T S) : plM T := by
  refine ⟨h.2.1, fun p p0 p1 => ?_⟩
  obtain ⟨rc, xc, h1, h2, h3, h4, h5⟩ := h.2.2 p p0 p1
  exact ⟨rc.length, h1, cd_of h5.2.2.2.1 h5.2.2.2.2.1 h5.2.1 (by have := h5.1; dsimp only at this; omega) h2⟩
/-- the value of a plan, as the class has it -/
theorem pl_val {T S : St} {p : Int} (h : plR1 T S p) {hh : Int → Int} (hg : gdH hh) : ∃ (rc xc : List Int) (e l : Int), T 16 p = rc.length ∧ S 59 p = xc.length ∧ (∀ k : Nat, k < xc.length → S 58 (160 * p + k) = xc.getD (xc.length - 1 - k) 0) ∧ xc.length ≤ 160 ∧ wfX xc ∧ lok xc (S 60 p) ∧ lvL xc = 1 ∧ pkX hh xc = [(e, l)] ∧ plV (fun i => T 15 (160 * p + i)) rc.length (mnH hh) = min e l := by
  obtain ⟨rc, xc, h1, h2, h3, h4, h5⟩ := h
  obtain ⟨f1, f2, f3, f4, f5, f6, f7, f8⟩ := h5
  dsimp only at f1 f2 f3 f4 f5 f6 f7 f8
  obtain ⟨e, l, k1, k2⟩ := f8 hh hg
  refine ⟨rc, xc, e, l, h1, h3, h4, by omega, f6, f7, ?_, k1, ?_⟩
  · have := (pkX_len hh xc f6).1
    rw [k1] at this
    simpa using this.symm
  · unfold plV
    rw [pkR_pkL rc (fun i => T 15 (160 * p + i)) h2, k2]
    rfl
theorem hrF_gd {T : St} (hT : mOk T) {f : Int → Int} (hf : ∀ s, 0 ≤ s → s < T 0 20 → f s = 1000000 ∨ (-500 ≤ f s ∧ f s ≤ 500)) {g : Int} (hg : 0 ≤ g ∧ g < 4) : gdH (hrF (T 0 20) (T 19) f g) ∧ ∀ s, 0 ≤ s → s < 5 → mnH (hrF (T 0 20) (T 19) f g) s = hrF (T 0 20) (T 19) f g s := by
  have key : ∀ s, 0 ≤ s → s < 5 → hrF (T 0 20) (T 19) f g s = 1000000 ∨ (-600 ≤ hrF (T 0 20) (T 19) f g s ∧ hrF (T 0 20) (T 19) f g s ≤ 600) := fun s s0 s1 => by
    unfold hrF
    split
    · rename_i hlt
      have := hdM_b (al := T 19) (f := f) (g := g) (s := s) (b := 500) (by omega) (hf s s0 hlt) (hT.1.2.2 _ (by omega) (by omega))
      omega
    · exact Or.inl rfl
  refine ⟨fun s s0 s1 => ?_, fun s s0 s1 => ?_⟩
  · have := key s s0 s1; omega
  · have := key s s0 s1; unfold mnH; omega
theorem pkX_dep {h h' : Int → Int} : ∀ xs : List Int, (∀ c ∈ xs, 0 ≤ c → h (c / 128) = h' (c / 128)) → pkX h xs = pkX h' xs
  | [], _ => rfl
  | c :: xs, hh => by
    rw [pkX, pkX, pkX_dep xs (fun c' hc' => hh c' (List.mem_cons_of_mem _ hc'))]
    unfold stX
    by_cases hc : 0 ≤ c
    · rw [hh c List.mem_cons_self hc]
    · match pkX h' xs with
      | [] => rfl
      | q :: r => dsimp only; rw [if_neg hc, if_neg hc]
theorem pkL_never {hear : Int → Int} (hh : ∀ s, hear s = 1000000) : ∀ rc : List Int, ∀ x ∈ pkL hear rc, x = 1000000
  | [], x, hx => by simp [pkL] at hx
  | c :: rs, x, hx => by
    have ih := pkL_never hh rs
    rw [pkL] at hx
    unfold stR at hx
    by_cases hc : 0 ≤ c
    · rw [if_pos hc, if_pos (hh _)] at hx
      rcases List.mem_cons.mp hx with z | z
      · exact z
      · exact ih x z
    · rw [if_neg hc] at hx
      split at hx
      · rename_i b a r hp
        rw [hp] at ih
        have ha := ih a (by simp)
        have hb := ih b (by simp)
        rcases List.mem_cons.mp hx with z | z
        · split at z <;> omega
        · exact ih x (by simp [z])
      · exact ih x hx
theorem wfX_c : ∀ (xs : List Int), wfX xs → ∀ c ∈ xs, 0 ≤ c → c / 128 < 5
  | [], _, c, hc, _ => by simp at hc
  | c' :: xs, hw, c, hc, h0 => by
    rcases List.mem_cons.mp hc with z | z
    · subst z
      rcases hw.2.1 with y | y | y | y
      · exact y.2.1
      all_goals omega
    · exact wfX_c xs hw.1 c z h0
/-- the signs by which a guard turns: letters of its plan that it hears -/
def usB (T S : St) (g : Int) (s : Nat) : Prop := 0 ≤ T 20 g ∧ (∃ x : Nat, S 60 (T 20 g) = x ∧ x.testBit s = true) ∧ (s : Int) < T 0 20 ∧ 0 ≤ T 19 (5 * g + s)
def bdF (T : St) (f : Int → Int) : Prop := ∀ s, 0 ≤ s → s < T 0 20 → f s = 1000000 ∨ (-500 ≤ f s ∧ f s ≤ 500)
theorem tn_val {T S : St} (hT : mOk T) (hP : PlR T S) {f : Int → Int} (hf : bdF T f) {g : Int} (hg : 0 ≤ g ∧ g < 4) (hpl : 0 ≤ T 20 g) : ∃ (xc : List Int) (e l : Int), wfX xc ∧ lok xc (S 60 (T 20 g)) ∧ pkX (hrF (T 0 20) (T 19) f g) xc = [(e, l)] ∧ tnM T f g = min e l ∧ (∃ rc, (∀ hh, gdH hh → ∃ e l, pkX hh xc = [(e, l)] ∧ pkL (mnH hh) rc = [min e l])) ∧ S 59 (T 20 g) = xc.length ∧ (∀ k : Nat, k < xc.length → S 58 (160 * T 20 g + k) = xc.getD (xc.length - 1 - k) 0) ∧ xc.length ≤ 160 ∧ lvL xc = 1 := by
  obtain ⟨a1, a2⟩ := hT.2.2.1 g hg.1 hg.2
  have hp1 := hP.2.2 _ hpl a2
  obtain ⟨hgd, hmn⟩ := hrF_gd hT hf hg
  obtain ⟨rc', xc', q1, q2, q3, q4, q5⟩ := hp1
  obtain ⟨f1, f2, f3, f4, f5, f6, f7, f8⟩ := q5
  dsimp only at f1 f2 f3 f4 f5 f6 f7 f8
  obtain ⟨e, l, k1, k2⟩ := f8 _ hgd
  have hcd := cd_of (code := fun i => T 15 (160 * T 20 g + i)) f4 f5 f2 (by omega) q2
  refine ⟨xc', e, l, f6, f7, k1, ?_, ⟨rc', f8⟩, q3, q4, by omega, ?_⟩
  · unfold tnM
    rw [if_neg (by omega), q1, show ((rc'.length : Nat) : Int).toNat = rc'.length by omega]
    rw [← plV_congr hcd hmn]
    unfold plV
    rw [pkR_pkL rc' (fun i => T 15 (160 * T 20 g + i)) q2, k2]
    rfl
  · have := (pkX_len (fun _ => 0) xc' f6).1
    obtain ⟨e', l', k3, k4⟩ := f8 _ gd0
    rw [k3] at this
    simpa using this.symm
/-- a turn depends on the signs that are used alone -/
theorem tn_dep {T S : St} (hT : mOk T) (hP : PlR T S) {f f' : Int → Int} (hf : bdF T f) (hf' : bdF T f') {g : Int} (hg : 0 ≤ g ∧ g < 4) (h : ∀ s : Nat, usB T S g s → f s = f' s) : tnM T f g = tnM T f' g := by
  by_cases hpl : 0 ≤ T 20 g
  · obtain ⟨xc, e, l, w, lk, k1, k2, k3, k4, k5, k6, k7⟩ := tn_val hT hP hf hg hpl
    obtain ⟨xc', e', l', w', lk', k1', k2', k3', k4', k5', k6', k7'⟩ := tn_val hT hP hf' hg hpl
    have hxx : xc = xc' := by
      refine List.ext_getElem? (fun i => ?_)
      have hl : xc.length = xc'.length := by omega
      by_cases hi : i < xc.length
      · have h1 := k5 (xc.length - 1 - i) (by omega)
        have h2 := k5' (xc.length - 1 - i) (by omega)
        rw [h2] at h1
        rw [show xc'.length - 1 - (xc.length - 1 - i) = i by omega, show xc.length - 1 - (xc.length - 1 - i) = i by omega] at h1
        rw [List.getD_eq_getElem?_getD, List.getD_eq_getElem?_getD, List.getElem?_eq_getElem hi, List.getElem?_eq_getElem (by omega)] at h1
        rw [List.getElem?_eq_getElem hi, List.getElem?_eq_getElem (by omega)]
        simp only [Option.getD_some] at h1
        rw [h1]
      · rw [List.getElem?_eq_none (by omega), List.getElem?_eq_none (by omega)]
    subst hxx
    have hd := pkX_dep (h := hrF (T 0 20) (T 19) f g) (h' := hrF (T 0 20) (T 19) f' g) xc (fun c hc h0 => by
      have hc5 := wfX_c xc w c hc h0
      obtain ⟨x, x1, x2, x3⟩ := lk
      unfold hrF
      by_cases hlt : c / 128 < T 0 20
      · rw [if_pos hlt, if_pos hlt]
        by_cases ha : T 19 (5 * g + c / 128) < 0
        · unfold hdM; rw [if_pos (Or.inl ha), if_pos (Or.inl ha)]
        · have := h (c / 128).toNat ⟨hpl, ⟨x, x1, x3 c hc h0⟩, by omega, by rw [show (((c / 128).toNat : Nat) : Int) = c / 128 by omega]; omega⟩
          rw [show (((c / 128).toNat : Nat) : Int) = c / 128 by omega] at this
          exact hdM_congr this
      · rw [if_neg hlt, if_neg hlt])
    rw [hd, k1'] at k1
    have : (e', l') = (e, l) := by simpa using k1
    cases this
    rw [k2, k2']
  · unfold tnM
    rw [if_pos (by omega), if_pos (by omega)]
/-- who uses no sign never turns -/
theorem tn_never {T S : St} (hT : mOk T) (hP : PlR T S) {f : Int → Int} (hf : bdF T f) {g : Int} (hg : 0 ≤ g ∧ g < 4) (h : ∀ s : Nat, ¬ usB T S g s) : tnM T f g = 1000000 := by
  by_cases hpl : 0 ≤ T 20 g
  · obtain ⟨xc, e, l, w, lk, k1, k2, ⟨rc, k3⟩, k4, k5, k6, k7⟩ := tn_val hT hP hf hg hpl
    have hgn : gdH (fun _ => 1000000) := fun s _ _ => Or.inl (Int.le_refl _)
    obtain ⟨e', l', y1, y2⟩ := k3 _ hgn
    have hv := pkL_never (hear := mnH (fun _ => 1000000)) (fun s => by unfold mnH; rfl) rc (min e' l') (by rw [y2]; simp)
    have hd := pkX_dep (h := hrF (T 0 20) (T 19) f g) (h' := fun _ => 1000000) xc (fun c hc h0 => by
      have hc5 := wfX_c xc w c hc h0
      obtain ⟨x, x1, x2, x3⟩ := lk
      unfold hrF
      by_cases hlt : c / 128 < T 0 20
      · rw [if_pos hlt]
        by_cases ha : T 19 (5 * g + c / 128) < 0
        · unfold hdM; rw [if_pos (Or.inl ha)]
        · exact absurd (⟨hpl, ⟨x, x1, x3 c hc h0⟩, by omega, by rw [show (((c / 128).toNat : Nat) : Int) = c / 128 by omega]; omega⟩ : usB T S g (c / 128).toNat) (h _)
      · rw [if_neg hlt])
    rw [hd, y1] at k1
    have : (e', l') = (e, l) := by simpa using k1
    cases this
    rw [k2, hv]
  · unfold tnM
    rw [if_pos (by omega)]
