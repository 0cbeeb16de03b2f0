/-! fields, arrays, calls, ends -/
section SNM
variable {w : Wd} {h : Hd} {p : Program} {l : Launch} {e : Env} {s : State} {m : MethodId} {args : Array Value} {below : List Frame} {meth : Method} {c : Code} {Q : Option AV → St → Prop}
variable {H : Heap} {locs : List Loc} {ls : Array Slot} {L : LL} {st : List AV} {S : St} {pc : Nat}
theorem getK_spec {c ci k : Nat} {f : AV → Prop} (hC : Can S) (h1 : getK c ci k S f) : ∃ ks q v, shp c = .inl (ci, ks) ∧ ks[k]? = some q ∧ (∀ ad, fv ad q (S c q.2.2.2) = cv ad v) ∧ cnV v ∧ f v := by
  unfold getK at h1
  split at h1
  · rename_i ci' ks hsh
    split at h1
    · rename_i hbe
      have e0 := Nat.beq_eq.mp hbe
      subst e0
      split at h1
      · rename_i j hk
        exact ⟨ks, _, .inl (S c j), hsh, hk, fun ad => rfl, Can_F hC hsh hk, h1⟩
      · rename_i j hk
        exact ⟨ks, _, .inr (.inl (S c j)), hsh, hk, fun ad => rfl, Can_F hC hsh hk, h1⟩
      · rename_i t z1 z2 hk
        exact ⟨ks, _, .inr (.inr t), hsh, hk, fun ad => rfl, trivial, h1⟩
      · rename_i j hk
        exact ⟨ks, _, .inl (S c j), hsh, hk, fun ad => rfl, can01 (Can_F hC hsh hk), h1⟩
      · rename_i a b j hk
        have h01 : S c j = 0 ∨ S c j = 1 := Can_F hC hsh hk
        rcases h01 with z | z
        · exact ⟨ks, _, .inr (.inr a), hsh, hk, fun ad => by simp only [fv, cv, z, if_true], trivial, h1.1 z⟩
        · exact ⟨ks, _, .inr (.inr b), hsh, hk, fun ad => by simp only [fv, cv, z]; rfl, trivial, h1.2 z⟩
      · exact h1.elim
    · exact h1.elim
  · exact h1.elim
theorem cell_obj {c ci : Nat} {ks : List (Nat × Nat × Nat × Int)} (hsh : shp c = .inl (ci, ks)) : cellE w c S = .inr (ci, ks.map (fun k => fv w.2.1 k (S c k.2.2.2))) := by unfold cellE cellF; rw [hsh]
theorem s_getfield (C : Ctx w h p s m args meth c) {x ci j : Nat} (hd : decode h.2.2.1 pc = .ok (.getfield x, 3)) (hf : flC h.1 x ci j = true) {k : LL → List AV → St → Prop} (hN : ∀ L st S, k L st S → Nx w h p l e s m args below meth c Q (pc + 3) L st S) (hs : pR st (fun c r => getK c ci j S (fun v => k L (v :: r) S))) : Nx w h p l e s m args below meth c Q pc L st S := by
  obtain ⟨c0, r, rfl, h1⟩ := pR_spec hs
  obtain ⟨hlk, hk, hci⟩ := flE hf
  intro H locs ls K
  obtain ⟨ks, q, v, hsh, hq, hfv, hcn, h2⟩ := getK_spec K.2.1 h1
  have hcell := wl_get w S (sh_obj hsh).1
  rw [cell_obj hsh] at hcell
  refine va_get (D := w.1) (ci := ci) (C := (clE ci).1) (T := (clE ci).2.1) (N := (clE ci).2.2) (v := cv w.2.1 v) C.1 C.2.1 C.2.2.2.2.2.1 (uE ci hci) C.2.2.2.2.1 C.2.2.2.2.2.2.2.1.1 K.1 c0 hcell (clE_get ci hci) j hk (C.2.2.2.2.2.1 _ hlk) (fun _ h9 => h9) ?_ hd ?_
  · rw [List.getElem?_map, hq]
    exact congrArg some (hfv _)
  · exact hN _ _ _ h2 H locs ls (cfS K (cnS_c hcn (cnS_t (cfN K))))
theorem putK_spec {ci k : Nat} {f : List AV → St → Prop} (h1 : putK st ci k S f) : ∃ v c r ks q a, st = v :: .inr (.inr c) :: r ∧ shp c = .inl (ci, ks) ∧ ks[k]? = some q ∧ f r (up S c q.2.2.2 a) ∧ (∀ ad, fv ad q a = cv ad v) ∧ (cnV v → cnK q.1 a) ∧
    ((q.1 = 0 ∧ ∃ x, v = .inl x) ∨ (q.1 = 1 ∧ ∃ x, v = .inr (.inl x)) ∨ (q.1 = 3 ∧ ∃ x, v = .inl x ∧ (x = 0 ∨ x = 1)) ∨ (q.1 = 4 ∧ ∃ x, v = .inr (.inr x))) := by
  unfold putK at h1
  split at h1
  · rename_i v c r
    split at h1
    · rename_i ci' ks hsh
      split at h1
      · rename_i hbe
        have e0 := Nat.beq_eq.mp hbe
        subst e0
        split at h1
        · rename_i j a hk
          exact ⟨_, c, r, ks, _, a, rfl, hsh, hk, h1, fun ad => rfl, fun z => z, Or.inl ⟨rfl, a, rfl⟩⟩
        · rename_i j a hk
          exact ⟨_, c, r, ks, _, a, rfl, hsh, hk, h1, fun ad => rfl, fun z => z, Or.inr (Or.inl ⟨rfl, a, rfl⟩)⟩
        · rename_i j a hk
          exact ⟨_, c, r, ks, _, a, rfl, hsh, hk, h1.2, fun ad => rfl, fun _ => h1.1, Or.inr (Or.inr (Or.inl ⟨rfl, a, rfl, h1.1⟩))⟩
        · rename_i x y j t hk
          split at h1
          · rename_i hb1
            have e1 := Nat.beq_eq.mp hb1
            exact ⟨_, c, r, ks, _, 0, rfl, hsh, hk, h1, fun ad => by simp only [fv, cv, if_true, e1], fun _ => Or.inl rfl, Or.inr (Or.inr (Or.inr ⟨rfl, t, rfl⟩))⟩
          · split at h1
            · rename_i hb1
              have e1 := Nat.beq_eq.mp hb1
              exact ⟨_, c, r, ks, _, 1, rfl, hsh, hk, h1, fun ad => by simp only [fv, cv, e1]; rfl, fun _ => Or.inr rfl, Or.inr (Or.inr (Or.inr ⟨rfl, t, rfl⟩))⟩
            · exact h1.elim
        · exact h1.elim
      · exact h1.elim
    · exact h1.elim
  · exact h1.elim
theorem up_obj {c ci k : Nat} {ks : List (Nat × Nat × Nat × Int)} {q : Nat × Nat × Nat × Int} {a : Int} (hsh : shp c = .inl (ci, ks)) (hk : ks[k]? = some q) (ad : Nat → Nat) : (ks.map (fun k => fv ad k (S c k.2.2.2))).set k (fv ad q a) = ks.map (fun k => fv ad k (up S c q.2.2.2 a c k.2.2.2)) := by
  have h4 := (sh_obj hsh).2.2.2
  have hl := (List.getElem?_eq_some_iff.mp hk).1
  apply List.ext_getElem?
  intro i
  by_cases hi : i = k
  · subst hi
    rw [List.getElem?_set_self (by rw [List.length_map]; exact hl), List.getElem?_map, hk]
    simp only [Option.map_some, up_c, if_true]
  · rw [List.getElem?_set_ne (Ne.symm hi), List.getElem?_map, List.getElem?_map]
    cases hq : ks[i]? with
    | none => rfl
    | some q' =>
      have e1 := kd_slot (h4 i q' hq)
      have e2 := kd_slot (h4 k q hk)
      simp only [Option.map_some, up_c]
      rw [if_neg (by rw [e1, e2]; omega)]
theorem s_putfield (C : Ctx w h p s m args meth c) {x ci j : Nat} (hd : decode h.2.2.1 pc = .ok (.putfield x, 3)) (hf : flC h.1 x ci j = true) (hfin : ((clE ci).2.1 j).2.2.2 = false) {k : LL → List AV → St → Prop} (hN : ∀ L st S, k L st S → Nx w h p l e s m args below meth c Q (pc + 3) L st S) (hs : putK st ci j S (fun r S => k L r S)) : Nx w h p l e s m args below meth c Q pc L st S := by
  obtain ⟨v, c0, r, ks, q, a, rfl, hsh, hq, h2, hfv, hcn, hty⟩ := putK_spec hs
  obtain ⟨hlk, hk, hci⟩ := flE hf
  intro H locs ls K
  have hcell := wl_get w S (sh_obj hsh).1
  rw [cell_obj hsh] at hcell
  have hkd := (sh_obj hsh).2.2.2 j q hq
  unfold kdOk at hkd
  have hpt := tyE ci hci j hk
  have hnf : narrow ((tyCl.getD ci (fun _ => .int)) j) (cv w.2.1 v) = cv w.2.1 v ∧ fits ((tyCl.getD ci (fun _ => .int)) j) (cv w.2.1 v) = true := by
    rcases hty with ⟨z, x, rfl⟩ | ⟨z, x, rfl⟩ | ⟨z, x, rfl, zz⟩ | ⟨z, x, rfl⟩
    · rw [z] at hkd
      simp only [Bool.and_eq_true, decide_eq_true_eq] at hkd
      rw [hkd.2]
      exact ⟨rfl, rfl⟩
    · rw [z] at hkd
      simp only [Bool.and_eq_true, decide_eq_true_eq] at hkd
      rw [hkd.2]
      exact ⟨rfl, rfl⟩
    · rw [z] at hkd
      simp only [Bool.and_eq_true, decide_eq_true_eq] at hkd
      rw [hkd.2]
      rcases zz with rfl | rfl <;> exact ⟨rfl, rfl⟩
    · rw [z] at hkd
      simp only [Bool.and_eq_true, decide_eq_true_eq] at hkd
      have hkd2 := hkd.2
      split at hkd2
      · rename_i nm e1
        rw [e1]
        exact ⟨rfl, rfl⟩
      · cases hkd2
  refine va_put (D := w.1) (ci := ci) (C := (clE ci).1) (T := (clE ci).2.1) (N := (clE ci).2.2) (v := cv w.2.1 v) (ty := (tyCl.getD ci (fun _ => .int)) j) C.1 C.2.1 C.2.2.2.2.2.1 (uE ci hci) (tyCl.getD ci (fun _ => .int)) (tyE ci hci) (nmE ci hci) C.2.2.2.2.1 C.2.2.2.2.2.2.2.1.1 K.1 (wl_D w S C.2.2.2.2.2.2.2.2) (cfA K) c0 hcell (clE_get ci hci) j hk (C.2.2.2.2.2.1 _ hlk) (fun _ h9 => h9) hfin hpt hnf.1 hnf.2 (by rw [List.length_map]; exact (List.getElem?_eq_some_iff.mp hq).1) hd (fun H1 locs1 hP1 hD1 hS1 => ?_)
  have hce : (ci, (ks.map (fun k => fv w.2.1 k (S c0 k.2.2.2))).set j (cv w.2.1 v)) = (ci, ks.map (fun k => fv w.2.1 k (up S c0 q.2.2.2 a c0 k.2.2.2))) := by rw [← hfv, up_obj hsh hq]
  rw [hce] at hP1
  have hWo : Wo w (up S c0 q.2.2.2 a) H1 := by
    unfold Wo
    rw [← wl_set w (S := S) (S' := up S c0 q.2.2.2 a) (sh_obj hsh).1 (fun c' hc' => up_o S _ _ hc'), cell_obj hsh]
    exact hP1
  exact hN _ _ _ h2 H1 locs1 ls (cfH K hWo (Can_up K.2.1 (cnC_F hsh hq (hcn (cnS_h (cfN K))))) (cnS_t (cnS_t (cfN K))) hS1)
/-! arrays -/
theorem cell_I {c n : Nat} {k : Int} (hsh : shp c = .inr (0, n, k)) : cellE w c S = .inl (w.2.2.1, n, .inl (fun j => Int32.ofInt (S c j))) := by unfold cellE cellF; rw [hsh]; rfl
theorem cell_J {c n : Nat} {k : Int} (hsh : shp c = .inr (1, n, k)) : cellE w c S = .inl (w.2.2.2.1, n, .inr (.inl (fun j => Int64.ofInt (S c j)))) := by unfold cellE cellF; rw [hsh]; rfl
theorem cell_Z {c n : Nat} {k : Int} (hsh : shp c = .inr (2, n, k)) : cellE w c S = .inl (w.2.2.2.2.1, n, .inl (fun j => Int32.ofInt (S c j))) := by unfold cellE cellF; rw [hsh]; rfl
theorem toN {i : Int} (h : 0 ≤ i) : ((i.toNat : Nat) : Int) = i := Int.toNat_of_nonneg h
theorem stK_i (C : Ctx w h p s m args meth c) {n : Nat} (hn : n < 4) (h1 : n ≠ 1) : va_T .int (w.2.1 (sA n)) 16 (fun j => .int (Int32.ofInt (cst n j))) (inA w) s s.heap := by
  have h2 := C.2.2.2.2.2.2.2.1.2.1
  rw [C.2.2.2.2.2.2.2.2.2 n hn]
  match n, hn, h1 with
  | 0, _, _ => exact h2.1.2
  | 1, _, z => exact absurd rfl z
  | 2, _, _ => exact h2.2.2.1.2
  | 3, _, _ => exact h2.2.2.2.2
theorem can_cst (n : Nat) (i : Int) : i32 (cst n i) = cst n i := by
  unfold cst
  refine getD_P (P := fun z : Int => i32 z = z) _ _ (getD_P (P := fun l : List Int => ∀ z ∈ l, i32 z = z) _ _ ?_ (fun _ z => absurd z List.not_mem_nil)) rfl
  decide +kernel
theorem s_iaload (C : Ctx w h p s m args meth c) (hd : decode h.2.2.1 pc = .ok (.iaload, 1)) {k : LL → List AV → St → Prop} (hN : ∀ L st S, k L st S → Nx w h p l e s m args below meth c Q (pc + 1) L st S) (hs : pIR st (fun i c r => aldI c i S (fun v => k L (v :: r) S))) : Nx w h p l e s m args below meth c Q pc L st S := by
  obtain ⟨i, c0, r, rfl, h1⟩ := pIR_spec hs
  unfold aldI at h1
  split at h1
  · rename_i n k hsh
    obtain ⟨hlt, hk, hn⟩ := sh_arr hsh (Or.inl rfl)
    subst hk
    intro H locs ls K
    have hi : i32 i = i := cnS_h (cfN K)
    have hcell := wl_get w S hlt
    rw [cell_I hsh] at hcell
    refine va_iald (D := w.1) C.1 C.2.1 C.2.2.2.2.2.2.2.1.1 K.1 c0 0 hcell rfl (vpin hi h1.1) hd ?_
    have e0 : Int32.ofInt (S c0 ((Int32.ofInt i).toNatClampNeg : Int)) = Int32.ofInt (S c0 i) := by rw [clamp32 hi h1.1.1, toN h1.1.1]
    rw [e0]
    exact hN _ _ _ h1.2 H locs ls (cfS K (cnS_c (v := .inl (S c0 i)) (Can_I K.2.1 hsh i) (cnS_t (cnS_t (cfN K)))))
  · rename_i t k hsh
    obtain ⟨hc, ht, hk, ht1⟩ := sh_st5 hsh
    subst hc hk
    intro H locs ls K
    have hi : i32 i = i := cnS_h (cfN K)
    refine va_ti C.1 C.2.1 (stK_i C ht ht1) (cfA K) (i := Int32.ofInt i) (vpin hi h1.1) (v := .int (Int32.ofInt (cst t i))) (by show Value.int (Int32.ofInt (cst t ((Int32.ofInt i).toNatClampNeg : Int))) = _; rw [clamp32 hi h1.1.1, toN h1.1.1]) hd ?_
    exact hN _ _ _ h1.2 H locs ls (cfS K (cnS_c (v := .inl (cst t i)) (can_cst t i) (cnS_t (cnS_t (cfN K)))))
  · exact h1.elim
theorem s_caload (C : Ctx w h p s m args meth c) (hd : decode h.2.2.1 pc = .ok (.caload, 1)) {k : LL → List AV → St → Prop} (hN : ∀ L st S, k L st S → Nx w h p l e s m args below meth c Q (pc + 1) L st S) (hs : pIR st (fun i c r => aldC c i (fun v => k L (v :: r) S))) : Nx w h p l e s m args below meth c Q pc L st S := by
  obtain ⟨i, c0, r, rfl, h1⟩ := pIR_spec hs
  unfold aldC at h1
  split at h1
  · rename_i t k hsh
    obtain ⟨hc, ht, hk⟩ := sh_st6 hsh
    subst hc ht hk
    intro H locs ls K
    have hi : i32 i = i := cnS_h (cfN K)
    have hT : va_T .char (w.2.1 (sA 1)) 16 (fun j => .int (Int32.ofInt (cst 1 j))) (inA w) s s.heap := by
      rw [C.2.2.2.2.2.2.2.2.2 1 (by omega)]
      exact C.2.2.2.2.2.2.2.1.2.1.2.1.2
    refine va_tc C.1 C.2.1 hT (cfA K) (i := Int32.ofInt i) (vpin hi h1.1) (v := .int (Int32.ofInt (cst 1 i))) (by show Value.int (Int32.ofInt (cst 1 ((Int32.ofInt i).toNatClampNeg : Int))) = _; rw [clamp32 hi h1.1.1, toN h1.1.1]) hd ?_
    exact hN _ _ _ h1.2 H locs ls (cfS K (cnS_c (v := .inl (cst 1 i)) (can_cst 1 i) (cnS_t (cnS_t (cfN K)))))
  · exact h1.elim
theorem s_laload (C : Ctx w h p s m args meth c) (hd : decode h.2.2.1 pc = .ok (.laload, 1)) {k : LL → List AV → St → Prop} (hN : ∀ L st S, k L st S → Nx w h p l e s m args below meth c Q (pc + 1) L st S) (hs : pIR st (fun i c r => aldJ c i S (fun v => k L (v :: r) S))) : Nx w h p l e s m args below meth c Q pc L st S := by
  obtain ⟨i, c0, r, rfl, h1⟩ := pIR_spec hs
  unfold aldJ at h1
  split at h1
  · rename_i n k hsh
    obtain ⟨hlt, hk, hn⟩ := sh_arr hsh (Or.inr (Or.inl rfl))
    subst hk
    intro H locs ls K
    have hi : i32 i = i := cnS_h (cfN K)
    have hcell := wl_get w S hlt
    rw [cell_J hsh] at hcell
    refine va_lald (D := w.1) C.1 C.2.1 C.2.2.2.2.2.2.2.1.1 K.1 c0 1 hcell rfl (vpin hi h1.1) hd ?_
    have e0 : Int64.ofInt (S c0 ((Int32.ofInt i).toNatClampNeg : Int)) = Int64.ofInt (S c0 i) := by rw [clamp32 hi h1.1.1, toN h1.1.1]
    rw [e0]
    exact hN _ _ _ h1.2 H locs ls (cfS K (cnS_c (v := .inr (.inl (S c0 i))) (Can_J K.2.1 hsh i) (cnS_t (cnS_t (cfN K)))))
  · exact h1.elim
theorem s_baload (C : Ctx w h p s m args meth c) (hd : decode h.2.2.1 pc = .ok (.baload, 1)) {k : LL → List AV → St → Prop} (hN : ∀ L st S, k L st S → Nx w h p l e s m args below meth c Q (pc + 1) L st S) (hs : pIR st (fun i c r => aldZ c i S (fun v => k L (v :: r) S))) : Nx w h p l e s m args below meth c Q pc L st S := by
  obtain ⟨i, c0, r, rfl, h1⟩ := pIR_spec hs
  unfold aldZ at h1
  split at h1
  · rename_i n k hsh
    obtain ⟨hlt, hk, hn⟩ := sh_arr hsh (Or.inr (Or.inr rfl))
    subst hk
    intro H locs ls K
    have hi : i32 i = i := cnS_h (cfN K)
    have hcell := wl_get w S hlt
    rw [cell_Z hsh] at hcell
    refine va_zald (D := w.1) C.1 C.2.1 C.2.2.2.2.2.2.2.1.1 K.1 c0 2 hcell rfl (vpin hi h1.1) hd ?_
    have e0 : Int32.ofInt (S c0 ((Int32.ofInt i).toNatClampNeg : Int)) = Int32.ofInt (S c0 i) := by rw [clamp32 hi h1.1.1, toN h1.1.1]
    rw [e0]
    exact hN _ _ _ h1.2 H locs ls (cfS K (cnS_c (v := .inl (S c0 i)) (can01 (Can_Z K.2.1 hsh i)) (cnS_t (cnS_t (cfN K)))))
  · exact h1.elim
theorem upd_eq {f : Int → Int} {i v : Int} (hi : i32 i = i) (h0 : 0 ≤ i) : upd (fun (j : Nat) => Int32.ofInt (f (j : Int))) (Int32.ofInt i).toNatClampNeg (Int32.ofInt v) = fun (j : Nat) => Int32.ofInt (if (j : Int) = i then v else f (j : Int)) := by
  funext j
  unfold upd
  rw [clamp32 hi h0]
  by_cases hj : j = i.toNat
  · rw [if_pos hj, if_pos (by rw [hj, toN h0])]
  · rw [if_neg hj, if_neg (fun z => hj (by omega))]
theorem updL_eq {f : Int → Int} {i v : Int} (hi : i32 i = i) (h0 : 0 ≤ i) : vp_updL (fun (j : Nat) => Int64.ofInt (f (j : Int))) (Int32.ofInt i).toNatClampNeg (Int64.ofInt v) = fun (j : Nat) => Int64.ofInt (if (j : Int) = i then v else f (j : Int)) := by
  funext j
  unfold vp_updL
  rw [clamp32 hi h0]
  by_cases hj : j = i.toNat
  · rw [if_pos hj, if_pos (by rw [hj, toN h0])]
  · rw [if_neg hj, if_neg (fun z => hj (by omega))]
theorem s_iastore (C : Ctx w h p s m args meth c) (hd : decode h.2.2.1 pc = .ok (.iastore, 1)) {k : LL → List AV → St → Prop} (hN : ∀ L st S, k L st S → Nx w h p l e s m args below meth c Q (pc + 1) L st S) (hs : astI st S (fun r S => k L r S)) : Nx w h p l e s m args below meth c Q pc L st S := by
  unfold astI at hs
  split at hs
  · rename_i v i c0 r
    split at hs
    · rename_i n k hsh
      obtain ⟨hlt, hk, hn⟩ := sh_arr hsh (Or.inl rfl)
      subst hk
      intro H locs ls K
      have hv : i32 v = v := cnS_h (cfN K)
      have hi : i32 i = i := cnS_h (cnS_t (cfN K))
      have hcell := wl_get w S hlt
      rw [cell_I hsh] at hcell
      refine va_iast (D := w.1) C.1 C.2.1 C.2.2.2.2.2.2.2.1.1 K.1 (wl_D w S C.2.2.2.2.2.2.2.2) (cfA K) c0 0 hcell rfl (vpin hi hs.1) hd (fun H1 locs1 hP1 hD1 hS1 => ?_)
      rw [upd_eq hi hs.1.1] at hP1
      have hWo : Wo w (up S c0 i v) H1 := by
        unfold Wo
        rw [← wl_set w (S := S) (S' := up S c0 i v) hlt (fun c' hc' => up_o S _ _ hc'), cell_I hsh, up_c]
        exact hP1
      exact hN _ _ _ hs.2 H1 locs1 ls (cfH K hWo (Can_up K.2.1 (by unfold cnC; rw [hsh]; exact hv)) (cnS_t (cnS_t (cnS_t (cfN K)))) hS1)
    · exact hs.elim
  · exact hs.elim
theorem s_lastore (C : Ctx w h p s m args meth c) (hd : decode h.2.2.1 pc = .ok (.lastore, 1)) {k : LL → List AV → St → Prop} (hN : ∀ L st S, k L st S → Nx w h p l e s m args below meth c Q (pc + 1) L st S) (hs : astJ st S (fun r S => k L r S)) : Nx w h p l e s m args below meth c Q pc L st S := by
  unfold astJ at hs
  split at hs
  · rename_i v i c0 r
    split at hs
    · rename_i n k hsh
      obtain ⟨hlt, hk, hn⟩ := sh_arr hsh (Or.inr (Or.inl rfl))
      subst hk
      intro H locs ls K
      have hv : i64 v = v := cnS_h (cfN K)
      have hi : i32 i = i := cnS_h (cnS_t (cfN K))
      have hcell := wl_get w S hlt
      rw [cell_J hsh] at hcell
      refine va_last (D := w.1) C.1 C.2.1 C.2.2.2.2.2.2.2.1.1 K.1 (wl_D w S C.2.2.2.2.2.2.2.2) (cfA K) c0 1 hcell rfl (vpin hi hs.1) hd (fun H1 locs1 hP1 hD1 hS1 => ?_)
      rw [updL_eq hi hs.1.1] at hP1
      have hWo : Wo w (up S c0 i v) H1 := by
        unfold Wo
        rw [← wl_set w (S := S) (S' := up S c0 i v) hlt (fun c' hc' => up_o S _ _ hc'), cell_J hsh, up_c]
        exact hP1
      exact hN _ _ _ hs.2 H1 locs1 ls (cfH K hWo (Can_up K.2.1 (by unfold cnC; rw [hsh]; exact hv)) (cnS_t (cnS_t (cnS_t (cfN K)))) hS1)
    · exact hs.elim
  · exact hs.elim
theorem nar01 {v : Int} (h : v = 0 ∨ v = 1) : vp_nar .boolean (Int32.ofInt v) = Int32.ofInt v := by rcases h with rfl | rfl <;> rfl
theorem s_bastore (C : Ctx w h p s m args meth c) (hd : decode h.2.2.1 pc = .ok (.bastore, 1)) {k : LL → List AV → St → Prop} (hN : ∀ L st S, k L st S → Nx w h p l e s m args below meth c Q (pc + 1) L st S) (hs : astZ st S (fun r S => k L r S)) : Nx w h p l e s m args below meth c Q pc L st S := by
  unfold astZ at hs
  split at hs
  · rename_i v i c0 r
    split at hs
    · rename_i n k hsh
      obtain ⟨hlt, hk, hn⟩ := sh_arr hsh (Or.inr (Or.inr rfl))
      subst hk
      intro H locs ls K
      have hi : i32 i = i := cnS_h (cnS_t (cfN K))
      have hcell := wl_get w S hlt
      rw [cell_Z hsh] at hcell
      refine va_zast (D := w.1) C.1 C.2.1 C.2.2.2.2.2.2.2.1.1 K.1 (wl_D w S C.2.2.2.2.2.2.2.2) (cfA K) c0 2 hcell rfl (vpin hi hs.1) hd (fun H1 locs1 hP1 hD1 hS1 => ?_)
      rw [nar01 hs.2.1, upd_eq hi hs.1.1] at hP1
      have hWo : Wo w (up S c0 i v) H1 := by
        unfold Wo
        rw [← wl_set w (S := S) (S' := up S c0 i v) hlt (fun c' hc' => up_o S _ _ hc'), cell_Z hsh, up_c]
        exact hP1
      exact hN _ _ _ hs.2.2 H1 locs1 ls (cfH K hWo (Can_up K.2.1 (by unfold cnC; rw [hsh]; exact hs.2.1)) (cnS_t (cnS_t (cnS_t (cfN K)))) hS1)
    · exact hs.elim
  · exact hs.elim
theorem s_arraylength (C : Ctx w h p s m args meth c) (hd : decode h.2.2.1 pc = .ok (.arraylength, 1)) {k : LL → List AV → St → Prop} (hN : ∀ L st S, k L st S → Nx w h p l e s m args below meth c Q (pc + 1) L st S) (hs : pR st (fun c r => alnK c (fun n => k L (.inl n :: r) S))) : Nx w h p l e s m args below meth c Q pc L st S := by
  obtain ⟨c0, r, rfl, h1⟩ := pR_spec hs
  unfold alnK at h1
  have go : ∀ (n : Nat), n < 100000 → ∀ (x : vp_A) (cA : ClassId) (t0 : Nat) (ty : FieldType), x.1 = n → (tyK w)[t0]? = some (cA, ty) → c0 < nC → cellE w c0 S = .inl (cA, x) → k L (.inl (n : Int) :: r) S → Nx w h p l e s m args below meth c Q pc L (.inr (.inr c0) :: r) S := by
    intro n hn x cA t0 ty hx ht hlt hc h2 H locs ls K
    have hcell := wl_get w S hlt
    rw [hc] at hcell
    refine va_alen (D := w.1) C.1 C.2.1 C.2.2.2.2.2.2.2.1.1 K.1 c0 t0 hcell ht (v := Int32.ofInt (n : Int)) (by rw [hx]; rfl) hd ?_
    exact hN _ _ _ h2 H locs ls (cfS K (cnS_c (v := .inl (n : Int)) (can32.mpr (by omega)) (cnS_t (cfN K))))
  split at h1
  · rename_i n k hsh
    obtain ⟨hlt, hk, hn⟩ := sh_arr hsh (Or.inl rfl)
    subst hk
    exact go n hn _ _ 0 .int rfl rfl hlt (cell_I hsh) h1
  · rename_i n k hsh
    obtain ⟨hlt, hk, hn⟩ := sh_arr hsh (Or.inr (Or.inl rfl))
    subst hk
    exact go n hn _ _ 1 .long rfl rfl hlt (cell_J hsh) h1
  · rename_i n k hsh
    obtain ⟨hlt, hk, hn⟩ := sh_arr hsh (Or.inr (Or.inr rfl))
    subst hk
    exact go n hn _ _ 2 .boolean rfl rfl hlt (cell_Z hsh) h1
  · exact h1.elim
theorem s_getstatic (C : Ctx w h p s m args meth c) {x n : Nat} (hd : decode h.2.2.1 pc = .ok (.getstatic x, 3)) (hf : slC h.1 x n = true) {k : LL → List AV → St → Prop} (hN : ∀ L st S, k L st S → Nx w h p l e s m args below meth c Q (pc + 3) L st S) (hs : k L (.inr (.inr (sA n)) :: st) S) : Nx w h p l e s m args below meth c Q pc L st S := by
  obtain ⟨q, hq, e1, e2, e3⟩ := slE hf
  have hn : n < 4 := by rw [← e3]; exact slE4 _ hq
  have hlk := C.2.2.2.2.2.2.2.1.2.2 _ hq
  rw [e1, e2, e3] at hlk
  intro H locs ls K
  have hZ : va_Z "FarKeys" (stN n).1 (stN n).2 (.ref (w.2.1 (sA n))) (inA w) s s.heap := by
    have h2 := C.2.2.2.2.2.2.2.1.2.1
    rw [C.2.2.2.2.2.2.2.2.2 n hn]
    match n, hn with
    | 0, _ => exact h2.1.1
    | 1, _ => exact h2.2.1.1
    | 2, _ => exact h2.2.2.1.1
    | 3, _ => exact h2.2.2.2.1
  refine va_getsN C.1 C.2.1 hZ (cfA K) C.2.2.2.2.1 (va_Nw.use rfl hlk) (fun _ h9 => h9) hd ?_
  exact hN _ _ _ hs H locs ls (cfS K (cnS_c trivial (cfN K)))
end SNM
