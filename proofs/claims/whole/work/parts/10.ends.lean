/-! Math.max and min, arraycopy, switches, ends; then: what the abstract machine says holds of the machine -/
theorem mmS0 : Cond.static Lib.Math.max.name ∈ G := mG 829 (by decide +kernel) rfl
theorem mmS1 : Cond.static Lib.Math.min.name ∈ G := mG 832 (by decide +kernel) rfl
theorem mmI : Cond.initialized "java/lang/Math" ∈ G := mG 98 (by decide +kernel) rfl
theorem mmK0 : Cond.code Lib.Math.max.name Lib.Math.max.code 2 (some .int) ∈ G := mG 830 (by decide +kernel) rfl
theorem mmK1 : Cond.code Lib.Math.min.name Lib.Math.min.code 2 (some .int) ∈ G := mG 833 (by decide +kernel) rfl
theorem acN : Cond.native arraycopyName ∈ G := mG 724 (by decide +kernel) rfl
theorem acS : Cond.static arraycopyName ∈ G := mG 723 (by decide +kernel) rfl
theorem acI : Cond.initialized "java/lang/System" ∈ G := mG 93 (by decide +kernel) rfl
theorem of_min {a b : Int} (ha : i32 a = a) (hb : i32 b = b) : (if Int32.ofInt b < Int32.ofInt a then Int32.ofInt b else Int32.ofInt a) = Int32.ofInt (min a b) := by
  by_cases h : b < a
  · rw [if_pos ((lt32 hb ha).mpr h), Int.min_eq_right (by omega)]
  · rw [if_neg (fun q => h ((lt32 hb ha).mp q)), Int.min_eq_left (by omega)]
section SNE
variable {w : Wd} {h : Hd} {p : Program} {l : Launch} {e : Env} {s : State} {m : MethodId} {args : Array Value} {below : List Frame} {meth : Method} {c : Code} {Q : Option AV → St → Prop}
variable {H : Heap} {locs : List Loc} {ls : Array Slot} {L : LL} {st : List AV} {S : St} {pc : Nat}
theorem can_max {a b : Int} (ha : i32 a = a) (hb : i32 b = b) : i32 (max a b) = max a b := by rcases Int.le_total a b with q | q; { rw [Int.max_eq_right q]; exact hb }; { rw [Int.max_eq_left q]; exact ha }
theorem can_min {a b : Int} (ha : i32 a = a) (hb : i32 b = b) : i32 (min a b) = min a b := by rcases Int.le_total a b with q | q; { rw [Int.min_eq_left q]; exact ha }; { rw [Int.min_eq_right q]; exact hb }
theorem s_max (C : Ctx w h p s m args meth c) {x : Nat} (hd : decode h.2.2.1 pc = .ok (.invokestatic x, 3)) (hf : mmC h.1 x 0 = true) (hfr : 1 ≤ h.2.2.2.2.2.1) {k : LL → List AV → St → Prop} (hN : ∀ L st S, k L st S → Nx w h p l e s m args below meth c Q (pc + 3) L st S) (hs : pII st (fun a b r => match Nat.ble (cats r + 13) h.2.2.2.2.2.2.1 with | true => k L (.inl (max a b) :: r) S | false => False)) : Nx w h p l e s m args below meth c Q pc L st S := by
  obtain ⟨a, b, r, rfl, h2⟩ := pII_spec hs
  split at h2
  · rename_i b1
    intro H locs ls K
    have ha : i32 a = a := cnS_h (cnS_t (cfN K))
    have hb : i32 b = b := cnS_h (cfN K)
    refine va_mmax C.1 C.2.1 (C.2.2.2.1.trans (cfV K).1.symm) C.2.2.2.2.1 (C.2.2.2.2.2.1 _ (mmE hf)) (C.2.2.2.2.2.1 _ mmS0) (C.2.2.2.2.2.1 _ mmI) (C.2.2.2.2.2.1 _ mmK0) hfr (by rw [cats_eq]; exact Nat.ble_eq.mp b1) (Nat.zero_le _) (Nat.zero_le _) hd ?_
    rw [of_max ha hb]
    exact hN _ _ _ h2 H locs ls (cfS K (cnS_c (v := .inl (max a b)) (can_max ha hb) (cnS_t (cnS_t (cfN K)))))
  · exact h2.elim
theorem s_min (C : Ctx w h p s m args meth c) {x : Nat} (hd : decode h.2.2.1 pc = .ok (.invokestatic x, 3)) (hf : mmC h.1 x 1 = true) (hfr : 1 ≤ h.2.2.2.2.2.1) {k : LL → List AV → St → Prop} (hN : ∀ L st S, k L st S → Nx w h p l e s m args below meth c Q (pc + 3) L st S) (hs : pII st (fun a b r => match Nat.ble (cats r + 13) h.2.2.2.2.2.2.1 with | true => k L (.inl (min a b) :: r) S | false => False)) : Nx w h p l e s m args below meth c Q pc L st S := by
  obtain ⟨a, b, r, rfl, h2⟩ := pII_spec hs
  split at h2
  · rename_i b1
    intro H locs ls K
    have ha : i32 a = a := cnS_h (cnS_t (cfN K))
    have hb : i32 b = b := cnS_h (cfN K)
    refine va_mmin C.1 C.2.1 (C.2.2.2.1.trans (cfV K).1.symm) C.2.2.2.2.1 (C.2.2.2.2.2.1 _ (mmE hf)) (C.2.2.2.2.2.1 _ mmS1) (C.2.2.2.2.2.1 _ mmI) (C.2.2.2.2.2.1 _ mmK1) hfr (by rw [cats_eq]; exact Nat.ble_eq.mp b1) (Nat.zero_le _) (Nat.zero_le _) hd ?_
    rw [of_min ha hb]
    exact hN _ _ _ h2 H locs ls (cfS K (cnS_c (v := .inl (min a b)) (can_min ha hb) (cnS_t (cnS_t (cfN K)))))
  · exact h2.elim
theorem cpy_I {f g : Int → Int} {sp dp n : Int} (h1 : i32 sp = sp) (h2 : i32 dp = dp) (h3 : i32 n = n) (z1 : 0 ≤ sp) (z2 : 0 ≤ dp) (z3 : 0 ≤ n) : va_cpy (fun (j : Nat) => Int32.ofInt (f (j : Int))) (fun (j : Nat) => Int32.ofInt (g (j : Int))) (Int32.ofInt sp).toNatClampNeg (Int32.ofInt dp).toNatClampNeg (Int32.ofInt n).toNatClampNeg = fun (j : Nat) => Int32.ofInt (if dp ≤ (j : Int) ∧ (j : Int) < dp + n then f (sp + ((j : Int) - dp)) else g (j : Int)) := by
  funext j
  unfold va_cpy
  rw [clamp32 h1 z1, clamp32 h2 z2, clamp32 h3 z3]
  by_cases hj : dp.toNat ≤ j ∧ j < dp.toNat + n.toNat
  · rw [if_pos hj, if_pos (by omega)]
    have e0 : ((sp.toNat + (j - dp.toNat) : Nat) : Int) = sp + ((j : Int) - dp) := by omega
    show Int32.ofInt (f ((sp.toNat + (j - dp.toNat) : Nat) : Int)) = _
    rw [e0]
  · rw [if_neg hj, if_neg (by omega)]
theorem cpy_J {f g : Int → Int} {sp dp n : Int} (h1 : i32 sp = sp) (h2 : i32 dp = dp) (h3 : i32 n = n) (z1 : 0 ≤ sp) (z2 : 0 ≤ dp) (z3 : 0 ≤ n) : va_cpy (fun (j : Nat) => Int64.ofInt (f (j : Int))) (fun (j : Nat) => Int64.ofInt (g (j : Int))) (Int32.ofInt sp).toNatClampNeg (Int32.ofInt dp).toNatClampNeg (Int32.ofInt n).toNatClampNeg = fun (j : Nat) => Int64.ofInt (if dp ≤ (j : Int) ∧ (j : Int) < dp + n then f (sp + ((j : Int) - dp)) else g (j : Int)) := by
  funext j
  unfold va_cpy
  rw [clamp32 h1 z1, clamp32 h2 z2, clamp32 h3 z3]
  by_cases hj : dp.toNat ≤ j ∧ j < dp.toNat + n.toNat
  · rw [if_pos hj, if_pos (by omega)]
    have e0 : ((sp.toNat + (j - dp.toNat) : Nat) : Int) = sp + ((j : Int) - dp) := by omega
    show Int64.ofInt (f ((sp.toNat + (j - dp.toNat) : Nat) : Int)) = _
    rw [e0]
  · rw [if_neg hj, if_neg (by omega)]
theorem Can_cp {S : St} {a b : Nat} {sp dp n : Int} (hC : Can S) (hab : ∀ j j', cnC b j (S a j')) : Can (cpS S a sp b dp n) := by
  intro c' j'
  by_cases hc : c' = b
  · subst hc
    rw [cpS_c]
    by_cases hj : dp ≤ j' ∧ j' < dp + n
    · simp only [if_pos hj]
      exact hab _ _
    · simp only [if_neg hj]
      exact hC c' j'
  · rw [cpS_o S a sp dp n hc]
    exact hC c' j'
theorem neg32 {i : Int} (hi : i32 i = i) (h0 : 0 ≤ i) : ¬ Int32.ofInt i < 0 := fun z => absurd ((lt32 hi c0).mp z) (by omega)
theorem s_copy (C : Ctx w h p s m args meth c) {x : Nat} (hd : decode h.2.2.1 pc = .ok (.invokestatic x, 3)) (hf : alC h.1 x = true) (hfr : 1 ≤ h.2.2.2.2.2.1) {k : LL → List AV → St → Prop} (hN : ∀ L st S, k L st S → Nx w h p l e s m args below meth c Q (pc + 3) L st S) (hs : cpyK h.2.2.2.2.2.2.1 st S (fun r S => k L r S)) : Nx w h p l e s m args below meth c Q pc L st S := by
  unfold cpyK at hs
  split at hs
  · rename_i n dp b0 sp a0 r
    split at hs
    · rename_i la0 la lb0 lb hsa hsb b1
      obtain ⟨⟨z1, z2, z3, z4, z5⟩, h2⟩ := hs
      obtain ⟨hla, ea, -⟩ := sh_arr hsa (Or.inl rfl)
      obtain ⟨hlb, eb, -⟩ := sh_arr hsb (Or.inl rfl)
      subst ea eb
      intro H locs ls K
      have hn : i32 n = n := cnS_h (cfN K)
      have hdp : i32 dp = dp := cnS_h (cnS_t (cfN K))
      have hsp : i32 sp = sp := cnS_h (cnS_t (cnS_t (cnS_t (cfN K))))
      have hca := wl_get w S hla
      have hcb := wl_get w S hlb
      rw [cell_I hsa] at hca
      rw [cell_I hsb] at hcb
      refine va_copyi (D := w.1) C.1 C.2.1 (C.2.2.2.1.trans (cfV K).1.symm) C.2.2.2.2.1 (C.2.2.2.2.2.1 _ (alE hf)) (C.2.2.2.2.2.1 _ acN) (C.2.2.2.2.2.1 _ acS) (C.2.2.2.2.2.1 _ acI) C.2.2.2.2.2.2.2.1.1 K.1 (wl_D w S C.2.2.2.2.2.2.2.2) (cfA K) a0 b0 0 0 (ty := .int) hca hcb rfl rfl rfl (neg32 hsp z1) (neg32 hdp z2) (neg32 hn z3) (by rw [clamp32 hsp z1, clamp32 hn z3]; omega) (by rw [clamp32 hdp z2, clamp32 hn z3]; omega) (fun _ _ => rfl) hfr (by rw [cats_eq]; exact Nat.ble_eq.mp b1) hd (fun H1 locs1 hP1 hD1 hS1 => ?_)
      rw [cpy_I hsp hdp hn z1 z2 z3] at hP1
      have hWo : Wo w (cpS S a0 sp b0 dp n) H1 := by
        unfold Wo
        rw [← wl_set w (S := S) (S' := cpS S a0 sp b0 dp n) hlb (fun c' hc' => cpS_o S _ _ _ _ hc'), cell_I hsb, cpS_c]
        exact hP1
      exact hN _ _ _ h2 H1 locs1 ls (cfH K hWo (Can_cp K.2.1 (fun j j' => by unfold cnC; rw [hsb]; exact Can_I K.2.1 hsa j')) (cnS_t (cnS_t (cnS_t (cnS_t (cnS_t (cfN K)))))) hS1)
    · rename_i la0 la lb0 lb hsa hsb b1
      obtain ⟨⟨z1, z2, z3, z4, z5⟩, h2⟩ := hs
      obtain ⟨hla, ea, -⟩ := sh_arr hsa (Or.inr (Or.inl rfl))
      obtain ⟨hlb, eb, -⟩ := sh_arr hsb (Or.inr (Or.inl rfl))
      subst ea eb
      intro H locs ls K
      have hn : i32 n = n := cnS_h (cfN K)
      have hdp : i32 dp = dp := cnS_h (cnS_t (cfN K))
      have hsp : i32 sp = sp := cnS_h (cnS_t (cnS_t (cnS_t (cfN K))))
      have hca := wl_get w S hla
      have hcb := wl_get w S hlb
      rw [cell_J hsa] at hca
      rw [cell_J hsb] at hcb
      refine va_copyl (D := w.1) C.1 C.2.1 (C.2.2.2.1.trans (cfV K).1.symm) C.2.2.2.2.1 (C.2.2.2.2.2.1 _ (alE hf)) (C.2.2.2.2.2.1 _ acN) (C.2.2.2.2.2.1 _ acS) (C.2.2.2.2.2.1 _ acI) C.2.2.2.2.2.2.2.1.1 K.1 (wl_D w S C.2.2.2.2.2.2.2.2) (cfA K) a0 b0 1 1 (ty := .long) hca hcb rfl rfl rfl (neg32 hsp z1) (neg32 hdp z2) (neg32 hn z3) (by rw [clamp32 hsp z1, clamp32 hn z3]; omega) (by rw [clamp32 hdp z2, clamp32 hn z3]; omega) (fun _ _ => rfl) hfr (by rw [cats_eq]; exact Nat.ble_eq.mp b1) hd (fun H1 locs1 hP1 hD1 hS1 => ?_)
      rw [cpy_J hsp hdp hn z1 z2 z3] at hP1
      have hWo : Wo w (cpS S a0 sp b0 dp n) H1 := by
        unfold Wo
        rw [← wl_set w (S := S) (S' := cpS S a0 sp b0 dp n) hlb (fun c' hc' => cpS_o S _ _ _ _ hc'), cell_J hsb, cpS_c]
        exact hP1
      exact hN _ _ _ h2 H1 locs1 ls (cfH K hWo (Can_cp K.2.1 (fun j j' => by unfold cnC; rw [hsb]; exact Can_J K.2.1 hsa j')) (cnS_t (cnS_t (cnS_t (cnS_t (cnS_t (cfN K)))))) hS1)
    · exact hs.elim
  · exact hs.elim
/-! switches -/
theorem swT_spec {x : Int} {f : Int → Prop} : ∀ (os : List Int) (lo : Int), swT x lo os f → ∀ (i : Nat) (o : Int), os[i]? = some o → x = lo + i → f o
  | [], _, _, i, o, h, _ => by simp at h
  | o' :: os, lo, hs, 0, o, h, hx => by
    have e : o' = o := by simpa using h
    rw [← e]
    exact hs.1 (by omega)
  | o' :: os, lo, hs, i + 1, o, h, hx => swT_spec os (lo + 1) hs.2 i o (by simpa using h) (by omega)
theorem swL_spec {x : Int} {f : Int → Prop} : ∀ (ps : List (Int × Int)) (d : Int), swL x ps d f → f (Op.lookupswitch.offset ps d x) ∧ (Op.lookupswitch.offset ps d x = d ∨ ∃ q ∈ ps, Op.lookupswitch.offset ps d x = q.2)
  | [], d, hs => ⟨hs, Or.inl rfl⟩
  | (a, o) :: r, d, hs => by
    rw [Op.lookupswitch.offset_cons]
    by_cases hx : x = a
    · rw [if_pos hx.symm]
      exact ⟨hs.1 hx, Or.inr ⟨(a, o), List.mem_cons_self, rfl⟩⟩
    · rw [if_neg (fun z => hx z.symm)]
      obtain ⟨h1, h2⟩ := swL_spec r d (hs.2 hx)
      refine ⟨h1, h2.imp id (fun ⟨q, z1, z2⟩ => ⟨q, List.mem_cons_of_mem _ z1, z2⟩)⟩
theorem s_table (C : Ctx w h p s m args meth c) {d lo hi : Int} {offs : Array Int} {len : Nat} (hd : decode h.2.2.1 pc = .ok (.tableswitch d lo hi offs, len)) (hz : hi - lo + 1 = (offs.size : Int)) (h0 : 0 ≤ (pc : Int) + d) (h1 : ∀ o ∈ offs.toList, 0 ≤ (pc : Int) + o) {j : Nat → LL → List AV → St → Prop} (hJ : ∀ t L st S, j t L st S → Nx w h p l e s m args below meth c Q t L st S) (hs : pI st (fun a r => ((a < lo ∨ hi < a) → j ((pc : Int) + d).toNat L r S) ∧ swT a lo offs.toList (fun o => j ((pc : Int) + o).toNat L r S))) : Nx w h p l e s m args below meth c Q pc L st S := by
  obtain ⟨a, r, rfl, h2, h3⟩ := pI_spec hs
  intro H locs ls K
  have ha : i32 a = a := cnS_h (cfN K)
  by_cases hq : a < lo ∨ hi < a
  · refine lv_tableOut (tgt := ((pc : Int) + d).toNat) C.1 C.2.1 hd (by rw [toInt_i32, ha]; exact hq) (by omega) ?_
    exact hJ _ _ _ _ (h2 hq) H locs ls (cfS K (cnS_t (cfN K)))
  · have hlt : (a - lo).toNat < offs.toList.length := by rw [Array.length_toList]; omega
    have ho : offs.toList[(a - lo).toNat]? = some offs.toList[(a - lo).toNat] := List.getElem?_eq_getElem hlt
    have hm := List.mem_of_getElem? ho
    have hz1 := h1 _ hm
    refine lv_tableIn (tgt := ((pc : Int) + offs.toList[(a - lo).toNat]).toNat) (off := offs.toList[(a - lo).toNat]) C.1 C.2.1 hd (by rw [toInt_i32, ha]; omega) (by rw [toInt_i32, ha]; omega) (by rw [toInt_i32, ha, ← Array.getElem?_toList]; exact ho) (by omega) ?_
    exact hJ _ _ _ _ (swT_spec _ _ h3 _ _ ho (by omega)) H locs ls (cfS K (cnS_t (cfN K)))
theorem s_lookup (C : Ctx w h p s m args meth c) {d : Int} {ps : Array (Int × Int)} {len : Nat} (hd : decode h.2.2.1 pc = .ok (.lookupswitch d ps, len)) (hz : (ps.toList.zip (ps.toList.drop 1)).all (fun (a, next) => a.1 < next.1) = true) (h0 : 0 ≤ (pc : Int) + d) (h1 : ∀ q ∈ ps.toList, 0 ≤ (pc : Int) + q.2) {j : Nat → LL → List AV → St → Prop} (hJ : ∀ t L st S, j t L st S → Nx w h p l e s m args below meth c Q t L st S) (hs : pI st (fun a r => swL a ps.toList d (fun o => j ((pc : Int) + o).toNat L r S))) : Nx w h p l e s m args below meth c Q pc L st S := by
  obtain ⟨a, r, rfl, h2⟩ := pI_spec hs
  obtain ⟨h3, h4⟩ := swL_spec _ _ h2
  intro H locs ls K
  have ha : i32 a = a := cnS_h (cfN K)
  have hp : 0 ≤ (pc : Int) + Op.lookupswitch.offset ps.toList d a := by
    rcases h4 with q | ⟨q, z1, z2⟩
    · rw [q]; exact h0
    · rw [z2]; exact h1 q z1
  refine lv_lookup (tgt := ((pc : Int) + Op.lookupswitch.offset ps.toList d a).toNat) (off := Op.lookupswitch.offset ps.toList d a) C.1 C.2.1 hd hz (by rw [toInt_i32, ha]) (by omega) ?_
  exact hJ _ _ _ _ h3 H locs ls (cfS K (cnS_t (cfN K)))
/-! ends -/
theorem qcf (K : Cfg w h s H locs ls L st S) {r : Option AV} (hq : Q r S) (hr : cnO r) (t : State) (ht : t.heap = H) (hW : s.WarmedH t.vm) : Qcf w Q args s (.returned (r.map (cv w.2.1))) t := ⟨⟨r, S, hq, rfl, K.2.1, hr, by rw [ht]; exact K.1, hW.alike⟩, (cfA K).F ht⟩
theorem s_ireturn (C : Ctx w h p s m args meth c) (hd : decode h.2.2.1 pc = .ok (.ireturn, 1)) (hs : match st, h.2.2.2.2.1 with
    | [.inl a], some .int => Q (some (.inl a)) S
    | [.inl a], some .boolean => (a = 0 ∨ a = 1) ∧ Q (some (.inl a)) S
    | _, _ => False) : Nx w h p l e s m args below meth c Q pc L st S := by
  split at hs
  · rename_i a hrt
    intro H locs ls K
    exact W.iret C.1 C.2.1 (C.2.2.1.trans hrt) (fun t ht hW => qcf K hs (fun v z => by cases z; exact cnS_h (cfN K)) t ht hW) (cfA K).2.2 hd C.2.2.2.2.2.2.1
  · rename_i a hrt
    intro H locs ls K
    exact W.zret C.1 C.2.1 (C.2.2.1.trans hrt) (by rcases hs.1 with rfl | rfl <;> rfl) (fun t ht hW => qcf K hs.2 (fun v z => by cases z; exact cnS_h (cfN K)) t ht hW) (cfA K).2.2 hd C.2.2.2.2.2.2.1
  · exact hs.elim
theorem s_lreturn (C : Ctx w h p s m args meth c) (hd : decode h.2.2.1 pc = .ok (.lreturn, 1)) (hs : match st, h.2.2.2.2.1 with
    | [.inr (.inl a)], some .long => Q (some (.inr (.inl a))) S
    | _, _ => False) : Nx w h p l e s m args below meth c Q pc L st S := by
  split at hs
  · rename_i a hrt
    intro H locs ls K
    exact W.lret C.1 C.2.1 (C.2.2.1.trans hrt) (fun t ht hW => qcf K hs (fun v z => by cases z; exact cnS_h (cfN K)) t ht hW) (cfA K).2.2 hd C.2.2.2.2.2.2.1
  · exact hs.elim
theorem s_areturn (C : Ctx w h p s m args meth c) (hd : decode h.2.2.1 pc = .ok (.areturn, 1)) (hs : match st, h.2.2.2.2.1 with
    | [.inr (.inr a)], some (.object _) => Q (some (.inr (.inr a))) S
    | _, _ => False) : Nx w h p l e s m args below meth c Q pc L st S := by
  split at hs
  · rename_i a o hrt
    intro H locs ls K
    exact W.aret C.1 C.2.1 (C.2.2.1.trans hrt) (Or.inl ⟨_, rfl⟩) (Or.inr ⟨_, rfl⟩) (fun t ht hW => qcf K hs (fun v z => by cases z; exact trivial) t ht hW) (cfA K).2.2 hd C.2.2.2.2.2.2.1
  · exact hs.elim
theorem s_return (C : Ctx w h p s m args meth c) (hd : decode h.2.2.1 pc = .ok (.return_, 1)) (hs : match st, h.2.2.2.2.1 with
    | [], none => Q none S
    | _, _ => False) : Nx w h p l e s m args below meth c Q pc L st S := by
  split at hs
  · rename_i hrt
    intro H locs ls K
    exact W.vret C.1 C.2.1 (C.2.2.1.trans hrt) (fun t ht hW => qcf K hs (fun v z => by cases z) t ht hW) (cfA K).2.2 hd C.2.2.2.2.2.2.1
  · exact hs.elim
end SNE
