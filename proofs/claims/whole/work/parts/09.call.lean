/-! calls, ends; the whole of a stretch of code -/
section SNC
variable {w : Wd} {h : Hd} {p : Program} {l : Launch} {e : Env} {s : State} {m : MethodId} {args : Array Value} {below : List Frame} {meth : Method} {c : Code} {Q : Option AV → St → Prop}
variable {H : Heap} {locs : List Loc} {ls : Array Slot} {L : LL} {st : List AV} {S : St} {pc : Nat}
theorem padL_al (ad : Nat → Nat) : ∀ (n i : Nat), al ad i (padL n) = []
  | 0, _ => rfl
  | n + 1, i => padL_al ad n (i + 1)
theorem padL_n : ∀ (n : Nat) (v : AV), some v ∉ padL n
  | 0, v => by simp [padL]
  | n + 1, v => by simp [padL, padL_n n v]
theorem sl_cons (v : Value) (vs : List Value) : (lg_sl (v :: vs)).length = v.category + (lg_sl vs).length := by
  unfold lg_sl
  rw [List.flatMap_cons, List.length_append]
  rcases lv_cat v with q | q <;> simp [q]
theorem enL_spec (ad : Nat → Nat) : ∀ (as : List AV) (n i : Nat) (f : LL → Prop), enL as n f → ∃ L, f L ∧ (lg_sl (as.map (cv ad))).length ≤ n ∧ (∀ q ∈ al ad i L, q ∈ lv_args i (as.map (cv ad))) ∧ (cnS as → cnL L)
  | [], n, i, f, h => ⟨padL n, h, by simp [lg_sl], fun q hq => by rw [padL_al] at hq; exact absurd hq List.not_mem_nil, fun _ v hv => absurd hv (padL_n n v)⟩
  | .inr (.inl a) :: r, n + 2, i, f, h => by
    obtain ⟨L, h1, h2, h3, h4⟩ := enL_spec ad r n (i + 2) _ h
    refine ⟨_, h1, ?_, fun q hq => ?_, fun z v hv => ?_⟩
    · rw [List.map_cons, sl_cons]
      show 2 + _ ≤ _
      omega
    · rw [al, al] at hq
      rcases List.mem_cons.mp hq with z | z
      · rw [z]; exact List.mem_cons_self
      · exact List.mem_cons_of_mem _ (h3 q z)
    · rcases List.mem_cons.mp hv with q | q
      · cases q; exact cnS_h z
      · rcases List.mem_cons.mp q with q | q
        · cases q
        · exact h4 (cnS_t z) v q
  | .inl a :: r, n + 1, i, f, h => by
    obtain ⟨L, h1, h2, h3, h4⟩ := enL_spec ad r n (i + 1) _ h
    refine ⟨_, h1, ?_, fun q hq => ?_, fun z v hv => ?_⟩
    · rw [List.map_cons, sl_cons]
      show 1 + _ ≤ _
      omega
    · rw [al] at hq
      rcases List.mem_cons.mp hq with z | z
      · rw [z]; exact List.mem_cons_self
      · exact List.mem_cons_of_mem _ (h3 q z)
    · rcases List.mem_cons.mp hv with q | q
      · cases q; exact cnS_h z
      · exact h4 (cnS_t z) v q
  | .inr (.inr a) :: r, n + 1, i, f, h => by
    obtain ⟨L, h1, h2, h3, h4⟩ := enL_spec ad r n (i + 1) _ h
    refine ⟨_, h1, ?_, fun q hq => ?_, fun z v hv => ?_⟩
    · rw [List.map_cons, sl_cons]
      show 1 + _ ≤ _
      omega
    · rw [al] at hq
      rcases List.mem_cons.mp hq with z | z
      · rw [z]; exact List.mem_cons_self
      · exact List.mem_cons_of_mem _ (h3 q z)
    · rcases List.mem_cons.mp hv with q | q
      · cases q; exact cnS_h z
      · exact h4 (cnS_t z) v q
  | .inr (.inl a) :: r, 1, i, f, h => False.elim h
  | .inr (.inl a) :: r, 0, i, f, h => False.elim h
  | .inl a :: r, 0, i, f, h => False.elim h
  | .inr (.inr a) :: r, 0, i, f, h => False.elim h
/-- what a callee starts from -/
def PcO (w : Wd) (S : St) (as : List AV) : Array Value → State → Prop := va_Pc (as.map (cv w.2.1)) (fun U => Kx w U ∧ Wo w S U.heap)
theorem Kx_same {U V : State} (hvm : U.vm = V.vm) (hh : U.heap = V.heap) (k : Kx w U) : Kx w V := by
  have ha : U.vm.Alike V.vm := by rw [hvm]; exact Vm.Alike.refl V.vm
  refine ⟨va_K.moved ha k.1, ?_, fun q hq => va_Nw.same rfl hvm (k.2.2 q hq)⟩
  rw [← hh]
  exact ⟨⟨va_Z.moved ha k.2.1.1.1, va_T.moved ha k.2.1.1.2⟩, ⟨va_Z.moved ha k.2.1.2.1.1, va_T.moved ha k.2.1.2.1.2⟩, ⟨va_Z.moved ha k.2.1.2.2.1.1, va_T.moved ha k.2.1.2.2.1.2⟩, ⟨va_Z.moved ha k.2.1.2.2.2.1, va_T.moved ha k.2.1.2.2.2.2⟩⟩
theorem Kx_warm {U : State} (hW : s.WarmedH U.vm) (hS : va_S (inA w) s.heap U.heap locs) (k : Kx w s) : Kx w U := by
  have ha := hW.alike
  have hq : ∀ a : Nat, a < s.heap.size → ¬ inA w a → U.heap[a]? = s.heap[a]? := hS.2.1
  refine ⟨va_K.moved ha k.1, ?_, fun q hq => va_Nw.warmF hW (k.2.2 q hq)⟩
  exact ⟨⟨(va_Z.moved ha k.2.1.1.1).kept hq, (va_T.moved ha k.2.1.1.2).kept hq⟩, ⟨(va_Z.moved ha k.2.1.2.1.1).kept hq, (va_T.moved ha k.2.1.2.1.2).kept hq⟩, ⟨(va_Z.moved ha k.2.1.2.2.1.1).kept hq, (va_T.moved ha k.2.1.2.2.1.2).kept hq⟩, ⟨(va_Z.moved ha k.2.1.2.2.2.1).kept hq, (va_T.moved ha k.2.1.2.2.2.2).kept hq⟩⟩
theorem PcO_blind (as : List AV) : FrameBlind (PcO w S as) := fun a U g mk q => ⟨q.1, Kx_same rfl rfl q.2.1, q.2.2⟩
abbrev wsO (g : Hd) : List Cond := Cond.code g.2.1 g.2.2.1 g.2.2.2.1 g.2.2.2.2.1 :: G
theorem met_of {g : Hd} (hg : hdOk g) {Q' : Option AV → St → Prop} {as : List AV} (ha : adOk w) (hC : Can S) (has : cnS as) (hs : enL as g.2.2.2.1 (fun L => Smm g 0 L [] S Q')) (l : Launch) : Met l g.2.1 (wsO g) (rmO g) (PcO w S as) (Qcf w Q') 0 0 (inA w) := by
  obtain ⟨L, h1, h2, h3, h4⟩ := enL_spec w.2.1 as g.2.2.2.1 0 _ hs
  refine Met.ofW (cc := g.2.2.1) (maxL := g.2.2.2.1) (ret := g.2.2.2.2.1) hg.2.2.2.1 rfl ?_
  intro p e s m args below meth c s₁ B hml hv
  obtain ⟨rfl, hK, hWo⟩ := hv
  have hts := atoms_spec (ws := wsO g) B.pre
  have hown : s.vm.findClass g.2.1.cls = some m.cls := findClass_of_methodNamed B.named
  have Cx : Ctx w g p s m (as.map (cv w.2.1)).toArray meth c := ⟨B.exec, B.bytes, B.returns, hml, by rw [← hg.2.2.1]; exact hown, fun w hw => hts w (List.mem_cons_of_mem _ hw), B.notSynchronized, hK, ha⟩
  have hl := lv_entry (as.map (cv w.2.1)) (n := g.2.2.2.1) h2
  rw [lg_entry_eq]
  generalize (lg_sl (as.map (cv w.2.1)) ++ List.replicate (g.2.2.2.1 - (lg_sl (as.map (cv w.2.1))).length) Slot.unset).toArray = ls at hl ⊢
  exact h1 w p l e s m _ below meth c Cx s.heap [] ls ⟨hWo, hC, h4 has, fun _ z => absurd z List.not_mem_nil, va_S.rf, ⟨hl.1, hl.2.1, fun q hq => hl.2.2 q (h3 q hq)⟩⟩
theorem call_go {Q' : Option AV → St → Prop} {R : Room} {Qz : State → Prop} {st0 rest : List Value} {a : Array Value} (hr : va_Run p l e R s m args below meth c H locs 0 0 0 0 (F0 m pc ls st0) rest (Qcf w Q' a) (inA w)) (hS : va_S (inA w) s.heap H locs)
    (kk : ∀ (r : Option AV) (S' : St) (H1 : Heap) (locs1 : List Loc), Q' r S' → Can S' → cnO r → Wo w S' H1 → va_S (inA w) s.heap H1 locs1 → W p l e R s m args below meth c H1 locs1 0 0 Qz (F0 m (pc + 3) ls ((r.map (cv w.2.1)).toList ++ rest))) : W p l e R s m args below meth c H locs 0 0 Qz (F0 m pc ls st0) := by
  intro T hT X
  obtain ⟨v, st₀, t, T', L, h0, X', hL, e1, e2, ⟨⟨r, S', hq, ho, hC, hcn, hW, hal⟩, hz, hk⟩, st⟩ := hr T hT X
  cases ho
  rw [h0] at hz hk
  rw [← e1] at hW
  obtain ⟨t2, a1, b1⟩ := kk r S' T'.heap (locs ++ L) hq hC hcn hW
    ⟨Nat.le_trans hS.1 (by rw [e1]; exact hz), fun q h1 h2 => by rw [e1, hk q (Nat.lt_of_lt_of_le h1 hS.1) h2]; exact hS.2.1 q h1 h2, fun q hq => by
      rcases List.mem_append.mp hq with h | h
      · exact hS.2.2 q h
      · exact hL q h⟩ T' rfl X'
  exact ⟨t2, st t2 a1, b1⟩
theorem goodG (g : Hd) (hg : hdOk g) : GoodIn G (wsO g) := fun w hw => by
  rcases List.mem_cons.mp hw with q | q
  · rw [q]; exact ⟨hg.1, good_of_word (G_good _ hg.1)⟩
  · exact ⟨q, good_of_word (G_good _ q)⟩
theorem cats_eq (ad : Nat → Nat) : ∀ (r : List AV), ((r.map (cv ad)).map fun v => v.category).sum = cats r
  | [] => rfl
  | v :: r => by rw [List.map_cons, List.map_cons, List.sum_cons, cats_eq ad r, cat_cv]; rfl
theorem toL (ad : Nat → Nat) (r : Option AV) (rest : List AV) : (r.toList ++ rest).map (cv ad) = (r.map (cv ad)).toList ++ rest.map (cv ad) := by
  cases r <;> rfl
theorem cnO_l {r : Option AV} (h : cnO r) : cnS r.toList := by
  cases r with
  | none => exact fun _ z => absurd z List.not_mem_nil
  | some v => intro u hu; rw [List.mem_singleton.mp hu]; exact h v rfl
theorem cnS_rev {as r : List AV} (h : cnS (as.reverse ++ r)) : cnS as := fun u hu => h u (List.mem_append_left _ (List.mem_reverse.mpr hu))
theorem cnS_r {a r : List AV} (h : cnS (a ++ r)) : cnS r := fun u hu => h u (List.mem_append_right _ hu)
theorem s_invokestatic (C : Ctx w h p s m args meth c) {x n : Nat} (hd : decode h.2.2.1 pc = .ok (.invokestatic x, 3)) (hf : mlC h.1 x n = true) (hrc : (hdTab n).2.2.2.2.2.2.2.1 = 0) {k : LL → List AV → St → Prop} (hN : ∀ L st S, k L st S → Nx w h p l e s m args below meth c Q (pc + 3) L st S) (hs : calK h n st S (fun r S => k L r S)) : Nx w h p l e s m args below meth c Q pc L st S := by
  have hg := hdTab_ok n
  have hlk := mlE hf
  unfold calK at hs
  generalize hdTab n = g at hs hg hlk hrc
  obtain ⟨oc, nm, by_, ml, rt, fr, lo, rc, np⟩ := g
  dsimp only at hs hrc
  subst hrc
  split at hs
  · rename_i b1 b2
    obtain ⟨as, r, ha1, rfl, h2⟩ := pN_spec _ _ _ hs
    rw [List.append_nil] at h2
    split at h2
    · rename_i b3
      intro H locs ls K
      have hst := (hg.2.2.2.2.2.resolve_right (fun z => z.1 rfl)).2
      have hM := met_of (g := (oc, nm, by_, ml, rt, fr, lo, 0, np)) hg C.2.2.2.2.2.2.2.2 K.2.1 (cnS_rev (cfN K)) h2 l
      have hcb := callB_of (R := rmO h) (rm := rmO (oc, nm, by_, ml, rt, fr, lo, 0, np)) (mc := 0) (ms := 0) (s := s) (args := args) (own := clN h.1) (index := x) np C.2.2.2.2.2.1 (goodG _ hg) rfl rfl rfl (C.2.2.2.2.2.1 _ hg.2.1) (C.2.2.2.2.2.1 _ hlk) hg.2.2.2.2.1 ⟨Nat.ble_eq.mp b1, by have := Nat.ble_eq.mp b2; show 8 + (ml + 11) + lo ≤ h.2.2.2.2.2.2.1; omega⟩
      have hr := va_runS (As := as.map (cv w.2.1)) (rest := r.map (cv w.2.1)) (g := F0 m pc ls ((as.reverse ++ r).map (cv w.2.1))) (p := p) (e := e) (below := below) (meth := meth) (locs := locs) (cells := 0) (slots := 0) (nL := h.2.2.2.1) (H := H) ⟨C.1, C.2.1, C.2.2.2.1, C.2.2.2.2.1, C.2.2.2.2.2.1⟩ hM ⟨hcb, C.2.2.2.2.2.1 _ hst⟩ ⟨PcO_blind as, fun U hU hW => ⟨rfl, Kx_warm hW (by rw [hU]; exact cfA K) C.2.2.2.2.2.2.2.1, by rw [hU]; exact K.1⟩⟩ rfl (by rw [List.length_map]; exact ha1) (cfV K).1 (by show List.map _ _ = _; rw [List.map_append, List.map_reverse]) (by show 2 * 0 + _ ≤ 8; rw [cats_eq]; have := Nat.ble_eq.mp b3; omega) hd ⟨Nat.le_refl _, Nat.le_refl _⟩
      refine call_go hr (cfA K) (fun r' S' H1 locs1 hq hC' hcn hW1 hS1 => ?_)
      rw [← toL]
      exact hN _ _ _ hq H1 locs1 ls (cfH K hW1 hC' (cnS_a (cnO_l hcn) (cnS_r (cfN K))) hS1)
    · exact h2.elim
  · exact hs.elim
theorem s_invokevirtual (C : Ctx w h p s m args meth c) {x n : Nat} (hd : decode h.2.2.1 pc = .ok (.invokevirtual x, 3)) (hf : mlC h.1 x n = true) (hrc : ¬ (hdTab n).2.2.2.2.2.2.2.1 = 0) {k : LL → List AV → St → Prop} (hN : ∀ L st S, k L st S → Nx w h p l e s m args below meth c Q (pc + 3) L st S) (hs : calK h n st S (fun r S => k L r S)) : Nx w h p l e s m args below meth c Q pc L st S := by
  have hg := hdTab_ok n
  have hlk := mlE hf
  unfold calK at hs
  generalize hdTab n = g at hs hg hlk hrc
  obtain ⟨oc, nm, by_, ml, rt, fr, lo, rc, np⟩ := g
  dsimp only at hs hrc
  split at hs
  · rename_i b1 b2
    split at hs
    · exact absurd rfl hrc
    · obtain ⟨as, r0, ha1, rfl, h2⟩ := pN_spec _ _ _ hs
      rw [List.append_nil] at h2
      obtain ⟨c0, r, rfl, h3⟩ := pR_spec h2
      split at h3
      · rename_i ci ks hsh
        split at h3
        · rename_i b3 b4
          have eoc := Nat.beq_eq.mp b3
          subst eoc
          intro H locs ls K
          obtain ⟨hin, hse⟩ := (hg.2.2.2.2.2.resolve_left (fun z => hrc z.1)).2
          have hK' := cfN K
          have hcas : cnS (.inr (.inr c0) :: as) := cnS_c trivial (cnS_rev hK')
          have hM := met_of (g := (ci, nm, by_, ml, rt, fr, lo, rc, np)) hg C.2.2.2.2.2.2.2.2 K.2.1 hcas h3 l
          have hcb := callB_of (R := rmO h) (rm := rmO (ci, nm, by_, ml, rt, fr, lo, rc, np)) (mc := 0) (ms := 0) (s := s) (args := args) (own := clN h.1) (index := x) np C.2.2.2.2.2.1 (goodG _ hg) rfl rfl rfl (C.2.2.2.2.2.1 _ hg.2.1) (C.2.2.2.2.2.1 _ hlk) hg.2.2.2.2.1 ⟨Nat.ble_eq.mp b1, by have := Nat.ble_eq.mp b2; show 8 + (ml + 11) + lo ≤ h.2.2.2.2.2.2.1; omega⟩
          have hcell := wl_get w S (sh_obj hsh).1
          rw [cell_obj hsh] at hcell
          have hrecv := va_recv C.2.2.2.2.2.2.2.1.1 K.1 (clE_get ci (sh_obj hsh).2.1) hcell
          have hcl : (clE ci).1 = nm.cls := by
            have e1 : nm.cls = clN ci := hg.2.2.1
            rw [e1]
            have : ∀ k, k < 13 → (clE k).1 = clN k := by decide +kernel
            exact this ci (sh_obj hsh).2.1
          rw [hcl] at hrecv
          have hr := va_runV (As := as.map (cv w.2.1)) (rest := r.map (cv w.2.1)) (b := w.2.1 c0) (g := F0 m pc ls ((as.reverse ++ .inr (.inr c0) :: r).map (cv w.2.1))) (p := p) (e := e) (below := below) (meth := meth) (locs := locs) (cells := 0) (slots := 0) (nL := h.2.2.2.1) (H := H) ⟨C.1, C.2.1, C.2.2.2.1, C.2.2.2.2.1, C.2.2.2.2.2.1⟩ hM ⟨hcb, C.2.2.2.2.2.1 _ hin, C.2.2.2.2.2.1 _ hse⟩ ⟨PcO_blind _, hrecv, fun U hU hW => ⟨rfl, Kx_warm hW (by rw [hU]; exact cfA K) C.2.2.2.2.2.2.2.1, by rw [hU]; exact K.1⟩⟩ rfl (by rw [List.length_map]; exact ha1) (cfV K).1 (by show List.map _ _ = _; rw [List.map_append, List.map_reverse]; rfl) (by show 2 * 0 + _ ≤ 8; rw [cats_eq]; have := Nat.ble_eq.mp b4; omega) hd ⟨Nat.le_refl _, Nat.le_refl _⟩
          refine call_go hr (cfA K) (fun r' S' H1 locs1 hq hC' hcn hW1 hS1 => ?_)
          rw [← toL]
          exact hN _ _ _ hq H1 locs1 ls (cfH K hW1 hC' (cnS_a (cnO_l hcn) (cnS_t (cnS_r hK'))) hS1)
        · exact h3.elim
      · exact h3.elim
  · exact hs.elim
end SNC
