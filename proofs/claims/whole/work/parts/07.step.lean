/-! one instruction: the abstract machine's step is the machine's -/
section SND
variable {w : Wd} {h : Hd} {p : Program} {l : Launch} {e : Env} {s : State} {m : MethodId} {args : Array Value} {below : List Frame} {meth : Method} {c : Code} {Q : Option AV → St → Prop}
/-- in this context: from this place on the method ends with Q -/
def Nx (w : Wd) (h : Hd) (p : Program) (l : Launch) (e : Env) (s : State) (m : MethodId) (args : Array Value) (below : List Frame) (meth : Method) (c : Code) (Q : Option AV → St → Prop) (pc : Nat) (L : LL) (st : List AV) (S : St) : Prop :=
  ∀ (H : Heap) (locs : List Loc) (ls : Array Slot), Cfg w h s H locs ls L st S → W p l e (rmO h) s m args below meth c H locs 0 0 (MQ below (Qcf w Q) args s 0 0 (inA w)) (F0 m pc ls (st.map (cv w.2.1)))
variable {H : Heap} {locs : List Loc} {ls : Array Slot} {L : LL} {st : List AV} {S : St} {pc : Nat}
theorem cnS_c {v : AV} {r : List AV} (hv : cnV v) (hr : cnS r) : cnS (v :: r) := fun u hu => by
  rcases List.mem_cons.mp hu with q | q
  · rw [q]; exact hv
  · exact hr u q
theorem cnS_t {v : AV} {r : List AV} (hs : cnS (v :: r)) : cnS r := fun u hu => hs u (List.mem_cons_of_mem _ hu)
theorem cnS_h {v : AV} {r : List AV} (hs : cnS (v :: r)) : cnV v := hs v List.mem_cons_self
theorem cnS_a {a b : List AV} (ha : cnS a) (hb : cnS b) : cnS (a ++ b) := fun u hu => (List.mem_append.mp hu).elim (ha u) (hb u)
theorem cfS {st' : List AV} (K : Cfg w h s H locs ls L st S) (hst : cnS st') : Cfg w h s H locs ls L st' S := ⟨K.1, K.2.1, K.2.2.1, hst, K.2.2.2.2⟩
theorem cfN (K : Cfg w h s H locs ls L st S) : cnS st := K.2.2.2.1
theorem cfL (K : Cfg w h s H locs ls L st S) : cnL L := K.2.2.1
theorem cfV (K : Cfg w h s H locs ls L st S) : lvp w.2.1 ls h.2.2.2.1 L := K.2.2.2.2.2
theorem cfA (K : Cfg w h s H locs ls L st S) : va_S (inA w) s.heap H locs := K.2.2.2.2.1
theorem cfSL {st' : List AV} {ls' : Array Slot} {L' : LL} (K : Cfg w h s H locs ls L st S) (hL : cnL L') (hst : cnS st') (hv : lvp w.2.1 ls' h.2.2.2.1 L') : Cfg w h s H locs ls' L' st' S := ⟨K.1, K.2.1, hL, hst, K.2.2.2.2.1, hv⟩
theorem cfH {st' : List AV} {S' : St} {H' : Heap} {locs' : List Loc} (K : Cfg w h s H locs ls L st S) (hW : Wo w S' H') (hC : Can S') (hst : cnS st') (hS : va_S (inA w) s.heap H' locs') : Cfg w h s H' locs' ls L st' S' := ⟨hW, hC, K.2.2.1, hst, hS, K.2.2.2.2.2⟩
theorem mapcv_int (w : Wd) (a : Int) (r : List AV) : (Sum.inl a :: r : List AV).map (cv w.2.1) = .int (Int32.ofInt a) :: r.map (cv w.2.1) := rfl
theorem s_iload (C : Ctx w h p s m args meth c) {i : Nat} (hd : decode h.2.2.1 pc = .ok (.iload i, 2)) {k : LL → List AV → St → Prop} (hN : ∀ L st S, k L st S → Nx w h p l e s m args below meth c Q (pc + 2) L st S) (hs : ldI L i (fun a => k L (.inl a :: st) S)) : Nx w h p l e s m args below meth c Q pc L st S := by
  obtain ⟨a, h1, h2⟩ := ldI_spec L i hs
  intro H locs ls K
  refine lv_iload C.1 C.2.1 hd (lvp_get (cfV K) h1) ?_
  exact hN _ _ _ h2 H locs ls (cfS K (cnS_c (cnL_get (cfL K) h1) (cfN K)))
theorem s_iload_n (C : Ctx w h p s m args meth c) {i : Fin 4} (hd : decode h.2.2.1 pc = .ok (.iload_n i, 1)) {k : LL → List AV → St → Prop} (hN : ∀ L st S, k L st S → Nx w h p l e s m args below meth c Q (pc + 1) L st S) (hs : ldI L i.val (fun a => k L (.inl a :: st) S)) : Nx w h p l e s m args below meth c Q pc L st S := by
  obtain ⟨a, h1, h2⟩ := ldI_spec L i.val hs
  intro H locs ls K
  refine lv_iload_n C.1 C.2.1 hd rfl (lvp_get (cfV K) h1) ?_
  exact hN _ _ _ h2 H locs ls (cfS K (cnS_c (cnL_get (cfL K) h1) (cfN K)))
theorem s_lload (C : Ctx w h p s m args meth c) {i : Nat} (hd : decode h.2.2.1 pc = .ok (.lload i, 2)) {k : LL → List AV → St → Prop} (hN : ∀ L st S, k L st S → Nx w h p l e s m args below meth c Q (pc + 2) L st S) (hs : ldJ L i (fun a => k L (.inr (.inl a) :: st) S)) : Nx w h p l e s m args below meth c Q pc L st S := by
  obtain ⟨a, h1, h2⟩ := ldJ_spec L i hs
  intro H locs ls K
  refine lv_lload C.1 C.2.1 hd (lvp_get (cfV K) h1) ?_
  exact hN _ _ _ h2 H locs ls (cfS K (cnS_c (cnL_get (cfL K) h1) (cfN K)))
theorem s_lload_n (C : Ctx w h p s m args meth c) {i : Fin 4} (hd : decode h.2.2.1 pc = .ok (.lload_n i, 1)) {k : LL → List AV → St → Prop} (hN : ∀ L st S, k L st S → Nx w h p l e s m args below meth c Q (pc + 1) L st S) (hs : ldJ L i.val (fun a => k L (.inr (.inl a) :: st) S)) : Nx w h p l e s m args below meth c Q pc L st S := by
  obtain ⟨a, h1, h2⟩ := ldJ_spec L i.val hs
  intro H locs ls K
  refine lv_lload_n C.1 C.2.1 hd rfl (lvp_get (cfV K) h1) ?_
  exact hN _ _ _ h2 H locs ls (cfS K (cnS_c (cnL_get (cfL K) h1) (cfN K)))
theorem s_aload (C : Ctx w h p s m args meth c) {i : Nat} (hd : decode h.2.2.1 pc = .ok (.aload i, 2)) {k : LL → List AV → St → Prop} (hN : ∀ L st S, k L st S → Nx w h p l e s m args below meth c Q (pc + 2) L st S) (hs : ldR L i (fun a => k L (.inr (.inr a) :: st) S)) : Nx w h p l e s m args below meth c Q pc L st S := by
  obtain ⟨a, h1, h2⟩ := ldR_spec L i hs
  intro H locs ls K
  refine lv_aload C.1 C.2.1 hd (lvp_get (cfV K) h1) ?_
  exact hN _ _ _ h2 H locs ls (cfS K (cnS_c (cnL_get (cfL K) h1) (cfN K)))
theorem s_aload_n (C : Ctx w h p s m args meth c) {i : Fin 4} (hd : decode h.2.2.1 pc = .ok (.aload_n i, 1)) {k : LL → List AV → St → Prop} (hN : ∀ L st S, k L st S → Nx w h p l e s m args below meth c Q (pc + 1) L st S) (hs : ldR L i.val (fun a => k L (.inr (.inr a) :: st) S)) : Nx w h p l e s m args below meth c Q pc L st S := by
  obtain ⟨a, h1, h2⟩ := ldR_spec L i.val hs
  intro H locs ls K
  refine lv_aload_n C.1 C.2.1 hd rfl (lvp_get (cfV K) h1) ?_
  exact hN _ _ _ h2 H locs ls (cfS K (cnS_c (cnL_get (cfL K) h1) (cfN K)))
theorem s_istore (C : Ctx w h p s m args meth c) {i : Nat} (hd : decode h.2.2.1 pc = .ok (.istore i, 2)) (hi : i < h.2.2.2.1) {k : LL → List AV → St → Prop} (hN : ∀ L st S, k L st S → Nx w h p l e s m args below meth c Q (pc + 2) L st S) (hs : pI st (fun a r => st1 L i (.inl a) (fun L => k L r S))) : Nx w h p l e s m args below meth c Q pc L st S := by
  obtain ⟨a, r, rfl, h1⟩ := pI_spec hs
  obtain ⟨L', h2, h3⟩ := st1_spec L i _ h1
  intro H locs ls K
  refine lv_istore C.1 C.2.1 hd (cfV K) hi rfl (fun ls' hl' => ?_)
  exact hN _ _ _ h2 H locs ls' (cfSL K (cnL_st (i := i) (cfL K) (cnS_h (cfN K)) (fun j u q => (h3 j u q).imp id (fun z => z.2.1))) (cnS_t (cfN K)) (lvp_st1 (v := .inl a) hl' h3))
theorem s_istore_n (C : Ctx w h p s m args meth c) {i : Fin 4} (hd : decode h.2.2.1 pc = .ok (.istore_n i, 1)) (hi : i.val < h.2.2.2.1) {k : LL → List AV → St → Prop} (hN : ∀ L st S, k L st S → Nx w h p l e s m args below meth c Q (pc + 1) L st S) (hs : pI st (fun a r => st1 L i.val (.inl a) (fun L => k L r S))) : Nx w h p l e s m args below meth c Q pc L st S := by
  obtain ⟨a, r, rfl, h1⟩ := pI_spec hs
  obtain ⟨L', h2, h3⟩ := st1_spec L i.val _ h1
  intro H locs ls K
  refine lv_istore_n C.1 C.2.1 hd rfl (cfV K) hi rfl (fun ls' hl' => ?_)
  exact hN _ _ _ h2 H locs ls' (cfSL K (cnL_st (i := i.val) (cfL K) (cnS_h (cfN K)) (fun j u q => (h3 j u q).imp id (fun z => z.2.1))) (cnS_t (cfN K)) (lvp_st1 (v := .inl a) hl' h3))
theorem s_astore (C : Ctx w h p s m args meth c) {i : Nat} (hd : decode h.2.2.1 pc = .ok (.astore i, 2)) (hi : i < h.2.2.2.1) {k : LL → List AV → St → Prop} (hN : ∀ L st S, k L st S → Nx w h p l e s m args below meth c Q (pc + 2) L st S) (hs : pR st (fun a r => st1 L i (.inr (.inr a)) (fun L => k L r S))) : Nx w h p l e s m args below meth c Q pc L st S := by
  obtain ⟨a, r, rfl, h1⟩ := pR_spec hs
  obtain ⟨L', h2, h3⟩ := st1_spec L i _ h1
  intro H locs ls K
  refine lv_astore C.1 C.2.1 hd (cfV K) hi rfl (fun ls' hl' => ?_)
  exact hN _ _ _ h2 H locs ls' (cfSL K (cnL_st (i := i) (cfL K) (cnS_h (cfN K)) (fun j u q => (h3 j u q).imp id (fun z => z.2.1))) (cnS_t (cfN K)) (lvp_st1 (v := .inr (.inr a)) hl' h3))
theorem s_astore_n (C : Ctx w h p s m args meth c) {i : Fin 4} (hd : decode h.2.2.1 pc = .ok (.astore_n i, 1)) (hi : i.val < h.2.2.2.1) {k : LL → List AV → St → Prop} (hN : ∀ L st S, k L st S → Nx w h p l e s m args below meth c Q (pc + 1) L st S) (hs : pR st (fun a r => st1 L i.val (.inr (.inr a)) (fun L => k L r S))) : Nx w h p l e s m args below meth c Q pc L st S := by
  obtain ⟨a, r, rfl, h1⟩ := pR_spec hs
  obtain ⟨L', h2, h3⟩ := st1_spec L i.val _ h1
  intro H locs ls K
  refine lv_astore_n C.1 C.2.1 hd rfl (cfV K) hi rfl (fun ls' hl' => ?_)
  exact hN _ _ _ h2 H locs ls' (cfSL K (cnL_st (i := i.val) (cfL K) (cnS_h (cfN K)) (fun j u q => (h3 j u q).imp id (fun z => z.2.1))) (cnS_t (cfN K)) (lvp_st1 (v := .inr (.inr a)) hl' h3))
theorem s_lstore (C : Ctx w h p s m args meth c) {i : Nat} (hd : decode h.2.2.1 pc = .ok (.lstore i, 2)) (hi : i + 1 < h.2.2.2.1) {k : LL → List AV → St → Prop} (hN : ∀ L st S, k L st S → Nx w h p l e s m args below meth c Q (pc + 2) L st S) (hs : pJ st (fun a r => st2 L i (.inr (.inl a)) (fun L => k L r S))) : Nx w h p l e s m args below meth c Q pc L st S := by
  obtain ⟨a, r, rfl, h1⟩ := pJ_spec hs
  obtain ⟨L', h2, h3⟩ := st2_spec L i _ h1
  intro H locs ls K
  refine lv_lstore C.1 C.2.1 hd (cfV K) hi rfl (fun ls' hl' => ?_)
  exact hN _ _ _ h2 H locs ls' (cfSL K (cnL_st (i := i) (cfL K) (cnS_h (cfN K)) (fun j u q => (h3 j u q).imp id (fun z => z.2.2.1))) (cnS_t (cfN K)) (lvp_st2 (v := .inr (.inl a)) hl' h3))
theorem s_lstore_n (C : Ctx w h p s m args meth c) {i : Fin 4} (hd : decode h.2.2.1 pc = .ok (.lstore_n i, 1)) (hi : i.val + 1 < h.2.2.2.1) {k : LL → List AV → St → Prop} (hN : ∀ L st S, k L st S → Nx w h p l e s m args below meth c Q (pc + 1) L st S) (hs : pJ st (fun a r => st2 L i.val (.inr (.inl a)) (fun L => k L r S))) : Nx w h p l e s m args below meth c Q pc L st S := by
  obtain ⟨a, r, rfl, h1⟩ := pJ_spec hs
  obtain ⟨L', h2, h3⟩ := st2_spec L i.val _ h1
  intro H locs ls K
  refine lv_lstore_n C.1 C.2.1 hd rfl (cfV K) hi rfl (fun ls' hl' => ?_)
  exact hN _ _ _ h2 H locs ls' (cfSL K (cnL_st (i := i.val) (cfL K) (cnS_h (cfN K)) (fun j u q => (h3 j u q).imp id (fun z => z.2.2.1))) (cnS_t (cfN K)) (lvp_st2 (v := .inr (.inl a)) hl' h3))
theorem s_iinc (C : Ctx w h p s m args meth c) {i : Nat} {n : Int} (hd : decode h.2.2.1 pc = .ok (.iinc i n, 3)) (hi : i < h.2.2.2.1) {k : LL → List AV → St → Prop} (hN : ∀ L st S, k L st S → Nx w h p l e s m args below meth c Q (pc + 3) L st S) (hs : ldI L i (fun a => st1 L i (.inl (i32 (a + n))) (fun L => k L st S))) : Nx w h p l e s m args below meth c Q pc L st S := by
  obtain ⟨a, h0, h1⟩ := ldI_spec L i hs
  obtain ⟨L', h2, h3⟩ := st1_spec L i _ h1
  intro H locs ls K
  have hm : (i, cv w.2.1 (.inl a)) ∈ al w.2.1 0 L := (mem_al L 0 _).mpr ⟨i, .inl a, by rw [Nat.zero_add], h0⟩
  obtain ⟨k, hk⟩ := List.getElem?_of_mem hm
  refine lv_iinc (v := Int32.ofInt (i32 (a + n))) C.1 C.2.1 hd (cfV K) hk (by rw [ofInt_i32, Int32.ofInt_add]) hi rfl (fun ls' hl' => ?_)
  exact hN _ _ _ h2 H locs ls' (cfSL K (cnL_st (i := i) (v := .inl (i32 (a + n))) (cfL K) (i32_i32 _) (fun j u q => (h3 j u q).imp id (fun z => z.2.1))) (cfN K) (lvp_st1 (v := .inl (i32 (a + n))) hl' h3))
theorem s_iconst (C : Ctx w h p s m args meth c) {n : Int} (hd : decode h.2.2.1 pc = .ok (.iconst n, 1)) (hc : i32 n = n) {k : LL → List AV → St → Prop} (hN : ∀ L st S, k L st S → Nx w h p l e s m args below meth c Q (pc + 1) L st S) (hs : k L (.inl n :: st) S) : Nx w h p l e s m args below meth c Q pc L st S := by
  intro H locs ls K
  refine lv_iconst (v := Int32.ofInt n) C.1 C.2.1 hd rfl ?_
  exact hN _ _ _ hs H locs ls (cfS K (cnS_c hc (cfN K)))
theorem s_bipush (C : Ctx w h p s m args meth c) {n : Int} (hd : decode h.2.2.1 pc = .ok (.bipush n, 2)) (h8 : (Int8.ofInt n).toInt32 = Int32.ofInt n) (hc : i32 n = n) {k : LL → List AV → St → Prop} (hN : ∀ L st S, k L st S → Nx w h p l e s m args below meth c Q (pc + 2) L st S) (hs : k L (.inl n :: st) S) : Nx w h p l e s m args below meth c Q pc L st S := by
  intro H locs ls K
  refine lv_bipush (v := Int32.ofInt n) C.1 C.2.1 hd h8 ?_
  exact hN _ _ _ hs H locs ls (cfS K (cnS_c hc (cfN K)))
theorem s_sipush (C : Ctx w h p s m args meth c) {n : Int} (hd : decode h.2.2.1 pc = .ok (.sipush n, 3)) (h8 : (Int16.ofInt n).toInt32 = Int32.ofInt n) (hc : i32 n = n) {k : LL → List AV → St → Prop} (hN : ∀ L st S, k L st S → Nx w h p l e s m args below meth c Q (pc + 3) L st S) (hs : k L (.inl n :: st) S) : Nx w h p l e s m args below meth c Q pc L st S := by
  intro H locs ls K
  refine lv_sipush (v := Int32.ofInt n) C.1 C.2.1 hd h8 ?_
  exact hN _ _ _ hs H locs ls (cfS K (cnS_c hc (cfN K)))
theorem s_lconst (C : Ctx w h p s m args meth c) {n : Fin 2} (hd : decode h.2.2.1 pc = .ok (.lconst n, 1)) {k : LL → List AV → St → Prop} (hN : ∀ L st S, k L st S → Nx w h p l e s m args below meth c Q (pc + 1) L st S) (hs : k L (.inr (.inl (n.val : Int)) :: st) S) : Nx w h p l e s m args below meth c Q pc L st S := by
  intro H locs ls K
  refine lv_lconst (v := Int64.ofInt (n.val : Int)) C.1 C.2.1 hd (by first | rfl | simp) ?_
  exact hN _ _ _ hs H locs ls (cfS K (cnS_c (show i64 (n.val : Int) = _ from i64_id (by omega) (by have := n.isLt; omega)) (cfN K)))
theorem s_ldc (C : Ctx w h p s m args meth c) {x : Nat} {v : Int} (hd : decode h.2.2.1 pc = .ok (.ldc x, 2)) (hc : clC h.1 x v = true) {k : LL → List AV → St → Prop} (hN : ∀ L st S, k L st S → Nx w h p l e s m args below meth c Q (pc + 2) L st S) (hs : k L (.inl v :: st) S) : Nx w h p l e s m args below meth c Q pc L st S := by
  intro H locs ls K
  refine lv_ldc C.1 C.2.1 C.2.2.2.2.1 (C.2.2.2.2.2.1 _ (clCE hc).1) hd ?_
  exact hN _ _ _ hs H locs ls (cfS K (cnS_c (clCE hc).2 (cfN K)))
theorem s_ldc_w (C : Ctx w h p s m args meth c) {x : Nat} {v : Int} (hd : decode h.2.2.1 pc = .ok (.ldc_w x, 3)) (hc : clC h.1 x v = true) {k : LL → List AV → St → Prop} (hN : ∀ L st S, k L st S → Nx w h p l e s m args below meth c Q (pc + 3) L st S) (hs : k L (.inl v :: st) S) : Nx w h p l e s m args below meth c Q pc L st S := by
  intro H locs ls K
  refine lv_ldcw C.1 C.2.1 C.2.2.2.2.1 (C.2.2.2.2.2.1 _ (clCE hc).1) hd ?_
  exact hN _ _ _ hs H locs ls (cfS K (cnS_c (clCE hc).2 (cfN K)))
theorem s_ldc2_w (C : Ctx w h p s m args meth c) {x : Nat} {v : Int} (hd : decode h.2.2.1 pc = .ok (.ldc2_w x, 3)) (hc : cjC h.1 x v = true) {k : LL → List AV → St → Prop} (hN : ∀ L st S, k L st S → Nx w h p l e s m args below meth c Q (pc + 3) L st S) (hs : k L (.inr (.inl v) :: st) S) : Nx w h p l e s m args below meth c Q pc L st S := by
  intro H locs ls K
  refine lv_ldc2 C.1 C.2.1 C.2.2.2.2.1 (C.2.2.2.2.2.1 _ (cjCE hc).1) hd ?_
  exact hN _ _ _ hs H locs ls (cfS K (cnS_c (cjCE hc).2 (cfN K)))
theorem s_iadd (C : Ctx w h p s m args meth c) (hd : decode h.2.2.1 pc = .ok (.iadd, 1)) {k : LL → List AV → St → Prop} (hN : ∀ L st S, k L st S → Nx w h p l e s m args below meth c Q (pc + 1) L st S) (hs : pII st (fun a b r => k L (.inl (i32 (a + b)) :: r) S)) : Nx w h p l e s m args below meth c Q pc L st S := by
  obtain ⟨a, b, r, rfl, h2⟩ := pII_spec hs
  intro H locs ls K
  refine lv_iadd C.1 C.2.1 hd ?_
  have e0 : Int32.ofInt (i32 (a + b)) = Int32.ofInt a + Int32.ofInt b := by rw [ofInt_i32, Int32.ofInt_add]
  rw [← e0]
  exact hN _ _ _ h2 H locs ls (cfS K (cnS_c (v := .inl (i32 (a + b))) (i32_i32 _) (cnS_t (cnS_t (cfN K)))))
theorem s_isub (C : Ctx w h p s m args meth c) (hd : decode h.2.2.1 pc = .ok (.isub, 1)) {k : LL → List AV → St → Prop} (hN : ∀ L st S, k L st S → Nx w h p l e s m args below meth c Q (pc + 1) L st S) (hs : pII st (fun a b r => k L (.inl (i32 (a - b)) :: r) S)) : Nx w h p l e s m args below meth c Q pc L st S := by
  obtain ⟨a, b, r, rfl, h2⟩ := pII_spec hs
  intro H locs ls K
  refine lv_isub C.1 C.2.1 hd ?_
  have e0 : Int32.ofInt (i32 (a - b)) = Int32.ofInt a - Int32.ofInt b := by rw [ofInt_i32, Int32.ofInt_sub]
  rw [← e0]
  exact hN _ _ _ h2 H locs ls (cfS K (cnS_c (v := .inl (i32 (a - b))) (i32_i32 _) (cnS_t (cnS_t (cfN K)))))
theorem s_imul (C : Ctx w h p s m args meth c) (hd : decode h.2.2.1 pc = .ok (.imul, 1)) {k : LL → List AV → St → Prop} (hN : ∀ L st S, k L st S → Nx w h p l e s m args below meth c Q (pc + 1) L st S) (hs : pII st (fun a b r => k L (.inl (i32 (a * b)) :: r) S)) : Nx w h p l e s m args below meth c Q pc L st S := by
  obtain ⟨a, b, r, rfl, h2⟩ := pII_spec hs
  intro H locs ls K
  refine lv_imul C.1 C.2.1 hd ?_
  have e0 : Int32.ofInt (i32 (a * b)) = Int32.ofInt a * Int32.ofInt b := by rw [ofInt_i32, Int32.ofInt_mul]
  rw [← e0]
  exact hN _ _ _ h2 H locs ls (cfS K (cnS_c (v := .inl (i32 (a * b))) (i32_i32 _) (cnS_t (cnS_t (cfN K)))))
theorem s_iand (C : Ctx w h p s m args meth c) (hd : decode h.2.2.1 pc = .ok (.iand, 1)) {k : LL → List AV → St → Prop} (hN : ∀ L st S, k L st S → Nx w h p l e s m args below meth c Q (pc + 1) L st S) (hs : pII st (fun a b r => k L (.inl (iand a b) :: r) S)) : Nx w h p l e s m args below meth c Q pc L st S := by
  obtain ⟨a, b, r, rfl, h2⟩ := pII_spec hs
  intro H locs ls K
  refine lv_iand C.1 C.2.1 hd ?_
  have e0 : Int32.ofInt (iand a b) = Int32.ofInt a &&& Int32.ofInt b := Int32.ofInt_toInt _
  rw [← e0]
  exact hN _ _ _ h2 H locs ls (cfS K (cnS_c (v := .inl (iand a b)) (can_toInt32 _) (cnS_t (cnS_t (cfN K)))))
theorem s_ior (C : Ctx w h p s m args meth c) (hd : decode h.2.2.1 pc = .ok (.ior, 1)) {k : LL → List AV → St → Prop} (hN : ∀ L st S, k L st S → Nx w h p l e s m args below meth c Q (pc + 1) L st S) (hs : pII st (fun a b r => k L (.inl (ior a b) :: r) S)) : Nx w h p l e s m args below meth c Q pc L st S := by
  obtain ⟨a, b, r, rfl, h2⟩ := pII_spec hs
  intro H locs ls K
  refine lv_ior C.1 C.2.1 hd ?_
  have e0 : Int32.ofInt (ior a b) = Int32.ofInt a ||| Int32.ofInt b := Int32.ofInt_toInt _
  rw [← e0]
  exact hN _ _ _ h2 H locs ls (cfS K (cnS_c (v := .inl (ior a b)) (can_toInt32 _) (cnS_t (cnS_t (cfN K)))))
theorem s_ixor (C : Ctx w h p s m args meth c) (hd : decode h.2.2.1 pc = .ok (.ixor, 1)) {k : LL → List AV → St → Prop} (hN : ∀ L st S, k L st S → Nx w h p l e s m args below meth c Q (pc + 1) L st S) (hs : pII st (fun a b r => k L (.inl (ixor a b) :: r) S)) : Nx w h p l e s m args below meth c Q pc L st S := by
  obtain ⟨a, b, r, rfl, h2⟩ := pII_spec hs
  intro H locs ls K
  refine lv_ixor C.1 C.2.1 hd ?_
  have e0 : Int32.ofInt (ixor a b) = Int32.ofInt a ^^^ Int32.ofInt b := Int32.ofInt_toInt _
  rw [← e0]
  exact hN _ _ _ h2 H locs ls (cfS K (cnS_c (v := .inl (ixor a b)) (can_toInt32 _) (cnS_t (cnS_t (cfN K)))))
theorem s_ishl (C : Ctx w h p s m args meth c) (hd : decode h.2.2.1 pc = .ok (.ishl, 1)) {k : LL → List AV → St → Prop} (hN : ∀ L st S, k L st S → Nx w h p l e s m args below meth c Q (pc + 1) L st S) (hs : pII st (fun a b r => k L (.inl (ishl a b) :: r) S)) : Nx w h p l e s m args below meth c Q pc L st S := by
  obtain ⟨a, b, r, rfl, h2⟩ := pII_spec hs
  intro H locs ls K
  refine lv_ishl C.1 C.2.1 hd ?_
  have e0 : Int32.ofInt (ishl a b) = Int32.ofInt a <<< (Int32.ofInt b &&& 31) := Int32.ofInt_toInt _
  rw [← e0]
  exact hN _ _ _ h2 H locs ls (cfS K (cnS_c (v := .inl (ishl a b)) (can_toInt32 _) (cnS_t (cnS_t (cfN K)))))
theorem s_ishr (C : Ctx w h p s m args meth c) (hd : decode h.2.2.1 pc = .ok (.ishr, 1)) {k : LL → List AV → St → Prop} (hN : ∀ L st S, k L st S → Nx w h p l e s m args below meth c Q (pc + 1) L st S) (hs : pII st (fun a b r => k L (.inl (ishr a b) :: r) S)) : Nx w h p l e s m args below meth c Q pc L st S := by
  obtain ⟨a, b, r, rfl, h2⟩ := pII_spec hs
  intro H locs ls K
  refine lv_ishr C.1 C.2.1 hd ?_
  have e0 : Int32.ofInt (ishr a b) = Int32.ofInt a >>> (Int32.ofInt b &&& 31) := Int32.ofInt_toInt _
  rw [← e0]
  exact hN _ _ _ h2 H locs ls (cfS K (cnS_c (v := .inl (ishr a b)) (can_toInt32 _) (cnS_t (cnS_t (cfN K)))))
theorem s_ineg (C : Ctx w h p s m args meth c) (hd : decode h.2.2.1 pc = .ok (.ineg, 1)) {k : LL → List AV → St → Prop} (hN : ∀ L st S, k L st S → Nx w h p l e s m args below meth c Q (pc + 1) L st S) (hs : pI st (fun a r => k L (.inl (i32 (-a)) :: r) S)) : Nx w h p l e s m args below meth c Q pc L st S := by
  obtain ⟨a, r, rfl, h2⟩ := pI_spec hs
  intro H locs ls K
  refine lv_ineg C.1 C.2.1 hd ?_
  have e0 : Int32.ofInt (i32 (-a)) = - Int32.ofInt a := by rw [ofInt_i32, Int32.ofInt_neg]
  rw [← e0]
  exact hN _ _ _ h2 H locs ls (cfS K (cnS_c (v := .inl (i32 (-a))) (i32_i32 _) (cnS_t (cfN K))))
theorem s_iushr (C : Ctx w h p s m args meth c) (hd : decode h.2.2.1 pc = .ok (.iushr, 1)) {k : LL → List AV → St → Prop} (hN : ∀ L st S, k L st S → Nx w h p l e s m args below meth c Q (pc + 1) L st S) (hs : pII st (fun a b r => k L (.inl (iushr a b) :: r) S)) : Nx w h p l e s m args below meth c Q pc L st S := by
  obtain ⟨a, b, r, rfl, h2⟩ := pII_spec hs
  intro H locs ls K
  refine lv_iushr (v := Int32.ofInt (iushr a b)) C.1 C.2.1 hd (Int32.ofInt_toInt _).symm ?_
  exact hN _ _ _ h2 H locs ls (cfS K (cnS_c (v := .inl (iushr a b)) (can_toInt32 _) (cnS_t (cnS_t (cfN K)))))
theorem s_idiv (C : Ctx w h p s m args meth c) (hd : decode h.2.2.1 pc = .ok (.idiv, 1)) {k : LL → List AV → St → Prop} (hN : ∀ L st S, k L st S → Nx w h p l e s m args below meth c Q (pc + 1) L st S) (hs : pII st (fun a b r => ¬ b = 0 ∧ k L (.inl (idiv a b) :: r) S)) : Nx w h p l e s m args below meth c Q pc L st S := by
  obtain ⟨a, b, r, rfl, h0, h2⟩ := pII_spec hs
  intro H locs ls K
  refine lv_idiv C.1 C.2.1 hd (Int32_0 (cnS_h (cfN K)) h0) ?_
  have e0 : Int32.ofInt (idiv a b) = Int32.ofInt a / Int32.ofInt b := Int32.ofInt_toInt _
  rw [← e0]
  exact hN _ _ _ h2 H locs ls (cfS K (cnS_c (v := .inl (idiv a b)) (can_toInt32 _) (cnS_t (cnS_t (cfN K)))))
theorem s_irem (C : Ctx w h p s m args meth c) (hd : decode h.2.2.1 pc = .ok (.irem, 1)) {k : LL → List AV → St → Prop} (hN : ∀ L st S, k L st S → Nx w h p l e s m args below meth c Q (pc + 1) L st S) (hs : pII st (fun a b r => ¬ b = 0 ∧ k L (.inl (irem a b) :: r) S)) : Nx w h p l e s m args below meth c Q pc L st S := by
  obtain ⟨a, b, r, rfl, h0, h2⟩ := pII_spec hs
  intro H locs ls K
  refine lv_irem C.1 C.2.1 hd (Int32_0 (cnS_h (cfN K)) h0) ?_
  have e0 : Int32.ofInt (irem a b) = Int32.ofInt a - Int32.ofInt a / Int32.ofInt b * Int32.ofInt b := Int32.ofInt_toInt _
  rw [← e0]
  exact hN _ _ _ h2 H locs ls (cfS K (cnS_c (v := .inl (irem a b)) (can_toInt32 _) (cnS_t (cnS_t (cfN K)))))
theorem s_ladd (C : Ctx w h p s m args meth c) (hd : decode h.2.2.1 pc = .ok (.ladd, 1)) {k : LL → List AV → St → Prop} (hN : ∀ L st S, k L st S → Nx w h p l e s m args below meth c Q (pc + 1) L st S) (hs : pJJ st (fun a b r => k L (.inr (.inl (i64 (a + b))) :: r) S)) : Nx w h p l e s m args below meth c Q pc L st S := by
  obtain ⟨a, b, r, rfl, h2⟩ := pJJ_spec hs
  intro H locs ls K
  refine lv_ladd C.1 C.2.1 hd ?_
  have e0 : Int64.ofInt (i64 (a + b)) = Int64.ofInt a + Int64.ofInt b := by rw [ofInt_i64, Int64.ofInt_add]
  rw [← e0]
  exact hN _ _ _ h2 H locs ls (cfS K (cnS_c (v := .inr (.inl (i64 (a + b)))) (i64_i64 _) (cnS_t (cnS_t (cfN K)))))
theorem s_lsub (C : Ctx w h p s m args meth c) (hd : decode h.2.2.1 pc = .ok (.lsub, 1)) {k : LL → List AV → St → Prop} (hN : ∀ L st S, k L st S → Nx w h p l e s m args below meth c Q (pc + 1) L st S) (hs : pJJ st (fun a b r => k L (.inr (.inl (i64 (a - b))) :: r) S)) : Nx w h p l e s m args below meth c Q pc L st S := by
  obtain ⟨a, b, r, rfl, h2⟩ := pJJ_spec hs
  intro H locs ls K
  refine lv_lsub C.1 C.2.1 hd ?_
  have e0 : Int64.ofInt (i64 (a - b)) = Int64.ofInt a - Int64.ofInt b := by rw [ofInt_i64, Int64.ofInt_sub]
  rw [← e0]
  exact hN _ _ _ h2 H locs ls (cfS K (cnS_c (v := .inr (.inl (i64 (a - b)))) (i64_i64 _) (cnS_t (cnS_t (cfN K)))))
theorem s_lmul (C : Ctx w h p s m args meth c) (hd : decode h.2.2.1 pc = .ok (.lmul, 1)) {k : LL → List AV → St → Prop} (hN : ∀ L st S, k L st S → Nx w h p l e s m args below meth c Q (pc + 1) L st S) (hs : pJJ st (fun a b r => k L (.inr (.inl (i64 (a * b))) :: r) S)) : Nx w h p l e s m args below meth c Q pc L st S := by
  obtain ⟨a, b, r, rfl, h2⟩ := pJJ_spec hs
  intro H locs ls K
  refine lv_lmul C.1 C.2.1 hd ?_
  have e0 : Int64.ofInt (i64 (a * b)) = Int64.ofInt a * Int64.ofInt b := by rw [ofInt_i64, Int64.ofInt_mul]
  rw [← e0]
  exact hN _ _ _ h2 H locs ls (cfS K (cnS_c (v := .inr (.inl (i64 (a * b)))) (i64_i64 _) (cnS_t (cnS_t (cfN K)))))
theorem s_ldiv (C : Ctx w h p s m args meth c) (hd : decode h.2.2.1 pc = .ok (.ldiv, 1)) {k : LL → List AV → St → Prop} (hN : ∀ L st S, k L st S → Nx w h p l e s m args below meth c Q (pc + 1) L st S) (hs : pJJ st (fun a b r => ¬ b = 0 ∧ k L (.inr (.inl (jdiv a b)) :: r) S)) : Nx w h p l e s m args below meth c Q pc L st S := by
  obtain ⟨a, b, r, rfl, h0, h2⟩ := pJJ_spec hs
  intro H locs ls K
  refine lv_ldiv C.1 C.2.1 hd (Int64_0 (cnS_h (cfN K)) h0) ?_
  have e0 : Int64.ofInt (jdiv a b) = Int64.ofInt a / Int64.ofInt b := Int64.ofInt_toInt _
  rw [← e0]
  exact hN _ _ _ h2 H locs ls (cfS K (cnS_c (v := .inr (.inl (jdiv a b))) (can_toInt64 _) (cnS_t (cnS_t (cfN K)))))
theorem s_lrem (C : Ctx w h p s m args meth c) (hd : decode h.2.2.1 pc = .ok (.lrem, 1)) {k : LL → List AV → St → Prop} (hN : ∀ L st S, k L st S → Nx w h p l e s m args below meth c Q (pc + 1) L st S) (hs : pJJ st (fun a b r => ¬ b = 0 ∧ k L (.inr (.inl (jrem a b)) :: r) S)) : Nx w h p l e s m args below meth c Q pc L st S := by
  obtain ⟨a, b, r, rfl, h0, h2⟩ := pJJ_spec hs
  intro H locs ls K
  refine lv_lrem C.1 C.2.1 hd (Int64_0 (cnS_h (cfN K)) h0) ?_
  have e0 : Int64.ofInt (jrem a b) = Int64.ofInt a - Int64.ofInt a / Int64.ofInt b * Int64.ofInt b := Int64.ofInt_toInt _
  rw [← e0]
  exact hN _ _ _ h2 H locs ls (cfS K (cnS_c (v := .inr (.inl (jrem a b))) (can_toInt64 _) (cnS_t (cnS_t (cfN K)))))
theorem s_lushr (C : Ctx w h p s m args meth c) (hd : decode h.2.2.1 pc = .ok (.lushr, 1)) {k : LL → List AV → St → Prop} (hN : ∀ L st S, k L st S → Nx w h p l e s m args below meth c Q (pc + 1) L st S) (hs : pIJ st (fun a b r => k L (.inr (.inl (jushr a b)) :: r) S)) : Nx w h p l e s m args below meth c Q pc L st S := by
  obtain ⟨a, b, r, rfl, h2⟩ := pIJ_spec hs
  intro H locs ls K
  refine lv_lushr (v := Int64.ofInt (jushr a b)) C.1 C.2.1 hd (Int64.ofInt_toInt _).symm ?_
  exact hN _ _ _ h2 H locs ls (cfS K (cnS_c (v := .inr (.inl (jushr a b))) (can_toInt64 _) (cnS_t (cnS_t (cfN K)))))
theorem s_lcmp (C : Ctx w h p s m args meth c) (hd : decode h.2.2.1 pc = .ok (.lcmp, 1)) {k : LL → List AV → St → Prop} (hN : ∀ L st S, k L st S → Nx w h p l e s m args below meth c Q (pc + 1) L st S) (hs : pJJ st (fun a b r => k L (.inl (jcmp a b) :: r) S)) : Nx w h p l e s m args below meth c Q pc L st S := by
  obtain ⟨a, b, r, rfl, h2⟩ := pJJ_spec hs
  intro H locs ls K
  refine W.lcmp C.1 C.2.1 hd ?_
  rw [of_lcmp (cnS_h (cnS_t (cfN K))) (cnS_h (cfN K))]
  exact hN _ _ _ h2 H locs ls (cfS K (cnS_c (v := .inl (jcmp a b)) (can_jcmp a b) (cnS_t (cnS_t (cfN K)))))
theorem s_i2l (C : Ctx w h p s m args meth c) (hd : decode h.2.2.1 pc = .ok (.i2l, 1)) {k : LL → List AV → St → Prop} (hN : ∀ L st S, k L st S → Nx w h p l e s m args below meth c Q (pc + 1) L st S) (hs : pI st (fun a r => k L (.inr (.inl a) :: r) S)) : Nx w h p l e s m args below meth c Q pc L st S := by
  obtain ⟨a, r, rfl, h2⟩ := pI_spec hs
  intro H locs ls K
  have hc : i32 a = a := cnS_h (cfN K)
  refine lv_i2l (v := Int64.ofInt a) C.1 C.2.1 hd (Int64.toInt_inj.mp (by rw [Int32.toInt_toInt64, toInt_i32, toInt_i64, hc, i64_of32 hc])) ?_
  exact hN _ _ _ h2 H locs ls (cfS K (cnS_c (v := .inr (.inl a)) (i64_of32 hc) (cnS_t (cfN K))))
theorem s_l2i (C : Ctx w h p s m args meth c) (hd : decode h.2.2.1 pc = .ok (.l2i, 1)) {k : LL → List AV → St → Prop} (hN : ∀ L st S, k L st S → Nx w h p l e s m args below meth c Q (pc + 1) L st S) (hs : pJ st (fun a r => k L (.inl (i32 a) :: r) S)) : Nx w h p l e s m args below meth c Q pc L st S := by
  obtain ⟨a, r, rfl, h2⟩ := pJ_spec hs
  intro H locs ls K
  refine lv_l2i (v := Int32.ofInt (i32 a)) C.1 C.2.1 hd (by rw [ofInt_i32, Int64.toInt32_ofInt]) ?_
  exact hN _ _ _ h2 H locs ls (cfS K (cnS_c (v := .inl (i32 a)) (i32_i32 _) (cnS_t (cfN K))))
theorem s_dup (C : Ctx w h p s m args meth c) (hd : decode h.2.2.1 pc = .ok (.dup, 1)) {k : LL → List AV → St → Prop} (hN : ∀ L st S, k L st S → Nx w h p l e s m args below meth c Q (pc + 1) L st S) (hs : match (generalizing := false) st with | .inl a :: r => k L (.inl a :: .inl a :: r) S | .inr (.inr a) :: r => k L (.inr (.inr a) :: .inr (.inr a) :: r) S | _ => False) : Nx w h p l e s m args below meth c Q pc L st S := by
  split at hs
  · intro H locs ls K
    refine lv_dup C.1 C.2.1 hd rfl ?_
    exact hN _ _ _ hs H locs ls (cfS K (cnS_c (cnS_h (cfN K)) (cfN K)))
  · intro H locs ls K
    refine lv_dup C.1 C.2.1 hd rfl ?_
    exact hN _ _ _ hs H locs ls (cfS K (cnS_c (cnS_h (cfN K)) (cfN K)))
  · exact hs.elim
theorem s_pop (C : Ctx w h p s m args meth c) (hd : decode h.2.2.1 pc = .ok (.pop, 1)) {k : LL → List AV → St → Prop} (hN : ∀ L st S, k L st S → Nx w h p l e s m args below meth c Q (pc + 1) L st S) (hs : match (generalizing := false) st with | .inl _ :: r => k L r S | .inr (.inr _) :: r => k L r S | _ => False) : Nx w h p l e s m args below meth c Q pc L st S := by
  split at hs
  · intro H locs ls K
    refine lv_pop C.1 C.2.1 hd rfl ?_
    exact hN _ _ _ hs H locs ls (cfS K (cnS_t (cfN K)))
  · intro H locs ls K
    refine lv_pop C.1 C.2.1 hd rfl ?_
    exact hN _ _ _ hs H locs ls (cfS K (cnS_t (cfN K)))
  · exact hs.elim
theorem s_dup2 (C : Ctx w h p s m args meth c) (hd : decode h.2.2.1 pc = .ok (.dup2, 1)) {k : LL → List AV → St → Prop} (hN : ∀ L st S, k L st S → Nx w h p l e s m args below meth c Q (pc + 1) L st S) (hs : pIR st (fun i c r => k L (.inl i :: .inr (.inr c) :: .inl i :: .inr (.inr c) :: r) S)) : Nx w h p l e s m args below meth c Q pc L st S := by
  obtain ⟨i, c, r, rfl, h2⟩ := pIR_spec hs
  intro H locs ls K
  refine lv_dup2_11 C.1 C.2.1 hd rfl rfl ?_
  exact hN _ _ _ h2 H locs ls (cfS K (cnS_c (cnS_h (cfN K)) (cnS_c (cnS_h (cnS_t (cfN K))) (cfN K))))
theorem s_goto (C : Ctx w h p s m args meth c) {o : Int} {t : Nat} (hd : decode h.2.2.1 pc = .ok (.goto o, 3)) (ht : (pc : Int) + o = (t : Int)) {k : LL → List AV → St → Prop} (hN : ∀ L st S, k L st S → Nx w h p l e s m args below meth c Q (pc + 3) L st S) {j : LL → List AV → St → Prop} (hJ : ∀ L st S, j L st S → Nx w h p l e s m args below meth c Q t L st S) (hs : j L st S) : Nx w h p l e s m args below meth c Q pc L st S := by
  intro H locs ls K
  refine lv_goto C.1 C.2.1 hd ht ?_
  exact hJ _ _ _ hs H locs ls K
theorem s_if_eq (C : Ctx w h p s m args meth c) {o : Int} {t : Nat} (hd : decode h.2.2.1 pc = .ok (.ifCond .eq o, 3)) (ht : (pc : Int) + o = (t : Int)) {k : LL → List AV → St → Prop} (hN : ∀ L st S, k L st S → Nx w h p l e s m args below meth c Q (pc + 3) L st S) {j : LL → List AV → St → Prop} (hJ : ∀ L st S, j L st S → Nx w h p l e s m args below meth c Q t L st S) (hs : pI st (fun a r => br0 .eq a (j L r S) (k L r S))) : Nx w h p l e s m args below meth c Q pc L st S := by
  obtain ⟨a, r, rfl, h1, h2⟩ := pI_spec hs
  intro H locs ls K
  have hc : i32 a = a := cnS_h (cfN K)
  refine lv_if_eq C.1 C.2.1 hd ht (fun q => ?_) (fun q => ?_)
  · exact hJ _ _ _ (h1 ((eq32 hc c0).mp q)) H locs ls (cfS K (cnS_t (cfN K)))
  · exact hN _ _ _ (h2 (fun z => q ((eq32 hc c0).mpr z))) H locs ls (cfS K (cnS_t (cfN K)))
theorem s_if_ne (C : Ctx w h p s m args meth c) {o : Int} {t : Nat} (hd : decode h.2.2.1 pc = .ok (.ifCond .ne o, 3)) (ht : (pc : Int) + o = (t : Int)) {k : LL → List AV → St → Prop} (hN : ∀ L st S, k L st S → Nx w h p l e s m args below meth c Q (pc + 3) L st S) {j : LL → List AV → St → Prop} (hJ : ∀ L st S, j L st S → Nx w h p l e s m args below meth c Q t L st S) (hs : pI st (fun a r => br0 .ne a (j L r S) (k L r S))) : Nx w h p l e s m args below meth c Q pc L st S := by
  obtain ⟨a, r, rfl, h1, h2⟩ := pI_spec hs
  intro H locs ls K
  have hc : i32 a = a := cnS_h (cfN K)
  refine lv_if_ne C.1 C.2.1 hd ht (fun q => ?_) (fun q => ?_)
  · exact hJ _ _ _ (h1 (fun z => q ((eq32 hc c0).mpr z))) H locs ls (cfS K (cnS_t (cfN K)))
  · exact hN _ _ _ (h2 ((eq32 hc c0).mp q)) H locs ls (cfS K (cnS_t (cfN K)))
theorem s_if_lt (C : Ctx w h p s m args meth c) {o : Int} {t : Nat} (hd : decode h.2.2.1 pc = .ok (.ifCond .lt o, 3)) (ht : (pc : Int) + o = (t : Int)) {k : LL → List AV → St → Prop} (hN : ∀ L st S, k L st S → Nx w h p l e s m args below meth c Q (pc + 3) L st S) {j : LL → List AV → St → Prop} (hJ : ∀ L st S, j L st S → Nx w h p l e s m args below meth c Q t L st S) (hs : pI st (fun a r => br0 .lt a (j L r S) (k L r S))) : Nx w h p l e s m args below meth c Q pc L st S := by
  obtain ⟨a, r, rfl, h1, h2⟩ := pI_spec hs
  intro H locs ls K
  have hc : i32 a = a := cnS_h (cfN K)
  refine lv_if_lt C.1 C.2.1 hd ht (fun q => ?_) (fun q => ?_)
  · exact hJ _ _ _ (h1 ((lt32 hc c0).mp q)) H locs ls (cfS K (cnS_t (cfN K)))
  · exact hN _ _ _ (h2 (Int.not_lt.mp (fun z => q ((lt32 hc c0).mpr z)))) H locs ls (cfS K (cnS_t (cfN K)))
theorem s_if_ge (C : Ctx w h p s m args meth c) {o : Int} {t : Nat} (hd : decode h.2.2.1 pc = .ok (.ifCond .ge o, 3)) (ht : (pc : Int) + o = (t : Int)) {k : LL → List AV → St → Prop} (hN : ∀ L st S, k L st S → Nx w h p l e s m args below meth c Q (pc + 3) L st S) {j : LL → List AV → St → Prop} (hJ : ∀ L st S, j L st S → Nx w h p l e s m args below meth c Q t L st S) (hs : pI st (fun a r => br0 .ge a (j L r S) (k L r S))) : Nx w h p l e s m args below meth c Q pc L st S := by
  obtain ⟨a, r, rfl, h1, h2⟩ := pI_spec hs
  intro H locs ls K
  have hc : i32 a = a := cnS_h (cfN K)
  refine lv_if_ge C.1 C.2.1 hd ht (fun q => ?_) (fun q => ?_)
  · exact hJ _ _ _ (h1 ((le32 c0 hc).mp q)) H locs ls (cfS K (cnS_t (cfN K)))
  · exact hN _ _ _ (h2 (Int.not_le.mp (fun z => q ((le32 c0 hc).mpr z)))) H locs ls (cfS K (cnS_t (cfN K)))
theorem s_if_gt (C : Ctx w h p s m args meth c) {o : Int} {t : Nat} (hd : decode h.2.2.1 pc = .ok (.ifCond .gt o, 3)) (ht : (pc : Int) + o = (t : Int)) {k : LL → List AV → St → Prop} (hN : ∀ L st S, k L st S → Nx w h p l e s m args below meth c Q (pc + 3) L st S) {j : LL → List AV → St → Prop} (hJ : ∀ L st S, j L st S → Nx w h p l e s m args below meth c Q t L st S) (hs : pI st (fun a r => br0 .gt a (j L r S) (k L r S))) : Nx w h p l e s m args below meth c Q pc L st S := by
  obtain ⟨a, r, rfl, h1, h2⟩ := pI_spec hs
  intro H locs ls K
  have hc : i32 a = a := cnS_h (cfN K)
  refine lv_if_gt C.1 C.2.1 hd ht (fun q => ?_) (fun q => ?_)
  · exact hJ _ _ _ (h1 ((lt32 c0 hc).mp q)) H locs ls (cfS K (cnS_t (cfN K)))
  · exact hN _ _ _ (h2 (Int.not_lt.mp (fun z => q ((lt32 c0 hc).mpr z)))) H locs ls (cfS K (cnS_t (cfN K)))
theorem s_if_le (C : Ctx w h p s m args meth c) {o : Int} {t : Nat} (hd : decode h.2.2.1 pc = .ok (.ifCond .le o, 3)) (ht : (pc : Int) + o = (t : Int)) {k : LL → List AV → St → Prop} (hN : ∀ L st S, k L st S → Nx w h p l e s m args below meth c Q (pc + 3) L st S) {j : LL → List AV → St → Prop} (hJ : ∀ L st S, j L st S → Nx w h p l e s m args below meth c Q t L st S) (hs : pI st (fun a r => br0 .le a (j L r S) (k L r S))) : Nx w h p l e s m args below meth c Q pc L st S := by
  obtain ⟨a, r, rfl, h1, h2⟩ := pI_spec hs
  intro H locs ls K
  have hc : i32 a = a := cnS_h (cfN K)
  refine lv_if_le C.1 C.2.1 hd ht (fun q => ?_) (fun q => ?_)
  · exact hJ _ _ _ (h1 ((le32 hc c0).mp q)) H locs ls (cfS K (cnS_t (cfN K)))
  · exact hN _ _ _ (h2 (Int.not_le.mp (fun z => q ((le32 hc c0).mpr z)))) H locs ls (cfS K (cnS_t (cfN K)))
theorem s_icmp_eq (C : Ctx w h p s m args meth c) {o : Int} {t : Nat} (hd : decode h.2.2.1 pc = .ok (.if_icmp .eq o, 3)) (ht : (pc : Int) + o = (t : Int)) {k : LL → List AV → St → Prop} (hN : ∀ L st S, k L st S → Nx w h p l e s m args below meth c Q (pc + 3) L st S) {j : LL → List AV → St → Prop} (hJ : ∀ L st S, j L st S → Nx w h p l e s m args below meth c Q t L st S) (hs : pII st (fun a b r => br2 .eq a b (j L r S) (k L r S))) : Nx w h p l e s m args below meth c Q pc L st S := by
  obtain ⟨a, b, r, rfl, h1, h2⟩ := pII_spec hs
  intro H locs ls K
  have hc : i32 a = a := cnS_h (cnS_t (cfN K))
  have hc2 : i32 b = b := cnS_h (cfN K)
  refine lv_icmp_eq C.1 C.2.1 hd ht (fun q => ?_) (fun q => ?_)
  · exact hJ _ _ _ (h1 ((eq32 hc hc2).mp q)) H locs ls (cfS K (cnS_t (cnS_t (cfN K))))
  · exact hN _ _ _ (h2 (fun z => q ((eq32 hc hc2).mpr z))) H locs ls (cfS K (cnS_t (cnS_t (cfN K))))
theorem s_icmp_ne (C : Ctx w h p s m args meth c) {o : Int} {t : Nat} (hd : decode h.2.2.1 pc = .ok (.if_icmp .ne o, 3)) (ht : (pc : Int) + o = (t : Int)) {k : LL → List AV → St → Prop} (hN : ∀ L st S, k L st S → Nx w h p l e s m args below meth c Q (pc + 3) L st S) {j : LL → List AV → St → Prop} (hJ : ∀ L st S, j L st S → Nx w h p l e s m args below meth c Q t L st S) (hs : pII st (fun a b r => br2 .ne a b (j L r S) (k L r S))) : Nx w h p l e s m args below meth c Q pc L st S := by
  obtain ⟨a, b, r, rfl, h1, h2⟩ := pII_spec hs
  intro H locs ls K
  have hc : i32 a = a := cnS_h (cnS_t (cfN K))
  have hc2 : i32 b = b := cnS_h (cfN K)
  refine lv_icmp_ne C.1 C.2.1 hd ht (fun q => ?_) (fun q => ?_)
  · exact hJ _ _ _ (h1 (fun z => q ((eq32 hc hc2).mpr z))) H locs ls (cfS K (cnS_t (cnS_t (cfN K))))
  · exact hN _ _ _ (h2 ((eq32 hc hc2).mp q)) H locs ls (cfS K (cnS_t (cnS_t (cfN K))))
theorem s_icmp_lt (C : Ctx w h p s m args meth c) {o : Int} {t : Nat} (hd : decode h.2.2.1 pc = .ok (.if_icmp .lt o, 3)) (ht : (pc : Int) + o = (t : Int)) {k : LL → List AV → St → Prop} (hN : ∀ L st S, k L st S → Nx w h p l e s m args below meth c Q (pc + 3) L st S) {j : LL → List AV → St → Prop} (hJ : ∀ L st S, j L st S → Nx w h p l e s m args below meth c Q t L st S) (hs : pII st (fun a b r => br2 .lt a b (j L r S) (k L r S))) : Nx w h p l e s m args below meth c Q pc L st S := by
  obtain ⟨a, b, r, rfl, h1, h2⟩ := pII_spec hs
  intro H locs ls K
  have hc : i32 a = a := cnS_h (cnS_t (cfN K))
  have hc2 : i32 b = b := cnS_h (cfN K)
  refine lv_icmp_lt C.1 C.2.1 hd ht (fun q => ?_) (fun q => ?_)
  · exact hJ _ _ _ (h1 ((lt32 hc hc2).mp q)) H locs ls (cfS K (cnS_t (cnS_t (cfN K))))
  · exact hN _ _ _ (h2 (Int.not_lt.mp (fun z => q ((lt32 hc hc2).mpr z)))) H locs ls (cfS K (cnS_t (cnS_t (cfN K))))
theorem s_icmp_ge (C : Ctx w h p s m args meth c) {o : Int} {t : Nat} (hd : decode h.2.2.1 pc = .ok (.if_icmp .ge o, 3)) (ht : (pc : Int) + o = (t : Int)) {k : LL → List AV → St → Prop} (hN : ∀ L st S, k L st S → Nx w h p l e s m args below meth c Q (pc + 3) L st S) {j : LL → List AV → St → Prop} (hJ : ∀ L st S, j L st S → Nx w h p l e s m args below meth c Q t L st S) (hs : pII st (fun a b r => br2 .ge a b (j L r S) (k L r S))) : Nx w h p l e s m args below meth c Q pc L st S := by
  obtain ⟨a, b, r, rfl, h1, h2⟩ := pII_spec hs
  intro H locs ls K
  have hc : i32 a = a := cnS_h (cnS_t (cfN K))
  have hc2 : i32 b = b := cnS_h (cfN K)
  refine lv_icmp_ge C.1 C.2.1 hd ht (fun q => ?_) (fun q => ?_)
  · exact hJ _ _ _ (h1 ((le32 hc2 hc).mp q)) H locs ls (cfS K (cnS_t (cnS_t (cfN K))))
  · exact hN _ _ _ (h2 (Int.not_le.mp (fun z => q ((le32 hc2 hc).mpr z)))) H locs ls (cfS K (cnS_t (cnS_t (cfN K))))
theorem s_icmp_gt (C : Ctx w h p s m args meth c) {o : Int} {t : Nat} (hd : decode h.2.2.1 pc = .ok (.if_icmp .gt o, 3)) (ht : (pc : Int) + o = (t : Int)) {k : LL → List AV → St → Prop} (hN : ∀ L st S, k L st S → Nx w h p l e s m args below meth c Q (pc + 3) L st S) {j : LL → List AV → St → Prop} (hJ : ∀ L st S, j L st S → Nx w h p l e s m args below meth c Q t L st S) (hs : pII st (fun a b r => br2 .gt a b (j L r S) (k L r S))) : Nx w h p l e s m args below meth c Q pc L st S := by
  obtain ⟨a, b, r, rfl, h1, h2⟩ := pII_spec hs
  intro H locs ls K
  have hc : i32 a = a := cnS_h (cnS_t (cfN K))
  have hc2 : i32 b = b := cnS_h (cfN K)
  refine lv_icmp_gt C.1 C.2.1 hd ht (fun q => ?_) (fun q => ?_)
  · exact hJ _ _ _ (h1 ((lt32 hc2 hc).mp q)) H locs ls (cfS K (cnS_t (cnS_t (cfN K))))
  · exact hN _ _ _ (h2 (Int.not_lt.mp (fun z => q ((lt32 hc2 hc).mpr z)))) H locs ls (cfS K (cnS_t (cnS_t (cfN K))))
theorem s_icmp_le (C : Ctx w h p s m args meth c) {o : Int} {t : Nat} (hd : decode h.2.2.1 pc = .ok (.if_icmp .le o, 3)) (ht : (pc : Int) + o = (t : Int)) {k : LL → List AV → St → Prop} (hN : ∀ L st S, k L st S → Nx w h p l e s m args below meth c Q (pc + 3) L st S) {j : LL → List AV → St → Prop} (hJ : ∀ L st S, j L st S → Nx w h p l e s m args below meth c Q t L st S) (hs : pII st (fun a b r => br2 .le a b (j L r S) (k L r S))) : Nx w h p l e s m args below meth c Q pc L st S := by
  obtain ⟨a, b, r, rfl, h1, h2⟩ := pII_spec hs
  intro H locs ls K
  have hc : i32 a = a := cnS_h (cnS_t (cfN K))
  have hc2 : i32 b = b := cnS_h (cfN K)
  refine lv_icmp_le C.1 C.2.1 hd ht (fun q => ?_) (fun q => ?_)
  · exact hJ _ _ _ (h1 ((le32 hc hc2).mp q)) H locs ls (cfS K (cnS_t (cnS_t (cfN K))))
  · exact hN _ _ _ (h2 (Int.not_le.mp (fun z => q ((le32 hc hc2).mpr z)))) H locs ls (cfS K (cnS_t (cnS_t (cfN K))))
end SND
