/-! the abstract machine is sound -/
section SNF
variable {w : Wd} {h : Hd} {p : Program} {l : Launch} {e : Env} {s : State} {m : MethodId} {args : Array Value} {below : List Frame} {meth : Method} {c : Code} {Q : Option AV → St → Prop}
set_option maxHeartbeats 4000000 in
theorem step_ok (C : Ctx w h p s m args meth c) {cd : List CE} {k : KT} {is : List CE} {L : LL} {st : List AV} {S : St} (e0 : CE) (he : chkE h e0 = true) (hN : ∀ L st S, k is L st S → Nx w h p l e s m args below meth c Q (e0.1 + e0.2.2.1) L st S) (hJ : ∀ t L st S, jmpK cd t (fun is => k is L st S) → Nx w h p l e s m args below meth c Q t L st S) (hs : stepP h Q cd k e0 is L st S) : Nx w h p l e s m args below meth c Q e0.1 L st S := by
  obtain ⟨pc, ins, len, f⟩ := e0
  unfold chkE at he
  have hz := Bool.and_eq_true_iff.mp he
  have hi := hz.2
  have hy := Bool.and_eq_true_iff.mp hz.1
  have hd := of_decide_eq_true hy.1
  have hl := hy.2
  clear hy hz he
  dsimp only at hd hl hi hN ⊢
  cases ins <;> first | exact False.elim hs | skip
  case iload i =>
    have hl := Nat.beq_eq.mp hl
    subst hl
    exact s_iload C hd hN hs
  case lload i =>
    have hl := Nat.beq_eq.mp hl
    subst hl
    exact s_lload C hd hN hs
  case aload i =>
    have hl := Nat.beq_eq.mp hl
    subst hl
    exact s_aload C hd hN hs
  case iload_n i =>
    have hl := Nat.beq_eq.mp hl
    subst hl
    exact s_iload_n C hd hN hs
  case lload_n i =>
    have hl := Nat.beq_eq.mp hl
    subst hl
    exact s_lload_n C hd hN hs
  case aload_n i =>
    have hl := Nat.beq_eq.mp hl
    subst hl
    exact s_aload_n C hd hN hs
  case istore i =>
    have hl := Nat.beq_eq.mp hl
    subst hl
    exact s_istore C hd (Nat.ble_eq.mp hi) hN hs
  case astore i =>
    have hl := Nat.beq_eq.mp hl
    subst hl
    exact s_astore C hd (Nat.ble_eq.mp hi) hN hs
  case istore_n i =>
    have hl := Nat.beq_eq.mp hl
    subst hl
    exact s_istore_n C hd (Nat.ble_eq.mp hi) hN hs
  case astore_n i =>
    have hl := Nat.beq_eq.mp hl
    subst hl
    exact s_astore_n C hd (Nat.ble_eq.mp hi) hN hs
  case lstore i =>
    have hl := Nat.beq_eq.mp hl
    subst hl
    exact s_lstore C hd (Nat.ble_eq.mp hi) hN hs
  case lstore_n i =>
    have hl := Nat.beq_eq.mp hl
    subst hl
    exact s_lstore_n C hd (Nat.ble_eq.mp hi) hN hs
  case iinc i n =>
    have hl := Nat.beq_eq.mp hl
    subst hl
    exact s_iinc C hd (Nat.ble_eq.mp hi) hN hs
  case iconst n =>
    have hl := Nat.beq_eq.mp hl
    subst hl
    exact s_iconst C hd (of_decide_eq_true hi) hN hs
  case bipush n =>
    have hl := Nat.beq_eq.mp hl
    subst hl
    have hi := Bool.and_eq_true_iff.mp hi
    exact s_bipush C hd (of_decide_eq_true hi.1) (of_decide_eq_true hi.2) hN hs
  case sipush n =>
    have hl := Nat.beq_eq.mp hl
    subst hl
    have hi := Bool.and_eq_true_iff.mp hi
    exact s_sipush C hd (of_decide_eq_true hi.1) (of_decide_eq_true hi.2) hN hs
  case lconst n =>
    have hl := Nat.beq_eq.mp hl
    subst hl
    exact s_lconst C hd hN hs
  case ldc x =>
    have hl := Nat.beq_eq.mp hl
    subst hl
    dsimp only [stepP] at hs
    dsimp only [chkI] at hi
    split at hs
    · exact s_ldc C hd hi hN hs
    · exact hs.elim
  case ldc_w x =>
    have hl := Nat.beq_eq.mp hl
    subst hl
    dsimp only [stepP] at hs
    dsimp only [chkI] at hi
    split at hs
    · exact s_ldc_w C hd hi hN hs
    · exact hs.elim
  case ldc2_w x =>
    have hl := Nat.beq_eq.mp hl
    subst hl
    dsimp only [stepP] at hs
    dsimp only [chkI] at hi
    split at hs
    · exact s_ldc2_w C hd hi hN hs
    · exact hs.elim
  case iadd =>
    have hl := Nat.beq_eq.mp hl
    subst hl
    exact s_iadd C hd hN hs
  case isub =>
    have hl := Nat.beq_eq.mp hl
    subst hl
    exact s_isub C hd hN hs
  case imul =>
    have hl := Nat.beq_eq.mp hl
    subst hl
    exact s_imul C hd hN hs
  case ineg =>
    have hl := Nat.beq_eq.mp hl
    subst hl
    exact s_ineg C hd hN hs
  case iand =>
    have hl := Nat.beq_eq.mp hl
    subst hl
    exact s_iand C hd hN hs
  case ior =>
    have hl := Nat.beq_eq.mp hl
    subst hl
    exact s_ior C hd hN hs
  case ixor =>
    have hl := Nat.beq_eq.mp hl
    subst hl
    exact s_ixor C hd hN hs
  case ishl =>
    have hl := Nat.beq_eq.mp hl
    subst hl
    exact s_ishl C hd hN hs
  case ishr =>
    have hl := Nat.beq_eq.mp hl
    subst hl
    exact s_ishr C hd hN hs
  case iushr =>
    have hl := Nat.beq_eq.mp hl
    subst hl
    exact s_iushr C hd hN hs
  case idiv =>
    have hl := Nat.beq_eq.mp hl
    subst hl
    exact s_idiv C hd hN hs
  case irem =>
    have hl := Nat.beq_eq.mp hl
    subst hl
    exact s_irem C hd hN hs
  case ladd =>
    have hl := Nat.beq_eq.mp hl
    subst hl
    exact s_ladd C hd hN hs
  case lsub =>
    have hl := Nat.beq_eq.mp hl
    subst hl
    exact s_lsub C hd hN hs
  case lmul =>
    have hl := Nat.beq_eq.mp hl
    subst hl
    exact s_lmul C hd hN hs
  case ldiv =>
    have hl := Nat.beq_eq.mp hl
    subst hl
    exact s_ldiv C hd hN hs
  case lrem =>
    have hl := Nat.beq_eq.mp hl
    subst hl
    exact s_lrem C hd hN hs
  case lushr =>
    have hl := Nat.beq_eq.mp hl
    subst hl
    exact s_lushr C hd hN hs
  case lcmp =>
    have hl := Nat.beq_eq.mp hl
    subst hl
    exact s_lcmp C hd hN hs
  case i2l =>
    have hl := Nat.beq_eq.mp hl
    subst hl
    exact s_i2l C hd hN hs
  case l2i =>
    have hl := Nat.beq_eq.mp hl
    subst hl
    exact s_l2i C hd hN hs
  case dup =>
    have hl := Nat.beq_eq.mp hl
    subst hl
    dsimp only [stepP] at hs
    exact s_dup C hd hN hs
  case dup2 =>
    have hl := Nat.beq_eq.mp hl
    subst hl
    exact s_dup2 C hd hN hs
  case pop =>
    have hl := Nat.beq_eq.mp hl
    subst hl
    dsimp only [stepP] at hs
    exact s_pop C hd hN hs
  case iaload =>
    have hl := Nat.beq_eq.mp hl
    subst hl
    exact s_iaload C hd hN hs
  case laload =>
    have hl := Nat.beq_eq.mp hl
    subst hl
    exact s_laload C hd hN hs
  case baload =>
    have hl := Nat.beq_eq.mp hl
    subst hl
    exact s_baload C hd hN hs
  case caload =>
    have hl := Nat.beq_eq.mp hl
    subst hl
    exact s_caload C hd hN hs
  case iastore =>
    have hl := Nat.beq_eq.mp hl
    subst hl
    exact s_iastore C hd hN hs
  case lastore =>
    have hl := Nat.beq_eq.mp hl
    subst hl
    exact s_lastore C hd hN hs
  case bastore =>
    have hl := Nat.beq_eq.mp hl
    subst hl
    exact s_bastore C hd hN hs
  case arraylength =>
    have hl := Nat.beq_eq.mp hl
    subst hl
    exact s_arraylength C hd hN hs
  case goto o =>
    have hl := Nat.beq_eq.mp hl
    subst hl
    dsimp only [stepP] at hs
    dsimp only [chkI] at hi
    split at hs
    · exact s_goto C hd (of_decide_eq_true hi) hN (hJ _) hs
    · exact hs.elim
  case ifCond q o =>
    have hl := Nat.beq_eq.mp hl
    subst hl
    dsimp only [stepP] at hs
    dsimp only [chkI] at hi
    split at hs
    · cases q
      · exact s_if_eq C hd (of_decide_eq_true hi) hN (hJ _) hs
      · exact s_if_ne C hd (of_decide_eq_true hi) hN (hJ _) hs
      · exact s_if_lt C hd (of_decide_eq_true hi) hN (hJ _) hs
      · exact s_if_ge C hd (of_decide_eq_true hi) hN (hJ _) hs
      · exact s_if_gt C hd (of_decide_eq_true hi) hN (hJ _) hs
      · exact s_if_le C hd (of_decide_eq_true hi) hN (hJ _) hs
    · exact hs.elim
  case if_icmp q o =>
    have hl := Nat.beq_eq.mp hl
    subst hl
    dsimp only [stepP] at hs
    dsimp only [chkI] at hi
    split at hs
    · cases q
      · exact s_icmp_eq C hd (of_decide_eq_true hi) hN (hJ _) hs
      · exact s_icmp_ne C hd (of_decide_eq_true hi) hN (hJ _) hs
      · exact s_icmp_lt C hd (of_decide_eq_true hi) hN (hJ _) hs
      · exact s_icmp_ge C hd (of_decide_eq_true hi) hN (hJ _) hs
      · exact s_icmp_gt C hd (of_decide_eq_true hi) hN (hJ _) hs
      · exact s_icmp_le C hd (of_decide_eq_true hi) hN (hJ _) hs
    · exact hs.elim
  case getfield x =>
    have hl := Nat.beq_eq.mp hl
    subst hl
    dsimp only [stepP] at hs
    dsimp only [chkI] at hi
    split at hs
    · exact s_getfield C hd hi hN hs
    · exact hs.elim
  case putfield x =>
    have hl := Nat.beq_eq.mp hl
    subst hl
    dsimp only [stepP] at hs
    dsimp only [chkI] at hi
    split at hs
    · have hi := Bool.and_eq_true_iff.mp hi
      exact s_putfield C hd hi.1 (by simpa using hi.2) hN hs
    · exact hs.elim
  case getstatic x =>
    have hl := Nat.beq_eq.mp hl
    subst hl
    dsimp only [stepP] at hs
    dsimp only [chkI] at hi
    split at hs
    · exact s_getstatic C hd hi hN hs
    · exact hs.elim
  case invokevirtual x =>
    have hl := Nat.beq_eq.mp hl
    subst hl
    dsimp only [stepP] at hs
    dsimp only [chkI] at hi
    split at hs
    · have hi := Bool.and_eq_true_iff.mp hi
      exact s_invokevirtual C hd hi.1 (fun z => by rw [z] at hi; simp at hi) hN hs
    · exact hs.elim
  case invokestatic x =>
    have hl := Nat.beq_eq.mp hl
    subst hl
    dsimp only [stepP] at hs
    dsimp only [chkI] at hi
    split at hs
    · have hi := Bool.and_eq_true_iff.mp hi
      exact s_invokestatic C hd hi.1 (Nat.beq_eq.mp hi.2) hN hs
    · have hi := Bool.and_eq_true_iff.mp hi
      exact s_copy C hd hi.1 (Nat.ble_eq.mp hi.2) hN hs
    · have hi := Bool.and_eq_true_iff.mp hi
      exact s_max C hd hi.1 (Nat.ble_eq.mp hi.2) hN hs
    · have hi := Bool.and_eq_true_iff.mp hi
      exact s_min C hd hi.1 (Nat.ble_eq.mp hi.2) hN hs
    · exact hs.elim
  case tableswitch d lo hh offs =>
    have hi := Bool.and_eq_true_iff.mp hi
    have hj := Bool.and_eq_true_iff.mp hi.1
    exact s_table C hd (of_decide_eq_true hj.1) (of_decide_eq_true hj.2) (fun o ho => of_decide_eq_true (List.all_eq_true.mp hi.2 o ho)) hJ hs
  case lookupswitch d ps =>
    have hi := Bool.and_eq_true_iff.mp hi
    have hj := Bool.and_eq_true_iff.mp hi.1
    exact s_lookup C hd hj.1 (of_decide_eq_true hj.2) (fun o ho => of_decide_eq_true (List.all_eq_true.mp hi.2 o ho)) hJ hs
  case ireturn =>
    have hl := Nat.beq_eq.mp hl
    subst hl
    dsimp only [stepP] at hs
    exact s_ireturn C hd hs
  case lreturn =>
    have hl := Nat.beq_eq.mp hl
    subst hl
    dsimp only [stepP] at hs
    exact s_lreturn C hd hs
  case areturn =>
    have hl := Nat.beq_eq.mp hl
    subst hl
    dsimp only [stepP] at hs
    exact s_areturn C hd hs
  case return_ =>
    have hl := Nat.beq_eq.mp hl
    subst hl
    dsimp only [stepP] at hs
    exact s_return C hd hs
theorem jmpK_spec {f : List CE → Prop} : ∀ (cd : List CE) (t : Nat), jmpK cd t f → ∃ pre e0 is, cd = pre ++ e0 :: is ∧ e0.1 = t ∧ f (e0 :: is)
  | [], _, hs => False.elim hs
  | e0 :: is, t, hs => by
    unfold jmpK at hs
    split at hs
    · rename_i hb
      exact ⟨[], e0, is, rfl, Nat.beq_eq.mp hb, hs⟩
    · obtain ⟨pre, e1, is1, h1, h2, h3⟩ := jmpK_spec is t hs
      exact ⟨e0 :: pre, e1, is1, by rw [h1]; rfl, h2, h3⟩
theorem chkC_spec : ∀ (pre : List CE) (e0 e1 : CE) (is : List CE), chkC (pre ++ e0 :: e1 :: is) = true → e0.1 + e0.2.2.1 = e1.1
  | [], e0, e1, is, hc => by
    simp only [List.nil_append, chkC, Bool.and_eq_true] at hc
    exact Nat.beq_eq.mp hc.1
  | [x], e0, e1, is, hc => by
    simp only [List.cons_append, List.nil_append, chkC, Bool.and_eq_true] at hc
    exact Nat.beq_eq.mp hc.2.1
  | x :: y :: pre, e0, e1, is, hc => by
    simp only [List.cons_append, chkC, Bool.and_eq_true] at hc
    exact chkC_spec (y :: pre) e0 e1 is hc.2
theorem wp_ok (C : Ctx w h p s m args meth c) {cd : List CE} (hok : okM h cd = true) (stops : List Nat) : ∀ (n : Nat) (pre : List CE) (is : List CE), cd = pre ++ is → ∀ (L : LL) (st : List AV) (S : St), wp h Q cd stops n is L st S → ∃ e0 r, is = e0 :: r ∧ Nx w h p l e s m args below meth c Q e0.1 L st S := by
  obtain ⟨hall, hch⟩ := Bool.and_eq_true_iff.mp hok
  intro n
  induction n with
  | zero =>
    intro pre is hcd L st S hs
    match is, hs with
    | [], hs => exact False.elim hs
    | e0 :: r, hs => exact ⟨e0, r, rfl, fun H locs ls K => hs w p l e s m args below meth c C H locs ls K⟩
  | succ n ih =>
    intro pre is hcd L st S hs
    match is, hs with
    | [], hs => exact False.elim hs
    | e0 :: r, hs =>
      refine ⟨e0, r, rfl, ?_⟩
      unfold wp at hs
      split at hs
      · exact fun H locs ls K => hs w p l e s m args below meth c C H locs ls K
      · refine step_ok C e0 (List.all_eq_true.mp hall e0 (by rw [hcd]; exact List.mem_append_right _ List.mem_cons_self)) ?_ ?_ hs
        · intro L' st' S' hk
          obtain ⟨e1, r1, h1, h2⟩ := ih (pre ++ [e0]) r (by rw [hcd]; simp) L' st' S' hk
          subst h1
          rw [hcd] at hch
          rw [chkC_spec pre e0 e1 r1 hch]
          exact h2
        · intro t L' st' S' hk
          obtain ⟨pre1, e1, r1, h1, h2, h3⟩ := jmpK_spec cd t hk
          obtain ⟨e2, r2, h4, h5⟩ := ih pre1 (e1 :: r1) h1 L' st' S' h3
          cases h4
          rw [← h2]
          exact h5
end SNF
/-- what the abstract machine shows from a place on -/
theorem sound {h : Hd} {cd : List CE} (hok : okM h cd = true) (stops : List Nat) (n : Nat) {pc : Nat} {L : LL} {st : List AV} {S : St} {Q : Option AV → St → Prop} (hs : run h Q cd stops n pc L st S) : Smm h pc L st S Q := by
  intro w p l e s m args below meth c C
  obtain ⟨hall, hch⟩ := Bool.and_eq_true_iff.mp hok
  obtain ⟨pre, e0, r, hcd, hpc, hs⟩ := jmpK_spec cd pc hs
  dsimp only at hs
  rw [← hpc]
  refine step_ok C e0 (List.all_eq_true.mp hall e0 (by rw [hcd]; exact List.mem_append_right _ List.mem_cons_self)) ?_ ?_ hs
  · intro L' st' S' hk
    obtain ⟨e1, r1, h1, h2⟩ := wp_ok (l := l) (e := e) (below := below) C hok stops n (pre ++ [e0]) r (by rw [hcd]; simp) L' st' S' hk
    subst h1
    rw [hcd] at hch
    rw [chkC_spec pre e0 e1 r1 hch]
    exact h2
  · intro t L' st' S' hk
    obtain ⟨pre1, e1, r1, h1, h2, h3⟩ := jmpK_spec cd t hk
    obtain ⟨e2, r2, h4, h5⟩ := wp_ok (l := l) (e := e) (below := below) C hok stops n pre1 (e1 :: r1) h1 L' st' S' h3
    cases h4
    rw [← h2]
    exact h5
/-- a weaker end -/
theorem Smm.mono {h : Hd} {pc : Nat} {L : LL} {st : List AV} {S : St} {Q Q' : Option AV → St → Prop} (hs : Smm h pc L st S Q) (hq : ∀ r S, Q r S → Q' r S) : Smm h pc L st S Q' := by
  intro w p l e s m args below meth c C H locs ls K T hT X
  obtain ⟨t, h1, o, h2, h3, ⟨⟨r, S', h4, h5⟩, h6⟩, h7⟩ := hs w p l e s m args below meth c C H locs ls K T hT X
  exact ⟨t, h1, o, h2, h3, ⟨⟨r, S', hq r S' h4, h5⟩, h6⟩, h7⟩
/-- what a state's numbers are may be used -/
theorem Smm.can {h : Hd} {pc : Nat} {L : LL} {st : List AV} {S : St} {Q : Option AV → St → Prop} (hs : Can S → Smm h pc L st S Q) : Smm h pc L st S Q := by
  intro w p l e s m args below meth c C H locs ls K
  exact hs K.2.1 w p l e s m args below meth c C H locs ls K
/-- fewer known locals are enough -/
def subL : LL → LL → Prop
  | [], _ => True
  | x :: L, [] => x = none ∧ subL L []
  | x :: L, y :: L' => (x = none ∨ x = y) ∧ subL L L'
theorem subL_get : ∀ (L L' : LL), subL L L' → ∀ (i : Nat) (v : AV), L[i]? = some (some v) → L'[i]? = some (some v)
  | [], _, _, i, v, hv => by simp at hv
  | x :: L, [], hs, 0, v, hv => by
    have e : x = some v := by simpa using hv
    rw [hs.1] at e
    cases e
  | x :: L, [], hs, i + 1, v, hv => by
    have := subL_get L [] hs.2 i v (by simpa using hv)
    simp at this
  | x :: L, y :: L', hs, 0, v, hv => by
    have e : x = some v := by simpa using hv
    rcases hs.1 with q | q
    · rw [q] at e; cases e
    · simp [← q, e]
  | x :: L, y :: L', hs, i + 1, v, hv => by
    have := subL_get L L' hs.2 i v (by simpa using hv)
    simpa using this
theorem Smm.sub {h : Hd} {pc : Nat} {L L' : LL} {st : List AV} {S : St} {Q : Option AV → St → Prop} (hs : Smm h pc L st S Q) (hL : subL L L') : Smm h pc L' st S Q := by
  intro w p l e s m args below meth c C H locs ls K
  refine hs w p l e s m args below meth c C H locs ls ⟨K.1, K.2.1, fun v hv => ?_, K.2.2.2.1, K.2.2.2.2.1, ⟨K.2.2.2.2.2.1, K.2.2.2.2.2.2.1, fun q hq => ?_⟩⟩
  · obtain ⟨i, hi⟩ := List.getElem?_of_mem hv
    exact K.2.2.1 v (List.mem_of_getElem? (subL_get L L' hL i v hi))
  · obtain ⟨j, u, h1, h2⟩ := (mem_al L 0 q).mp hq
    exact K.2.2.2.2.2.2.2 q ((mem_al L' 0 q).mpr ⟨j, u, h1, subL_get L L' hL j u h2⟩)
