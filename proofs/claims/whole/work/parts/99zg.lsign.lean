/-! the law's own sign: it calls the class's and catches -/
def yLs : MethodName := ⟨"FarKeysLaw", "sign", "(LFarKeys;II[J)I"⟩
def cLs : ByteArray := method_3_code
def hLs : List (Nat × Nat × Nat × Nat) := [(0, 10, 13, 13)]
def rmLs : Room := { frames := 7, cells := 1, slots := 6, locals := 104 }
def wsLs : List Cond := Cond.codeWith yLs cLs 5 (some .int) hLs :: G
def QLs (S : St) (a b : Int) : Option AV → St → Prop := fun r S' => (okSg S a b ∧ r = some (.inl 0) ∧ S' = up S 131 0 (aM_sign S a b)) ∨ (¬ okSg S a b ∧ r = some (.inl 1) ∧ S' = S)
theorem dLs_0 : decode cLs 0 = .ok (.aload_n 3, 1) := by decide +kernel
theorem dLs_1 : decode cLs 1 = .ok (.iconst 0, 1) := by decide +kernel
theorem dLs_2 : decode cLs 2 = .ok (.aload_n 0, 1) := by decide +kernel
theorem dLs_3 : decode cLs 3 = .ok (.iload_n 1, 1) := by decide +kernel
theorem dLs_4 : decode cLs 4 = .ok (.iload_n 2, 1) := by decide +kernel
theorem dLs_5 : decode cLs 5 = .ok (.invokevirtual 7, 3) := by decide +kernel
theorem dLs_8 : decode cLs 8 = .ok (.i2l, 1) := by decide +kernel
theorem dLs_9 : decode cLs 9 = .ok (.lastore, 1) := by decide +kernel
theorem dLs_10 : decode cLs 10 = .ok (.goto 7, 3) := by decide +kernel
theorem dLs_13 : decode cLs 13 = .ok (.astore 4, 2) := by decide +kernel
theorem dLs_15 : decode cLs 15 = .ok (.iconst 1, 1) := by decide +kernel
theorem dLs_16 : decode cLs 16 = .ok (.ireturn, 1) := by decide +kernel
theorem dLs_17 : decode cLs 17 = .ok (.iconst 0, 1) := by decide +kernel
theorem dLs_18 : decode cLs 18 = .ok (.ireturn, 1) := by decide +kernel
theorem sg_goodIn : GoodIn G wsSg := fun q hq => by
  rcases List.mem_cons.mp hq with e | h
  · rw [e]
    have h1 : Cond.code ySg cSg 3 (some .int) ∈ G := mG 1262 (by decide +kernel) rfl
    exact ⟨h1, good_of_word (G_good _ h1)⟩
  · exact ⟨h, good_of_word (G_good _ h)⟩
section LSG
variable {w : Wd} {p : Program} {l : Launch} {e : Env} {R : Room} {s : State} {m : MethodId} {args : Array Value} {below : List Frame} {meth : Method} {c : Code} {Z : State → Prop}
variable {H : Heap} {locs : List Loc} {ls : Array Slot} {cells slots pc : Nat} {S : St} {sa : Nat}
/-- a method with a table of its own -/
theorem mt_ofWH {y : MethodName} {ws ws' : List Cond} {rm : Room} {Pc : Array Value → State → Prop} {Qc : Array Value → State → Outcome → State → Prop} {mc ms : Nat} {free : Addr → Prop} {cc : ByteArray} {maxL : Nat} {ret : Option FieldType} {hh : List (Nat × Nat × Nat × Nat)}
    (hy : plainName y.cls = true) (hw : ws = Cond.codeWith y cc maxL ret hh :: ws')
    (body : ∀ p e s m args below meth c s₁, BodyLoose p l y (headSpec ws rm) cc maxL ret e s m args below meth c s₁ → c.maxLocals = maxL → c.exceptionTable.toList = tableOf hh → Pc args s →
      W p l e (headSpec ws rm).room s m args below meth c s.heap [] 0 0 (MQ below Qc args s mc ms free) (entryFrame m args maxL)) : Met l y ws rm Pc Qc mc ms free := by
  refine MetFree.of_bodyS (code := cc) (maxLocals := maxL) (ret := ret) hy ?_ ?_
  · intro args s m h hn
    obtain ⟨m9, meth, c, hn9, h1, h2, h3, h4, -, h5, h6, -⟩ := Cond.codeWith_spec (atoms_spec (ws := ws) h _ (by rw [hw]; exact List.mem_cons_self))
    cases hn.symm.trans hn9
    exact ⟨meth, c, h1, h2, h3, h4, h5, h6⟩
  · intro p e s m args below meth c s₁ B hml hP _
    have hh0 : s₁.heap = s.heap := by rw [B.state]; rfl
    have htb : c.exceptionTable.toList = tableOf hh := vx_table (x := y) B (atoms_spec (ws := ws) B.pre _ (by rw [hw]; exact List.mem_cons_self))
    obtain ⟨t, a1, o, b1, b2, b3⟩ := body p e s m args below meth c s₁ B hml htb hP s₁ hh0 (Stand.of_body B)
    exact ⟨t, o, a1, b1, b2, ⟨b3.1, b3.2⟩⟩
/-- the call of the class's sign: an answer, or a throw -/
theorem sg_go {a b : Int} {mc ms : Nat} {st0 rest : List Value} {av : Array Value} (hr : vx_Run p l e R s m args below meth c H locs cells slots mc ms (F0 m pc ls st0) rest (Qcf w (QSg S a b) av) (XSg w S a b) (inA w)) (hS : va_S (inA w) s.heap H locs)
    (kx : ∀ (ce : Cell) (q9 : Addr) (H1 : Heap) (locs1 : List Loc), ¬ okSg S a b → Wo w S H1 → va_S (inA w) s.heap H1 locs1 → H1[q9]? = some ce → ce.vm = .none → s.vm.findClass xSg = some ce.cls → vx_W p l e R s m args below meth c H1 locs1 (cells + mc) (slots + ms) Z (F0 m pc ls rest) q9)
    (kk : ∀ (H1 : Heap) (locs1 : List Loc), okSg S a b → i32 (aM_sign S a b) = aM_sign S a b → GH w s H1 locs1 S → W p l e R s m args below meth c H1 locs1 (cells + mc) (slots + ms) Z (F0 m (pc + 3) ls (.int (Int32.ofInt (aM_sign S a b)) :: rest))) : W p l e R s m args below meth c H locs cells slots Z (F0 m pc ls st0) := by
  intro T hT X
  rcases hr T hT X with ⟨v, st₀, t, T', L, h0, X', hL, e1, e2, ⟨⟨r, S', ⟨rfl, rfl, hok⟩, ho, hC, hcn, hW, hal⟩, hz, hk⟩, st⟩ | ⟨q, st₀, t, T', L, E, ce, h0, X', hL, e1, e2, ⟨rfl, hno, hW, hz, hk⟩, hce, hcv, hcl, st⟩
  · cases ho
    rw [h0] at hz hk
    rw [← e1] at hW
    obtain ⟨t2, a1, b1⟩ := kk T'.heap (locs ++ L) hok (hcn _ rfl) ⟨hW, hC,
      ⟨Nat.le_trans hS.1 (by rw [e1]; exact hz), fun q h1 h2 => by rw [e1, hk q (Nat.lt_of_lt_of_le h1 hS.1) h2]; exact hS.2.1 q h1 h2, fun q hq => by
        rcases List.mem_append.mp hq with h | h
        · exact hS.2.2 q h
        · exact hL q h⟩⟩ T' rfl X'
    exact ⟨t2, st t2 a1, b1⟩
  · rw [h0] at hz hk
    rw [← e1] at hW
    obtain ⟨t2, a1, b1⟩ := kx ce q T'.heap (locs ++ L) hno hW
      ⟨Nat.le_trans hS.1 (by rw [e1]; exact hz), fun q h1 h2 => by rw [e1, hk q (Nat.lt_of_lt_of_le h1 hS.1) h2]; exact hS.2.1 q h1 h2, fun q hq => by
        rcases List.mem_append.mp hq with h | h
        · exact hS.2.2 q h
        · exact hL q h⟩ (by rw [e1]; exact hce) hcv hcl T' rfl X'
    exact ⟨t2, st.trans a1, b1⟩
set_option maxHeartbeats 4000000 in
theorem c_ls (hlt : l.stackTraces = false) (hA : adOk w) (hC : Can S) (hR : Rel S S) (a b : Int) (ha : i32 a = a) (hb : i32 b = b) : Met l yLs wsLs rmLs (PcS w S sa [.inr (.inr 40), .inl a, .inl b, .inr (.inr 131)]) (Qcf w (QLs S a b)) 1 6 (inA w) := by
  refine mt_ofWH (cc := cLs) (maxL := 5) (ret := some .int) (hh := hLs) (by decide +kernel) rfl ?_
  intro p e s m args below meth c s₁ B hml htab hv
  obtain ⟨rfl, hK, hWo, hKt⟩ := hv
  have hts := atoms_spec (ws := wsLs) B.pre
  have hown : s.vm.findClass "FarKeysLaw" = some m.cls := findClass_of_methodNamed B.named
  have C : GX w "FarKeysLaw" cLs 5 p s m _ c := ⟨B.exec, B.bytes, hml, hown, fun q hq => hts q (List.mem_cons_of_mem _ hq), hK, hA⟩
  have hlk := B.notSynchronized
  have hrt := B.returns
  have hl := lv_entry (([.inr (.inr 40), .inl a, .inl b, .inr (.inr 131)] : List AV).map (cv w.2.1)) (n := 5) (Nat.le_of_ble_eq_true rfl)
  rw [lg_entry_eq]
  generalize (lg_sl (([.inr (.inr 40), .inl a, .inl b, .inr (.inr 131)] : List AV).map (cv w.2.1)) ++ List.replicate (5 - (lg_sl (([.inr (.inr 40), .inl a, .inl b, .inr (.inr 131)] : List AV).map (cv w.2.1))).length) Slot.unset).toArray = ls at hl ⊢
  have hl : lv_has ls 5 [(0, .ref (w.2.1 40)), (1, .int (Int32.ofInt a)), (2, .int (Int32.ofInt b)), (3, .ref (w.2.1 131))] := hl
  refine lv_aload_n C.1 C.2.1 dLs_0 rfl (lv_at hl 3 rfl) ?_
  refine lv_iconst (v := Int32.ofInt 0) C.1 C.2.1 dLs_1 rfl ?_
  refine lv_aload_n C.1 C.2.1 dLs_2 rfl (lv_at hl 0 rfl) ?_
  refine lv_iload_n C.1 C.2.1 dLs_3 rfl (lv_at hl 1 rfl) ?_
  refine lv_iload_n C.1 C.2.1 dLs_4 rfl (lv_at hl 2 rfl) ?_
  have hcb := callB_of (R := (headSpec wsLs rmLs).room) (ret := some .int) (bytes := cSg) (maxL := 3) (rm := rmSg) (mc := 1) (ms := 6) (s := s) (args := (([.inr (.inr 40), .inl a, .inl b, .inr (.inr 131)] : List AV).map (cv w.2.1)).toArray) (own := "FarKeysLaw") (index := 7) (y := ySg) (ws := wsSg) 2 C.2.2.2.2.1 sg_goodIn rfl rfl rfl (C.2.2.2.2.1 _ (mG 80 (by decide +kernel) rfl)) (C.2.2.2.2.1 _ (mG 1259 (by decide +kernel) rfl)) (by decide +kernel) ⟨by decide, by decide⟩
  have hrecv := gx_recv (c0 := 40) (ci := 11) (ks := _) hK hWo rfl
  have hr := vx_runV (C := "FarKeys") (As := [.int (Int32.ofInt a), .int (Int32.ofInt b)]) (rest := [.int (Int32.ofInt 0), .ref (w.2.1 131)]) (b := w.2.1 40) (g := F0 m 5 ls [.int (Int32.ofInt b), .int (Int32.ofInt a), .ref (w.2.1 40), .int (Int32.ofInt 0), .ref (w.2.1 131)]) (p := p) (e := e) (below := below) (meth := meth) (locs := []) (cells := 0) (slots := 0) (nL := 5) (H := s.heap) ⟨C.1, C.2.1, C.2.2.1, C.2.2.2.1, C.2.2.2.2.1⟩ (c_sg (sa := sa) hlt hA hC hR a b ha hb) ⟨hcb, C.2.2.2.2.1 _ (mG 1260 (by decide +kernel) rfl), C.2.2.2.2.1 _ (mG 1261 (by decide +kernel) rfl)⟩ ⟨PcS_blind _, hrecv, fun U hU hW => ⟨rfl, Kx_warm hW (by rw [hU]; exact va_S.rf) hK, by rw [hU]; exact hWo, Kt_far hW (fun q _ _ => by rw [hU]) hKt⟩⟩ rfl rfl hl.1 rfl (Nat.le_of_ble_eq_true rfl) dLs_5 ⟨by decide, by decide⟩
  refine sg_go hr va_S.rf ?_ ?_
  · intro ce q9 H1 locs1 hno hW1 hS1 hce hcv hcl
    refine ct_catch (own := "FarKeysLaw") (name := xSg) (E := xSg) hown ⟨0, 10, 13, 13⟩ htab (by decide) (by decide) (C.2.2.2.2.1 _ (mG 1258 (by decide +kernel) rfl)) (va_Nw.use rfl (hKt.2.2.2 _ List.mem_cons_self)) hce hcv hcl ?_
    refine lv_astore C.1 C.2.1 dLs_13 hl (by decide) rfl (fun ls' hl' => ?_)
    refine lv_iconst (v := Int32.ofInt 1) C.1 C.2.1 dLs_15 rfl ?_
    refine W.iret C.1 C.2.1 hrt (fun t ht hW => ?_) hS1.2.2 dLs_16 hlk
    exact ⟨⟨some (.inl 1), S, Or.inr ⟨hno, rfl, rfl⟩, rfl, hC, fun v z => by cases z; rfl, by rw [ht]; exact hW1, hW.alike⟩, hS1.F ht⟩
  · intro H1 locs1 hok hcv K
    refine lv_i2l (v := Int64.ofInt (aM_sign S a b)) C.1 C.2.1 dLs_8 (Int64.toInt_inj.mp (by rw [Int32.toInt_toInt64, toInt_i32, toInt_i64, hcv, i64_of32 hcv])) ?_
    refine gx_last C K (i64_of32 hcv) dLs_9 (fun H2 locs2 K2 => ?_)
    refine lv_goto (tgt := 17) C.1 C.2.1 dLs_10 rfl ?_
    refine lv_iconst (v := Int32.ofInt 0) C.1 C.2.1 dLs_17 rfl ?_
    refine W.iret C.1 C.2.1 hrt (fun t ht hW => ?_) K2.2.2.2.2 dLs_18 hlk
    exact ⟨⟨some (.inl 0), _, Or.inl ⟨hok, rfl, rfl⟩, rfl, K2.2.1, fun v z => by cases z; rfl, by rw [ht]; exact K2.1, hW.alike⟩, K2.2.2.F ht⟩
end LSG
