/-! FarKeys.sign: it answers or throws -/
def ySg : MethodName := ⟨"FarKeys", "sign", "(II)I"⟩
def xSg : String := "java/util/NoSuchElementException"
def tSg : String := "no such SIGN, no such what"
def nSg : List String := ["java/lang/RuntimeException", "java/lang/Exception"]
def cSg : ByteArray := prog_1_method_6_code
def rmSg : Room := { frames := 6, cells := 1, slots := 6, locals := 82 }
def wsSg : List Cond := Cond.code ySg cSg 3 (some .int) :: G
/-- words that the tables alone decide -/
def nwL : List Cond := [.castable xSg xSg, .declares (Bundle.initS "java/lang/RuntimeException"), .declares (Bundle.initS "java/lang/Exception"), .declares (Bundle.initS Bundle.tN)]
/-- what a throw needs of a state: the statics of Throwable, the text, those words -/
def Kt (w : Wd) (sa : Nat) (U : State) : Prop := vx_Zq Bundle.tN "UNASSIGNED_STACK" Bundle.steD (inA w) U U.heap ∧ vx_Zq Bundle.tN "SUPPRESSED_SENTINEL" Bundle.listD (inA w) U U.heap ∧ vk_R "FarKeys" 125 tSg sa U ∧ ∀ q ∈ nwL, va_Nw q U
theorem nw_on : ∀ q ∈ nwL, q.onTables = true := by
  intro q hq
  simp only [nwL, List.mem_cons, List.not_mem_nil, or_false] at hq
  rcases hq with rfl | rfl | rfl | rfl <;> rfl
theorem nw_warm {s U : State} (hW : s.WarmedH U.vm) (h : ∀ q ∈ nwL, va_Nw q s) : ∀ q ∈ nwL, va_Nw q U := by
  intro q hq
  have h1 := h q hq
  simp only [nwL, List.mem_cons, List.not_mem_nil, or_false] at hq
  rcases hq with rfl | rfl | rfl | rfl
  · exact va_Nw.warmC hW h1
  · exact va_Nw.warmD hW h1
  · exact va_Nw.warmD hW h1
  · exact va_Nw.warmD hW h1
def PcS (w : Wd) (S : St) (sa : Nat) (as : List AV) : Array Value → State → Prop := va_Pc (as.map (cv w.2.1)) (fun U => Kx w U ∧ Wo w S U.heap ∧ Kt w sa U)
def QSg (S : St) (a b : Int) : Option AV → St → Prop := fun r S' => r = some (.inl (aM_sign S a b)) ∧ S' = S ∧ okSg S a b
def XSg (w : Wd) (S : St) (a b : Int) : String → State → State → Prop := fun E st t => E = xSg ∧ ¬ okSg S a b ∧ Wo w S t.heap ∧ va_F (inA w) st t
theorem Kt_same {w : Wd} {sa : Nat} {U V : State} (hvm : U.vm = V.vm) (hh : U.heap = V.heap) (k : Kt w sa U) : Kt w sa V := by
  have ha : U.vm.Alike V.vm := by rw [hvm]; exact Vm.Alike.refl V.vm
  unfold Kt
  rw [← hh]
  exact ⟨vx_Zq.moved ha k.1, vx_Zq.moved ha k.2.1, vk_R.same hvm.symm k.2.2.1, fun q hq => va_Nw.same (nw_on q hq) hvm (k.2.2.2 q hq)⟩
theorem Kt_far {w : Wd} {sa : Nat} {s U : State} (hW : s.WarmedH U.vm) (hq : ∀ a : Nat, a < s.heap.size → ¬ inA w a → U.heap[a]? = s.heap[a]?) (k : Kt w sa s) : Kt w sa U :=
  ⟨(vx_Zq.moved hW.alike k.1).kept hq, (vx_Zq.moved hW.alike k.2.1).kept hq, vk_R.warm hW k.2.2.1, nw_warm hW k.2.2.2⟩
theorem PcS_blind {w : Wd} {S : St} {sa : Nat} (as : List AV) : FrameBlind (PcS w S sa as) := fun a U g mk q => ⟨q.1, Kx_same rfl rfl q.2.1, q.2.2.1, Kt_same (U := U) (V := U.calling g mk a) rfl rfl q.2.2.2⟩
def bSg : ByteArray := prog_23_method_4_code
def aSg : List Cond := (sgAt "FarKeys" 127 xSg "java/lang/RuntimeException" ["java/lang/Exception"] 13 bSg).filter vx_no
theorem sg_at : ∀ q ∈ aSg, q ∈ G ∨ q ∈ nwL := by
  have h : aSg.all (fun q => (goodWord q && lw_tbl.any (fun z => decide (z = q))) || nwL.any (fun z => decide (z = q))) = true := by decide +kernel
  intro q hq
  rcases Bool.or_eq_true_iff.mp (List.all_eq_true.mp h q hq) with h1 | h1
  · obtain ⟨h2, h3⟩ := Bool.and_eq_true_iff.mp h1
    obtain ⟨z, hz, e⟩ := List.any_eq_true.mp h3
    rw [← of_decide_eq_true e]
    exact Or.inl (List.mem_filter.mpr ⟨hz, by rw [of_decide_eq_true e]; exact h2⟩)
  · obtain ⟨z, hz, e⟩ := List.any_eq_true.mp h1
    rw [← of_decide_eq_true e]
    exact Or.inr hz
theorem sg_ot : ∀ q ∈ Cond.classLink "FarKeys" 123 xSg :: Cond.initialized xSg :: aSg, vx_ot q = true := by
  intro q hq
  unfold vx_ot
  rcases List.mem_cons.mp hq with e | hq
  · rw [e]; rfl
  · rcases List.mem_cons.mp hq with e | hq
    · rw [e]; rfl
    · rcases sg_at q hq with h | h
      · rw [G_good _ h]; exact Bool.or_true _
      · rw [nw_on _ h]; rfl
section SGN
variable {w : Wd} {p : Program} {l : Launch} {e : Env} {R : Room} {s : State} {m : MethodId} {args : Array Value} {below : List Frame} {meth : Method} {c : Code} {Z : State → Prop}
variable {H : Heap} {locs : List Loc} {ls : Array Slot} {cells slots pc : Nat} {S : St}
/-- where a method of the class stands -/
def GX (w : Wd) (own : String) (cc : ByteArray) (nL : Nat) (p : Program) (s : State) (m : MethodId) (args : Array Value) (c : Code) : Prop :=
  p.tables.exec = Jvm.exec ∧ c.code = cc ∧ c.maxLocals = nL ∧ s.vm.findClass own = some m.cls ∧ (∀ q ∈ G, q.before args s = true) ∧ Kx w s ∧ adOk w
def GH (w : Wd) (s : State) (H : Heap) (locs : List Loc) (S : St) : Prop := Wo w S H ∧ Can S ∧ va_S (inA w) s.heap H locs
theorem gx_go {Q' : Option AV → St → Prop} {mc ms : Nat} {st0 rest : List Value} {a : Array Value} (hr : va_Run p l e R s m args below meth c H locs cells slots mc ms (F0 m pc ls st0) rest (Qcf w Q' a) (inA w)) (hS : va_S (inA w) s.heap H locs)
    (kk : ∀ (r : Option AV) (S' : St) (H1 : Heap) (locs1 : List Loc), Q' r S' → cnO r → GH w s H1 locs1 S' → W p l e R s m args below meth c H1 locs1 (cells + mc) (slots + ms) Z (F0 m (pc + 3) ls ((r.map (cv w.2.1)).toList ++ rest))) : W p l e R s m args below meth c H locs cells slots Z (F0 m pc ls st0) := by
  intro T hT X
  obtain ⟨v, st₀, t, T', L, h0, X', hL, e1, e2, ⟨⟨r, S', hq, ho, hC, hcn, hW, hal⟩, hz, hk⟩, st⟩ := hr T hT X
  cases ho
  rw [h0] at hz hk
  rw [← e1] at hW
  obtain ⟨t2, a1, b1⟩ := kk r S' T'.heap (locs ++ L) hq hcn ⟨hW, hC,
    ⟨Nat.le_trans hS.1 (by rw [e1]; exact hz), fun q h1 h2 => by rw [e1, hk q (Nat.lt_of_lt_of_le h1 hS.1) h2]; exact hS.2.1 q h1 h2, fun q hq => by
      rcases List.mem_append.mp hq with h | h
      · exact hS.2.2 q h
      · exact hL q h⟩⟩ T' rfl X'
  exact ⟨t2, st t2 a1, b1⟩
theorem gx_recv (hK : Kx w s) (hP : Wo w S H) {c0 ci : Nat} {ks : List (Nat × Nat × Nat × Int)} (hsh : shp c0 = .inl (ci, ks)) : ∃ cell : Cell, H[w.2.1 c0]? = some cell ∧ cell.vm.isStatics = false ∧ s.vm.findClass (clN ci) = some cell.cls := by
  have hcell := wl_get w S (sh_obj hsh).1
  rw [cell_obj hsh] at hcell
  have hrecv := va_recv hK.1 hP (clE_get ci (sh_obj hsh).2.1) hcell
  have : ∀ k, k < 13 → (clE k).1 = clN k := by decide +kernel
  rw [this ci (sh_obj hsh).2.1] at hrecv
  exact hrecv
/-- a call of a method of the class -/
theorem gx_callV {own : String} {cc : ByteArray} {nL : Nat} (C : GX w own cc nL p s m args c) (K : GH w s H locs S) (hsz : ls.size = nL) (hcs : cells ≤ R.cells ∧ slots ≤ R.slots) {g : Hd} (hg : hdOk g) (hrc : ¬ g.2.2.2.2.2.2.2.1 = 0) {x c0 : Nat} {as rest : List AV} {ks : List (Nat × Nat × Nat × Int)} (hsh : shp c0 = .inl (g.1, ks)) (hlk : Cond.methodLink own x g.2.1 ∈ G) (hd : decode cc pc = .ok (.invokevirtual x, 3))
    (hfr : g.2.2.2.2.2.1 + 1 ≤ R.frames ∧ 19 + g.2.2.2.1 + g.2.2.2.2.2.2.1 ≤ R.locals) (hln : as.length = g.2.2.2.2.2.2.2.2) (hct : cats rest ≤ 8) (has : cnS as) {Q' : Option AV → St → Prop} (hs : enL (.inr (.inr c0) :: as) g.2.2.2.1 (fun L => Smm g 0 L [] S Q'))
    (kk : ∀ (r : Option AV) (S' : St) (H1 : Heap) (locs1 : List Loc), Q' r S' → cnO r → GH w s H1 locs1 S' → W p l e R s m args below meth c H1 locs1 cells slots Z (F0 m (pc + 3) ls ((r.map (cv w.2.1)).toList ++ rest.map (cv w.2.1)))) :
    W p l e R s m args below meth c H locs cells slots Z (F0 m pc ls ((as.reverse ++ .inr (.inr c0) :: rest).map (cv w.2.1))) := by
  obtain ⟨oc, nm, by_, ml, rt, fr, lo, rc, np⟩ := g
  dsimp only at hsh hlk hrc hs hfr hln
  obtain ⟨hin, hse⟩ := (hg.2.2.2.2.2.resolve_left (fun z => hrc z.1)).2
  have hcas : cnS (.inr (.inr c0) :: as) := cnS_c trivial has
  have hM := met_of (g := (oc, nm, by_, ml, rt, fr, lo, rc, np)) hg C.2.2.2.2.2.2 K.2.1 hcas hs l
  have hcb := callB_of (R := R) (rm := rmO (oc, nm, by_, ml, rt, fr, lo, rc, np)) (mc := 0) (ms := 0) (s := s) (args := args) (own := own) (index := x) np C.2.2.2.2.1 (goodG _ hg) rfl rfl rfl (C.2.2.2.2.1 _ hg.2.1) (C.2.2.2.2.1 _ hlk) hg.2.2.2.2.1 ⟨hfr.1, by show 8 + (ml + 11) + lo ≤ R.locals; have := hfr.2; omega⟩
  have hrecv := gx_recv C.2.2.2.2.2.1 K.1 hsh
  rw [← (show nm.cls = clN oc from hg.2.2.1)] at hrecv
  have hr := va_runV (As := as.map (cv w.2.1)) (rest := rest.map (cv w.2.1)) (b := w.2.1 c0) (g := F0 m pc ls ((as.reverse ++ .inr (.inr c0) :: rest).map (cv w.2.1))) (p := p) (e := e) (below := below) (meth := meth) (locs := locs) (cells := cells) (slots := slots) (nL := nL) (H := H) ⟨C.1, C.2.1, C.2.2.1, C.2.2.2.1, C.2.2.2.2.1⟩ hM ⟨hcb, C.2.2.2.2.1 _ hin, C.2.2.2.2.1 _ hse⟩ ⟨PcO_blind _, hrecv, fun U hU hW => ⟨rfl, Kx_warm hW (by rw [hU]; exact K.2.2) C.2.2.2.2.2.1, by rw [hU]; exact K.1⟩⟩ rfl (by rw [List.length_map]; exact hln) hsz (by show List.map _ _ = _; rw [List.map_append, List.map_reverse]; rfl) (by show 2 * 0 + _ ≤ 8; rw [cats_eq]; omega) hd hcs
  exact gx_go hr K.2.2 kk
theorem gx_get {own : String} {cc : ByteArray} {nL : Nat} (C : GX w own cc nL p s m args c) (K : GH w s H locs S) {x ci j c0 : Nat} {rest : List Value} (hd : decode cc pc = .ok (.getfield x, 3)) (hlk : Cond.fieldLink own x ((clE ci).2.1 j).1 ((clE ci).2.1 j).2.1 ((clE ci).2.1 j).2.2.1 ∈ G) (hk : j < (clE ci).2.2) (hci : ci < 13) (hs : getK c0 ci j S (fun v => W p l e R s m args below meth c H locs cells slots Z (F0 m (pc + 3) ls (cv w.2.1 v :: rest)))) : W p l e R s m args below meth c H locs cells slots Z (F0 m pc ls (.ref (w.2.1 c0) :: rest)) := by
  obtain ⟨ks, q, v, hsh, hq, hfv, hcn, h2⟩ := getK_spec K.2.1 hs
  have hcell := wl_get w S (sh_obj hsh).1
  rw [cell_obj hsh] at hcell
  refine va_get (D := w.1) (ci := ci) (C := (clE ci).1) (T := (clE ci).2.1) (N := (clE ci).2.2) (v := cv w.2.1 v) C.1 C.2.1 C.2.2.2.2.1 (uE ci hci) C.2.2.2.1 C.2.2.2.2.2.1.1 K.1 c0 hcell (clE_get ci hci) j hk (C.2.2.2.2.1 _ hlk) (fun _ h9 => h9) ?_ hd h2
  rw [List.getElem?_map, hq]
  exact congrArg some (hfv _)
theorem gx_iald {own : String} {cc : ByteArray} {nL : Nat} (C : GX w own cc nL p s m args c) (K : GH w s H locs S) {c0 n : Nat} {k i : Int} {rest : List Value} (hsh : shp c0 = .inr (0, n, k)) (hi : i32 i = i) (hb : 0 ≤ i ∧ i < k) (hd : decode cc pc = .ok (.iaload, 1)) (kk : W p l e R s m args below meth c H locs cells slots Z (F0 m (pc + 1) ls (.int (Int32.ofInt (S c0 i)) :: rest))) : W p l e R s m args below meth c H locs cells slots Z (F0 m pc ls (.int (Int32.ofInt i) :: .ref (w.2.1 c0) :: rest)) := by
  obtain ⟨hlt, hk, hn⟩ := sh_arr hsh (Or.inl rfl)
  subst hk
  have hcell := wl_get w S hlt
  rw [cell_I hsh] at hcell
  refine va_iald (D := w.1) C.1 C.2.1 C.2.2.2.2.2.1.1 K.1 c0 0 hcell rfl (vpin hi hb) hd ?_
  have e0 : Int32.ofInt (S c0 ((Int32.ofInt i).toNatClampNeg : Int)) = Int32.ofInt (S c0 i) := by rw [clamp32 hi hb.1, toN hb.1]
  rw [e0]
  exact kk
theorem gx_last {own : String} {cc : ByteArray} {nL : Nat} (C : GX w own cc nL p s m args c) (K : GH w s H locs S) {v : Int} {rest : List Value} (hv : i64 v = v) (hd : decode cc pc = .ok (.lastore, 1)) (kk : ∀ (H1 : Heap) (locs1 : List Loc), GH w s H1 locs1 (up S 131 0 v) → W p l e R s m args below meth c H1 locs1 cells slots Z (F0 m (pc + 1) ls rest)) : W p l e R s m args below meth c H locs cells slots Z (F0 m pc ls (.long (Int64.ofInt v) :: .int (Int32.ofInt 0) :: .ref (w.2.1 131) :: rest)) := by
  have hcell := wl_get w S (show 131 < nC by decide)
  rw [cell_J (show shp 131 = .inr (1, 1, 1) from rfl)] at hcell
  refine va_last (D := w.1) C.1 C.2.1 C.2.2.2.2.2.1.1 K.1 (wl_D w S C.2.2.2.2.2.2) K.2.2 131 1 hcell rfl (vpin c0 ⟨by decide, by decide⟩) hd (fun H1 locs1 hP1 hD1 hS1 => ?_)
  rw [updL_eq c0 (by decide)] at hP1
  refine kk H1 locs1 ⟨?_, Can_up K.2.1 (show i64 v = v from hv), hS1⟩
  unfold Wo
  rw [← wl_set w (S := S) (S' := up S 131 0 v) (c := 131) (by decide) (fun c' h => up_o S 0 v h), cell_J (show shp 131 = .inr (1, 1, 1) from rfl), up_c]
  exact hP1
end SGN
