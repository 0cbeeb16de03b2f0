/-! making: constructors, at known places of the heap -/
def tyN (cI cJ cZ : ClassId) : List (ClassId × FieldType) := [(cI, .int), (cJ, .long), (cZ, .boolean)]
def nlL : List (String × Nat × MethodName) := [("FarKeys", 11, ⟨"FarKeys$Tape", "<init>", "()V"⟩), ("FarKeys$LandReader", 11, ⟨"FarKeys$Land", "<init>", "()V"⟩), ("FarKeys", 34, ⟨"FarKeys$Plans", "<init>", "()V"⟩), ("FarKeys", 41, ⟨"FarKeys$Land", "<init>", "()V"⟩), ("FarKeys", 58, ⟨"FarKeys$Book", "<init>", "()V"⟩), ("FarKeys$Walk", 36, ⟨"FarKeys$Row", "<init>", "()V"⟩), ("FarKeys", 77, ⟨"FarKeys$Survey", "<init>", "()V"⟩), ("FarKeys", 84, ⟨"FarKeys$Solo", "<init>", "()V"⟩), ("FarKeys$Solo", 17, ⟨"FarKeys$Row", "<init>", "()V"⟩), ("FarKeys", 91, ⟨"FarKeys$Duel", "<init>", "()V"⟩), ("FarKeys$Duel", 29, ⟨"FarKeys$Row", "<init>", "()V"⟩)]
def KN (D : va_G) (cI cJ cZ : ClassId) (U : State) : Prop := va_K D vwCl (tyN cI cJ cZ) U ∧ ∀ q ∈ nlL, va_Nw (.methodLinkNest q.1 q.2.1 q.2.2 "FarKeys") U
theorem KN_warm {D : va_G} {cI cJ cZ : ClassId} {s U : State} (hW : s.WarmedH U.vm) (k : KN D cI cJ cZ s) : KN D cI cJ cZ U := ⟨va_K.moved hW.alike k.1, fun q hq => va_Nw.warmM hW (k.2 q hq)⟩
theorem KN_same {D : va_G} {cI cJ cZ : ClassId} {U V : State} (hvm : U.vm = V.vm) (k : KN D cI cJ cZ U) : KN D cI cJ cZ V := by
  have ha : U.vm.Alike V.vm := by rw [hvm]; exact Vm.Alike.refl V.vm
  exact ⟨va_K.moved ha k.1, fun q hq => va_Nw.same rfl hvm (k.2 q hq)⟩
def GN (D : va_G) (cI cJ cZ : ClassId) (own : String) (cc : ByteArray) (nL : Nat) (p : Program) (s : State) (m : MethodId) (args : Array Value) (c : Code) : Prop :=
  p.tables.exec = Jvm.exec ∧ c.code = cc ∧ c.maxLocals = nL ∧ s.vm.findClass own = some m.cls ∧ (∀ q ∈ G, q.before args s = true) ∧ KN D cI cJ cZ s
def NH (D : va_G) (A : Nat → Prop) (H0 H : Heap) (locs : List Loc) (ws : va_W) (n : Nat) : Prop := va_P D vwCl ws H ∧ va_D A ws ∧ va_S A H0 H locs ∧ H.size = n
/-- an object's fields as it is born -/
def fzC (cj : Nat) : List Value := (List.range (clE cj).2.2).map (fun j => defaultValue ((tyCl.getD cj (fun _ => .int)) j))
theorem vpV_map (f : Nat → Value) (N j : Nat) (h : j < N) : vp_V ((List.range N).map f) j = f j := by
  unfold vp_V
  rw [List.getD_eq_getElem?_getD, List.getElem?_map, List.getElem?_range h]
  rfl
theorem fzC_at (cj j : Nat) (h : j < (clE cj).2.2) : defaultValue ((tyCl.getD cj (fun _ => .int)) j) = vp_V (fzC cj) j := (vpV_map (fun j => defaultValue ((tyCl.getD cj (fun _ => .int)) j)) _ j h).symm
theorem fzC_len (cj : Nat) : (fzC cj).length = (clE cj).2.2 := by unfold fzC; rw [List.length_map, List.length_range]
/-- a field of a class, as a link of its own class's names it -/
def FDo (ci k index : Nat) : Prop := (k < (clE ci).2.2 ∧ ci < 13) ∧ Cond.fieldLink (clE ci).1 index (clE ci).1 ((clE ci).2.1 k).2.1 ((clE ci).2.1 k).2.2.1 ∈ G ∧ ((clE ci).2.1 k).1 = (clE ci).1
def AN (q sz : Nat) : Nat → Prop := fun x => x = q ∨ sz ≤ x
section NXA
variable {p : Program} {l : Launch} {e : Env} {R : Room} {s : State} {m : MethodId} {args : Array Value} {below : List Frame} {meth : Method} {c : Code} {Q : State → Prop}
variable {D : va_G} {cI cJ cZ : ClassId} {own : String} {cc : ByteArray} {nL : Nat} {A : Nat → Prop} {H0 H : Heap} {locs : List Loc} {ls : Array Slot} {cells slots pc n : Nat} {ws : va_W} {rest : List Value}
theorem nx_put {ci k index a : Nat} {fs : List Value} {v : Value} (C : GN D cI cJ cZ (clE ci).1 cc nL p s m args c) (hin2 : meth.name = "<init>" ∨ ((clE ci).2.1 k).2.2.2 = false) (K : NH D A H0 H locs ((a, .inr (ci, fs)) :: ws) n) (hF : FDo ci k index) (hn : narrow ((tyCl.getD ci (fun _ => .int)) k) v = v) (hfit : fits ((tyCl.getD ci (fun _ => .int)) k) v = true) (hl : k < fs.length) (hdg : decode cc pc = .ok (.putfield index, 3))
    (kk : ∀ (H1 : Heap) (locs1 : List Loc), NH D A H0 H1 locs1 ((a, .inr (ci, fs.set k v)) :: ws) n → W p l e R s m args below meth c H1 locs1 cells slots Q (F0 m (pc + 3) ls rest)) : W p l e R s m args below meth c H locs cells slots Q (F0 m pc ls (v :: .ref a :: rest)) := by
  obtain ⟨hexec, hb, hml, hown, hts, hKN⟩ := C
  obtain ⟨hP, hD, hS0, hz⟩ := K
  obtain ⟨⟨hk, hci⟩, hlk, hdecl⟩ := hF
  have hK := hKN.1
  have hc : vwCl[ci]? = some ((clE ci).1, (clE ci).2.1, (clE ci).2.2) := clE_get ci hci
  have hty := tyE ci hci
  have hin := uE ci hci
  have hlink := hts _ hlk
  have he : (((a, .inr (ci, fs)) :: ws : va_W))[0]? = some (a, .inr (ci, fs)) := rfl
  have hap := va_apart (own := (clE ci).1) hts hin _ hty (nmE ci hci) hK hc
  obtain ⟨r, h1, cell, q1, q2, q3, q4⟩ := hP 0 _ he
  have hr : r = ((clE ci).1, (clE ci).2.1, (clE ci).2.2) := Option.some.inj (h1.symm.trans hc)
  subst hr
  obtain ⟨hS, hfc, kC, hkC, hkind⟩ := hK.1 ci _ hc
  obtain ⟨cf, kf, fi, f, hi, hsl⟩ := hS k hk
  have hsame : s.fieldFound? (clE ci).1 ((clE ci).2.1 k).2.1 ((clE ci).2.1 k).2.2.1 = some (cf, kf, fi, f) := by
    have h9 := hi
    rw [show (((clE ci).1, (clE ci).2.1, (clE ci).2.2) : vw_C).2.1 = (clE ci).2.1 from rfl] at h9
    rw [hdecl] at h9
    exact h9
  have hd := hty k hk
  have hlay := hts _ (hin _ (u_in_lay hk))
  unfold u_lay at hlay
  have hst := (u_facts hfc hkC (u_lays hts hin hk) hi).1
  cases hfin : ((clE ci).2.1 k).2.2.2 with
  | false =>
    rw [if_neg (by rw [hfin]; decide)] at hlay
    have h6 := u_store hfc hkC hkind hlay hi hd hn hfit
    refine W.putK hexec hb (f := f) ⟨hown, hlink, ⟨_, _, _, hsame⟩, hst⟩ (by rw [q2]; exact h6) q1 q3 (by rw [hsl]; exact k2_hasslot (q4 k hk)) rfl rfl hdg fun H' e1 e2 e3 => ?_
    rw [hsl] at e1 ⊢
    exact kk H' _ ⟨hP.set hD he ⟨_, hc, t_OB.to (V := updV (vp_V fs) k v) ⟨_, e1, q2, q3, t_set q4 hap hk v⟩ (fun j _ => vp_updV_set hl v j)⟩ e3, hD.set he, hS0.put e2 e3 (hD.2 0 _ he), e2.trans hz⟩
  | true =>
    rw [if_pos hfin] at hlay
    have hcf : m.cls = cf := by
      obtain ⟨_, _, c', _, _, _, -, -, hf', -, -, -, hown2, -⟩ := Cond.laysFinal_spec hlay
      have e1 : c' = cf := by have := hi.symm.trans hf'; simp at this; exact this.1.symm
      rw [hdecl] at hown2
      rw [← e1]; exact Option.some.inj (hown.symm.trans hown2)
    have h6 := u_fits hfc hkC hkind (Or.inr hlay) hi hd hn hfit
    refine W.putFinK hexec hb hown hlink hsame hst hcf (hin2.resolve_right (fun z => by rw [hfin] at z; cases z)) (by rw [q2]; exact h6) q1 q3 (by rw [hsl]; exact k2_hasslot (q4 k hk)) rfl rfl hdg fun H' e1 e2 e3 => ?_
    rw [hsl] at e1 ⊢
    exact kk H' _ ⟨hP.set hD he ⟨_, hc, t_OB.to (V := updV (vp_V fs) k v) ⟨_, e1, q2, q3, t_set q4 hap hk v⟩ (fun j _ => vp_updV_set hl v j)⟩ e3, hD.set he, hS0.put e2 e3 (hD.2 0 _ he), e2.trans hz⟩
theorem nx_get {ci k index a : Nat} {fs : List Value} {v : Value} (C : GN D cI cJ cZ (clE ci).1 cc nL p s m args c) (K : NH D A H0 H locs ((a, .inr (ci, fs)) :: ws) n) (hF : FDo ci k index) (hv : fs[k]? = some v) (hdg : decode cc pc = .ok (.getfield index, 3))
    (kk : W p l e R s m args below meth c H locs cells slots Q (F0 m (pc + 3) ls (v :: rest))) : W p l e R s m args below meth c H locs cells slots Q (F0 m pc ls (.ref a :: rest)) :=
  va_get (own := (clE ci).1) (ref := (clE ci).1) (C := (clE ci).1) (T := (clE ci).2.1) (N := (clE ci).2.2) C.1 C.2.1 C.2.2.2.2.1 (uE ci hF.1.2) C.2.2.2.1 C.2.2.2.2.2.1 K.1 0 rfl (clE_get ci hF.1.2) k hF.1.1 (C.2.2.2.2.1 _ hF.2.1) (fun x h => by rw [hF.2.2] at h; exact h) hv hdg kk
/-- a new array -/
theorem nx_arr (C : GN D cI cJ cZ own cc nL p s m args c) (K : NH D A H0 H locs ws n) (hA : ∀ q, H0.size ≤ q → A q) {aty : ArrayType} {t0 : Nat} {cA0 : ClassId} (ht : (tyN cI cJ cZ)[t0]? = some (cA0, newarray.typeOf aty)) (harr : Cond.arrayClass (newarray.typeOf aty) ∈ G) {a0 : vp_A} {N : Nat} (ha : ∀ cA : ClassId, vp_cell cA a0 = arrV cA N (fun _ => defaultValue (newarray.typeOf aty)))
    {v : Int32} (hn : ¬ v < 0) (hN : v.toNatClampNeg = N) (hbytes : N * componentBytes (newarray.typeOf aty) ≤ 536870912) (hcells : cells + 1 ≤ R.cells) (hslots : slots + N ≤ R.slots) (hdg : decode cc pc = .ok (.newarray aty, 2))
    (kk : ∀ H1 : Heap, NH D A H0 H1 locs (ws ++ [(n, .inl (cA0, a0))]) (n + 1) → W p l e R s m args below meth c H1 locs (cells + 1) (slots + N) Q (F0 m (pc + 2) ls (.ref n :: rest))) : W p l e R s m args below meth c H locs cells slots Q (F0 m pc ls (.int v :: rest)) := by
  obtain ⟨hP, hD, hS, hz⟩ := K
  subst hz
  refine va_newaK C.1 C.2.1 (C.2.2.2.2.1 _ harr) rfl hdg rfl hn hN hbytes hcells hslots rfl fun H1 cA e1 z1 o1 hAr hNm => ?_
  have hra := (C.2.2.2.2.2.1.2 t0 _ ht).2
  have hcA : cA = cA0 := by
    have h2 : s.vm.findClass ("[" ++ (newarray.typeOf aty).toString) = some cA0 := by cases aty <;> exact hra
    exact Option.some.inj (hNm.symm.trans h2)
  subst hcA
  have hk : ∀ (k : Nat) (x : Nat × va_E), ws[k]? = some x → H1[x.1]? = H[x.1]? := fun k x hx => o1 x.1 ((hP k x hx).lt)
  refine kk H1 ⟨(hP.kept hk).app (fun k x hx => ?_), hD.push hP rfl (hA _ hS.1), ⟨Nat.le_trans hS.1 (by omega), fun x h1 h2 => (o1 x (Nat.lt_of_lt_of_le h1 hS.1)).trans (hS.2.1 x h1 h2), hS.2.2⟩, z1⟩
  have hz : k < 1 := (List.getElem?_eq_some_iff.mp hx).1
  rw [show k = 0 by omega] at hx
  cases hx
  show H1[H.size]? = some (vp_cell _ _)
  rw [ha]
  exact e1
/-- a new object -/
theorem nx_new (C : GN D cI cJ cZ own cc nL p s m args c) (K : NH D A H0 H locs ws n) (hA : ∀ q, H0.size ≤ q → A q) {cj index : Nat} (hcj : cj < 13) (hcl : Cond.classLink own index (clE cj).1 ∈ G) (hinst : Cond.instantiable (clE cj).1 (clE cj).2.2 ∈ G) (hini : Cond.initialized (clE cj).1 ∈ G) {N : Nat} (hN : (clE cj).2.2 = N) (hcells : cells + 1 ≤ R.cells) (hslots : slots + N ≤ R.slots) (hdg : decode cc pc = .ok (.new index, 3))
    (kk : ∀ H1 : Heap, NH D A H0 H1 locs (ws ++ [(n, .inr (cj, fzC cj))]) (n + 1) → W p l e R s m args below meth c H1 locs (cells + 1) (slots + N) Q (F0 m (pc + 3) ls (.ref n :: rest))) : W p l e R s m args below meth c H locs cells slots Q (F0 m pc ls rest) := by
  obtain ⟨hP, hD, hS, hz⟩ := K
  subst hz
  subst hN
  have hK := C.2.2.2.2.2.1
  have hc : vwCl[cj]? = some ((clE cj).1, (clE cj).2.1, (clE cj).2.2) := clE_get cj hcj
  have hKn := hK.1 cj _ hc
  refine W.newcK C.1 C.2.1 C.2.2.2.1 (C.2.2.2.2.1 _ hcl) (C.2.2.2.2.1 _ hinst) (C.2.2.2.2.1 _ hini) rfl hdg hcells hslots hKn.2.1 rfl fun H1 kC hkC e1 z1 o1 => ?_
  have hk : ∀ (k : Nat) (x : Nat × va_E), ws[k]? = some x → H1[x.1]? = H[x.1]? := fun k x hx => o1 x.1 ((hP k x hx).lt)
  refine kk H1 ⟨(hP.kept hk).app (fun k x hx => ?_), hD.push hP rfl (hA _ hS.1), ⟨Nat.le_trans hS.1 (by omega), fun x h1 h2 => (o1 x (Nat.lt_of_lt_of_le h1 hS.1)).trans (hS.2.1 x h1 h2), hS.2.2⟩, z1⟩
  have hz : k < 1 := (List.getElem?_eq_some_iff.mp hx).1
  rw [show k = 0 by omega] at hx
  cases hx
  exact ⟨_, hc, (u_born (tyCl.getD cj (fun _ => .int)) C.2.2.2.2.1 (uE cj hcj) hKn hkC e1 (tyE cj hcj)).to (fun j hj => fzC_at cj j hj)⟩
/-- a number pushed -/
def pshOk (cc : ByteArray) (pc : Nat) (v : Int) : Nat → Bool
  | 1 => decide (decode cc pc = .ok (.iconst v, 1))
  | 2 => decide (decode cc pc = .ok (.bipush v, 2)) && decide ((Int8.ofInt v).toInt32 = Int32.ofInt v)
  | 3 => decide (decode cc pc = .ok (.sipush v, 3)) && decide ((Int16.ofInt v).toInt32 = Int32.ofInt v)
  | _ => false
theorem nx_psh (C : GN D cI cJ cZ own cc nL p s m args c) {v : Int} (len : Nat) (h : pshOk cc pc v len = true) (kk : W p l e R s m args below meth c H locs cells slots Q (F0 m (pc + len) ls (.int (Int32.ofInt v) :: rest))) : W p l e R s m args below meth c H locs cells slots Q (F0 m pc ls rest) := by
  match len, h, kk with
  | 0, h, _ => cases h
  | 1, h, kk => exact lv_iconst C.1 C.2.1 (of_decide_eq_true h) rfl kk
  | 2, h, kk =>
    obtain ⟨h1, h2⟩ := Bool.and_eq_true_iff.mp h
    exact lv_bipush C.1 C.2.1 (of_decide_eq_true h1) (of_decide_eq_true h2) kk
  | 3, h, kk =>
    obtain ⟨h1, h2⟩ := Bool.and_eq_true_iff.mp h
    exact lv_sipush C.1 C.2.1 (of_decide_eq_true h1) (of_decide_eq_true h2) kk
  | n + 4, h, _ => cases h
/-- this.f = new T[N]; -/
def naOk (cc : ByteArray) (pc len : Nat) (N : Nat) (aty : ArrayType) (index : Nat) : Bool := decide (decode cc pc = .ok (.aload_n 0, 1)) && pshOk cc (pc + 1) (N : Int) len && decide (decode cc (pc + 1 + len) = .ok (.newarray aty, 2)) && decide (decode cc (pc + 1 + len + 2) = .ok (.putfield index, 3)) && Nat.blt N 100000
def a0Of : ArrayType → Nat → vp_A
  | .long, N => (N, .inr (.inl (fun _ => 0)))
  | _, N => (N, .inl (fun _ => 0))
def cAof (cI cJ cZ : ClassId) : ArrayType → ClassId
  | .long => cJ
  | .boolean => cZ
  | _ => cI
def atOk : ArrayType → Bool
  | .int => true
  | .long => true
  | .boolean => true
  | _ => false
theorem nx_na {ci a : Nat} {fs : List Value} (C : GN D cI cJ cZ (clE ci).1 cc nL p s m args c) (hin2 : meth.name = "<init>") (K : NH D A H0 H locs ((a, .inr (ci, fs)) :: ws) n) (hA : ∀ q, H0.size ≤ q → A q) (h0 : ls[0]? = some (.val (.ref a))) (len N k index : Nat) (aty : ArrayType) (hat : atOk aty = true) (hok : naOk cc pc len N aty index = true) (hF : FDo ci k index) (hfit : ∀ q : Nat, narrow ((tyCl.getD ci (fun _ => .int)) k) (.ref q) = .ref q ∧ fits ((tyCl.getD ci (fun _ => .int)) k) (.ref q) = true) (hl : k < fs.length) (hcs : cells + 1 ≤ R.cells ∧ slots + N ≤ R.slots)
    (kk : ∀ (H1 : Heap) (locs1 : List Loc), NH D A H0 H1 locs1 ((a, .inr (ci, fs.set k (.ref n))) :: (ws ++ [(n, .inl (cAof cI cJ cZ aty, a0Of aty N))])) (n + 1) → W p l e R s m args below meth c H1 locs1 (cells + 1) (slots + N) Q (F0 m (pc + 1 + len + 2 + 3) ls [])) : W p l e R s m args below meth c H locs cells slots Q (F0 m pc ls []) := by
  unfold naOk at hok
  simp only [Bool.and_eq_true, decide_eq_true_eq] at hok
  obtain ⟨⟨⟨⟨d0, d1⟩, d2⟩, d3⟩, d4⟩ := hok
  have d4 : N < 100000 := Nat.ble_eq.mp d4
  refine lv_aload_n C.1 C.2.1 d0 rfl h0 ?_
  refine nx_psh C len d1 ?_
  have hN : i32 (N : Int) = (N : Int) := i32_id (by omega) (by omega)
  have hNN : (Int32.ofInt (N : Int)).toNatClampNeg = N := by rw [clamp32 hN (by omega), Int.toNat_natCast]
  have hnn : ¬ Int32.ofInt (N : Int) < 0 := fun z => by
    have := (lt32 hN (show i32 0 = 0 from rfl)).mp z
    omega
  have fin : ∀ (t0 : Nat) (ht : (tyN cI cJ cZ)[t0]? = some (cAof cI cJ cZ aty, newarray.typeOf aty)) (harr : Cond.arrayClass (newarray.typeOf aty) ∈ G) (ha : ∀ cA : ClassId, vp_cell cA (a0Of aty N) = arrV cA N (fun _ => defaultValue (newarray.typeOf aty))) (hbytes : N * componentBytes (newarray.typeOf aty) ≤ 536870912), W p l e R s m args below meth c H locs cells slots Q (F0 m (pc + 1 + len) ls [.int (Int32.ofInt (N : Int)), .ref a]) := by
    intro t0 ht harr ha hbytes
    refine nx_arr C K hA ht harr ha hnn hNN hbytes hcs.1 hcs.2 d2 (fun H1 K1 => ?_)
    exact nx_put C (Or.inl hin2) K1 hF (hfit n).1 (hfit n).2 hl d3 kk
  cases aty with
  | int => exact fin 0 rfl (mG 134 (by decide +kernel) rfl) (fun _ => rfl) (by show N * 4 ≤ _; omega)
  | long => exact fin 1 rfl (mG 334 (by decide +kernel) rfl) (fun _ => rfl) (by show N * 8 ≤ _; omega)
  | boolean => exact fin 2 rfl (mG 1539 (by decide +kernel) rfl) (fun _ => rfl) (by show N * 1 ≤ _; omega)
  | _ => cases hat
/-- Object's constructor -/
theorem nx_obj {a : Nat} (C : GN D cI cJ cZ own cc nL p s m args c) (h0 : ls[0]? = some (.val (.ref a))) (hsz : ls.size = nL) {idx : Nat} (hlk : Cond.methodLink own idx objectInit ∈ G) (d0 : decode cc pc = .ok (.aload_n 0, 1)) (d1 : decode cc (pc + 1) = .ok (.invokespecial idx, 3)) (hR : 1 ≤ R.frames ∧ 12 ≤ R.locals)
    (kk : W p l e R s m args below meth c H locs cells slots Q (F0 m (pc + 4) ls [])) : W p l e R s m args below meth c H locs cells slots Q (F0 m pc ls []) := by
  refine lv_aload_n C.1 C.2.1 d0 rfl h0 ?_
  refine W.objInit C.1 C.2.1 C.2.2.2.1 (C.2.2.2.2.1 _ hlk) (C.2.2.2.2.1 _ (mG 106 (by decide +kernel) rfl)) (C.2.2.2.2.1 _ (mG 107 (by decide +kernel) rfl)) rfl (by rw [C.2.2.1]; exact hsz) rfl d1 hR.1 hR.2 ?_
  exact W.eq (g2 := F0 m (pc + 4) ls []) rfl kk
theorem nx_iast (C : GN D cI cJ cZ own cc nL p s m args c) (K : NH D A H0 H locs ws n) (q0 : Nat) {a N : Nat} {f : Nat → Int32} (ha : ws[q0]? = some (a, .inl (cI, N, .inl f))) {i x : Int32} (hin : vp_in i N) (hdg : decode cc pc = .ok (.iastore, 1))
    (kk : ∀ (H1 : Heap) (locs1 : List Loc), NH D A H0 H1 locs1 (ws.set q0 (a, .inl (cI, N, .inl (upd f i.toNatClampNeg x)))) n → W p l e R s m args below meth c H1 locs1 cells slots Q (F0 m (pc + 1) ls rest)) : W p l e R s m args below meth c H locs cells slots Q (F0 m pc ls (.int x :: .int i :: .ref a :: rest)) := by
  obtain ⟨hP, hD, hS, hz⟩ := K
  refine W.iast C.1 C.2.1 (hP q0 _ ha) ((C.2.2.2.2.2.1.2 0 (cI, .int) rfl).1 N (fun j => .int (f j))) (fun q => by cases q) (by show ¬ (i < 0 ∨ (arrV _ _ _).slots.size ≤ _); rw [arrV_size]; exact hin) rfl rfl hdg fun H1 e z oq => ?_
  refine kk H1 _ ⟨hP.set hD ha ?_ oq, hD.set ha, hS.put z oq (hD.2 q0 _ ha), z.trans hz⟩
  show H1[a]? = some (vp_cell _ _)
  rw [e]
  rw [vp_cell_i, vp_cell_i, arrV_store]
  congr 2
  funext q
  by_cases hq : q = i.toNatClampNeg
  · subst hq
    simp [upd, updV]
  · simp [upd, updV, hq]
/-- an array's numbers count within its length alone -/
theorem NH_ext {q0 a N : Nat} {f g : Nat → Int32} (K : NH D A H0 H locs ws n) (ha : ws[q0]? = some (a, .inl (cI, N, .inl f))) (hfg : ∀ j, j < N → f j = g j) : NH D A H0 H locs (ws.set q0 (a, .inl (cI, N, .inl g))) n := by
  obtain ⟨hP, hD, hS, hz⟩ := K
  refine ⟨hP.set hD ha ?_ (fun _ _ => rfl), hD.set ha, hS, hz⟩
  have h1 : H[a]? = some (vp_cell cI (N, .inl f)) := hP q0 _ ha
  show H[a]? = some (vp_cell cI (N, .inl g))
  rw [h1, vp_cell_i, vp_cell_i]
  unfold arrV
  congr 3
  funext j
  show Value.int (f j.val) = Value.int (g j.val)
  rw [hfg j.val j.isLt]
end NXA
/-! the contracts of constructors -/
def PN (D : va_G) (cI cJ cZ : ClassId) (cj q : Nat) (As : List Value) (sz : Nat) : Array Value → State → Prop := va_Pc (.ref q :: As) (fun U => U.heap.size = sz ∧ va_P D vwCl [(q, .inr (cj, fzC cj))] U.heap ∧ KN D cI cJ cZ U)
def QN (D : va_G) (cj : Nat) (fs : List Value) (wn : va_W) (q sz mc : Nat) : Array Value → State → Outcome → State → Prop := fun _ st o t =>
  (o = .returned none ∧ va_P D vwCl ((q, .inr (cj, fs)) :: wn) t.heap ∧ va_D (AN q sz) ((q, .inr (cj, fs)) :: wn) ∧ t.heap.size = sz + mc) ∧ va_F (AN q sz) st t
theorem PN_blind {D : va_G} {cI cJ cZ : ClassId} {cj q : Nat} {As : List Value} {sz : Nat} : FrameBlind (PN D cI cJ cZ cj q As sz) := fun a U g mk h => ⟨h.1, h.2.1, h.2.2.1, KN_same (U := U) (V := U.calling g mk a) rfl h.2.2.2⟩
def MN (l : Launch) (D : va_G) (cI cJ cZ : ClassId) (cj : Nat) (y : MethodName) (bytes : ByteArray) (maxL fr lo mc ms : Nat) (As : List Value) (q sz : Nat) (fs : List Value) (wn : va_W) : Prop :=
  Met l y (Cond.code y bytes maxL none :: G) { frames := fr, cells := mc, slots := ms, locals := lo } (PN D cI cJ cZ cj q As sz) (QN D cj fs wn q sz mc) mc ms (AN q sz)
theorem nx_goodIn {y : MethodName} {bytes : ByteArray} {maxL : Nat} (h1 : Cond.code y bytes maxL none ∈ G) : GoodIn G (Cond.code y bytes maxL none :: G) := fun q hq => by
  rcases List.mem_cons.mp hq with e | h
  · rw [e]; exact ⟨h1, good_of_word (G_good _ h1)⟩
  · exact ⟨h, good_of_word (G_good _ h)⟩
section NXB
variable {p : Program} {l : Launch} {e : Env} {R : Room} {s : State} {m : MethodId} {args : Array Value} {below : List Frame} {meth : Method} {c : Code} {Q : State → Prop}
variable {D : va_G} {cI cJ cZ : ClassId} {own : String} {cc : ByteArray} {nL : Nat} {A : Nat → Prop} {H0 H : Heap} {locs : List Loc} {ls : Array Slot} {cells slots pc n : Nat} {ws : va_W} {rest : List Value}
/-- behind a constructor's call -/
theorem nx_call {cj q mc ms : Nat} {fs : List Value} {wn : va_W} {st0 : List Value} {a : Array Value} (K : NH D A H0 H locs (ws ++ [(q, .inr (cj, fzC cj))]) n) (hA : ∀ q, H0.size ≤ q → A q) (hr : va_Run p l e R s m args below meth c H locs cells slots mc ms (F0 m pc ls st0) rest (QN D cj fs wn q n mc a) (AN q n))
    (kk : ∀ (H1 : Heap) (locs1 : List Loc), NH D A H0 H1 locs1 (ws ++ (q, .inr (cj, fs)) :: wn) (n + mc) → W p l e R s m args below meth c H1 locs1 (cells + mc) (slots + ms) Q (F0 m (pc + 3) ls rest)) : W p l e R s m args below meth c H locs cells slots Q (F0 m pc ls st0) := by
  intro T hT X
  obtain ⟨v, st₀, t, T', L, h0, X', hL, e1, e2, ⟨⟨ho, hP1, hD1, hz1⟩, hz, hk⟩, st⟩ := hr T hT X
  cases ho
  rw [h0] at hz hk
  obtain ⟨hP, hD, hS, hn⟩ := K
  have hq : (ws ++ [(q, (.inr (cj, fzC cj) : va_E))])[ws.length]? = some (q, .inr (cj, fzC cj)) := by rw [List.getElem?_append_right (Nat.le_refl _), Nat.sub_self]; rfl
  have hlw : ∀ (k : Nat) (x : Nat × va_E), ws[k]? = some x → k < ws.length ∧ (ws ++ [(q, (.inr (cj, fzC cj) : va_E))])[k]? = some x := fun k x hx => by
    have h1 := (List.getElem?_eq_some_iff.mp hx).1
    exact ⟨h1, by rw [List.getElem?_append_left h1]; exact hx⟩
  have hAN : ∀ x, AN q n x → A x := fun x hx => by
    rcases hx with rfl | hx
    · exact hD.2 _ _ hq
    · exact hA x (Nat.le_trans hS.1 (by omega))
  have hfar : ∀ (k : Nat) (x : Nat × va_E), ws[k]? = some x → x.1 < n ∧ x.1 ≠ q := fun k x hx => by
    obtain ⟨h1, h2⟩ := hlw k x hx
    refine ⟨by rw [← hn]; exact (hP k x h2).lt, fun z => ?_⟩
    have := hD.1 k ws.length x _ h2 hq z
    omega
  have hPw : va_P D vwCl ws H := fun k x hx => hP k x (hlw k x hx).2
  have hDw : va_D A ws := ⟨fun i j x y hx hy z => hD.1 i j x y (hlw i x hx).2 (hlw j y hy).2 z, fun k x hx => hD.2 k x (hlw k x hx).2⟩
  have hkept : va_P D vwCl ws t.heap := hPw.kept (fun k x hx => by
    obtain ⟨h1, h2⟩ := hfar k x hx
    exact hk x.1 (by rw [hn]; exact h1) (fun z => by rcases z with z | z <;> omega))
  have hS1 : va_S A H0 t.heap (locs ++ L) := ⟨Nat.le_trans hS.1 hz, fun x h1 h2 => by rw [hk x (Nat.lt_of_lt_of_le h1 hS.1) (fun z => h2 (hAN x z))]; exact hS.2.1 x h1 h2, fun x hx => by
    rcases List.mem_append.mp hx with h | h
    · exact hS.2.2 x h
    · exact hAN _ (hL x h)⟩
  have hD2 : va_D A ((q, .inr (cj, fs)) :: wn) := ⟨hD1.1, fun k x hx => hAN _ (hD1.2 k x hx)⟩
  have K1 : NH D A H0 T'.heap (locs ++ L) (ws ++ (q, .inr (cj, fs)) :: wn) (n + mc) := by
    rw [e1]
    refine ⟨hkept.app hP1, hDw.app hD2 (fun i j x y hx hy z => ?_), hS1, hz1⟩
    obtain ⟨h1, h2⟩ := hfar i x hx
    rcases hD1.2 j y hy with h3 | h3
    · exact h2 (z.trans h3)
    · omega
  obtain ⟨t2, a1, b1⟩ := kk T'.heap (locs ++ L) K1 T' rfl X'
  exact ⟨t2, st t2 a1, b1⟩
/-- the call of a constructor: of the same nest, or of any -/
theorem nx_runN {cj q index maxL fr lo mc ms : Nat} {y : MethodName} {bytes : ByteArray} {fs : List Value} {wn : va_W} {As st0 : List Value} (C : GN D cI cJ cZ own cc nL p s m args c) (K : NH D A H0 H locs (ws ++ [(q, .inr (cj, fzC cj))]) n) (hM : MN l D cI cJ cZ cj y bytes maxL fr lo mc ms As q n fs wn) (hcode : Cond.code y bytes maxL none ∈ G) (hnl : (own, index, y) ∈ nlL) (hini : Cond.initialized y.cls ∈ G) (hinst : Cond.instanceMethod y ∈ G)
    (hd : y.name = "<init>" ∧ y.cls ≠ "java/lang/invoke/MethodHandle" ∧ y.cls ≠ "java/lang/invoke/VarHandle" ∧ (parseMethodDescriptor y.desc).map (fun d => d.parameters.length) = some As.length) (hR : fr + 1 ≤ R.frames ∧ 8 + (maxL + 11) + lo ≤ R.locals) (hsz : ls.size = nL) (hst : st0 = As.reverse ++ .ref q :: rest) (hcat : (rest.map fun v => v.category).sum ≤ 8) (hdg : decode cc pc = .ok (.invokespecial index, 3)) (hcs : cells + mc ≤ R.cells ∧ slots + ms ≤ R.slots) :
    va_Run p l e R s m args below meth c H locs cells slots mc ms (F0 m pc ls st0) rest (QN D cj fs wn q n mc (Value.ref q :: As).toArray) (AN q n) := by
  have hq : (ws ++ [(q, (.inr (cj, fzC cj) : va_E))])[ws.length]? = some (q, .inr (cj, fzC cj)) := by rw [List.getElem?_append_right (Nat.le_refl _), Nat.sub_self]; rfl
  refine va_runIN (host := "FarKeys") (As := As) (b := q) ⟨C.1, C.2.1, C.2.2.1, C.2.2.2.1, C.2.2.2.2.1⟩ hM ⟨va_cnB As.length C.2.2.2.2.1 (nx_goodIn hcode) rfl rfl rfl (C.2.2.2.2.2.2 _ hnl) (C.2.2.2.2.1 _ hini) ⟨hd.2.1, hd.2.2.1, hd.2.2.2⟩ hR, hd.1, C.2.2.2.2.1 _ hinst⟩ ⟨PN_blind, fun U hU hW => ⟨rfl, by rw [hU]; exact K.2.2.2, fun k x hx => ?_, KN_warm hW C.2.2.2.2.2⟩⟩ rfl rfl hsz hst (by show 2 * 0 + _ ≤ 8; omega) hdg hcs
  have hz : k < 1 := (List.getElem?_eq_some_iff.mp hx).1
  rw [show k = 0 by omega] at hx
  cases hx
  rw [hU]
  exact K.1 _ _ hq
theorem nx_runP {cj q index maxL fr lo mc ms : Nat} {y : MethodName} {bytes : ByteArray} {fs : List Value} {wn : va_W} {As st0 : List Value} (C : GN D cI cJ cZ own cc nL p s m args c) (K : NH D A H0 H locs (ws ++ [(q, .inr (cj, fzC cj))]) n) (hM : MN l D cI cJ cZ cj y bytes maxL fr lo mc ms As q n fs wn) (hcode : Cond.code y bytes maxL none ∈ G) (hnl : Cond.methodLink own index y ∈ G) (hini : Cond.initialized y.cls ∈ G) (hinst : Cond.instanceMethod y ∈ G)
    (hd : y.name = "<init>" ∧ y.cls ≠ "java/lang/invoke/MethodHandle" ∧ y.cls ≠ "java/lang/invoke/VarHandle" ∧ (parseMethodDescriptor y.desc).map (fun d => d.parameters.length) = some As.length) (hR : fr + 1 ≤ R.frames ∧ 8 + (maxL + 11) + lo ≤ R.locals) (hsz : ls.size = nL) (hst : st0 = As.reverse ++ .ref q :: rest) (hcat : (rest.map fun v => v.category).sum ≤ 8) (hdg : decode cc pc = .ok (.invokespecial index, 3)) (hcs : cells + mc ≤ R.cells ∧ slots + ms ≤ R.slots) :
    va_Run p l e R s m args below meth c H locs cells slots mc ms (F0 m pc ls st0) rest (QN D cj fs wn q n mc (Value.ref q :: As).toArray) (AN q n) := by
  have hq : (ws ++ [(q, (.inr (cj, fzC cj) : va_E))])[ws.length]? = some (q, .inr (cj, fzC cj)) := by rw [List.getElem?_append_right (Nat.le_refl _), Nat.sub_self]; rfl
  refine va_runI (As := As) (b := q) ⟨C.1, C.2.1, C.2.2.1, C.2.2.2.1, C.2.2.2.2.1⟩ hM (cwI As.length C.2.2.2.2.1 (nx_goodIn hcode) rfl rfl rfl (C.2.2.2.2.1 _ hini) (C.2.2.2.2.1 _ hnl) (C.2.2.2.2.1 _ hinst) hd.1 ⟨hd.2.1, hd.2.2.1, hd.2.2.2⟩ hR) ⟨PN_blind, fun U hU hW => ⟨rfl, by rw [hU]; exact K.2.2.2, fun k x hx => ?_, KN_warm hW C.2.2.2.2.2⟩⟩ rfl rfl hsz hst (by show 2 * 0 + _ ≤ 8; omega) hdg hcs
  have hz : k < 1 := (List.getElem?_eq_some_iff.mp hx).1
  rw [show k = 0 by omega] at hx
  cases hx
  rw [hU]
  exact K.1 _ _ hq
/-- a constructor's end -/
theorem nx_ret {q sz mc ms cj : Nat} {fs : List Value} {wn : va_W} (C : GN D cI cJ cZ own cc nL p s m args c) (hr : meth.sig.returnType = none) (hlk : meth.locks = false) (hsz : s.heap.size = sz) (K : NH D (AN q sz) s.heap H locs ((q, .inr (cj, fs)) :: wn) (sz + mc)) (hdg : decode cc pc = .ok (.return_, 1)) :
    W p l e R s m args below meth c H locs mc ms (MQ below (QN D cj fs wn q sz mc) args s mc ms (AN q sz)) (F0 m pc ls []) :=
  W.vret C.1 C.2.1 hr (fun t ht hW => ⟨⟨rfl, by rw [ht]; exact K.1, K.2.1, by rw [ht]; exact K.2.2.2⟩, K.2.2.1.F ht⟩) K.2.2.1.2.2 hdg hlk
end NXB
/-- a constructor's body, from its entry -/
theorem nx_ofW {l : Launch} {D : va_G} {cI cJ cZ : ClassId} {cj : Nat} {y : MethodName} {bytes : ByteArray} {maxL fr lo mc ms : Nat} {As : List Value} {q sz : Nat} {fs : List Value} {wn : va_W} (hy : plainName y.cls = true) (hy1 : y.name = "<init>")
    (body : ∀ (p : Program) (e : Env) (s : State) (m : MethodId) (below : List Frame) (meth : Method) (c : Code), GN D cI cJ cZ y.cls bytes maxL p s m (Value.ref q :: As).toArray c → meth.name = "<init>" → meth.sig.returnType = none → meth.locks = false → s.heap.size = sz → NH D (AN q sz) s.heap s.heap [] [(q, .inr (cj, fzC cj))] sz → (∀ x, s.heap.size ≤ x → AN q sz x) →
      W p l e { frames := fr, cells := mc, slots := ms, locals := lo } s m (Value.ref q :: As).toArray below meth c s.heap [] 0 0 (MQ below (QN D cj fs wn q sz mc) (Value.ref q :: As).toArray s mc ms (AN q sz)) (entryFrame m (Value.ref q :: As).toArray maxL)) : MN l D cI cJ cZ cj y bytes maxL fr lo mc ms As q sz fs wn := by
  refine Met.ofW (cc := bytes) (maxL := maxL) (ret := none) hy rfl ?_
  intro p e s m args below meth c s₁ B hml hv
  obtain ⟨rfl, hsz, hP, hKN⟩ := hv
  have hts := atoms_spec (ws := Cond.code y bytes maxL none :: G) B.pre
  refine body p e s m below meth c ⟨B.exec, B.bytes, hml, findClass_of_methodNamed B.named, fun q hq => hts q (List.mem_cons_of_mem _ hq), hKN⟩ ((name_of_methodNamed B.named B.method).1.trans hy1) B.returns B.notSynchronized hsz ⟨hP, ⟨fun i j x y hx hy _ => ?_, fun k x hx => ?_⟩, va_S.rf, hsz⟩ (fun x hx => Or.inr (by omega))
  · have h1 : i < 1 := (List.getElem?_eq_some_iff.mp hx).1
    have h2 : j < 1 := (List.getElem?_eq_some_iff.mp hy).1
    omega
  · have hz : k < 1 := (List.getElem?_eq_some_iff.mp hx).1
    rw [show k = 0 by omega] at hx
    cases hx
    exact Or.inl rfl
