/-! the law: where it stands, its calls, its script -/
def A0 (s : State) : Nat → Prop := fun q => s.heap.size ≤ q
/-- what holds at every place of the law behind the makings -/
def LC (w : Wd) (p : Program) (s : State) (m : MethodId) (b : Nat) (meth : Method) (c : Code) : Prop :=
  p.tables.exec = Jvm.exec ∧ c.code = code ∧ c.maxLocals = 7 ∧ s.vm.findClass "FarKeysLaw" = some m.cls ∧ (∀ q ∈ G, q.before #[Value.ref b] s = true) ∧ Kx w s ∧ adOk w ∧ (∀ i, i < nC → s.heap.size ≤ w.2.1 i) ∧ b < s.heap.size
/-- the heap holds the state, nothing old was written -/
def LH (w : Wd) (s : State) (H : Heap) (locs : List Loc) (S : St) : Prop := Wo w S H ∧ Can S ∧ va_S (A0 s) s.heap H locs
section LWA
variable {w : Wd} {p : Program} {l : Launch} {e : Env} {s : State} {m : MethodId} {below : List Frame} {meth : Method} {c : Code} {b L : Nat} {xs : Nat → Int32} {Z : State → Prop}
variable {H : Heap} {locs : List Loc} {ls : Array Slot} {cells slots pc : Nat} {S : St}
theorem Kx_far {U : State} (hW : s.WarmedH U.vm) (hq : ∀ a : Nat, a < s.heap.size → U.heap[a]? = s.heap[a]?) (k : Kx w s) : Kx w U := by
  have ha := hW.alike
  have hq : ∀ a : Nat, a < s.heap.size → ¬ inA w a → U.heap[a]? = s.heap[a]? := fun a h _ => hq a h
  refine ⟨va_K.moved ha k.1, ?_, fun q hq => va_Nw.warmF hW (k.2.2 q hq)⟩
  exact ⟨⟨(va_Z.moved ha k.2.1.1.1).kept hq, (va_T.moved ha k.2.1.1.2).kept hq⟩, ⟨(va_Z.moved ha k.2.1.2.1.1).kept hq, (va_T.moved ha k.2.1.2.1.2).kept hq⟩, ⟨(va_Z.moved ha k.2.1.2.2.1.1).kept hq, (va_T.moved ha k.2.1.2.2.1.2).kept hq⟩, ⟨(va_Z.moved ha k.2.1.2.2.2.1).kept hq, (va_T.moved ha k.2.1.2.2.2.2).kept hq⟩⟩
theorem inA_far (C : LC w p s m b meth c) : ∀ q, inA w q → A0 s q := by
  rintro q ⟨i, hi, rfl⟩
  exact C.2.2.2.2.2.2.2.1 i hi
theorem lw_go {args : Array Value} {Q' : Option AV → St → Prop} {R : Room} {st0 rest : List Value} {a : Array Value} (hr : va_Run p l e R s m args below meth c H locs cells slots 0 0 (F0 m pc ls st0) rest (Qcf w Q' a) (inA w)) (hS : va_S (A0 s) s.heap H locs) (hA : ∀ q, inA w q → A0 s q)
    (kk : ∀ (r : Option AV) (S' : St) (H1 : Heap) (locs1 : List Loc), Q' r S' → cnO r → LH w s H1 locs1 S' → W p l e R s m args below meth c H1 locs1 cells slots Z (F0 m (pc + 3) ls ((r.map (cv w.2.1)).toList ++ rest))) : W p l e R s m args below meth c H locs cells slots Z (F0 m pc ls st0) := by
  intro T hT X
  obtain ⟨v, st₀, t, T', L, h0, X', hL, e1, e2, ⟨⟨r, S', hq, ho, hC, hcn, hW, hal⟩, hz, hk⟩, st⟩ := hr T hT X
  cases ho
  rw [h0] at hz hk
  rw [← e1] at hW
  obtain ⟨t2, a1, b1⟩ := kk r S' T'.heap (locs ++ L) hq hcn ⟨hW, hC,
    ⟨Nat.le_trans hS.1 (by rw [e1]; exact hz), fun q h1 h2 => by rw [e1, hk q (Nat.lt_of_lt_of_le h1 hS.1) (fun z => h2 (hA q z))]; exact hS.2.1 q h1 h2, fun q hq => by
      rcases List.mem_append.mp hq with h | h
      · exact hS.2.2 q h
      · exact hA _ (hL q h)⟩⟩ T' rfl X'
  exact ⟨t2, st t2 a1, b1⟩
/-- a call of a method of the class or of the reference -/
theorem lw_callV (C : LC w p s m b meth c) (K : LH w s H locs S) (hsz : ls.size = 7) (hcs : cells ≤ 1157 ∧ slots ≤ 28692) {g : Hd} (hg : hdOk g) (hrc : ¬ g.2.2.2.2.2.2.2.1 = 0) {x c0 : Nat} {as rest : List AV} {ks : List (Nat × Nat × Nat × Int)} (hsh : shp c0 = .inl (g.1, ks)) (hlk : Cond.methodLink "FarKeysLaw" x g.2.1 ∈ G) (hd : decode code pc = .ok (.invokevirtual x, 3))
    (hfr : (Nat.ble (g.2.2.2.2.2.1 + 1) 10 && Nat.ble (19 + g.2.2.2.1 + g.2.2.2.2.2.2.1) 354 && Nat.beq as.length g.2.2.2.2.2.2.2.2 && Nat.ble (cats rest) 8) = true) (has : cnS as) {Q' : Option AV → St → Prop} (hs : enL (.inr (.inr c0) :: as) g.2.2.2.1 (fun L => Smm g 0 L [] S Q'))
    (kk : ∀ (r : Option AV) (S' : St) (H1 : Heap) (locs1 : List Loc), Q' r S' → cnO r → LH w s H1 locs1 S' → W p l e room_1 s m #[Value.ref b] below meth c H1 locs1 cells slots Z (F0 m (pc + 3) ls ((r.map (cv w.2.1)).toList ++ rest.map (cv w.2.1)))) :
    W p l e room_1 s m #[Value.ref b] below meth c H locs cells slots Z (F0 m pc ls ((as.reverse ++ .inr (.inr c0) :: rest).map (cv w.2.1))) := by
  obtain ⟨oc, nm, by_, ml, rt, fr, lo, rc, np⟩ := g
  simp only [Bool.and_eq_true] at hfr
  obtain ⟨⟨⟨b1, b2⟩, b3⟩, b4⟩ := hfr
  have b1 := Nat.ble_eq.mp b1
  have b2 := Nat.ble_eq.mp b2
  have b3 := Nat.beq_eq.mp b3
  have b4 := Nat.ble_eq.mp b4
  dsimp only at hsh hlk hrc hs b1 b2 b3
  obtain ⟨hin, hse⟩ := (hg.2.2.2.2.2.resolve_left (fun z => hrc z.1)).2
  have hcas : cnS (.inr (.inr c0) :: as) := cnS_c trivial has
  have hM := met_of (g := (oc, nm, by_, ml, rt, fr, lo, rc, np)) hg C.2.2.2.2.2.2.1 K.2.1 hcas hs l
  have hcb := callB_of (R := room_1) (rm := rmO (oc, nm, by_, ml, rt, fr, lo, rc, np)) (mc := 0) (ms := 0) (s := s) (args := #[Value.ref b]) (own := "FarKeysLaw") (index := x) np C.2.2.2.2.1 (goodG _ hg) rfl rfl rfl (C.2.2.2.2.1 _ hg.2.1) (C.2.2.2.2.1 _ hlk) hg.2.2.2.2.1 ⟨b1, by show 8 + (ml + 11) + lo ≤ 354; omega⟩
  have hcell := wl_get w S (sh_obj hsh).1
  rw [cell_obj hsh] at hcell
  have hrecv := va_recv C.2.2.2.2.2.1.1 K.1 (clE_get oc (sh_obj hsh).2.1) hcell
  have hcl : (clE oc).1 = nm.cls := by
    have e1 : nm.cls = clN oc := hg.2.2.1
    rw [e1]
    have : ∀ k, k < 13 → (clE k).1 = clN k := by decide +kernel
    exact this oc (sh_obj hsh).2.1
  rw [hcl] at hrecv
  have hfar : ∀ U : State, U.heap = H → ∀ a : Nat, a < s.heap.size → U.heap[a]? = s.heap[a]? := fun U hU a ha => by
    rw [hU]
    exact K.2.2.2.1 a ha (fun z => absurd z (by show ¬ s.heap.size ≤ a; omega))
  have hr := va_runV (As := as.map (cv w.2.1)) (rest := rest.map (cv w.2.1)) (b := w.2.1 c0) (g := F0 m pc ls ((as.reverse ++ .inr (.inr c0) :: rest).map (cv w.2.1))) (p := p) (e := e) (below := below) (meth := meth) (locs := locs) (cells := cells) (slots := slots) (nL := 7) (H := H) ⟨C.1, C.2.1, C.2.2.1, C.2.2.2.1, C.2.2.2.2.1⟩ hM ⟨hcb, C.2.2.2.2.1 _ hin, C.2.2.2.2.1 _ hse⟩ ⟨PcO_blind _, hrecv, fun U hU hW => ⟨rfl, Kx_far hW (hfar U hU) C.2.2.2.2.2.1, by rw [hU]; exact K.1⟩⟩ rfl (by rw [List.length_map]; exact b3) hsz (by show List.map _ _ = _; rw [List.map_append, List.map_reverse]; rfl) (by show 2 * 0 + _ ≤ 8; rw [cats_eq]; omega) hd hcs
  exact lw_go hr K.2.2 (inA_far C) kk
/-- script[i + k] -/
def agOk (pc k : Nat) : Bool := decide (decode code pc = .ok (.aload_n 0, 1)) && decide (decode code (pc + 1) = .ok (.iload 4, 2)) && decide (decode code (pc + 3) = .ok (.iconst (k : Int), 1)) && decide (decode code (pc + 4) = .ok (.iadd, 1)) && decide (decode code (pc + 5) = .ok (.iaload, 1))
def agsOk : Nat → Nat → Nat → Bool
  | _, _, 0 => true
  | pc, k, n + 1 => agOk pc k && agsOk (pc + 6) (k + 1) n
def vsL (xs : Nat → Int32) (i : Nat) : Nat → Nat → List AV
  | _, 0 => []
  | k, n + 1 => .inl (xs (i + k)).toInt :: vsL xs i (k + 1) n
def lsL (w : Wd) (b i : Nat) : List (Nat × Value) := [(0, .ref b), (1, .ref (w.2.1 40)), (2, .ref (w.2.1 0)), (3, .ref (w.2.1 131)), (4, .int (Int32.ofInt (i : Int)))]
theorem lw_arg (C : LC w p s m b meth c) (hX : va_X b L xs s s.heap) (hS : va_S (A0 s) s.heap H locs) {i k : Nat} (hL : L ≤ 3072) (hi : i + 6 ≤ L) (hk : k < 6) (hl : lv_has ls 7 (lsL w b i)) {st : List Value} (hok : agOk pc k = true)
    (kk : W p l e room_1 s m #[Value.ref b] below meth c H locs cells slots Z (F0 m (pc + 6) ls (.int (xs (i + k)) :: st))) : W p l e room_1 s m #[Value.ref b] below meth c H locs cells slots Z (F0 m pc ls st) := by
  unfold agOk at hok
  simp only [Bool.and_eq_true, decide_eq_true_eq] at hok
  obtain ⟨⟨⟨⟨d0, d1⟩, d2⟩, d3⟩, d4⟩ := hok
  refine lv_aload_n C.1 C.2.1 d0 rfl (lv_at hl 0 rfl) ?_
  refine lv_iload C.1 C.2.1 d1 (lv_at hl 4 rfl) ?_
  refine lv_iconst (v := Int32.ofInt (k : Int)) C.1 C.2.1 d2 rfl ?_
  refine lv_iadd C.1 C.2.1 d3 ?_
  have e0 : Int32.ofInt (i : Int) + Int32.ofInt (k : Int) = Int32.ofInt ((i + k : Nat) : Int) := by rw [← Int32.ofInt_add]; rfl
  rw [e0]
  have h1 : i32 ((i + k : Nat) : Int) = ((i + k : Nat) : Int) := i32_id (by omega) (by omega)
  refine va_sld (A := A0 s) C.1 C.2.1 hX C.2.2.2.2.2.2.2.2 (fun z => absurd C.2.2.2.2.2.2.2.2 (Nat.not_lt.mpr z)) hS (vpin h1 ⟨by omega, by omega⟩) d4 ?_
  rw [clamp32 h1 (by omega), Int.toNat_natCast]
  exact kk
theorem vsL_len (xs : Nat → Int32) (i : Nat) : ∀ (n k : Nat), (vsL xs i k n).length = n
  | 0, _ => rfl
  | n + 1, k => congrArg (· + 1) (vsL_len xs i n (k + 1))
theorem vsL_cn (xs : Nat → Int32) (i : Nat) : ∀ (n k : Nat), cnS (vsL xs i k n)
  | 0, _ => fun _ z => absurd z List.not_mem_nil
  | n + 1, k => cnS_c (can_toInt32 _) (vsL_cn xs i n (k + 1))
theorem lw_args (C : LC w p s m b meth c) (hX : va_X b L xs s s.heap) (hS : va_S (A0 s) s.heap H locs) {i : Nat} (hL : L ≤ 3072) (hi : i + 6 ≤ L) (hl : lv_has ls 7 (lsL w b i)) (n : Nat) : ∀ (k pc : Nat) (st : List Value), k + n ≤ 6 → agsOk pc k n = true →
    W p l e room_1 s m #[Value.ref b] below meth c H locs cells slots Z (F0 m (pc + 6 * n) ls (((vsL xs i k n).map (cv w.2.1)).reverse ++ st)) → W p l e room_1 s m #[Value.ref b] below meth c H locs cells slots Z (F0 m pc ls st) := by
  induction n with
  | zero =>
    intro k pc st _ _ kk
    exact kk
  | succ n ih =>
    intro k pc st hkn hok kk
    obtain ⟨h1, h2⟩ := Bool.and_eq_true_iff.mp hok
    refine lw_arg C hX hS hL hi (by omega) hl h1 (ih (k + 1) (pc + 6) _ (by omega) h2 ?_)
    have e1 : ((vsL xs i k (n + 1)).map (cv w.2.1)).reverse ++ st = ((vsL xs i (k + 1) n).map (cv w.2.1)).reverse ++ (.int (xs (i + k)) :: st) := by
      show (List.map (cv w.2.1) (.inl (xs (i + k)).toInt :: vsL xs i (k + 1) n)).reverse ++ st = _
      rw [List.map_cons, List.reverse_cons, List.append_assoc]
      show _ ++ ([Value.int (Int32.ofInt (xs (i + k)).toInt)] ++ st) = _
      rw [Int32.ofInt_toInt]
      rfl
    rw [e1] at kk
    rw [show pc + 6 * (n + 1) = pc + 6 + 6 * n by omega] at kk
    exact kk
/-- if (x.f(..) != m.f(..)) return false; -/
def csOk (pc n ix im : Nat) : Bool := decide (decode code pc = .ok (.aload_n 1, 1)) && agsOk (pc + 1) 1 n && decide (decode code (pc + 1 + 6 * n) = .ok (.invokevirtual ix, 3)) && decide (decode code (pc + 4 + 6 * n) = .ok (.aload_n 2, 1)) && agsOk (pc + 5 + 6 * n) 1 n && decide (decode code (pc + 5 + 12 * n) = .ok (.invokevirtual im, 3)) && decide (decode code (pc + 8 + 12 * n) = .ok (.if_icmp .eq (1570 - ((pc + 8 + 12 * n : Nat) : Int)), 3)) && Nat.ble n 5
def rmOk (g : Hd) (n : Nat) : Bool := Nat.ble (g.2.2.2.2.2.1 + 1) 10 && Nat.ble (19 + g.2.2.2.1 + g.2.2.2.2.2.2.1) 354 && Nat.beq n g.2.2.2.2.2.2.2.2 && !(Nat.beq g.2.2.2.2.2.2.2.1 0)
theorem lw_case (C : LC w p s m b meth c) (hX : va_X b L xs s s.heap) {i : Nat} (hL : L ≤ 3072) (hi : i + 6 ≤ L) (hcs : cells ≤ 1157 ∧ slots ≤ 28692) {n ix im : Nat} {gx gm : Hd} (hgx : hdOk gx) (hgm : hdOk gm) (hlx : Cond.methodLink "FarKeysLaw" ix gx.2.1 ∈ G) (hlm : Cond.methodLink "FarKeysLaw" im gm.2.1 ∈ G) (hx1 : gx.1 = 11) (hm1 : gm.1 = 12)
    (hrx : rmOk gx n = true) (hrm : rmOk gm n = true) (hok : csOk pc n ix im = true) {Inv : St → Prop} (hsem : enL (.inr (.inr 40) :: vsL xs i 1 n) gx.2.2.2.1 (fun L => Smm gx 0 L [] S (fun r S1 => ∃ v, r = some (.inl v) ∧ enL (.inr (.inr 0) :: vsL xs i 1 n) gm.2.2.2.1 (fun L => Smm gm 0 L [] S1 (fun r2 S2 => r2 = some (.inl v) ∧ Inv S2)))))
    (kk : ∀ (S' : St) (H1 : Heap) (locs1 : List Loc), Inv S' → LH w s H1 locs1 S' → W p l e room_1 s m #[Value.ref b] below meth c H1 locs1 cells slots Z (F0 m 1570 ls [])) (K : LH w s H locs S) (hl : lv_has ls 7 (lsL w b i)) : W p l e room_1 s m #[Value.ref b] below meth c H locs cells slots Z (F0 m pc ls []) := by
  unfold csOk at hok
  simp only [Bool.and_eq_true, decide_eq_true_eq] at hok
  obtain ⟨⟨⟨⟨⟨⟨⟨d0, d1⟩, d2⟩, d3⟩, d4⟩, d5⟩, d6⟩, d7⟩ := hok
  have d7 := Nat.ble_eq.mp d7
  have hlen : (vsL xs i 1 n).length = n := vsL_len xs i n 1
  unfold rmOk at hrx hrm
  simp only [Bool.and_eq_true] at hrx hrm
  refine lv_aload_n C.1 C.2.1 d0 rfl (lv_at hl 1 rfl) ?_
  refine lw_args C hX K.2.2 hL hi hl n 1 (pc + 1) _ (by omega) d1 ?_
  have e1 : ((vsL xs i 1 n).map (cv w.2.1)).reverse ++ [Value.ref (w.2.1 40)] = ((vsL xs i 1 n).reverse ++ (.inr (.inr 40) : AV) :: []).map (cv w.2.1) := by rw [List.map_append, List.map_reverse]; rfl
  rw [e1]
  refine lw_callV (ks := _) (as := vsL xs i 1 n) (rest := []) (c0 := 40) C K hl.1 hcs hgx (fun z => by rw [z] at hrx; simp at hrx) (show shp 40 = .inl (gx.1, _) by rw [hx1]; rfl) hlx d2 (by rw [hlen]; simp only [Bool.and_eq_true]; exact ⟨hrx.1, rfl⟩) (vsL_cn xs i n 1) hsem ?_
  rintro r S1 H1 locs1 ⟨v, rfl, hs2⟩ hcn K1
  rw [show pc + 1 + 6 * n + 3 = pc + 4 + 6 * n by omega]
  refine lv_aload_n C.1 C.2.1 d3 rfl (lv_at hl 2 rfl) ?_
  rw [show pc + 4 + 6 * n + 1 = pc + 5 + 6 * n by omega]
  refine lw_args C hX K1.2.2 hL hi hl n 1 (pc + 5 + 6 * n) _ (by omega) d4 ?_
  rw [show pc + 5 + 6 * n + 6 * n = pc + 5 + 12 * n by omega]
  have e2 : ((vsL xs i 1 n).map (cv w.2.1)).reverse ++ (Value.ref (w.2.1 0) :: (((some (.inl v) : Option AV).map (cv w.2.1)).toList ++ ([] : List AV).map (cv w.2.1))) = ((vsL xs i 1 n).reverse ++ (.inr (.inr 0) : AV) :: [(.inl v : AV)]).map (cv w.2.1) := by rw [List.map_append, List.map_reverse]; rfl
  rw [e2]
  refine lw_callV (ks := _) (as := vsL xs i 1 n) (rest := [(.inl v : AV)]) (c0 := 0) C K1 hl.1 hcs hgm (fun z => by rw [z] at hrm; simp at hrm) (show shp 0 = .inl (gm.1, _) by rw [hm1]; rfl) hlm d5 (by rw [hlen]; simp only [Bool.and_eq_true]; exact ⟨hrm.1, rfl⟩) (vsL_cn xs i n 1) hs2 ?_
  rintro r S2 H2 locs2 ⟨rfl, hI⟩ hcn2 K2
  rw [show pc + 5 + 12 * n + 3 = pc + 8 + 12 * n by omega]
  refine lv_icmp_eq (tgt := 1570) C.1 C.2.1 d6 (by omega) (fun _ => ?_) (fun z => absurd rfl z)
  exact kk S2 H2 locs2 hI K2
end LWA
