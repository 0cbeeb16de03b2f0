/-! the law from its entry -/
theorem dl_0 : decode code 0 = .ok (.new 8, 3) := by decide +kernel
theorem dl_3 : decode code 3 = .ok (.dup, 1) := by decide +kernel
theorem dl_4 : decode code 4 = .ok (.invokespecial 15, 3) := by decide +kernel
theorem dl_7 : decode code 7 = .ok (.astore_n 1, 1) := by decide +kernel
theorem dl_8 : decode code 8 = .ok (.new 16, 3) := by decide +kernel
theorem dl_11 : decode code 11 = .ok (.dup, 1) := by decide +kernel
theorem dl_12 : decode code 12 = .ok (.invokespecial 18, 3) := by decide +kernel
theorem dl_15 : decode code 15 = .ok (.astore_n 2, 1) := by decide +kernel
theorem dl_16 : decode code 16 = .ok (.iconst 1, 1) := by decide +kernel
theorem dl_17 : decode code 17 = .ok (.newarray .long, 2) := by decide +kernel
theorem dl_19 : decode code 19 = .ok (.astore_n 3, 1) := by decide +kernel
theorem dl_20 : decode code 20 = .ok (.iconst 0, 1) := by decide +kernel
theorem dl_21 : decode code 21 = .ok (.istore 4, 2) := by decide +kernel
theorem hd_11 : yN11.name = "<init>" ∧ yN11.cls ≠ "java/lang/invoke/MethodHandle" ∧ yN11.cls ≠ "java/lang/invoke/VarHandle" ∧ (parseMethodDescriptor yN11.desc).map (fun d => d.parameters.length) = some 0 := ⟨rfl, by decide +kernel, by decide +kernel, by decide +kernel⟩
theorem hd_12 : yN12.name = "<init>" ∧ yN12.cls ≠ "java/lang/invoke/MethodHandle" ∧ yN12.cls ≠ "java/lang/invoke/VarHandle" ∧ (parseMethodDescriptor yN12.desc).map (fun d => d.parameters.length) = some 0 := ⟨rfl, by decide +kernel, by decide +kernel, by decide +kernel⟩
set_option maxHeartbeats 4000000 in
theorem whole_start {p : Program} {e : Env} {s : State} {m : MethodId} {below : List Frame} {meth : Method} {c : Code} (l : Launch) (hflags : l.flags = flags0) {b L : Nat} {xs : Nat → Int32} (hL : L ≤ 3072) (C0 : lw_At p s m meth c b L xs) : W p l e room_1 s m #[Value.ref b] below meth c s.heap [] 0 0 (lw_Z below #[Value.ref b] s) (entryFrame m ([Value.ref b] : List Value).toArray 7) := by
  obtain ⟨hx, hb, hr, hml, hown, hts, hX, hbl, hlk, hgv⟩ := C0
  have hlt : l.stackTraces = false := by unfold Launch.stackTraces; rw [hflags]; decide
  have hG : ∀ q ∈ G, q.before #[Value.ref b] s = true := fun q hq => hts q (List.mem_filter.mp hq).1
  obtain ⟨D, hD⟩ := f_kn hG
  obtain ⟨cI, i1, i2⟩ := f_ar (hG _ (mG 134 (w := .arrayClass .int) (by decide +kernel) rfl))
  obtain ⟨cJ, j1, j2⟩ := f_ar (hG _ (mG 334 (w := .arrayClass .long) (by decide +kernel) rfl))
  obtain ⟨cZ, z1, z2⟩ := f_ar (hG _ (mG 1539 (w := .arrayClass .boolean) (by decide +kernel) rfl))
  have hK : va_K D vwCl (tyN cI cJ cZ) s := by
    refine ⟨fun c q hq => ?_, fun k q hk => ?_⟩
    · have hc : c < 13 := (List.getElem?_eq_some_iff.mp hq).1
      rw [clE_get c hc] at hq
      cases hq
      exact hD c hc
    · have hk3 : k < 3 := (List.getElem?_eq_some_iff.mp hk).1
      rcases (show k = 0 ∨ k = 1 ∨ k = 2 by omega) with rfl | rfl | rfl
      · cases hk; exact ⟨i1, i2⟩
      · cases hk; exact ⟨j1, j2⟩
      · cases hk; exact ⟨z1, z2⟩
  have hKN : KN D cI cJ cZ s := ⟨hK, f_nl hts⟩
  have hA0 : ∀ a : Nat, a < s.heap.size → ¬ A0 s a := fun a h z => absurd z (by show ¬ s.heap.size ≤ a; omega)
  obtain ⟨t0, Z0, T0⟩ := f_st0 hts hgv hA0
  obtain ⟨t1, Z1, T1⟩ := f_st1 hts hgv hA0
  obtain ⟨t2, Z2, T2⟩ := f_st2 hts hgv hA0
  obtain ⟨t3, Z3, T3⟩ := f_st3 hts hgv hA0
  obtain ⟨st, hst0, hst1, hst2, hst3⟩ : ∃ st : Nat → Nat, st 0 = t0 ∧ st 1 = t1 ∧ st 2 = t2 ∧ st 3 = t3 := ⟨fun n => match n with | 0 => t0 | 1 => t1 | 2 => t2 | _ => t3, rfl, rfl, rfl, rfl⟩
  subst hst0
  subst hst1
  subst hst2
  subst hst3
  have hin : ∀ q, inA (w0 D s.heap.size st cI cJ cZ) q → A0 s q := by
    rintro q ⟨i, hi, rfl⟩
    exact ad0_far D s.heap.size st cI cJ cZ i hi
  have hKx : Kx (w0 D s.heap.size st cI cJ cZ) s := ⟨hK, ⟨⟨Z0.narrow hin, T0.narrow hin⟩, ⟨Z1.narrow hin, T1.narrow hin⟩, ⟨Z2.narrow hin, T2.narrow hin⟩, ⟨Z3.narrow hin, T3.narrow hin⟩⟩, f_sl hts⟩
  obtain ⟨sa, hKt⟩ := f_kt hts hgv (w0 D s.heap.size st cI cJ cZ) (hD 11 (by decide)).2.1 (fun a h z => hA0 a h (hin a z))
  have C : GN D cI cJ cZ "FarKeysLaw" code 7 p s m #[Value.ref b] c := ⟨hx, hb, hml, hown, hG, hKN⟩
  have CL : LC (w0 D s.heap.size st cI cJ cZ) p s m b meth c := ⟨hx, hb, hml, hown, hG, hKx, ad0_ok D s.heap.size st cI cJ cZ, ad0_far D s.heap.size st cI cJ cZ, hbl⟩
  have hA : ∀ q, s.heap.size ≤ q → A0 s q := fun q h => h
  have K : NH D (A0 s) s.heap s.heap [] [] s.heap.size := ⟨fun k q h => by simp at h, ⟨fun i j x y hx hy _ => by simp at hx, fun k x hx => by simp at hx⟩, va_S.rf, rfl⟩
  have hl := lv_entry ([.ref b]) (n := 7) (Nat.le_of_ble_eq_true rfl)
  rw [lg_entry_eq]
  generalize (lg_sl ([.ref b]) ++ List.replicate (7 - (lg_sl ([.ref b])).length) Slot.unset).toArray = ls at hl ⊢
  have hl : lv_has ls 7 [(0, .ref b)] := hl
  refine nx_new (cj := 11) (index := 8) C K hA (by decide) (mG 100 (by decide +kernel) rfl) ct_11 cz_11 (N := 15) rfl (Nat.le_of_ble_eq_true rfl) (Nat.le_of_ble_eq_true rfl) dl_0 (fun H K => ?_)
  refine lv_dup C.1 C.2.1 dl_3 rfl ?_
  refine nx_call (ws := []) K hA (nx_runP (index := 15) (As := []) (rest := [.ref s.heap.size]) C K (c_N11 l D cI cJ cZ s.heap.size (s.heap.size + 1)) cw_11 (mG 102 (by decide +kernel) rfl) cz_11 cm_11 hd_11 ⟨Nat.le_of_ble_eq_true rfl, Nat.le_of_ble_eq_true rfl⟩ hl.1 rfl (Nat.le_of_ble_eq_true rfl) dl_4 ⟨Nat.le_of_ble_eq_true rfl, Nat.le_of_ble_eq_true rfl⟩) (fun H locs K => ?_)
  refine lv_astore_n C.1 C.2.1 dl_7 rfl hl (by decide) rfl (fun ls hl => ?_)
  refine nx_new (cj := 12) (index := 16) C K hA (by decide) (mG 1333 (by decide +kernel) rfl) ct_12 cz_12 (N := 65) rfl (Nat.le_of_ble_eq_true rfl) (Nat.le_of_ble_eq_true rfl) dl_8 (fun H K => ?_)
  refine lv_dup C.1 C.2.1 dl_11 rfl ?_
  refine nx_call K hA (nx_runP (index := 18) (As := []) (rest := [.ref (s.heap.size + 1 + 90)]) C K (c_N12 l D cI cJ cZ (s.heap.size + 1 + 90) (s.heap.size + 1 + 90 + 1)) cw_12 (mG 1335 (by decide +kernel) rfl) cz_12 cm_12 hd_12 ⟨Nat.le_of_ble_eq_true rfl, Nat.le_of_ble_eq_true rfl⟩ hl.1 rfl (Nat.le_of_ble_eq_true rfl) dl_12 ⟨Nat.le_of_ble_eq_true rfl, Nat.le_of_ble_eq_true rfl⟩) (fun H locs K => ?_)
  refine lv_astore_n C.1 C.2.1 dl_15 rfl hl (by decide) rfl (fun ls hl => ?_)
  refine lv_iconst (v := 1) C.1 C.2.1 dl_16 (by decide) ?_
  refine nx_arr (aty := .long) (t0 := 1) (cA0 := cJ) (a0 := a0Of .long 1) (N := 1) C K hA rfl (mG 334 (by decide +kernel) rfl) (fun _ => rfl) (by decide) (by decide) (by decide) (Nat.le_of_ble_eq_true rfl) (Nat.le_of_ble_eq_true rfl) dl_17 (fun H K => ?_)
  refine lv_astore_n C.1 C.2.1 dl_19 rfl hl (by decide) rfl (fun ls hl => ?_)
  refine lv_iconst (v := Int32.ofInt ((0 : Nat) : Int)) C.1 C.2.1 dl_20 rfl ?_
  refine lv_istore C.1 C.2.1 dl_21 hl (by decide) rfl (fun ls hl => ?_)
  have hl : lv_has ls 7 (lsL (w0 D s.heap.size st cI cJ cZ) b (6 * 0)) := lv_sub hl [4, 3, 2, 1, 0] rfl
  have KL : LH (w0 D s.heap.size st cI cJ cZ) s H locs S0 := ⟨Wo_0 D s.heap.size st cI cJ cZ K.1, S0_can, K.2.2.1⟩
  exact lw_loop (c0 := 132) (s0 := 20494) hlt CL hr hlk hKt hX hL ⟨Nat.le_of_ble_eq_true rfl, Nat.le_of_ble_eq_true rfl⟩ 513 0 H locs ls S0 rfl KL S0_rel hl
set_option maxHeartbeats 4000000 in
theorem lw_walk (l : Launch) (hflags : l.flags = flags0) (b : Addr) (xs : List Int32) : MetFree l x (headSpec (Jvm.Cond.code x code maxLocals ret :: tables_1) room_1) (lw_P b xs) (fun _ _ _ _ _ => True) lw_Q := by
  refine MetFree.of_bodyS (code := code) (maxLocals := maxLocals) (ret := ret) (by decide) ?_ ?_
  · intro args s m h hn
    obtain ⟨meth, c, h1, h2, h3, h4, h5, h6, -, -⟩ := Cond.code_spec hn (atoms_spec (ws := Jvm.Cond.code x code maxLocals ret :: tables_1) h _ List.mem_cons_self)
    exact ⟨meth, c, h1, h2, h3, h4, h5, h6⟩
  · intro p e s m args below meth c s₁ B hml0 hP _
    obtain ⟨rfl, hx, hbd, hgv⟩ := hP
    obtain ⟨scr, harrAt, hlist, hof, hsmall⟩ := hx
    obtain ⟨hcb, hkn, -, -⟩ := State.arrayAt?_spec harrAt
    have hown : s.vm.findClass R_law = some m.cls := findClass_of_methodNamed B.named
    have hts0 : ∀ c ∈ (Jvm.Cond.code x code maxLocals ret :: tables_1), c.before #[Value.ref b] s = true := atoms_spec (ws := Jvm.Cond.code x code maxLocals ret :: tables_1) B.pre
    have hts : ∀ w ∈ lw_tbl, w.before #[Value.ref b] s = true := k2_hts_sels lw_privs (fun w hw => hts0 w (List.mem_cons_of_mem _ hw)) lw_privs_ok
    have hml : c.maxLocals = 7 := B.maxLocals_eq (hts0 _ List.mem_cons_self)
    have X₀ : Stand p l e room_1 s m #[Value.ref b] below meth c s₁ [] 0 0 := Stand.of_body B
    have hh0 : s₁.heap = s.heap := by rw [B.state]; rfl
    have hsz : scr.slots.size = xs.length := by rw [← Array.length_toList, hlist, List.length_map]
    have hval : ∀ j : Nat, j < xs.length → scr.slots[j]? = some (.int (xs.getD j 0)) := fun j hj => by
      rw [← Array.getElem?_toList, hlist]
      simp [hj]
    have hbl : b < s.heap.size := (Array.getElem?_eq_some_iff.mp hcb).1
    have hX : va_X b xs.length (fun j => xs.getD j 0) s s.heap := ⟨scr, hcb, hof, hkn, hsz, hval⟩
    have K : W p l e room_1 s m #[Value.ref b] below meth c s₁.heap [] 0 0 (lw_Z below #[Value.ref b] s) (entryFrame m ([Value.ref b] : List Value).toArray 7) := by
      rw [hh0]
      exact whole_start l hflags hbd ⟨B.exec, B.bytes, B.returns, hml, hown, hts, hX, hbl, B.notSynchronized, hgv⟩
    obtain ⟨t, a1, o, b1, b2, b3⟩ := K s₁ rfl X₀
    exact ⟨t, o, a1, b1, b2, b3⟩
theorem lw_pre_spec {args : Array Value} {s : State} (h : (Jvm.Cond.and given_1 narrow_1).before args s = true) (hr : rest_1_c.before args s = true) : ∃ (b : Addr) (xs : List Int32), lw_P b xs args s := by
  have hs := flat_of_before _ h
  have hq := flat_of_before _ hr
  have hc : (Cond.count 1).before args s = true := hs _ (by decide +kernel)
  have harr : (Cond.arrayOf (.arg 0) .int).before args s = true := hs _ (by decide +kernel)
  have hle : (Cond.le (.length (.arg 0)) (.int 3072)).before args s = true := hs _ (by decide +kernel)
  have hlen : (Cond.isInt (.length (.arg 0))).before args s = true := hq _ (by decide +kernel)
  have hall : (Cond.all (.arg 0) (.isInt (.elem (.arg 0) (.index 0)))).before args s = true := hq _ (by decide +kernel)
  obtain ⟨b, xs, hb, hx⟩ := State.ints_of_pre rfl harr hlen hall
  have hsm : xs.length < 2 ^ 31 := hx.choose_spec.2.2.2
  have hev : (Term.length (.arg 0)).eval args s none [] s = some (.int xs.length.toInt32) := hx.length_eval hb
  have hv := Cond.le_ints hev (show (Term.int 3072).eval args s none [] s = some (.int 3072) from rfl)
  have hd : xs.length.toInt32 ≤ 3072 := by
    simpa [Cond.before, Cond.holds, hv] using hle
  have hN : xs.length ≤ 3072 := (Int32.ofNat_le_ofNat hsm (by decide)).mp (show Int32.ofNat xs.length ≤ Int32.ofNat 3072 from hd)
  exact ⟨b, xs, Cond.one_arg hc (show args[0]? = some (.ref b) from hb), hx, hN, h⟩
theorem lw_comes (l : Launch) (hflags : l.flags = flags0) : Comes l x (Jvm.Cond.code x code maxLocals ret :: tables_1) room_1 (fun tb e args s => Calls_1 tb e args s ∧ rest_1 tb e args s ∧ Pre_1 tb e args s)
    (fun _ _ args s o t => lw_Q args s o t) := by
  intro p e ha hc hk s m args below hf hfit hheap happ hpre
  obtain ⟨b, xs, hP⟩ := lw_pre_spec hpre.2.2 hpre.2.1
  obtain ⟨k, o, h1, h2, h3, hQ⟩ := lw_walk l hflags b xs p e ha hc hk s m args below hf ((Spec.applies_iff_loose hf).mp happ).1 hP trivial
  exact ⟨k, o, h1, h2, h3, hQ⟩
theorem lw_frame {s t : State} {o : Outcome} {args : Array Value} (h : Framed s o t [] 1157 28692) :
    Framed s o t (fieldLocs frame_1_writes args s ++ arrayLocs frame_1_arrays args s ++ staticLocs frame_1_statics s) 1157 28692 := h
theorem lw_limb (L : Cond) (hL : ∀ (args : Array Value) (s t : State), L.after args s (.returned (some (.int 1))) t = true) :
    ArmFor flags0 classFile x code maxLocals ret World_1 tables_1 room_1 Calls_1 rest_1 Pre_1
      (fun tb e a s o t => postC L tb e a s o t ∧ Framed s o t (fieldLocs frame_1_writes a s ++ arrayLocs frame_1_arrays a s ++ staticLocs frame_1_statics s) 1157 28692) := by
  intro l hflags _ _ p e ha hc hk s m args below hf hfit hheap happ hpre
  obtain ⟨k, o, h1, h2, h3, rfl, hF⟩ := lw_comes l hflags p e ha hc hk s m args below hf hfit hheap happ hpre
  exact ⟨k, _, h1, h2, h3, hL args s _, lw_frame hF⟩
theorem i_vc : Claimed_1_1 ∧ Claimed_1_2 := ⟨lw_limb limb_1_1 (fun args s t => by simp [limb_1_1, Cond.after, Cond.holds, Cond.value]), lw_limb limb_1_2 (fun args s t => Cond.after_iff.mpr (by
  first | (rw [show limb_1_2 = Cond.eq .result (.int 1) from rfl, Cond.eq_ints (x := 1) (y := 1) rfl rfl]; simp; done) | (simp [limb_1_2, Cond.value, Term.eval]; done)))⟩
