/-! THE CLAIM OUT OF ONE WALK OF THE LAW'S BODY. Your part is whole_start (and what it stands on); all else here is the same for every law, but numbers. -/
def R_law : String := "FarKeysLaw"
def lw_P (b : Addr) (xs : List Int32) (args : Array Value) (s : State) : Prop := args = #[.ref b] ∧ s.IntsAt b xs ∧ xs.length ≤ 3072 ∧ (Jvm.Cond.and given_1 narrow_1).before args s = true
def lw_Q (_ : Array Value) (s : State) (o : Outcome) (t : State) : Prop := o = .returned (some (.int 1)) ∧ Framed s o t [] 1157 28692
def lw_Z (below : List Frame) (a : Array Value) (s : State) : State → Prop := fun t => ∃ o, t.status = .running ∧ Ended t below o ∧ lw_Q a s o t
/-- the law's own end, with 1 on the stack, nothing written that was there before, its room as the claim has it -/
theorem lw_ret {p : Program} {l : Launch} {e : Env} {s : State} {m : MethodId} {below : List Frame} {meth : Method} {c : Code} {b : Nat} (hx : p.tables.exec = Jvm.exec) (hb : c.code = code) (hr : meth.sig.returnType = ret) (hlocks : meth.locks = false) {pc : Nat} {H : Heap} {ls : Array Slot} (hdg : decode code pc = .ok (.ireturn, 1)) : W p l e room_1 s m #[Value.ref b] below meth c H [] 1157 28692 (lw_Z below #[Value.ref b] s) (F0 m pc ls [.int 1]) := by
  intro T hT X
  obtain ⟨fs, hret, hrun, hended, hW, hframe⟩ := X.leave (v := some (.int 1)) (hlocks := hlocks) (fun h => by rw [hr] at h; cases h)
  have hmeth' : T.vm.method? m = some meth := X.method'
  refine ⟨T.setFrames fs, ?_, .returned (some (.int 1)), hrun, hended, rfl, ⟨_, rfl⟩, hW, hframe⟩
  jvm_step X.here [X.here.top, hx, hb, hdg, hmeth', hr, ret, narrow_b1]
  (try refine ⟨rfl, ?_⟩); (try refine ⟨rfl, ?_⟩)
  first | (intro acts; rw [hret _ acts rfl rfl rfl]) | rw [hret _ _ rfl rfl rfl]
  exact Steps.refl _
/-- what holds at the law's entry: the machine, the code, the tables' words (any of lw_tbl by 'hts w (by decide +kernel)'), the script of L ints xs at the cell b, what the Statement gives of the start (any of its parts by flat_of_before) -/
def lw_At (p : Program) (s : State) (m : MethodId) (meth : Method) (c : Code) (b L : Nat) (xs : Nat → Int32) : Prop :=
  p.tables.exec = Jvm.exec ∧ c.code = code ∧ meth.sig.returnType = ret ∧ c.maxLocals = 7 ∧ s.vm.findClass R_law = some m.cls ∧ (∀ w ∈ lw_tbl, w.before #[Value.ref b] s = true) ∧ va_X b L xs s s.heap ∧ b < s.heap.size ∧ meth.locks = false ∧ (Jvm.Cond.and given_1 narrow_1).before #[Value.ref b] s = true
/-! the law's loop -/
theorem dl_23 : decode code 23 = .ok (.iload 4, 2) := by decide +kernel
theorem dl_25 : decode code 25 = .ok (.aload_n 0, 1) := by decide +kernel
theorem dl_26 : decode code 26 = .ok (.arraylength, 1) := by decide +kernel
theorem dl_27 : decode code 27 = .ok (.bipush 6, 2) := by decide +kernel
theorem dl_29 : decode code 29 = .ok (.isub, 1) := by decide +kernel
theorem dl_30 : decode code 30 = .ok (.if_icmp .gt 1546, 3) := by decide +kernel
theorem dl_33 : decode code 33 = .ok (.aload_n 0, 1) := by decide +kernel
theorem dl_34 : decode code 34 = .ok (.iload 4, 2) := by decide +kernel
theorem dl_36 : decode code 36 = .ok (.iaload, 1) := by decide +kernel
theorem dl_37 : decode code 37 = .ok (.bipush 63, 2) := by decide +kernel
theorem dl_39 : decode code 39 = .ok (.iand, 1) := by decide +kernel
theorem dl_1570 : decode code 1570 = .ok (.iinc 4 6, 3) := by decide +kernel
theorem dl_1573 : decode code 1573 = .ok (.goto (-1550), 3) := by decide +kernel
theorem dl_1576 : decode code 1576 = .ok (.iconst 1, 1) := by decide +kernel
theorem dl_1577 : decode code 1577 = .ok (.ireturn, 1) := by decide +kernel
def lwO : Array Int := #[188, 261, 286, 311, 336, 404, 441, 478, 515, 540, 565, 602, 627, 664, 689, 702, 739, 788, 825, 838, 875, 912, 937, 986, 1023, 1072, 1097, 1110, 1135, 1160, 1209, 1234, 1259, 1296, 1309, 1334, 1391, 1404, 1441, 1466, 1479, 1492, 1505]
theorem dl_40 : decode code 40 = .ok (.tableswitch 1530 0 42 lwO, 188) := by decide +kernel
theorem lw_cmp {L i : Nat} (hL : L ≤ 3072) (hi : i ≤ 3078) : (Int32.ofNat L - 6 < Int32.ofInt (i : Int) → (L : Int) - 6 < i) ∧ ((L : Int) - 6 < i → Int32.ofNat L - 6 < Int32.ofInt (i : Int)) := by
  have e1 : Int32.ofNat L - 6 = Int32.ofInt ((L : Int) - 6) := by
    rw [Int32.ofInt_sub]
    rfl
  rw [e1]
  have h1 : i32 ((L : Int) - 6) = (L : Int) - 6 := i32_id (by omega) (by omega)
  have h2 : i32 (i : Int) = (i : Int) := i32_id (by omega) (by omega)
  exact ⟨(lt32 h1 h2).mp, (lt32 h1 h2).mpr⟩
section LWL
variable {w : Wd} {p : Program} {l : Launch} {e : Env} {s : State} {m : MethodId} {below : List Frame} {meth : Method} {c : Code} {b L : Nat} {xs : Nat → Int32}
/-- one call of the script -/
theorem lw_body {Z : State → Prop} {H : Heap} {locs : List Loc} {ls : Array Slot} {cells slots i : Nat} {S : St} {sa : Nat} (hlt : l.stackTraces = false) (C : LC w p s m b meth c) (hKt : Kt w sa s) (hX : va_X b L xs s s.heap) (hL : L ≤ 3072) (hi : i + 6 ≤ L) (hcs : cells + 1 ≤ 1157 ∧ slots + 6 ≤ 28692)
    (kk : ∀ (ls1 : Array Slot) (S' : St) (H1 : Heap) (locs1 : List Loc), lv_has ls1 7 (lsL w b i) → Rel S' S' → LH w s H1 locs1 S' → W p l e room_1 s m #[Value.ref b] below meth c H1 locs1 (cells + 1) (slots + 6) Z (F0 m 1570 ls1 [])) (K : LH w s H locs S) (hR : Rel S S) (hl : lv_has ls 7 (lsL w b i)) : W p l e room_1 s m #[Value.ref b] below meth c H locs cells slots Z (F0 m 33 ls []) := by
  refine lv_aload_n C.1 C.2.1 dl_33 rfl (lv_at hl 0 rfl) ?_
  refine lv_iload C.1 C.2.1 dl_34 (lv_at hl 4 rfl) ?_
  have h1 : i32 ((i : Nat) : Int) = (i : Int) := i32_id (by omega) (by omega)
  refine va_sld (A := A0 s) C.1 C.2.1 hX C.2.2.2.2.2.2.2.2 (fun z => absurd C.2.2.2.2.2.2.2.2 (Nat.not_lt.mpr z)) K.2.2 (vpin h1 ⟨by omega, by omega⟩) dl_36 ?_
  rw [clamp32 h1 (by omega), Int.toNat_natCast]
  refine lv_bipush (v := 63) C.1 C.2.1 dl_37 (by decide) ?_
  refine lv_iand C.1 C.2.1 dl_39 ?_
  generalize xs i &&& 63 = x
  have hcs2 : cells ≤ 1157 ∧ slots ≤ 28692 := ⟨by omega, by omega⟩
  have k2 : ∀ (S' : St) (H1 : Heap) (locs1 : List Loc), Rel S' S' → LH w s H1 locs1 S' → W p l e room_1 s m #[Value.ref b] below meth c H1 locs1 cells slots Z (F0 m 1570 ls []) := fun S' H1 locs1 r K1 => W.widen (k := cells + 1) (n := slots + 6) (by omega) (by omega) (kk ls S' H1 locs1 hl r K1)
  by_cases ho : x.toInt < 0 ∨ 42 < x.toInt
  · exact lv_tableOut (tgt := 1570) C.1 C.2.1 dl_40 ho rfl (k2 S H locs hR K)
  have hn1 : ¬ x.toInt < 0 := fun z => ho (Or.inl z)
  have hn2 : ¬ 42 < x.toInt := fun z => ho (Or.inr z)
  have hx : x.toInt = 0 ∨ x.toInt = 1 ∨ x.toInt = 2 ∨ x.toInt = 3 ∨ x.toInt = 4 ∨ x.toInt = 5 ∨ x.toInt = 6 ∨ x.toInt = 7 ∨ x.toInt = 8 ∨ x.toInt = 9 ∨ x.toInt = 10 ∨ x.toInt = 11 ∨ x.toInt = 12 ∨ x.toInt = 13 ∨ x.toInt = 14 ∨ x.toInt = 15 ∨ x.toInt = 16 ∨ x.toInt = 17 ∨ x.toInt = 18 ∨ x.toInt = 19 ∨ x.toInt = 20 ∨ x.toInt = 21 ∨ x.toInt = 22 ∨ x.toInt = 23 ∨ x.toInt = 24 ∨ x.toInt = 25 ∨ x.toInt = 26 ∨ x.toInt = 27 ∨ x.toInt = 28 ∨ x.toInt = 29 ∨ x.toInt = 30 ∨ x.toInt = 31 ∨ x.toInt = 32 ∨ x.toInt = 33 ∨ x.toInt = 34 ∨ x.toInt = 35 ∨ x.toInt = 36 ∨ x.toInt = 37 ∨ x.toInt = 38 ∨ x.toInt = 39 ∨ x.toInt = 40 ∨ x.toInt = 41 ∨ x.toInt = 42 := by omega
  rcases hx with hx | hx | hx | hx | hx | hx | hx | hx | hx | hx | hx | hx | hx | hx | hx | hx | hx | hx | hx | hx | hx | hx | hx | hx | hx | hx | hx | hx | hx | hx | hx | hx | hx | hx | hx | hx | hx | hx | hx | hx | hx | hx | hx
  · exact lv_tableIn (off := 188) (tgt := 228) C.1 C.2.1 dl_40 hn1 hn2 (by rw [hx]; rfl) rfl (lb_0 C hX hL hi hcs2 k2 K hR hl)
  · exact lv_tableIn (off := 261) (tgt := 301) C.1 C.2.1 dl_40 hn1 hn2 (by rw [hx]; rfl) rfl (lb_1 C hX hL hi hcs2 k2 K hR hl)
  · exact lv_tableIn (off := 286) (tgt := 326) C.1 C.2.1 dl_40 hn1 hn2 (by rw [hx]; rfl) rfl (lb_2 C hX hL hi hcs2 k2 K hR hl)
  · exact lv_tableIn (off := 311) (tgt := 351) C.1 C.2.1 dl_40 hn1 hn2 (by rw [hx]; rfl) rfl (lb_3 C hX hL hi hcs2 k2 K hR hl)
  · exact lv_tableIn (off := 336) (tgt := 376) C.1 C.2.1 dl_40 hn1 hn2 (by rw [hx]; rfl) rfl (lb_4 hlt C hKt hX hL hi hcs kk K hR hl)
  · exact lv_tableIn (off := 404) (tgt := 444) C.1 C.2.1 dl_40 hn1 hn2 (by rw [hx]; rfl) rfl (lb_5 C hX hL hi hcs2 k2 K hR hl)
  · exact lv_tableIn (off := 441) (tgt := 481) C.1 C.2.1 dl_40 hn1 hn2 (by rw [hx]; rfl) rfl (lb_6 C hX hL hi hcs2 k2 K hR hl)
  · exact lv_tableIn (off := 478) (tgt := 518) C.1 C.2.1 dl_40 hn1 hn2 (by rw [hx]; rfl) rfl (lb_7 C hX hL hi hcs2 k2 K hR hl)
  · exact lv_tableIn (off := 515) (tgt := 555) C.1 C.2.1 dl_40 hn1 hn2 (by rw [hx]; rfl) rfl (lb_8 C hX hL hi hcs2 k2 K hR hl)
  · exact lv_tableIn (off := 540) (tgt := 580) C.1 C.2.1 dl_40 hn1 hn2 (by rw [hx]; rfl) rfl (lb_9 C hX hL hi hcs2 k2 K hR hl)
  · exact lv_tableIn (off := 565) (tgt := 605) C.1 C.2.1 dl_40 hn1 hn2 (by rw [hx]; rfl) rfl (lb_10 C hX hL hi hcs2 k2 K hR hl)
  · exact lv_tableIn (off := 602) (tgt := 642) C.1 C.2.1 dl_40 hn1 hn2 (by rw [hx]; rfl) rfl (lb_11 C hX hL hi hcs2 k2 K hR hl)
  · exact lv_tableIn (off := 627) (tgt := 667) C.1 C.2.1 dl_40 hn1 hn2 (by rw [hx]; rfl) rfl (lb_12 C hX hL hi hcs2 k2 K hR hl)
  · exact lv_tableIn (off := 664) (tgt := 704) C.1 C.2.1 dl_40 hn1 hn2 (by rw [hx]; rfl) rfl (lb_13 C hX hL hi hcs2 k2 K hR hl)
  · exact lv_tableIn (off := 689) (tgt := 729) C.1 C.2.1 dl_40 hn1 hn2 (by rw [hx]; rfl) rfl (lb_14 C hX hL hi hcs2 k2 K hR hl)
  · exact lv_tableIn (off := 702) (tgt := 742) C.1 C.2.1 dl_40 hn1 hn2 (by rw [hx]; rfl) rfl (lb_15 C hX hL hi hcs2 k2 K hR hl)
  · exact lv_tableIn (off := 739) (tgt := 779) C.1 C.2.1 dl_40 hn1 hn2 (by rw [hx]; rfl) rfl (lb_16 C hX hL hi hcs2 k2 K hR hl)
  · exact lv_tableIn (off := 788) (tgt := 828) C.1 C.2.1 dl_40 hn1 hn2 (by rw [hx]; rfl) rfl (lb_17 C hX hL hi hcs2 k2 K hR hl)
  · exact lv_tableIn (off := 825) (tgt := 865) C.1 C.2.1 dl_40 hn1 hn2 (by rw [hx]; rfl) rfl (lb_18 C hX hL hi hcs2 k2 K hR hl)
  · exact lv_tableIn (off := 838) (tgt := 878) C.1 C.2.1 dl_40 hn1 hn2 (by rw [hx]; rfl) rfl (lb_19 C hX hL hi hcs2 k2 K hR hl)
  · exact lv_tableIn (off := 875) (tgt := 915) C.1 C.2.1 dl_40 hn1 hn2 (by rw [hx]; rfl) rfl (lb_20 C hX hL hi hcs2 k2 K hR hl)
  · exact lv_tableIn (off := 912) (tgt := 952) C.1 C.2.1 dl_40 hn1 hn2 (by rw [hx]; rfl) rfl (lb_21 C hX hL hi hcs2 k2 K hR hl)
  · exact lv_tableIn (off := 937) (tgt := 977) C.1 C.2.1 dl_40 hn1 hn2 (by rw [hx]; rfl) rfl (lb_22 C hX hL hi hcs2 k2 K hR hl)
  · exact lv_tableIn (off := 986) (tgt := 1026) C.1 C.2.1 dl_40 hn1 hn2 (by rw [hx]; rfl) rfl (lb_23 C hX hL hi hcs2 k2 K hR hl)
  · exact lv_tableIn (off := 1023) (tgt := 1063) C.1 C.2.1 dl_40 hn1 hn2 (by rw [hx]; rfl) rfl (lb_24 C hX hL hi hcs2 k2 K hR hl)
  · exact lv_tableIn (off := 1072) (tgt := 1112) C.1 C.2.1 dl_40 hn1 hn2 (by rw [hx]; rfl) rfl (lb_25 C hX hL hi hcs2 k2 K hR hl)
  · exact lv_tableIn (off := 1097) (tgt := 1137) C.1 C.2.1 dl_40 hn1 hn2 (by rw [hx]; rfl) rfl (lb_26 C hX hL hi hcs2 k2 K hR hl)
  · exact lv_tableIn (off := 1110) (tgt := 1150) C.1 C.2.1 dl_40 hn1 hn2 (by rw [hx]; rfl) rfl (lb_27 C hX hL hi hcs2 k2 K hR hl)
  · exact lv_tableIn (off := 1135) (tgt := 1175) C.1 C.2.1 dl_40 hn1 hn2 (by rw [hx]; rfl) rfl (lb_28 C hX hL hi hcs2 k2 K hR hl)
  · exact lv_tableIn (off := 1160) (tgt := 1200) C.1 C.2.1 dl_40 hn1 hn2 (by rw [hx]; rfl) rfl (lb_29 C hX hL hi hcs2 k2 K hR hl)
  · exact lv_tableIn (off := 1209) (tgt := 1249) C.1 C.2.1 dl_40 hn1 hn2 (by rw [hx]; rfl) rfl (lb_30 C hX hL hi hcs2 k2 K hR hl)
  · exact lv_tableIn (off := 1234) (tgt := 1274) C.1 C.2.1 dl_40 hn1 hn2 (by rw [hx]; rfl) rfl (lb_31 C hX hL hi hcs2 k2 K hR hl)
  · exact lv_tableIn (off := 1259) (tgt := 1299) C.1 C.2.1 dl_40 hn1 hn2 (by rw [hx]; rfl) rfl (lb_32 C hX hL hi hcs2 k2 K hR hl)
  · exact lv_tableIn (off := 1296) (tgt := 1336) C.1 C.2.1 dl_40 hn1 hn2 (by rw [hx]; rfl) rfl (lb_33 C hX hL hi hcs2 k2 K hR hl)
  · exact lv_tableIn (off := 1309) (tgt := 1349) C.1 C.2.1 dl_40 hn1 hn2 (by rw [hx]; rfl) rfl (lb_34 C hX hL hi hcs2 k2 K hR hl)
  · exact lv_tableIn (off := 1334) (tgt := 1374) C.1 C.2.1 dl_40 hn1 hn2 (by rw [hx]; rfl) rfl (lb_35 C hX hL hi hcs2 k2 K hR hl)
  · exact lv_tableIn (off := 1391) (tgt := 1431) C.1 C.2.1 dl_40 hn1 hn2 (by rw [hx]; rfl) rfl (lb_36 C hX hL hi hcs2 k2 K hR hl)
  · exact lv_tableIn (off := 1404) (tgt := 1444) C.1 C.2.1 dl_40 hn1 hn2 (by rw [hx]; rfl) rfl (lb_37 C hX hL hi hcs2 k2 K hR hl)
  · exact lv_tableIn (off := 1441) (tgt := 1481) C.1 C.2.1 dl_40 hn1 hn2 (by rw [hx]; rfl) rfl (lb_38 C hX hL hi hcs2 k2 K hR hl)
  · exact lv_tableIn (off := 1466) (tgt := 1506) C.1 C.2.1 dl_40 hn1 hn2 (by rw [hx]; rfl) rfl (lb_39 C hX hL hi hcs2 k2 K hR hl)
  · exact lv_tableIn (off := 1479) (tgt := 1519) C.1 C.2.1 dl_40 hn1 hn2 (by rw [hx]; rfl) rfl (lb_40 C hX hL hi hcs2 k2 K hR hl)
  · exact lv_tableIn (off := 1492) (tgt := 1532) C.1 C.2.1 dl_40 hn1 hn2 (by rw [hx]; rfl) rfl (lb_41 C hX hL hi hcs2 k2 K hR hl)
  · exact lv_tableIn (off := 1505) (tgt := 1545) C.1 C.2.1 dl_40 hn1 hn2 (by rw [hx]; rfl) rfl (lb_42 C hX hL hi hcs2 k2 K hR hl)
theorem lw_loop {sa c0 s0 : Nat} (hlt : l.stackTraces = false) (C : LC w p s m b meth c) (hr : meth.sig.returnType = ret) (hlk : meth.locks = false) (hKt : Kt w sa s) (hX : va_X b L xs s s.heap) (hL : L ≤ 3072) (h0 : c0 + 513 ≤ 1157 ∧ s0 + 3078 ≤ 28692) (n : Nat) : ∀ (k : Nat) (H : Heap) (locs : List Loc) (ls : Array Slot) (S : St), k + n = 513 → LH w s H locs S → Rel S S → lv_has ls 7 (lsL w b (6 * k)) →
    W p l e room_1 s m #[Value.ref b] below meth c H locs (c0 + k) (s0 + 6 * k) (lw_Z below #[Value.ref b] s) (F0 m 23 ls []) := by
  induction n with
  | zero =>
    intro k H locs ls S hk K hR hl
    refine lv_iload C.1 C.2.1 dl_23 (lv_at hl 4 rfl) ?_
    refine lv_aload_n C.1 C.2.1 dl_25 rfl (lv_at hl 0 rfl) ?_
    refine va_slen (A := A0 s) C.1 C.2.1 hX C.2.2.2.2.2.2.2.2 (fun z => absurd C.2.2.2.2.2.2.2.2 (Nat.not_lt.mpr z)) K.2.2 dl_26 ?_
    refine lv_bipush (v := 6) C.1 C.2.1 dl_27 (by decide) ?_
    refine lv_isub C.1 C.2.1 dl_29 ?_
    refine lv_icmp_gt (tgt := 1576) C.1 C.2.1 dl_30 rfl (fun _ => ?_) (fun z => absurd (lw_cmp (L := L) (i := 6 * k) hL (by omega)).2 (fun q => z (q (by omega))))
    refine va_forget K.2.2.2.2 ?_
    refine lv_iconst (v := 1) C.1 C.2.1 dl_1576 (by decide) ?_
    refine W.widen (k := 1157) (n := 28692) (by omega) (by omega) ?_
    exact lw_ret C.1 C.2.1 hr hlk dl_1577
  | succ n ih =>
    intro k H locs ls S hk K hR hl
    refine lv_iload C.1 C.2.1 dl_23 (lv_at hl 4 rfl) ?_
    refine lv_aload_n C.1 C.2.1 dl_25 rfl (lv_at hl 0 rfl) ?_
    refine va_slen (A := A0 s) C.1 C.2.1 hX C.2.2.2.2.2.2.2.2 (fun z => absurd C.2.2.2.2.2.2.2.2 (Nat.not_lt.mpr z)) K.2.2 dl_26 ?_
    refine lv_bipush (v := 6) C.1 C.2.1 dl_27 (by decide) ?_
    refine lv_isub C.1 C.2.1 dl_29 ?_
    refine lv_icmp_gt (tgt := 1576) C.1 C.2.1 dl_30 rfl (fun _ => ?_) (fun z => ?_)
    · refine va_forget K.2.2.2.2 ?_
      refine lv_iconst (v := 1) C.1 C.2.1 dl_1576 (by decide) ?_
      refine W.widen (k := 1157) (n := 28692) (by omega) (by omega) ?_
      exact lw_ret C.1 C.2.1 hr hlk dl_1577
    · have hi : 6 * k + 6 ≤ L := by
        refine Nat.le_of_not_lt (fun q => z ((lw_cmp (L := L) (i := 6 * k) hL (by omega)).2 (by omega)))
      refine lw_body hlt C hKt hX hL hi ⟨by omega, by omega⟩ (fun ls1 S' H1 locs1 hl1 r1 K1 => ?_) K hR hl
      have e1 : Int32.ofInt ((6 * k : Nat) : Int) + Int32.ofInt 6 = Int32.ofInt ((6 * (k + 1) : Nat) : Int) := by rw [← Int32.ofInt_add]; congr 1
      refine lv_iinc (v := Int32.ofInt ((6 * (k + 1) : Nat) : Int)) (k := 4) C.1 C.2.1 dl_1570 hl1 rfl e1 (by decide) rfl (fun ls2 hl2 => ?_)
      have hl3 : lv_has ls2 7 (lsL w b (6 * (k + 1))) := lv_sub hl2 [1, 2, 3, 4, 0] rfl
      refine lv_goto (tgt := 23) C.1 C.2.1 dl_1573 rfl ?_
      have := ih (k + 1) H1 locs1 ls2 S' (by omega) K1 r1 hl3
      rw [show s0 + 6 * (k + 1) = s0 + 6 * k + 6 by omega] at this
      exact this
end LWL
