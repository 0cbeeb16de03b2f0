/-! the law's cases 4 (sign) and 35 (seed) -/
section LWC
variable {w : Wd} {p : Program} {l : Launch} {e : Env} {s : State} {m : MethodId} {below : List Frame} {meth : Method} {c : Code} {b L : Nat} {xs : Nat → Int32} {Z : State → Prop}
variable {H : Heap} {locs : List Loc} {ls : Array Slot} {cells slots i pc : Nat} {S : St}
theorem dl_38a : decode code 389 = .ok (.aload_n 3, 1) := by decide +kernel
theorem dl_376 : decode code 376 = .ok (.aload_n 1, 1) := by decide +kernel
theorem dl_390 : decode code 390 = .ok (.invokestatic 38, 3) := by decide +kernel
theorem dl_393 : decode code 393 = .ok (.istore 5, 2) := by decide +kernel
theorem dl_395 : decode code 395 = .ok (.aload_n 2, 1) := by decide +kernel
theorem dl_408 : decode code 408 = .ok (.invokevirtual 43, 3) := by decide +kernel
theorem dl_411 : decode code 411 = .ok (.istore 6, 2) := by decide +kernel
theorem dl_413 : decode code 413 = .ok (.aload_n 2, 1) := by decide +kernel
theorem dl_414 : decode code 414 = .ok (.invokevirtual 44, 3) := by decide +kernel
theorem dl_417 : decode code 417 = .ok (.iload 5, 2) := by decide +kernel
theorem dl_419 : decode code 419 = .ok (.if_icmp .eq 5, 3) := by decide +kernel
theorem dl_424 : decode code 424 = .ok (.iload 5, 2) := by decide +kernel
theorem dl_426 : decode code 426 = .ok (.ifCond .ne 15, 3) := by decide +kernel
theorem dl_429 : decode code 429 = .ok (.aload_n 3, 1) := by decide +kernel
theorem dl_430 : decode code 430 = .ok (.iconst 0, 1) := by decide +kernel
theorem dl_431 : decode code 431 = .ok (.laload, 1) := by decide +kernel
theorem dl_432 : decode code 432 = .ok (.iload 6, 2) := by decide +kernel
theorem dl_434 : decode code 434 = .ok (.i2l, 1) := by decide +kernel
theorem dl_435 : decode code 435 = .ok (.lcmp, 1) := by decide +kernel
theorem dl_436 : decode code 436 = .ok (.ifCond .eq 5, 3) := by decide +kernel
theorem dl_441 : decode code 441 = .ok (.goto 1129, 3) := by decide +kernel
theorem dl_g1 : agsOk 377 1 2 = true := by decide +kernel
theorem dl_g2 : agsOk 396 1 2 = true := by decide +kernel
theorem ls_goodIn : GoodIn G (va_wsS "FarKeysLaw" 38 yLs wsLs) := fun q hq => by
  have key : q ∈ G → q ∈ G ∧ ((q.onTables && q.keeps) = true ∨ ∃ ty, q = .arrayClass ty) := fun h => ⟨h, good_of_word (G_good _ h)⟩
  rcases List.mem_append.mp hq with h | h
  · simp only [List.mem_cons, List.not_mem_nil, or_false] at h
    rcases h with rfl | rfl | rfl
    · exact key (mG 1255 (by decide +kernel) rfl)
    · exact key (mG 1256 (by decide +kernel) rfl)
    · exact key (mG 79 (by decide +kernel) rfl)
  · rcases List.mem_cons.mp h with e | h
    · rw [e]
      have h1 : Cond.codeWith yLs cLs 5 (some .int) hLs ∈ G := mG 1257 (by decide +kernel) rfl
      exact ⟨h1, good_of_word (G_good _ h1)⟩
    · exact key h
/-- a call that may make cells -/
theorem lw_goM {args : Array Value} {Q' : Option AV → St → Prop} {R : Room} {mc ms : Nat} {st0 rest : List Value} {a : Array Value} (hr : va_Run p l e R s m args below meth c H locs cells slots mc ms (F0 m pc ls st0) rest (Qcf w Q' a) (inA w)) (hS : va_S (A0 s) s.heap H locs) (hA : ∀ q, inA w q → A0 s q)
    (kk : ∀ (r : Option AV) (S' : St) (H1 : Heap) (locs1 : List Loc), Q' r S' → cnO r → LH w s H1 locs1 S' → W p l e R s m args below meth c H1 locs1 (cells + mc) (slots + ms) Z (F0 m (pc + 3) ls ((r.map (cv w.2.1)).toList ++ rest))) : W p l e R s m args below meth c H locs cells slots Z (F0 m pc ls st0) := by
  intro T hT X
  obtain ⟨v, st₀, t, T', L, h0, X', hL, e1, e2, ⟨⟨r, S', hq, ho, hC, hcn, hW, hal⟩, hz, hk⟩, st⟩ := hr T hT X
  cases ho
  rw [h0] at hz hk
  rw [← e1] at hW
  obtain ⟨t2, a1, b1⟩ := kk r S' T'.heap (locs ++ L) hq hcn ⟨hW, hC,
    ⟨Nat.le_trans hS.1 (by rw [e1]; exact hz), fun q h1 h2 => by rw [e1, hk q (Nat.lt_of_lt_of_le h1 hS.1) (fun z => h2 (hA q z))]; exact hS.2.1 q h1 h2, fun q hq => by
      rcases List.mem_append.mp hq with h | h
      · exact hS.2.2 q h
      · exact hA _ (hL q h)⟩⟩ T' rfl X'
  exact ⟨t2, st t2 a1, b1⟩
theorem rel_131 (hR : Rel S S) (v : Int) : Rel (up S 131 0 v) (up S 131 0 v) := by
  have hF : Fr [131] [] S (up S 131 0 v) := fun c j hx _ => by
    unfold up
    rw [if_neg (by intro z; exact hx (by rw [z]; exact List.mem_cons_self))]
  have h1 : Rel S (up S 131 0 v) := hR.fr hF rfl rfl
  have h2 : gl S (up S 131 0 v) = up S 131 0 v := gl_of (fun c hc => by unfold up; rw [if_neg (by omega)])
  have h3 : Rel (gl S (up S 131 0 v)) (up S 131 0 v) := ⟨relB_gl h1.1, caX_gl h1.2⟩
  rw [h2] at h3
  exact h3
theorem rel_thr (hR : Rel S S) : Rel (up (th S) 0 0 1) (up (th S) 0 0 1) := by
  have hF : Fr [17, 18, 19, 20, 21, 22, 23, 24, 25, 26, 27, 28, 29, 31] [(0, 0), (0, 38)] S (up (th S) 0 0 1) := (th_fr S).up _ _ _ rfl
  exact rel_x (rel_m hR hF) (m_x hF rfl)
/-- sign: the class's answer or throw, then the reference's -/
theorem s_sg (hR : Rel S S) (a b : Int) (Q : Option AV → St → Prop) (h0 : ¬ okSg S a b → Q (some (.inl 0)) (up (th S) 0 0 1)) (h1 : okSg S a b → Q (some (.inl (aM_sign S a b))) (th S)) : Smm H_M_sign 0 [some (.inr (.inr 0)), some (.inl a), some (.inl b)] [] S Q := t_M_sign S a b Q (fun h => (hR.1.land h).1) h0 h1
set_option maxHeartbeats 4000000 in
theorem lb_4 {sa : Nat} (hlt : l.stackTraces = false) (C : LC w p s m b meth c) (hKt : Kt w sa s) (hX : va_X b L xs s s.heap) (hL : L ≤ 3072) (hi : i + 6 ≤ L) (hcs : cells + 1 ≤ 1157 ∧ slots + 6 ≤ 28692)
    (kk : ∀ (ls1 : Array Slot) (S' : St) (H1 : Heap) (locs1 : List Loc), lv_has ls1 7 (lsL w b i) → Rel S' S' → LH w s H1 locs1 S' → W p l e room_1 s m #[Value.ref b] below meth c H1 locs1 (cells + 1) (slots + 6) Z (F0 m 1570 ls1 [])) (K : LH w s H locs S) (hR : Rel S S) (hl : lv_has ls 7 (lsL w b i)) : W p l e room_1 s m #[Value.ref b] below meth c H locs cells slots Z (F0 m 376 ls []) := by
  have hKx : Kx w s := C.2.2.2.2.2.1
  have hA : adOk w := C.2.2.2.2.2.2.1
  have ha : i32 (xs (i + 1)).toInt = (xs (i + 1)).toInt := can_toInt32 _
  have hb : i32 (xs (i + 2)).toInt = (xs (i + 2)).toInt := can_toInt32 _
  refine lv_aload_n C.1 C.2.1 dl_376 rfl (lv_at hl 1 rfl) ?_
  refine lw_args C hX K.2.2 hL hi hl 2 1 377 _ (by omega) dl_g1 ?_
  refine lv_aload_n C.1 C.2.1 dl_38a rfl (lv_at hl 3 rfl) ?_
  have hfar : ∀ U : State, U.heap = H → ∀ a : Nat, a < s.heap.size → U.heap[a]? = s.heap[a]? := fun U hU a ha => by
    rw [hU]
    exact K.2.2.2.1 a ha (fun z => absurd z (by show ¬ s.heap.size ≤ a; omega))
  have hcw : vx_CSW room_1 s #[Value.ref b] "FarKeysLaw" 38 yLs cLs 5 (some .int) hLs wsLs rmLs 1 6 4 := vx_cwSW (Ts := G) 4 C.2.2.2.2.1 ls_goodIn rfl rfl rfl (by decide +kernel) ⟨Nat.le_of_ble_eq_true rfl, Nat.le_of_ble_eq_true rfl⟩
  have hr := vx_runSW (As := ([.inr (.inr 40), .inl (xs (i + 1)).toInt, .inl (xs (i + 2)).toInt, .inr (.inr 131)] : List AV).map (cv w.2.1)) (rest := []) (g := F0 m 390 ls (Value.ref (w.2.1 131) :: (((vsL xs i 1 2).map (cv w.2.1)).reverse ++ [Value.ref (w.2.1 40)]))) (p := p) (e := e) (below := below) (meth := meth) (locs := locs) (cells := cells) (slots := slots) (nL := 7) (H := H) ⟨C.1, C.2.1, C.2.2.1, C.2.2.2.1, C.2.2.2.2.1⟩ (c_ls (sa := sa) hlt hA K.2.1 hR (xs (i + 1)).toInt (xs (i + 2)).toInt ha hb) hcw ⟨PcS_blind _, fun U hU hW => ⟨rfl, Kx_far hW (hfar U hU) hKx, by rw [hU]; exact K.1, Kt_far hW (fun q h _ => hfar U hU q h) hKt⟩⟩ rfl rfl hl.1 rfl (Nat.le_of_ble_eq_true rfl) dl_390 hcs
  refine lw_goM hr K.2.2 (inA_far C) ?_
  have hen : ∀ (S1 : St) (v : Int) (H1 : Heap) (locs1 : List Loc) (ls1 : Array Slot) (lv1 : List (Nat × Value)), Rel S1 S1 → LH w s H1 locs1 S1 → lv_has ls1 7 (lsL w b i) → W p l e room_1 s m #[Value.ref b] below meth c H1 locs1 (cells + 1) (slots + 6) Z (F0 m 441 ls1 []) := fun S1 v H1 locs1 ls1 lv1 r1 K1 h1 => lv_goto (tgt := 1570) C.1 C.2.1 dl_441 rfl (kk ls1 S1 H1 locs1 h1 r1 K1)
  rintro r S1 H1 locs1 hq hcn K1
  have hcs1 : cells + 1 ≤ 1157 ∧ slots + 6 ≤ 28692 := hcs
  rcases hq with ⟨hok, rfl, rfl⟩ | ⟨hno, rfl, rfl⟩
  · have hR1 : Rel (up S 131 0 (aM_sign S (xs (i + 1)).toInt (xs (i + 2)).toInt)) (up S 131 0 (aM_sign S (xs (i + 1)).toInt (xs (i + 2)).toInt)) := rel_131 hR _
    have hcv : i32 (aM_sign S (xs (i + 1)).toInt (xs (i + 2)).toInt) = aM_sign S (xs (i + 1)).toInt (xs (i + 2)).toInt := by
      unfold aM_sign
      split
      · exact Can_I K.2.1 (show shp 10 = .inr (0, 5, 5) from rfl) _
      · split
        · exact Can_I K.2.1 (show shp 11 = .inr (0, 5, 5) from rfl) _
        · split
          · exact Can_I K.2.1 (show shp 12 = .inr (0, 5, 5) from rfl) _
          · exact Can_I K.2.1 (show shp 13 = .inr (0, 5, 5) from rfl) _
    have hok1 : okSg (up S 131 0 (aM_sign S (xs (i + 1)).toInt (xs (i + 2)).toInt)) (xs (i + 1)).toInt (xs (i + 2)).toInt := hok
    have hsv : aM_sign (up S 131 0 (aM_sign S (xs (i + 1)).toInt (xs (i + 2)).toInt)) (xs (i + 1)).toInt (xs (i + 2)).toInt = aM_sign S (xs (i + 1)).toInt (xs (i + 2)).toInt := rfl
    have hov : th (up S 131 0 (aM_sign S (xs (i + 1)).toInt (xs (i + 2)).toInt)) 131 0 = aM_sign S (xs (i + 1)).toInt (xs (i + 2)).toInt := rfl
    generalize aM_sign S (xs (i + 1)).toInt (xs (i + 2)).toInt = v at *
    generalize up S 131 0 v = S1 at *
    refine lv_istore C.1 C.2.1 dl_393 hl (by decide) rfl (fun ls1 hl1 => ?_)
    have hb1 : lv_has ls1 7 (lsL w b i) := lv_sub hl1 [1, 2, 3, 4, 5] rfl
    refine lv_aload_n C.1 C.2.1 dl_395 rfl (lv_at hb1 2 rfl) ?_
    refine lw_args C hX K1.2.2 hL hi hb1 2 1 396 _ (by omega) dl_g2 ?_
    refine lw_callV (ks := _) (as := [.inl (xs (i + 1)).toInt, .inl (xs (i + 2)).toInt]) (rest := []) (c0 := 0) C K1 hb1.1 hcs1 ho_169 (by decide) (show shp 0 = .inl (12, _) from rfl) (mG 1605 (by decide +kernel) rfl) dl_408 rfl (vsL_cn xs i 2 1) (s_sg hR1 (xs (i + 1)).toInt (xs (i + 2)).toInt (fun r S2 => r = some (.inl v) ∧ S2 = th S1) (fun z => absurd hok1 z) (fun _ => ⟨by rw [hsv], rfl⟩)) ?_
    rintro r2 S2 H2 locs2 ⟨rfl, rfl⟩ hcn2 K2
    refine lv_istore C.1 C.2.1 dl_411 hl1 (by decide) rfl (fun ls2 hl2 => ?_)
    have hb2 : lv_has ls2 7 (lsL w b i) := lv_sub hl2 [2, 3, 4, 5, 6] rfl
    refine lv_aload_n C.1 C.2.1 dl_413 rfl (lv_at hb2 2 rfl) ?_
    refine lw_callV (ks := _) (as := []) (rest := []) (c0 := 0) C K2 hb2.1 hcs1 ho_147 (by decide) (show shp 0 = .inl (12, _) from rfl) (mG 1329 (by decide +kernel) rfl) dl_414 rfl (vsL_cn xs i 0 1) (t_M_thrown (th S1) (fun r S3 => r = some (.inl 0) ∧ S3 = th S1) ⟨rfl, rfl⟩) ?_
    rintro r3 S3 H3 locs3 ⟨rfl, rfl⟩ hcn3 K3
    refine lv_iload C.1 C.2.1 dl_417 (lv_at hl2 1 rfl) ?_
    refine lv_icmp_eq (tgt := 424) C.1 C.2.1 dl_419 rfl (fun _ => ?_) (fun z => absurd rfl z)
    refine lv_iload C.1 C.2.1 dl_424 (lv_at hl2 1 rfl) ?_
    refine lv_if_ne (tgt := 441) C.1 C.2.1 dl_426 rfl (fun z => absurd rfl z) (fun _ => ?_)
    refine lv_aload_n C.1 C.2.1 dl_429 rfl (lv_at hb2 3 rfl) ?_
    refine lv_iconst (v := Int32.ofInt 0) C.1 C.2.1 dl_430 rfl ?_
    refine va_lald (D := w.1) (cl := vwCl) (tys := tyK w) (ws := wl w (th S1)) (n := 1) (f := fun j => Int64.ofInt (th S1 131 j)) C.1 C.2.1 hKx.1 K3.1 131 1 (wl_get w (th S1) (show 131 < nC by decide)) rfl (by unfold vp_in; decide) dl_431 ?_
    refine lv_iload C.1 C.2.1 dl_432 (lv_at hl2 0 rfl) ?_
    refine lv_i2l (v := Int64.ofInt v) C.1 C.2.1 dl_434 (Int64.toInt_inj.mp (by rw [Int32.toInt_toInt64, toInt_i32, toInt_i64, hcv, i64_of32 hcv])) ?_
    refine W.lcmp C.1 C.2.1 dl_435 ?_
    have he : lg_cmp (Int64.ofInt (th S1 131 ((Int32.ofInt 0).toNatClampNeg : Nat))) (Int64.ofInt v) = 0 := by
      show lg_cmp (Int64.ofInt (th S1 131 0)) (Int64.ofInt v) = 0
      rw [hov]
      unfold lg_cmp
      simp
    rw [he]
    refine lv_if_eq (tgt := 441) C.1 C.2.1 dl_436 rfl (fun _ => ?_) (fun z => absurd rfl z)
    exact hen _ 0 _ _ ls2 [] (rel_tt hR1) K3 hb2
  · refine lv_istore C.1 C.2.1 dl_393 hl (by decide) rfl (fun ls1 hl1 => ?_)
    have hb1 : lv_has ls1 7 (lsL w b i) := lv_sub hl1 [1, 2, 3, 4, 5] rfl
    refine lv_aload_n C.1 C.2.1 dl_395 rfl (lv_at hb1 2 rfl) ?_
    refine lw_args C hX K1.2.2 hL hi hb1 2 1 396 _ (by omega) dl_g2 ?_
    refine lw_callV (ks := _) (as := [.inl (xs (i + 1)).toInt, .inl (xs (i + 2)).toInt]) (rest := []) (c0 := 0) C K1 hb1.1 hcs1 ho_169 (by decide) (show shp 0 = .inl (12, _) from rfl) (mG 1605 (by decide +kernel) rfl) dl_408 rfl (vsL_cn xs i 2 1) (s_sg hR (xs (i + 1)).toInt (xs (i + 2)).toInt (fun r S2 => r = some (.inl 0) ∧ S2 = up (th S1) 0 0 1) (fun _ => ⟨rfl, rfl⟩) (fun z => absurd z hno)) ?_
    rintro r2 S2 H2 locs2 ⟨rfl, rfl⟩ hcn2 K2
    refine lv_istore C.1 C.2.1 dl_411 hl1 (by decide) rfl (fun ls2 hl2 => ?_)
    have hb2 : lv_has ls2 7 (lsL w b i) := lv_sub hl2 [2, 3, 4, 5, 6] rfl
    refine lv_aload_n C.1 C.2.1 dl_413 rfl (lv_at hb2 2 rfl) ?_
    refine lw_callV (ks := _) (as := []) (rest := []) (c0 := 0) C K2 hb2.1 hcs1 ho_147 (by decide) (show shp 0 = .inl (12, _) from rfl) (mG 1329 (by decide +kernel) rfl) dl_414 rfl (vsL_cn xs i 0 1) (t_M_thrown (up (th S1) 0 0 1) (fun r S3 => r = some (.inl 1) ∧ S3 = up (th S1) 0 0 1) ⟨rfl, rfl⟩) ?_
    rintro r3 S3 H3 locs3 ⟨rfl, rfl⟩ hcn3 K3
    refine lv_iload C.1 C.2.1 dl_417 (lv_at hl2 1 rfl) ?_
    refine lv_icmp_eq (tgt := 424) C.1 C.2.1 dl_419 rfl (fun _ => ?_) (fun z => absurd rfl z)
    refine lv_iload C.1 C.2.1 dl_424 (lv_at hl2 1 rfl) ?_
    refine lv_if_ne (tgt := 441) C.1 C.2.1 dl_426 rfl (fun _ => ?_) (fun z => absurd z (by decide))
    exact hen _ 0 _ _ ls2 [] (rel_thr hR) K3 hb2
/-! seed -/
def sdV (x1 x2 : Int32) : Int64 := (x1.toInt64 <<< ((Int32.ofInt 32).toInt64 &&& 63)) ||| (x2.toInt64 &&& 4294967295)
def sdOk (pc : Nat) : Bool := agOk pc 1 && decide (decode code (pc + 6) = .ok (.i2l, 1)) && decide (decode code (pc + 7) = .ok (.bipush 32, 2)) && decide (decode code (pc + 9) = .ok (.lshl, 1)) && agOk (pc + 10) 2 && decide (decode code (pc + 16) = .ok (.i2l, 1)) && decide (decode code (pc + 17) = .ok (.ldc2_w 170, 3)) && decide (decode code (pc + 20) = .ok (.land, 1)) && decide (decode code (pc + 21) = .ok (.lor, 1))
theorem lw_seed (C : LC w p s m b meth c) (hX : va_X b L xs s s.heap) (hS : va_S (A0 s) s.heap H locs) (hL : L ≤ 3072) (hi : i + 6 ≤ L) (hl : lv_has ls 7 (lsL w b i)) {st : List Value} (hok : sdOk pc = true)
    (kk : W p l e room_1 s m #[Value.ref b] below meth c H locs cells slots Z (F0 m (pc + 22) ls (.long (sdV (xs (i + 1)) (xs (i + 2))) :: st))) : W p l e room_1 s m #[Value.ref b] below meth c H locs cells slots Z (F0 m pc ls st) := by
  unfold sdOk at hok
  simp only [Bool.and_eq_true, decide_eq_true_eq] at hok
  obtain ⟨⟨⟨⟨⟨⟨⟨⟨d0, d1⟩, d2⟩, d3⟩, d4⟩, d5⟩, d6⟩, d7⟩, d8⟩ := hok
  refine lw_arg C hX hS hL hi (by omega) hl d0 ?_
  refine lv_i2l C.1 C.2.1 d1 rfl ?_
  refine lv_bipush (v := Int32.ofInt 32) C.1 C.2.1 d2 (by decide) ?_
  refine lv_lshl C.1 C.2.1 d3 rfl ?_
  refine lw_arg C hX hS hL hi (by omega) hl d4 ?_
  refine lv_i2l C.1 C.2.1 d5 rfl ?_
  refine lv_ldc2 (v := 4294967295) C.1 C.2.1 C.2.2.2.1 (C.2.2.2.2.1 _ (mG 1876 (by decide +kernel) rfl)) d6 ?_
  refine lv_land C.1 C.2.1 d7 ?_
  refine lv_lor C.1 C.2.1 d8 ?_
  exact kk
theorem dl_s1 : sdOk 1375 = true := by decide +kernel
theorem dl_s2 : sdOk 1401 = true := by decide +kernel
theorem dl_1374 : decode code 1374 = .ok (.aload_n 1, 1) := by decide +kernel
theorem dl_1397 : decode code 1397 = .ok (.invokevirtual 172, 3) := by decide +kernel
theorem dl_1400 : decode code 1400 = .ok (.aload_n 2, 1) := by decide +kernel
theorem dl_1423 : decode code 1423 = .ok (.invokevirtual 176, 3) := by decide +kernel
theorem dl_1426 : decode code 1426 = .ok (.if_icmp .eq 144, 3) := by decide +kernel
set_option maxHeartbeats 4000000 in
theorem lb_35 (C : LC w p s m b meth c) (hX : va_X b L xs s s.heap) (hL : L ≤ 3072) (hi : i + 6 ≤ L) (hcs : cells ≤ 1157 ∧ slots ≤ 28692) (kk : ∀ (S' : St) (H1 : Heap) (locs1 : List Loc), Rel S' S' → LH w s H1 locs1 S' → W p l e room_1 s m #[Value.ref b] below meth c H1 locs1 cells slots Z (F0 m 1570 ls [])) (K : LH w s H locs S) (hR : Rel S S) (hl : lv_has ls 7 (lsL w b i)) : W p l e room_1 s m #[Value.ref b] below meth c H locs cells slots Z (F0 m 1374 ls []) := by
  refine lv_aload_n C.1 C.2.1 dl_1374 rfl (lv_at hl 1 rfl) ?_
  refine lw_seed C hX K.2.2 hL hi hl dl_s1 ?_
  generalize hv : sdV (xs (i + 1)) (xs (i + 2)) = v
  have e1 : Value.long v = cv w.2.1 (.inr (.inl v.toInt)) := by show _ = Value.long (Int64.ofInt v.toInt); rw [Int64.ofInt_toInt]
  have hcn0 : cnS [(.inr (.inl v.toInt) : AV)] := fun q hq => by
    rcases List.mem_cons.mp hq with rfl | h
    · exact can_toInt64 v
    · exact absurd h List.not_mem_nil
  rw [e1]
  refine lw_callV (ks := _) (as := [.inr (.inl v.toInt)]) (rest := []) (c0 := 40) C K hl.1 hcs ho_120 (by decide) (show shp 40 = .inl (11, _) from rfl) (mG 1196 (by decide +kernel) rfl) dl_1397 rfl hcn0 (w_seed S v.toInt hR) ?_
  rintro r S1 H1 locs1 ⟨q, rfl, hs2⟩ hcn K1
  refine lv_aload_n C.1 C.2.1 dl_1400 rfl (lv_at hl 2 rfl) ?_
  refine lw_seed C hX K1.2.2 hL hi hl dl_s2 ?_
  rw [hv, e1]
  refine lw_callV (ks := _) (as := [.inr (.inl v.toInt)]) (rest := [(.inl q : AV)]) (c0 := 0) C K1 hl.1 hcs ho_224 (by decide) (show shp 0 = .inl (12, _) from rfl) (mG 1834 (by decide +kernel) rfl) dl_1423 rfl hcn0 hs2 ?_
  rintro r S2 H2 locs2 ⟨rfl, hI⟩ hcn2 K2
  refine lv_icmp_eq (tgt := 1570) C.1 C.2.1 dl_1426 rfl (fun _ => ?_) (fun z => absurd rfl z)
  exact kk S2 H2 locs2 hI K2
end LWC
