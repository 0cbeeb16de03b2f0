def yN12 : MethodName := ⟨"FarKeysModel", "<init>", "()V"⟩
def cN12 : ByteArray := prog_14_method_2_code
set_option maxRecDepth 20000 in
theorem cw_12 : Cond.code yN12 cN12 1 none ∈ G := mG 1337 rfl rfl
theorem cm_12 : Cond.instanceMethod yN12 ∈ G := mG 1336 (by decide +kernel) rfl
theorem cz_12 : Cond.initialized (clE 12).1 ∈ G := mG 92 (by decide +kernel) rfl
theorem ct_12 : Cond.instantiable (clE 12).1 (clE 12).2.2 ∈ G := mG 1334 (by decide +kernel) rfl
theorem fz_12 : fzC 12 = [.int 0, .null, .int 0, .int 0, .int 0, .int 0, .int 0, .int 0, .int 0, .null, .null, .null, .int 0, .int 0, .null, .int 0, .null, .int 0, .int 0, .int 0, .int 0, .int 0, .int 0, .null, .null, .null, .null, .null, .null, .null, .null, .int 0, .null, .null, .null, .null, .null, .null, .int 0, .null, .null, .null, .null, .null, .null, .null, .null, .null, .null, .int 0, .null, .long 0, .int 0, .null, .null, .null, .int 0, .int 0, .int 0, .long 0, .null, .null, .null, .null, .null] := by decide +kernel
def fsN12 (sz : Nat) : List Value := [.int 0, .ref sz, .int 0, .int 0, .int 0, .int 0, .int 0, .int 0, .int 0, .ref (sz + 1), .ref (sz + 2), .ref (sz + 3), .int 0, .int 0, .ref (sz + 4), .int 0, .ref (sz + 5), .int 0, .int 0, .int 0, .int 0, .int 0, .int 0, .ref (sz + 6), .ref (sz + 7), .ref (sz + 8), .ref (sz + 9), .ref (sz + 10), .ref (sz + 11), .ref (sz + 12), .ref (sz + 13), .int 0, .ref (sz + 14), .ref (sz + 15), .ref (sz + 16), .ref (sz + 17), .ref (sz + 18), .ref (sz + 19), .int 0, .ref (sz + 20), .ref (sz + 21), .ref (sz + 22), .ref (sz + 23), .ref (sz + 24), .ref (sz + 25), .ref (sz + 26), .ref (sz + 27), .ref (sz + 28), .ref (sz + 29), .int 0, .ref (sz + 30), .long 0, .int 0, .ref (sz + 31), .ref (sz + 32), .ref (sz + 33), .int 0, .int 0, .int 0, .long 0, .ref (sz + 34), .ref (sz + 35), .ref (sz + 36), .ref (sz + 37), .ref (sz + 38)]
/-! the reference's constructor -/
section WPB
variable {p : Program} {l : Launch} {e : Env} {R : Room} {s : State} {m : MethodId} {args : Array Value} {below : List Frame} {meth : Method} {c : Code} {Q : State → Prop}
variable {D : va_G} {cI cJ cZ : ClassId} {A : Nat → Prop} {H0 H : Heap} {locs : List Loc} {ls : Array Slot} {cells slots pc n : Nat} {ws : va_W} {cc : ByteArray} {nL : Nat}
theorem nx_wp {q index : Nat} {fs : List Value} {V' : va_W} (C : GN D cI cJ cZ (clE 12).1 cc nL p s m args c) (K : NH D A H0 H locs ((q, .inr (12, fs)) :: ws) n) (hM : Met l yW (Cond.code yW cW 2 none :: G) { frames := 0, cells := 0, slots := 0, locals := 0 } (PW D cI cJ cZ q ((q, .inr (12, fs)) :: ws) n) (QW D ((q, .inr (12, fs)) :: ws) V' n) 0 0 (AW ((q, .inr (12, fs)) :: ws))) (hlk : Cond.methodLink "FarKeysModel" index yW ∈ G) (hsz : ls.size = nL) (hdg : decode cc pc = .ok (.invokevirtual index, 3)) (hR : 1 ≤ R.frames ∧ 21 ≤ R.locals) (hcs : cells ≤ R.cells ∧ slots ≤ R.slots)
    (kk : ∀ (H1 : Heap) (locs1 : List Loc), NH D A H0 H1 locs1 V' n → W p l e R s m args below meth c H1 locs1 cells slots Q (F0 m (pc + 3) ls [])) : W p l e R s m args below meth c H locs cells slots Q (F0 m pc ls [.ref q]) := by
  have hc1 : Cond.code yW cW 2 none ∈ G := ho_163.1
  obtain ⟨hin, hse⟩ := (ho_163.2.2.2.2.2.resolve_left (fun z => absurd z.1 (by decide))).2
  have he : (((q, .inr (12, fs)) :: ws : va_W))[0]? = some (q, .inr (12, fs)) := rfl
  have hrecv := va_recv C.2.2.2.2.2.1 K.1 (clE_get 12 (by decide)) he
  have hcb := callB_of (R := R) (ret := none) (bytes := cW) (maxL := 2) (rm := { frames := 0, cells := 0, slots := 0, locals := 0 }) (mc := 0) (ms := 0) (s := s) (args := args) (own := (clE 12).1) (index := index) (y := yW) (ws := Cond.code yW cW 2 none :: G) 0 C.2.2.2.2.1 (nx_goodIn hc1) rfl rfl rfl (C.2.2.2.2.1 _ cz_12) (C.2.2.2.2.1 _ hlk) (by decide +kernel) ⟨hR.1, hR.2⟩
  have hAW : ∀ x, AW ((q, .inr (12, fs)) :: ws) x → A x := fun x ⟨k, y, h⟩ => K.2.1.2 k _ h
  have hr := va_runV (C := (clE 12).1) (As := []) (rest := []) (b := q) (g := F0 m pc ls [.ref q]) (p := p) (e := e) (below := below) (meth := meth) (locs := locs) (cells := cells) (slots := slots) (nL := nL) (H := H) ⟨C.1, C.2.1, C.2.2.1, C.2.2.2.1, C.2.2.2.2.1⟩ hM ⟨hcb, C.2.2.2.2.1 _ hin, C.2.2.2.2.1 _ hse⟩ ⟨PW_blind, hrecv, fun U hU hW => ⟨rfl, by rw [hU]; exact K.2.2.2, by rw [hU]; exact K.1, ⟨K.2.1.1, fun k x hx => ⟨k, x.2, hx⟩⟩, KN_warm hW C.2.2.2.2.2⟩⟩ rfl rfl hsz rfl (Nat.le_of_ble_eq_true rfl) hdg hcs
  intro T hT X
  obtain ⟨v, st₀, t, T', L, h0, X', hL, e1, e2, ⟨⟨ho, hP1, hD1, hz1⟩, hz, hk⟩, st⟩ := hr T hT X
  cases ho
  rw [h0] at hz hk
  obtain ⟨hP, hD, hS, hn⟩ := K
  have K1 : NH D A H0 T'.heap (locs ++ L) V' n := by
    rw [e1]
    refine ⟨hP1, ⟨hD1.1, fun k x hx => hAW _ (hD1.2 k x hx)⟩, ⟨Nat.le_trans hS.1 hz, fun x h1 h2 => by rw [hk x (Nat.lt_of_lt_of_le h1 hS.1) (fun z => h2 (hAW x z))]; exact hS.2.1 x h1 h2, fun x hx => ?_⟩, hz1⟩
    rcases List.mem_append.mp hx with h | h
    · exact hS.2.2 x h
    · exact hAW _ (hL x h)
  obtain ⟨t2, a1, b1⟩ := kk T'.heap (locs ++ L) K1 T' rfl X'
  exact ⟨t2, st t2 a1, b1⟩
end WPB
theorem fd_12_1_13 : FDo 12 1 13 := ⟨⟨by decide, by decide⟩, mG 1344 (by decide +kernel) rfl, by decide +kernel⟩
theorem fd_12_9_17 : FDo 12 9 17 := ⟨⟨by decide, by decide⟩, mG 1352 (by decide +kernel) rfl, by decide +kernel⟩
theorem fd_12_10_20 : FDo 12 10 20 := ⟨⟨by decide, by decide⟩, mG 1353 (by decide +kernel) rfl, by decide +kernel⟩
theorem fd_12_11_23 : FDo 12 11 23 := ⟨⟨by decide, by decide⟩, mG 1354 (by decide +kernel) rfl, by decide +kernel⟩
theorem fd_12_14_26 : FDo 12 14 26 := ⟨⟨by decide, by decide⟩, mG 1357 (by decide +kernel) rfl, by decide +kernel⟩
theorem fd_12_16_29 : FDo 12 16 29 := ⟨⟨by decide, by decide⟩, mG 1359 (by decide +kernel) rfl, by decide +kernel⟩
theorem fd_12_23_32 : FDo 12 23 32 := ⟨⟨by decide, by decide⟩, mG 1366 (by decide +kernel) rfl, by decide +kernel⟩
theorem fd_12_24_35 : FDo 12 24 35 := ⟨⟨by decide, by decide⟩, mG 1367 (by decide +kernel) rfl, by decide +kernel⟩
theorem fd_12_26_41 : FDo 12 26 41 := ⟨⟨by decide, by decide⟩, mG 1369 (by decide +kernel) rfl, by decide +kernel⟩
theorem fd_12_27_44 : FDo 12 27 44 := ⟨⟨by decide, by decide⟩, mG 1370 (by decide +kernel) rfl, by decide +kernel⟩
theorem fd_12_28_47 : FDo 12 28 47 := ⟨⟨by decide, by decide⟩, mG 1371 (by decide +kernel) rfl, by decide +kernel⟩
theorem fd_12_29_50 : FDo 12 29 50 := ⟨⟨by decide, by decide⟩, mG 1372 (by decide +kernel) rfl, by decide +kernel⟩
theorem fd_12_32_56 : FDo 12 32 56 := ⟨⟨by decide, by decide⟩, mG 1375 (by decide +kernel) rfl, by decide +kernel⟩
theorem fd_12_33_59 : FDo 12 33 59 := ⟨⟨by decide, by decide⟩, mG 1376 (by decide +kernel) rfl, by decide +kernel⟩
theorem fd_12_34_62 : FDo 12 34 62 := ⟨⟨by decide, by decide⟩, mG 1377 (by decide +kernel) rfl, by decide +kernel⟩
theorem fd_12_35_65 : FDo 12 35 65 := ⟨⟨by decide, by decide⟩, mG 1378 (by decide +kernel) rfl, by decide +kernel⟩
theorem fd_12_36_68 : FDo 12 36 68 := ⟨⟨by decide, by decide⟩, mG 1379 (by decide +kernel) rfl, by decide +kernel⟩
theorem fd_12_37_71 : FDo 12 37 71 := ⟨⟨by decide, by decide⟩, mG 1380 (by decide +kernel) rfl, by decide +kernel⟩
theorem fd_12_39_74 : FDo 12 39 74 := ⟨⟨by decide, by decide⟩, mG 1382 (by decide +kernel) rfl, by decide +kernel⟩
theorem fd_12_40_77 : FDo 12 40 77 := ⟨⟨by decide, by decide⟩, mG 1383 (by decide +kernel) rfl, by decide +kernel⟩
theorem fd_12_41_80 : FDo 12 41 80 := ⟨⟨by decide, by decide⟩, mG 1384 (by decide +kernel) rfl, by decide +kernel⟩
theorem fd_12_42_83 : FDo 12 42 83 := ⟨⟨by decide, by decide⟩, mG 1385 (by decide +kernel) rfl, by decide +kernel⟩
theorem fd_12_43_86 : FDo 12 43 86 := ⟨⟨by decide, by decide⟩, mG 1386 (by decide +kernel) rfl, by decide +kernel⟩
theorem fd_12_44_89 : FDo 12 44 89 := ⟨⟨by decide, by decide⟩, mG 1387 (by decide +kernel) rfl, by decide +kernel⟩
theorem fd_12_45_92 : FDo 12 45 92 := ⟨⟨by decide, by decide⟩, mG 1388 (by decide +kernel) rfl, by decide +kernel⟩
theorem fd_12_46_95 : FDo 12 46 95 := ⟨⟨by decide, by decide⟩, mG 1389 (by decide +kernel) rfl, by decide +kernel⟩
theorem fd_12_47_98 : FDo 12 47 98 := ⟨⟨by decide, by decide⟩, mG 1390 (by decide +kernel) rfl, by decide +kernel⟩
theorem fd_12_48_101 : FDo 12 48 101 := ⟨⟨by decide, by decide⟩, mG 1391 (by decide +kernel) rfl, by decide +kernel⟩
theorem fd_12_50_104 : FDo 12 50 104 := ⟨⟨by decide, by decide⟩, mG 1393 (by decide +kernel) rfl, by decide +kernel⟩
theorem fd_12_53_107 : FDo 12 53 107 := ⟨⟨by decide, by decide⟩, mG 1396 (by decide +kernel) rfl, by decide +kernel⟩
theorem fd_12_54_110 : FDo 12 54 110 := ⟨⟨by decide, by decide⟩, mG 1397 (by decide +kernel) rfl, by decide +kernel⟩
theorem fd_12_55_114 : FDo 12 55 114 := ⟨⟨by decide, by decide⟩, mG 1398 (by decide +kernel) rfl, by decide +kernel⟩
theorem fd_12_60_118 : FDo 12 60 118 := ⟨⟨by decide, by decide⟩, mG 1403 (by decide +kernel) rfl, by decide +kernel⟩
theorem fd_12_61_121 : FDo 12 61 121 := ⟨⟨by decide, by decide⟩, mG 1404 (by decide +kernel) rfl, by decide +kernel⟩
theorem fd_12_62_124 : FDo 12 62 124 := ⟨⟨by decide, by decide⟩, mG 1405 (by decide +kernel) rfl, by decide +kernel⟩
theorem fd_12_63_127 : FDo 12 63 127 := ⟨⟨by decide, by decide⟩, mG 1406 (by decide +kernel) rfl, by decide +kernel⟩
theorem fd_12_64_130 : FDo 12 64 130 := ⟨⟨by decide, by decide⟩, mG 1407 (by decide +kernel) rfl, by decide +kernel⟩
def wnN12 (cI cJ cZ : ClassId) (sz : Nat) : va_W := [(sz, .inl (cI, a0Of .int 160)), ((sz + 1), .inl (cI, a0Of .int 8)), ((sz + 2), .inl (cI, a0Of .int 20)), ((sz + 3), .inl (cI, a0Of .int 36)), ((sz + 4), .inl (cI, a0Of .int 160)), ((sz + 5), .inl (cI, a0Of .int 160)), ((sz + 6), .inl (cI, a0Of .int 4)), ((sz + 7), .inl (cI, a0Of .int 4)), ((sz + 8), m1A cI 4), ((sz + 9), .inl (cI, a0Of .int 5)), ((sz + 10), .inl (cI, a0Of .int 5)), ((sz + 11), .inl (cI, a0Of .int 5)), ((sz + 12), .inl (cI, a0Of .int 5)), ((sz + 13), m1A cI 20), ((sz + 14), .inl (cI, a0Of .int 1280)), ((sz + 15), .inl (cI, a0Of .int 8)), ((sz + 16), .inl (cI, a0Of .int 5)), ((sz + 17), .inl (cI, a0Of .int 5)), ((sz + 18), .inl (cI, a0Of .int 20)), ((sz + 19), .inl (cI, a0Of .int 4)), ((sz + 20), .inl (cI, a0Of .int 5)), ((sz + 21), .inl (cI, a0Of .int 5)), ((sz + 22), .inl (cI, a0Of .int 4)), ((sz + 23), .inl (cI, a0Of .int 160)), ((sz + 24), .inl (cI, a0Of .int 4)), ((sz + 25), .inl (cI, a0Of .int 50)), ((sz + 26), .inl (cI, a0Of .int 2500)), ((sz + 27), .inl (cI, a0Of .int 2500)), ((sz + 28), .inl (cI, a0Of .int 2500)), ((sz + 29), .inl (cI, a0Of .int 30)), ((sz + 30), .inl (cI, a0Of .int 4)), ((sz + 31), .inl (cI, a0Of .int 160)), ((sz + 32), .inl (cZ, a0Of .boolean 40)), ((sz + 33), .inl (cJ, a0Of .long 40)), ((sz + 34), .inl (cI, a0Of .int 4)), ((sz + 35), .inl (cI, a0Of .int 30)), ((sz + 36), .inl (cI, a0Of .int 160)), ((sz + 37), .inl (cZ, a0Of .boolean 40)), ((sz + 38), .inl (cJ, a0Of .long 40))]
set_option maxHeartbeats 40000000 in
set_option maxRecDepth 20000 in
theorem c_N12 (l : Launch) (D : va_G) (cI cJ cZ : ClassId) (q sz : Nat) : MN l D cI cJ cZ 12 yN12 cN12 1 1 21 39 10194 [] q sz (fsN12  sz) (wnN12 cI cJ cZ sz) := by
  refine nx_ofW (by decide +kernel) rfl ?_
  intro p e s m below meth c C hin2 hrt hlk hsz K hA
  have C : GN D cI cJ cZ (clE 12).1 cN12 1 p s m _ c := C
  have hl := lv_entry ([.ref q]) (n := 1) (Nat.le_of_ble_eq_true rfl)
  rw [lg_entry_eq]
  generalize (lg_sl ([.ref q]) ++ List.replicate (1 - (lg_sl ([.ref q])).length) Slot.unset).toArray = ls at hl ⊢
  have hl : lv_has ls 1 [(0, .ref q)] := hl
  have h0 := lv_at hl 0 rfl
  rw [fz_12] at K
  refine nx_obj (idx := 7) C h0 hl.1 (mG 1338 (by decide +kernel) rfl) (by decide +kernel) (by decide +kernel) ⟨Nat.le_of_ble_eq_true rfl, Nat.le_of_ble_eq_true rfl⟩ ?_
  obtain ⟨f0, g0⟩ : ∃ f : List Value, f = [.int 0, .null, .int 0, .int 0, .int 0, .int 0, .int 0, .int 0, .int 0, .null, .null, .null, .int 0, .int 0, .null, .int 0, .null, .int 0, .int 0, .int 0, .int 0, .int 0, .int 0, .null, .null, .null, .null, .null, .null, .null, .null, .int 0, .null, .null, .null, .null, .null, .null, .int 0, .null, .null, .null, .null, .null, .null, .null, .null, .null, .null, .int 0, .null, .long 0, .int 0, .null, .null, .null, .int 0, .int 0, .int 0, .long 0, .null, .null, .null, .null, .null] := ⟨_, rfl⟩
  have L0 : f0.length = 65 := by rw [g0]; rfl
  have F0 := g0
  rw [← g0] at K
  refine nx_na C hin2 K hA h0 3 160 1 13 .int rfl (by decide +kernel) fd_12_1_13 (fun _ => ⟨rfl, rfl⟩) (by rw [L0]; decide) ⟨Nat.le_of_ble_eq_true rfl, Nat.le_of_ble_eq_true rfl⟩ (fun H locs K => ?_)
  obtain ⟨f1, g1⟩ : ∃ f : List Value, f = f0.set 1 (.ref sz) := ⟨_, rfl⟩
  have L1 : f1.length = 65 := by rw [g1, List.length_set, L0]
  obtain ⟨w1, e1⟩ : ∃ w : va_W, w = ([] : va_W) ++ [(sz, .inl (cI, a0Of .int 160))] := ⟨_, rfl⟩
  have K : NH D (AN q sz) s.heap H locs ((q, .inr (12, f0.set 1 (.ref sz))) :: (([] : va_W) ++ [(sz, .inl (cI, a0Of .int 160))])) (sz + 1) := K
  rw [← g1] at K
  have F1 : f1 = [.int 0, .ref sz, .int 0, .int 0, .int 0, .int 0, .int 0, .int 0, .int 0, .null, .null, .null, .int 0, .int 0, .null, .int 0, .null, .int 0, .int 0, .int 0, .int 0, .int 0, .int 0, .null, .null, .null, .null, .null, .null, .null, .null, .int 0, .null, .null, .null, .null, .null, .null, .int 0, .null, .null, .null, .null, .null, .null, .null, .null, .null, .null, .int 0, .null, .long 0, .int 0, .null, .null, .null, .int 0, .int 0, .int 0, .long 0, .null, .null, .null, .null, .null] := by rw [g1, F0]; rfl
  rw [← e1] at K
  refine nx_na C hin2 K hA h0 2 8 9 17 .int rfl (by decide +kernel) fd_12_9_17 (fun _ => ⟨rfl, rfl⟩) (by rw [L1]; decide) ⟨Nat.le_of_ble_eq_true rfl, Nat.le_of_ble_eq_true rfl⟩ (fun H locs K => ?_)
  obtain ⟨f2, g2⟩ : ∃ f : List Value, f = f1.set 9 (.ref (sz + 1)) := ⟨_, rfl⟩
  have L2 : f2.length = 65 := by rw [g2, List.length_set, L1]
  obtain ⟨w2, e2⟩ : ∃ w : va_W, w = w1 ++ [((sz + 1), .inl (cI, a0Of .int 8))] := ⟨_, rfl⟩
  have K : NH D (AN q sz) s.heap H locs ((q, .inr (12, f1.set 9 (.ref (sz + 1)))) :: (w1 ++ [((sz + 1), .inl (cI, a0Of .int 8))])) (sz + 2) := K
  rw [← g2] at K
  have F2 : f2 = [.int 0, .ref sz, .int 0, .int 0, .int 0, .int 0, .int 0, .int 0, .int 0, .ref (sz + 1), .null, .null, .int 0, .int 0, .null, .int 0, .null, .int 0, .int 0, .int 0, .int 0, .int 0, .int 0, .null, .null, .null, .null, .null, .null, .null, .null, .int 0, .null, .null, .null, .null, .null, .null, .int 0, .null, .null, .null, .null, .null, .null, .null, .null, .null, .null, .int 0, .null, .long 0, .int 0, .null, .null, .null, .int 0, .int 0, .int 0, .long 0, .null, .null, .null, .null, .null] := by rw [g2, F1]; rfl
  rw [← e2] at K
  refine nx_na C hin2 K hA h0 2 20 10 20 .int rfl (by decide +kernel) fd_12_10_20 (fun _ => ⟨rfl, rfl⟩) (by rw [L2]; decide) ⟨Nat.le_of_ble_eq_true rfl, Nat.le_of_ble_eq_true rfl⟩ (fun H locs K => ?_)
  obtain ⟨f3, g3⟩ : ∃ f : List Value, f = f2.set 10 (.ref (sz + 2)) := ⟨_, rfl⟩
  have L3 : f3.length = 65 := by rw [g3, List.length_set, L2]
  obtain ⟨w3, e3⟩ : ∃ w : va_W, w = w2 ++ [((sz + 2), .inl (cI, a0Of .int 20))] := ⟨_, rfl⟩
  have K : NH D (AN q sz) s.heap H locs ((q, .inr (12, f2.set 10 (.ref (sz + 2)))) :: (w2 ++ [((sz + 2), .inl (cI, a0Of .int 20))])) (sz + 3) := K
  rw [← g3] at K
  have F3 : f3 = [.int 0, .ref sz, .int 0, .int 0, .int 0, .int 0, .int 0, .int 0, .int 0, .ref (sz + 1), .ref (sz + 2), .null, .int 0, .int 0, .null, .int 0, .null, .int 0, .int 0, .int 0, .int 0, .int 0, .int 0, .null, .null, .null, .null, .null, .null, .null, .null, .int 0, .null, .null, .null, .null, .null, .null, .int 0, .null, .null, .null, .null, .null, .null, .null, .null, .null, .null, .int 0, .null, .long 0, .int 0, .null, .null, .null, .int 0, .int 0, .int 0, .long 0, .null, .null, .null, .null, .null] := by rw [g3, F2]; rfl
  rw [← e3] at K
  refine nx_na C hin2 K hA h0 2 36 11 23 .int rfl (by decide +kernel) fd_12_11_23 (fun _ => ⟨rfl, rfl⟩) (by rw [L3]; decide) ⟨Nat.le_of_ble_eq_true rfl, Nat.le_of_ble_eq_true rfl⟩ (fun H locs K => ?_)
  obtain ⟨f4, g4⟩ : ∃ f : List Value, f = f3.set 11 (.ref (sz + 3)) := ⟨_, rfl⟩
  have L4 : f4.length = 65 := by rw [g4, List.length_set, L3]
  obtain ⟨w4, e4⟩ : ∃ w : va_W, w = w3 ++ [((sz + 3), .inl (cI, a0Of .int 36))] := ⟨_, rfl⟩
  have K : NH D (AN q sz) s.heap H locs ((q, .inr (12, f3.set 11 (.ref (sz + 3)))) :: (w3 ++ [((sz + 3), .inl (cI, a0Of .int 36))])) (sz + 4) := K
  rw [← g4] at K
  have F4 : f4 = [.int 0, .ref sz, .int 0, .int 0, .int 0, .int 0, .int 0, .int 0, .int 0, .ref (sz + 1), .ref (sz + 2), .ref (sz + 3), .int 0, .int 0, .null, .int 0, .null, .int 0, .int 0, .int 0, .int 0, .int 0, .int 0, .null, .null, .null, .null, .null, .null, .null, .null, .int 0, .null, .null, .null, .null, .null, .null, .int 0, .null, .null, .null, .null, .null, .null, .null, .null, .null, .null, .int 0, .null, .long 0, .int 0, .null, .null, .null, .int 0, .int 0, .int 0, .long 0, .null, .null, .null, .null, .null] := by rw [g4, F3]; rfl
  rw [← e4] at K
  refine nx_na C hin2 K hA h0 3 160 14 26 .int rfl (by decide +kernel) fd_12_14_26 (fun _ => ⟨rfl, rfl⟩) (by rw [L4]; decide) ⟨Nat.le_of_ble_eq_true rfl, Nat.le_of_ble_eq_true rfl⟩ (fun H locs K => ?_)
  obtain ⟨f5, g5⟩ : ∃ f : List Value, f = f4.set 14 (.ref (sz + 4)) := ⟨_, rfl⟩
  have L5 : f5.length = 65 := by rw [g5, List.length_set, L4]
  obtain ⟨w5, e5⟩ : ∃ w : va_W, w = w4 ++ [((sz + 4), .inl (cI, a0Of .int 160))] := ⟨_, rfl⟩
  have K : NH D (AN q sz) s.heap H locs ((q, .inr (12, f4.set 14 (.ref (sz + 4)))) :: (w4 ++ [((sz + 4), .inl (cI, a0Of .int 160))])) (sz + 5) := K
  rw [← g5] at K
  have F5 : f5 = [.int 0, .ref sz, .int 0, .int 0, .int 0, .int 0, .int 0, .int 0, .int 0, .ref (sz + 1), .ref (sz + 2), .ref (sz + 3), .int 0, .int 0, .ref (sz + 4), .int 0, .null, .int 0, .int 0, .int 0, .int 0, .int 0, .int 0, .null, .null, .null, .null, .null, .null, .null, .null, .int 0, .null, .null, .null, .null, .null, .null, .int 0, .null, .null, .null, .null, .null, .null, .null, .null, .null, .null, .int 0, .null, .long 0, .int 0, .null, .null, .null, .int 0, .int 0, .int 0, .long 0, .null, .null, .null, .null, .null] := by rw [g5, F4]; rfl
  rw [← e5] at K
  refine nx_na C hin2 K hA h0 3 160 16 29 .int rfl (by decide +kernel) fd_12_16_29 (fun _ => ⟨rfl, rfl⟩) (by rw [L5]; decide) ⟨Nat.le_of_ble_eq_true rfl, Nat.le_of_ble_eq_true rfl⟩ (fun H locs K => ?_)
  obtain ⟨f6, g6⟩ : ∃ f : List Value, f = f5.set 16 (.ref (sz + 5)) := ⟨_, rfl⟩
  have L6 : f6.length = 65 := by rw [g6, List.length_set, L5]
  obtain ⟨w6, e6⟩ : ∃ w : va_W, w = w5 ++ [((sz + 5), .inl (cI, a0Of .int 160))] := ⟨_, rfl⟩
  have K : NH D (AN q sz) s.heap H locs ((q, .inr (12, f5.set 16 (.ref (sz + 5)))) :: (w5 ++ [((sz + 5), .inl (cI, a0Of .int 160))])) (sz + 6) := K
  rw [← g6] at K
  have F6 : f6 = [.int 0, .ref sz, .int 0, .int 0, .int 0, .int 0, .int 0, .int 0, .int 0, .ref (sz + 1), .ref (sz + 2), .ref (sz + 3), .int 0, .int 0, .ref (sz + 4), .int 0, .ref (sz + 5), .int 0, .int 0, .int 0, .int 0, .int 0, .int 0, .null, .null, .null, .null, .null, .null, .null, .null, .int 0, .null, .null, .null, .null, .null, .null, .int 0, .null, .null, .null, .null, .null, .null, .null, .null, .null, .null, .int 0, .null, .long 0, .int 0, .null, .null, .null, .int 0, .int 0, .int 0, .long 0, .null, .null, .null, .null, .null] := by rw [g6, F5]; rfl
  rw [← e6] at K
  refine nx_na C hin2 K hA h0 1 4 23 32 .int rfl (by decide +kernel) fd_12_23_32 (fun _ => ⟨rfl, rfl⟩) (by rw [L6]; decide) ⟨Nat.le_of_ble_eq_true rfl, Nat.le_of_ble_eq_true rfl⟩ (fun H locs K => ?_)
  obtain ⟨f7, g7⟩ : ∃ f : List Value, f = f6.set 23 (.ref (sz + 6)) := ⟨_, rfl⟩
  have L7 : f7.length = 65 := by rw [g7, List.length_set, L6]
  obtain ⟨w7, e7⟩ : ∃ w : va_W, w = w6 ++ [((sz + 6), .inl (cI, a0Of .int 4))] := ⟨_, rfl⟩
  have K : NH D (AN q sz) s.heap H locs ((q, .inr (12, f6.set 23 (.ref (sz + 6)))) :: (w6 ++ [((sz + 6), .inl (cI, a0Of .int 4))])) (sz + 7) := K
  rw [← g7] at K
  have F7 : f7 = [.int 0, .ref sz, .int 0, .int 0, .int 0, .int 0, .int 0, .int 0, .int 0, .ref (sz + 1), .ref (sz + 2), .ref (sz + 3), .int 0, .int 0, .ref (sz + 4), .int 0, .ref (sz + 5), .int 0, .int 0, .int 0, .int 0, .int 0, .int 0, .ref (sz + 6), .null, .null, .null, .null, .null, .null, .null, .int 0, .null, .null, .null, .null, .null, .null, .int 0, .null, .null, .null, .null, .null, .null, .null, .null, .null, .null, .int 0, .null, .long 0, .int 0, .null, .null, .null, .int 0, .int 0, .int 0, .long 0, .null, .null, .null, .null, .null] := by rw [g7, F6]; rfl
  rw [← e7] at K
  refine nx_na C hin2 K hA h0 1 4 24 35 .int rfl (by decide +kernel) fd_12_24_35 (fun _ => ⟨rfl, rfl⟩) (by rw [L7]; decide) ⟨Nat.le_of_ble_eq_true rfl, Nat.le_of_ble_eq_true rfl⟩ (fun H locs K => ?_)
  obtain ⟨f8, g8⟩ : ∃ f : List Value, f = f7.set 24 (.ref (sz + 7)) := ⟨_, rfl⟩
  have L8 : f8.length = 65 := by rw [g8, List.length_set, L7]
  obtain ⟨w8, e8⟩ : ∃ w : va_W, w = w7 ++ [((sz + 7), .inl (cI, a0Of .int 4))] := ⟨_, rfl⟩
  have K : NH D (AN q sz) s.heap H locs ((q, .inr (12, f7.set 24 (.ref (sz + 7)))) :: (w7 ++ [((sz + 7), .inl (cI, a0Of .int 4))])) (sz + 8) := K
  rw [← g8] at K
  have F8 : f8 = [.int 0, .ref sz, .int 0, .int 0, .int 0, .int 0, .int 0, .int 0, .int 0, .ref (sz + 1), .ref (sz + 2), .ref (sz + 3), .int 0, .int 0, .ref (sz + 4), .int 0, .ref (sz + 5), .int 0, .int 0, .int 0, .int 0, .int 0, .int 0, .ref (sz + 6), .ref (sz + 7), .null, .null, .null, .null, .null, .null, .int 0, .null, .null, .null, .null, .null, .null, .int 0, .null, .null, .null, .null, .null, .null, .null, .null, .null, .null, .int 0, .null, .long 0, .int 0, .null, .null, .null, .int 0, .int 0, .int 0, .long 0, .null, .null, .null, .null, .null] := by rw [g8, F7]; rfl
  rw [← e8] at K
  refine nx_na C hin2 K hA h0 1 4 25 38 .int rfl (by decide +kernel) fd_12_25_38 (fun _ => ⟨rfl, rfl⟩) (by rw [L8]; decide) ⟨Nat.le_of_ble_eq_true rfl, Nat.le_of_ble_eq_true rfl⟩ (fun H locs K => ?_)
  obtain ⟨f9, g9⟩ : ∃ f : List Value, f = f8.set 25 (.ref (sz + 8)) := ⟨_, rfl⟩
  have L9 : f9.length = 65 := by rw [g9, List.length_set, L8]
  obtain ⟨w9, e9⟩ : ∃ w : va_W, w = w8 ++ [((sz + 8), .inl (cI, a0Of .int 4))] := ⟨_, rfl⟩
  have K : NH D (AN q sz) s.heap H locs ((q, .inr (12, f8.set 25 (.ref (sz + 8)))) :: (w8 ++ [((sz + 8), .inl (cI, a0Of .int 4))])) (sz + 9) := K
  rw [← g9] at K
  have F9 : f9 = [.int 0, .ref sz, .int 0, .int 0, .int 0, .int 0, .int 0, .int 0, .int 0, .ref (sz + 1), .ref (sz + 2), .ref (sz + 3), .int 0, .int 0, .ref (sz + 4), .int 0, .ref (sz + 5), .int 0, .int 0, .int 0, .int 0, .int 0, .int 0, .ref (sz + 6), .ref (sz + 7), .ref (sz + 8), .null, .null, .null, .null, .null, .int 0, .null, .null, .null, .null, .null, .null, .int 0, .null, .null, .null, .null, .null, .null, .null, .null, .null, .null, .int 0, .null, .long 0, .int 0, .null, .null, .null, .int 0, .int 0, .int 0, .long 0, .null, .null, .null, .null, .null] := by rw [g9, F8]; rfl
  rw [← e9] at K
  refine nx_na C hin2 K hA h0 1 5 26 41 .int rfl (by decide +kernel) fd_12_26_41 (fun _ => ⟨rfl, rfl⟩) (by rw [L9]; decide) ⟨Nat.le_of_ble_eq_true rfl, Nat.le_of_ble_eq_true rfl⟩ (fun H locs K => ?_)
  obtain ⟨f10, g10⟩ : ∃ f : List Value, f = f9.set 26 (.ref (sz + 9)) := ⟨_, rfl⟩
  have L10 : f10.length = 65 := by rw [g10, List.length_set, L9]
  obtain ⟨w10, e10⟩ : ∃ w : va_W, w = w9 ++ [((sz + 9), .inl (cI, a0Of .int 5))] := ⟨_, rfl⟩
  have K : NH D (AN q sz) s.heap H locs ((q, .inr (12, f9.set 26 (.ref (sz + 9)))) :: (w9 ++ [((sz + 9), .inl (cI, a0Of .int 5))])) (sz + 10) := K
  rw [← g10] at K
  have F10 : f10 = [.int 0, .ref sz, .int 0, .int 0, .int 0, .int 0, .int 0, .int 0, .int 0, .ref (sz + 1), .ref (sz + 2), .ref (sz + 3), .int 0, .int 0, .ref (sz + 4), .int 0, .ref (sz + 5), .int 0, .int 0, .int 0, .int 0, .int 0, .int 0, .ref (sz + 6), .ref (sz + 7), .ref (sz + 8), .ref (sz + 9), .null, .null, .null, .null, .int 0, .null, .null, .null, .null, .null, .null, .int 0, .null, .null, .null, .null, .null, .null, .null, .null, .null, .null, .int 0, .null, .long 0, .int 0, .null, .null, .null, .int 0, .int 0, .int 0, .long 0, .null, .null, .null, .null, .null] := by rw [g10, F9]; rfl
  rw [← e10] at K
  refine nx_na C hin2 K hA h0 1 5 27 44 .int rfl (by decide +kernel) fd_12_27_44 (fun _ => ⟨rfl, rfl⟩) (by rw [L10]; decide) ⟨Nat.le_of_ble_eq_true rfl, Nat.le_of_ble_eq_true rfl⟩ (fun H locs K => ?_)
  obtain ⟨f11, g11⟩ : ∃ f : List Value, f = f10.set 27 (.ref (sz + 10)) := ⟨_, rfl⟩
  have L11 : f11.length = 65 := by rw [g11, List.length_set, L10]
  obtain ⟨w11, e11⟩ : ∃ w : va_W, w = w10 ++ [((sz + 10), .inl (cI, a0Of .int 5))] := ⟨_, rfl⟩
  have K : NH D (AN q sz) s.heap H locs ((q, .inr (12, f10.set 27 (.ref (sz + 10)))) :: (w10 ++ [((sz + 10), .inl (cI, a0Of .int 5))])) (sz + 11) := K
  rw [← g11] at K
  have F11 : f11 = [.int 0, .ref sz, .int 0, .int 0, .int 0, .int 0, .int 0, .int 0, .int 0, .ref (sz + 1), .ref (sz + 2), .ref (sz + 3), .int 0, .int 0, .ref (sz + 4), .int 0, .ref (sz + 5), .int 0, .int 0, .int 0, .int 0, .int 0, .int 0, .ref (sz + 6), .ref (sz + 7), .ref (sz + 8), .ref (sz + 9), .ref (sz + 10), .null, .null, .null, .int 0, .null, .null, .null, .null, .null, .null, .int 0, .null, .null, .null, .null, .null, .null, .null, .null, .null, .null, .int 0, .null, .long 0, .int 0, .null, .null, .null, .int 0, .int 0, .int 0, .long 0, .null, .null, .null, .null, .null] := by rw [g11, F10]; rfl
  rw [← e11] at K
  refine nx_na C hin2 K hA h0 1 5 28 47 .int rfl (by decide +kernel) fd_12_28_47 (fun _ => ⟨rfl, rfl⟩) (by rw [L11]; decide) ⟨Nat.le_of_ble_eq_true rfl, Nat.le_of_ble_eq_true rfl⟩ (fun H locs K => ?_)
  obtain ⟨f12, g12⟩ : ∃ f : List Value, f = f11.set 28 (.ref (sz + 11)) := ⟨_, rfl⟩
  have L12 : f12.length = 65 := by rw [g12, List.length_set, L11]
  obtain ⟨w12, e12⟩ : ∃ w : va_W, w = w11 ++ [((sz + 11), .inl (cI, a0Of .int 5))] := ⟨_, rfl⟩
  have K : NH D (AN q sz) s.heap H locs ((q, .inr (12, f11.set 28 (.ref (sz + 11)))) :: (w11 ++ [((sz + 11), .inl (cI, a0Of .int 5))])) (sz + 12) := K
  rw [← g12] at K
  have F12 : f12 = [.int 0, .ref sz, .int 0, .int 0, .int 0, .int 0, .int 0, .int 0, .int 0, .ref (sz + 1), .ref (sz + 2), .ref (sz + 3), .int 0, .int 0, .ref (sz + 4), .int 0, .ref (sz + 5), .int 0, .int 0, .int 0, .int 0, .int 0, .int 0, .ref (sz + 6), .ref (sz + 7), .ref (sz + 8), .ref (sz + 9), .ref (sz + 10), .ref (sz + 11), .null, .null, .int 0, .null, .null, .null, .null, .null, .null, .int 0, .null, .null, .null, .null, .null, .null, .null, .null, .null, .null, .int 0, .null, .long 0, .int 0, .null, .null, .null, .int 0, .int 0, .int 0, .long 0, .null, .null, .null, .null, .null] := by rw [g12, F11]; rfl
  rw [← e12] at K
  refine nx_na C hin2 K hA h0 1 5 29 50 .int rfl (by decide +kernel) fd_12_29_50 (fun _ => ⟨rfl, rfl⟩) (by rw [L12]; decide) ⟨Nat.le_of_ble_eq_true rfl, Nat.le_of_ble_eq_true rfl⟩ (fun H locs K => ?_)
  obtain ⟨f13, g13⟩ : ∃ f : List Value, f = f12.set 29 (.ref (sz + 12)) := ⟨_, rfl⟩
  have L13 : f13.length = 65 := by rw [g13, List.length_set, L12]
  obtain ⟨w13, e13⟩ : ∃ w : va_W, w = w12 ++ [((sz + 12), .inl (cI, a0Of .int 5))] := ⟨_, rfl⟩
  have K : NH D (AN q sz) s.heap H locs ((q, .inr (12, f12.set 29 (.ref (sz + 12)))) :: (w12 ++ [((sz + 12), .inl (cI, a0Of .int 5))])) (sz + 13) := K
  rw [← g13] at K
  have F13 : f13 = [.int 0, .ref sz, .int 0, .int 0, .int 0, .int 0, .int 0, .int 0, .int 0, .ref (sz + 1), .ref (sz + 2), .ref (sz + 3), .int 0, .int 0, .ref (sz + 4), .int 0, .ref (sz + 5), .int 0, .int 0, .int 0, .int 0, .int 0, .int 0, .ref (sz + 6), .ref (sz + 7), .ref (sz + 8), .ref (sz + 9), .ref (sz + 10), .ref (sz + 11), .ref (sz + 12), .null, .int 0, .null, .null, .null, .null, .null, .null, .int 0, .null, .null, .null, .null, .null, .null, .null, .null, .null, .null, .int 0, .null, .long 0, .int 0, .null, .null, .null, .int 0, .int 0, .int 0, .long 0, .null, .null, .null, .null, .null] := by rw [g13, F12]; rfl
  rw [← e13] at K
  refine nx_na C hin2 K hA h0 2 20 30 53 .int rfl (by decide +kernel) fd_12_30_53 (fun _ => ⟨rfl, rfl⟩) (by rw [L13]; decide) ⟨Nat.le_of_ble_eq_true rfl, Nat.le_of_ble_eq_true rfl⟩ (fun H locs K => ?_)
  obtain ⟨f14, g14⟩ : ∃ f : List Value, f = f13.set 30 (.ref (sz + 13)) := ⟨_, rfl⟩
  have L14 : f14.length = 65 := by rw [g14, List.length_set, L13]
  obtain ⟨w14, e14⟩ : ∃ w : va_W, w = w13 ++ [((sz + 13), .inl (cI, a0Of .int 20))] := ⟨_, rfl⟩
  have K : NH D (AN q sz) s.heap H locs ((q, .inr (12, f13.set 30 (.ref (sz + 13)))) :: (w13 ++ [((sz + 13), .inl (cI, a0Of .int 20))])) (sz + 14) := K
  rw [← g14] at K
  have F14 : f14 = [.int 0, .ref sz, .int 0, .int 0, .int 0, .int 0, .int 0, .int 0, .int 0, .ref (sz + 1), .ref (sz + 2), .ref (sz + 3), .int 0, .int 0, .ref (sz + 4), .int 0, .ref (sz + 5), .int 0, .int 0, .int 0, .int 0, .int 0, .int 0, .ref (sz + 6), .ref (sz + 7), .ref (sz + 8), .ref (sz + 9), .ref (sz + 10), .ref (sz + 11), .ref (sz + 12), .ref (sz + 13), .int 0, .null, .null, .null, .null, .null, .null, .int 0, .null, .null, .null, .null, .null, .null, .null, .null, .null, .null, .int 0, .null, .long 0, .int 0, .null, .null, .null, .int 0, .int 0, .int 0, .long 0, .null, .null, .null, .null, .null] := by rw [g14, F13]; rfl
  rw [← e14] at K
  refine nx_na C hin2 K hA h0 3 1280 32 56 .int rfl (by decide +kernel) fd_12_32_56 (fun _ => ⟨rfl, rfl⟩) (by rw [L14]; decide) ⟨Nat.le_of_ble_eq_true rfl, Nat.le_of_ble_eq_true rfl⟩ (fun H locs K => ?_)
  obtain ⟨f15, g15⟩ : ∃ f : List Value, f = f14.set 32 (.ref (sz + 14)) := ⟨_, rfl⟩
  have L15 : f15.length = 65 := by rw [g15, List.length_set, L14]
  obtain ⟨w15, e15⟩ : ∃ w : va_W, w = w14 ++ [((sz + 14), .inl (cI, a0Of .int 1280))] := ⟨_, rfl⟩
  have K : NH D (AN q sz) s.heap H locs ((q, .inr (12, f14.set 32 (.ref (sz + 14)))) :: (w14 ++ [((sz + 14), .inl (cI, a0Of .int 1280))])) (sz + 15) := K
  rw [← g15] at K
  have F15 : f15 = [.int 0, .ref sz, .int 0, .int 0, .int 0, .int 0, .int 0, .int 0, .int 0, .ref (sz + 1), .ref (sz + 2), .ref (sz + 3), .int 0, .int 0, .ref (sz + 4), .int 0, .ref (sz + 5), .int 0, .int 0, .int 0, .int 0, .int 0, .int 0, .ref (sz + 6), .ref (sz + 7), .ref (sz + 8), .ref (sz + 9), .ref (sz + 10), .ref (sz + 11), .ref (sz + 12), .ref (sz + 13), .int 0, .ref (sz + 14), .null, .null, .null, .null, .null, .int 0, .null, .null, .null, .null, .null, .null, .null, .null, .null, .null, .int 0, .null, .long 0, .int 0, .null, .null, .null, .int 0, .int 0, .int 0, .long 0, .null, .null, .null, .null, .null] := by rw [g15, F14]; rfl
  rw [← e15] at K
  refine nx_na C hin2 K hA h0 2 8 33 59 .int rfl (by decide +kernel) fd_12_33_59 (fun _ => ⟨rfl, rfl⟩) (by rw [L15]; decide) ⟨Nat.le_of_ble_eq_true rfl, Nat.le_of_ble_eq_true rfl⟩ (fun H locs K => ?_)
  obtain ⟨f16, g16⟩ : ∃ f : List Value, f = f15.set 33 (.ref (sz + 15)) := ⟨_, rfl⟩
  have L16 : f16.length = 65 := by rw [g16, List.length_set, L15]
  obtain ⟨w16, e16⟩ : ∃ w : va_W, w = w15 ++ [((sz + 15), .inl (cI, a0Of .int 8))] := ⟨_, rfl⟩
  have K : NH D (AN q sz) s.heap H locs ((q, .inr (12, f15.set 33 (.ref (sz + 15)))) :: (w15 ++ [((sz + 15), .inl (cI, a0Of .int 8))])) (sz + 16) := K
  rw [← g16] at K
  have F16 : f16 = [.int 0, .ref sz, .int 0, .int 0, .int 0, .int 0, .int 0, .int 0, .int 0, .ref (sz + 1), .ref (sz + 2), .ref (sz + 3), .int 0, .int 0, .ref (sz + 4), .int 0, .ref (sz + 5), .int 0, .int 0, .int 0, .int 0, .int 0, .int 0, .ref (sz + 6), .ref (sz + 7), .ref (sz + 8), .ref (sz + 9), .ref (sz + 10), .ref (sz + 11), .ref (sz + 12), .ref (sz + 13), .int 0, .ref (sz + 14), .ref (sz + 15), .null, .null, .null, .null, .int 0, .null, .null, .null, .null, .null, .null, .null, .null, .null, .null, .int 0, .null, .long 0, .int 0, .null, .null, .null, .int 0, .int 0, .int 0, .long 0, .null, .null, .null, .null, .null] := by rw [g16, F15]; rfl
  rw [← e16] at K
  refine nx_na C hin2 K hA h0 1 5 34 62 .int rfl (by decide +kernel) fd_12_34_62 (fun _ => ⟨rfl, rfl⟩) (by rw [L16]; decide) ⟨Nat.le_of_ble_eq_true rfl, Nat.le_of_ble_eq_true rfl⟩ (fun H locs K => ?_)
  obtain ⟨f17, g17⟩ : ∃ f : List Value, f = f16.set 34 (.ref (sz + 16)) := ⟨_, rfl⟩
  have L17 : f17.length = 65 := by rw [g17, List.length_set, L16]
  obtain ⟨w17, e17⟩ : ∃ w : va_W, w = w16 ++ [((sz + 16), .inl (cI, a0Of .int 5))] := ⟨_, rfl⟩
  have K : NH D (AN q sz) s.heap H locs ((q, .inr (12, f16.set 34 (.ref (sz + 16)))) :: (w16 ++ [((sz + 16), .inl (cI, a0Of .int 5))])) (sz + 17) := K
  rw [← g17] at K
  have F17 : f17 = [.int 0, .ref sz, .int 0, .int 0, .int 0, .int 0, .int 0, .int 0, .int 0, .ref (sz + 1), .ref (sz + 2), .ref (sz + 3), .int 0, .int 0, .ref (sz + 4), .int 0, .ref (sz + 5), .int 0, .int 0, .int 0, .int 0, .int 0, .int 0, .ref (sz + 6), .ref (sz + 7), .ref (sz + 8), .ref (sz + 9), .ref (sz + 10), .ref (sz + 11), .ref (sz + 12), .ref (sz + 13), .int 0, .ref (sz + 14), .ref (sz + 15), .ref (sz + 16), .null, .null, .null, .int 0, .null, .null, .null, .null, .null, .null, .null, .null, .null, .null, .int 0, .null, .long 0, .int 0, .null, .null, .null, .int 0, .int 0, .int 0, .long 0, .null, .null, .null, .null, .null] := by rw [g17, F16]; rfl
  rw [← e17] at K
  refine nx_na C hin2 K hA h0 1 5 35 65 .int rfl (by decide +kernel) fd_12_35_65 (fun _ => ⟨rfl, rfl⟩) (by rw [L17]; decide) ⟨Nat.le_of_ble_eq_true rfl, Nat.le_of_ble_eq_true rfl⟩ (fun H locs K => ?_)
  obtain ⟨f18, g18⟩ : ∃ f : List Value, f = f17.set 35 (.ref (sz + 17)) := ⟨_, rfl⟩
  have L18 : f18.length = 65 := by rw [g18, List.length_set, L17]
  obtain ⟨w18, e18⟩ : ∃ w : va_W, w = w17 ++ [((sz + 17), .inl (cI, a0Of .int 5))] := ⟨_, rfl⟩
  have K : NH D (AN q sz) s.heap H locs ((q, .inr (12, f17.set 35 (.ref (sz + 17)))) :: (w17 ++ [((sz + 17), .inl (cI, a0Of .int 5))])) (sz + 18) := K
  rw [← g18] at K
  have F18 : f18 = [.int 0, .ref sz, .int 0, .int 0, .int 0, .int 0, .int 0, .int 0, .int 0, .ref (sz + 1), .ref (sz + 2), .ref (sz + 3), .int 0, .int 0, .ref (sz + 4), .int 0, .ref (sz + 5), .int 0, .int 0, .int 0, .int 0, .int 0, .int 0, .ref (sz + 6), .ref (sz + 7), .ref (sz + 8), .ref (sz + 9), .ref (sz + 10), .ref (sz + 11), .ref (sz + 12), .ref (sz + 13), .int 0, .ref (sz + 14), .ref (sz + 15), .ref (sz + 16), .ref (sz + 17), .null, .null, .int 0, .null, .null, .null, .null, .null, .null, .null, .null, .null, .null, .int 0, .null, .long 0, .int 0, .null, .null, .null, .int 0, .int 0, .int 0, .long 0, .null, .null, .null, .null, .null] := by rw [g18, F17]; rfl
  rw [← e18] at K
  refine nx_na C hin2 K hA h0 2 20 36 68 .int rfl (by decide +kernel) fd_12_36_68 (fun _ => ⟨rfl, rfl⟩) (by rw [L18]; decide) ⟨Nat.le_of_ble_eq_true rfl, Nat.le_of_ble_eq_true rfl⟩ (fun H locs K => ?_)
  obtain ⟨f19, g19⟩ : ∃ f : List Value, f = f18.set 36 (.ref (sz + 18)) := ⟨_, rfl⟩
  have L19 : f19.length = 65 := by rw [g19, List.length_set, L18]
  obtain ⟨w19, e19⟩ : ∃ w : va_W, w = w18 ++ [((sz + 18), .inl (cI, a0Of .int 20))] := ⟨_, rfl⟩
  have K : NH D (AN q sz) s.heap H locs ((q, .inr (12, f18.set 36 (.ref (sz + 18)))) :: (w18 ++ [((sz + 18), .inl (cI, a0Of .int 20))])) (sz + 19) := K
  rw [← g19] at K
  have F19 : f19 = [.int 0, .ref sz, .int 0, .int 0, .int 0, .int 0, .int 0, .int 0, .int 0, .ref (sz + 1), .ref (sz + 2), .ref (sz + 3), .int 0, .int 0, .ref (sz + 4), .int 0, .ref (sz + 5), .int 0, .int 0, .int 0, .int 0, .int 0, .int 0, .ref (sz + 6), .ref (sz + 7), .ref (sz + 8), .ref (sz + 9), .ref (sz + 10), .ref (sz + 11), .ref (sz + 12), .ref (sz + 13), .int 0, .ref (sz + 14), .ref (sz + 15), .ref (sz + 16), .ref (sz + 17), .ref (sz + 18), .null, .int 0, .null, .null, .null, .null, .null, .null, .null, .null, .null, .null, .int 0, .null, .long 0, .int 0, .null, .null, .null, .int 0, .int 0, .int 0, .long 0, .null, .null, .null, .null, .null] := by rw [g19, F18]; rfl
  rw [← e19] at K
  refine nx_na C hin2 K hA h0 1 4 37 71 .int rfl (by decide +kernel) fd_12_37_71 (fun _ => ⟨rfl, rfl⟩) (by rw [L19]; decide) ⟨Nat.le_of_ble_eq_true rfl, Nat.le_of_ble_eq_true rfl⟩ (fun H locs K => ?_)
  obtain ⟨f20, g20⟩ : ∃ f : List Value, f = f19.set 37 (.ref (sz + 19)) := ⟨_, rfl⟩
  have L20 : f20.length = 65 := by rw [g20, List.length_set, L19]
  obtain ⟨w20, e20⟩ : ∃ w : va_W, w = w19 ++ [((sz + 19), .inl (cI, a0Of .int 4))] := ⟨_, rfl⟩
  have K : NH D (AN q sz) s.heap H locs ((q, .inr (12, f19.set 37 (.ref (sz + 19)))) :: (w19 ++ [((sz + 19), .inl (cI, a0Of .int 4))])) (sz + 20) := K
  rw [← g20] at K
  have F20 : f20 = [.int 0, .ref sz, .int 0, .int 0, .int 0, .int 0, .int 0, .int 0, .int 0, .ref (sz + 1), .ref (sz + 2), .ref (sz + 3), .int 0, .int 0, .ref (sz + 4), .int 0, .ref (sz + 5), .int 0, .int 0, .int 0, .int 0, .int 0, .int 0, .ref (sz + 6), .ref (sz + 7), .ref (sz + 8), .ref (sz + 9), .ref (sz + 10), .ref (sz + 11), .ref (sz + 12), .ref (sz + 13), .int 0, .ref (sz + 14), .ref (sz + 15), .ref (sz + 16), .ref (sz + 17), .ref (sz + 18), .ref (sz + 19), .int 0, .null, .null, .null, .null, .null, .null, .null, .null, .null, .null, .int 0, .null, .long 0, .int 0, .null, .null, .null, .int 0, .int 0, .int 0, .long 0, .null, .null, .null, .null, .null] := by rw [g20, F19]; rfl
  rw [← e20] at K
  refine nx_na C hin2 K hA h0 1 5 39 74 .int rfl (by decide +kernel) fd_12_39_74 (fun _ => ⟨rfl, rfl⟩) (by rw [L20]; decide) ⟨Nat.le_of_ble_eq_true rfl, Nat.le_of_ble_eq_true rfl⟩ (fun H locs K => ?_)
  obtain ⟨f21, g21⟩ : ∃ f : List Value, f = f20.set 39 (.ref (sz + 20)) := ⟨_, rfl⟩
  have L21 : f21.length = 65 := by rw [g21, List.length_set, L20]
  obtain ⟨w21, e21⟩ : ∃ w : va_W, w = w20 ++ [((sz + 20), .inl (cI, a0Of .int 5))] := ⟨_, rfl⟩
  have K : NH D (AN q sz) s.heap H locs ((q, .inr (12, f20.set 39 (.ref (sz + 20)))) :: (w20 ++ [((sz + 20), .inl (cI, a0Of .int 5))])) (sz + 21) := K
  rw [← g21] at K
  have F21 : f21 = [.int 0, .ref sz, .int 0, .int 0, .int 0, .int 0, .int 0, .int 0, .int 0, .ref (sz + 1), .ref (sz + 2), .ref (sz + 3), .int 0, .int 0, .ref (sz + 4), .int 0, .ref (sz + 5), .int 0, .int 0, .int 0, .int 0, .int 0, .int 0, .ref (sz + 6), .ref (sz + 7), .ref (sz + 8), .ref (sz + 9), .ref (sz + 10), .ref (sz + 11), .ref (sz + 12), .ref (sz + 13), .int 0, .ref (sz + 14), .ref (sz + 15), .ref (sz + 16), .ref (sz + 17), .ref (sz + 18), .ref (sz + 19), .int 0, .ref (sz + 20), .null, .null, .null, .null, .null, .null, .null, .null, .null, .int 0, .null, .long 0, .int 0, .null, .null, .null, .int 0, .int 0, .int 0, .long 0, .null, .null, .null, .null, .null] := by rw [g21, F20]; rfl
  rw [← e21] at K
  refine nx_na C hin2 K hA h0 1 5 40 77 .int rfl (by decide +kernel) fd_12_40_77 (fun _ => ⟨rfl, rfl⟩) (by rw [L21]; decide) ⟨Nat.le_of_ble_eq_true rfl, Nat.le_of_ble_eq_true rfl⟩ (fun H locs K => ?_)
  obtain ⟨f22, g22⟩ : ∃ f : List Value, f = f21.set 40 (.ref (sz + 21)) := ⟨_, rfl⟩
  have L22 : f22.length = 65 := by rw [g22, List.length_set, L21]
  obtain ⟨w22, e22⟩ : ∃ w : va_W, w = w21 ++ [((sz + 21), .inl (cI, a0Of .int 5))] := ⟨_, rfl⟩
  have K : NH D (AN q sz) s.heap H locs ((q, .inr (12, f21.set 40 (.ref (sz + 21)))) :: (w21 ++ [((sz + 21), .inl (cI, a0Of .int 5))])) (sz + 22) := K
  rw [← g22] at K
  have F22 : f22 = [.int 0, .ref sz, .int 0, .int 0, .int 0, .int 0, .int 0, .int 0, .int 0, .ref (sz + 1), .ref (sz + 2), .ref (sz + 3), .int 0, .int 0, .ref (sz + 4), .int 0, .ref (sz + 5), .int 0, .int 0, .int 0, .int 0, .int 0, .int 0, .ref (sz + 6), .ref (sz + 7), .ref (sz + 8), .ref (sz + 9), .ref (sz + 10), .ref (sz + 11), .ref (sz + 12), .ref (sz + 13), .int 0, .ref (sz + 14), .ref (sz + 15), .ref (sz + 16), .ref (sz + 17), .ref (sz + 18), .ref (sz + 19), .int 0, .ref (sz + 20), .ref (sz + 21), .null, .null, .null, .null, .null, .null, .null, .null, .int 0, .null, .long 0, .int 0, .null, .null, .null, .int 0, .int 0, .int 0, .long 0, .null, .null, .null, .null, .null] := by rw [g22, F21]; rfl
  rw [← e22] at K
  refine nx_na C hin2 K hA h0 1 4 41 80 .int rfl (by decide +kernel) fd_12_41_80 (fun _ => ⟨rfl, rfl⟩) (by rw [L22]; decide) ⟨Nat.le_of_ble_eq_true rfl, Nat.le_of_ble_eq_true rfl⟩ (fun H locs K => ?_)
  obtain ⟨f23, g23⟩ : ∃ f : List Value, f = f22.set 41 (.ref (sz + 22)) := ⟨_, rfl⟩
  have L23 : f23.length = 65 := by rw [g23, List.length_set, L22]
  obtain ⟨w23, e23⟩ : ∃ w : va_W, w = w22 ++ [((sz + 22), .inl (cI, a0Of .int 4))] := ⟨_, rfl⟩
  have K : NH D (AN q sz) s.heap H locs ((q, .inr (12, f22.set 41 (.ref (sz + 22)))) :: (w22 ++ [((sz + 22), .inl (cI, a0Of .int 4))])) (sz + 23) := K
  rw [← g23] at K
  have F23 : f23 = [.int 0, .ref sz, .int 0, .int 0, .int 0, .int 0, .int 0, .int 0, .int 0, .ref (sz + 1), .ref (sz + 2), .ref (sz + 3), .int 0, .int 0, .ref (sz + 4), .int 0, .ref (sz + 5), .int 0, .int 0, .int 0, .int 0, .int 0, .int 0, .ref (sz + 6), .ref (sz + 7), .ref (sz + 8), .ref (sz + 9), .ref (sz + 10), .ref (sz + 11), .ref (sz + 12), .ref (sz + 13), .int 0, .ref (sz + 14), .ref (sz + 15), .ref (sz + 16), .ref (sz + 17), .ref (sz + 18), .ref (sz + 19), .int 0, .ref (sz + 20), .ref (sz + 21), .ref (sz + 22), .null, .null, .null, .null, .null, .null, .null, .int 0, .null, .long 0, .int 0, .null, .null, .null, .int 0, .int 0, .int 0, .long 0, .null, .null, .null, .null, .null] := by rw [g23, F22]; rfl
  rw [← e23] at K
  refine nx_na C hin2 K hA h0 3 160 42 83 .int rfl (by decide +kernel) fd_12_42_83 (fun _ => ⟨rfl, rfl⟩) (by rw [L23]; decide) ⟨Nat.le_of_ble_eq_true rfl, Nat.le_of_ble_eq_true rfl⟩ (fun H locs K => ?_)
  obtain ⟨f24, g24⟩ : ∃ f : List Value, f = f23.set 42 (.ref (sz + 23)) := ⟨_, rfl⟩
  have L24 : f24.length = 65 := by rw [g24, List.length_set, L23]
  obtain ⟨w24, e24⟩ : ∃ w : va_W, w = w23 ++ [((sz + 23), .inl (cI, a0Of .int 160))] := ⟨_, rfl⟩
  have K : NH D (AN q sz) s.heap H locs ((q, .inr (12, f23.set 42 (.ref (sz + 23)))) :: (w23 ++ [((sz + 23), .inl (cI, a0Of .int 160))])) (sz + 24) := K
  rw [← g24] at K
  have F24 : f24 = [.int 0, .ref sz, .int 0, .int 0, .int 0, .int 0, .int 0, .int 0, .int 0, .ref (sz + 1), .ref (sz + 2), .ref (sz + 3), .int 0, .int 0, .ref (sz + 4), .int 0, .ref (sz + 5), .int 0, .int 0, .int 0, .int 0, .int 0, .int 0, .ref (sz + 6), .ref (sz + 7), .ref (sz + 8), .ref (sz + 9), .ref (sz + 10), .ref (sz + 11), .ref (sz + 12), .ref (sz + 13), .int 0, .ref (sz + 14), .ref (sz + 15), .ref (sz + 16), .ref (sz + 17), .ref (sz + 18), .ref (sz + 19), .int 0, .ref (sz + 20), .ref (sz + 21), .ref (sz + 22), .ref (sz + 23), .null, .null, .null, .null, .null, .null, .int 0, .null, .long 0, .int 0, .null, .null, .null, .int 0, .int 0, .int 0, .long 0, .null, .null, .null, .null, .null] := by rw [g24, F23]; rfl
  rw [← e24] at K
  refine nx_na C hin2 K hA h0 1 4 43 86 .int rfl (by decide +kernel) fd_12_43_86 (fun _ => ⟨rfl, rfl⟩) (by rw [L24]; decide) ⟨Nat.le_of_ble_eq_true rfl, Nat.le_of_ble_eq_true rfl⟩ (fun H locs K => ?_)
  obtain ⟨f25, g25⟩ : ∃ f : List Value, f = f24.set 43 (.ref (sz + 24)) := ⟨_, rfl⟩
  have L25 : f25.length = 65 := by rw [g25, List.length_set, L24]
  obtain ⟨w25, e25⟩ : ∃ w : va_W, w = w24 ++ [((sz + 24), .inl (cI, a0Of .int 4))] := ⟨_, rfl⟩
  have K : NH D (AN q sz) s.heap H locs ((q, .inr (12, f24.set 43 (.ref (sz + 24)))) :: (w24 ++ [((sz + 24), .inl (cI, a0Of .int 4))])) (sz + 25) := K
  rw [← g25] at K
  have F25 : f25 = [.int 0, .ref sz, .int 0, .int 0, .int 0, .int 0, .int 0, .int 0, .int 0, .ref (sz + 1), .ref (sz + 2), .ref (sz + 3), .int 0, .int 0, .ref (sz + 4), .int 0, .ref (sz + 5), .int 0, .int 0, .int 0, .int 0, .int 0, .int 0, .ref (sz + 6), .ref (sz + 7), .ref (sz + 8), .ref (sz + 9), .ref (sz + 10), .ref (sz + 11), .ref (sz + 12), .ref (sz + 13), .int 0, .ref (sz + 14), .ref (sz + 15), .ref (sz + 16), .ref (sz + 17), .ref (sz + 18), .ref (sz + 19), .int 0, .ref (sz + 20), .ref (sz + 21), .ref (sz + 22), .ref (sz + 23), .ref (sz + 24), .null, .null, .null, .null, .null, .int 0, .null, .long 0, .int 0, .null, .null, .null, .int 0, .int 0, .int 0, .long 0, .null, .null, .null, .null, .null] := by rw [g25, F24]; rfl
  rw [← e25] at K
  refine nx_na C hin2 K hA h0 2 50 44 89 .int rfl (by decide +kernel) fd_12_44_89 (fun _ => ⟨rfl, rfl⟩) (by rw [L25]; decide) ⟨Nat.le_of_ble_eq_true rfl, Nat.le_of_ble_eq_true rfl⟩ (fun H locs K => ?_)
  obtain ⟨f26, g26⟩ : ∃ f : List Value, f = f25.set 44 (.ref (sz + 25)) := ⟨_, rfl⟩
  have L26 : f26.length = 65 := by rw [g26, List.length_set, L25]
  obtain ⟨w26, e26⟩ : ∃ w : va_W, w = w25 ++ [((sz + 25), .inl (cI, a0Of .int 50))] := ⟨_, rfl⟩
  have K : NH D (AN q sz) s.heap H locs ((q, .inr (12, f25.set 44 (.ref (sz + 25)))) :: (w25 ++ [((sz + 25), .inl (cI, a0Of .int 50))])) (sz + 26) := K
  rw [← g26] at K
  have F26 : f26 = [.int 0, .ref sz, .int 0, .int 0, .int 0, .int 0, .int 0, .int 0, .int 0, .ref (sz + 1), .ref (sz + 2), .ref (sz + 3), .int 0, .int 0, .ref (sz + 4), .int 0, .ref (sz + 5), .int 0, .int 0, .int 0, .int 0, .int 0, .int 0, .ref (sz + 6), .ref (sz + 7), .ref (sz + 8), .ref (sz + 9), .ref (sz + 10), .ref (sz + 11), .ref (sz + 12), .ref (sz + 13), .int 0, .ref (sz + 14), .ref (sz + 15), .ref (sz + 16), .ref (sz + 17), .ref (sz + 18), .ref (sz + 19), .int 0, .ref (sz + 20), .ref (sz + 21), .ref (sz + 22), .ref (sz + 23), .ref (sz + 24), .ref (sz + 25), .null, .null, .null, .null, .int 0, .null, .long 0, .int 0, .null, .null, .null, .int 0, .int 0, .int 0, .long 0, .null, .null, .null, .null, .null] := by rw [g26, F25]; rfl
  rw [← e26] at K
  refine nx_na C hin2 K hA h0 3 2500 45 92 .int rfl (by decide +kernel) fd_12_45_92 (fun _ => ⟨rfl, rfl⟩) (by rw [L26]; decide) ⟨Nat.le_of_ble_eq_true rfl, Nat.le_of_ble_eq_true rfl⟩ (fun H locs K => ?_)
  obtain ⟨f27, g27⟩ : ∃ f : List Value, f = f26.set 45 (.ref (sz + 26)) := ⟨_, rfl⟩
  have L27 : f27.length = 65 := by rw [g27, List.length_set, L26]
  obtain ⟨w27, e27⟩ : ∃ w : va_W, w = w26 ++ [((sz + 26), .inl (cI, a0Of .int 2500))] := ⟨_, rfl⟩
  have K : NH D (AN q sz) s.heap H locs ((q, .inr (12, f26.set 45 (.ref (sz + 26)))) :: (w26 ++ [((sz + 26), .inl (cI, a0Of .int 2500))])) (sz + 27) := K
  rw [← g27] at K
  have F27 : f27 = [.int 0, .ref sz, .int 0, .int 0, .int 0, .int 0, .int 0, .int 0, .int 0, .ref (sz + 1), .ref (sz + 2), .ref (sz + 3), .int 0, .int 0, .ref (sz + 4), .int 0, .ref (sz + 5), .int 0, .int 0, .int 0, .int 0, .int 0, .int 0, .ref (sz + 6), .ref (sz + 7), .ref (sz + 8), .ref (sz + 9), .ref (sz + 10), .ref (sz + 11), .ref (sz + 12), .ref (sz + 13), .int 0, .ref (sz + 14), .ref (sz + 15), .ref (sz + 16), .ref (sz + 17), .ref (sz + 18), .ref (sz + 19), .int 0, .ref (sz + 20), .ref (sz + 21), .ref (sz + 22), .ref (sz + 23), .ref (sz + 24), .ref (sz + 25), .ref (sz + 26), .null, .null, .null, .int 0, .null, .long 0, .int 0, .null, .null, .null, .int 0, .int 0, .int 0, .long 0, .null, .null, .null, .null, .null] := by rw [g27, F26]; rfl
  rw [← e27] at K
  refine nx_na C hin2 K hA h0 3 2500 46 95 .int rfl (by decide +kernel) fd_12_46_95 (fun _ => ⟨rfl, rfl⟩) (by rw [L27]; decide) ⟨Nat.le_of_ble_eq_true rfl, Nat.le_of_ble_eq_true rfl⟩ (fun H locs K => ?_)
  obtain ⟨f28, g28⟩ : ∃ f : List Value, f = f27.set 46 (.ref (sz + 27)) := ⟨_, rfl⟩
  have L28 : f28.length = 65 := by rw [g28, List.length_set, L27]
  obtain ⟨w28, e28⟩ : ∃ w : va_W, w = w27 ++ [((sz + 27), .inl (cI, a0Of .int 2500))] := ⟨_, rfl⟩
  have K : NH D (AN q sz) s.heap H locs ((q, .inr (12, f27.set 46 (.ref (sz + 27)))) :: (w27 ++ [((sz + 27), .inl (cI, a0Of .int 2500))])) (sz + 28) := K
  rw [← g28] at K
  have F28 : f28 = [.int 0, .ref sz, .int 0, .int 0, .int 0, .int 0, .int 0, .int 0, .int 0, .ref (sz + 1), .ref (sz + 2), .ref (sz + 3), .int 0, .int 0, .ref (sz + 4), .int 0, .ref (sz + 5), .int 0, .int 0, .int 0, .int 0, .int 0, .int 0, .ref (sz + 6), .ref (sz + 7), .ref (sz + 8), .ref (sz + 9), .ref (sz + 10), .ref (sz + 11), .ref (sz + 12), .ref (sz + 13), .int 0, .ref (sz + 14), .ref (sz + 15), .ref (sz + 16), .ref (sz + 17), .ref (sz + 18), .ref (sz + 19), .int 0, .ref (sz + 20), .ref (sz + 21), .ref (sz + 22), .ref (sz + 23), .ref (sz + 24), .ref (sz + 25), .ref (sz + 26), .ref (sz + 27), .null, .null, .int 0, .null, .long 0, .int 0, .null, .null, .null, .int 0, .int 0, .int 0, .long 0, .null, .null, .null, .null, .null] := by rw [g28, F27]; rfl
  rw [← e28] at K
  refine nx_na C hin2 K hA h0 3 2500 47 98 .int rfl (by decide +kernel) fd_12_47_98 (fun _ => ⟨rfl, rfl⟩) (by rw [L28]; decide) ⟨Nat.le_of_ble_eq_true rfl, Nat.le_of_ble_eq_true rfl⟩ (fun H locs K => ?_)
  obtain ⟨f29, g29⟩ : ∃ f : List Value, f = f28.set 47 (.ref (sz + 28)) := ⟨_, rfl⟩
  have L29 : f29.length = 65 := by rw [g29, List.length_set, L28]
  obtain ⟨w29, e29⟩ : ∃ w : va_W, w = w28 ++ [((sz + 28), .inl (cI, a0Of .int 2500))] := ⟨_, rfl⟩
  have K : NH D (AN q sz) s.heap H locs ((q, .inr (12, f28.set 47 (.ref (sz + 28)))) :: (w28 ++ [((sz + 28), .inl (cI, a0Of .int 2500))])) (sz + 29) := K
  rw [← g29] at K
  have F29 : f29 = [.int 0, .ref sz, .int 0, .int 0, .int 0, .int 0, .int 0, .int 0, .int 0, .ref (sz + 1), .ref (sz + 2), .ref (sz + 3), .int 0, .int 0, .ref (sz + 4), .int 0, .ref (sz + 5), .int 0, .int 0, .int 0, .int 0, .int 0, .int 0, .ref (sz + 6), .ref (sz + 7), .ref (sz + 8), .ref (sz + 9), .ref (sz + 10), .ref (sz + 11), .ref (sz + 12), .ref (sz + 13), .int 0, .ref (sz + 14), .ref (sz + 15), .ref (sz + 16), .ref (sz + 17), .ref (sz + 18), .ref (sz + 19), .int 0, .ref (sz + 20), .ref (sz + 21), .ref (sz + 22), .ref (sz + 23), .ref (sz + 24), .ref (sz + 25), .ref (sz + 26), .ref (sz + 27), .ref (sz + 28), .null, .int 0, .null, .long 0, .int 0, .null, .null, .null, .int 0, .int 0, .int 0, .long 0, .null, .null, .null, .null, .null] := by rw [g29, F28]; rfl
  rw [← e29] at K
  refine nx_na C hin2 K hA h0 2 30 48 101 .int rfl (by decide +kernel) fd_12_48_101 (fun _ => ⟨rfl, rfl⟩) (by rw [L29]; decide) ⟨Nat.le_of_ble_eq_true rfl, Nat.le_of_ble_eq_true rfl⟩ (fun H locs K => ?_)
  obtain ⟨f30, g30⟩ : ∃ f : List Value, f = f29.set 48 (.ref (sz + 29)) := ⟨_, rfl⟩
  have L30 : f30.length = 65 := by rw [g30, List.length_set, L29]
  obtain ⟨w30, e30⟩ : ∃ w : va_W, w = w29 ++ [((sz + 29), .inl (cI, a0Of .int 30))] := ⟨_, rfl⟩
  have K : NH D (AN q sz) s.heap H locs ((q, .inr (12, f29.set 48 (.ref (sz + 29)))) :: (w29 ++ [((sz + 29), .inl (cI, a0Of .int 30))])) (sz + 30) := K
  rw [← g30] at K
  have F30 : f30 = [.int 0, .ref sz, .int 0, .int 0, .int 0, .int 0, .int 0, .int 0, .int 0, .ref (sz + 1), .ref (sz + 2), .ref (sz + 3), .int 0, .int 0, .ref (sz + 4), .int 0, .ref (sz + 5), .int 0, .int 0, .int 0, .int 0, .int 0, .int 0, .ref (sz + 6), .ref (sz + 7), .ref (sz + 8), .ref (sz + 9), .ref (sz + 10), .ref (sz + 11), .ref (sz + 12), .ref (sz + 13), .int 0, .ref (sz + 14), .ref (sz + 15), .ref (sz + 16), .ref (sz + 17), .ref (sz + 18), .ref (sz + 19), .int 0, .ref (sz + 20), .ref (sz + 21), .ref (sz + 22), .ref (sz + 23), .ref (sz + 24), .ref (sz + 25), .ref (sz + 26), .ref (sz + 27), .ref (sz + 28), .ref (sz + 29), .int 0, .null, .long 0, .int 0, .null, .null, .null, .int 0, .int 0, .int 0, .long 0, .null, .null, .null, .null, .null] := by rw [g30, F29]; rfl
  rw [← e30] at K
  refine nx_na C hin2 K hA h0 1 4 50 104 .int rfl (by decide +kernel) fd_12_50_104 (fun _ => ⟨rfl, rfl⟩) (by rw [L30]; decide) ⟨Nat.le_of_ble_eq_true rfl, Nat.le_of_ble_eq_true rfl⟩ (fun H locs K => ?_)
  obtain ⟨f31, g31⟩ : ∃ f : List Value, f = f30.set 50 (.ref (sz + 30)) := ⟨_, rfl⟩
  have L31 : f31.length = 65 := by rw [g31, List.length_set, L30]
  obtain ⟨w31, e31⟩ : ∃ w : va_W, w = w30 ++ [((sz + 30), .inl (cI, a0Of .int 4))] := ⟨_, rfl⟩
  have K : NH D (AN q sz) s.heap H locs ((q, .inr (12, f30.set 50 (.ref (sz + 30)))) :: (w30 ++ [((sz + 30), .inl (cI, a0Of .int 4))])) (sz + 31) := K
  rw [← g31] at K
  have F31 : f31 = [.int 0, .ref sz, .int 0, .int 0, .int 0, .int 0, .int 0, .int 0, .int 0, .ref (sz + 1), .ref (sz + 2), .ref (sz + 3), .int 0, .int 0, .ref (sz + 4), .int 0, .ref (sz + 5), .int 0, .int 0, .int 0, .int 0, .int 0, .int 0, .ref (sz + 6), .ref (sz + 7), .ref (sz + 8), .ref (sz + 9), .ref (sz + 10), .ref (sz + 11), .ref (sz + 12), .ref (sz + 13), .int 0, .ref (sz + 14), .ref (sz + 15), .ref (sz + 16), .ref (sz + 17), .ref (sz + 18), .ref (sz + 19), .int 0, .ref (sz + 20), .ref (sz + 21), .ref (sz + 22), .ref (sz + 23), .ref (sz + 24), .ref (sz + 25), .ref (sz + 26), .ref (sz + 27), .ref (sz + 28), .ref (sz + 29), .int 0, .ref (sz + 30), .long 0, .int 0, .null, .null, .null, .int 0, .int 0, .int 0, .long 0, .null, .null, .null, .null, .null] := by rw [g31, F30]; rfl
  rw [← e31] at K
  refine nx_na C hin2 K hA h0 3 160 53 107 .int rfl (by decide +kernel) fd_12_53_107 (fun _ => ⟨rfl, rfl⟩) (by rw [L31]; decide) ⟨Nat.le_of_ble_eq_true rfl, Nat.le_of_ble_eq_true rfl⟩ (fun H locs K => ?_)
  obtain ⟨f32, g32⟩ : ∃ f : List Value, f = f31.set 53 (.ref (sz + 31)) := ⟨_, rfl⟩
  have L32 : f32.length = 65 := by rw [g32, List.length_set, L31]
  obtain ⟨w32, e32⟩ : ∃ w : va_W, w = w31 ++ [((sz + 31), .inl (cI, a0Of .int 160))] := ⟨_, rfl⟩
  have K : NH D (AN q sz) s.heap H locs ((q, .inr (12, f31.set 53 (.ref (sz + 31)))) :: (w31 ++ [((sz + 31), .inl (cI, a0Of .int 160))])) (sz + 32) := K
  rw [← g32] at K
  have F32 : f32 = [.int 0, .ref sz, .int 0, .int 0, .int 0, .int 0, .int 0, .int 0, .int 0, .ref (sz + 1), .ref (sz + 2), .ref (sz + 3), .int 0, .int 0, .ref (sz + 4), .int 0, .ref (sz + 5), .int 0, .int 0, .int 0, .int 0, .int 0, .int 0, .ref (sz + 6), .ref (sz + 7), .ref (sz + 8), .ref (sz + 9), .ref (sz + 10), .ref (sz + 11), .ref (sz + 12), .ref (sz + 13), .int 0, .ref (sz + 14), .ref (sz + 15), .ref (sz + 16), .ref (sz + 17), .ref (sz + 18), .ref (sz + 19), .int 0, .ref (sz + 20), .ref (sz + 21), .ref (sz + 22), .ref (sz + 23), .ref (sz + 24), .ref (sz + 25), .ref (sz + 26), .ref (sz + 27), .ref (sz + 28), .ref (sz + 29), .int 0, .ref (sz + 30), .long 0, .int 0, .ref (sz + 31), .null, .null, .int 0, .int 0, .int 0, .long 0, .null, .null, .null, .null, .null] := by rw [g32, F31]; rfl
  rw [← e32] at K
  refine nx_na C hin2 K hA h0 2 40 54 110 .boolean rfl (by decide +kernel) fd_12_54_110 (fun _ => ⟨rfl, rfl⟩) (by rw [L32]; decide) ⟨Nat.le_of_ble_eq_true rfl, Nat.le_of_ble_eq_true rfl⟩ (fun H locs K => ?_)
  obtain ⟨f33, g33⟩ : ∃ f : List Value, f = f32.set 54 (.ref (sz + 32)) := ⟨_, rfl⟩
  have L33 : f33.length = 65 := by rw [g33, List.length_set, L32]
  obtain ⟨w33, e33⟩ : ∃ w : va_W, w = w32 ++ [((sz + 32), .inl (cZ, a0Of .boolean 40))] := ⟨_, rfl⟩
  have K : NH D (AN q sz) s.heap H locs ((q, .inr (12, f32.set 54 (.ref (sz + 32)))) :: (w32 ++ [((sz + 32), .inl (cZ, a0Of .boolean 40))])) (sz + 33) := K
  rw [← g33] at K
  have F33 : f33 = [.int 0, .ref sz, .int 0, .int 0, .int 0, .int 0, .int 0, .int 0, .int 0, .ref (sz + 1), .ref (sz + 2), .ref (sz + 3), .int 0, .int 0, .ref (sz + 4), .int 0, .ref (sz + 5), .int 0, .int 0, .int 0, .int 0, .int 0, .int 0, .ref (sz + 6), .ref (sz + 7), .ref (sz + 8), .ref (sz + 9), .ref (sz + 10), .ref (sz + 11), .ref (sz + 12), .ref (sz + 13), .int 0, .ref (sz + 14), .ref (sz + 15), .ref (sz + 16), .ref (sz + 17), .ref (sz + 18), .ref (sz + 19), .int 0, .ref (sz + 20), .ref (sz + 21), .ref (sz + 22), .ref (sz + 23), .ref (sz + 24), .ref (sz + 25), .ref (sz + 26), .ref (sz + 27), .ref (sz + 28), .ref (sz + 29), .int 0, .ref (sz + 30), .long 0, .int 0, .ref (sz + 31), .ref (sz + 32), .null, .int 0, .int 0, .int 0, .long 0, .null, .null, .null, .null, .null] := by rw [g33, F32]; rfl
  rw [← e33] at K
  refine nx_na C hin2 K hA h0 2 40 55 114 .long rfl (by decide +kernel) fd_12_55_114 (fun _ => ⟨rfl, rfl⟩) (by rw [L33]; decide) ⟨Nat.le_of_ble_eq_true rfl, Nat.le_of_ble_eq_true rfl⟩ (fun H locs K => ?_)
  obtain ⟨f34, g34⟩ : ∃ f : List Value, f = f33.set 55 (.ref (sz + 33)) := ⟨_, rfl⟩
  have L34 : f34.length = 65 := by rw [g34, List.length_set, L33]
  obtain ⟨w34, e34⟩ : ∃ w : va_W, w = w33 ++ [((sz + 33), .inl (cJ, a0Of .long 40))] := ⟨_, rfl⟩
  have K : NH D (AN q sz) s.heap H locs ((q, .inr (12, f33.set 55 (.ref (sz + 33)))) :: (w33 ++ [((sz + 33), .inl (cJ, a0Of .long 40))])) (sz + 34) := K
  rw [← g34] at K
  have F34 : f34 = [.int 0, .ref sz, .int 0, .int 0, .int 0, .int 0, .int 0, .int 0, .int 0, .ref (sz + 1), .ref (sz + 2), .ref (sz + 3), .int 0, .int 0, .ref (sz + 4), .int 0, .ref (sz + 5), .int 0, .int 0, .int 0, .int 0, .int 0, .int 0, .ref (sz + 6), .ref (sz + 7), .ref (sz + 8), .ref (sz + 9), .ref (sz + 10), .ref (sz + 11), .ref (sz + 12), .ref (sz + 13), .int 0, .ref (sz + 14), .ref (sz + 15), .ref (sz + 16), .ref (sz + 17), .ref (sz + 18), .ref (sz + 19), .int 0, .ref (sz + 20), .ref (sz + 21), .ref (sz + 22), .ref (sz + 23), .ref (sz + 24), .ref (sz + 25), .ref (sz + 26), .ref (sz + 27), .ref (sz + 28), .ref (sz + 29), .int 0, .ref (sz + 30), .long 0, .int 0, .ref (sz + 31), .ref (sz + 32), .ref (sz + 33), .int 0, .int 0, .int 0, .long 0, .null, .null, .null, .null, .null] := by rw [g34, F33]; rfl
  rw [← e34] at K
  refine nx_na C hin2 K hA h0 1 4 60 118 .int rfl (by decide +kernel) fd_12_60_118 (fun _ => ⟨rfl, rfl⟩) (by rw [L34]; decide) ⟨Nat.le_of_ble_eq_true rfl, Nat.le_of_ble_eq_true rfl⟩ (fun H locs K => ?_)
  obtain ⟨f35, g35⟩ : ∃ f : List Value, f = f34.set 60 (.ref (sz + 34)) := ⟨_, rfl⟩
  have L35 : f35.length = 65 := by rw [g35, List.length_set, L34]
  obtain ⟨w35, e35⟩ : ∃ w : va_W, w = w34 ++ [((sz + 34), .inl (cI, a0Of .int 4))] := ⟨_, rfl⟩
  have K : NH D (AN q sz) s.heap H locs ((q, .inr (12, f34.set 60 (.ref (sz + 34)))) :: (w34 ++ [((sz + 34), .inl (cI, a0Of .int 4))])) (sz + 35) := K
  rw [← g35] at K
  have F35 : f35 = [.int 0, .ref sz, .int 0, .int 0, .int 0, .int 0, .int 0, .int 0, .int 0, .ref (sz + 1), .ref (sz + 2), .ref (sz + 3), .int 0, .int 0, .ref (sz + 4), .int 0, .ref (sz + 5), .int 0, .int 0, .int 0, .int 0, .int 0, .int 0, .ref (sz + 6), .ref (sz + 7), .ref (sz + 8), .ref (sz + 9), .ref (sz + 10), .ref (sz + 11), .ref (sz + 12), .ref (sz + 13), .int 0, .ref (sz + 14), .ref (sz + 15), .ref (sz + 16), .ref (sz + 17), .ref (sz + 18), .ref (sz + 19), .int 0, .ref (sz + 20), .ref (sz + 21), .ref (sz + 22), .ref (sz + 23), .ref (sz + 24), .ref (sz + 25), .ref (sz + 26), .ref (sz + 27), .ref (sz + 28), .ref (sz + 29), .int 0, .ref (sz + 30), .long 0, .int 0, .ref (sz + 31), .ref (sz + 32), .ref (sz + 33), .int 0, .int 0, .int 0, .long 0, .ref (sz + 34), .null, .null, .null, .null] := by rw [g35, F34]; rfl
  rw [← e35] at K
  refine nx_na C hin2 K hA h0 2 30 61 121 .int rfl (by decide +kernel) fd_12_61_121 (fun _ => ⟨rfl, rfl⟩) (by rw [L35]; decide) ⟨Nat.le_of_ble_eq_true rfl, Nat.le_of_ble_eq_true rfl⟩ (fun H locs K => ?_)
  obtain ⟨f36, g36⟩ : ∃ f : List Value, f = f35.set 61 (.ref (sz + 35)) := ⟨_, rfl⟩
  have L36 : f36.length = 65 := by rw [g36, List.length_set, L35]
  obtain ⟨w36, e36⟩ : ∃ w : va_W, w = w35 ++ [((sz + 35), .inl (cI, a0Of .int 30))] := ⟨_, rfl⟩
  have K : NH D (AN q sz) s.heap H locs ((q, .inr (12, f35.set 61 (.ref (sz + 35)))) :: (w35 ++ [((sz + 35), .inl (cI, a0Of .int 30))])) (sz + 36) := K
  rw [← g36] at K
  have F36 : f36 = [.int 0, .ref sz, .int 0, .int 0, .int 0, .int 0, .int 0, .int 0, .int 0, .ref (sz + 1), .ref (sz + 2), .ref (sz + 3), .int 0, .int 0, .ref (sz + 4), .int 0, .ref (sz + 5), .int 0, .int 0, .int 0, .int 0, .int 0, .int 0, .ref (sz + 6), .ref (sz + 7), .ref (sz + 8), .ref (sz + 9), .ref (sz + 10), .ref (sz + 11), .ref (sz + 12), .ref (sz + 13), .int 0, .ref (sz + 14), .ref (sz + 15), .ref (sz + 16), .ref (sz + 17), .ref (sz + 18), .ref (sz + 19), .int 0, .ref (sz + 20), .ref (sz + 21), .ref (sz + 22), .ref (sz + 23), .ref (sz + 24), .ref (sz + 25), .ref (sz + 26), .ref (sz + 27), .ref (sz + 28), .ref (sz + 29), .int 0, .ref (sz + 30), .long 0, .int 0, .ref (sz + 31), .ref (sz + 32), .ref (sz + 33), .int 0, .int 0, .int 0, .long 0, .ref (sz + 34), .ref (sz + 35), .null, .null, .null] := by rw [g36, F35]; rfl
  rw [← e36] at K
  refine nx_na C hin2 K hA h0 3 160 62 124 .int rfl (by decide +kernel) fd_12_62_124 (fun _ => ⟨rfl, rfl⟩) (by rw [L36]; decide) ⟨Nat.le_of_ble_eq_true rfl, Nat.le_of_ble_eq_true rfl⟩ (fun H locs K => ?_)
  obtain ⟨f37, g37⟩ : ∃ f : List Value, f = f36.set 62 (.ref (sz + 36)) := ⟨_, rfl⟩
  have L37 : f37.length = 65 := by rw [g37, List.length_set, L36]
  obtain ⟨w37, e37⟩ : ∃ w : va_W, w = w36 ++ [((sz + 36), .inl (cI, a0Of .int 160))] := ⟨_, rfl⟩
  have K : NH D (AN q sz) s.heap H locs ((q, .inr (12, f36.set 62 (.ref (sz + 36)))) :: (w36 ++ [((sz + 36), .inl (cI, a0Of .int 160))])) (sz + 37) := K
  rw [← g37] at K
  have F37 : f37 = [.int 0, .ref sz, .int 0, .int 0, .int 0, .int 0, .int 0, .int 0, .int 0, .ref (sz + 1), .ref (sz + 2), .ref (sz + 3), .int 0, .int 0, .ref (sz + 4), .int 0, .ref (sz + 5), .int 0, .int 0, .int 0, .int 0, .int 0, .int 0, .ref (sz + 6), .ref (sz + 7), .ref (sz + 8), .ref (sz + 9), .ref (sz + 10), .ref (sz + 11), .ref (sz + 12), .ref (sz + 13), .int 0, .ref (sz + 14), .ref (sz + 15), .ref (sz + 16), .ref (sz + 17), .ref (sz + 18), .ref (sz + 19), .int 0, .ref (sz + 20), .ref (sz + 21), .ref (sz + 22), .ref (sz + 23), .ref (sz + 24), .ref (sz + 25), .ref (sz + 26), .ref (sz + 27), .ref (sz + 28), .ref (sz + 29), .int 0, .ref (sz + 30), .long 0, .int 0, .ref (sz + 31), .ref (sz + 32), .ref (sz + 33), .int 0, .int 0, .int 0, .long 0, .ref (sz + 34), .ref (sz + 35), .ref (sz + 36), .null, .null] := by rw [g37, F36]; rfl
  rw [← e37] at K
  refine nx_na C hin2 K hA h0 2 40 63 127 .boolean rfl (by decide +kernel) fd_12_63_127 (fun _ => ⟨rfl, rfl⟩) (by rw [L37]; decide) ⟨Nat.le_of_ble_eq_true rfl, Nat.le_of_ble_eq_true rfl⟩ (fun H locs K => ?_)
  obtain ⟨f38, g38⟩ : ∃ f : List Value, f = f37.set 63 (.ref (sz + 37)) := ⟨_, rfl⟩
  have L38 : f38.length = 65 := by rw [g38, List.length_set, L37]
  obtain ⟨w38, e38⟩ : ∃ w : va_W, w = w37 ++ [((sz + 37), .inl (cZ, a0Of .boolean 40))] := ⟨_, rfl⟩
  have K : NH D (AN q sz) s.heap H locs ((q, .inr (12, f37.set 63 (.ref (sz + 37)))) :: (w37 ++ [((sz + 37), .inl (cZ, a0Of .boolean 40))])) (sz + 38) := K
  rw [← g38] at K
  have F38 : f38 = [.int 0, .ref sz, .int 0, .int 0, .int 0, .int 0, .int 0, .int 0, .int 0, .ref (sz + 1), .ref (sz + 2), .ref (sz + 3), .int 0, .int 0, .ref (sz + 4), .int 0, .ref (sz + 5), .int 0, .int 0, .int 0, .int 0, .int 0, .int 0, .ref (sz + 6), .ref (sz + 7), .ref (sz + 8), .ref (sz + 9), .ref (sz + 10), .ref (sz + 11), .ref (sz + 12), .ref (sz + 13), .int 0, .ref (sz + 14), .ref (sz + 15), .ref (sz + 16), .ref (sz + 17), .ref (sz + 18), .ref (sz + 19), .int 0, .ref (sz + 20), .ref (sz + 21), .ref (sz + 22), .ref (sz + 23), .ref (sz + 24), .ref (sz + 25), .ref (sz + 26), .ref (sz + 27), .ref (sz + 28), .ref (sz + 29), .int 0, .ref (sz + 30), .long 0, .int 0, .ref (sz + 31), .ref (sz + 32), .ref (sz + 33), .int 0, .int 0, .int 0, .long 0, .ref (sz + 34), .ref (sz + 35), .ref (sz + 36), .ref (sz + 37), .null] := by rw [g38, F37]; rfl
  rw [← e38] at K
  refine nx_na C hin2 K hA h0 2 40 64 130 .long rfl (by decide +kernel) fd_12_64_130 (fun _ => ⟨rfl, rfl⟩) (by rw [L38]; decide) ⟨Nat.le_of_ble_eq_true rfl, Nat.le_of_ble_eq_true rfl⟩ (fun H locs K => ?_)
  obtain ⟨f39, g39⟩ : ∃ f : List Value, f = f38.set 64 (.ref (sz + 38)) := ⟨_, rfl⟩
  have L39 : f39.length = 65 := by rw [g39, List.length_set, L38]
  obtain ⟨w39, e39⟩ : ∃ w : va_W, w = w38 ++ [((sz + 38), .inl (cJ, a0Of .long 40))] := ⟨_, rfl⟩
  have K : NH D (AN q sz) s.heap H locs ((q, .inr (12, f38.set 64 (.ref (sz + 38)))) :: (w38 ++ [((sz + 38), .inl (cJ, a0Of .long 40))])) (sz + 39) := K
  rw [← g39] at K
  have F39 : f39 = [.int 0, .ref sz, .int 0, .int 0, .int 0, .int 0, .int 0, .int 0, .int 0, .ref (sz + 1), .ref (sz + 2), .ref (sz + 3), .int 0, .int 0, .ref (sz + 4), .int 0, .ref (sz + 5), .int 0, .int 0, .int 0, .int 0, .int 0, .int 0, .ref (sz + 6), .ref (sz + 7), .ref (sz + 8), .ref (sz + 9), .ref (sz + 10), .ref (sz + 11), .ref (sz + 12), .ref (sz + 13), .int 0, .ref (sz + 14), .ref (sz + 15), .ref (sz + 16), .ref (sz + 17), .ref (sz + 18), .ref (sz + 19), .int 0, .ref (sz + 20), .ref (sz + 21), .ref (sz + 22), .ref (sz + 23), .ref (sz + 24), .ref (sz + 25), .ref (sz + 26), .ref (sz + 27), .ref (sz + 28), .ref (sz + 29), .int 0, .ref (sz + 30), .long 0, .int 0, .ref (sz + 31), .ref (sz + 32), .ref (sz + 33), .int 0, .int 0, .int 0, .long 0, .ref (sz + 34), .ref (sz + 35), .ref (sz + 36), .ref (sz + 37), .ref (sz + 38)] := by rw [g39, F38]; rfl
  rw [← e39] at K
  refine lv_aload_n C.1 C.2.1 (by decide +kernel : decode cN12 310 = .ok (.aload_n 0, 1)) rfl h0 ?_
  rw [e39, e38, e37, e36, e35, e34, e33, e32, e31, e30, e29, e28, e27, e26, e25, e24, e23, e22, e21, e20, e19, e18, e17, e16, e15, e14, e13, e12, e11, e10, e9, e8, e7, e6, e5, e4, e3, e2, e1] at K
  rw [F39] at K
  have K : NH D (AN q sz) s.heap H locs ((q, .inr (12, [.int 0, .ref sz, .int 0, .int 0, .int 0, .int 0, .int 0, .int 0, .int 0, .ref (sz + 1), .ref (sz + 2), .ref (sz + 3), .int 0, .int 0, .ref (sz + 4), .int 0, .ref (sz + 5), .int 0, .int 0, .int 0, .int 0, .int 0, .int 0, .ref (sz + 6), .ref (sz + 7), .ref (sz + 8), .ref (sz + 9), .ref (sz + 10), .ref (sz + 11), .ref (sz + 12), .ref (sz + 13), .int 0, .ref (sz + 14), .ref (sz + 15), .ref (sz + 16), .ref (sz + 17), .ref (sz + 18), .ref (sz + 19), .int 0, .ref (sz + 20), .ref (sz + 21), .ref (sz + 22), .ref (sz + 23), .ref (sz + 24), .ref (sz + 25), .ref (sz + 26), .ref (sz + 27), .ref (sz + 28), .ref (sz + 29), .int 0, .ref (sz + 30), .long 0, .int 0, .ref (sz + 31), .ref (sz + 32), .ref (sz + 33), .int 0, .int 0, .int 0, .long 0, .ref (sz + 34), .ref (sz + 35), .ref (sz + 36), .ref (sz + 37), .ref (sz + 38)])) :: [(sz, .inl (cI, a0Of .int 160)), ((sz + 1), .inl (cI, a0Of .int 8)), ((sz + 2), .inl (cI, a0Of .int 20)), ((sz + 3), .inl (cI, a0Of .int 36)), ((sz + 4), .inl (cI, a0Of .int 160)), ((sz + 5), .inl (cI, a0Of .int 160)), ((sz + 6), .inl (cI, a0Of .int 4)), ((sz + 7), .inl (cI, a0Of .int 4)), ((sz + 8), .inl (cI, a0Of .int 4)), ((sz + 9), .inl (cI, a0Of .int 5)), ((sz + 10), .inl (cI, a0Of .int 5)), ((sz + 11), .inl (cI, a0Of .int 5)), ((sz + 12), .inl (cI, a0Of .int 5)), ((sz + 13), .inl (cI, a0Of .int 20)), ((sz + 14), .inl (cI, a0Of .int 1280)), ((sz + 15), .inl (cI, a0Of .int 8)), ((sz + 16), .inl (cI, a0Of .int 5)), ((sz + 17), .inl (cI, a0Of .int 5)), ((sz + 18), .inl (cI, a0Of .int 20)), ((sz + 19), .inl (cI, a0Of .int 4)), ((sz + 20), .inl (cI, a0Of .int 5)), ((sz + 21), .inl (cI, a0Of .int 5)), ((sz + 22), .inl (cI, a0Of .int 4)), ((sz + 23), .inl (cI, a0Of .int 160)), ((sz + 24), .inl (cI, a0Of .int 4)), ((sz + 25), .inl (cI, a0Of .int 50)), ((sz + 26), .inl (cI, a0Of .int 2500)), ((sz + 27), .inl (cI, a0Of .int 2500)), ((sz + 28), .inl (cI, a0Of .int 2500)), ((sz + 29), .inl (cI, a0Of .int 30)), ((sz + 30), .inl (cI, a0Of .int 4)), ((sz + 31), .inl (cI, a0Of .int 160)), ((sz + 32), .inl (cZ, a0Of .boolean 40)), ((sz + 33), .inl (cJ, a0Of .long 40)), ((sz + 34), .inl (cI, a0Of .int 4)), ((sz + 35), .inl (cI, a0Of .int 30)), ((sz + 36), .inl (cI, a0Of .int 160)), ((sz + 37), .inl (cZ, a0Of .boolean 40)), ((sz + 38), .inl (cJ, a0Of .long 40))]) (sz + 39) := K
  refine nx_wp (index := 133) (V' := (q, .inr (12, [.int 0, .ref sz, .int 0, .int 0, .int 0, .int 0, .int 0, .int 0, .int 0, .ref (sz + 1), .ref (sz + 2), .ref (sz + 3), .int 0, .int 0, .ref (sz + 4), .int 0, .ref (sz + 5), .int 0, .int 0, .int 0, .int 0, .int 0, .int 0, .ref (sz + 6), .ref (sz + 7), .ref (sz + 8), .ref (sz + 9), .ref (sz + 10), .ref (sz + 11), .ref (sz + 12), .ref (sz + 13), .int 0, .ref (sz + 14), .ref (sz + 15), .ref (sz + 16), .ref (sz + 17), .ref (sz + 18), .ref (sz + 19), .int 0, .ref (sz + 20), .ref (sz + 21), .ref (sz + 22), .ref (sz + 23), .ref (sz + 24), .ref (sz + 25), .ref (sz + 26), .ref (sz + 27), .ref (sz + 28), .ref (sz + 29), .int 0, .ref (sz + 30), .long 0, .int 0, .ref (sz + 31), .ref (sz + 32), .ref (sz + 33), .int 0, .int 0, .int 0, .long 0, .ref (sz + 34), .ref (sz + 35), .ref (sz + 36), .ref (sz + 37), .ref (sz + 38)])) :: [(sz, .inl (cI, a0Of .int 160)), ((sz + 1), .inl (cI, a0Of .int 8)), ((sz + 2), .inl (cI, a0Of .int 20)), ((sz + 3), .inl (cI, a0Of .int 36)), ((sz + 4), .inl (cI, a0Of .int 160)), ((sz + 5), .inl (cI, a0Of .int 160)), ((sz + 6), .inl (cI, a0Of .int 4)), ((sz + 7), .inl (cI, a0Of .int 4)), ((sz + 8), m1A cI 4), ((sz + 9), .inl (cI, a0Of .int 5)), ((sz + 10), .inl (cI, a0Of .int 5)), ((sz + 11), .inl (cI, a0Of .int 5)), ((sz + 12), .inl (cI, a0Of .int 5)), ((sz + 13), m1A cI 20), ((sz + 14), .inl (cI, a0Of .int 1280)), ((sz + 15), .inl (cI, a0Of .int 8)), ((sz + 16), .inl (cI, a0Of .int 5)), ((sz + 17), .inl (cI, a0Of .int 5)), ((sz + 18), .inl (cI, a0Of .int 20)), ((sz + 19), .inl (cI, a0Of .int 4)), ((sz + 20), .inl (cI, a0Of .int 5)), ((sz + 21), .inl (cI, a0Of .int 5)), ((sz + 22), .inl (cI, a0Of .int 4)), ((sz + 23), .inl (cI, a0Of .int 160)), ((sz + 24), .inl (cI, a0Of .int 4)), ((sz + 25), .inl (cI, a0Of .int 50)), ((sz + 26), .inl (cI, a0Of .int 2500)), ((sz + 27), .inl (cI, a0Of .int 2500)), ((sz + 28), .inl (cI, a0Of .int 2500)), ((sz + 29), .inl (cI, a0Of .int 30)), ((sz + 30), .inl (cI, a0Of .int 4)), ((sz + 31), .inl (cI, a0Of .int 160)), ((sz + 32), .inl (cZ, a0Of .boolean 40)), ((sz + 33), .inl (cJ, a0Of .long 40)), ((sz + 34), .inl (cI, a0Of .int 4)), ((sz + 35), .inl (cI, a0Of .int 30)), ((sz + 36), .inl (cI, a0Of .int 160)), ((sz + 37), .inl (cZ, a0Of .boolean 40)), ((sz + 38), .inl (cJ, a0Of .long 40))]) C K (c_wp l D cI cJ cZ q (sz + 8) (sz + 13) (sz + 39) 8 13 [.int 0, .ref sz, .int 0, .int 0, .int 0, .int 0, .int 0, .int 0, .int 0, .ref (sz + 1), .ref (sz + 2), .ref (sz + 3), .int 0, .int 0, .ref (sz + 4), .int 0, .ref (sz + 5), .int 0, .int 0, .int 0, .int 0, .int 0, .int 0, .ref (sz + 6), .ref (sz + 7), .ref (sz + 8), .ref (sz + 9), .ref (sz + 10), .ref (sz + 11), .ref (sz + 12), .ref (sz + 13), .int 0, .ref (sz + 14), .ref (sz + 15), .ref (sz + 16), .ref (sz + 17), .ref (sz + 18), .ref (sz + 19), .int 0, .ref (sz + 20), .ref (sz + 21), .ref (sz + 22), .ref (sz + 23), .ref (sz + 24), .ref (sz + 25), .ref (sz + 26), .ref (sz + 27), .ref (sz + 28), .ref (sz + 29), .int 0, .ref (sz + 30), .long 0, .int 0, .ref (sz + 31), .ref (sz + 32), .ref (sz + 33), .int 0, .int 0, .int 0, .long 0, .ref (sz + 34), .ref (sz + 35), .ref (sz + 36), .ref (sz + 37), .ref (sz + 38)] [(sz, .inl (cI, a0Of .int 160)), ((sz + 1), .inl (cI, a0Of .int 8)), ((sz + 2), .inl (cI, a0Of .int 20)), ((sz + 3), .inl (cI, a0Of .int 36)), ((sz + 4), .inl (cI, a0Of .int 160)), ((sz + 5), .inl (cI, a0Of .int 160)), ((sz + 6), .inl (cI, a0Of .int 4)), ((sz + 7), .inl (cI, a0Of .int 4)), ((sz + 8), .inl (cI, a0Of .int 4)), ((sz + 9), .inl (cI, a0Of .int 5)), ((sz + 10), .inl (cI, a0Of .int 5)), ((sz + 11), .inl (cI, a0Of .int 5)), ((sz + 12), .inl (cI, a0Of .int 5)), ((sz + 13), .inl (cI, a0Of .int 20)), ((sz + 14), .inl (cI, a0Of .int 1280)), ((sz + 15), .inl (cI, a0Of .int 8)), ((sz + 16), .inl (cI, a0Of .int 5)), ((sz + 17), .inl (cI, a0Of .int 5)), ((sz + 18), .inl (cI, a0Of .int 20)), ((sz + 19), .inl (cI, a0Of .int 4)), ((sz + 20), .inl (cI, a0Of .int 5)), ((sz + 21), .inl (cI, a0Of .int 5)), ((sz + 22), .inl (cI, a0Of .int 4)), ((sz + 23), .inl (cI, a0Of .int 160)), ((sz + 24), .inl (cI, a0Of .int 4)), ((sz + 25), .inl (cI, a0Of .int 50)), ((sz + 26), .inl (cI, a0Of .int 2500)), ((sz + 27), .inl (cI, a0Of .int 2500)), ((sz + 28), .inl (cI, a0Of .int 2500)), ((sz + 29), .inl (cI, a0Of .int 30)), ((sz + 30), .inl (cI, a0Of .int 4)), ((sz + 31), .inl (cI, a0Of .int 160)), ((sz + 32), .inl (cZ, a0Of .boolean 40)), ((sz + 33), .inl (cJ, a0Of .long 40)), ((sz + 34), .inl (cI, a0Of .int 4)), ((sz + 35), .inl (cI, a0Of .int 30)), ((sz + 36), .inl (cI, a0Of .int 160)), ((sz + 37), .inl (cZ, a0Of .boolean 40)), ((sz + 38), .inl (cJ, a0Of .long 40))] (fun _ => 0) (fun _ => 0) rfl rfl (Nat.le_of_ble_eq_true rfl) rfl ⟨Nat.le_of_ble_eq_true rfl, Nat.le_of_ble_eq_true rfl⟩ rfl rfl) (mG 1339 (by decide +kernel) rfl) hl.1 (by decide +kernel) ⟨Nat.le_of_ble_eq_true rfl, Nat.le_of_ble_eq_true rfl⟩ ⟨Nat.le_of_ble_eq_true rfl, Nat.le_of_ble_eq_true rfl⟩ (fun H locs K => ?_)
  refine W.widen (k := 39) (n := 10194) (Nat.le_of_ble_eq_true rfl) (Nat.le_of_ble_eq_true rfl) ?_
  exact nx_ret C hrt hlk hsz K (by decide +kernel)
