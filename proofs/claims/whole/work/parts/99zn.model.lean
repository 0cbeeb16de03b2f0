def yN12 : MethodName := ⟨"FarKeysModel", "<init>", "()V"⟩
def cN12 : ByteArray := prog_14_method_2_code
set_option maxRecDepth 20000 in
theorem cw_12 : Cond.code yN12 cN12 1 none ∈ G := mG 1337 rfl rfl
theorem cm_12 : Cond.instanceMethod yN12 ∈ G := mG 1336 (by decide +kernel) rfl
theorem cz_12 : Cond.initialized (clE 12).1 ∈ G := mG 92 (by decide +kernel) rfl
theorem ct_12 : Cond.instantiable (clE 12).1 (clE 12).2.2 ∈ G := mG 1334 (by decide +kernel) rfl
theorem fz_12 : fzC 12 = [.int 0, .null, .int 0, .int 0, .int 0, .int 0, .int 0, .int 0, .int 0, .null, .null, .null, .int 0, .int 0, .null, .int 0, .null, .int 0, .int 0, .int 0, .int 0, .int 0, .int 0, .null, .null, .null, .null, .null, .null, .null, .null, .int 0, .null, .null, .null, .null, .null, .null, .int 0, .null, .null, .null, .null, .null, .null, .null, .null, .null, .null, .int 0, .null, .long 0, .int 0, .null, .null, .null, .int 0, .int 0, .int 0, .long 0, .null, .null, .null, .null, .null] := by decide +kernel
def fsN12 (sz : Nat) : List Value := [.int 0, .ref sz, .int 0, .int 0, .int 0, .int 0, .int 0, .int 0, .int 0, .ref (sz + 1), .ref (sz + 2), .ref (sz + 3), .int 0, .int 0, .ref (sz + 4), .int 0, .ref (sz + 5), .int 0, .int 0, .int 0, .int 0, .int 0, .int 0, .ref (sz + 6), .ref (sz + 7), .ref (sz + 8), .ref (sz + 9), .ref (sz + 10), .ref (sz + 11), .ref (sz + 12), .ref (sz + 13), .int 0, .ref (sz + 14), .ref (sz + 15), .ref (sz + 16), .ref (sz + 17), .ref (sz + 18), .ref (sz + 19), .int 0, .ref (sz + 20), .ref (sz + 21), .ref (sz + 22), .ref (sz + 23), .ref (sz + 24), .ref (sz + 25), .ref (sz + 26), .ref (sz + 27), .ref (sz + 28), .ref (sz + 29), .int 0, .ref (sz + 30), .long 0, .int 0, .ref (sz + 31), .ref (sz + 32), .ref (sz + 33), .int 0, .int 0, .int 0, .long 0, .ref (sz + 34), .ref (sz + 35), .ref (sz + 36), .ref (sz + 37), .ref (sz + 38)]
/-! the reference's constructor -/
section WPB
variable {p : Program} {l : Launch} {e : Env} {R : Room} {s : State} {m : MethodId} {args : Array Value} {below : List Frame} {meth : Method} {c : Code} {Q : State → Prop}
variable {D : va_G} {cI cJ cZ : ClassId} {A : Nat → Prop} {H0 H : Heap} {locs : List Loc} {ls : Array Slot} {cells slots pc n : Nat} {ws : va_W} {cc : ByteArray} {nL : Nat}
theorem nx_wp {q index : Nat} {fs : List Value} {V' : va_W} (C : GN D cI cJ cZ (clE 12).1 cc nL p s m args c) (K : NH D A H0 H locs ((q, .inr (12, fs)) :: ws) n) (hM : Met l yW (Cond.code yW cW 2 none :: G) { frames := 0, cells := 0, slots := 0, locals := 0 } (PW D cI cJ cZ q ((q, .inr (12, fs)) :: ws) n) (QW D ((q, .inr (12, fs)) :: ws) V' n) 0 0 (AW ((q, .inr (12, fs)) :: ws))) (hlk : Cond.methodLink "FarKeysModel" index yW ∈ G) (hsz : ls.size = nL) (hdg : decode cc pc = .ok (.invokevirtual index, 3)) (hR : 1 ≤ R.frames ∧ 21 ≤ R.locals) (hcs : cells ≤ R.cells ∧ slots ≤ R.slots)
    (kk : ∀ (H1 : Heap) (locs1 : List Loc), NH D A H0 H1 locs1 V' n → W p l e R s m args below meth c H1 locs1 cells slots Q (F0 m (pc + 3) ls [])) : W p l e R s m args below meth c H locs cells slots Q (F0 m pc ls [.ref q]) := by
  have hc1 : Cond.code yW cW 2 none ∈ G := ho_163.1
  obtain ⟨hin, hse⟩ := (ho_163.2.2.2.2.2.resolve_left (fun z => absurd z.1 (by decide))).2
  have he : (((q, .inr (12, fs)) :: ws : va_W))[0]? = some (q, .inr (12, fs)) := rfl
  have hrecv := va_recv C.2.2.2.2.2.1 K.1 (clE_get 12 (by decide)) he
  have hcb := callB_of (R := R) (ret := none) (bytes := cW) (maxL := 2) (rm := { frames := 0, cells := 0, slots := 0, locals := 0 }) (mc := 0) (ms := 0) (s := s) (args := args) (own := (clE 12).1) (index := index) (y := yW) (ws := Cond.code yW cW 2 none :: G) 0 C.2.2.2.2.1 (nx_goodIn hc1) rfl rfl rfl (C.2.2.2.2.1 _ cz_12) (C.2.2.2.2.1 _ hlk) (by decide +kernel) ⟨hR.1, hR.2⟩
  have hAW : ∀ x, AW ((q, .inr (12, fs)) :: ws) x → A x := fun x ⟨k, y, h⟩ => K.2.1.2 k _ h
  have hr := va_runV (C := (clE 12).1) (As := []) (rest := []) (b := q) (g := F0 m pc ls [.ref q]) (p := p) (e := e) (below := below) (meth := meth) (locs := locs) (cells := cells) (slots := slots) (nL := nL) (H := H) ⟨C.1, C.2.1, C.2.2.1, C.2.2.2.1, C.2.2.2.2.1⟩ hM ⟨hcb, C.2.2.2.2.1 _ hin, C.2.2.2.2.1 _ hse⟩ ⟨PW_blind, hrecv, fun U hU hW => ⟨rfl, by rw [hU]; exact K.2.2.2, by rw [hU]; exact K.1, ⟨K.2.1.1, fun k x hx => ⟨k, x.2, hx⟩⟩, KN_warm hW C.2.2.2.2.2⟩⟩ rfl rfl hsz rfl (Nat.le_of_ble_eq_true rfl) hdg hcs
  intro T hT X
  obtain ⟨v, st₀, t, T', L, h0, X', hL, e1, e2, ⟨⟨ho, hP1, hD1, hz1⟩, hz, hk⟩, st⟩ := hr T hT X
  cases ho
  rw [h0] at hz hk
  obtain ⟨hP, hD, hS, hn⟩ := K
  have K1 : NH D A H0 T'.heap (locs ++ L) V' n := by
    rw [e1]
    refine ⟨hP1, ⟨hD1.1, fun k x hx => hAW _ (hD1.2 k x hx)⟩, ⟨Nat.le_trans hS.1 hz, fun x h1 h2 => by rw [hk x (Nat.lt_of_lt_of_le h1 hS.1) (fun z => h2 (hAW x z))]; exact hS.2.1 x h1 h2, fun x hx => ?_⟩, hz1⟩
    rcases List.mem_append.mp hx with h | h
    · exact hS.2.2 x h
    · exact hAW _ (hL x h)
  obtain ⟨t2, a1, b1⟩ := kk T'.heap (locs ++ L) K1 T' rfl X'
  exact ⟨t2, st t2 a1, b1⟩
end WPB
/-! many arrays, one after the other -/
abbrev nsp := Nat × Nat × Nat × Nat × ArrayType
def nsF : Nat → List Value → List nsp → List Value
  | _, fs, [] => fs
  | n, fs, x :: r => nsF (n + 1) (fs.set x.2.2.1 (.ref n)) r
def nsW (cI cJ cZ : ClassId) : Nat → List nsp → va_W
  | _, [] => []
  | n, x :: r => (n, .inl (cAof cI cJ cZ x.2.2.2.2, a0Of x.2.2.2.2 x.2.1)) :: nsW cI cJ cZ (n + 1) r
def nsN : List nsp → Nat
  | [] => 0
  | x :: r => x.2.1 + nsN r
def nsPc : Nat → List nsp → Nat
  | pc, [] => pc
  | pc, x :: r => nsPc (pc + 1 + x.1 + 2 + 3) r
def nsOk (cc : ByteArray) (L : Nat) : Nat → List nsp → Bool
  | _, [] => true
  | pc, x :: r => (atOk x.2.2.2.2 && naOk cc pc x.1 x.2.1 x.2.2.2.2 x.2.2.2.1 && Nat.blt x.2.2.1 L) && nsOk cc L (pc + 1 + x.1 + 2 + 3) r
def nsD (ci : Nat) : List nsp → Prop
  | [] => True
  | x :: r => (FDo ci x.2.2.1 x.2.2.2.1 ∧ ∀ q : Nat, narrow ((tyCl.getD ci (fun _ => .int)) x.2.2.1) (.ref q) = .ref q ∧ fits ((tyCl.getD ci (fun _ => .int)) x.2.2.1) (.ref q) = true) ∧ nsD ci r
section NAS
variable {p : Program} {l : Launch} {e : Env} {R : Room} {s : State} {m : MethodId} {args : Array Value} {below : List Frame} {meth : Method} {c : Code} {Q : State → Prop}
variable {D : va_G} {cI cJ cZ : ClassId} {A : Nat → Prop} {H0 : Heap} {ls : Array Slot} {cc : ByteArray} {nL : Nat}
theorem nx_nas {ci a L : Nat} (C : GN D cI cJ cZ (clE ci).1 cc nL p s m args c) (hin2 : meth.name = "<init>") (hA : ∀ q, H0.size ≤ q → A q) (h0 : ls[0]? = some (.val (.ref a))) : ∀ (sp : List nsp) (H : Heap) (locs : List Loc) (fs : List Value) (ws : va_W) (n cells slots pc : Nat), NH D A H0 H locs ((a, .inr (ci, fs)) :: ws) n → nsOk cc L pc sp = true → nsD ci sp → fs.length = L → cells + sp.length ≤ R.cells ∧ slots + nsN sp ≤ R.slots →
    (∀ (H1 : Heap) (locs1 : List Loc), NH D A H0 H1 locs1 ((a, .inr (ci, nsF n fs sp)) :: (ws ++ nsW cI cJ cZ n sp)) (n + sp.length) → W p l e R s m args below meth c H1 locs1 (cells + sp.length) (slots + nsN sp) Q (F0 m (nsPc pc sp) ls [])) → W p l e R s m args below meth c H locs cells slots Q (F0 m pc ls []) := by
  intro sp
  induction sp with
  | nil =>
    intro H locs fs ws n cells slots pc K hok hD hL hcs kk
    have := kk H locs (by unfold nsF nsW; rw [List.append_nil]; exact K)
    exact this
  | cons x r ih =>
    intro H locs fs ws n cells slots pc K hok hD hL hcs kk
    obtain ⟨len, N, k, index, aty⟩ := x
    unfold nsOk at hok
    simp only [Bool.and_eq_true] at hok
    obtain ⟨⟨⟨h1, h2⟩, h3⟩, h4⟩ := hok
    have h3 : k < L := by
      have : Nat.ble (k + 1) L = true := h3
      exact Nat.le_of_ble_eq_true this
    rw [List.length_cons] at hcs
    have hn : nsN ((len, N, k, index, aty) :: r) = N + nsN r := rfl
    rw [hn] at hcs
    refine nx_na C hin2 K hA h0 len N k index aty h1 h2 hD.1.1 hD.1.2 (by rw [hL]; exact h3) ⟨by omega, by omega⟩ (fun H1 locs1 K1 => ?_)
    refine ih H1 locs1 _ _ (n + 1) (cells + 1) (slots + N) _ K1 h4 hD.2 (by rw [List.length_set]; exact hL) ⟨by omega, by omega⟩ (fun H2 locs2 K2 => ?_)
    have kk := kk H2 locs2 (by
      rw [List.append_assoc, Nat.add_assoc, Nat.add_comm 1] at K2
      exact K2)
    rw [hn, List.length_cons] at kk
    rw [show cells + 1 + r.length = cells + (r.length + 1) from by omega, show slots + N + nsN r = slots + (N + nsN r) from by omega]
    exact kk
end NAS
theorem fd_12_1_13 : FDo 12 1 13 := ⟨⟨by decide, by decide⟩, mG 1344 (by decide +kernel) rfl, by decide +kernel⟩
theorem fd_12_9_17 : FDo 12 9 17 := ⟨⟨by decide, by decide⟩, mG 1352 (by decide +kernel) rfl, by decide +kernel⟩
theorem fd_12_10_20 : FDo 12 10 20 := ⟨⟨by decide, by decide⟩, mG 1353 (by decide +kernel) rfl, by decide +kernel⟩
theorem fd_12_11_23 : FDo 12 11 23 := ⟨⟨by decide, by decide⟩, mG 1354 (by decide +kernel) rfl, by decide +kernel⟩
theorem fd_12_14_26 : FDo 12 14 26 := ⟨⟨by decide, by decide⟩, mG 1357 (by decide +kernel) rfl, by decide +kernel⟩
theorem fd_12_16_29 : FDo 12 16 29 := ⟨⟨by decide, by decide⟩, mG 1359 (by decide +kernel) rfl, by decide +kernel⟩
theorem fd_12_23_32 : FDo 12 23 32 := ⟨⟨by decide, by decide⟩, mG 1366 (by decide +kernel) rfl, by decide +kernel⟩
theorem fd_12_24_35 : FDo 12 24 35 := ⟨⟨by decide, by decide⟩, mG 1367 (by decide +kernel) rfl, by decide +kernel⟩
theorem fd_12_26_41 : FDo 12 26 41 := ⟨⟨by decide, by decide⟩, mG 1369 (by decide +kernel) rfl, by decide +kernel⟩
theorem fd_12_27_44 : FDo 12 27 44 := ⟨⟨by decide, by decide⟩, mG 1370 (by decide +kernel) rfl, by decide +kernel⟩
theorem fd_12_28_47 : FDo 12 28 47 := ⟨⟨by decide, by decide⟩, mG 1371 (by decide +kernel) rfl, by decide +kernel⟩
theorem fd_12_29_50 : FDo 12 29 50 := ⟨⟨by decide, by decide⟩, mG 1372 (by decide +kernel) rfl, by decide +kernel⟩
theorem fd_12_32_56 : FDo 12 32 56 := ⟨⟨by decide, by decide⟩, mG 1375 (by decide +kernel) rfl, by decide +kernel⟩
theorem fd_12_33_59 : FDo 12 33 59 := ⟨⟨by decide, by decide⟩, mG 1376 (by decide +kernel) rfl, by decide +kernel⟩
theorem fd_12_34_62 : FDo 12 34 62 := ⟨⟨by decide, by decide⟩, mG 1377 (by decide +kernel) rfl, by decide +kernel⟩
theorem fd_12_35_65 : FDo 12 35 65 := ⟨⟨by decide, by decide⟩, mG 1378 (by decide +kernel) rfl, by decide +kernel⟩
theorem fd_12_36_68 : FDo 12 36 68 := ⟨⟨by decide, by decide⟩, mG 1379 (by decide +kernel) rfl, by decide +kernel⟩
theorem fd_12_37_71 : FDo 12 37 71 := ⟨⟨by decide, by decide⟩, mG 1380 (by decide +kernel) rfl, by decide +kernel⟩
theorem fd_12_39_74 : FDo 12 39 74 := ⟨⟨by decide, by decide⟩, mG 1382 (by decide +kernel) rfl, by decide +kernel⟩
theorem fd_12_40_77 : FDo 12 40 77 := ⟨⟨by decide, by decide⟩, mG 1383 (by decide +kernel) rfl, by decide +kernel⟩
theorem fd_12_41_80 : FDo 12 41 80 := ⟨⟨by decide, by decide⟩, mG 1384 (by decide +kernel) rfl, by decide +kernel⟩
theorem fd_12_42_83 : FDo 12 42 83 := ⟨⟨by decide, by decide⟩, mG 1385 (by decide +kernel) rfl, by decide +kernel⟩
theorem fd_12_43_86 : FDo 12 43 86 := ⟨⟨by decide, by decide⟩, mG 1386 (by decide +kernel) rfl, by decide +kernel⟩
theorem fd_12_44_89 : FDo 12 44 89 := ⟨⟨by decide, by decide⟩, mG 1387 (by decide +kernel) rfl, by decide +kernel⟩
theorem fd_12_45_92 : FDo 12 45 92 := ⟨⟨by decide, by decide⟩, mG 1388 (by decide +kernel) rfl, by decide +kernel⟩
theorem fd_12_46_95 : FDo 12 46 95 := ⟨⟨by decide, by decide⟩, mG 1389 (by decide +kernel) rfl, by decide +kernel⟩
theorem fd_12_47_98 : FDo 12 47 98 := ⟨⟨by decide, by decide⟩, mG 1390 (by decide +kernel) rfl, by decide +kernel⟩
theorem fd_12_48_101 : FDo 12 48 101 := ⟨⟨by decide, by decide⟩, mG 1391 (by decide +kernel) rfl, by decide +kernel⟩
theorem fd_12_50_104 : FDo 12 50 104 := ⟨⟨by decide, by decide⟩, mG 1393 (by decide +kernel) rfl, by decide +kernel⟩
theorem fd_12_53_107 : FDo 12 53 107 := ⟨⟨by decide, by decide⟩, mG 1396 (by decide +kernel) rfl, by decide +kernel⟩
theorem fd_12_54_110 : FDo 12 54 110 := ⟨⟨by decide, by decide⟩, mG 1397 (by decide +kernel) rfl, by decide +kernel⟩
theorem fd_12_55_114 : FDo 12 55 114 := ⟨⟨by decide, by decide⟩, mG 1398 (by decide +kernel) rfl, by decide +kernel⟩
theorem fd_12_60_118 : FDo 12 60 118 := ⟨⟨by decide, by decide⟩, mG 1403 (by decide +kernel) rfl, by decide +kernel⟩
theorem fd_12_61_121 : FDo 12 61 121 := ⟨⟨by decide, by decide⟩, mG 1404 (by decide +kernel) rfl, by decide +kernel⟩
theorem fd_12_62_124 : FDo 12 62 124 := ⟨⟨by decide, by decide⟩, mG 1405 (by decide +kernel) rfl, by decide +kernel⟩
theorem fd_12_63_127 : FDo 12 63 127 := ⟨⟨by decide, by decide⟩, mG 1406 (by decide +kernel) rfl, by decide +kernel⟩
theorem fd_12_64_130 : FDo 12 64 130 := ⟨⟨by decide, by decide⟩, mG 1407 (by decide +kernel) rfl, by decide +kernel⟩
def sp12 : List nsp := [(3, 160, 1, 13, .int), (2, 8, 9, 17, .int), (2, 20, 10, 20, .int), (2, 36, 11, 23, .int), (3, 160, 14, 26, .int), (3, 160, 16, 29, .int), (1, 4, 23, 32, .int), (1, 4, 24, 35, .int), (1, 4, 25, 38, .int), (1, 5, 26, 41, .int), (1, 5, 27, 44, .int), (1, 5, 28, 47, .int), (1, 5, 29, 50, .int), (2, 20, 30, 53, .int), (3, 1280, 32, 56, .int), (2, 8, 33, 59, .int), (1, 5, 34, 62, .int), (1, 5, 35, 65, .int), (2, 20, 36, 68, .int), (1, 4, 37, 71, .int), (1, 5, 39, 74, .int), (1, 5, 40, 77, .int), (1, 4, 41, 80, .int), (3, 160, 42, 83, .int), (1, 4, 43, 86, .int), (2, 50, 44, 89, .int), (3, 2500, 45, 92, .int), (3, 2500, 46, 95, .int), (3, 2500, 47, 98, .int), (2, 30, 48, 101, .int), (1, 4, 50, 104, .int), (3, 160, 53, 107, .int), (2, 40, 54, 110, .boolean), (2, 40, 55, 114, .long), (1, 4, 60, 118, .int), (2, 30, 61, 121, .int), (3, 160, 62, 124, .int), (2, 40, 63, 127, .boolean), (2, 40, 64, 130, .long)]
set_option maxRecDepth 20000 in
theorem sp12_d : nsD 12 sp12 := ⟨⟨fd_12_1_13, fun _ => ⟨rfl, rfl⟩⟩, ⟨fd_12_9_17, fun _ => ⟨rfl, rfl⟩⟩, ⟨fd_12_10_20, fun _ => ⟨rfl, rfl⟩⟩, ⟨fd_12_11_23, fun _ => ⟨rfl, rfl⟩⟩, ⟨fd_12_14_26, fun _ => ⟨rfl, rfl⟩⟩, ⟨fd_12_16_29, fun _ => ⟨rfl, rfl⟩⟩, ⟨fd_12_23_32, fun _ => ⟨rfl, rfl⟩⟩, ⟨fd_12_24_35, fun _ => ⟨rfl, rfl⟩⟩, ⟨fd_12_25_38, fun _ => ⟨rfl, rfl⟩⟩, ⟨fd_12_26_41, fun _ => ⟨rfl, rfl⟩⟩, ⟨fd_12_27_44, fun _ => ⟨rfl, rfl⟩⟩, ⟨fd_12_28_47, fun _ => ⟨rfl, rfl⟩⟩, ⟨fd_12_29_50, fun _ => ⟨rfl, rfl⟩⟩, ⟨fd_12_30_53, fun _ => ⟨rfl, rfl⟩⟩, ⟨fd_12_32_56, fun _ => ⟨rfl, rfl⟩⟩, ⟨fd_12_33_59, fun _ => ⟨rfl, rfl⟩⟩, ⟨fd_12_34_62, fun _ => ⟨rfl, rfl⟩⟩, ⟨fd_12_35_65, fun _ => ⟨rfl, rfl⟩⟩, ⟨fd_12_36_68, fun _ => ⟨rfl, rfl⟩⟩, ⟨fd_12_37_71, fun _ => ⟨rfl, rfl⟩⟩, ⟨fd_12_39_74, fun _ => ⟨rfl, rfl⟩⟩, ⟨fd_12_40_77, fun _ => ⟨rfl, rfl⟩⟩, ⟨fd_12_41_80, fun _ => ⟨rfl, rfl⟩⟩, ⟨fd_12_42_83, fun _ => ⟨rfl, rfl⟩⟩, ⟨fd_12_43_86, fun _ => ⟨rfl, rfl⟩⟩, ⟨fd_12_44_89, fun _ => ⟨rfl, rfl⟩⟩, ⟨fd_12_45_92, fun _ => ⟨rfl, rfl⟩⟩, ⟨fd_12_46_95, fun _ => ⟨rfl, rfl⟩⟩, ⟨fd_12_47_98, fun _ => ⟨rfl, rfl⟩⟩, ⟨fd_12_48_101, fun _ => ⟨rfl, rfl⟩⟩, ⟨fd_12_50_104, fun _ => ⟨rfl, rfl⟩⟩, ⟨fd_12_53_107, fun _ => ⟨rfl, rfl⟩⟩, ⟨fd_12_54_110, fun _ => ⟨rfl, rfl⟩⟩, ⟨fd_12_55_114, fun _ => ⟨rfl, rfl⟩⟩, ⟨fd_12_60_118, fun _ => ⟨rfl, rfl⟩⟩, ⟨fd_12_61_121, fun _ => ⟨rfl, rfl⟩⟩, ⟨fd_12_62_124, fun _ => ⟨rfl, rfl⟩⟩, ⟨fd_12_63_127, fun _ => ⟨rfl, rfl⟩⟩, ⟨fd_12_64_130, fun _ => ⟨rfl, rfl⟩⟩, trivial⟩
theorem sp12_ok : nsOk cN12 65 4 sp12 = true := by decide +kernel
theorem sp12_pc : nsPc 4 sp12 = 310 := by decide +kernel
theorem sp12_n : nsN sp12 = 10194 := by decide +kernel
theorem sp12_l : sp12.length = 39 := by decide +kernel
set_option maxRecDepth 20000 in
def nsG : Nat → List Nat → List nsp → List Nat
  | _, fs, [] => fs
  | n, fs, x :: r => nsG (n + 1) (fs.set x.2.2.1 (n + 3)) r
def nsE (sz : Nat) : Nat → Value
  | 0 => .int 0
  | 1 => .long 0
  | 2 => .null
  | c + 3 => .ref (sz + c)
theorem nsF_G (sz : Nat) : ∀ (sp : List nsp) (n : Nat) (fs : List Nat), nsF (sz + n) (fs.map (nsE sz)) sp = (nsG n fs sp).map (nsE sz)
  | [], _, _ => rfl
  | x :: r, n, fs => by
    have h := nsF_G sz r (n + 1) (fs.set x.2.2.1 (n + 3))
    rw [List.map_set] at h
    exact h
theorem sp12_f (sz : Nat) : nsF sz [.int 0, .null, .int 0, .int 0, .int 0, .int 0, .int 0, .int 0, .int 0, .null, .null, .null, .int 0, .int 0, .null, .int 0, .null, .int 0, .int 0, .int 0, .int 0, .int 0, .int 0, .null, .null, .null, .null, .null, .null, .null, .null, .int 0, .null, .null, .null, .null, .null, .null, .int 0, .null, .null, .null, .null, .null, .null, .null, .null, .null, .null, .int 0, .null, .long 0, .int 0, .null, .null, .null, .int 0, .int 0, .int 0, .long 0, .null, .null, .null, .null, .null] sp12 = fsN12 sz := by
  have h := nsF_G sz sp12 0 [0, 2, 0, 0, 0, 0, 0, 0, 0, 2, 2, 2, 0, 0, 2, 0, 2, 0, 0, 0, 0, 0, 0, 2, 2, 2, 2, 2, 2, 2, 2, 0, 2, 2, 2, 2, 2, 2, 0, 2, 2, 2, 2, 2, 2, 2, 2, 2, 2, 0, 2, 1, 0, 2, 2, 2, 0, 0, 0, 1, 2, 2, 2, 2, 2]
  rw [show nsG 0 [0, 2, 0, 0, 0, 0, 0, 0, 0, 2, 2, 2, 0, 0, 2, 0, 2, 0, 0, 0, 0, 0, 0, 2, 2, 2, 2, 2, 2, 2, 2, 0, 2, 2, 2, 2, 2, 2, 0, 2, 2, 2, 2, 2, 2, 2, 2, 2, 2, 0, 2, 1, 0, 2, 2, 2, 0, 0, 0, 1, 2, 2, 2, 2, 2] sp12 = [0, 3, 0, 0, 0, 0, 0, 0, 0, 4, 5, 6, 0, 0, 7, 0, 8, 0, 0, 0, 0, 0, 0, 9, 10, 11, 12, 13, 14, 15, 16, 0, 17, 18, 19, 20, 21, 22, 0, 23, 24, 25, 26, 27, 28, 29, 30, 31, 32, 0, 33, 1, 0, 34, 35, 36, 0, 0, 0, 1, 37, 38, 39, 40, 41] from by decide +kernel] at h
  exact h
def wvN12 (cI cJ cZ : ClassId) (sz : Nat) : va_W := [(sz, .inl (cI, a0Of .int 160)), ((sz + 1), .inl (cI, a0Of .int 8)), ((sz + 2), .inl (cI, a0Of .int 20)), ((sz + 3), .inl (cI, a0Of .int 36)), ((sz + 4), .inl (cI, a0Of .int 160)), ((sz + 5), .inl (cI, a0Of .int 160)), ((sz + 6), .inl (cI, a0Of .int 4)), ((sz + 7), .inl (cI, a0Of .int 4)), ((sz + 8), .inl (cI, a0Of .int 4)), ((sz + 9), .inl (cI, a0Of .int 5)), ((sz + 10), .inl (cI, a0Of .int 5)), ((sz + 11), .inl (cI, a0Of .int 5)), ((sz + 12), .inl (cI, a0Of .int 5)), ((sz + 13), .inl (cI, a0Of .int 20)), ((sz + 14), .inl (cI, a0Of .int 1280)), ((sz + 15), .inl (cI, a0Of .int 8)), ((sz + 16), .inl (cI, a0Of .int 5)), ((sz + 17), .inl (cI, a0Of .int 5)), ((sz + 18), .inl (cI, a0Of .int 20)), ((sz + 19), .inl (cI, a0Of .int 4)), ((sz + 20), .inl (cI, a0Of .int 5)), ((sz + 21), .inl (cI, a0Of .int 5)), ((sz + 22), .inl (cI, a0Of .int 4)), ((sz + 23), .inl (cI, a0Of .int 160)), ((sz + 24), .inl (cI, a0Of .int 4)), ((sz + 25), .inl (cI, a0Of .int 50)), ((sz + 26), .inl (cI, a0Of .int 2500)), ((sz + 27), .inl (cI, a0Of .int 2500)), ((sz + 28), .inl (cI, a0Of .int 2500)), ((sz + 29), .inl (cI, a0Of .int 30)), ((sz + 30), .inl (cI, a0Of .int 4)), ((sz + 31), .inl (cI, a0Of .int 160)), ((sz + 32), .inl (cZ, a0Of .boolean 40)), ((sz + 33), .inl (cJ, a0Of .long 40)), ((sz + 34), .inl (cI, a0Of .int 4)), ((sz + 35), .inl (cI, a0Of .int 30)), ((sz + 36), .inl (cI, a0Of .int 160)), ((sz + 37), .inl (cZ, a0Of .boolean 40)), ((sz + 38), .inl (cJ, a0Of .long 40))]
set_option maxRecDepth 20000 in
theorem sp12_w (cI cJ cZ : ClassId) (sz : Nat) : nsW cI cJ cZ sz sp12 = wvN12 cI cJ cZ sz := rfl
def wnN12 (cI cJ cZ : ClassId) (sz : Nat) : va_W := [(sz, .inl (cI, a0Of .int 160)), ((sz + 1), .inl (cI, a0Of .int 8)), ((sz + 2), .inl (cI, a0Of .int 20)), ((sz + 3), .inl (cI, a0Of .int 36)), ((sz + 4), .inl (cI, a0Of .int 160)), ((sz + 5), .inl (cI, a0Of .int 160)), ((sz + 6), .inl (cI, a0Of .int 4)), ((sz + 7), .inl (cI, a0Of .int 4)), ((sz + 8), m1A cI 4), ((sz + 9), .inl (cI, a0Of .int 5)), ((sz + 10), .inl (cI, a0Of .int 5)), ((sz + 11), .inl (cI, a0Of .int 5)), ((sz + 12), .inl (cI, a0Of .int 5)), ((sz + 13), m1A cI 20), ((sz + 14), .inl (cI, a0Of .int 1280)), ((sz + 15), .inl (cI, a0Of .int 8)), ((sz + 16), .inl (cI, a0Of .int 5)), ((sz + 17), .inl (cI, a0Of .int 5)), ((sz + 18), .inl (cI, a0Of .int 20)), ((sz + 19), .inl (cI, a0Of .int 4)), ((sz + 20), .inl (cI, a0Of .int 5)), ((sz + 21), .inl (cI, a0Of .int 5)), ((sz + 22), .inl (cI, a0Of .int 4)), ((sz + 23), .inl (cI, a0Of .int 160)), ((sz + 24), .inl (cI, a0Of .int 4)), ((sz + 25), .inl (cI, a0Of .int 50)), ((sz + 26), .inl (cI, a0Of .int 2500)), ((sz + 27), .inl (cI, a0Of .int 2500)), ((sz + 28), .inl (cI, a0Of .int 2500)), ((sz + 29), .inl (cI, a0Of .int 30)), ((sz + 30), .inl (cI, a0Of .int 4)), ((sz + 31), .inl (cI, a0Of .int 160)), ((sz + 32), .inl (cZ, a0Of .boolean 40)), ((sz + 33), .inl (cJ, a0Of .long 40)), ((sz + 34), .inl (cI, a0Of .int 4)), ((sz + 35), .inl (cI, a0Of .int 30)), ((sz + 36), .inl (cI, a0Of .int 160)), ((sz + 37), .inl (cZ, a0Of .boolean 40)), ((sz + 38), .inl (cJ, a0Of .long 40))]
theorem wv12_l (cI cJ cZ : ClassId) (sz : Nat) : (wvN12 cI cJ cZ sz).length = 39 := rfl
theorem wv12_1 (cI cJ cZ : ClassId) (sz : Nat) : (wvN12 cI cJ cZ sz).set 8 ((sz + 8), .inl (cI, 4, .inl (fun _ => 0))) = wvN12 cI cJ cZ sz := rfl
theorem wv12_2 (cI cJ cZ : ClassId) (sz : Nat) : ((wvN12 cI cJ cZ sz).set 8 ((sz + 8), m1A cI 4)).set 13 ((sz + 13), .inl (cI, 20, .inl (fun _ => 0))) = (wvN12 cI cJ cZ sz).set 8 ((sz + 8), m1A cI 4) := rfl
theorem wv12_3 (cI cJ cZ : ClassId) (sz : Nat) : ((wvN12 cI cJ cZ sz).set 8 ((sz + 8), m1A cI 4)).set 13 ((sz + 13), m1A cI 20) = wnN12 cI cJ cZ sz := rfl
theorem fs12_a (sz : Nat) : (fsN12 sz)[25]? = some (.ref (sz + 8)) := rfl
theorem fs12_b (sz : Nat) : (fsN12 sz)[30]? = some (.ref (sz + 13)) := rfl
theorem fs12_c (sz : Nat) : (fsN12 sz).set 18 (.int 0) = fsN12 sz := rfl
theorem fs12_l (sz : Nat) : (fsN12 sz).length = 65 := rfl
set_option maxHeartbeats 40000000 in
set_option maxRecDepth 20000 in
theorem c_N12 (l : Launch) (D : va_G) (cI cJ cZ : ClassId) (q sz : Nat) : MN l D cI cJ cZ 12 yN12 cN12 1 1 21 39 10194 [] q sz (fsN12  sz) (wnN12 cI cJ cZ sz) := by
  refine nx_ofW (by decide +kernel) rfl ?_
  intro p e s m below meth c C hin2 hrt hlk hsz K hA
  have C : GN D cI cJ cZ (clE 12).1 cN12 1 p s m _ c := C
  have hl := lv_entry ([.ref q]) (n := 1) (Nat.le_of_ble_eq_true rfl)
  rw [lg_entry_eq]
  generalize (lg_sl ([.ref q]) ++ List.replicate (1 - (lg_sl ([.ref q])).length) Slot.unset).toArray = ls at hl ⊢
  have hl : lv_has ls 1 [(0, .ref q)] := hl
  have h0 := lv_at hl 0 rfl
  rw [fz_12] at K
  refine nx_obj (idx := 7) C h0 hl.1 (mG 1338 (by decide +kernel) rfl) (by decide +kernel) (by decide +kernel) ⟨Nat.le_of_ble_eq_true rfl, Nat.le_of_ble_eq_true rfl⟩ ?_
  refine nx_nas (L := 65) C hin2 hA h0 sp12 _ _ [.int 0, .null, .int 0, .int 0, .int 0, .int 0, .int 0, .int 0, .int 0, .null, .null, .null, .int 0, .int 0, .null, .int 0, .null, .int 0, .int 0, .int 0, .int 0, .int 0, .int 0, .null, .null, .null, .null, .null, .null, .null, .null, .int 0, .null, .null, .null, .null, .null, .null, .int 0, .null, .null, .null, .null, .null, .null, .null, .null, .null, .null, .int 0, .null, .long 0, .int 0, .null, .null, .null, .int 0, .int 0, .int 0, .long 0, .null, .null, .null, .null, .null] ([] : va_W) sz 0 0 4 K sp12_ok sp12_d rfl ⟨by rw [sp12_l]; decide, by rw [sp12_n]; decide⟩ (fun H locs K => ?_)
  rw [sp12_f, sp12_w, List.nil_append, sp12_l] at K
  rw [sp12_pc, sp12_l, sp12_n]
  refine lv_aload_n C.1 C.2.1 (by decide +kernel : decode cN12 310 = .ok (.aload_n 0, 1)) rfl h0 ?_
  refine nx_wp (index := 133) (V' := (q, .inr (12, fsN12 sz)) :: wnN12 cI cJ cZ sz) C K ?_ (mG 1339 (by decide +kernel) rfl) hl.1 (by decide +kernel) ⟨Nat.le_of_ble_eq_true rfl, Nat.le_of_ble_eq_true rfl⟩ ⟨Nat.le_of_ble_eq_true rfl, Nat.le_of_ble_eq_true rfl⟩ (fun H locs K => ?_)
  · have := c_wp l D cI cJ cZ q (sz + 8) (sz + 13) (sz + 39) 8 13 (fsN12 sz) (wvN12 cI cJ cZ sz) (fun _ => 0) (fun _ => 0) (fs12_a sz) (fs12_b sz) (by rw [fs12_l]; decide) (fs12_c sz) ⟨by rw [wv12_l]; decide, by rw [wv12_l]; decide⟩ (wv12_1 cI cJ cZ sz) (wv12_2 cI cJ cZ sz)
    rw [wv12_3] at this
    exact this
  refine W.widen (k := 39) (n := 10194) (Nat.le_of_ble_eq_true rfl) (Nat.le_of_ble_eq_true rfl) ?_
  exact nx_ret C hrt hlk hsz K (by decide +kernel)
