/-! FarKeys' constructor -/
theorem hd_9 : yN9.name = "<init>" ∧ yN9.cls ≠ "java/lang/invoke/MethodHandle" ∧ yN9.cls ≠ "java/lang/invoke/VarHandle" ∧ (parseMethodDescriptor yN9.desc).map (fun d => d.parameters.length) = some 0 := ⟨rfl, by decide +kernel, by decide +kernel, by decide +kernel⟩
theorem hd_3 : yN3.name = "<init>" ∧ yN3.cls ≠ "java/lang/invoke/MethodHandle" ∧ yN3.cls ≠ "java/lang/invoke/VarHandle" ∧ (parseMethodDescriptor yN3.desc).map (fun d => d.parameters.length) = some 1 := ⟨rfl, by decide +kernel, by decide +kernel, by decide +kernel⟩
theorem hd_4 : yN4.name = "<init>" ∧ yN4.cls ≠ "java/lang/invoke/MethodHandle" ∧ yN4.cls ≠ "java/lang/invoke/VarHandle" ∧ (parseMethodDescriptor yN4.desc).map (fun d => d.parameters.length) = some 1 := ⟨rfl, by decide +kernel, by decide +kernel, by decide +kernel⟩
theorem hd_5 : yN5.name = "<init>" ∧ yN5.cls ≠ "java/lang/invoke/MethodHandle" ∧ yN5.cls ≠ "java/lang/invoke/VarHandle" ∧ (parseMethodDescriptor yN5.desc).map (fun d => d.parameters.length) = some 0 := ⟨rfl, by decide +kernel, by decide +kernel, by decide +kernel⟩
theorem hd_2 : yN2.name = "<init>" ∧ yN2.cls ≠ "java/lang/invoke/MethodHandle" ∧ yN2.cls ≠ "java/lang/invoke/VarHandle" ∧ (parseMethodDescriptor yN2.desc).map (fun d => d.parameters.length) = some 0 := ⟨rfl, by decide +kernel, by decide +kernel, by decide +kernel⟩
theorem hd_0 : yN0.name = "<init>" ∧ yN0.cls ≠ "java/lang/invoke/MethodHandle" ∧ yN0.cls ≠ "java/lang/invoke/VarHandle" ∧ (parseMethodDescriptor yN0.desc).map (fun d => d.parameters.length) = some 0 := ⟨rfl, by decide +kernel, by decide +kernel, by decide +kernel⟩
theorem hd_10 : yN10.name = "<init>" ∧ yN10.cls ≠ "java/lang/invoke/MethodHandle" ∧ yN10.cls ≠ "java/lang/invoke/VarHandle" ∧ (parseMethodDescriptor yN10.desc).map (fun d => d.parameters.length) = some 2 := ⟨rfl, by decide +kernel, by decide +kernel, by decide +kernel⟩
theorem hd_8 : yN8.name = "<init>" ∧ yN8.cls ≠ "java/lang/invoke/MethodHandle" ∧ yN8.cls ≠ "java/lang/invoke/VarHandle" ∧ (parseMethodDescriptor yN8.desc).map (fun d => d.parameters.length) = some 0 := ⟨rfl, by decide +kernel, by decide +kernel, by decide +kernel⟩
theorem hd_7 : yN7.name = "<init>" ∧ yN7.cls ≠ "java/lang/invoke/MethodHandle" ∧ yN7.cls ≠ "java/lang/invoke/VarHandle" ∧ (parseMethodDescriptor yN7.desc).map (fun d => d.parameters.length) = some 0 := ⟨rfl, by decide +kernel, by decide +kernel, by decide +kernel⟩
theorem hd_1 : yN1.name = "<init>" ∧ yN1.cls ≠ "java/lang/invoke/MethodHandle" ∧ yN1.cls ≠ "java/lang/invoke/VarHandle" ∧ (parseMethodDescriptor yN1.desc).map (fun d => d.parameters.length) = some 0 := ⟨rfl, by decide +kernel, by decide +kernel, by decide +kernel⟩
def yN11 : MethodName := ⟨"FarKeys", "<init>", "()V"⟩
def cN11 : ByteArray := prog_1_method_1_code
theorem cw_11 : Cond.code yN11 cN11 1 none ∈ G := mG 104 rfl rfl
theorem cm_11 : Cond.instanceMethod yN11 ∈ G := mG 103 (by decide +kernel) rfl
theorem cz_11 : Cond.initialized (clE 11).1 ∈ G := mG 80 (by decide +kernel) rfl
theorem ct_11 : Cond.instantiable (clE 11).1 (clE 11).2.2 ∈ G := mG 101 (by decide +kernel) rfl
theorem fz_11 : fzC 11 = [.null, .null, .null, .null, .null, .null, .null, .null, .null, .null, .int 0, .null, .null, .null, .null] := by decide +kernel
def fsN11 (sz : Nat) : List Value := [.ref sz, .ref (sz + 2), .ref (sz + 12), .ref (sz + 14), .ref (sz + 20), .ref (sz + 28), .ref (sz + 36), .ref (sz + 37), .ref (sz + 38), .ref (sz + 46), .int 0, .ref (sz + 54), .ref (sz + 65), .ref (sz + 70), .ref (sz + 76)]
theorem fd_11_0_12 : FDo 11 0 12 := ⟨⟨by decide, by decide⟩, mG 545 (by decide +kernel) rfl, by decide +kernel⟩
theorem fd_11_1_21 : FDo 11 1 21 := ⟨⟨by decide, by decide⟩, mG 546 (by decide +kernel) rfl, by decide +kernel⟩
theorem fd_11_2_28 : FDo 11 2 28 := ⟨⟨by decide, by decide⟩, mG 547 (by decide +kernel) rfl, by decide +kernel⟩
theorem fd_11_3_35 : FDo 11 3 35 := ⟨⟨by decide, by decide⟩, mG 548 (by decide +kernel) rfl, by decide +kernel⟩
theorem fd_11_4_42 : FDo 11 4 42 := ⟨⟨by decide, by decide⟩, mG 549 (by decide +kernel) rfl, by decide +kernel⟩
theorem fd_11_5_46 : FDo 11 5 46 := ⟨⟨by decide, by decide⟩, mG 550 (by decide +kernel) rfl, by decide +kernel⟩
theorem fd_11_6_49 : FDo 11 6 49 := ⟨⟨by decide, by decide⟩, mG 551 (by decide +kernel) rfl, by decide +kernel⟩
theorem fd_11_7_53 : FDo 11 7 53 := ⟨⟨by decide, by decide⟩, mG 552 (by decide +kernel) rfl, by decide +kernel⟩
theorem fd_11_8_59 : FDo 11 8 59 := ⟨⟨by decide, by decide⟩, mG 553 (by decide +kernel) rfl, by decide +kernel⟩
theorem fd_11_9_63 : FDo 11 9 63 := ⟨⟨by decide, by decide⟩, mG 554 (by decide +kernel) rfl, by decide +kernel⟩
theorem fd_11_11_71 : FDo 11 11 71 := ⟨⟨by decide, by decide⟩, mG 556 (by decide +kernel) rfl, by decide +kernel⟩
theorem fd_11_12_78 : FDo 11 12 78 := ⟨⟨by decide, by decide⟩, mG 557 (by decide +kernel) rfl, by decide +kernel⟩
theorem fd_11_13_85 : FDo 11 13 85 := ⟨⟨by decide, by decide⟩, mG 558 (by decide +kernel) rfl, by decide +kernel⟩
theorem fd_11_14_92 : FDo 11 14 92 := ⟨⟨by decide, by decide⟩, mG 559 (by decide +kernel) rfl, by decide +kernel⟩
def wnN11 (cI cJ cZ : ClassId) (sz : Nat) : va_W := ([] : va_W) ++ ((sz, .inr (9, fsN9  (sz + 1))) :: wnN9 cI cJ cZ (sz + 1)) ++ (((sz + 2), .inr (3, fsN3 sz (sz + 3))) :: wnN3 cI cJ cZ (sz + 3)) ++ (((sz + 12), .inr (4, fsN4 sz (sz + 13))) :: wnN4 cI cJ cZ (sz + 13)) ++ (((sz + 14), .inr (5, fsN5  (sz + 15))) :: wnN5 cI cJ cZ (sz + 15)) ++ (((sz + 20), .inr (2, fsN2  (sz + 21))) :: wnN2 cI cJ cZ (sz + 21)) ++ (((sz + 28), .inr (2, fsN2  (sz + 29))) :: wnN2 cI cJ cZ (sz + 29)) ++ [((sz + 36), .inl (cI, a0Of .int 4))] ++ [((sz + 37), .inl (cI, a0Of .int 5))] ++ (((sz + 38), .inr (0, fsN0  (sz + 39))) :: wnN0 cI cJ cZ (sz + 39)) ++ (((sz + 46), .inr (0, fsN0  (sz + 47))) :: wnN0 cI cJ cZ (sz + 47)) ++ (((sz + 54), .inr (10, fsN10 (sz + 14) (sz + 20) (sz + 55))) :: wnN10 cI cJ cZ (sz + 55)) ++ (((sz + 65), .inr (8, fsN8  (sz + 66))) :: wnN8 cI cJ cZ (sz + 66)) ++ (((sz + 70), .inr (7, fsN7  (sz + 71))) :: wnN7 cI cJ cZ (sz + 71)) ++ (((sz + 76), .inr (1, fsN1  (sz + 77))) :: wnN1 cI cJ cZ (sz + 77))
set_option maxHeartbeats 4000000 in
set_option maxRecDepth 20000 in
theorem c_N11 (l : Launch) (D : va_G) (cI cJ cZ : ClassId) (q sz : Nat) : MN l D cI cJ cZ 11 yN11 cN11 1 3 54 90 10219 [] q sz (fsN11  sz) (wnN11 cI cJ cZ sz) := by
  refine nx_ofW (by decide +kernel) rfl ?_
  intro p e s m below meth c C hin2 hrt hlk hsz K hA
  have C : GN D cI cJ cZ (clE 11).1 cN11 1 p s m _ c := C
  have hl := lv_entry ([.ref q]) (n := 1) (Nat.le_of_ble_eq_true rfl)
  rw [lg_entry_eq]
  generalize (lg_sl ([.ref q]) ++ List.replicate (1 - (lg_sl ([.ref q])).length) Slot.unset).toArray = ls at hl ⊢
  have hl : lv_has ls 1 [(0, .ref q)] := hl
  have h0 := lv_at hl 0 rfl
  rw [fz_11] at K
  refine nx_obj (idx := 3) C h0 hl.1 (mG 105 (by decide +kernel) rfl) (by decide +kernel) (by decide +kernel) ⟨Nat.le_of_ble_eq_true rfl, Nat.le_of_ble_eq_true rfl⟩ ?_
  refine nx_newO (cj := 9) (index := 9) C K hA h0 (by decide) (mG 108 (by decide +kernel) rfl) ct_9 cz_9 (N := 4) rfl (Nat.le_of_ble_eq_true rfl) (Nat.le_of_ble_eq_true rfl) (by decide +kernel) (by decide +kernel) (by decide +kernel) (fun H K => ?_)
  have K : NH D (AN q sz) s.heap H [] ((q, .inr (11, [.null, .null, .null, .null, .null, .null, .null, .null, .null, .null, .int 0, .null, .null, .null, .null])) :: (([] : va_W) ++ [(sz, .inr (9, fzC 9))])) (sz + 1) := K
  refine nx_objN (index := 11) (As := []) C hin2 K hA (c_N9 l D cI cJ cZ sz (sz + 1) ) cw_9 (by decide +kernel) cz_9 cm_9 hd_9 ⟨Nat.le_of_ble_eq_true rfl, Nat.le_of_ble_eq_true rfl⟩ hl.1 rfl (by decide +kernel) ⟨Nat.le_of_ble_eq_true rfl, Nat.le_of_ble_eq_true rfl⟩ fd_11_0_12 (fun _ => ⟨rfl, rfl⟩) (Nat.le_of_ble_eq_true rfl) (by decide +kernel) (fun H locs K => ?_)
  obtain ⟨w1, e1⟩ : ∃ w : va_W, w = ([] : va_W) ++ ((sz, .inr (9, fsN9  (sz + 1))) :: wnN9 cI cJ cZ (sz + 1)) := ⟨_, rfl⟩
  have K : NH D (AN q sz) s.heap H locs ((q, .inr (11, [.ref sz, .null, .null, .null, .null, .null, .null, .null, .null, .null, .int 0, .null, .null, .null, .null])) :: (([] : va_W) ++ ((sz, .inr (9, fsN9  (sz + 1))) :: wnN9 cI cJ cZ (sz + 1)))) (sz + 2) := K
  rw [← e1] at K
  refine nx_newO (cj := 3) (index := 16) C K hA h0 (by decide) (mG 135 (by decide +kernel) rfl) ct_3 cz_3 (N := 3) rfl (Nat.le_of_ble_eq_true rfl) (Nat.le_of_ble_eq_true rfl) (by decide +kernel) (by decide +kernel) (by decide +kernel) (fun H K => ?_)
  have K : NH D (AN q sz) s.heap H locs ((q, .inr (11, [.ref sz, .null, .null, .null, .null, .null, .null, .null, .null, .null, .int 0, .null, .null, .null, .null])) :: (w1 ++ [((sz + 2), .inr (3, fzC 3))])) (sz + 3) := K
  refine lv_aload_n C.1 C.2.1 (by decide +kernel : decode cN11 20 = .ok (.aload_n 0, 1)) rfl h0 ?_
  refine nx_get C K fd_11_0_12 rfl (by decide +kernel) ?_
  refine nx_objP (index := 18) (As := [.ref sz]) C hin2 K hA (c_N3 l D cI cJ cZ (sz + 2) (sz + 3) sz) cw_3 (mG 137 (by decide +kernel) rfl) cz_3 cm_3 ⟨hd_3.1, hd_3.2.1, hd_3.2.2.1, hd_3.2.2.2⟩ ⟨Nat.le_of_ble_eq_true rfl, Nat.le_of_ble_eq_true rfl⟩ hl.1 rfl (by decide +kernel) ⟨Nat.le_of_ble_eq_true rfl, Nat.le_of_ble_eq_true rfl⟩ fd_11_1_21 (fun _ => ⟨rfl, rfl⟩) (Nat.le_of_ble_eq_true rfl) (by decide +kernel) (fun H locs K => ?_)
  obtain ⟨w2, e2⟩ : ∃ w : va_W, w = w1 ++ (((sz + 2), .inr (3, fsN3 sz (sz + 3))) :: wnN3 cI cJ cZ (sz + 3)) := ⟨_, rfl⟩
  have K : NH D (AN q sz) s.heap H locs ((q, .inr (11, [.ref sz, .ref (sz + 2), .null, .null, .null, .null, .null, .null, .null, .null, .int 0, .null, .null, .null, .null])) :: (w1 ++ (((sz + 2), .inr (3, fsN3 sz (sz + 3))) :: wnN3 cI cJ cZ (sz + 3)))) (sz + 12) := K
  rw [← e2] at K
  refine nx_newO (cj := 4) (index := 25) C K hA h0 (by decide) (mG 235 (by decide +kernel) rfl) ct_4 cz_4 (N := 6) rfl (Nat.le_of_ble_eq_true rfl) (Nat.le_of_ble_eq_true rfl) (by decide +kernel) (by decide +kernel) (by decide +kernel) (fun H K => ?_)
  have K : NH D (AN q sz) s.heap H locs ((q, .inr (11, [.ref sz, .ref (sz + 2), .null, .null, .null, .null, .null, .null, .null, .null, .int 0, .null, .null, .null, .null])) :: (w2 ++ [((sz + 12), .inr (4, fzC 4))])) (sz + 13) := K
  refine lv_aload_n C.1 C.2.1 (by decide +kernel : decode cN11 35 = .ok (.aload_n 0, 1)) rfl h0 ?_
  refine nx_get C K fd_11_0_12 rfl (by decide +kernel) ?_
  refine nx_objP (index := 27) (As := [.ref sz]) C hin2 K hA (c_N4 l D cI cJ cZ (sz + 12) (sz + 13) sz) cw_4 (mG 237 (by decide +kernel) rfl) cz_4 cm_4 ⟨hd_4.1, hd_4.2.1, hd_4.2.2.1, hd_4.2.2.2⟩ ⟨Nat.le_of_ble_eq_true rfl, Nat.le_of_ble_eq_true rfl⟩ hl.1 rfl (by decide +kernel) ⟨Nat.le_of_ble_eq_true rfl, Nat.le_of_ble_eq_true rfl⟩ fd_11_2_28 (fun _ => ⟨rfl, rfl⟩) (Nat.le_of_ble_eq_true rfl) (by decide +kernel) (fun H locs K => ?_)
  obtain ⟨w3, e3⟩ : ∃ w : va_W, w = w2 ++ (((sz + 12), .inr (4, fsN4 sz (sz + 13))) :: wnN4 cI cJ cZ (sz + 13)) := ⟨_, rfl⟩
  have K : NH D (AN q sz) s.heap H locs ((q, .inr (11, [.ref sz, .ref (sz + 2), .ref (sz + 12), .null, .null, .null, .null, .null, .null, .null, .int 0, .null, .null, .null, .null])) :: (w2 ++ (((sz + 12), .inr (4, fsN4 sz (sz + 13))) :: wnN4 cI cJ cZ (sz + 13)))) (sz + 14) := K
  rw [← e3] at K
  refine nx_newO (cj := 5) (index := 32) C K hA h0 (by decide) (mG 263 (by decide +kernel) rfl) ct_5 cz_5 (N := 6) rfl (Nat.le_of_ble_eq_true rfl) (Nat.le_of_ble_eq_true rfl) (by decide +kernel) (by decide +kernel) (by decide +kernel) (fun H K => ?_)
  have K : NH D (AN q sz) s.heap H locs ((q, .inr (11, [.ref sz, .ref (sz + 2), .ref (sz + 12), .null, .null, .null, .null, .null, .null, .null, .int 0, .null, .null, .null, .null])) :: (w3 ++ [((sz + 14), .inr (5, fzC 5))])) (sz + 15) := K
  refine nx_objN (index := 34) (As := []) C hin2 K hA (c_N5 l D cI cJ cZ (sz + 14) (sz + 15) ) cw_5 (by decide +kernel) cz_5 cm_5 hd_5 ⟨Nat.le_of_ble_eq_true rfl, Nat.le_of_ble_eq_true rfl⟩ hl.1 rfl (by decide +kernel) ⟨Nat.le_of_ble_eq_true rfl, Nat.le_of_ble_eq_true rfl⟩ fd_11_3_35 (fun _ => ⟨rfl, rfl⟩) (Nat.le_of_ble_eq_true rfl) (by decide +kernel) (fun H locs K => ?_)
  obtain ⟨w4, e4⟩ : ∃ w : va_W, w = w3 ++ (((sz + 14), .inr (5, fsN5  (sz + 15))) :: wnN5 cI cJ cZ (sz + 15)) := ⟨_, rfl⟩
  have K : NH D (AN q sz) s.heap H locs ((q, .inr (11, [.ref sz, .ref (sz + 2), .ref (sz + 12), .ref (sz + 14), .null, .null, .null, .null, .null, .null, .int 0, .null, .null, .null, .null])) :: (w3 ++ (((sz + 14), .inr (5, fsN5  (sz + 15))) :: wnN5 cI cJ cZ (sz + 15)))) (sz + 20) := K
  rw [← e4] at K
  refine nx_newO (cj := 2) (index := 39) C K hA h0 (by decide) (mG 289 (by decide +kernel) rfl) ct_2 cz_2 (N := 15) rfl (Nat.le_of_ble_eq_true rfl) (Nat.le_of_ble_eq_true rfl) (by decide +kernel) (by decide +kernel) (by decide +kernel) (fun H K => ?_)
  have K : NH D (AN q sz) s.heap H locs ((q, .inr (11, [.ref sz, .ref (sz + 2), .ref (sz + 12), .ref (sz + 14), .null, .null, .null, .null, .null, .null, .int 0, .null, .null, .null, .null])) :: (w4 ++ [((sz + 20), .inr (2, fzC 2))])) (sz + 21) := K
  refine nx_objN (index := 41) (As := []) C hin2 K hA (c_N2 l D cI cJ cZ (sz + 20) (sz + 21) ) cw_2 (by decide +kernel) cz_2 cm_2 hd_2 ⟨Nat.le_of_ble_eq_true rfl, Nat.le_of_ble_eq_true rfl⟩ hl.1 rfl (by decide +kernel) ⟨Nat.le_of_ble_eq_true rfl, Nat.le_of_ble_eq_true rfl⟩ fd_11_4_42 (fun _ => ⟨rfl, rfl⟩) (Nat.le_of_ble_eq_true rfl) (by decide +kernel) (fun H locs K => ?_)
  obtain ⟨w5, e5⟩ : ∃ w : va_W, w = w4 ++ (((sz + 20), .inr (2, fsN2  (sz + 21))) :: wnN2 cI cJ cZ (sz + 21)) := ⟨_, rfl⟩
  have K : NH D (AN q sz) s.heap H locs ((q, .inr (11, [.ref sz, .ref (sz + 2), .ref (sz + 12), .ref (sz + 14), .ref (sz + 20), .null, .null, .null, .null, .null, .int 0, .null, .null, .null, .null])) :: (w4 ++ (((sz + 20), .inr (2, fsN2  (sz + 21))) :: wnN2 cI cJ cZ (sz + 21)))) (sz + 28) := K
  rw [← e5] at K
  refine nx_newO (cj := 2) (index := 39) C K hA h0 (by decide) (mG 289 (by decide +kernel) rfl) ct_2 cz_2 (N := 15) rfl (Nat.le_of_ble_eq_true rfl) (Nat.le_of_ble_eq_true rfl) (by decide +kernel) (by decide +kernel) (by decide +kernel) (fun H K => ?_)
  have K : NH D (AN q sz) s.heap H locs ((q, .inr (11, [.ref sz, .ref (sz + 2), .ref (sz + 12), .ref (sz + 14), .ref (sz + 20), .null, .null, .null, .null, .null, .int 0, .null, .null, .null, .null])) :: (w5 ++ [((sz + 28), .inr (2, fzC 2))])) (sz + 29) := K
  refine nx_objN (index := 41) (As := []) C hin2 K hA (c_N2 l D cI cJ cZ (sz + 28) (sz + 29) ) cw_2 (by decide +kernel) cz_2 cm_2 hd_2 ⟨Nat.le_of_ble_eq_true rfl, Nat.le_of_ble_eq_true rfl⟩ hl.1 rfl (by decide +kernel) ⟨Nat.le_of_ble_eq_true rfl, Nat.le_of_ble_eq_true rfl⟩ fd_11_5_46 (fun _ => ⟨rfl, rfl⟩) (Nat.le_of_ble_eq_true rfl) (by decide +kernel) (fun H locs K => ?_)
  obtain ⟨w6, e6⟩ : ∃ w : va_W, w = w5 ++ (((sz + 28), .inr (2, fsN2  (sz + 29))) :: wnN2 cI cJ cZ (sz + 29)) := ⟨_, rfl⟩
  have K : NH D (AN q sz) s.heap H locs ((q, .inr (11, [.ref sz, .ref (sz + 2), .ref (sz + 12), .ref (sz + 14), .ref (sz + 20), .ref (sz + 28), .null, .null, .null, .null, .int 0, .null, .null, .null, .null])) :: (w5 ++ (((sz + 28), .inr (2, fsN2  (sz + 29))) :: wnN2 cI cJ cZ (sz + 29)))) (sz + 36) := K
  rw [← e6] at K
  refine nx_na C hin2 K hA h0 1 4 6 49 .int rfl (by decide +kernel) fd_11_6_49 (fun _ => ⟨rfl, rfl⟩) (Nat.le_of_ble_eq_true rfl) ⟨Nat.le_of_ble_eq_true rfl, Nat.le_of_ble_eq_true rfl⟩ (fun H locs K => ?_)
  obtain ⟨w7, e7⟩ : ∃ w : va_W, w = w6 ++ [((sz + 36), .inl (cI, a0Of .int 4))] := ⟨_, rfl⟩
  have K : NH D (AN q sz) s.heap H locs ((q, .inr (11, [.ref sz, .ref (sz + 2), .ref (sz + 12), .ref (sz + 14), .ref (sz + 20), .ref (sz + 28), .ref (sz + 36), .null, .null, .null, .int 0, .null, .null, .null, .null])) :: (w6 ++ [((sz + 36), .inl (cI, a0Of .int 4))])) (sz + 37) := K
  rw [← e7] at K
  refine nx_na C hin2 K hA h0 1 5 7 53 .int rfl (by decide +kernel) fd_11_7_53 (fun _ => ⟨rfl, rfl⟩) (Nat.le_of_ble_eq_true rfl) ⟨Nat.le_of_ble_eq_true rfl, Nat.le_of_ble_eq_true rfl⟩ (fun H locs K => ?_)
  obtain ⟨w8, e8⟩ : ∃ w : va_W, w = w7 ++ [((sz + 37), .inl (cI, a0Of .int 5))] := ⟨_, rfl⟩
  have K : NH D (AN q sz) s.heap H locs ((q, .inr (11, [.ref sz, .ref (sz + 2), .ref (sz + 12), .ref (sz + 14), .ref (sz + 20), .ref (sz + 28), .ref (sz + 36), .ref (sz + 37), .null, .null, .int 0, .null, .null, .null, .null])) :: (w7 ++ [((sz + 37), .inl (cI, a0Of .int 5))])) (sz + 38) := K
  rw [← e8] at K
  refine nx_newO (cj := 0) (index := 56) C K hA h0 (by decide) (mG 291 (by decide +kernel) rfl) ct_0 cz_0 (N := 10) rfl (Nat.le_of_ble_eq_true rfl) (Nat.le_of_ble_eq_true rfl) (by decide +kernel) (by decide +kernel) (by decide +kernel) (fun H K => ?_)
  have K : NH D (AN q sz) s.heap H locs ((q, .inr (11, [.ref sz, .ref (sz + 2), .ref (sz + 12), .ref (sz + 14), .ref (sz + 20), .ref (sz + 28), .ref (sz + 36), .ref (sz + 37), .null, .null, .int 0, .null, .null, .null, .null])) :: (w8 ++ [((sz + 38), .inr (0, fzC 0))])) (sz + 39) := K
  refine nx_objN (index := 58) (As := []) C hin2 K hA (c_N0 l D cI cJ cZ (sz + 38) (sz + 39) ) cw_0 (by decide +kernel) cz_0 cm_0 hd_0 ⟨Nat.le_of_ble_eq_true rfl, Nat.le_of_ble_eq_true rfl⟩ hl.1 rfl (by decide +kernel) ⟨Nat.le_of_ble_eq_true rfl, Nat.le_of_ble_eq_true rfl⟩ fd_11_8_59 (fun _ => ⟨rfl, rfl⟩) (Nat.le_of_ble_eq_true rfl) (by decide +kernel) (fun H locs K => ?_)
  obtain ⟨w9, e9⟩ : ∃ w : va_W, w = w8 ++ (((sz + 38), .inr (0, fsN0  (sz + 39))) :: wnN0 cI cJ cZ (sz + 39)) := ⟨_, rfl⟩
  have K : NH D (AN q sz) s.heap H locs ((q, .inr (11, [.ref sz, .ref (sz + 2), .ref (sz + 12), .ref (sz + 14), .ref (sz + 20), .ref (sz + 28), .ref (sz + 36), .ref (sz + 37), .ref (sz + 38), .null, .int 0, .null, .null, .null, .null])) :: (w8 ++ (((sz + 38), .inr (0, fsN0  (sz + 39))) :: wnN0 cI cJ cZ (sz + 39)))) (sz + 46) := K
  rw [← e9] at K
  refine nx_newO (cj := 0) (index := 56) C K hA h0 (by decide) (mG 291 (by decide +kernel) rfl) ct_0 cz_0 (N := 10) rfl (Nat.le_of_ble_eq_true rfl) (Nat.le_of_ble_eq_true rfl) (by decide +kernel) (by decide +kernel) (by decide +kernel) (fun H K => ?_)
  have K : NH D (AN q sz) s.heap H locs ((q, .inr (11, [.ref sz, .ref (sz + 2), .ref (sz + 12), .ref (sz + 14), .ref (sz + 20), .ref (sz + 28), .ref (sz + 36), .ref (sz + 37), .ref (sz + 38), .null, .int 0, .null, .null, .null, .null])) :: (w9 ++ [((sz + 46), .inr (0, fzC 0))])) (sz + 47) := K
  refine nx_objN (index := 58) (As := []) C hin2 K hA (c_N0 l D cI cJ cZ (sz + 46) (sz + 47) ) cw_0 (by decide +kernel) cz_0 cm_0 hd_0 ⟨Nat.le_of_ble_eq_true rfl, Nat.le_of_ble_eq_true rfl⟩ hl.1 rfl (by decide +kernel) ⟨Nat.le_of_ble_eq_true rfl, Nat.le_of_ble_eq_true rfl⟩ fd_11_9_63 (fun _ => ⟨rfl, rfl⟩) (Nat.le_of_ble_eq_true rfl) (by decide +kernel) (fun H locs K => ?_)
  obtain ⟨w10, e10⟩ : ∃ w : va_W, w = w9 ++ (((sz + 46), .inr (0, fsN0  (sz + 47))) :: wnN0 cI cJ cZ (sz + 47)) := ⟨_, rfl⟩
  have K : NH D (AN q sz) s.heap H locs ((q, .inr (11, [.ref sz, .ref (sz + 2), .ref (sz + 12), .ref (sz + 14), .ref (sz + 20), .ref (sz + 28), .ref (sz + 36), .ref (sz + 37), .ref (sz + 38), .ref (sz + 46), .int 0, .null, .null, .null, .null])) :: (w9 ++ (((sz + 46), .inr (0, fsN0  (sz + 47))) :: wnN0 cI cJ cZ (sz + 47)))) (sz + 54) := K
  rw [← e10] at K
  refine nx_newO (cj := 10) (index := 66) C K hA h0 (by decide) (mG 335 (by decide +kernel) rfl) ct_10 cz_10 (N := 10) rfl (Nat.le_of_ble_eq_true rfl) (Nat.le_of_ble_eq_true rfl) (by decide +kernel) (by decide +kernel) (by decide +kernel) (fun H K => ?_)
  have K : NH D (AN q sz) s.heap H locs ((q, .inr (11, [.ref sz, .ref (sz + 2), .ref (sz + 12), .ref (sz + 14), .ref (sz + 20), .ref (sz + 28), .ref (sz + 36), .ref (sz + 37), .ref (sz + 38), .ref (sz + 46), .int 0, .null, .null, .null, .null])) :: (w10 ++ [((sz + 54), .inr (10, fzC 10))])) (sz + 55) := K
  refine lv_aload_n C.1 C.2.1 (by decide +kernel : decode cN11 119 = .ok (.aload_n 0, 1)) rfl h0 ?_
  refine nx_get C K fd_11_3_35 rfl (by decide +kernel) ?_
  refine lv_aload_n C.1 C.2.1 (by decide +kernel : decode cN11 123 = .ok (.aload_n 0, 1)) rfl h0 ?_
  refine nx_get C K fd_11_4_42 rfl (by decide +kernel) ?_
  refine nx_objP (index := 68) (As := [.ref (sz + 14), .ref (sz + 20)]) C hin2 K hA (c_N10 l D cI cJ cZ (sz + 54) (sz + 55) (sz + 14) (sz + 20)) cw_10 (mG 337 (by decide +kernel) rfl) cz_10 cm_10 ⟨hd_10.1, hd_10.2.1, hd_10.2.2.1, hd_10.2.2.2⟩ ⟨Nat.le_of_ble_eq_true rfl, Nat.le_of_ble_eq_true rfl⟩ hl.1 rfl (by decide +kernel) ⟨Nat.le_of_ble_eq_true rfl, Nat.le_of_ble_eq_true rfl⟩ fd_11_11_71 (fun _ => ⟨rfl, rfl⟩) (Nat.le_of_ble_eq_true rfl) (by decide +kernel) (fun H locs K => ?_)
  obtain ⟨w11, e11⟩ : ∃ w : va_W, w = w10 ++ (((sz + 54), .inr (10, fsN10 (sz + 14) (sz + 20) (sz + 55))) :: wnN10 cI cJ cZ (sz + 55)) := ⟨_, rfl⟩
  have K : NH D (AN q sz) s.heap H locs ((q, .inr (11, [.ref sz, .ref (sz + 2), .ref (sz + 12), .ref (sz + 14), .ref (sz + 20), .ref (sz + 28), .ref (sz + 36), .ref (sz + 37), .ref (sz + 38), .ref (sz + 46), .int 0, .ref (sz + 54), .null, .null, .null])) :: (w10 ++ (((sz + 54), .inr (10, fsN10 (sz + 14) (sz + 20) (sz + 55))) :: wnN10 cI cJ cZ (sz + 55)))) (sz + 65) := K
  rw [← e11] at K
  refine nx_newO (cj := 8) (index := 75) C K hA h0 (by decide) (mG 416 (by decide +kernel) rfl) ct_8 cz_8 (N := 14) rfl (Nat.le_of_ble_eq_true rfl) (Nat.le_of_ble_eq_true rfl) (by decide +kernel) (by decide +kernel) (by decide +kernel) (fun H K => ?_)
  have K : NH D (AN q sz) s.heap H locs ((q, .inr (11, [.ref sz, .ref (sz + 2), .ref (sz + 12), .ref (sz + 14), .ref (sz + 20), .ref (sz + 28), .ref (sz + 36), .ref (sz + 37), .ref (sz + 38), .ref (sz + 46), .int 0, .ref (sz + 54), .null, .null, .null])) :: (w11 ++ [((sz + 65), .inr (8, fzC 8))])) (sz + 66) := K
  refine nx_objN (index := 77) (As := []) C hin2 K hA (c_N8 l D cI cJ cZ (sz + 65) (sz + 66) ) cw_8 (by decide +kernel) cz_8 cm_8 hd_8 ⟨Nat.le_of_ble_eq_true rfl, Nat.le_of_ble_eq_true rfl⟩ hl.1 rfl (by decide +kernel) ⟨Nat.le_of_ble_eq_true rfl, Nat.le_of_ble_eq_true rfl⟩ fd_11_12_78 (fun _ => ⟨rfl, rfl⟩) (Nat.le_of_ble_eq_true rfl) (by decide +kernel) (fun H locs K => ?_)
  obtain ⟨w12, e12⟩ : ∃ w : va_W, w = w11 ++ (((sz + 65), .inr (8, fsN8  (sz + 66))) :: wnN8 cI cJ cZ (sz + 66)) := ⟨_, rfl⟩
  have K : NH D (AN q sz) s.heap H locs ((q, .inr (11, [.ref sz, .ref (sz + 2), .ref (sz + 12), .ref (sz + 14), .ref (sz + 20), .ref (sz + 28), .ref (sz + 36), .ref (sz + 37), .ref (sz + 38), .ref (sz + 46), .int 0, .ref (sz + 54), .ref (sz + 65), .null, .null])) :: (w11 ++ (((sz + 65), .inr (8, fsN8  (sz + 66))) :: wnN8 cI cJ cZ (sz + 66)))) (sz + 70) := K
  rw [← e12] at K
  refine nx_newO (cj := 7) (index := 82) C K hA h0 (by decide) (mG 478 (by decide +kernel) rfl) ct_7 cz_7 (N := 2) rfl (Nat.le_of_ble_eq_true rfl) (Nat.le_of_ble_eq_true rfl) (by decide +kernel) (by decide +kernel) (by decide +kernel) (fun H K => ?_)
  have K : NH D (AN q sz) s.heap H locs ((q, .inr (11, [.ref sz, .ref (sz + 2), .ref (sz + 12), .ref (sz + 14), .ref (sz + 20), .ref (sz + 28), .ref (sz + 36), .ref (sz + 37), .ref (sz + 38), .ref (sz + 46), .int 0, .ref (sz + 54), .ref (sz + 65), .null, .null])) :: (w12 ++ [((sz + 70), .inr (7, fzC 7))])) (sz + 71) := K
  refine nx_objN (index := 84) (As := []) C hin2 K hA (c_N7 l D cI cJ cZ (sz + 70) (sz + 71) ) cw_7 (by decide +kernel) cz_7 cm_7 hd_7 ⟨Nat.le_of_ble_eq_true rfl, Nat.le_of_ble_eq_true rfl⟩ hl.1 rfl (by decide +kernel) ⟨Nat.le_of_ble_eq_true rfl, Nat.le_of_ble_eq_true rfl⟩ fd_11_13_85 (fun _ => ⟨rfl, rfl⟩) (Nat.le_of_ble_eq_true rfl) (by decide +kernel) (fun H locs K => ?_)
  obtain ⟨w13, e13⟩ : ∃ w : va_W, w = w12 ++ (((sz + 70), .inr (7, fsN7  (sz + 71))) :: wnN7 cI cJ cZ (sz + 71)) := ⟨_, rfl⟩
  have K : NH D (AN q sz) s.heap H locs ((q, .inr (11, [.ref sz, .ref (sz + 2), .ref (sz + 12), .ref (sz + 14), .ref (sz + 20), .ref (sz + 28), .ref (sz + 36), .ref (sz + 37), .ref (sz + 38), .ref (sz + 46), .int 0, .ref (sz + 54), .ref (sz + 65), .ref (sz + 70), .null])) :: (w12 ++ (((sz + 70), .inr (7, fsN7  (sz + 71))) :: wnN7 cI cJ cZ (sz + 71)))) (sz + 76) := K
  rw [← e13] at K
  refine nx_newO (cj := 1) (index := 89) C K hA h0 (by decide) (mG 493 (by decide +kernel) rfl) ct_1 cz_1 (N := 13) rfl (Nat.le_of_ble_eq_true rfl) (Nat.le_of_ble_eq_true rfl) (by decide +kernel) (by decide +kernel) (by decide +kernel) (fun H K => ?_)
  have K : NH D (AN q sz) s.heap H locs ((q, .inr (11, [.ref sz, .ref (sz + 2), .ref (sz + 12), .ref (sz + 14), .ref (sz + 20), .ref (sz + 28), .ref (sz + 36), .ref (sz + 37), .ref (sz + 38), .ref (sz + 46), .int 0, .ref (sz + 54), .ref (sz + 65), .ref (sz + 70), .null])) :: (w13 ++ [((sz + 76), .inr (1, fzC 1))])) (sz + 77) := K
  refine nx_objN (index := 91) (As := []) C hin2 K hA (c_N1 l D cI cJ cZ (sz + 76) (sz + 77) ) cw_1 (by decide +kernel) cz_1 cm_1 hd_1 ⟨Nat.le_of_ble_eq_true rfl, Nat.le_of_ble_eq_true rfl⟩ hl.1 rfl (by decide +kernel) ⟨Nat.le_of_ble_eq_true rfl, Nat.le_of_ble_eq_true rfl⟩ fd_11_14_92 (fun _ => ⟨rfl, rfl⟩) (Nat.le_of_ble_eq_true rfl) (by decide +kernel) (fun H locs K => ?_)
  obtain ⟨w14, e14⟩ : ∃ w : va_W, w = w13 ++ (((sz + 76), .inr (1, fsN1  (sz + 77))) :: wnN1 cI cJ cZ (sz + 77)) := ⟨_, rfl⟩
  have K : NH D (AN q sz) s.heap H locs ((q, .inr (11, [.ref sz, .ref (sz + 2), .ref (sz + 12), .ref (sz + 14), .ref (sz + 20), .ref (sz + 28), .ref (sz + 36), .ref (sz + 37), .ref (sz + 38), .ref (sz + 46), .int 0, .ref (sz + 54), .ref (sz + 65), .ref (sz + 70), .ref (sz + 76)])) :: (w13 ++ (((sz + 76), .inr (1, fsN1  (sz + 77))) :: wnN1 cI cJ cZ (sz + 77)))) (sz + 90) := K
  rw [← e14] at K
  refine W.widen (k := 90) (n := 10219) (Nat.le_of_ble_eq_true rfl) (Nat.le_of_ble_eq_true rfl) ?_
  rw [e14, e13, e12, e11, e10, e9, e8, e7, e6, e5, e4, e3, e2, e1] at K
  exact nx_ret C hrt hlk hsz K (by decide +kernel)
