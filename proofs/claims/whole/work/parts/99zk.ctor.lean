/-! constructors of the small classes -/
def yN6 : MethodName := ⟨"FarKeys$Row", "<init>", "()V"⟩
def cN6 : ByteArray := prog_8_method_1_code
theorem cw_6 : Cond.code yN6 cN6 1 none ∈ G := mG 345 rfl rfl
theorem cm_6 : Cond.instanceMethod yN6 ∈ G := mG 344 (by decide +kernel) rfl
theorem cz_6 : Cond.initialized (clE 6).1 ∈ G := mG 88 (by decide +kernel) rfl
theorem ct_6 : Cond.instantiable (clE 6).1 (clE 6).2.2 ∈ G := mG 342 (by decide +kernel) rfl
theorem fz_6 : fzC 6 = [.null, .int 0, .null, .null, .int 0] := by decide +kernel
def fsN6 (sz : Nat) : List Value := [.ref sz, .int 0, .ref (sz + 1), .ref (sz + 2), .int 0]
theorem fd_6_0_9 : FDo 6 0 9 := ⟨⟨by decide, by decide⟩, mG 347 (by decide +kernel) rfl, by decide +kernel⟩
theorem fd_6_2_15 : FDo 6 2 15 := ⟨⟨by decide, by decide⟩, mG 350 (by decide +kernel) rfl, by decide +kernel⟩
theorem fd_6_3_18 : FDo 6 3 18 := ⟨⟨by decide, by decide⟩, mG 353 (by decide +kernel) rfl, by decide +kernel⟩
def wnN6 (cI cJ cZ : ClassId) (sz : Nat) : va_W := ([] : va_W) ++ [(sz, .inl (cI, a0Of .int 4))] ++ [((sz + 1), .inl (cI, a0Of .int 4))] ++ [((sz + 2), .inl (cI, a0Of .int 4))]
set_option maxHeartbeats 4000000 in
set_option maxRecDepth 20000 in
theorem c_N6 (l : Launch) (D : va_G) (cI cJ cZ : ClassId) (q sz : Nat) : MN l D cI cJ cZ 6 yN6 cN6 1 1 12 3 12 [] q sz (fsN6  sz) (wnN6 cI cJ cZ sz) := by
  refine nx_ofW (by decide +kernel) rfl ?_
  intro p e s m below meth c C hin2 hrt hlk hsz K hA
  have C : GN D cI cJ cZ (clE 6).1 cN6 1 p s m _ c := C
  have hl := lv_entry ([.ref q]) (n := 1) (Nat.le_of_ble_eq_true rfl)
  rw [lg_entry_eq]
  generalize (lg_sl ([.ref q]) ++ List.replicate (1 - (lg_sl ([.ref q])).length) Slot.unset).toArray = ls at hl ⊢
  have hl : lv_has ls 1 [(0, .ref q)] := hl
  have h0 := lv_at hl 0 rfl
  rw [fz_6] at K
  refine nx_obj (idx := 3) C h0 hl.1 (mG 346 (by decide +kernel) rfl) (by decide +kernel) (by decide +kernel) ⟨Nat.le_of_ble_eq_true rfl, Nat.le_of_ble_eq_true rfl⟩ ?_
  refine nx_na C hin2 K hA h0 1 4 0 9 .int rfl (by decide +kernel) fd_6_0_9 (fun _ => ⟨rfl, rfl⟩) (Nat.le_of_ble_eq_true rfl) ⟨Nat.le_of_ble_eq_true rfl, Nat.le_of_ble_eq_true rfl⟩ (fun H locs K => ?_)
  have K : NH D (AN q sz) s.heap H locs ((q, .inr (6, [.ref sz, .int 0, .null, .null, .int 0])) :: (([] : va_W) ++ [(sz, .inl (cI, a0Of .int 4))])) (sz + 1) := K
  refine nx_na C hin2 K hA h0 1 4 2 15 .int rfl (by decide +kernel) fd_6_2_15 (fun _ => ⟨rfl, rfl⟩) (Nat.le_of_ble_eq_true rfl) ⟨Nat.le_of_ble_eq_true rfl, Nat.le_of_ble_eq_true rfl⟩ (fun H locs K => ?_)
  have K : NH D (AN q sz) s.heap H locs ((q, .inr (6, [.ref sz, .int 0, .ref (sz + 1), .null, .int 0])) :: (([] : va_W) ++ [(sz, .inl (cI, a0Of .int 4))] ++ [((sz + 1), .inl (cI, a0Of .int 4))])) (sz + 2) := K
  refine nx_na C hin2 K hA h0 1 4 3 18 .int rfl (by decide +kernel) fd_6_3_18 (fun _ => ⟨rfl, rfl⟩) (Nat.le_of_ble_eq_true rfl) ⟨Nat.le_of_ble_eq_true rfl, Nat.le_of_ble_eq_true rfl⟩ (fun H locs K => ?_)
  have K : NH D (AN q sz) s.heap H locs ((q, .inr (6, [.ref sz, .int 0, .ref (sz + 1), .ref (sz + 2), .int 0])) :: (([] : va_W) ++ [(sz, .inl (cI, a0Of .int 4))] ++ [((sz + 1), .inl (cI, a0Of .int 4))] ++ [((sz + 2), .inl (cI, a0Of .int 4))])) (sz + 3) := K
  refine W.widen (k := 3) (n := 12) (Nat.le_of_ble_eq_true rfl) (Nat.le_of_ble_eq_true rfl) ?_
  exact nx_ret C hrt hlk hsz K (by decide +kernel)
def yN2 : MethodName := ⟨"FarKeys$Land", "<init>", "()V"⟩
def cN2 : ByteArray := prog_4_method_1_code
theorem cw_2 : Cond.code yN2 cN2 1 none ∈ G := mG 145 rfl rfl
theorem cm_2 : Cond.instanceMethod yN2 ∈ G := mG 144 (by decide +kernel) rfl
theorem cz_2 : Cond.initialized (clE 2).1 ∈ G := mG 83 (by decide +kernel) rfl
theorem ct_2 : Cond.instantiable (clE 2).1 (clE 2).2.2 ∈ G := mG 142 (by decide +kernel) rfl
theorem fz_2 : fzC 2 = [.int 0, .int 0, .int 0, .int 0, .int 0, .int 0, .int 0, .int 0, .null, .null, .null, .null, .null, .null, .null] := by decide +kernel
def fsN2 (sz : Nat) : List Value := [.int 0, .int 0, .int 0, .int 0, .int 0, .int 0, .int 0, .int 0, .ref sz, .ref (sz + 1), .ref (sz + 2), .ref (sz + 3), .ref (sz + 4), .ref (sz + 5), .ref (sz + 6)]
theorem fd_2_8_9 : FDo 2 8 9 := ⟨⟨by decide, by decide⟩, mG 176 (by decide +kernel) rfl, by decide +kernel⟩
theorem fd_2_9_15 : FDo 2 9 15 := ⟨⟨by decide, by decide⟩, mG 178 (by decide +kernel) rfl, by decide +kernel⟩
theorem fd_2_10_18 : FDo 2 10 18 := ⟨⟨by decide, by decide⟩, mG 180 (by decide +kernel) rfl, by decide +kernel⟩
theorem fd_2_11_21 : FDo 2 11 21 := ⟨⟨by decide, by decide⟩, mG 182 (by decide +kernel) rfl, by decide +kernel⟩
theorem fd_2_12_24 : FDo 2 12 24 := ⟨⟨by decide, by decide⟩, mG 185 (by decide +kernel) rfl, by decide +kernel⟩
theorem fd_2_13_27 : FDo 2 13 27 := ⟨⟨by decide, by decide⟩, mG 188 (by decide +kernel) rfl, by decide +kernel⟩
theorem fd_2_14_30 : FDo 2 14 30 := ⟨⟨by decide, by decide⟩, mG 190 (by decide +kernel) rfl, by decide +kernel⟩
def wnN2 (cI cJ cZ : ClassId) (sz : Nat) : va_W := ([] : va_W) ++ [(sz, .inl (cI, a0Of .int 4))] ++ [((sz + 1), .inl (cI, a0Of .int 4))] ++ [((sz + 2), .inl (cI, a0Of .int 5))] ++ [((sz + 3), .inl (cI, a0Of .int 5))] ++ [((sz + 4), .inl (cI, a0Of .int 5))] ++ [((sz + 5), .inl (cI, a0Of .int 5))] ++ [((sz + 6), .inl (cI, a0Of .int 20))]
set_option maxHeartbeats 4000000 in
set_option maxRecDepth 20000 in
theorem c_N2 (l : Launch) (D : va_G) (cI cJ cZ : ClassId) (q sz : Nat) : MN l D cI cJ cZ 2 yN2 cN2 1 1 12 7 48 [] q sz (fsN2  sz) (wnN2 cI cJ cZ sz) := by
  refine nx_ofW (by decide +kernel) rfl ?_
  intro p e s m below meth c C hin2 hrt hlk hsz K hA
  have C : GN D cI cJ cZ (clE 2).1 cN2 1 p s m _ c := C
  have hl := lv_entry ([.ref q]) (n := 1) (Nat.le_of_ble_eq_true rfl)
  rw [lg_entry_eq]
  generalize (lg_sl ([.ref q]) ++ List.replicate (1 - (lg_sl ([.ref q])).length) Slot.unset).toArray = ls at hl ⊢
  have hl : lv_has ls 1 [(0, .ref q)] := hl
  have h0 := lv_at hl 0 rfl
  rw [fz_2] at K
  refine nx_obj (idx := 3) C h0 hl.1 (mG 146 (by decide +kernel) rfl) (by decide +kernel) (by decide +kernel) ⟨Nat.le_of_ble_eq_true rfl, Nat.le_of_ble_eq_true rfl⟩ ?_
  refine nx_na C hin2 K hA h0 1 4 8 9 .int rfl (by decide +kernel) fd_2_8_9 (fun _ => ⟨rfl, rfl⟩) (Nat.le_of_ble_eq_true rfl) ⟨Nat.le_of_ble_eq_true rfl, Nat.le_of_ble_eq_true rfl⟩ (fun H locs K => ?_)
  have K : NH D (AN q sz) s.heap H locs ((q, .inr (2, [.int 0, .int 0, .int 0, .int 0, .int 0, .int 0, .int 0, .int 0, .ref sz, .null, .null, .null, .null, .null, .null])) :: (([] : va_W) ++ [(sz, .inl (cI, a0Of .int 4))])) (sz + 1) := K
  refine nx_na C hin2 K hA h0 1 4 9 15 .int rfl (by decide +kernel) fd_2_9_15 (fun _ => ⟨rfl, rfl⟩) (Nat.le_of_ble_eq_true rfl) ⟨Nat.le_of_ble_eq_true rfl, Nat.le_of_ble_eq_true rfl⟩ (fun H locs K => ?_)
  have K : NH D (AN q sz) s.heap H locs ((q, .inr (2, [.int 0, .int 0, .int 0, .int 0, .int 0, .int 0, .int 0, .int 0, .ref sz, .ref (sz + 1), .null, .null, .null, .null, .null])) :: (([] : va_W) ++ [(sz, .inl (cI, a0Of .int 4))] ++ [((sz + 1), .inl (cI, a0Of .int 4))])) (sz + 2) := K
  refine nx_na C hin2 K hA h0 1 5 10 18 .int rfl (by decide +kernel) fd_2_10_18 (fun _ => ⟨rfl, rfl⟩) (Nat.le_of_ble_eq_true rfl) ⟨Nat.le_of_ble_eq_true rfl, Nat.le_of_ble_eq_true rfl⟩ (fun H locs K => ?_)
  have K : NH D (AN q sz) s.heap H locs ((q, .inr (2, [.int 0, .int 0, .int 0, .int 0, .int 0, .int 0, .int 0, .int 0, .ref sz, .ref (sz + 1), .ref (sz + 2), .null, .null, .null, .null])) :: (([] : va_W) ++ [(sz, .inl (cI, a0Of .int 4))] ++ [((sz + 1), .inl (cI, a0Of .int 4))] ++ [((sz + 2), .inl (cI, a0Of .int 5))])) (sz + 3) := K
  refine nx_na C hin2 K hA h0 1 5 11 21 .int rfl (by decide +kernel) fd_2_11_21 (fun _ => ⟨rfl, rfl⟩) (Nat.le_of_ble_eq_true rfl) ⟨Nat.le_of_ble_eq_true rfl, Nat.le_of_ble_eq_true rfl⟩ (fun H locs K => ?_)
  have K : NH D (AN q sz) s.heap H locs ((q, .inr (2, [.int 0, .int 0, .int 0, .int 0, .int 0, .int 0, .int 0, .int 0, .ref sz, .ref (sz + 1), .ref (sz + 2), .ref (sz + 3), .null, .null, .null])) :: (([] : va_W) ++ [(sz, .inl (cI, a0Of .int 4))] ++ [((sz + 1), .inl (cI, a0Of .int 4))] ++ [((sz + 2), .inl (cI, a0Of .int 5))] ++ [((sz + 3), .inl (cI, a0Of .int 5))])) (sz + 4) := K
  refine nx_na C hin2 K hA h0 1 5 12 24 .int rfl (by decide +kernel) fd_2_12_24 (fun _ => ⟨rfl, rfl⟩) (Nat.le_of_ble_eq_true rfl) ⟨Nat.le_of_ble_eq_true rfl, Nat.le_of_ble_eq_true rfl⟩ (fun H locs K => ?_)
  have K : NH D (AN q sz) s.heap H locs ((q, .inr (2, [.int 0, .int 0, .int 0, .int 0, .int 0, .int 0, .int 0, .int 0, .ref sz, .ref (sz + 1), .ref (sz + 2), .ref (sz + 3), .ref (sz + 4), .null, .null])) :: (([] : va_W) ++ [(sz, .inl (cI, a0Of .int 4))] ++ [((sz + 1), .inl (cI, a0Of .int 4))] ++ [((sz + 2), .inl (cI, a0Of .int 5))] ++ [((sz + 3), .inl (cI, a0Of .int 5))] ++ [((sz + 4), .inl (cI, a0Of .int 5))])) (sz + 5) := K
  refine nx_na C hin2 K hA h0 1 5 13 27 .int rfl (by decide +kernel) fd_2_13_27 (fun _ => ⟨rfl, rfl⟩) (Nat.le_of_ble_eq_true rfl) ⟨Nat.le_of_ble_eq_true rfl, Nat.le_of_ble_eq_true rfl⟩ (fun H locs K => ?_)
  have K : NH D (AN q sz) s.heap H locs ((q, .inr (2, [.int 0, .int 0, .int 0, .int 0, .int 0, .int 0, .int 0, .int 0, .ref sz, .ref (sz + 1), .ref (sz + 2), .ref (sz + 3), .ref (sz + 4), .ref (sz + 5), .null])) :: (([] : va_W) ++ [(sz, .inl (cI, a0Of .int 4))] ++ [((sz + 1), .inl (cI, a0Of .int 4))] ++ [((sz + 2), .inl (cI, a0Of .int 5))] ++ [((sz + 3), .inl (cI, a0Of .int 5))] ++ [((sz + 4), .inl (cI, a0Of .int 5))] ++ [((sz + 5), .inl (cI, a0Of .int 5))])) (sz + 6) := K
  refine nx_na C hin2 K hA h0 2 20 14 30 .int rfl (by decide +kernel) fd_2_14_30 (fun _ => ⟨rfl, rfl⟩) (Nat.le_of_ble_eq_true rfl) ⟨Nat.le_of_ble_eq_true rfl, Nat.le_of_ble_eq_true rfl⟩ (fun H locs K => ?_)
  have K : NH D (AN q sz) s.heap H locs ((q, .inr (2, [.int 0, .int 0, .int 0, .int 0, .int 0, .int 0, .int 0, .int 0, .ref sz, .ref (sz + 1), .ref (sz + 2), .ref (sz + 3), .ref (sz + 4), .ref (sz + 5), .ref (sz + 6)])) :: (([] : va_W) ++ [(sz, .inl (cI, a0Of .int 4))] ++ [((sz + 1), .inl (cI, a0Of .int 4))] ++ [((sz + 2), .inl (cI, a0Of .int 5))] ++ [((sz + 3), .inl (cI, a0Of .int 5))] ++ [((sz + 4), .inl (cI, a0Of .int 5))] ++ [((sz + 5), .inl (cI, a0Of .int 5))] ++ [((sz + 6), .inl (cI, a0Of .int 20))])) (sz + 7) := K
  refine W.widen (k := 7) (n := 48) (Nat.le_of_ble_eq_true rfl) (Nat.le_of_ble_eq_true rfl) ?_
  exact nx_ret C hrt hlk hsz K (by decide +kernel)
def yN9 : MethodName := ⟨"FarKeys$Tape", "<init>", "()V"⟩
def cN9 : ByteArray := prog_11_method_1_code
theorem cw_9 : Cond.code yN9 cN9 1 none ∈ G := mG 112 rfl rfl
theorem cm_9 : Cond.instanceMethod yN9 ∈ G := mG 111 (by decide +kernel) rfl
theorem cz_9 : Cond.initialized (clE 9).1 ∈ G := mG 81 (by decide +kernel) rfl
theorem ct_9 : Cond.instantiable (clE 9).1 (clE 9).2.2 ∈ G := mG 109 (by decide +kernel) rfl
theorem fz_9 : fzC 9 = [.null, .int 0, .int 0, .int 0] := by decide +kernel
def fsN9 (sz : Nat) : List Value := [.ref sz, .int 0, .int 0, .int (Int32.ofInt (-1))]
theorem fd_9_0_9 : FDo 9 0 9 := ⟨⟨by decide, by decide⟩, mG 114 (by decide +kernel) rfl, by decide +kernel⟩
theorem fd_9_3_15 : FDo 9 3 15 := ⟨⟨by decide, by decide⟩, mG 122 (by decide +kernel) rfl, by decide +kernel⟩
def wnN9 (cI cJ cZ : ClassId) (sz : Nat) : va_W := ([] : va_W) ++ [(sz, .inl (cI, a0Of .int 160))]
set_option maxHeartbeats 4000000 in
set_option maxRecDepth 20000 in
theorem c_N9 (l : Launch) (D : va_G) (cI cJ cZ : ClassId) (q sz : Nat) : MN l D cI cJ cZ 9 yN9 cN9 1 1 12 1 160 [] q sz (fsN9  sz) (wnN9 cI cJ cZ sz) := by
  refine nx_ofW (by decide +kernel) rfl ?_
  intro p e s m below meth c C hin2 hrt hlk hsz K hA
  have C : GN D cI cJ cZ (clE 9).1 cN9 1 p s m _ c := C
  have hl := lv_entry ([.ref q]) (n := 1) (Nat.le_of_ble_eq_true rfl)
  rw [lg_entry_eq]
  generalize (lg_sl ([.ref q]) ++ List.replicate (1 - (lg_sl ([.ref q])).length) Slot.unset).toArray = ls at hl ⊢
  have hl : lv_has ls 1 [(0, .ref q)] := hl
  have h0 := lv_at hl 0 rfl
  rw [fz_9] at K
  refine nx_obj (idx := 3) C h0 hl.1 (mG 113 (by decide +kernel) rfl) (by decide +kernel) (by decide +kernel) ⟨Nat.le_of_ble_eq_true rfl, Nat.le_of_ble_eq_true rfl⟩ ?_
  refine nx_na C hin2 K hA h0 3 160 0 9 .int rfl (by decide +kernel) fd_9_0_9 (fun _ => ⟨rfl, rfl⟩) (Nat.le_of_ble_eq_true rfl) ⟨Nat.le_of_ble_eq_true rfl, Nat.le_of_ble_eq_true rfl⟩ (fun H locs K => ?_)
  have K : NH D (AN q sz) s.heap H locs ((q, .inr (9, [.ref sz, .int 0, .int 0, .int 0])) :: (([] : va_W) ++ [(sz, .inl (cI, a0Of .int 160))])) (sz + 1) := K
  refine lv_aload_n C.1 C.2.1 (by decide +kernel : decode cN9 13 = .ok (.aload_n 0, 1)) rfl h0 ?_
  refine nx_psh (v := -1) C 1 (by decide +kernel) ?_
  refine nx_put C (Or.inl hin2) K fd_9_3_15 rfl rfl (Nat.le_of_ble_eq_true rfl) (by decide +kernel) (fun H locs K => ?_)
  have K : NH D (AN q sz) s.heap H locs ((q, .inr (9, [.ref sz, .int 0, .int 0, .int (Int32.ofInt (-1))])) :: (([] : va_W) ++ [(sz, .inl (cI, a0Of .int 160))])) (sz + 1) := K
  refine W.widen (k := 1) (n := 160) (Nat.le_of_ble_eq_true rfl) (Nat.le_of_ble_eq_true rfl) ?_
  exact nx_ret C hrt hlk hsz K (by decide +kernel)
def yN5 : MethodName := ⟨"FarKeys$Plans", "<init>", "()V"⟩
def cN5 : ByteArray := prog_7_method_1_code
theorem cw_5 : Cond.code yN5 cN5 1 none ∈ G := mG 267 rfl rfl
theorem cm_5 : Cond.instanceMethod yN5 ∈ G := mG 266 (by decide +kernel) rfl
theorem cz_5 : Cond.initialized (clE 5).1 ∈ G := mG 85 (by decide +kernel) rfl
theorem ct_5 : Cond.instantiable (clE 5).1 (clE 5).2.2 ∈ G := mG 264 (by decide +kernel) rfl
theorem fz_5 : fzC 5 = [.null, .null, .null, .int 0, .null, .null] := by decide +kernel
def fsN5 (sz : Nat) : List Value := [.ref sz, .ref (sz + 1), .ref (sz + 2), .int 0, .ref (sz + 3), .ref (sz + 4)]
theorem fd_5_0_9 : FDo 5 0 9 := ⟨⟨by decide, by decide⟩, mG 269 (by decide +kernel) rfl, by decide +kernel⟩
theorem fd_5_1_15 : FDo 5 1 15 := ⟨⟨by decide, by decide⟩, mG 270 (by decide +kernel) rfl, by decide +kernel⟩
theorem fd_5_2_18 : FDo 5 2 18 := ⟨⟨by decide, by decide⟩, mG 271 (by decide +kernel) rfl, by decide +kernel⟩
theorem fd_5_4_21 : FDo 5 4 21 := ⟨⟨by decide, by decide⟩, mG 274 (by decide +kernel) rfl, by decide +kernel⟩
theorem fd_5_5_24 : FDo 5 5 24 := ⟨⟨by decide, by decide⟩, mG 275 (by decide +kernel) rfl, by decide +kernel⟩
def wnN5 (cI cJ cZ : ClassId) (sz : Nat) : va_W := ([] : va_W) ++ [(sz, .inl (cI, a0Of .int 1280))] ++ [((sz + 1), .inl (cI, a0Of .int 8))] ++ [((sz + 2), .inl (cI, a0Of .int 8))] ++ [((sz + 3), .inl (cI, a0Of .int 7))] ++ [((sz + 4), .inl (cI, a0Of .int 7))]
set_option maxHeartbeats 4000000 in
set_option maxRecDepth 20000 in
theorem c_N5 (l : Launch) (D : va_G) (cI cJ cZ : ClassId) (q sz : Nat) : MN l D cI cJ cZ 5 yN5 cN5 1 1 12 5 1310 [] q sz (fsN5  sz) (wnN5 cI cJ cZ sz) := by
  refine nx_ofW (by decide +kernel) rfl ?_
  intro p e s m below meth c C hin2 hrt hlk hsz K hA
  have C : GN D cI cJ cZ (clE 5).1 cN5 1 p s m _ c := C
  have hl := lv_entry ([.ref q]) (n := 1) (Nat.le_of_ble_eq_true rfl)
  rw [lg_entry_eq]
  generalize (lg_sl ([.ref q]) ++ List.replicate (1 - (lg_sl ([.ref q])).length) Slot.unset).toArray = ls at hl ⊢
  have hl : lv_has ls 1 [(0, .ref q)] := hl
  have h0 := lv_at hl 0 rfl
  rw [fz_5] at K
  refine nx_obj (idx := 3) C h0 hl.1 (mG 268 (by decide +kernel) rfl) (by decide +kernel) (by decide +kernel) ⟨Nat.le_of_ble_eq_true rfl, Nat.le_of_ble_eq_true rfl⟩ ?_
  refine nx_na C hin2 K hA h0 3 1280 0 9 .int rfl (by decide +kernel) fd_5_0_9 (fun _ => ⟨rfl, rfl⟩) (Nat.le_of_ble_eq_true rfl) ⟨Nat.le_of_ble_eq_true rfl, Nat.le_of_ble_eq_true rfl⟩ (fun H locs K => ?_)
  have K : NH D (AN q sz) s.heap H locs ((q, .inr (5, [.ref sz, .null, .null, .int 0, .null, .null])) :: (([] : va_W) ++ [(sz, .inl (cI, a0Of .int 1280))])) (sz + 1) := K
  refine nx_na C hin2 K hA h0 2 8 1 15 .int rfl (by decide +kernel) fd_5_1_15 (fun _ => ⟨rfl, rfl⟩) (Nat.le_of_ble_eq_true rfl) ⟨Nat.le_of_ble_eq_true rfl, Nat.le_of_ble_eq_true rfl⟩ (fun H locs K => ?_)
  have K : NH D (AN q sz) s.heap H locs ((q, .inr (5, [.ref sz, .ref (sz + 1), .null, .int 0, .null, .null])) :: (([] : va_W) ++ [(sz, .inl (cI, a0Of .int 1280))] ++ [((sz + 1), .inl (cI, a0Of .int 8))])) (sz + 2) := K
  refine nx_na C hin2 K hA h0 2 8 2 18 .int rfl (by decide +kernel) fd_5_2_18 (fun _ => ⟨rfl, rfl⟩) (Nat.le_of_ble_eq_true rfl) ⟨Nat.le_of_ble_eq_true rfl, Nat.le_of_ble_eq_true rfl⟩ (fun H locs K => ?_)
  have K : NH D (AN q sz) s.heap H locs ((q, .inr (5, [.ref sz, .ref (sz + 1), .ref (sz + 2), .int 0, .null, .null])) :: (([] : va_W) ++ [(sz, .inl (cI, a0Of .int 1280))] ++ [((sz + 1), .inl (cI, a0Of .int 8))] ++ [((sz + 2), .inl (cI, a0Of .int 8))])) (sz + 3) := K
  refine nx_na C hin2 K hA h0 2 7 4 21 .int rfl (by decide +kernel) fd_5_4_21 (fun _ => ⟨rfl, rfl⟩) (Nat.le_of_ble_eq_true rfl) ⟨Nat.le_of_ble_eq_true rfl, Nat.le_of_ble_eq_true rfl⟩ (fun H locs K => ?_)
  have K : NH D (AN q sz) s.heap H locs ((q, .inr (5, [.ref sz, .ref (sz + 1), .ref (sz + 2), .int 0, .ref (sz + 3), .null])) :: (([] : va_W) ++ [(sz, .inl (cI, a0Of .int 1280))] ++ [((sz + 1), .inl (cI, a0Of .int 8))] ++ [((sz + 2), .inl (cI, a0Of .int 8))] ++ [((sz + 3), .inl (cI, a0Of .int 7))])) (sz + 4) := K
  refine nx_na C hin2 K hA h0 2 7 5 24 .int rfl (by decide +kernel) fd_5_5_24 (fun _ => ⟨rfl, rfl⟩) (Nat.le_of_ble_eq_true rfl) ⟨Nat.le_of_ble_eq_true rfl, Nat.le_of_ble_eq_true rfl⟩ (fun H locs K => ?_)
  have K : NH D (AN q sz) s.heap H locs ((q, .inr (5, [.ref sz, .ref (sz + 1), .ref (sz + 2), .int 0, .ref (sz + 3), .ref (sz + 4)])) :: (([] : va_W) ++ [(sz, .inl (cI, a0Of .int 1280))] ++ [((sz + 1), .inl (cI, a0Of .int 8))] ++ [((sz + 2), .inl (cI, a0Of .int 8))] ++ [((sz + 3), .inl (cI, a0Of .int 7))] ++ [((sz + 4), .inl (cI, a0Of .int 7))])) (sz + 5) := K
  refine W.widen (k := 5) (n := 1310) (Nat.le_of_ble_eq_true rfl) (Nat.le_of_ble_eq_true rfl) ?_
  exact nx_ret C hrt hlk hsz K (by decide +kernel)
def yN8 : MethodName := ⟨"FarKeys$Survey", "<init>", "()V"⟩
def cN8 : ByteArray := prog_10_method_1_code
theorem cw_8 : Cond.code yN8 cN8 1 none ∈ G := mG 420 rfl rfl
theorem cm_8 : Cond.instanceMethod yN8 ∈ G := mG 419 (by decide +kernel) rfl
theorem cz_8 : Cond.initialized (clE 8).1 ∈ G := mG 89 (by decide +kernel) rfl
theorem ct_8 : Cond.instantiable (clE 8).1 (clE 8).2.2 ∈ G := mG 417 (by decide +kernel) rfl
theorem fz_8 : fzC 8 = [.int 0, .int 0, .int 0, .null, .null, .null, .null, .int 0, .int 0, .int 0, .int 0, .int 0, .int 0, .int 0] := by decide +kernel
def fsN8 (sz : Nat) : List Value := [.int 0, .int 0, .int 0, .ref sz, .ref (sz + 1), .ref (sz + 2), .ref (sz + 3), .int 0, .int 0, .int 0, .int 0, .int 0, .int 0, .int 0]
theorem fd_8_3_9 : FDo 8 3 9 := ⟨⟨by decide, by decide⟩, mG 428 (by decide +kernel) rfl, by decide +kernel⟩
theorem fd_8_4_15 : FDo 8 4 15 := ⟨⟨by decide, by decide⟩, mG 430 (by decide +kernel) rfl, by decide +kernel⟩
theorem fd_8_5_18 : FDo 8 5 18 := ⟨⟨by decide, by decide⟩, mG 432 (by decide +kernel) rfl, by decide +kernel⟩
theorem fd_8_6_21 : FDo 8 6 21 := ⟨⟨by decide, by decide⟩, mG 434 (by decide +kernel) rfl, by decide +kernel⟩
def wnN8 (cI cJ cZ : ClassId) (sz : Nat) : va_W := ([] : va_W) ++ [(sz, .inl (cI, a0Of .int 4))] ++ [((sz + 1), .inl (cI, a0Of .int 4))] ++ [((sz + 2), .inl (cI, a0Of .int 4))] ++ [((sz + 3), .inl (cI, a0Of .int 4))]
set_option maxHeartbeats 4000000 in
set_option maxRecDepth 20000 in
theorem c_N8 (l : Launch) (D : va_G) (cI cJ cZ : ClassId) (q sz : Nat) : MN l D cI cJ cZ 8 yN8 cN8 1 1 12 4 16 [] q sz (fsN8  sz) (wnN8 cI cJ cZ sz) := by
  refine nx_ofW (by decide +kernel) rfl ?_
  intro p e s m below meth c C hin2 hrt hlk hsz K hA
  have C : GN D cI cJ cZ (clE 8).1 cN8 1 p s m _ c := C
  have hl := lv_entry ([.ref q]) (n := 1) (Nat.le_of_ble_eq_true rfl)
  rw [lg_entry_eq]
  generalize (lg_sl ([.ref q]) ++ List.replicate (1 - (lg_sl ([.ref q])).length) Slot.unset).toArray = ls at hl ⊢
  have hl : lv_has ls 1 [(0, .ref q)] := hl
  have h0 := lv_at hl 0 rfl
  rw [fz_8] at K
  refine nx_obj (idx := 3) C h0 hl.1 (mG 421 (by decide +kernel) rfl) (by decide +kernel) (by decide +kernel) ⟨Nat.le_of_ble_eq_true rfl, Nat.le_of_ble_eq_true rfl⟩ ?_
  refine nx_na C hin2 K hA h0 1 4 3 9 .int rfl (by decide +kernel) fd_8_3_9 (fun _ => ⟨rfl, rfl⟩) (Nat.le_of_ble_eq_true rfl) ⟨Nat.le_of_ble_eq_true rfl, Nat.le_of_ble_eq_true rfl⟩ (fun H locs K => ?_)
  have K : NH D (AN q sz) s.heap H locs ((q, .inr (8, [.int 0, .int 0, .int 0, .ref sz, .null, .null, .null, .int 0, .int 0, .int 0, .int 0, .int 0, .int 0, .int 0])) :: (([] : va_W) ++ [(sz, .inl (cI, a0Of .int 4))])) (sz + 1) := K
  refine nx_na C hin2 K hA h0 1 4 4 15 .int rfl (by decide +kernel) fd_8_4_15 (fun _ => ⟨rfl, rfl⟩) (Nat.le_of_ble_eq_true rfl) ⟨Nat.le_of_ble_eq_true rfl, Nat.le_of_ble_eq_true rfl⟩ (fun H locs K => ?_)
  have K : NH D (AN q sz) s.heap H locs ((q, .inr (8, [.int 0, .int 0, .int 0, .ref sz, .ref (sz + 1), .null, .null, .int 0, .int 0, .int 0, .int 0, .int 0, .int 0, .int 0])) :: (([] : va_W) ++ [(sz, .inl (cI, a0Of .int 4))] ++ [((sz + 1), .inl (cI, a0Of .int 4))])) (sz + 2) := K
  refine nx_na C hin2 K hA h0 1 4 5 18 .int rfl (by decide +kernel) fd_8_5_18 (fun _ => ⟨rfl, rfl⟩) (Nat.le_of_ble_eq_true rfl) ⟨Nat.le_of_ble_eq_true rfl, Nat.le_of_ble_eq_true rfl⟩ (fun H locs K => ?_)
  have K : NH D (AN q sz) s.heap H locs ((q, .inr (8, [.int 0, .int 0, .int 0, .ref sz, .ref (sz + 1), .ref (sz + 2), .null, .int 0, .int 0, .int 0, .int 0, .int 0, .int 0, .int 0])) :: (([] : va_W) ++ [(sz, .inl (cI, a0Of .int 4))] ++ [((sz + 1), .inl (cI, a0Of .int 4))] ++ [((sz + 2), .inl (cI, a0Of .int 4))])) (sz + 3) := K
  refine nx_na C hin2 K hA h0 1 4 6 21 .int rfl (by decide +kernel) fd_8_6_21 (fun _ => ⟨rfl, rfl⟩) (Nat.le_of_ble_eq_true rfl) ⟨Nat.le_of_ble_eq_true rfl, Nat.le_of_ble_eq_true rfl⟩ (fun H locs K => ?_)
  have K : NH D (AN q sz) s.heap H locs ((q, .inr (8, [.int 0, .int 0, .int 0, .ref sz, .ref (sz + 1), .ref (sz + 2), .ref (sz + 3), .int 0, .int 0, .int 0, .int 0, .int 0, .int 0, .int 0])) :: (([] : va_W) ++ [(sz, .inl (cI, a0Of .int 4))] ++ [((sz + 1), .inl (cI, a0Of .int 4))] ++ [((sz + 2), .inl (cI, a0Of .int 4))] ++ [((sz + 3), .inl (cI, a0Of .int 4))])) (sz + 4) := K
  refine W.widen (k := 4) (n := 16) (Nat.le_of_ble_eq_true rfl) (Nat.le_of_ble_eq_true rfl) ?_
  exact nx_ret C hrt hlk hsz K (by decide +kernel)
def yN0 : MethodName := ⟨"FarKeys$Book", "<init>", "()V"⟩
def cN0 : ByteArray := prog_2_method_1_code
theorem cw_0 : Cond.code yN0 cN0 1 none ∈ G := mG 295 rfl rfl
theorem cm_0 : Cond.instanceMethod yN0 ∈ G := mG 294 (by decide +kernel) rfl
theorem cz_0 : Cond.initialized (clE 0).1 ∈ G := mG 86 (by decide +kernel) rfl
theorem ct_0 : Cond.instantiable (clE 0).1 (clE 0).2.2 ∈ G := mG 292 (by decide +kernel) rfl
theorem fz_0 : fzC 0 = [.null, .int 0, .null, .null, .null, .int 0, .null, .null, .null, .long 0] := by decide +kernel
def fsN0 (sz : Nat) : List Value := [.ref sz, .int 0, .ref (sz + 1), .ref (sz + 2), .ref (sz + 3), .int 0, .ref (sz + 4), .ref (sz + 5), .ref (sz + 6), .long 0]
theorem fd_0_0_9 : FDo 0 0 9 := ⟨⟨by decide, by decide⟩, mG 297 (by decide +kernel) rfl, by decide +kernel⟩
theorem fd_0_2_15 : FDo 0 2 15 := ⟨⟨by decide, by decide⟩, mG 301 (by decide +kernel) rfl, by decide +kernel⟩
theorem fd_0_3_18 : FDo 0 3 18 := ⟨⟨by decide, by decide⟩, mG 302 (by decide +kernel) rfl, by decide +kernel⟩
theorem fd_0_4_21 : FDo 0 4 21 := ⟨⟨by decide, by decide⟩, mG 303 (by decide +kernel) rfl, by decide +kernel⟩
theorem fd_0_6_24 : FDo 0 6 24 := ⟨⟨by decide, by decide⟩, mG 306 (by decide +kernel) rfl, by decide +kernel⟩
theorem fd_0_7_27 : FDo 0 7 27 := ⟨⟨by decide, by decide⟩, mG 308 (by decide +kernel) rfl, by decide +kernel⟩
theorem fd_0_8_30 : FDo 0 8 30 := ⟨⟨by decide, by decide⟩, mG 310 (by decide +kernel) rfl, by decide +kernel⟩
def wnN0 (cI cJ cZ : ClassId) (sz : Nat) : va_W := ([] : va_W) ++ [(sz, .inl (cI, 4, .inl (fun _ => Int32.ofInt (-1))))] ++ [((sz + 1), .inl (cI, a0Of .int 10))] ++ [((sz + 2), .inl (cI, a0Of .int 10))] ++ [((sz + 3), .inl (cI, a0Of .int 10))] ++ [((sz + 4), .inl (cI, a0Of .int 160))] ++ [((sz + 5), .inl (cI, a0Of .int 40))] ++ [((sz + 6), .inl (cJ, a0Of .long 40))]
set_option maxHeartbeats 4000000 in
set_option maxRecDepth 20000 in
theorem c_N0 (l : Launch) (D : va_G) (cI cJ cZ : ClassId) (q sz : Nat) : MN l D cI cJ cZ 0 yN0 cN0 1 1 12 7 274 [] q sz (fsN0  sz) (wnN0 cI cJ cZ sz) := by
  refine nx_ofW (by decide +kernel) rfl ?_
  intro p e s m below meth c C hin2 hrt hlk hsz K hA
  have C : GN D cI cJ cZ (clE 0).1 cN0 1 p s m _ c := C
  have hl := lv_entry ([.ref q]) (n := 1) (Nat.le_of_ble_eq_true rfl)
  rw [lg_entry_eq]
  generalize (lg_sl ([.ref q]) ++ List.replicate (1 - (lg_sl ([.ref q])).length) Slot.unset).toArray = ls at hl ⊢
  have hl : lv_has ls 1 [(0, .ref q)] := hl
  have h0 := lv_at hl 0 rfl
  rw [fz_0] at K
  refine nx_obj (idx := 3) C h0 hl.1 (mG 296 (by decide +kernel) rfl) (by decide +kernel) (by decide +kernel) ⟨Nat.le_of_ble_eq_true rfl, Nat.le_of_ble_eq_true rfl⟩ ?_
  refine lv_aload_n C.1 C.2.1 (by decide +kernel : decode cN0 4 = .ok (.aload_n 0, 1)) rfl h0 ?_
  refine nx_psh (v := 4) C 1 (by decide +kernel) ?_
  refine nx_arr (aty := .int) (t0 := 0) (a0 := (4, .inl (fun _ => 0))) (N := 4) C K hA rfl (mG 134 (by decide +kernel) rfl) (fun _ => rfl) (by decide) (by decide) (by decide) (Nat.le_of_ble_eq_true rfl) (Nat.le_of_ble_eq_true rfl) (by decide +kernel) (fun H K => ?_)
  have K : NH D (AN q sz) s.heap H [] [(q, .inr (0, [.null, .int 0, .null, .null, .null, .int 0, .null, .null, .null, .long 0])), (sz, .inl (cI, 4, .inl (fun _ => 0)))] (sz + 1) := K
  refine lv_dup C.1 C.2.1 (by decide +kernel : decode cN0 8 = .ok (.dup, 1)) rfl ?_
  refine nx_psh (v := 0) C 1 (by decide +kernel) ?_
  refine nx_psh (v := -1) C 1 (by decide +kernel) ?_
  refine nx_iast C K 1 rfl (by unfold vp_in; decide) (by decide +kernel) (fun H locs K => ?_)
  have K : NH D (AN q sz) s.heap H locs [(q, .inr (0, [.null, .int 0, .null, .null, .null, .int 0, .null, .null, .null, .long 0])), (sz, .inl (cI, 4, .inl (upd (fun _ => 0) 0 (Int32.ofInt (-1)))))] (sz + 1) := K
  refine lv_dup C.1 C.2.1 (by decide +kernel : decode cN0 12 = .ok (.dup, 1)) rfl ?_
  refine nx_psh (v := 1) C 1 (by decide +kernel) ?_
  refine nx_psh (v := -1) C 1 (by decide +kernel) ?_
  refine nx_iast C K 1 rfl (by unfold vp_in; decide) (by decide +kernel) (fun H locs K => ?_)
  have K : NH D (AN q sz) s.heap H locs [(q, .inr (0, [.null, .int 0, .null, .null, .null, .int 0, .null, .null, .null, .long 0])), (sz, .inl (cI, 4, .inl (upd (upd (fun _ => 0) 0 (Int32.ofInt (-1))) 1 (Int32.ofInt (-1)))))] (sz + 1) := K
  refine lv_dup C.1 C.2.1 (by decide +kernel : decode cN0 16 = .ok (.dup, 1)) rfl ?_
  refine nx_psh (v := 2) C 1 (by decide +kernel) ?_
  refine nx_psh (v := -1) C 1 (by decide +kernel) ?_
  refine nx_iast C K 1 rfl (by unfold vp_in; decide) (by decide +kernel) (fun H locs K => ?_)
  have K : NH D (AN q sz) s.heap H locs [(q, .inr (0, [.null, .int 0, .null, .null, .null, .int 0, .null, .null, .null, .long 0])), (sz, .inl (cI, 4, .inl (upd (upd (upd (fun _ => 0) 0 (Int32.ofInt (-1))) 1 (Int32.ofInt (-1))) 2 (Int32.ofInt (-1)))))] (sz + 1) := K
  refine lv_dup C.1 C.2.1 (by decide +kernel : decode cN0 20 = .ok (.dup, 1)) rfl ?_
  refine nx_psh (v := 3) C 1 (by decide +kernel) ?_
  refine nx_psh (v := -1) C 1 (by decide +kernel) ?_
  refine nx_iast C K 1 rfl (by unfold vp_in; decide) (by decide +kernel) (fun H locs K => ?_)
  have K : NH D (AN q sz) s.heap H locs [(q, .inr (0, [.null, .int 0, .null, .null, .null, .int 0, .null, .null, .null, .long 0])), (sz, .inl (cI, 4, .inl (upd (upd (upd (upd (fun _ => 0) 0 (Int32.ofInt (-1))) 1 (Int32.ofInt (-1))) 2 (Int32.ofInt (-1))) 3 (Int32.ofInt (-1)))))] (sz + 1) := K
  have K := NH_ext (q0 := 1) (g := fun _ => Int32.ofInt (-1)) K rfl (fun j hj => by
    rcases (show j = 0 ∨ j = 1 ∨ j = 2 ∨ j = 3 by omega) with rfl | rfl | rfl | rfl <;> rfl)
  have K : NH D (AN q sz) s.heap H locs ((q, .inr (0, [.null, .int 0, .null, .null, .null, .int 0, .null, .null, .null, .long 0])) :: (([] : va_W) ++ [(sz, .inl (cI, 4, .inl (fun _ => Int32.ofInt (-1))))])) (sz + 1) := K
  refine nx_put C (Or.inl hin2) K fd_0_0_9 rfl rfl (Nat.le_of_ble_eq_true rfl) (by decide +kernel) (fun H locs K => ?_)
  have K : NH D (AN q sz) s.heap H locs ((q, .inr (0, [.ref sz, .int 0, .null, .null, .null, .int 0, .null, .null, .null, .long 0])) :: (([] : va_W) ++ [(sz, .inl (cI, 4, .inl (fun _ => Int32.ofInt (-1))))])) (sz + 1) := K
  refine nx_na C hin2 K hA h0 2 10 2 15 .int rfl (by decide +kernel) fd_0_2_15 (fun _ => ⟨rfl, rfl⟩) (Nat.le_of_ble_eq_true rfl) ⟨Nat.le_of_ble_eq_true rfl, Nat.le_of_ble_eq_true rfl⟩ (fun H locs K => ?_)
  have K : NH D (AN q sz) s.heap H locs ((q, .inr (0, [.ref sz, .int 0, .ref (sz + 1), .null, .null, .int 0, .null, .null, .null, .long 0])) :: (([] : va_W) ++ [(sz, .inl (cI, 4, .inl (fun _ => Int32.ofInt (-1))))] ++ [((sz + 1), .inl (cI, a0Of .int 10))])) (sz + 2) := K
  refine nx_na C hin2 K hA h0 2 10 3 18 .int rfl (by decide +kernel) fd_0_3_18 (fun _ => ⟨rfl, rfl⟩) (Nat.le_of_ble_eq_true rfl) ⟨Nat.le_of_ble_eq_true rfl, Nat.le_of_ble_eq_true rfl⟩ (fun H locs K => ?_)
  have K : NH D (AN q sz) s.heap H locs ((q, .inr (0, [.ref sz, .int 0, .ref (sz + 1), .ref (sz + 2), .null, .int 0, .null, .null, .null, .long 0])) :: (([] : va_W) ++ [(sz, .inl (cI, 4, .inl (fun _ => Int32.ofInt (-1))))] ++ [((sz + 1), .inl (cI, a0Of .int 10))] ++ [((sz + 2), .inl (cI, a0Of .int 10))])) (sz + 3) := K
  refine nx_na C hin2 K hA h0 2 10 4 21 .int rfl (by decide +kernel) fd_0_4_21 (fun _ => ⟨rfl, rfl⟩) (Nat.le_of_ble_eq_true rfl) ⟨Nat.le_of_ble_eq_true rfl, Nat.le_of_ble_eq_true rfl⟩ (fun H locs K => ?_)
  have K : NH D (AN q sz) s.heap H locs ((q, .inr (0, [.ref sz, .int 0, .ref (sz + 1), .ref (sz + 2), .ref (sz + 3), .int 0, .null, .null, .null, .long 0])) :: (([] : va_W) ++ [(sz, .inl (cI, 4, .inl (fun _ => Int32.ofInt (-1))))] ++ [((sz + 1), .inl (cI, a0Of .int 10))] ++ [((sz + 2), .inl (cI, a0Of .int 10))] ++ [((sz + 3), .inl (cI, a0Of .int 10))])) (sz + 4) := K
  refine nx_na C hin2 K hA h0 3 160 6 24 .int rfl (by decide +kernel) fd_0_6_24 (fun _ => ⟨rfl, rfl⟩) (Nat.le_of_ble_eq_true rfl) ⟨Nat.le_of_ble_eq_true rfl, Nat.le_of_ble_eq_true rfl⟩ (fun H locs K => ?_)
  have K : NH D (AN q sz) s.heap H locs ((q, .inr (0, [.ref sz, .int 0, .ref (sz + 1), .ref (sz + 2), .ref (sz + 3), .int 0, .ref (sz + 4), .null, .null, .long 0])) :: (([] : va_W) ++ [(sz, .inl (cI, 4, .inl (fun _ => Int32.ofInt (-1))))] ++ [((sz + 1), .inl (cI, a0Of .int 10))] ++ [((sz + 2), .inl (cI, a0Of .int 10))] ++ [((sz + 3), .inl (cI, a0Of .int 10))] ++ [((sz + 4), .inl (cI, a0Of .int 160))])) (sz + 5) := K
  refine nx_na C hin2 K hA h0 2 40 7 27 .int rfl (by decide +kernel) fd_0_7_27 (fun _ => ⟨rfl, rfl⟩) (Nat.le_of_ble_eq_true rfl) ⟨Nat.le_of_ble_eq_true rfl, Nat.le_of_ble_eq_true rfl⟩ (fun H locs K => ?_)
  have K : NH D (AN q sz) s.heap H locs ((q, .inr (0, [.ref sz, .int 0, .ref (sz + 1), .ref (sz + 2), .ref (sz + 3), .int 0, .ref (sz + 4), .ref (sz + 5), .null, .long 0])) :: (([] : va_W) ++ [(sz, .inl (cI, 4, .inl (fun _ => Int32.ofInt (-1))))] ++ [((sz + 1), .inl (cI, a0Of .int 10))] ++ [((sz + 2), .inl (cI, a0Of .int 10))] ++ [((sz + 3), .inl (cI, a0Of .int 10))] ++ [((sz + 4), .inl (cI, a0Of .int 160))] ++ [((sz + 5), .inl (cI, a0Of .int 40))])) (sz + 6) := K
  refine nx_na C hin2 K hA h0 2 40 8 30 .long rfl (by decide +kernel) fd_0_8_30 (fun _ => ⟨rfl, rfl⟩) (Nat.le_of_ble_eq_true rfl) ⟨Nat.le_of_ble_eq_true rfl, Nat.le_of_ble_eq_true rfl⟩ (fun H locs K => ?_)
  have K : NH D (AN q sz) s.heap H locs ((q, .inr (0, [.ref sz, .int 0, .ref (sz + 1), .ref (sz + 2), .ref (sz + 3), .int 0, .ref (sz + 4), .ref (sz + 5), .ref (sz + 6), .long 0])) :: (([] : va_W) ++ [(sz, .inl (cI, 4, .inl (fun _ => Int32.ofInt (-1))))] ++ [((sz + 1), .inl (cI, a0Of .int 10))] ++ [((sz + 2), .inl (cI, a0Of .int 10))] ++ [((sz + 3), .inl (cI, a0Of .int 10))] ++ [((sz + 4), .inl (cI, a0Of .int 160))] ++ [((sz + 5), .inl (cI, a0Of .int 40))] ++ [((sz + 6), .inl (cJ, a0Of .long 40))])) (sz + 7) := K
  refine W.widen (k := 7) (n := 274) (Nat.le_of_ble_eq_true rfl) (Nat.le_of_ble_eq_true rfl) ?_
  exact nx_ret C hrt hlk hsz K (by decide +kernel)
def yN7 : MethodName := ⟨"FarKeys$Solo", "<init>", "()V"⟩
def cN7 : ByteArray := prog_9_method_1_code
theorem cw_7 : Cond.code yN7 cN7 1 none ∈ G := mG 482 rfl rfl
theorem cm_7 : Cond.instanceMethod yN7 ∈ G := mG 481 (by decide +kernel) rfl
theorem cz_7 : Cond.initialized (clE 7).1 ∈ G := mG 90 (by decide +kernel) rfl
theorem ct_7 : Cond.instantiable (clE 7).1 (clE 7).2.2 ∈ G := mG 479 (by decide +kernel) rfl
theorem fz_7 : fzC 7 = [.null, .null] := by decide +kernel
def fsN7 (sz : Nat) : List Value := [.ref sz, .ref (sz + 1)]
theorem fd_7_0_9 : FDo 7 0 9 := ⟨⟨by decide, by decide⟩, mG 486 (by decide +kernel) rfl, by decide +kernel⟩
theorem fd_7_1_18 : FDo 7 1 18 := ⟨⟨by decide, by decide⟩, mG 487 (by decide +kernel) rfl, by decide +kernel⟩
def wnN7 (cI cJ cZ : ClassId) (sz : Nat) : va_W := ([] : va_W) ++ [(sz, .inl (cI, a0Of .int 50))] ++ ((sz + 1), .inr (6, fsN6 (sz + 2))) :: wnN6 cI cJ cZ (sz + 2)
set_option maxHeartbeats 4000000 in
set_option maxRecDepth 20000 in
theorem c_N7 (l : Launch) (D : va_G) (cI cJ cZ : ClassId) (q sz : Nat) : MN l D cI cJ cZ 7 yN7 cN7 1 2 32 5 67 [] q sz (fsN7  sz) (wnN7 cI cJ cZ sz) := by
  refine nx_ofW (by decide +kernel) rfl ?_
  intro p e s m below meth c C hin2 hrt hlk hsz K hA
  have C : GN D cI cJ cZ (clE 7).1 cN7 1 p s m _ c := C
  have hl := lv_entry ([.ref q]) (n := 1) (Nat.le_of_ble_eq_true rfl)
  rw [lg_entry_eq]
  generalize (lg_sl ([.ref q]) ++ List.replicate (1 - (lg_sl ([.ref q])).length) Slot.unset).toArray = ls at hl ⊢
  have hl : lv_has ls 1 [(0, .ref q)] := hl
  have h0 := lv_at hl 0 rfl
  rw [fz_7] at K
  refine nx_obj (idx := 3) C h0 hl.1 (mG 483 (by decide +kernel) rfl) (by decide +kernel) (by decide +kernel) ⟨Nat.le_of_ble_eq_true rfl, Nat.le_of_ble_eq_true rfl⟩ ?_
  refine nx_na C hin2 K hA h0 2 50 0 9 .int rfl (by decide +kernel) fd_7_0_9 (fun _ => ⟨rfl, rfl⟩) (Nat.le_of_ble_eq_true rfl) ⟨Nat.le_of_ble_eq_true rfl, Nat.le_of_ble_eq_true rfl⟩ (fun H locs K => ?_)
  have K : NH D (AN q sz) s.heap H locs ((q, .inr (7, [.ref sz, .null])) :: (([] : va_W) ++ [(sz, .inl (cI, a0Of .int 50))])) (sz + 1) := K
  refine lv_aload_n C.1 C.2.1 (by decide +kernel : decode cN7 12 = .ok (.aload_n 0, 1)) rfl h0 ?_
  refine nx_new (cj := 6) (index := 15) C K hA (by decide) (mG 484 (by decide +kernel) rfl) ct_6 cz_6 (N := 5) rfl (Nat.le_of_ble_eq_true rfl) (Nat.le_of_ble_eq_true rfl) (by decide +kernel) (fun H K => ?_)
  have K : NH D (AN q sz) s.heap H locs (((q, .inr (7, [.ref sz, .null])) :: (([] : va_W) ++ [(sz, .inl (cI, a0Of .int 50))])) ++ [((sz + 1), .inr (6, fzC 6))]) (sz + 2) := K
  have K1 : NH D (AN q sz) s.heap H locs ((q, .inr (7, [.ref sz, .null])) :: (([] : va_W) ++ [(sz, .inl (cI, a0Of .int 50))] ++ [((sz + 1), .inr (6, fzC 6))])) (sz + 2) := K
  refine lv_dup C.1 C.2.1 (by decide +kernel : decode cN7 16 = .ok (.dup, 1)) rfl ?_
  refine nx_call (ws := ((q, .inr (7, [.ref sz, .null])) :: (([] : va_W) ++ [(sz, .inl (cI, a0Of .int 50))]))) K hA (nx_runN (index := 17) (As := []) C K (c_N6 l D cI cJ cZ (sz + 1) (sz + 2) ) cw_6 (by decide +kernel) cz_6 cm_6 ⟨rfl, by decide +kernel, by decide +kernel, by decide +kernel⟩ ⟨Nat.le_of_ble_eq_true rfl, Nat.le_of_ble_eq_true rfl⟩ hl.1 rfl (Nat.le_of_ble_eq_true rfl) (by decide +kernel) ⟨Nat.le_of_ble_eq_true rfl, Nat.le_of_ble_eq_true rfl⟩) (fun H locs K => ?_)
  have K : NH D (AN q sz) s.heap H locs ((q, .inr (7, [.ref sz, .null])) :: (([] : va_W) ++ [(sz, .inl (cI, a0Of .int 50))] ++ ((sz + 1), .inr (6, fsN6 (sz + 2))) :: wnN6 cI cJ cZ (sz + 2))) (sz + 5) := K
  refine nx_put C (Or.inl hin2) K fd_7_1_18 rfl rfl (Nat.le_of_ble_eq_true rfl) (by decide +kernel) (fun H locs K => ?_)
  have K : NH D (AN q sz) s.heap H locs ((q, .inr (7, [.ref sz, .ref (sz + 1)])) :: (([] : va_W) ++ [(sz, .inl (cI, a0Of .int 50))] ++ ((sz + 1), .inr (6, fsN6 (sz + 2))) :: wnN6 cI cJ cZ (sz + 2))) (sz + 5) := K
  refine W.widen (k := 5) (n := 67) (Nat.le_of_ble_eq_true rfl) (Nat.le_of_ble_eq_true rfl) ?_
  exact nx_ret C hrt hlk hsz K (by decide +kernel)
def yN1 : MethodName := ⟨"FarKeys$Duel", "<init>", "()V"⟩
def cN1 : ByteArray := prog_3_method_1_code
theorem cw_1 : Cond.code yN1 cN1 1 none ∈ G := mG 497 rfl rfl
theorem cm_1 : Cond.instanceMethod yN1 ∈ G := mG 496 (by decide +kernel) rfl
theorem cz_1 : Cond.initialized (clE 1).1 ∈ G := mG 91 (by decide +kernel) rfl
theorem ct_1 : Cond.instantiable (clE 1).1 (clE 1).2.2 ∈ G := mG 494 (by decide +kernel) rfl
theorem fz_1 : fzC 1 = [.int 0, .int 0, .int 0, .null, .null, .null, .null, .null, .null, .null, .int 0, .int 0, .int 0] := by decide +kernel
def fsN1 (sz : Nat) : List Value := [.int 0, .int 0, .int 0, .ref sz, .ref (sz + 1), .ref (sz + 2), .ref (sz + 3), .ref (sz + 4), .ref (sz + 5), .ref (sz + 9), .int 0, .int 0, .int 0]
theorem fd_1_3_9 : FDo 1 3 9 := ⟨⟨by decide, by decide⟩, mG 507 (by decide +kernel) rfl, by decide +kernel⟩
theorem fd_1_4_15 : FDo 1 4 15 := ⟨⟨by decide, by decide⟩, mG 509 (by decide +kernel) rfl, by decide +kernel⟩
theorem fd_1_5_18 : FDo 1 5 18 := ⟨⟨by decide, by decide⟩, mG 510 (by decide +kernel) rfl, by decide +kernel⟩
theorem fd_1_6_21 : FDo 1 6 21 := ⟨⟨by decide, by decide⟩, mG 511 (by decide +kernel) rfl, by decide +kernel⟩
theorem fd_1_7_24 : FDo 1 7 24 := ⟨⟨by decide, by decide⟩, mG 512 (by decide +kernel) rfl, by decide +kernel⟩
theorem fd_1_8_30 : FDo 1 8 30 := ⟨⟨by decide, by decide⟩, mG 513 (by decide +kernel) rfl, by decide +kernel⟩
theorem fd_1_9_34 : FDo 1 9 34 := ⟨⟨by decide, by decide⟩, mG 514 (by decide +kernel) rfl, by decide +kernel⟩
def wnN1 (cI cJ cZ : ClassId) (sz : Nat) : va_W := ([] : va_W) ++ [(sz, .inl (cI, a0Of .int 2500))] ++ [((sz + 1), .inl (cI, a0Of .int 2500))] ++ [((sz + 2), .inl (cI, a0Of .int 2500))] ++ [((sz + 3), .inl (cI, a0Of .int 50))] ++ [((sz + 4), .inl (cI, a0Of .int 50))] ++ ((sz + 5), .inr (6, fsN6 (sz + 6))) :: wnN6 cI cJ cZ (sz + 6) ++ ((sz + 9), .inr (6, fsN6 (sz + 10))) :: wnN6 cI cJ cZ (sz + 10)
set_option maxHeartbeats 4000000 in
set_option maxRecDepth 20000 in
theorem c_N1 (l : Launch) (D : va_G) (cI cJ cZ : ClassId) (q sz : Nat) : MN l D cI cJ cZ 1 yN1 cN1 1 2 32 13 7634 [] q sz (fsN1  sz) (wnN1 cI cJ cZ sz) := by
  refine nx_ofW (by decide +kernel) rfl ?_
  intro p e s m below meth c C hin2 hrt hlk hsz K hA
  have C : GN D cI cJ cZ (clE 1).1 cN1 1 p s m _ c := C
  have hl := lv_entry ([.ref q]) (n := 1) (Nat.le_of_ble_eq_true rfl)
  rw [lg_entry_eq]
  generalize (lg_sl ([.ref q]) ++ List.replicate (1 - (lg_sl ([.ref q])).length) Slot.unset).toArray = ls at hl ⊢
  have hl : lv_has ls 1 [(0, .ref q)] := hl
  have h0 := lv_at hl 0 rfl
  rw [fz_1] at K
  refine nx_obj (idx := 3) C h0 hl.1 (mG 498 (by decide +kernel) rfl) (by decide +kernel) (by decide +kernel) ⟨Nat.le_of_ble_eq_true rfl, Nat.le_of_ble_eq_true rfl⟩ ?_
  refine nx_na C hin2 K hA h0 3 2500 3 9 .int rfl (by decide +kernel) fd_1_3_9 (fun _ => ⟨rfl, rfl⟩) (Nat.le_of_ble_eq_true rfl) ⟨Nat.le_of_ble_eq_true rfl, Nat.le_of_ble_eq_true rfl⟩ (fun H locs K => ?_)
  have K : NH D (AN q sz) s.heap H locs ((q, .inr (1, [.int 0, .int 0, .int 0, .ref sz, .null, .null, .null, .null, .null, .null, .int 0, .int 0, .int 0])) :: (([] : va_W) ++ [(sz, .inl (cI, a0Of .int 2500))])) (sz + 1) := K
  refine nx_na C hin2 K hA h0 3 2500 4 15 .int rfl (by decide +kernel) fd_1_4_15 (fun _ => ⟨rfl, rfl⟩) (Nat.le_of_ble_eq_true rfl) ⟨Nat.le_of_ble_eq_true rfl, Nat.le_of_ble_eq_true rfl⟩ (fun H locs K => ?_)
  have K : NH D (AN q sz) s.heap H locs ((q, .inr (1, [.int 0, .int 0, .int 0, .ref sz, .ref (sz + 1), .null, .null, .null, .null, .null, .int 0, .int 0, .int 0])) :: (([] : va_W) ++ [(sz, .inl (cI, a0Of .int 2500))] ++ [((sz + 1), .inl (cI, a0Of .int 2500))])) (sz + 2) := K
  refine nx_na C hin2 K hA h0 3 2500 5 18 .int rfl (by decide +kernel) fd_1_5_18 (fun _ => ⟨rfl, rfl⟩) (Nat.le_of_ble_eq_true rfl) ⟨Nat.le_of_ble_eq_true rfl, Nat.le_of_ble_eq_true rfl⟩ (fun H locs K => ?_)
  have K : NH D (AN q sz) s.heap H locs ((q, .inr (1, [.int 0, .int 0, .int 0, .ref sz, .ref (sz + 1), .ref (sz + 2), .null, .null, .null, .null, .int 0, .int 0, .int 0])) :: (([] : va_W) ++ [(sz, .inl (cI, a0Of .int 2500))] ++ [((sz + 1), .inl (cI, a0Of .int 2500))] ++ [((sz + 2), .inl (cI, a0Of .int 2500))])) (sz + 3) := K
  refine nx_na C hin2 K hA h0 2 50 6 21 .int rfl (by decide +kernel) fd_1_6_21 (fun _ => ⟨rfl, rfl⟩) (Nat.le_of_ble_eq_true rfl) ⟨Nat.le_of_ble_eq_true rfl, Nat.le_of_ble_eq_true rfl⟩ (fun H locs K => ?_)
  have K : NH D (AN q sz) s.heap H locs ((q, .inr (1, [.int 0, .int 0, .int 0, .ref sz, .ref (sz + 1), .ref (sz + 2), .ref (sz + 3), .null, .null, .null, .int 0, .int 0, .int 0])) :: (([] : va_W) ++ [(sz, .inl (cI, a0Of .int 2500))] ++ [((sz + 1), .inl (cI, a0Of .int 2500))] ++ [((sz + 2), .inl (cI, a0Of .int 2500))] ++ [((sz + 3), .inl (cI, a0Of .int 50))])) (sz + 4) := K
  refine nx_na C hin2 K hA h0 2 50 7 24 .int rfl (by decide +kernel) fd_1_7_24 (fun _ => ⟨rfl, rfl⟩) (Nat.le_of_ble_eq_true rfl) ⟨Nat.le_of_ble_eq_true rfl, Nat.le_of_ble_eq_true rfl⟩ (fun H locs K => ?_)
  have K : NH D (AN q sz) s.heap H locs ((q, .inr (1, [.int 0, .int 0, .int 0, .ref sz, .ref (sz + 1), .ref (sz + 2), .ref (sz + 3), .ref (sz + 4), .null, .null, .int 0, .int 0, .int 0])) :: (([] : va_W) ++ [(sz, .inl (cI, a0Of .int 2500))] ++ [((sz + 1), .inl (cI, a0Of .int 2500))] ++ [((sz + 2), .inl (cI, a0Of .int 2500))] ++ [((sz + 3), .inl (cI, a0Of .int 50))] ++ [((sz + 4), .inl (cI, a0Of .int 50))])) (sz + 5) := K
  refine lv_aload_n C.1 C.2.1 (by decide +kernel : decode cN1 47 = .ok (.aload_n 0, 1)) rfl h0 ?_
  refine nx_new (cj := 6) (index := 27) C K hA (by decide) (mG 499 (by decide +kernel) rfl) ct_6 cz_6 (N := 5) rfl (Nat.le_of_ble_eq_true rfl) (Nat.le_of_ble_eq_true rfl) (by decide +kernel) (fun H K => ?_)
  have K : NH D (AN q sz) s.heap H locs (((q, .inr (1, [.int 0, .int 0, .int 0, .ref sz, .ref (sz + 1), .ref (sz + 2), .ref (sz + 3), .ref (sz + 4), .null, .null, .int 0, .int 0, .int 0])) :: (([] : va_W) ++ [(sz, .inl (cI, a0Of .int 2500))] ++ [((sz + 1), .inl (cI, a0Of .int 2500))] ++ [((sz + 2), .inl (cI, a0Of .int 2500))] ++ [((sz + 3), .inl (cI, a0Of .int 50))] ++ [((sz + 4), .inl (cI, a0Of .int 50))])) ++ [((sz + 5), .inr (6, fzC 6))]) (sz + 6) := K
  have K1 : NH D (AN q sz) s.heap H locs ((q, .inr (1, [.int 0, .int 0, .int 0, .ref sz, .ref (sz + 1), .ref (sz + 2), .ref (sz + 3), .ref (sz + 4), .null, .null, .int 0, .int 0, .int 0])) :: (([] : va_W) ++ [(sz, .inl (cI, a0Of .int 2500))] ++ [((sz + 1), .inl (cI, a0Of .int 2500))] ++ [((sz + 2), .inl (cI, a0Of .int 2500))] ++ [((sz + 3), .inl (cI, a0Of .int 50))] ++ [((sz + 4), .inl (cI, a0Of .int 50))] ++ [((sz + 5), .inr (6, fzC 6))])) (sz + 6) := K
  refine lv_dup C.1 C.2.1 (by decide +kernel : decode cN1 51 = .ok (.dup, 1)) rfl ?_
  refine nx_call (ws := ((q, .inr (1, [.int 0, .int 0, .int 0, .ref sz, .ref (sz + 1), .ref (sz + 2), .ref (sz + 3), .ref (sz + 4), .null, .null, .int 0, .int 0, .int 0])) :: (([] : va_W) ++ [(sz, .inl (cI, a0Of .int 2500))] ++ [((sz + 1), .inl (cI, a0Of .int 2500))] ++ [((sz + 2), .inl (cI, a0Of .int 2500))] ++ [((sz + 3), .inl (cI, a0Of .int 50))] ++ [((sz + 4), .inl (cI, a0Of .int 50))]))) K hA (nx_runN (index := 29) (As := []) C K (c_N6 l D cI cJ cZ (sz + 5) (sz + 6) ) cw_6 (by decide +kernel) cz_6 cm_6 ⟨rfl, by decide +kernel, by decide +kernel, by decide +kernel⟩ ⟨Nat.le_of_ble_eq_true rfl, Nat.le_of_ble_eq_true rfl⟩ hl.1 rfl (Nat.le_of_ble_eq_true rfl) (by decide +kernel) ⟨Nat.le_of_ble_eq_true rfl, Nat.le_of_ble_eq_true rfl⟩) (fun H locs K => ?_)
  have K : NH D (AN q sz) s.heap H locs ((q, .inr (1, [.int 0, .int 0, .int 0, .ref sz, .ref (sz + 1), .ref (sz + 2), .ref (sz + 3), .ref (sz + 4), .null, .null, .int 0, .int 0, .int 0])) :: (([] : va_W) ++ [(sz, .inl (cI, a0Of .int 2500))] ++ [((sz + 1), .inl (cI, a0Of .int 2500))] ++ [((sz + 2), .inl (cI, a0Of .int 2500))] ++ [((sz + 3), .inl (cI, a0Of .int 50))] ++ [((sz + 4), .inl (cI, a0Of .int 50))] ++ ((sz + 5), .inr (6, fsN6 (sz + 6))) :: wnN6 cI cJ cZ (sz + 6))) (sz + 9) := K
  refine nx_put C (Or.inl hin2) K fd_1_8_30 rfl rfl (Nat.le_of_ble_eq_true rfl) (by decide +kernel) (fun H locs K => ?_)
  have K : NH D (AN q sz) s.heap H locs ((q, .inr (1, [.int 0, .int 0, .int 0, .ref sz, .ref (sz + 1), .ref (sz + 2), .ref (sz + 3), .ref (sz + 4), .ref (sz + 5), .null, .int 0, .int 0, .int 0])) :: (([] : va_W) ++ [(sz, .inl (cI, a0Of .int 2500))] ++ [((sz + 1), .inl (cI, a0Of .int 2500))] ++ [((sz + 2), .inl (cI, a0Of .int 2500))] ++ [((sz + 3), .inl (cI, a0Of .int 50))] ++ [((sz + 4), .inl (cI, a0Of .int 50))] ++ ((sz + 5), .inr (6, fsN6 (sz + 6))) :: wnN6 cI cJ cZ (sz + 6))) (sz + 9) := K
  refine lv_aload_n C.1 C.2.1 (by decide +kernel : decode cN1 58 = .ok (.aload_n 0, 1)) rfl h0 ?_
  refine nx_new (cj := 6) (index := 27) C K hA (by decide) (mG 499 (by decide +kernel) rfl) ct_6 cz_6 (N := 5) rfl (Nat.le_of_ble_eq_true rfl) (Nat.le_of_ble_eq_true rfl) (by decide +kernel) (fun H K => ?_)
  have K : NH D (AN q sz) s.heap H locs (((q, .inr (1, [.int 0, .int 0, .int 0, .ref sz, .ref (sz + 1), .ref (sz + 2), .ref (sz + 3), .ref (sz + 4), .ref (sz + 5), .null, .int 0, .int 0, .int 0])) :: (([] : va_W) ++ [(sz, .inl (cI, a0Of .int 2500))] ++ [((sz + 1), .inl (cI, a0Of .int 2500))] ++ [((sz + 2), .inl (cI, a0Of .int 2500))] ++ [((sz + 3), .inl (cI, a0Of .int 50))] ++ [((sz + 4), .inl (cI, a0Of .int 50))] ++ ((sz + 5), .inr (6, fsN6 (sz + 6))) :: wnN6 cI cJ cZ (sz + 6))) ++ [((sz + 9), .inr (6, fzC 6))]) (sz + 10) := K
  have K1 : NH D (AN q sz) s.heap H locs ((q, .inr (1, [.int 0, .int 0, .int 0, .ref sz, .ref (sz + 1), .ref (sz + 2), .ref (sz + 3), .ref (sz + 4), .ref (sz + 5), .null, .int 0, .int 0, .int 0])) :: (([] : va_W) ++ [(sz, .inl (cI, a0Of .int 2500))] ++ [((sz + 1), .inl (cI, a0Of .int 2500))] ++ [((sz + 2), .inl (cI, a0Of .int 2500))] ++ [((sz + 3), .inl (cI, a0Of .int 50))] ++ [((sz + 4), .inl (cI, a0Of .int 50))] ++ ((sz + 5), .inr (6, fsN6 (sz + 6))) :: wnN6 cI cJ cZ (sz + 6) ++ [((sz + 9), .inr (6, fzC 6))])) (sz + 10) := K
  refine lv_dup C.1 C.2.1 (by decide +kernel : decode cN1 62 = .ok (.dup, 1)) rfl ?_
  refine nx_call (ws := ((q, .inr (1, [.int 0, .int 0, .int 0, .ref sz, .ref (sz + 1), .ref (sz + 2), .ref (sz + 3), .ref (sz + 4), .ref (sz + 5), .null, .int 0, .int 0, .int 0])) :: (([] : va_W) ++ [(sz, .inl (cI, a0Of .int 2500))] ++ [((sz + 1), .inl (cI, a0Of .int 2500))] ++ [((sz + 2), .inl (cI, a0Of .int 2500))] ++ [((sz + 3), .inl (cI, a0Of .int 50))] ++ [((sz + 4), .inl (cI, a0Of .int 50))] ++ ((sz + 5), .inr (6, fsN6 (sz + 6))) :: wnN6 cI cJ cZ (sz + 6)))) K hA (nx_runN (index := 29) (As := []) C K (c_N6 l D cI cJ cZ (sz + 9) (sz + 10) ) cw_6 (by decide +kernel) cz_6 cm_6 ⟨rfl, by decide +kernel, by decide +kernel, by decide +kernel⟩ ⟨Nat.le_of_ble_eq_true rfl, Nat.le_of_ble_eq_true rfl⟩ hl.1 rfl (Nat.le_of_ble_eq_true rfl) (by decide +kernel) ⟨Nat.le_of_ble_eq_true rfl, Nat.le_of_ble_eq_true rfl⟩) (fun H locs K => ?_)
  have K : NH D (AN q sz) s.heap H locs ((q, .inr (1, [.int 0, .int 0, .int 0, .ref sz, .ref (sz + 1), .ref (sz + 2), .ref (sz + 3), .ref (sz + 4), .ref (sz + 5), .null, .int 0, .int 0, .int 0])) :: (([] : va_W) ++ [(sz, .inl (cI, a0Of .int 2500))] ++ [((sz + 1), .inl (cI, a0Of .int 2500))] ++ [((sz + 2), .inl (cI, a0Of .int 2500))] ++ [((sz + 3), .inl (cI, a0Of .int 50))] ++ [((sz + 4), .inl (cI, a0Of .int 50))] ++ ((sz + 5), .inr (6, fsN6 (sz + 6))) :: wnN6 cI cJ cZ (sz + 6) ++ ((sz + 9), .inr (6, fsN6 (sz + 10))) :: wnN6 cI cJ cZ (sz + 10))) (sz + 13) := K
  refine nx_put C (Or.inl hin2) K fd_1_9_34 rfl rfl (Nat.le_of_ble_eq_true rfl) (by decide +kernel) (fun H locs K => ?_)
  have K : NH D (AN q sz) s.heap H locs ((q, .inr (1, [.int 0, .int 0, .int 0, .ref sz, .ref (sz + 1), .ref (sz + 2), .ref (sz + 3), .ref (sz + 4), .ref (sz + 5), .ref (sz + 9), .int 0, .int 0, .int 0])) :: (([] : va_W) ++ [(sz, .inl (cI, a0Of .int 2500))] ++ [((sz + 1), .inl (cI, a0Of .int 2500))] ++ [((sz + 2), .inl (cI, a0Of .int 2500))] ++ [((sz + 3), .inl (cI, a0Of .int 50))] ++ [((sz + 4), .inl (cI, a0Of .int 50))] ++ ((sz + 5), .inr (6, fsN6 (sz + 6))) :: wnN6 cI cJ cZ (sz + 6) ++ ((sz + 9), .inr (6, fsN6 (sz + 10))) :: wnN6 cI cJ cZ (sz + 10))) (sz + 13) := K
  refine W.widen (k := 13) (n := 7634) (Nat.le_of_ble_eq_true rfl) (Nat.le_of_ble_eq_true rfl) ?_
  exact nx_ret C hrt hlk hsz K (by decide +kernel)
def yN10 : MethodName := ⟨"FarKeys$Walk", "<init>", "(LFarKeys$Plans;LFarKeys$Land;)V"⟩
def cN10 : ByteArray := prog_12_method_1_code
theorem cw_10 : Cond.code yN10 cN10 3 none ∈ G := mG 339 rfl rfl
theorem cm_10 : Cond.instanceMethod yN10 ∈ G := mG 338 (by decide +kernel) rfl
theorem cz_10 : Cond.initialized (clE 10).1 ∈ G := mG 87 (by decide +kernel) rfl
theorem ct_10 : Cond.instantiable (clE 10).1 (clE 10).2.2 ∈ G := mG 336 (by decide +kernel) rfl
theorem fz_10 : fzC 10 = [.null, .null, .int 0, .null, .null, .null, .null, .null, .null, .null] := by decide +kernel
def fsN10 (a1 a2 : Nat) (sz : Nat) : List Value := [.ref a1, .ref a2, .int (Int32.ofInt (1)), .ref sz, .ref (sz + 1), .ref (sz + 2), .ref (sz + 3), .ref (sz + 4), .ref (sz + 5), .ref (sz + 6)]
theorem fd_10_2_9 : FDo 10 2 9 := ⟨⟨by decide, by decide⟩, mG 375 (by decide +kernel) rfl, by decide +kernel⟩
theorem fd_10_3_15 : FDo 10 3 15 := ⟨⟨by decide, by decide⟩, mG 380 (by decide +kernel) rfl, by decide +kernel⟩
theorem fd_10_4_19 : FDo 10 4 19 := ⟨⟨by decide, by decide⟩, mG 381 (by decide +kernel) rfl, by decide +kernel⟩
theorem fd_10_5_22 : FDo 10 5 22 := ⟨⟨by decide, by decide⟩, mG 382 (by decide +kernel) rfl, by decide +kernel⟩
theorem fd_10_6_25 : FDo 10 6 25 := ⟨⟨by decide, by decide⟩, mG 383 (by decide +kernel) rfl, by decide +kernel⟩
theorem fd_10_7_28 : FDo 10 7 28 := ⟨⟨by decide, by decide⟩, mG 384 (by decide +kernel) rfl, by decide +kernel⟩
theorem fd_10_8_31 : FDo 10 8 31 := ⟨⟨by decide, by decide⟩, mG 387 (by decide +kernel) rfl, by decide +kernel⟩
theorem fd_10_9_37 : FDo 10 9 37 := ⟨⟨by decide, by decide⟩, mG 393 (by decide +kernel) rfl, by decide +kernel⟩
theorem fd_10_0_41 : FDo 10 0 41 := ⟨⟨by decide, by decide⟩, mG 370 (by decide +kernel) rfl, by decide +kernel⟩
theorem fd_10_1_45 : FDo 10 1 45 := ⟨⟨by decide, by decide⟩, mG 371 (by decide +kernel) rfl, by decide +kernel⟩
def wnN10 (cI cJ cZ : ClassId) (sz : Nat) : va_W := ([] : va_W) ++ [(sz, .inl (cI, a0Of .int 4))] ++ [((sz + 1), .inl (cI, a0Of .int 4))] ++ [((sz + 2), .inl (cI, a0Of .int 5))] ++ [((sz + 3), .inl (cI, a0Of .int 5))] ++ [((sz + 4), .inl (cI, a0Of .int 5))] ++ [((sz + 5), .inl (cI, a0Of .int 4))] ++ ((sz + 6), .inr (6, fsN6 (sz + 7))) :: wnN6 cI cJ cZ (sz + 7)
set_option maxHeartbeats 4000000 in
set_option maxRecDepth 20000 in
theorem c_N10 (l : Launch) (D : va_G) (cI cJ cZ : ClassId) (q sz : Nat) (a1 a2 : Nat) : MN l D cI cJ cZ 10 yN10 cN10 3 2 32 10 44 [.ref a1, .ref a2] q sz (fsN10 a1 a2 sz) (wnN10 cI cJ cZ sz) := by
  refine nx_ofW (by decide +kernel) rfl ?_
  intro p e s m below meth c C hin2 hrt hlk hsz K hA
  have C : GN D cI cJ cZ (clE 10).1 cN10 3 p s m _ c := C
  have hl := lv_entry ([.ref q, .ref a1, .ref a2]) (n := 3) (Nat.le_of_ble_eq_true rfl)
  rw [lg_entry_eq]
  generalize (lg_sl ([.ref q, .ref a1, .ref a2]) ++ List.replicate (3 - (lg_sl ([.ref q, .ref a1, .ref a2])).length) Slot.unset).toArray = ls at hl ⊢
  have hl : lv_has ls 3 [(0, .ref q), (1, .ref a1), (2, .ref a2)] := hl
  have h0 := lv_at hl 0 rfl
  rw [fz_10] at K
  refine nx_obj (idx := 3) C h0 hl.1 (mG 340 (by decide +kernel) rfl) (by decide +kernel) (by decide +kernel) ⟨Nat.le_of_ble_eq_true rfl, Nat.le_of_ble_eq_true rfl⟩ ?_
  refine lv_aload_n C.1 C.2.1 (by decide +kernel : decode cN10 4 = .ok (.aload_n 0, 1)) rfl h0 ?_
  refine nx_psh (v := 1) C 1 (by decide +kernel) ?_
  refine nx_put C (Or.inl hin2) K fd_10_2_9 rfl rfl (Nat.le_of_ble_eq_true rfl) (by decide +kernel) (fun H locs K => ?_)
  have K : NH D (AN q sz) s.heap H locs ((q, .inr (10, [.null, .null, .int (Int32.ofInt (1)), .null, .null, .null, .null, .null, .null, .null])) :: (([] : va_W))) (sz + 0) := K
  refine nx_na C hin2 K hA h0 1 4 3 15 .int rfl (by decide +kernel) fd_10_3_15 (fun _ => ⟨rfl, rfl⟩) (Nat.le_of_ble_eq_true rfl) ⟨Nat.le_of_ble_eq_true rfl, Nat.le_of_ble_eq_true rfl⟩ (fun H locs K => ?_)
  have K : NH D (AN q sz) s.heap H locs ((q, .inr (10, [.null, .null, .int (Int32.ofInt (1)), .ref sz, .null, .null, .null, .null, .null, .null])) :: (([] : va_W) ++ [(sz, .inl (cI, a0Of .int 4))])) (sz + 1) := K
  refine nx_na C hin2 K hA h0 1 4 4 19 .int rfl (by decide +kernel) fd_10_4_19 (fun _ => ⟨rfl, rfl⟩) (Nat.le_of_ble_eq_true rfl) ⟨Nat.le_of_ble_eq_true rfl, Nat.le_of_ble_eq_true rfl⟩ (fun H locs K => ?_)
  have K : NH D (AN q sz) s.heap H locs ((q, .inr (10, [.null, .null, .int (Int32.ofInt (1)), .ref sz, .ref (sz + 1), .null, .null, .null, .null, .null])) :: (([] : va_W) ++ [(sz, .inl (cI, a0Of .int 4))] ++ [((sz + 1), .inl (cI, a0Of .int 4))])) (sz + 2) := K
  refine nx_na C hin2 K hA h0 1 5 5 22 .int rfl (by decide +kernel) fd_10_5_22 (fun _ => ⟨rfl, rfl⟩) (Nat.le_of_ble_eq_true rfl) ⟨Nat.le_of_ble_eq_true rfl, Nat.le_of_ble_eq_true rfl⟩ (fun H locs K => ?_)
  have K : NH D (AN q sz) s.heap H locs ((q, .inr (10, [.null, .null, .int (Int32.ofInt (1)), .ref sz, .ref (sz + 1), .ref (sz + 2), .null, .null, .null, .null])) :: (([] : va_W) ++ [(sz, .inl (cI, a0Of .int 4))] ++ [((sz + 1), .inl (cI, a0Of .int 4))] ++ [((sz + 2), .inl (cI, a0Of .int 5))])) (sz + 3) := K
  refine nx_na C hin2 K hA h0 1 5 6 25 .int rfl (by decide +kernel) fd_10_6_25 (fun _ => ⟨rfl, rfl⟩) (Nat.le_of_ble_eq_true rfl) ⟨Nat.le_of_ble_eq_true rfl, Nat.le_of_ble_eq_true rfl⟩ (fun H locs K => ?_)
  have K : NH D (AN q sz) s.heap H locs ((q, .inr (10, [.null, .null, .int (Int32.ofInt (1)), .ref sz, .ref (sz + 1), .ref (sz + 2), .ref (sz + 3), .null, .null, .null])) :: (([] : va_W) ++ [(sz, .inl (cI, a0Of .int 4))] ++ [((sz + 1), .inl (cI, a0Of .int 4))] ++ [((sz + 2), .inl (cI, a0Of .int 5))] ++ [((sz + 3), .inl (cI, a0Of .int 5))])) (sz + 4) := K
  refine nx_na C hin2 K hA h0 1 5 7 28 .int rfl (by decide +kernel) fd_10_7_28 (fun _ => ⟨rfl, rfl⟩) (Nat.le_of_ble_eq_true rfl) ⟨Nat.le_of_ble_eq_true rfl, Nat.le_of_ble_eq_true rfl⟩ (fun H locs K => ?_)
  have K : NH D (AN q sz) s.heap H locs ((q, .inr (10, [.null, .null, .int (Int32.ofInt (1)), .ref sz, .ref (sz + 1), .ref (sz + 2), .ref (sz + 3), .ref (sz + 4), .null, .null])) :: (([] : va_W) ++ [(sz, .inl (cI, a0Of .int 4))] ++ [((sz + 1), .inl (cI, a0Of .int 4))] ++ [((sz + 2), .inl (cI, a0Of .int 5))] ++ [((sz + 3), .inl (cI, a0Of .int 5))] ++ [((sz + 4), .inl (cI, a0Of .int 5))])) (sz + 5) := K
  refine nx_na C hin2 K hA h0 1 4 8 31 .int rfl (by decide +kernel) fd_10_8_31 (fun _ => ⟨rfl, rfl⟩) (Nat.le_of_ble_eq_true rfl) ⟨Nat.le_of_ble_eq_true rfl, Nat.le_of_ble_eq_true rfl⟩ (fun H locs K => ?_)
  have K : NH D (AN q sz) s.heap H locs ((q, .inr (10, [.null, .null, .int (Int32.ofInt (1)), .ref sz, .ref (sz + 1), .ref (sz + 2), .ref (sz + 3), .ref (sz + 4), .ref (sz + 5), .null])) :: (([] : va_W) ++ [(sz, .inl (cI, a0Of .int 4))] ++ [((sz + 1), .inl (cI, a0Of .int 4))] ++ [((sz + 2), .inl (cI, a0Of .int 5))] ++ [((sz + 3), .inl (cI, a0Of .int 5))] ++ [((sz + 4), .inl (cI, a0Of .int 5))] ++ [((sz + 5), .inl (cI, a0Of .int 4))])) (sz + 6) := K
  refine lv_aload_n C.1 C.2.1 (by decide +kernel : decode cN10 51 = .ok (.aload_n 0, 1)) rfl h0 ?_
  refine nx_new (cj := 6) (index := 34) C K hA (by decide) (mG 341 (by decide +kernel) rfl) ct_6 cz_6 (N := 5) rfl (Nat.le_of_ble_eq_true rfl) (Nat.le_of_ble_eq_true rfl) (by decide +kernel) (fun H K => ?_)
  have K : NH D (AN q sz) s.heap H locs (((q, .inr (10, [.null, .null, .int (Int32.ofInt (1)), .ref sz, .ref (sz + 1), .ref (sz + 2), .ref (sz + 3), .ref (sz + 4), .ref (sz + 5), .null])) :: (([] : va_W) ++ [(sz, .inl (cI, a0Of .int 4))] ++ [((sz + 1), .inl (cI, a0Of .int 4))] ++ [((sz + 2), .inl (cI, a0Of .int 5))] ++ [((sz + 3), .inl (cI, a0Of .int 5))] ++ [((sz + 4), .inl (cI, a0Of .int 5))] ++ [((sz + 5), .inl (cI, a0Of .int 4))])) ++ [((sz + 6), .inr (6, fzC 6))]) (sz + 7) := K
  have K1 : NH D (AN q sz) s.heap H locs ((q, .inr (10, [.null, .null, .int (Int32.ofInt (1)), .ref sz, .ref (sz + 1), .ref (sz + 2), .ref (sz + 3), .ref (sz + 4), .ref (sz + 5), .null])) :: (([] : va_W) ++ [(sz, .inl (cI, a0Of .int 4))] ++ [((sz + 1), .inl (cI, a0Of .int 4))] ++ [((sz + 2), .inl (cI, a0Of .int 5))] ++ [((sz + 3), .inl (cI, a0Of .int 5))] ++ [((sz + 4), .inl (cI, a0Of .int 5))] ++ [((sz + 5), .inl (cI, a0Of .int 4))] ++ [((sz + 6), .inr (6, fzC 6))])) (sz + 7) := K
  refine lv_dup C.1 C.2.1 (by decide +kernel : decode cN10 55 = .ok (.dup, 1)) rfl ?_
  refine nx_call (ws := ((q, .inr (10, [.null, .null, .int (Int32.ofInt (1)), .ref sz, .ref (sz + 1), .ref (sz + 2), .ref (sz + 3), .ref (sz + 4), .ref (sz + 5), .null])) :: (([] : va_W) ++ [(sz, .inl (cI, a0Of .int 4))] ++ [((sz + 1), .inl (cI, a0Of .int 4))] ++ [((sz + 2), .inl (cI, a0Of .int 5))] ++ [((sz + 3), .inl (cI, a0Of .int 5))] ++ [((sz + 4), .inl (cI, a0Of .int 5))] ++ [((sz + 5), .inl (cI, a0Of .int 4))]))) K hA (nx_runN (index := 36) (As := []) C K (c_N6 l D cI cJ cZ (sz + 6) (sz + 7) ) cw_6 (by decide +kernel) cz_6 cm_6 ⟨rfl, by decide +kernel, by decide +kernel, by decide +kernel⟩ ⟨Nat.le_of_ble_eq_true rfl, Nat.le_of_ble_eq_true rfl⟩ hl.1 rfl (Nat.le_of_ble_eq_true rfl) (by decide +kernel) ⟨Nat.le_of_ble_eq_true rfl, Nat.le_of_ble_eq_true rfl⟩) (fun H locs K => ?_)
  have K : NH D (AN q sz) s.heap H locs ((q, .inr (10, [.null, .null, .int (Int32.ofInt (1)), .ref sz, .ref (sz + 1), .ref (sz + 2), .ref (sz + 3), .ref (sz + 4), .ref (sz + 5), .null])) :: (([] : va_W) ++ [(sz, .inl (cI, a0Of .int 4))] ++ [((sz + 1), .inl (cI, a0Of .int 4))] ++ [((sz + 2), .inl (cI, a0Of .int 5))] ++ [((sz + 3), .inl (cI, a0Of .int 5))] ++ [((sz + 4), .inl (cI, a0Of .int 5))] ++ [((sz + 5), .inl (cI, a0Of .int 4))] ++ ((sz + 6), .inr (6, fsN6 (sz + 7))) :: wnN6 cI cJ cZ (sz + 7))) (sz + 10) := K
  refine nx_put C (Or.inl hin2) K fd_10_9_37 rfl rfl (Nat.le_of_ble_eq_true rfl) (by decide +kernel) (fun H locs K => ?_)
  have K : NH D (AN q sz) s.heap H locs ((q, .inr (10, [.null, .null, .int (Int32.ofInt (1)), .ref sz, .ref (sz + 1), .ref (sz + 2), .ref (sz + 3), .ref (sz + 4), .ref (sz + 5), .ref (sz + 6)])) :: (([] : va_W) ++ [(sz, .inl (cI, a0Of .int 4))] ++ [((sz + 1), .inl (cI, a0Of .int 4))] ++ [((sz + 2), .inl (cI, a0Of .int 5))] ++ [((sz + 3), .inl (cI, a0Of .int 5))] ++ [((sz + 4), .inl (cI, a0Of .int 5))] ++ [((sz + 5), .inl (cI, a0Of .int 4))] ++ ((sz + 6), .inr (6, fsN6 (sz + 7))) :: wnN6 cI cJ cZ (sz + 7))) (sz + 10) := K
  refine lv_aload_n C.1 C.2.1 (by decide +kernel : decode cN10 62 = .ok (.aload_n 0, 1)) rfl h0 ?_
  refine lv_aload_n C.1 C.2.1 (by decide +kernel : decode cN10 63 = .ok (.aload_n 1, 1)) rfl (lv_at hl 1 rfl) ?_
  refine nx_put C (Or.inl hin2) K fd_10_0_41 rfl rfl (Nat.le_of_ble_eq_true rfl) (by decide +kernel) (fun H locs K => ?_)
  have K : NH D (AN q sz) s.heap H locs ((q, .inr (10, [.ref a1, .null, .int (Int32.ofInt (1)), .ref sz, .ref (sz + 1), .ref (sz + 2), .ref (sz + 3), .ref (sz + 4), .ref (sz + 5), .ref (sz + 6)])) :: (([] : va_W) ++ [(sz, .inl (cI, a0Of .int 4))] ++ [((sz + 1), .inl (cI, a0Of .int 4))] ++ [((sz + 2), .inl (cI, a0Of .int 5))] ++ [((sz + 3), .inl (cI, a0Of .int 5))] ++ [((sz + 4), .inl (cI, a0Of .int 5))] ++ [((sz + 5), .inl (cI, a0Of .int 4))] ++ ((sz + 6), .inr (6, fsN6 (sz + 7))) :: wnN6 cI cJ cZ (sz + 7))) (sz + 10) := K
  refine lv_aload_n C.1 C.2.1 (by decide +kernel : decode cN10 67 = .ok (.aload_n 0, 1)) rfl h0 ?_
  refine lv_aload_n C.1 C.2.1 (by decide +kernel : decode cN10 68 = .ok (.aload_n 2, 1)) rfl (lv_at hl 2 rfl) ?_
  refine nx_put C (Or.inl hin2) K fd_10_1_45 rfl rfl (Nat.le_of_ble_eq_true rfl) (by decide +kernel) (fun H locs K => ?_)
  have K : NH D (AN q sz) s.heap H locs ((q, .inr (10, [.ref a1, .ref a2, .int (Int32.ofInt (1)), .ref sz, .ref (sz + 1), .ref (sz + 2), .ref (sz + 3), .ref (sz + 4), .ref (sz + 5), .ref (sz + 6)])) :: (([] : va_W) ++ [(sz, .inl (cI, a0Of .int 4))] ++ [((sz + 1), .inl (cI, a0Of .int 4))] ++ [((sz + 2), .inl (cI, a0Of .int 5))] ++ [((sz + 3), .inl (cI, a0Of .int 5))] ++ [((sz + 4), .inl (cI, a0Of .int 5))] ++ [((sz + 5), .inl (cI, a0Of .int 4))] ++ ((sz + 6), .inr (6, fsN6 (sz + 7))) :: wnN6 cI cJ cZ (sz + 7))) (sz + 10) := K
  refine W.widen (k := 10) (n := 44) (Nat.le_of_ble_eq_true rfl) (Nat.le_of_ble_eq_true rfl) ?_
  exact nx_ret C hrt hlk hsz K (by decide +kernel)
def yN3 : MethodName := ⟨"FarKeys$LandReader", "<init>", "(LFarKeys$Tape;)V"⟩
def cN3 : ByteArray := prog_5_method_1_code
theorem cw_3 : Cond.code yN3 cN3 2 none ∈ G := mG 139 rfl rfl
theorem cm_3 : Cond.instanceMethod yN3 ∈ G := mG 138 (by decide +kernel) rfl
theorem cz_3 : Cond.initialized (clE 3).1 ∈ G := mG 82 (by decide +kernel) rfl
theorem ct_3 : Cond.instantiable (clE 3).1 (clE 3).2.2 ∈ G := mG 136 (by decide +kernel) rfl
theorem fz_3 : fzC 3 = [.null, .null, .null] := by decide +kernel
def fsN3 (a1 : Nat) (sz : Nat) : List Value := [.ref a1, .ref sz, .ref (sz + 8)]
theorem fd_3_1_12 : FDo 3 1 12 := ⟨⟨by decide, by decide⟩, mG 225 (by decide +kernel) rfl, by decide +kernel⟩
theorem fd_3_2_18 : FDo 3 2 18 := ⟨⟨by decide, by decide⟩, mG 227 (by decide +kernel) rfl, by decide +kernel⟩
theorem fd_3_0_22 : FDo 3 0 22 := ⟨⟨by decide, by decide⟩, mG 224 (by decide +kernel) rfl, by decide +kernel⟩
def wnN3 (cI cJ cZ : ClassId) (sz : Nat) : va_W := ([] : va_W) ++ (sz, .inr (2, fsN2 (sz + 1))) :: wnN2 cI cJ cZ (sz + 1) ++ [((sz + 8), .inl (cI, a0Of .int 4))]
set_option maxHeartbeats 4000000 in
set_option maxRecDepth 20000 in
theorem c_N3 (l : Launch) (D : va_G) (cI cJ cZ : ClassId) (q sz : Nat) (a1 : Nat) : MN l D cI cJ cZ 3 yN3 cN3 2 2 32 9 67 [.ref a1] q sz (fsN3 a1 sz) (wnN3 cI cJ cZ sz) := by
  refine nx_ofW (by decide +kernel) rfl ?_
  intro p e s m below meth c C hin2 hrt hlk hsz K hA
  have C : GN D cI cJ cZ (clE 3).1 cN3 2 p s m _ c := C
  have hl := lv_entry ([.ref q, .ref a1]) (n := 2) (Nat.le_of_ble_eq_true rfl)
  rw [lg_entry_eq]
  generalize (lg_sl ([.ref q, .ref a1]) ++ List.replicate (2 - (lg_sl ([.ref q, .ref a1])).length) Slot.unset).toArray = ls at hl ⊢
  have hl : lv_has ls 2 [(0, .ref q), (1, .ref a1)] := hl
  have h0 := lv_at hl 0 rfl
  rw [fz_3] at K
  refine nx_obj (idx := 3) C h0 hl.1 (mG 140 (by decide +kernel) rfl) (by decide +kernel) (by decide +kernel) ⟨Nat.le_of_ble_eq_true rfl, Nat.le_of_ble_eq_true rfl⟩ ?_
  refine lv_aload_n C.1 C.2.1 (by decide +kernel : decode cN3 4 = .ok (.aload_n 0, 1)) rfl h0 ?_
  refine nx_new (cj := 2) (index := 9) C K hA (by decide) (mG 141 (by decide +kernel) rfl) ct_2 cz_2 (N := 15) rfl (Nat.le_of_ble_eq_true rfl) (Nat.le_of_ble_eq_true rfl) (by decide +kernel) (fun H K => ?_)
  have K : NH D (AN q sz) s.heap H [] (((q, .inr (3, [.null, .null, .null])) :: (([] : va_W))) ++ [(sz, .inr (2, fzC 2))]) (sz + 1) := K
  have K1 : NH D (AN q sz) s.heap H [] ((q, .inr (3, [.null, .null, .null])) :: (([] : va_W) ++ [(sz, .inr (2, fzC 2))])) (sz + 1) := K
  refine lv_dup C.1 C.2.1 (by decide +kernel : decode cN3 8 = .ok (.dup, 1)) rfl ?_
  refine nx_call (ws := ((q, .inr (3, [.null, .null, .null])) :: (([] : va_W)))) K hA (nx_runN (index := 11) (As := []) C K (c_N2 l D cI cJ cZ sz (sz + 1) ) cw_2 (by decide +kernel) cz_2 cm_2 ⟨rfl, by decide +kernel, by decide +kernel, by decide +kernel⟩ ⟨Nat.le_of_ble_eq_true rfl, Nat.le_of_ble_eq_true rfl⟩ hl.1 rfl (Nat.le_of_ble_eq_true rfl) (by decide +kernel) ⟨Nat.le_of_ble_eq_true rfl, Nat.le_of_ble_eq_true rfl⟩) (fun H locs K => ?_)
  have K : NH D (AN q sz) s.heap H locs ((q, .inr (3, [.null, .null, .null])) :: (([] : va_W) ++ (sz, .inr (2, fsN2 (sz + 1))) :: wnN2 cI cJ cZ (sz + 1))) (sz + 8) := K
  refine nx_put C (Or.inl hin2) K fd_3_1_12 rfl rfl (Nat.le_of_ble_eq_true rfl) (by decide +kernel) (fun H locs K => ?_)
  have K : NH D (AN q sz) s.heap H locs ((q, .inr (3, [.null, .ref sz, .null])) :: (([] : va_W) ++ (sz, .inr (2, fsN2 (sz + 1))) :: wnN2 cI cJ cZ (sz + 1))) (sz + 8) := K
  refine nx_na C hin2 K hA h0 1 4 2 18 .int rfl (by decide +kernel) fd_3_2_18 (fun _ => ⟨rfl, rfl⟩) (Nat.le_of_ble_eq_true rfl) ⟨Nat.le_of_ble_eq_true rfl, Nat.le_of_ble_eq_true rfl⟩ (fun H locs K => ?_)
  have K : NH D (AN q sz) s.heap H locs ((q, .inr (3, [.null, .ref sz, .ref (sz + 8)])) :: (([] : va_W) ++ (sz, .inr (2, fsN2 (sz + 1))) :: wnN2 cI cJ cZ (sz + 1) ++ [((sz + 8), .inl (cI, a0Of .int 4))])) (sz + 9) := K
  refine lv_aload_n C.1 C.2.1 (by decide +kernel : decode cN3 22 = .ok (.aload_n 0, 1)) rfl h0 ?_
  refine lv_aload_n C.1 C.2.1 (by decide +kernel : decode cN3 23 = .ok (.aload_n 1, 1)) rfl (lv_at hl 1 rfl) ?_
  refine nx_put C (Or.inl hin2) K fd_3_0_22 rfl rfl (Nat.le_of_ble_eq_true rfl) (by decide +kernel) (fun H locs K => ?_)
  have K : NH D (AN q sz) s.heap H locs ((q, .inr (3, [.ref a1, .ref sz, .ref (sz + 8)])) :: (([] : va_W) ++ (sz, .inr (2, fsN2 (sz + 1))) :: wnN2 cI cJ cZ (sz + 1) ++ [((sz + 8), .inl (cI, a0Of .int 4))])) (sz + 9) := K
  refine W.widen (k := 9) (n := 67) (Nat.le_of_ble_eq_true rfl) (Nat.le_of_ble_eq_true rfl) ?_
  exact nx_ret C hrt hlk hsz K (by decide +kernel)
def yN4 : MethodName := ⟨"FarKeys$PlanReader", "<init>", "(LFarKeys$Tape;)V"⟩
def cN4 : ByteArray := prog_6_method_1_code
theorem cw_4 : Cond.code yN4 cN4 2 none ∈ G := mG 239 rfl rfl
theorem cm_4 : Cond.instanceMethod yN4 ∈ G := mG 238 (by decide +kernel) rfl
theorem cz_4 : Cond.initialized (clE 4).1 ∈ G := mG 84 (by decide +kernel) rfl
theorem ct_4 : Cond.instantiable (clE 4).1 (clE 4).2.2 ∈ G := mG 236 (by decide +kernel) rfl
theorem fz_4 : fzC 4 = [.null, .null, .int 0, .int 0, .int 0, .int 0] := by decide +kernel
def fsN4 (a1 : Nat) (sz : Nat) : List Value := [.ref a1, .ref sz, .int 0, .int 0, .int 0, .int 0]
theorem fd_4_1_9 : FDo 4 1 9 := ⟨⟨by decide, by decide⟩, mG 242 (by decide +kernel) rfl, by decide +kernel⟩
theorem fd_4_0_15 : FDo 4 0 15 := ⟨⟨by decide, by decide⟩, mG 241 (by decide +kernel) rfl, by decide +kernel⟩
def wnN4 (cI cJ cZ : ClassId) (sz : Nat) : va_W := ([] : va_W) ++ [(sz, .inl (cI, a0Of .int 160))]
set_option maxHeartbeats 4000000 in
set_option maxRecDepth 20000 in
theorem c_N4 (l : Launch) (D : va_G) (cI cJ cZ : ClassId) (q sz : Nat) (a1 : Nat) : MN l D cI cJ cZ 4 yN4 cN4 2 1 12 1 160 [.ref a1] q sz (fsN4 a1 sz) (wnN4 cI cJ cZ sz) := by
  refine nx_ofW (by decide +kernel) rfl ?_
  intro p e s m below meth c C hin2 hrt hlk hsz K hA
  have C : GN D cI cJ cZ (clE 4).1 cN4 2 p s m _ c := C
  have hl := lv_entry ([.ref q, .ref a1]) (n := 2) (Nat.le_of_ble_eq_true rfl)
  rw [lg_entry_eq]
  generalize (lg_sl ([.ref q, .ref a1]) ++ List.replicate (2 - (lg_sl ([.ref q, .ref a1])).length) Slot.unset).toArray = ls at hl ⊢
  have hl : lv_has ls 2 [(0, .ref q), (1, .ref a1)] := hl
  have h0 := lv_at hl 0 rfl
  rw [fz_4] at K
  refine nx_obj (idx := 3) C h0 hl.1 (mG 240 (by decide +kernel) rfl) (by decide +kernel) (by decide +kernel) ⟨Nat.le_of_ble_eq_true rfl, Nat.le_of_ble_eq_true rfl⟩ ?_
  refine nx_na C hin2 K hA h0 3 160 1 9 .int rfl (by decide +kernel) fd_4_1_9 (fun _ => ⟨rfl, rfl⟩) (Nat.le_of_ble_eq_true rfl) ⟨Nat.le_of_ble_eq_true rfl, Nat.le_of_ble_eq_true rfl⟩ (fun H locs K => ?_)
  have K : NH D (AN q sz) s.heap H locs ((q, .inr (4, [.null, .ref sz, .int 0, .int 0, .int 0, .int 0])) :: (([] : va_W) ++ [(sz, .inl (cI, a0Of .int 160))])) (sz + 1) := K
  refine lv_aload_n C.1 C.2.1 (by decide +kernel : decode cN4 13 = .ok (.aload_n 0, 1)) rfl h0 ?_
  refine lv_aload_n C.1 C.2.1 (by decide +kernel : decode cN4 14 = .ok (.aload_n 1, 1)) rfl (lv_at hl 1 rfl) ?_
  refine nx_put C (Or.inl hin2) K fd_4_0_15 rfl rfl (Nat.le_of_ble_eq_true rfl) (by decide +kernel) (fun H locs K => ?_)
  have K : NH D (AN q sz) s.heap H locs ((q, .inr (4, [.ref a1, .ref sz, .int 0, .int 0, .int 0, .int 0])) :: (([] : va_W) ++ [(sz, .inl (cI, a0Of .int 160))])) (sz + 1) := K
  refine W.widen (k := 1) (n := 160) (Nat.le_of_ble_eq_true rfl) (Nat.le_of_ble_eq_true rfl) ?_
  exact nx_ret C hrt hlk hsz K (by decide +kernel)
