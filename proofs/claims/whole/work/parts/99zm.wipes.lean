/-! the reference's constructor; what it wipes -/
def yW : MethodName := ⟨"FarKeysModel", "wipes", "()V"⟩
def cW : ByteArray := H_M_wipes.2.2.1
def AW (ws : va_W) : Nat → Prop := fun x => ∃ (k : Nat) (y : va_E), ws[k]? = some (x, y)
def PW (D : va_G) (cI cJ cZ : ClassId) (q : Nat) (V : va_W) (sz : Nat) : Array Value → State → Prop := va_Pc [.ref q] (fun U => U.heap.size = sz ∧ va_P D vwCl V U.heap ∧ va_D (AW V) V ∧ KN D cI cJ cZ U)
def QW (D : va_G) (V V' : va_W) (sz : Nat) : Array Value → State → Outcome → State → Prop := fun _ st o t => (o = .returned none ∧ va_P D vwCl V' t.heap ∧ va_D (AW V) V' ∧ t.heap.size = sz) ∧ va_F (AW V) st t
theorem PW_blind {D : va_G} {cI cJ cZ : ClassId} {q : Nat} {V : va_W} {sz : Nat} : FrameBlind (PW D cI cJ cZ q V sz) := fun a U g mk h => ⟨h.1, h.2.1, h.2.2.1, h.2.2.2.1, KN_same (U := U) (V := U.calling g mk a) rfl h.2.2.2.2⟩
def m1A (cI : ClassId) (N : Nat) : va_E := .inl (cI, N, .inl (fun _ => Int32.ofInt (-1)))
section WPA
variable {p : Program} {l : Launch} {e : Env} {R : Room} {s : State} {m : MethodId} {args : Array Value} {below : List Frame} {meth : Method} {c : Code} {Q : State → Prop}
variable {D : va_G} {cI cJ cZ : ClassId} {A : Nat → Prop} {H0 H : Heap} {locs : List Loc} {ls : Array Slot} {cells slots n : Nat} {ws : va_W}
/-- for (int g = 0; g < N; g++) this.f[g] = -1; -/
def wpOk (pc ln N index : Nat) : Bool := decide (decode cW pc = .ok (.iload_n 1, 1)) && pshOk cW (pc + 1) (N : Int) ln && decide (decode cW (pc + 1 + ln) = .ok (.if_icmp .ge 16, 3)) && decide (decode cW (pc + 4 + ln) = .ok (.aload_n 0, 1)) && decide (decode cW (pc + 5 + ln) = .ok (.getfield index, 3)) && decide (decode cW (pc + 8 + ln) = .ok (.iload_n 1, 1)) && decide (decode cW (pc + 9 + ln) = .ok (.iconst (-1), 1)) && decide (decode cW (pc + 10 + ln) = .ok (.iastore, 1)) && decide (decode cW (pc + 11 + ln) = .ok (.iinc 1 1, 3)) && decide (decode cW (pc + 14 + ln) = .ok (.goto (-(14 + ln : Int)), 3)) && Nat.blt N 1000
theorem wp_loop {q a1 k kf index pc ln N : Nat} {fs : List Value} (C : GN D cI cJ cZ (clE 12).1 cW 2 p s m args c) (hF : FDo 12 kf index) (hv : fs[kf]? = some (.ref a1)) (hk : k < ws.length) (hok : wpOk pc ln N index = true)
    (kk : ∀ (H1 : Heap) (locs1 : List Loc) (ls1 : Array Slot), NH D A H0 H1 locs1 ((q, .inr (12, fs)) :: ws.set k (a1, m1A cI N)) n → lv_has ls1 2 [(0, .ref q)] → W p l e R s m args below meth c H1 locs1 cells slots Q (F0 m (pc + 17 + ln) ls1 [])) (t : Nat) :
    ∀ (i : Nat) (H : Heap) (locs : List Loc) (ls : Array Slot) (f : Nat → Int32), i + t = N → (∀ j, j < i → f j = Int32.ofInt (-1)) → NH D A H0 H locs ((q, .inr (12, fs)) :: ws.set k (a1, .inl (cI, N, .inl f))) n → lv_has ls 2 [(0, .ref q), (1, .int (Int32.ofInt (i : Int)))] → W p l e R s m args below meth c H locs cells slots Q (F0 m pc ls []) := by
  unfold wpOk at hok
  simp only [Bool.and_eq_true, decide_eq_true_eq] at hok
  obtain ⟨⟨⟨⟨⟨⟨⟨⟨⟨⟨d0, d1⟩, d2⟩, d3⟩, d4⟩, d5⟩, d6⟩, d7⟩, d8⟩, d9⟩, d10⟩ := hok
  have d10 : N < 1000 := Nat.ble_eq.mp d10
  have hN : i32 (N : Int) = (N : Int) := i32_id (by omega) (by omega)
  have at' : ∀ (f : Nat → Int32), (((q, .inr (12, fs)) :: ws.set k (a1, .inl (cI, N, .inl f)) : va_W))[k + 1]? = some (a1, .inl (cI, N, .inl f)) := fun f => by
    rw [List.getElem?_cons_succ, List.getElem?_set_self hk]
  induction t with
  | zero =>
    intro i H locs ls f hi hf K hl
    refine lv_iload_n C.1 C.2.1 d0 rfl (lv_at hl 1 rfl) ?_
    refine nx_psh C ln d1 ?_
    have hii : i32 (i : Int) = (i : Int) := i32_id (by omega) (by omega)
    refine lv_icmp_ge (tgt := pc + 17 + ln) C.1 C.2.1 d2 (by omega) (fun _ => ?_) (fun z => absurd ((le32 hN hii).mpr (by omega)) z)
    have K2 := NH_ext (q0 := k + 1) (g := fun _ => Int32.ofInt (-1)) K (at' f) (fun j hj => hf j (by omega))
    rw [List.set_cons_succ, List.set_set] at K2
    exact kk H locs ls K2 (lv_sub hl [0] rfl)
  | succ t ih =>
    intro i H locs ls f hi hf K hl
    refine lv_iload_n C.1 C.2.1 d0 rfl (lv_at hl 1 rfl) ?_
    refine nx_psh C ln d1 ?_
    have hii : i32 (i : Int) = (i : Int) := i32_id (by omega) (by omega)
    refine lv_icmp_ge (tgt := pc + 17 + ln) C.1 C.2.1 d2 (by omega) (fun z => absurd ((le32 hN hii).mp z) (by omega)) (fun _ => ?_)
    rw [show pc + 1 + ln + 3 = pc + 4 + ln by omega]
    refine lv_aload_n C.1 C.2.1 d3 rfl (lv_at hl 0 rfl) ?_
    rw [show pc + 4 + ln + 1 = pc + 5 + ln by omega]
    refine nx_get C K hF hv d4 ?_
    rw [show pc + 5 + ln + 3 = pc + 8 + ln by omega]
    refine lv_iload_n C.1 C.2.1 d5 rfl (lv_at hl 1 rfl) ?_
    rw [show pc + 8 + ln + 1 = pc + 9 + ln by omega]
    refine lv_iconst (v := Int32.ofInt (-1)) C.1 C.2.1 d6 rfl ?_
    rw [show pc + 9 + ln + 1 = pc + 10 + ln by omega]
    refine nx_iast C K (k + 1) (at' f) (vpin hii ⟨by omega, by omega⟩) d7 (fun H locs K => ?_)
    rw [List.set_cons_succ, List.set_set, clamp32 hii (by omega), Int.toNat_natCast] at K
    rw [show pc + 10 + ln + 1 = pc + 11 + ln by omega]
    have e1 : Int32.ofInt (i : Int) + Int32.ofInt 1 = Int32.ofInt ((i + 1 : Nat) : Int) := by rw [← Int32.ofInt_add]; rfl
    refine lv_iinc (v := Int32.ofInt ((i + 1 : Nat) : Int)) (k := 1) C.1 C.2.1 d8 hl rfl e1 (by decide) rfl (fun ls2 hl2 => ?_)
    rw [show pc + 11 + ln + 3 = pc + 14 + ln by omega]
    refine lv_goto (tgt := pc) C.1 C.2.1 d9 (by omega) ?_
    refine ih (i + 1) H locs ls2 (upd f i (Int32.ofInt (-1))) (by omega) (fun j hj => ?_) K (lv_sub hl2 [1, 0] rfl)
    unfold upd
    by_cases h : j = i
    · rw [if_pos h]
    · rw [if_neg h]
      exact hf j (by omega)
end WPA
theorem dW_0 : decode cW 0 = .ok (.aload_n 0, 1) := by decide +kernel
theorem dW_1 : decode cW 1 = .ok (.iconst 0, 1) := by decide +kernel
theorem dW_2 : decode cW 2 = .ok (.putfield 213, 3) := by decide +kernel
theorem dW_5 : decode cW 5 = .ok (.iconst 0, 1) := by decide +kernel
theorem dW_6 : decode cW 6 = .ok (.istore_n 1, 1) := by decide +kernel
theorem dW_25 : decode cW 25 = .ok (.iconst 0, 1) := by decide +kernel
theorem dW_26 : decode cW 26 = .ok (.istore_n 1, 1) := by decide +kernel
theorem dW_46 : decode cW 46 = .ok (.return_, 1) := by decide +kernel
theorem fd_12_18_213 : FDo 12 18 213 := ⟨⟨by decide, by decide⟩, mG 1361 (by decide +kernel) rfl, by decide +kernel⟩
theorem fd_12_25_38 : FDo 12 25 38 := ⟨⟨by decide, by decide⟩, mG 1368 (by decide +kernel) rfl, by decide +kernel⟩
theorem fd_12_30_53 : FDo 12 30 53 := ⟨⟨by decide, by decide⟩, mG 1373 (by decide +kernel) rfl, by decide +kernel⟩
set_option maxHeartbeats 4000000 in
/-- wipes, over any world that holds the model and its two rows -/
theorem c_wp (l : Launch) (D : va_G) (cI cJ cZ : ClassId) (q a1 a2 sz k1 k2 : Nat) (fs : List Value) (ws : va_W) (f1 f2 : Nat → Int32) (hf1 : fs[25]? = some (.ref a1)) (hf2 : fs[30]? = some (.ref a2)) (hfl : 18 < fs.length) (h18 : fs.set 18 (.int 0) = fs) (hk : k1 < ws.length ∧ k2 < ws.length) (h1 : ws.set k1 (a1, .inl (cI, 4, .inl f1)) = ws) (h2 : (ws.set k1 (a1, m1A cI 4)).set k2 (a2, .inl (cI, 20, .inl f2)) = ws.set k1 (a1, m1A cI 4)) :
    Met l yW (Cond.code yW cW 2 none :: G) { frames := 0, cells := 0, slots := 0, locals := 0 } (PW D cI cJ cZ q ((q, .inr (12, fs)) :: ws) sz) (QW D ((q, .inr (12, fs)) :: ws) ((q, .inr (12, fs)) :: (ws.set k1 (a1, m1A cI 4)).set k2 (a2, m1A cI 20)) sz) 0 0 (AW ((q, .inr (12, fs)) :: ws)) := by
  refine Met.ofW (cc := cW) (maxL := 2) (ret := none) (by decide +kernel) rfl ?_
  intro p e s m args below meth c s₁ B hml hv
  obtain ⟨rfl, hsz, hP, hD, hKN⟩ := hv
  have hts := atoms_spec (ws := Cond.code yW cW 2 none :: G) B.pre
  have C : GN D cI cJ cZ (clE 12).1 cW 2 p s m _ c := ⟨B.exec, B.bytes, hml, findClass_of_methodNamed B.named, fun q hq => hts q (List.mem_cons_of_mem _ hq), hKN⟩
  have hrt := B.returns
  have hlk := B.notSynchronized
  have K : NH D (AW ((q, .inr (12, fs)) :: ws)) s.heap s.heap [] ((q, .inr (12, fs)) :: ws) sz := ⟨hP, hD, va_S.rf, hsz⟩
  have hl := lv_entry ([.ref q]) (n := 2) (Nat.le_of_ble_eq_true rfl)
  rw [lg_entry_eq]
  generalize (lg_sl ([.ref q]) ++ List.replicate (2 - (lg_sl ([.ref q])).length) Slot.unset).toArray = ls at hl ⊢
  have hl : lv_has ls 2 [(0, .ref q)] := hl
  refine lv_aload_n C.1 C.2.1 dW_0 rfl (lv_at hl 0 rfl) ?_
  refine lv_iconst (v := 0) C.1 C.2.1 dW_1 (by decide) ?_
  refine nx_put C (Or.inr rfl) K fd_12_18_213 rfl rfl hfl dW_2 (fun H locs K => ?_)
  rw [h18] at K
  refine lv_iconst (v := Int32.ofInt ((0 : Nat) : Int)) C.1 C.2.1 dW_5 rfl ?_
  refine lv_istore_n C.1 C.2.1 dW_6 rfl hl (by decide) rfl (fun ls1 hl1 => ?_)
  refine wp_loop (pc := 7) (ln := 1) (N := 4) (k := k1) (ws := ws) C fd_12_25_38 hf1 hk.1 (by decide +kernel) (fun H locs ls K hl => ?_) 4 0 H locs ls1 f1 rfl (fun j hj => absurd hj (by omega)) (by rw [h1]; exact K) (lv_sub hl1 [1, 0] rfl)
  refine lv_iconst (v := Int32.ofInt ((0 : Nat) : Int)) C.1 C.2.1 dW_25 rfl ?_
  refine lv_istore_n C.1 C.2.1 dW_26 rfl hl (by decide) rfl (fun ls1 hl1 => ?_)
  refine wp_loop (pc := 27) (ln := 2) (N := 20) (k := k2) (ws := ws.set k1 (a1, m1A cI 4)) C fd_12_30_53 hf2 (by rw [List.length_set]; exact hk.2) (by decide +kernel) (fun H locs ls K hl => ?_) 20 0 H locs ls1 f2 rfl (fun j hj => absurd hj (by omega)) (by rw [h2]; exact K) (lv_sub hl1 [1, 0] rfl)
  exact W.vret C.1 C.2.1 hrt (fun t ht hW => ⟨⟨rfl, by rw [ht]; exact K.1, K.2.1, by rw [ht]; exact K.2.2.2⟩, K.2.2.1.F ht⟩) K.2.2.1.2.2 dW_46 hlk
