/-! FarKeys.sign: its contract -/
theorem dSg_0 : decode cSg 0 = .ok (.aload_n 0, 1) := by decide +kernel
theorem dSg_1 : decode cSg 1 = .ok (.iload_n 1, 1) := by decide +kernel
theorem dSg_2 : decode cSg 2 = .ok (.invokevirtual 119, 3) := by decide +kernel
theorem dSg_5 : decode cSg 5 = .ok (.ifCond .eq 12, 3) := by decide +kernel
theorem dSg_8 : decode cSg 8 = .ok (.iload_n 2, 1) := by decide +kernel
theorem dSg_9 : decode cSg 9 = .ok (.ifCond .lt 8, 3) := by decide +kernel
theorem dSg_12 : decode cSg 12 = .ok (.iload_n 2, 1) := by decide +kernel
theorem dSg_13 : decode cSg 13 = .ok (.iconst 3, 1) := by decide +kernel
theorem dSg_14 : decode cSg 14 = .ok (.if_icmp .le 13, 3) := by decide +kernel
theorem dSg_17 : decode cSg 17 = .ok (.new 123, 3) := by decide +kernel
theorem dSg_20 : decode cSg 20 = .ok (.dup, 1) := by decide +kernel
theorem dSg_21 : decode cSg 21 = .ok (.ldc 125, 2) := by decide +kernel
theorem dSg_23 : decode cSg 23 = .ok (.invokespecial 127, 3) := by decide +kernel
theorem dSg_26 : decode cSg 26 = .ok (.athrow, 1) := by decide +kernel
theorem dSg_27 : decode cSg 27 = .ok (.iload_n 2, 1) := by decide +kernel
theorem dSg_28 : decode cSg 28 = .ok (.tableswitch 58 0 2 #[28, 38, 48], 28) := by decide +kernel
theorem dSg_56 : decode cSg 56 = .ok (.aload_n 0, 1) := by decide +kernel
theorem dSg_57 : decode cSg 57 = .ok (.getfield 42, 3) := by decide +kernel
theorem dSg_60 : decode cSg 60 = .ok (.getfield 130, 3) := by decide +kernel
theorem dSg_63 : decode cSg 63 = .ok (.iload_n 1, 1) := by decide +kernel
theorem dSg_64 : decode cSg 64 = .ok (.iaload, 1) := by decide +kernel
theorem dSg_65 : decode cSg 65 = .ok (.ireturn, 1) := by decide +kernel
theorem dSg_66 : decode cSg 66 = .ok (.aload_n 0, 1) := by decide +kernel
theorem dSg_67 : decode cSg 67 = .ok (.getfield 42, 3) := by decide +kernel
theorem dSg_70 : decode cSg 70 = .ok (.getfield 133, 3) := by decide +kernel
theorem dSg_73 : decode cSg 73 = .ok (.iload_n 1, 1) := by decide +kernel
theorem dSg_74 : decode cSg 74 = .ok (.iaload, 1) := by decide +kernel
theorem dSg_75 : decode cSg 75 = .ok (.ireturn, 1) := by decide +kernel
theorem dSg_76 : decode cSg 76 = .ok (.aload_n 0, 1) := by decide +kernel
theorem dSg_77 : decode cSg 77 = .ok (.getfield 42, 3) := by decide +kernel
theorem dSg_80 : decode cSg 80 = .ok (.getfield 136, 3) := by decide +kernel
theorem dSg_83 : decode cSg 83 = .ok (.iload_n 1, 1) := by decide +kernel
theorem dSg_84 : decode cSg 84 = .ok (.iaload, 1) := by decide +kernel
theorem dSg_85 : decode cSg 85 = .ok (.ireturn, 1) := by decide +kernel
theorem dSg_86 : decode cSg 86 = .ok (.aload_n 0, 1) := by decide +kernel
theorem dSg_87 : decode cSg 87 = .ok (.getfield 42, 3) := by decide +kernel
theorem dSg_90 : decode cSg 90 = .ok (.getfield 139, 3) := by decide +kernel
theorem dSg_93 : decode cSg 93 = .ok (.iload_n 1, 1) := by decide +kernel
theorem dSg_94 : decode cSg 94 = .ok (.iaload, 1) := by decide +kernel
theorem dSg_95 : decode cSg 95 = .ok (.ireturn, 1) := by decide +kernel
section SGC
variable {w : Wd} {l : Launch} {S : St} {sa : Nat}
theorem sg_in {w : Wd} {q : Nat} : q < nC → inA w (w.2.1 q) := fun h => ⟨q, h, rfl⟩
set_option maxHeartbeats 4000000 in
theorem c_sg (hlt : l.stackTraces = false) (hA : adOk w) (hC : Can S) (hR : Rel S S) (a b : Int) (ha : i32 a = a) (hb : i32 b = b) : vx_Met l ySg wsSg rmSg (PcS w S sa [.inr (.inr 40), .inl a, .inl b]) (Qcf w (QSg S a b)) (XSg w S a b) 1 6 (inA w) := by
  refine vx_ofW (cc := cSg) (maxL := 3) (ret := some .int) (by decide +kernel) rfl ?_
  intro p e s m args below meth c s₁ B hml htab hv
  obtain ⟨rfl, hK, hWo, hKt⟩ := hv
  have hts := atoms_spec (ws := wsSg) B.pre
  have hown : s.vm.findClass "FarKeys" = some m.cls := findClass_of_methodNamed B.named
  have C : GX w "FarKeys" cSg 3 p s m _ c := ⟨B.exec, B.bytes, hml, hown, fun q hq => hts q (List.mem_cons_of_mem _ hq), hK, hA⟩
  have hlk := B.notSynchronized
  have hrt := B.returns
  have hat : ∀ q ∈ aSg, q.before (([.inr (.inr 40), .inl a, .inl b] : List AV).map (cv w.2.1)).toArray s = true := fun q hq => by
    rcases sg_at q hq with h | h
    · exact C.2.2.2.2.1 q h
    · exact va_Nw.use (nw_on q h) (hKt.2.2.2 q h)
  have hl := lv_entry (([.inr (.inr 40), .inl a, .inl b] : List AV).map (cv w.2.1)) (n := 3) (Nat.le_of_ble_eq_true rfl)
  rw [lg_entry_eq]
  generalize (lg_sl (([.inr (.inr 40), .inl a, .inl b] : List AV).map (cv w.2.1)) ++ List.replicate (3 - (lg_sl (([.inr (.inr 40), .inl a, .inl b] : List AV).map (cv w.2.1))).length) Slot.unset).toArray = ls at hl ⊢
  have hl : lv_has ls 3 [(0, .ref (w.2.1 40)), (1, .int (Int32.ofInt a)), (2, .int (Int32.ofInt b))] := hl
  have hthrow : ∀ (H : Heap) (locs : List Loc), GH w s H locs S → ¬ okSg S a b → W p l e (headSpec wsSg rmSg).room s m (([.inr (.inr 40), .inl a, .inl b] : List AV).map (cv w.2.1)).toArray below meth c H locs 0 0 (vx_MQ below (Qcf w (QSg S a b)) (XSg w S a b) (([.inr (.inr 40), .inl a, .inl b] : List AV).map (cv w.2.1)).toArray s 1 6 (inA w)) (F0 m 17 ls []) := by
    intro H locs K hno
    refine sg_throw (cc := cSg) (sa := sa) (A := inA w) C.1 C.2.1 hlt hown (C.2.2.2.2.1 _ (mG 1263 (by decide +kernel) rfl)) (C.2.2.2.2.1 _ (mG 97 (by decide +kernel) rfl)) hKt.2.2.1 hat hKt.1 hKt.2.1 K.2.2 (hl.1.trans hml.symm) dSg_17 dSg_20 dSg_21 dSg_23 dSg_26 (fun x hx => (htab x hx).elim) (by show 5 < 6; omega) (by show 0 + 82 ≤ 82; omega) (by show 0 + 1 ≤ 1; omega) (by show 0 + 6 ≤ 6; omega) hlk ?_ K.2.2.2.2 (by omega) (by omega)
    intro t hal hz hk
    refine ⟨rfl, hno, ?_, Nat.le_trans K.2.2.1 hz, fun q h1 h2 => (hk q (Nat.lt_of_lt_of_le h1 K.2.2.1)).trans (K.2.2.2.1 q h1 h2)⟩
    exact va_P.kept K.1 (fun k x hx => hk x.1 (vx_lt K.1 hx))
  refine lv_aload_n C.1 C.2.1 dSg_0 rfl (lv_at hl 0 rfl) ?_
  refine lv_iload_n C.1 C.2.1 dSg_1 rfl (lv_at hl 1 rfl) ?_
  refine gx_callV (R := (headSpec wsSg rmSg).room) (own := "FarKeys") (cc := cSg) (nL := 3) (ks := _) (as := [(.inl a : AV)]) (rest := []) (c0 := 40) (g := H_X_isSign) (Q' := fun r S' => S' = S ∧ (((¬ S 0 18 = 0 ∧ 0 ≤ a ∧ a < S 0 20) ∧ r = some (.inl 1)) ∨ (¬ (¬ S 0 18 = 0 ∧ 0 ≤ a ∧ a < S 0 20) ∧ r = some (.inl 0)))) C ⟨hWo, hC, va_S.rf⟩ hl.1 ⟨Nat.zero_le _, Nat.zero_le _⟩ ho_130 (by decide) (show shp 40 = .inl (H_X_isSign.1, _) from rfl) (mG 754 (by decide +kernel) rfl) dSg_2 ⟨by decide, by decide⟩ rfl (by decide) (cnS_c ha (fun _ z => absurd z List.not_mem_nil)) (t_xSign S S a _ hR.1 (fun h => ⟨rfl, Or.inl ⟨h, rfl⟩⟩) (fun h => ⟨rfl, Or.inr ⟨h, rfl⟩⟩)) ?_
  rintro r S' H locs ⟨rfl, hr⟩ hcn K
  rcases hr with ⟨hok, rfl⟩ | ⟨hno, rfl⟩
  · refine lv_if_eq (tgt := 17) C.1 C.2.1 dSg_5 rfl (fun z => absurd z (by decide)) (fun _ => ?_)
    refine lv_iload_n C.1 C.2.1 dSg_8 rfl (lv_at hl 2 rfl) ?_
    refine lv_if_lt (tgt := 17) C.1 C.2.1 dSg_9 rfl (fun z => ?_) (fun z => ?_)
    · exact hthrow H locs K (fun q => absurd ((lt32 hb c0).mp z) (by have := q.2.1; omega))
    have b0 : ¬ b < 0 := fun q => z ((lt32 hb c0).mpr q)
    refine lv_iload_n C.1 C.2.1 dSg_12 rfl (lv_at hl 2 rfl) ?_
    refine lv_iconst (v := Int32.ofInt 3) C.1 C.2.1 dSg_13 rfl ?_
    refine lv_icmp_le (tgt := 27) C.1 C.2.1 dSg_14 rfl (fun z2 => ?_) (fun z2 => hthrow H locs K (fun q => z2 ((le32 hb rfl).mpr q.2.2)))
    have b3 : b ≤ 3 := (le32 hb rfl).mp z2
    have hsg : okSg S' a b := ⟨hok, by omega, b3⟩
    have hld := hR.1.2.2.1.2 hok.1
    have hg5 : S' 0 20 ≤ 5 := (hR.1.1.1 hok.1).2.1.2
    have hv4 := hld.2.1 a hok.2.1 hok.2.2
    refine lv_iload_n C.1 C.2.1 dSg_27 rfl (lv_at hl 2 rfl) ?_
    have hbb : b = 0 ∨ b = 1 ∨ b = 2 ∨ b = 3 := by omega
    have hend : ∀ (pc c1 : Nat) (k : Int), decode cSg pc = .ok (.ireturn, 1) → S' c1 a = aM_sign S' a b → i32 (S' c1 a) = S' c1 a → W p l e (headSpec wsSg rmSg).room s m (([.inr (.inr 40), .inl a, .inl b] : List AV).map (cv w.2.1)).toArray below meth c H locs 0 0 (vx_MQ below (Qcf w (QSg S' a b)) (XSg w S' a b) (([.inr (.inr 40), .inl a, .inl b] : List AV).map (cv w.2.1)).toArray s 1 6 (inA w)) (F0 m pc ls [.int (Int32.ofInt (S' c1 a))]) := by
      intro pc c1 k hd he hc
      refine W.widen (k := 1) (n := 6) (Nat.zero_le _) (Nat.zero_le _) ?_
      refine vx_ret ?_
      refine W.iret C.1 C.2.1 hrt (fun t ht hW => ?_) K.2.2.2.2 hd hlk
      exact ⟨⟨some (.inl (S' c1 a)), S', ⟨by rw [he], rfl, hsg⟩, rfl, K.2.1, fun v z => by cases z; exact hc, by rw [ht]; exact K.1, hW.alike⟩, K.2.2.F ht⟩
    rcases hbb with rfl | rfl | rfl | rfl
    · refine lv_tableIn (off := 28) (tgt := 56) C.1 C.2.1 dSg_28 (by decide) (by decide) rfl rfl ?_
      refine lv_aload_n C.1 C.2.1 dSg_56 rfl (lv_at hl 0 rfl) ?_
      refine gx_get (ci := 11) (j := 4) (c0 := 40) C K dSg_57 (mG 549 (by decide +kernel) rfl) (by decide) (by decide) ?_
      refine gx_get (ci := 2) (j := 10) (c0 := 63) C K dSg_60 (mG 181 (by decide +kernel) rfl) (by decide) (by decide) ?_
      refine lv_iload_n C.1 C.2.1 dSg_63 rfl (lv_at hl 1 rfl) ?_
      refine gx_iald (c0 := 66) (n := 5) (k := 5) C K rfl ha ⟨hok.2.1, by omega⟩ dSg_64 ?_
      exact hend 65 66 0 dSg_65 (by unfold aM_sign; rw [if_pos rfl]; exact hv4.1) (Can_I K.2.1 (show shp 66 = .inr (0, 5, 5) from rfl) a)
    · refine lv_tableIn (off := 38) (tgt := 66) C.1 C.2.1 dSg_28 (by decide) (by decide) rfl rfl ?_
      refine lv_aload_n C.1 C.2.1 dSg_66 rfl (lv_at hl 0 rfl) ?_
      refine gx_get (ci := 11) (j := 4) (c0 := 40) C K dSg_67 (mG 549 (by decide +kernel) rfl) (by decide) (by decide) ?_
      refine gx_get (ci := 2) (j := 11) (c0 := 63) C K dSg_70 (mG 184 (by decide +kernel) rfl) (by decide) (by decide) ?_
      refine lv_iload_n C.1 C.2.1 dSg_73 rfl (lv_at hl 1 rfl) ?_
      refine gx_iald (c0 := 67) (n := 5) (k := 5) C K rfl ha ⟨hok.2.1, by omega⟩ dSg_74 ?_
      exact hend 75 67 0 dSg_75 (by unfold aM_sign; rw [if_neg (by decide), if_pos rfl]; exact hv4.2.1) (Can_I K.2.1 (show shp 67 = .inr (0, 5, 5) from rfl) a)
    · refine lv_tableIn (off := 48) (tgt := 76) C.1 C.2.1 dSg_28 (by decide) (by decide) rfl rfl ?_
      refine lv_aload_n C.1 C.2.1 dSg_76 rfl (lv_at hl 0 rfl) ?_
      refine gx_get (ci := 11) (j := 4) (c0 := 40) C K dSg_77 (mG 549 (by decide +kernel) rfl) (by decide) (by decide) ?_
      refine gx_get (ci := 2) (j := 12) (c0 := 63) C K dSg_80 (mG 186 (by decide +kernel) rfl) (by decide) (by decide) ?_
      refine lv_iload_n C.1 C.2.1 dSg_83 rfl (lv_at hl 1 rfl) ?_
      refine gx_iald (c0 := 68) (n := 5) (k := 5) C K rfl ha ⟨hok.2.1, by omega⟩ dSg_84 ?_
      exact hend 85 68 0 dSg_85 (by unfold aM_sign; rw [if_neg (by decide), if_neg (by decide), if_pos rfl]; exact hv4.2.2.1) (Can_I K.2.1 (show shp 68 = .inr (0, 5, 5) from rfl) a)
    · refine lv_tableOut (tgt := 86) C.1 C.2.1 dSg_28 (by decide) rfl ?_
      refine lv_aload_n C.1 C.2.1 dSg_86 rfl (lv_at hl 0 rfl) ?_
      refine gx_get (ci := 11) (j := 4) (c0 := 40) C K dSg_87 (mG 549 (by decide +kernel) rfl) (by decide) (by decide) ?_
      refine gx_get (ci := 2) (j := 13) (c0 := 63) C K dSg_90 (mG 189 (by decide +kernel) rfl) (by decide) (by decide) ?_
      refine lv_iload_n C.1 C.2.1 dSg_93 rfl (lv_at hl 1 rfl) ?_
      refine gx_iald (c0 := 69) (n := 5) (k := 5) C K rfl ha ⟨hok.2.1, by omega⟩ dSg_94 ?_
      exact hend 95 69 0 dSg_95 (by unfold aM_sign; rw [if_neg (by decide), if_neg (by decide), if_neg (by decide)]; exact hv4.2.2.2) (Can_I K.2.1 (show shp 69 = .inr (0, 5, 5) from rfl) a)
  · refine lv_if_eq (tgt := 17) C.1 C.2.1 dSg_5 rfl (fun _ => ?_) (fun z => absurd rfl z)
    exact hthrow H locs K (fun q => hno q.1)
end SGC
