/-! the heap behind the makings is the first state -/
def VV (B : Nat) (cI cJ cZ : ClassId) : va_W := (((B, .inr (11, fsN11 (B + 1))) :: wnN11 cI cJ cZ (B + 1)) ++ ((B + 91), .inr (12, fsN12 (B + 92))) :: wnN12 cI cJ cZ (B + 92)) ++ [((B + 131), .inl (cJ, a0Of .long 1))]
theorem vv_0 (D : va_G) (B : Nat) (st : Nat → Nat) (cI cJ cZ : ClassId) : (VV B cI cJ cZ)[91]? = some (ad0 B st 0, cellE (w0 D B st cI cJ cZ) 0 S0) := by
  unfold VV
  rw [fl_11]
  rfl
theorem vv_1 (D : va_G) (B : Nat) (st : Nat → Nat) (cI cJ cZ : ClassId) : (VV B cI cJ cZ)[92]? = some (ad0 B st 1, cellE (w0 D B st cI cJ cZ) 1 S0) := by
  unfold VV
  rw [fl_11]
  rfl
theorem vv_2 (D : va_G) (B : Nat) (st : Nat → Nat) (cI cJ cZ : ClassId) : (VV B cI cJ cZ)[93]? = some (ad0 B st 2, cellE (w0 D B st cI cJ cZ) 2 S0) := by
  unfold VV
  rw [fl_11]
  rfl
theorem vv_3 (D : va_G) (B : Nat) (st : Nat → Nat) (cI cJ cZ : ClassId) : (VV B cI cJ cZ)[94]? = some (ad0 B st 3, cellE (w0 D B st cI cJ cZ) 3 S0) := by
  unfold VV
  rw [fl_11]
  rfl
theorem vv_4 (D : va_G) (B : Nat) (st : Nat → Nat) (cI cJ cZ : ClassId) : (VV B cI cJ cZ)[95]? = some (ad0 B st 4, cellE (w0 D B st cI cJ cZ) 4 S0) := by
  unfold VV
  rw [fl_11]
  rfl
theorem vv_5 (D : va_G) (B : Nat) (st : Nat → Nat) (cI cJ cZ : ClassId) : (VV B cI cJ cZ)[96]? = some (ad0 B st 5, cellE (w0 D B st cI cJ cZ) 5 S0) := by
  unfold VV
  rw [fl_11]
  rfl
theorem vv_6 (D : va_G) (B : Nat) (st : Nat → Nat) (cI cJ cZ : ClassId) : (VV B cI cJ cZ)[97]? = some (ad0 B st 6, cellE (w0 D B st cI cJ cZ) 6 S0) := by
  unfold VV
  rw [fl_11]
  rfl
theorem vv_7 (D : va_G) (B : Nat) (st : Nat → Nat) (cI cJ cZ : ClassId) : (VV B cI cJ cZ)[98]? = some (ad0 B st 7, cellE (w0 D B st cI cJ cZ) 7 S0) := by
  unfold VV
  rw [fl_11]
  rfl
theorem vv_8 (D : va_G) (B : Nat) (st : Nat → Nat) (cI cJ cZ : ClassId) : (VV B cI cJ cZ)[99]? = some (ad0 B st 8, cellE (w0 D B st cI cJ cZ) 8 S0) := by
  unfold VV
  rw [fl_11]
  rfl
theorem vv_9 (D : va_G) (B : Nat) (st : Nat → Nat) (cI cJ cZ : ClassId) : (VV B cI cJ cZ)[100]? = some (ad0 B st 9, cellE (w0 D B st cI cJ cZ) 9 S0) := by
  unfold VV
  rw [fl_11]
  rfl
theorem vv_10 (D : va_G) (B : Nat) (st : Nat → Nat) (cI cJ cZ : ClassId) : (VV B cI cJ cZ)[101]? = some (ad0 B st 10, cellE (w0 D B st cI cJ cZ) 10 S0) := by
  unfold VV
  rw [fl_11]
  rfl
theorem vv_11 (D : va_G) (B : Nat) (st : Nat → Nat) (cI cJ cZ : ClassId) : (VV B cI cJ cZ)[102]? = some (ad0 B st 11, cellE (w0 D B st cI cJ cZ) 11 S0) := by
  unfold VV
  rw [fl_11]
  rfl
theorem vv_12 (D : va_G) (B : Nat) (st : Nat → Nat) (cI cJ cZ : ClassId) : (VV B cI cJ cZ)[103]? = some (ad0 B st 12, cellE (w0 D B st cI cJ cZ) 12 S0) := by
  unfold VV
  rw [fl_11]
  rfl
theorem vv_13 (D : va_G) (B : Nat) (st : Nat → Nat) (cI cJ cZ : ClassId) : (VV B cI cJ cZ)[104]? = some (ad0 B st 13, cellE (w0 D B st cI cJ cZ) 13 S0) := by
  unfold VV
  rw [fl_11]
  rfl
theorem vv_14 (D : va_G) (B : Nat) (st : Nat → Nat) (cI cJ cZ : ClassId) : (VV B cI cJ cZ)[105]? = some (ad0 B st 14, cellE (w0 D B st cI cJ cZ) 14 S0) := by
  unfold VV
  rw [fl_11]
  rfl
theorem vv_15 (D : va_G) (B : Nat) (st : Nat → Nat) (cI cJ cZ : ClassId) : (VV B cI cJ cZ)[106]? = some (ad0 B st 15, cellE (w0 D B st cI cJ cZ) 15 S0) := by
  unfold VV
  rw [fl_11]
  rfl
theorem vv_16 (D : va_G) (B : Nat) (st : Nat → Nat) (cI cJ cZ : ClassId) : (VV B cI cJ cZ)[107]? = some (ad0 B st 16, cellE (w0 D B st cI cJ cZ) 16 S0) := by
  unfold VV
  rw [fl_11]
  rfl
theorem vv_17 (D : va_G) (B : Nat) (st : Nat → Nat) (cI cJ cZ : ClassId) : (VV B cI cJ cZ)[108]? = some (ad0 B st 17, cellE (w0 D B st cI cJ cZ) 17 S0) := by
  unfold VV
  rw [fl_11]
  rfl
theorem vv_18 (D : va_G) (B : Nat) (st : Nat → Nat) (cI cJ cZ : ClassId) : (VV B cI cJ cZ)[109]? = some (ad0 B st 18, cellE (w0 D B st cI cJ cZ) 18 S0) := by
  unfold VV
  rw [fl_11]
  rfl
theorem vv_19 (D : va_G) (B : Nat) (st : Nat → Nat) (cI cJ cZ : ClassId) : (VV B cI cJ cZ)[110]? = some (ad0 B st 19, cellE (w0 D B st cI cJ cZ) 19 S0) := by
  unfold VV
  rw [fl_11]
  rfl
theorem vv_20 (D : va_G) (B : Nat) (st : Nat → Nat) (cI cJ cZ : ClassId) : (VV B cI cJ cZ)[111]? = some (ad0 B st 20, cellE (w0 D B st cI cJ cZ) 20 S0) := by
  unfold VV
  rw [fl_11]
  rfl
theorem vv_21 (D : va_G) (B : Nat) (st : Nat → Nat) (cI cJ cZ : ClassId) : (VV B cI cJ cZ)[112]? = some (ad0 B st 21, cellE (w0 D B st cI cJ cZ) 21 S0) := by
  unfold VV
  rw [fl_11]
  rfl
theorem vv_22 (D : va_G) (B : Nat) (st : Nat → Nat) (cI cJ cZ : ClassId) : (VV B cI cJ cZ)[113]? = some (ad0 B st 22, cellE (w0 D B st cI cJ cZ) 22 S0) := by
  unfold VV
  rw [fl_11]
  rfl
theorem vv_23 (D : va_G) (B : Nat) (st : Nat → Nat) (cI cJ cZ : ClassId) : (VV B cI cJ cZ)[114]? = some (ad0 B st 23, cellE (w0 D B st cI cJ cZ) 23 S0) := by
  unfold VV
  rw [fl_11]
  rfl
theorem vv_24 (D : va_G) (B : Nat) (st : Nat → Nat) (cI cJ cZ : ClassId) : (VV B cI cJ cZ)[115]? = some (ad0 B st 24, cellE (w0 D B st cI cJ cZ) 24 S0) := by
  unfold VV
  rw [fl_11]
  rfl
theorem vv_25 (D : va_G) (B : Nat) (st : Nat → Nat) (cI cJ cZ : ClassId) : (VV B cI cJ cZ)[116]? = some (ad0 B st 25, cellE (w0 D B st cI cJ cZ) 25 S0) := by
  unfold VV
  rw [fl_11]
  rfl
theorem vv_26 (D : va_G) (B : Nat) (st : Nat → Nat) (cI cJ cZ : ClassId) : (VV B cI cJ cZ)[117]? = some (ad0 B st 26, cellE (w0 D B st cI cJ cZ) 26 S0) := by
  unfold VV
  rw [fl_11]
  rfl
theorem vv_27 (D : va_G) (B : Nat) (st : Nat → Nat) (cI cJ cZ : ClassId) : (VV B cI cJ cZ)[118]? = some (ad0 B st 27, cellE (w0 D B st cI cJ cZ) 27 S0) := by
  unfold VV
  rw [fl_11]
  rfl
theorem vv_28 (D : va_G) (B : Nat) (st : Nat → Nat) (cI cJ cZ : ClassId) : (VV B cI cJ cZ)[119]? = some (ad0 B st 28, cellE (w0 D B st cI cJ cZ) 28 S0) := by
  unfold VV
  rw [fl_11]
  rfl
theorem vv_29 (D : va_G) (B : Nat) (st : Nat → Nat) (cI cJ cZ : ClassId) : (VV B cI cJ cZ)[120]? = some (ad0 B st 29, cellE (w0 D B st cI cJ cZ) 29 S0) := by
  unfold VV
  rw [fl_11]
  rfl
theorem vv_30 (D : va_G) (B : Nat) (st : Nat → Nat) (cI cJ cZ : ClassId) : (VV B cI cJ cZ)[121]? = some (ad0 B st 30, cellE (w0 D B st cI cJ cZ) 30 S0) := by
  unfold VV
  rw [fl_11]
  rfl
theorem vv_31 (D : va_G) (B : Nat) (st : Nat → Nat) (cI cJ cZ : ClassId) : (VV B cI cJ cZ)[122]? = some (ad0 B st 31, cellE (w0 D B st cI cJ cZ) 31 S0) := by
  unfold VV
  rw [fl_11]
  rfl
theorem vv_32 (D : va_G) (B : Nat) (st : Nat → Nat) (cI cJ cZ : ClassId) : (VV B cI cJ cZ)[123]? = some (ad0 B st 32, cellE (w0 D B st cI cJ cZ) 32 S0) := by
  unfold VV
  rw [fl_11]
  rfl
theorem vv_33 (D : va_G) (B : Nat) (st : Nat → Nat) (cI cJ cZ : ClassId) : (VV B cI cJ cZ)[124]? = some (ad0 B st 33, cellE (w0 D B st cI cJ cZ) 33 S0) := by
  unfold VV
  rw [fl_11]
  rfl
theorem vv_34 (D : va_G) (B : Nat) (st : Nat → Nat) (cI cJ cZ : ClassId) : (VV B cI cJ cZ)[125]? = some (ad0 B st 34, cellE (w0 D B st cI cJ cZ) 34 S0) := by
  unfold VV
  rw [fl_11]
  rfl
theorem vv_35 (D : va_G) (B : Nat) (st : Nat → Nat) (cI cJ cZ : ClassId) : (VV B cI cJ cZ)[126]? = some (ad0 B st 35, cellE (w0 D B st cI cJ cZ) 35 S0) := by
  unfold VV
  rw [fl_11]
  rfl
theorem vv_36 (D : va_G) (B : Nat) (st : Nat → Nat) (cI cJ cZ : ClassId) : (VV B cI cJ cZ)[127]? = some (ad0 B st 36, cellE (w0 D B st cI cJ cZ) 36 S0) := by
  unfold VV
  rw [fl_11]
  rfl
theorem vv_37 (D : va_G) (B : Nat) (st : Nat → Nat) (cI cJ cZ : ClassId) : (VV B cI cJ cZ)[128]? = some (ad0 B st 37, cellE (w0 D B st cI cJ cZ) 37 S0) := by
  unfold VV
  rw [fl_11]
  rfl
theorem vv_38 (D : va_G) (B : Nat) (st : Nat → Nat) (cI cJ cZ : ClassId) : (VV B cI cJ cZ)[129]? = some (ad0 B st 38, cellE (w0 D B st cI cJ cZ) 38 S0) := by
  unfold VV
  rw [fl_11]
  rfl
theorem vv_39 (D : va_G) (B : Nat) (st : Nat → Nat) (cI cJ cZ : ClassId) : (VV B cI cJ cZ)[130]? = some (ad0 B st 39, cellE (w0 D B st cI cJ cZ) 39 S0) := by
  unfold VV
  rw [fl_11]
  rfl
theorem vv_40 (D : va_G) (B : Nat) (st : Nat → Nat) (cI cJ cZ : ClassId) : (VV B cI cJ cZ)[0]? = some (ad0 B st 40, cellE (w0 D B st cI cJ cZ) 40 S0) := by
  unfold VV
  rw [fl_11]
  rfl
theorem vv_41 (D : va_G) (B : Nat) (st : Nat → Nat) (cI cJ cZ : ClassId) : (VV B cI cJ cZ)[37]? = some (ad0 B st 41, cellE (w0 D B st cI cJ cZ) 41 S0) := by
  unfold VV
  rw [fl_11]
  rfl
theorem vv_42 (D : va_G) (B : Nat) (st : Nat → Nat) (cI cJ cZ : ClassId) : (VV B cI cJ cZ)[38]? = some (ad0 B st 42, cellE (w0 D B st cI cJ cZ) 42 S0) := by
  unfold VV
  rw [fl_11]
  rfl
theorem vv_43 (D : va_G) (B : Nat) (st : Nat → Nat) (cI cJ cZ : ClassId) : (VV B cI cJ cZ)[1]? = some (ad0 B st 43, cellE (w0 D B st cI cJ cZ) 43 S0) := by
  unfold VV
  rw [fl_11]
  rfl
theorem vv_44 (D : va_G) (B : Nat) (st : Nat → Nat) (cI cJ cZ : ClassId) : (VV B cI cJ cZ)[2]? = some (ad0 B st 44, cellE (w0 D B st cI cJ cZ) 44 S0) := by
  unfold VV
  rw [fl_11]
  rfl
theorem vv_45 (D : va_G) (B : Nat) (st : Nat → Nat) (cI cJ cZ : ClassId) : (VV B cI cJ cZ)[3]? = some (ad0 B st 45, cellE (w0 D B st cI cJ cZ) 45 S0) := by
  unfold VV
  rw [fl_11]
  rfl
theorem vv_46 (D : va_G) (B : Nat) (st : Nat → Nat) (cI cJ cZ : ClassId) : (VV B cI cJ cZ)[12]? = some (ad0 B st 46, cellE (w0 D B st cI cJ cZ) 46 S0) := by
  unfold VV
  rw [fl_11]
  rfl
theorem vv_47 (D : va_G) (B : Nat) (st : Nat → Nat) (cI cJ cZ : ClassId) : (VV B cI cJ cZ)[4]? = some (ad0 B st 47, cellE (w0 D B st cI cJ cZ) 47 S0) := by
  unfold VV
  rw [fl_11]
  rfl
theorem vv_48 (D : va_G) (B : Nat) (st : Nat → Nat) (cI cJ cZ : ClassId) : (VV B cI cJ cZ)[5]? = some (ad0 B st 48, cellE (w0 D B st cI cJ cZ) 48 S0) := by
  unfold VV
  rw [fl_11]
  rfl
theorem vv_49 (D : va_G) (B : Nat) (st : Nat → Nat) (cI cJ cZ : ClassId) : (VV B cI cJ cZ)[6]? = some (ad0 B st 49, cellE (w0 D B st cI cJ cZ) 49 S0) := by
  unfold VV
  rw [fl_11]
  rfl
theorem vv_50 (D : va_G) (B : Nat) (st : Nat → Nat) (cI cJ cZ : ClassId) : (VV B cI cJ cZ)[7]? = some (ad0 B st 50, cellE (w0 D B st cI cJ cZ) 50 S0) := by
  unfold VV
  rw [fl_11]
  rfl
theorem vv_51 (D : va_G) (B : Nat) (st : Nat → Nat) (cI cJ cZ : ClassId) : (VV B cI cJ cZ)[8]? = some (ad0 B st 51, cellE (w0 D B st cI cJ cZ) 51 S0) := by
  unfold VV
  rw [fl_11]
  rfl
theorem vv_52 (D : va_G) (B : Nat) (st : Nat → Nat) (cI cJ cZ : ClassId) : (VV B cI cJ cZ)[9]? = some (ad0 B st 52, cellE (w0 D B st cI cJ cZ) 52 S0) := by
  unfold VV
  rw [fl_11]
  rfl
theorem vv_53 (D : va_G) (B : Nat) (st : Nat → Nat) (cI cJ cZ : ClassId) : (VV B cI cJ cZ)[10]? = some (ad0 B st 53, cellE (w0 D B st cI cJ cZ) 53 S0) := by
  unfold VV
  rw [fl_11]
  rfl
theorem vv_54 (D : va_G) (B : Nat) (st : Nat → Nat) (cI cJ cZ : ClassId) : (VV B cI cJ cZ)[11]? = some (ad0 B st 54, cellE (w0 D B st cI cJ cZ) 54 S0) := by
  unfold VV
  rw [fl_11]
  rfl
theorem vv_55 (D : va_G) (B : Nat) (st : Nat → Nat) (cI cJ cZ : ClassId) : (VV B cI cJ cZ)[13]? = some (ad0 B st 55, cellE (w0 D B st cI cJ cZ) 55 S0) := by
  unfold VV
  rw [fl_11]
  rfl
theorem vv_56 (D : va_G) (B : Nat) (st : Nat → Nat) (cI cJ cZ : ClassId) : (VV B cI cJ cZ)[14]? = some (ad0 B st 56, cellE (w0 D B st cI cJ cZ) 56 S0) := by
  unfold VV
  rw [fl_11]
  rfl
theorem vv_57 (D : va_G) (B : Nat) (st : Nat → Nat) (cI cJ cZ : ClassId) : (VV B cI cJ cZ)[15]? = some (ad0 B st 57, cellE (w0 D B st cI cJ cZ) 57 S0) := by
  unfold VV
  rw [fl_11]
  rfl
theorem vv_58 (D : va_G) (B : Nat) (st : Nat → Nat) (cI cJ cZ : ClassId) : (VV B cI cJ cZ)[16]? = some (ad0 B st 58, cellE (w0 D B st cI cJ cZ) 58 S0) := by
  unfold VV
  rw [fl_11]
  rfl
theorem vv_59 (D : va_G) (B : Nat) (st : Nat → Nat) (cI cJ cZ : ClassId) : (VV B cI cJ cZ)[17]? = some (ad0 B st 59, cellE (w0 D B st cI cJ cZ) 59 S0) := by
  unfold VV
  rw [fl_11]
  rfl
theorem vv_60 (D : va_G) (B : Nat) (st : Nat → Nat) (cI cJ cZ : ClassId) : (VV B cI cJ cZ)[18]? = some (ad0 B st 60, cellE (w0 D B st cI cJ cZ) 60 S0) := by
  unfold VV
  rw [fl_11]
  rfl
theorem vv_61 (D : va_G) (B : Nat) (st : Nat → Nat) (cI cJ cZ : ClassId) : (VV B cI cJ cZ)[19]? = some (ad0 B st 61, cellE (w0 D B st cI cJ cZ) 61 S0) := by
  unfold VV
  rw [fl_11]
  rfl
theorem vv_62 (D : va_G) (B : Nat) (st : Nat → Nat) (cI cJ cZ : ClassId) : (VV B cI cJ cZ)[20]? = some (ad0 B st 62, cellE (w0 D B st cI cJ cZ) 62 S0) := by
  unfold VV
  rw [fl_11]
  rfl
theorem vv_63 (D : va_G) (B : Nat) (st : Nat → Nat) (cI cJ cZ : ClassId) : (VV B cI cJ cZ)[21]? = some (ad0 B st 63, cellE (w0 D B st cI cJ cZ) 63 S0) := by
  unfold VV
  rw [fl_11]
  rfl
theorem vv_64 (D : va_G) (B : Nat) (st : Nat → Nat) (cI cJ cZ : ClassId) : (VV B cI cJ cZ)[22]? = some (ad0 B st 64, cellE (w0 D B st cI cJ cZ) 64 S0) := by
  unfold VV
  rw [fl_11]
  rfl
theorem vv_65 (D : va_G) (B : Nat) (st : Nat → Nat) (cI cJ cZ : ClassId) : (VV B cI cJ cZ)[23]? = some (ad0 B st 65, cellE (w0 D B st cI cJ cZ) 65 S0) := by
  unfold VV
  rw [fl_11]
  rfl
theorem vv_66 (D : va_G) (B : Nat) (st : Nat → Nat) (cI cJ cZ : ClassId) : (VV B cI cJ cZ)[24]? = some (ad0 B st 66, cellE (w0 D B st cI cJ cZ) 66 S0) := by
  unfold VV
  rw [fl_11]
  rfl
theorem vv_67 (D : va_G) (B : Nat) (st : Nat → Nat) (cI cJ cZ : ClassId) : (VV B cI cJ cZ)[25]? = some (ad0 B st 67, cellE (w0 D B st cI cJ cZ) 67 S0) := by
  unfold VV
  rw [fl_11]
  rfl
theorem vv_68 (D : va_G) (B : Nat) (st : Nat → Nat) (cI cJ cZ : ClassId) : (VV B cI cJ cZ)[26]? = some (ad0 B st 68, cellE (w0 D B st cI cJ cZ) 68 S0) := by
  unfold VV
  rw [fl_11]
  rfl
theorem vv_69 (D : va_G) (B : Nat) (st : Nat → Nat) (cI cJ cZ : ClassId) : (VV B cI cJ cZ)[27]? = some (ad0 B st 69, cellE (w0 D B st cI cJ cZ) 69 S0) := by
  unfold VV
  rw [fl_11]
  rfl
theorem vv_70 (D : va_G) (B : Nat) (st : Nat → Nat) (cI cJ cZ : ClassId) : (VV B cI cJ cZ)[28]? = some (ad0 B st 70, cellE (w0 D B st cI cJ cZ) 70 S0) := by
  unfold VV
  rw [fl_11]
  rfl
theorem vv_71 (D : va_G) (B : Nat) (st : Nat → Nat) (cI cJ cZ : ClassId) : (VV B cI cJ cZ)[29]? = some (ad0 B st 71, cellE (w0 D B st cI cJ cZ) 71 S0) := by
  unfold VV
  rw [fl_11]
  rfl
theorem vv_72 (D : va_G) (B : Nat) (st : Nat → Nat) (cI cJ cZ : ClassId) : (VV B cI cJ cZ)[30]? = some (ad0 B st 72, cellE (w0 D B st cI cJ cZ) 72 S0) := by
  unfold VV
  rw [fl_11]
  rfl
theorem vv_73 (D : va_G) (B : Nat) (st : Nat → Nat) (cI cJ cZ : ClassId) : (VV B cI cJ cZ)[31]? = some (ad0 B st 73, cellE (w0 D B st cI cJ cZ) 73 S0) := by
  unfold VV
  rw [fl_11]
  rfl
theorem vv_74 (D : va_G) (B : Nat) (st : Nat → Nat) (cI cJ cZ : ClassId) : (VV B cI cJ cZ)[32]? = some (ad0 B st 74, cellE (w0 D B st cI cJ cZ) 74 S0) := by
  unfold VV
  rw [fl_11]
  rfl
theorem vv_75 (D : va_G) (B : Nat) (st : Nat → Nat) (cI cJ cZ : ClassId) : (VV B cI cJ cZ)[33]? = some (ad0 B st 75, cellE (w0 D B st cI cJ cZ) 75 S0) := by
  unfold VV
  rw [fl_11]
  rfl
theorem vv_76 (D : va_G) (B : Nat) (st : Nat → Nat) (cI cJ cZ : ClassId) : (VV B cI cJ cZ)[34]? = some (ad0 B st 76, cellE (w0 D B st cI cJ cZ) 76 S0) := by
  unfold VV
  rw [fl_11]
  rfl
theorem vv_77 (D : va_G) (B : Nat) (st : Nat → Nat) (cI cJ cZ : ClassId) : (VV B cI cJ cZ)[35]? = some (ad0 B st 77, cellE (w0 D B st cI cJ cZ) 77 S0) := by
  unfold VV
  rw [fl_11]
  rfl
theorem vv_78 (D : va_G) (B : Nat) (st : Nat → Nat) (cI cJ cZ : ClassId) : (VV B cI cJ cZ)[36]? = some (ad0 B st 78, cellE (w0 D B st cI cJ cZ) 78 S0) := by
  unfold VV
  rw [fl_11]
  rfl
theorem vv_79 (D : va_G) (B : Nat) (st : Nat → Nat) (cI cJ cZ : ClassId) : (VV B cI cJ cZ)[39]? = some (ad0 B st 79, cellE (w0 D B st cI cJ cZ) 79 S0) := by
  unfold VV
  rw [fl_11]
  rfl
theorem vv_80 (D : va_G) (B : Nat) (st : Nat → Nat) (cI cJ cZ : ClassId) : (VV B cI cJ cZ)[40]? = some (ad0 B st 80, cellE (w0 D B st cI cJ cZ) 80 S0) := by
  unfold VV
  rw [fl_11]
  rfl
theorem vv_81 (D : va_G) (B : Nat) (st : Nat → Nat) (cI cJ cZ : ClassId) : (VV B cI cJ cZ)[41]? = some (ad0 B st 81, cellE (w0 D B st cI cJ cZ) 81 S0) := by
  unfold VV
  rw [fl_11]
  rfl
theorem vv_82 (D : va_G) (B : Nat) (st : Nat → Nat) (cI cJ cZ : ClassId) : (VV B cI cJ cZ)[42]? = some (ad0 B st 82, cellE (w0 D B st cI cJ cZ) 82 S0) := by
  unfold VV
  rw [fl_11]
  rfl
theorem vv_83 (D : va_G) (B : Nat) (st : Nat → Nat) (cI cJ cZ : ClassId) : (VV B cI cJ cZ)[43]? = some (ad0 B st 83, cellE (w0 D B st cI cJ cZ) 83 S0) := by
  unfold VV
  rw [fl_11]
  rfl
theorem vv_84 (D : va_G) (B : Nat) (st : Nat → Nat) (cI cJ cZ : ClassId) : (VV B cI cJ cZ)[44]? = some (ad0 B st 84, cellE (w0 D B st cI cJ cZ) 84 S0) := by
  unfold VV
  rw [fl_11]
  rfl
theorem vv_85 (D : va_G) (B : Nat) (st : Nat → Nat) (cI cJ cZ : ClassId) : (VV B cI cJ cZ)[45]? = some (ad0 B st 85, cellE (w0 D B st cI cJ cZ) 85 S0) := by
  unfold VV
  rw [fl_11]
  rfl
theorem vv_86 (D : va_G) (B : Nat) (st : Nat → Nat) (cI cJ cZ : ClassId) : (VV B cI cJ cZ)[46]? = some (ad0 B st 86, cellE (w0 D B st cI cJ cZ) 86 S0) := by
  unfold VV
  rw [fl_11]
  rfl
theorem vv_87 (D : va_G) (B : Nat) (st : Nat → Nat) (cI cJ cZ : ClassId) : (VV B cI cJ cZ)[47]? = some (ad0 B st 87, cellE (w0 D B st cI cJ cZ) 87 S0) := by
  unfold VV
  rw [fl_11]
  rfl
theorem vv_88 (D : va_G) (B : Nat) (st : Nat → Nat) (cI cJ cZ : ClassId) : (VV B cI cJ cZ)[48]? = some (ad0 B st 88, cellE (w0 D B st cI cJ cZ) 88 S0) := by
  unfold VV
  rw [fl_11]
  rfl
theorem vv_89 (D : va_G) (B : Nat) (st : Nat → Nat) (cI cJ cZ : ClassId) : (VV B cI cJ cZ)[49]? = some (ad0 B st 89, cellE (w0 D B st cI cJ cZ) 89 S0) := by
  unfold VV
  rw [fl_11]
  rfl
theorem vv_90 (D : va_G) (B : Nat) (st : Nat → Nat) (cI cJ cZ : ClassId) : (VV B cI cJ cZ)[50]? = some (ad0 B st 90, cellE (w0 D B st cI cJ cZ) 90 S0) := by
  unfold VV
  rw [fl_11]
  rfl
theorem vv_91 (D : va_G) (B : Nat) (st : Nat → Nat) (cI cJ cZ : ClassId) : (VV B cI cJ cZ)[51]? = some (ad0 B st 91, cellE (w0 D B st cI cJ cZ) 91 S0) := by
  unfold VV
  rw [fl_11]
  rfl
theorem vv_92 (D : va_G) (B : Nat) (st : Nat → Nat) (cI cJ cZ : ClassId) : (VV B cI cJ cZ)[52]? = some (ad0 B st 92, cellE (w0 D B st cI cJ cZ) 92 S0) := by
  unfold VV
  rw [fl_11]
  rfl
theorem vv_93 (D : va_G) (B : Nat) (st : Nat → Nat) (cI cJ cZ : ClassId) : (VV B cI cJ cZ)[53]? = some (ad0 B st 93, cellE (w0 D B st cI cJ cZ) 93 S0) := by
  unfold VV
  rw [fl_11]
  rfl
theorem vv_94 (D : va_G) (B : Nat) (st : Nat → Nat) (cI cJ cZ : ClassId) : (VV B cI cJ cZ)[54]? = some (ad0 B st 94, cellE (w0 D B st cI cJ cZ) 94 S0) := by
  unfold VV
  rw [fl_11]
  rfl
theorem vv_95 (D : va_G) (B : Nat) (st : Nat → Nat) (cI cJ cZ : ClassId) : (VV B cI cJ cZ)[55]? = some (ad0 B st 95, cellE (w0 D B st cI cJ cZ) 95 S0) := by
  unfold VV
  rw [fl_11]
  rfl
theorem vv_96 (D : va_G) (B : Nat) (st : Nat → Nat) (cI cJ cZ : ClassId) : (VV B cI cJ cZ)[56]? = some (ad0 B st 96, cellE (w0 D B st cI cJ cZ) 96 S0) := by
  unfold VV
  rw [fl_11]
  rfl
theorem vv_97 (D : va_G) (B : Nat) (st : Nat → Nat) (cI cJ cZ : ClassId) : (VV B cI cJ cZ)[57]? = some (ad0 B st 97, cellE (w0 D B st cI cJ cZ) 97 S0) := by
  unfold VV
  rw [fl_11]
  rfl
theorem vv_98 (D : va_G) (B : Nat) (st : Nat → Nat) (cI cJ cZ : ClassId) : (VV B cI cJ cZ)[58]? = some (ad0 B st 98, cellE (w0 D B st cI cJ cZ) 98 S0) := by
  unfold VV
  rw [fl_11]
  rfl
theorem vv_99 (D : va_G) (B : Nat) (st : Nat → Nat) (cI cJ cZ : ClassId) : (VV B cI cJ cZ)[59]? = some (ad0 B st 99, cellE (w0 D B st cI cJ cZ) 99 S0) := by
  unfold VV
  rw [fl_11]
  rfl
theorem vv_100 (D : va_G) (B : Nat) (st : Nat → Nat) (cI cJ cZ : ClassId) : (VV B cI cJ cZ)[60]? = some (ad0 B st 100, cellE (w0 D B st cI cJ cZ) 100 S0) := by
  unfold VV
  rw [fl_11]
  rfl
theorem vv_101 (D : va_G) (B : Nat) (st : Nat → Nat) (cI cJ cZ : ClassId) : (VV B cI cJ cZ)[61]? = some (ad0 B st 101, cellE (w0 D B st cI cJ cZ) 101 S0) := by
  unfold VV
  rw [fl_11]
  rfl
theorem vv_102 (D : va_G) (B : Nat) (st : Nat → Nat) (cI cJ cZ : ClassId) : (VV B cI cJ cZ)[62]? = some (ad0 B st 102, cellE (w0 D B st cI cJ cZ) 102 S0) := by
  unfold VV
  rw [fl_11]
  rfl
theorem vv_103 (D : va_G) (B : Nat) (st : Nat → Nat) (cI cJ cZ : ClassId) : (VV B cI cJ cZ)[63]? = some (ad0 B st 103, cellE (w0 D B st cI cJ cZ) 103 S0) := by
  unfold VV
  rw [fl_11]
  rfl
theorem vv_104 (D : va_G) (B : Nat) (st : Nat → Nat) (cI cJ cZ : ClassId) : (VV B cI cJ cZ)[64]? = some (ad0 B st 104, cellE (w0 D B st cI cJ cZ) 104 S0) := by
  unfold VV
  rw [fl_11]
  rfl
theorem vv_105 (D : va_G) (B : Nat) (st : Nat → Nat) (cI cJ cZ : ClassId) : (VV B cI cJ cZ)[65]? = some (ad0 B st 105, cellE (w0 D B st cI cJ cZ) 105 S0) := by
  unfold VV
  rw [fl_11]
  rfl
theorem vv_106 (D : va_G) (B : Nat) (st : Nat → Nat) (cI cJ cZ : ClassId) : (VV B cI cJ cZ)[66]? = some (ad0 B st 106, cellE (w0 D B st cI cJ cZ) 106 S0) := by
  unfold VV
  rw [fl_11]
  rfl
theorem vv_107 (D : va_G) (B : Nat) (st : Nat → Nat) (cI cJ cZ : ClassId) : (VV B cI cJ cZ)[67]? = some (ad0 B st 107, cellE (w0 D B st cI cJ cZ) 107 S0) := by
  unfold VV
  rw [fl_11]
  rfl
theorem vv_108 (D : va_G) (B : Nat) (st : Nat → Nat) (cI cJ cZ : ClassId) : (VV B cI cJ cZ)[68]? = some (ad0 B st 108, cellE (w0 D B st cI cJ cZ) 108 S0) := by
  unfold VV
  rw [fl_11]
  rfl
theorem vv_109 (D : va_G) (B : Nat) (st : Nat → Nat) (cI cJ cZ : ClassId) : (VV B cI cJ cZ)[69]? = some (ad0 B st 109, cellE (w0 D B st cI cJ cZ) 109 S0) := by
  unfold VV
  rw [fl_11]
  rfl
theorem vv_110 (D : va_G) (B : Nat) (st : Nat → Nat) (cI cJ cZ : ClassId) : (VV B cI cJ cZ)[70]? = some (ad0 B st 110, cellE (w0 D B st cI cJ cZ) 110 S0) := by
  unfold VV
  rw [fl_11]
  rfl
theorem vv_111 (D : va_G) (B : Nat) (st : Nat → Nat) (cI cJ cZ : ClassId) : (VV B cI cJ cZ)[71]? = some (ad0 B st 111, cellE (w0 D B st cI cJ cZ) 111 S0) := by
  unfold VV
  rw [fl_11]
  rfl
theorem vv_112 (D : va_G) (B : Nat) (st : Nat → Nat) (cI cJ cZ : ClassId) : (VV B cI cJ cZ)[72]? = some (ad0 B st 112, cellE (w0 D B st cI cJ cZ) 112 S0) := by
  unfold VV
  rw [fl_11]
  rfl
theorem vv_113 (D : va_G) (B : Nat) (st : Nat → Nat) (cI cJ cZ : ClassId) : (VV B cI cJ cZ)[73]? = some (ad0 B st 113, cellE (w0 D B st cI cJ cZ) 113 S0) := by
  unfold VV
  rw [fl_11]
  rfl
theorem vv_114 (D : va_G) (B : Nat) (st : Nat → Nat) (cI cJ cZ : ClassId) : (VV B cI cJ cZ)[74]? = some (ad0 B st 114, cellE (w0 D B st cI cJ cZ) 114 S0) := by
  unfold VV
  rw [fl_11]
  rfl
theorem vv_115 (D : va_G) (B : Nat) (st : Nat → Nat) (cI cJ cZ : ClassId) : (VV B cI cJ cZ)[75]? = some (ad0 B st 115, cellE (w0 D B st cI cJ cZ) 115 S0) := by
  unfold VV
  rw [fl_11]
  rfl
theorem vv_116 (D : va_G) (B : Nat) (st : Nat → Nat) (cI cJ cZ : ClassId) : (VV B cI cJ cZ)[76]? = some (ad0 B st 116, cellE (w0 D B st cI cJ cZ) 116 S0) := by
  unfold VV
  rw [fl_11]
  rfl
theorem vv_117 (D : va_G) (B : Nat) (st : Nat → Nat) (cI cJ cZ : ClassId) : (VV B cI cJ cZ)[77]? = some (ad0 B st 117, cellE (w0 D B st cI cJ cZ) 117 S0) := by
  unfold VV
  rw [fl_11]
  rfl
theorem vv_118 (D : va_G) (B : Nat) (st : Nat → Nat) (cI cJ cZ : ClassId) : (VV B cI cJ cZ)[78]? = some (ad0 B st 118, cellE (w0 D B st cI cJ cZ) 118 S0) := by
  unfold VV
  rw [fl_11]
  rfl
theorem vv_119 (D : va_G) (B : Nat) (st : Nat → Nat) (cI cJ cZ : ClassId) : (VV B cI cJ cZ)[79]? = some (ad0 B st 119, cellE (w0 D B st cI cJ cZ) 119 S0) := by
  unfold VV
  rw [fl_11]
  rfl
theorem vv_120 (D : va_G) (B : Nat) (st : Nat → Nat) (cI cJ cZ : ClassId) : (VV B cI cJ cZ)[80]? = some (ad0 B st 120, cellE (w0 D B st cI cJ cZ) 120 S0) := by
  unfold VV
  rw [fl_11]
  rfl
theorem vv_121 (D : va_G) (B : Nat) (st : Nat → Nat) (cI cJ cZ : ClassId) : (VV B cI cJ cZ)[81]? = some (ad0 B st 121, cellE (w0 D B st cI cJ cZ) 121 S0) := by
  unfold VV
  rw [fl_11]
  rfl
theorem vv_122 (D : va_G) (B : Nat) (st : Nat → Nat) (cI cJ cZ : ClassId) : (VV B cI cJ cZ)[82]? = some (ad0 B st 122, cellE (w0 D B st cI cJ cZ) 122 S0) := by
  unfold VV
  rw [fl_11]
  rfl
theorem vv_123 (D : va_G) (B : Nat) (st : Nat → Nat) (cI cJ cZ : ClassId) : (VV B cI cJ cZ)[83]? = some (ad0 B st 123, cellE (w0 D B st cI cJ cZ) 123 S0) := by
  unfold VV
  rw [fl_11]
  rfl
theorem vv_124 (D : va_G) (B : Nat) (st : Nat → Nat) (cI cJ cZ : ClassId) : (VV B cI cJ cZ)[84]? = some (ad0 B st 124, cellE (w0 D B st cI cJ cZ) 124 S0) := by
  unfold VV
  rw [fl_11]
  rfl
theorem vv_125 (D : va_G) (B : Nat) (st : Nat → Nat) (cI cJ cZ : ClassId) : (VV B cI cJ cZ)[85]? = some (ad0 B st 125, cellE (w0 D B st cI cJ cZ) 125 S0) := by
  unfold VV
  rw [fl_11]
  rfl
theorem vv_126 (D : va_G) (B : Nat) (st : Nat → Nat) (cI cJ cZ : ClassId) : (VV B cI cJ cZ)[86]? = some (ad0 B st 126, cellE (w0 D B st cI cJ cZ) 126 S0) := by
  unfold VV
  rw [fl_11]
  rfl
theorem vv_127 (D : va_G) (B : Nat) (st : Nat → Nat) (cI cJ cZ : ClassId) : (VV B cI cJ cZ)[87]? = some (ad0 B st 127, cellE (w0 D B st cI cJ cZ) 127 S0) := by
  unfold VV
  rw [fl_11]
  rfl
theorem vv_128 (D : va_G) (B : Nat) (st : Nat → Nat) (cI cJ cZ : ClassId) : (VV B cI cJ cZ)[88]? = some (ad0 B st 128, cellE (w0 D B st cI cJ cZ) 128 S0) := by
  unfold VV
  rw [fl_11]
  rfl
theorem vv_129 (D : va_G) (B : Nat) (st : Nat → Nat) (cI cJ cZ : ClassId) : (VV B cI cJ cZ)[89]? = some (ad0 B st 129, cellE (w0 D B st cI cJ cZ) 129 S0) := by
  unfold VV
  rw [fl_11]
  rfl
theorem vv_130 (D : va_G) (B : Nat) (st : Nat → Nat) (cI cJ cZ : ClassId) : (VV B cI cJ cZ)[90]? = some (ad0 B st 130, cellE (w0 D B st cI cJ cZ) 130 S0) := by
  unfold VV
  rw [fl_11]
  rfl
theorem vv_131 (D : va_G) (B : Nat) (st : Nat → Nat) (cI cJ cZ : ClassId) : (VV B cI cJ cZ)[131]? = some (ad0 B st 131, cellE (w0 D B st cI cJ cZ) 131 S0) := by
  unfold VV
  rw [fl_11]
  rfl
theorem vg_0 (D : va_G) (B : Nat) (st : Nat → Nat) (cI cJ cZ : ClassId) : ∀ c ∈ [0, 1, 2, 3, 4, 5, 6, 7, 8, 9, 10, 11], (VV B cI cJ cZ)[offL.getD c 0]? = some (ad0 B st c, cellE (w0 D B st cI cJ cZ) c S0) := List.forall_mem_cons.mpr ⟨vv_0 D B st cI cJ cZ, List.forall_mem_cons.mpr ⟨vv_1 D B st cI cJ cZ, List.forall_mem_cons.mpr ⟨vv_2 D B st cI cJ cZ, List.forall_mem_cons.mpr ⟨vv_3 D B st cI cJ cZ, List.forall_mem_cons.mpr ⟨vv_4 D B st cI cJ cZ, List.forall_mem_cons.mpr ⟨vv_5 D B st cI cJ cZ, List.forall_mem_cons.mpr ⟨vv_6 D B st cI cJ cZ, List.forall_mem_cons.mpr ⟨vv_7 D B st cI cJ cZ, List.forall_mem_cons.mpr ⟨vv_8 D B st cI cJ cZ, List.forall_mem_cons.mpr ⟨vv_9 D B st cI cJ cZ, List.forall_mem_cons.mpr ⟨vv_10 D B st cI cJ cZ, List.forall_mem_cons.mpr ⟨vv_11 D B st cI cJ cZ, fun _ h => absurd h List.not_mem_nil⟩⟩⟩⟩⟩⟩⟩⟩⟩⟩⟩⟩
theorem vg_1 (D : va_G) (B : Nat) (st : Nat → Nat) (cI cJ cZ : ClassId) : ∀ c ∈ [12, 13, 14, 15, 16, 17, 18, 19, 20, 21, 22, 23], (VV B cI cJ cZ)[offL.getD c 0]? = some (ad0 B st c, cellE (w0 D B st cI cJ cZ) c S0) := List.forall_mem_cons.mpr ⟨vv_12 D B st cI cJ cZ, List.forall_mem_cons.mpr ⟨vv_13 D B st cI cJ cZ, List.forall_mem_cons.mpr ⟨vv_14 D B st cI cJ cZ, List.forall_mem_cons.mpr ⟨vv_15 D B st cI cJ cZ, List.forall_mem_cons.mpr ⟨vv_16 D B st cI cJ cZ, List.forall_mem_cons.mpr ⟨vv_17 D B st cI cJ cZ, List.forall_mem_cons.mpr ⟨vv_18 D B st cI cJ cZ, List.forall_mem_cons.mpr ⟨vv_19 D B st cI cJ cZ, List.forall_mem_cons.mpr ⟨vv_20 D B st cI cJ cZ, List.forall_mem_cons.mpr ⟨vv_21 D B st cI cJ cZ, List.forall_mem_cons.mpr ⟨vv_22 D B st cI cJ cZ, List.forall_mem_cons.mpr ⟨vv_23 D B st cI cJ cZ, fun _ h => absurd h List.not_mem_nil⟩⟩⟩⟩⟩⟩⟩⟩⟩⟩⟩⟩
theorem vg_2 (D : va_G) (B : Nat) (st : Nat → Nat) (cI cJ cZ : ClassId) : ∀ c ∈ [24, 25, 26, 27, 28, 29, 30, 31, 32, 33, 34, 35], (VV B cI cJ cZ)[offL.getD c 0]? = some (ad0 B st c, cellE (w0 D B st cI cJ cZ) c S0) := List.forall_mem_cons.mpr ⟨vv_24 D B st cI cJ cZ, List.forall_mem_cons.mpr ⟨vv_25 D B st cI cJ cZ, List.forall_mem_cons.mpr ⟨vv_26 D B st cI cJ cZ, List.forall_mem_cons.mpr ⟨vv_27 D B st cI cJ cZ, List.forall_mem_cons.mpr ⟨vv_28 D B st cI cJ cZ, List.forall_mem_cons.mpr ⟨vv_29 D B st cI cJ cZ, List.forall_mem_cons.mpr ⟨vv_30 D B st cI cJ cZ, List.forall_mem_cons.mpr ⟨vv_31 D B st cI cJ cZ, List.forall_mem_cons.mpr ⟨vv_32 D B st cI cJ cZ, List.forall_mem_cons.mpr ⟨vv_33 D B st cI cJ cZ, List.forall_mem_cons.mpr ⟨vv_34 D B st cI cJ cZ, List.forall_mem_cons.mpr ⟨vv_35 D B st cI cJ cZ, fun _ h => absurd h List.not_mem_nil⟩⟩⟩⟩⟩⟩⟩⟩⟩⟩⟩⟩
theorem vg_3 (D : va_G) (B : Nat) (st : Nat → Nat) (cI cJ cZ : ClassId) : ∀ c ∈ [36, 37, 38, 39, 40, 41, 42, 43, 44, 45, 46, 47], (VV B cI cJ cZ)[offL.getD c 0]? = some (ad0 B st c, cellE (w0 D B st cI cJ cZ) c S0) := List.forall_mem_cons.mpr ⟨vv_36 D B st cI cJ cZ, List.forall_mem_cons.mpr ⟨vv_37 D B st cI cJ cZ, List.forall_mem_cons.mpr ⟨vv_38 D B st cI cJ cZ, List.forall_mem_cons.mpr ⟨vv_39 D B st cI cJ cZ, List.forall_mem_cons.mpr ⟨vv_40 D B st cI cJ cZ, List.forall_mem_cons.mpr ⟨vv_41 D B st cI cJ cZ, List.forall_mem_cons.mpr ⟨vv_42 D B st cI cJ cZ, List.forall_mem_cons.mpr ⟨vv_43 D B st cI cJ cZ, List.forall_mem_cons.mpr ⟨vv_44 D B st cI cJ cZ, List.forall_mem_cons.mpr ⟨vv_45 D B st cI cJ cZ, List.forall_mem_cons.mpr ⟨vv_46 D B st cI cJ cZ, List.forall_mem_cons.mpr ⟨vv_47 D B st cI cJ cZ, fun _ h => absurd h List.not_mem_nil⟩⟩⟩⟩⟩⟩⟩⟩⟩⟩⟩⟩
theorem vg_4 (D : va_G) (B : Nat) (st : Nat → Nat) (cI cJ cZ : ClassId) : ∀ c ∈ [48, 49, 50, 51, 52, 53, 54, 55, 56, 57, 58, 59], (VV B cI cJ cZ)[offL.getD c 0]? = some (ad0 B st c, cellE (w0 D B st cI cJ cZ) c S0) := List.forall_mem_cons.mpr ⟨vv_48 D B st cI cJ cZ, List.forall_mem_cons.mpr ⟨vv_49 D B st cI cJ cZ, List.forall_mem_cons.mpr ⟨vv_50 D B st cI cJ cZ, List.forall_mem_cons.mpr ⟨vv_51 D B st cI cJ cZ, List.forall_mem_cons.mpr ⟨vv_52 D B st cI cJ cZ, List.forall_mem_cons.mpr ⟨vv_53 D B st cI cJ cZ, List.forall_mem_cons.mpr ⟨vv_54 D B st cI cJ cZ, List.forall_mem_cons.mpr ⟨vv_55 D B st cI cJ cZ, List.forall_mem_cons.mpr ⟨vv_56 D B st cI cJ cZ, List.forall_mem_cons.mpr ⟨vv_57 D B st cI cJ cZ, List.forall_mem_cons.mpr ⟨vv_58 D B st cI cJ cZ, List.forall_mem_cons.mpr ⟨vv_59 D B st cI cJ cZ, fun _ h => absurd h List.not_mem_nil⟩⟩⟩⟩⟩⟩⟩⟩⟩⟩⟩⟩
theorem vg_5 (D : va_G) (B : Nat) (st : Nat → Nat) (cI cJ cZ : ClassId) : ∀ c ∈ [60, 61, 62, 63, 64, 65, 66, 67, 68, 69, 70, 71], (VV B cI cJ cZ)[offL.getD c 0]? = some (ad0 B st c, cellE (w0 D B st cI cJ cZ) c S0) := List.forall_mem_cons.mpr ⟨vv_60 D B st cI cJ cZ, List.forall_mem_cons.mpr ⟨vv_61 D B st cI cJ cZ, List.forall_mem_cons.mpr ⟨vv_62 D B st cI cJ cZ, List.forall_mem_cons.mpr ⟨vv_63 D B st cI cJ cZ, List.forall_mem_cons.mpr ⟨vv_64 D B st cI cJ cZ, List.forall_mem_cons.mpr ⟨vv_65 D B st cI cJ cZ, List.forall_mem_cons.mpr ⟨vv_66 D B st cI cJ cZ, List.forall_mem_cons.mpr ⟨vv_67 D B st cI cJ cZ, List.forall_mem_cons.mpr ⟨vv_68 D B st cI cJ cZ, List.forall_mem_cons.mpr ⟨vv_69 D B st cI cJ cZ, List.forall_mem_cons.mpr ⟨vv_70 D B st cI cJ cZ, List.forall_mem_cons.mpr ⟨vv_71 D B st cI cJ cZ, fun _ h => absurd h List.not_mem_nil⟩⟩⟩⟩⟩⟩⟩⟩⟩⟩⟩⟩
theorem vg_6 (D : va_G) (B : Nat) (st : Nat → Nat) (cI cJ cZ : ClassId) : ∀ c ∈ [72, 73, 74, 75, 76, 77, 78, 79, 80, 81, 82, 83], (VV B cI cJ cZ)[offL.getD c 0]? = some (ad0 B st c, cellE (w0 D B st cI cJ cZ) c S0) := List.forall_mem_cons.mpr ⟨vv_72 D B st cI cJ cZ, List.forall_mem_cons.mpr ⟨vv_73 D B st cI cJ cZ, List.forall_mem_cons.mpr ⟨vv_74 D B st cI cJ cZ, List.forall_mem_cons.mpr ⟨vv_75 D B st cI cJ cZ, List.forall_mem_cons.mpr ⟨vv_76 D B st cI cJ cZ, List.forall_mem_cons.mpr ⟨vv_77 D B st cI cJ cZ, List.forall_mem_cons.mpr ⟨vv_78 D B st cI cJ cZ, List.forall_mem_cons.mpr ⟨vv_79 D B st cI cJ cZ, List.forall_mem_cons.mpr ⟨vv_80 D B st cI cJ cZ, List.forall_mem_cons.mpr ⟨vv_81 D B st cI cJ cZ, List.forall_mem_cons.mpr ⟨vv_82 D B st cI cJ cZ, List.forall_mem_cons.mpr ⟨vv_83 D B st cI cJ cZ, fun _ h => absurd h List.not_mem_nil⟩⟩⟩⟩⟩⟩⟩⟩⟩⟩⟩⟩
theorem vg_7 (D : va_G) (B : Nat) (st : Nat → Nat) (cI cJ cZ : ClassId) : ∀ c ∈ [84, 85, 86, 87, 88, 89, 90, 91, 92, 93, 94, 95], (VV B cI cJ cZ)[offL.getD c 0]? = some (ad0 B st c, cellE (w0 D B st cI cJ cZ) c S0) := List.forall_mem_cons.mpr ⟨vv_84 D B st cI cJ cZ, List.forall_mem_cons.mpr ⟨vv_85 D B st cI cJ cZ, List.forall_mem_cons.mpr ⟨vv_86 D B st cI cJ cZ, List.forall_mem_cons.mpr ⟨vv_87 D B st cI cJ cZ, List.forall_mem_cons.mpr ⟨vv_88 D B st cI cJ cZ, List.forall_mem_cons.mpr ⟨vv_89 D B st cI cJ cZ, List.forall_mem_cons.mpr ⟨vv_90 D B st cI cJ cZ, List.forall_mem_cons.mpr ⟨vv_91 D B st cI cJ cZ, List.forall_mem_cons.mpr ⟨vv_92 D B st cI cJ cZ, List.forall_mem_cons.mpr ⟨vv_93 D B st cI cJ cZ, List.forall_mem_cons.mpr ⟨vv_94 D B st cI cJ cZ, List.forall_mem_cons.mpr ⟨vv_95 D B st cI cJ cZ, fun _ h => absurd h List.not_mem_nil⟩⟩⟩⟩⟩⟩⟩⟩⟩⟩⟩⟩
theorem vg_8 (D : va_G) (B : Nat) (st : Nat → Nat) (cI cJ cZ : ClassId) : ∀ c ∈ [96, 97, 98, 99, 100, 101, 102, 103, 104, 105, 106, 107], (VV B cI cJ cZ)[offL.getD c 0]? = some (ad0 B st c, cellE (w0 D B st cI cJ cZ) c S0) := List.forall_mem_cons.mpr ⟨vv_96 D B st cI cJ cZ, List.forall_mem_cons.mpr ⟨vv_97 D B st cI cJ cZ, List.forall_mem_cons.mpr ⟨vv_98 D B st cI cJ cZ, List.forall_mem_cons.mpr ⟨vv_99 D B st cI cJ cZ, List.forall_mem_cons.mpr ⟨vv_100 D B st cI cJ cZ, List.forall_mem_cons.mpr ⟨vv_101 D B st cI cJ cZ, List.forall_mem_cons.mpr ⟨vv_102 D B st cI cJ cZ, List.forall_mem_cons.mpr ⟨vv_103 D B st cI cJ cZ, List.forall_mem_cons.mpr ⟨vv_104 D B st cI cJ cZ, List.forall_mem_cons.mpr ⟨vv_105 D B st cI cJ cZ, List.forall_mem_cons.mpr ⟨vv_106 D B st cI cJ cZ, List.forall_mem_cons.mpr ⟨vv_107 D B st cI cJ cZ, fun _ h => absurd h List.not_mem_nil⟩⟩⟩⟩⟩⟩⟩⟩⟩⟩⟩⟩
theorem vg_9 (D : va_G) (B : Nat) (st : Nat → Nat) (cI cJ cZ : ClassId) : ∀ c ∈ [108, 109, 110, 111, 112, 113, 114, 115, 116, 117, 118, 119], (VV B cI cJ cZ)[offL.getD c 0]? = some (ad0 B st c, cellE (w0 D B st cI cJ cZ) c S0) := List.forall_mem_cons.mpr ⟨vv_108 D B st cI cJ cZ, List.forall_mem_cons.mpr ⟨vv_109 D B st cI cJ cZ, List.forall_mem_cons.mpr ⟨vv_110 D B st cI cJ cZ, List.forall_mem_cons.mpr ⟨vv_111 D B st cI cJ cZ, List.forall_mem_cons.mpr ⟨vv_112 D B st cI cJ cZ, List.forall_mem_cons.mpr ⟨vv_113 D B st cI cJ cZ, List.forall_mem_cons.mpr ⟨vv_114 D B st cI cJ cZ, List.forall_mem_cons.mpr ⟨vv_115 D B st cI cJ cZ, List.forall_mem_cons.mpr ⟨vv_116 D B st cI cJ cZ, List.forall_mem_cons.mpr ⟨vv_117 D B st cI cJ cZ, List.forall_mem_cons.mpr ⟨vv_118 D B st cI cJ cZ, List.forall_mem_cons.mpr ⟨vv_119 D B st cI cJ cZ, fun _ h => absurd h List.not_mem_nil⟩⟩⟩⟩⟩⟩⟩⟩⟩⟩⟩⟩
theorem vg_10 (D : va_G) (B : Nat) (st : Nat → Nat) (cI cJ cZ : ClassId) : ∀ c ∈ [120, 121, 122, 123, 124, 125, 126, 127, 128, 129, 130, 131], (VV B cI cJ cZ)[offL.getD c 0]? = some (ad0 B st c, cellE (w0 D B st cI cJ cZ) c S0) := List.forall_mem_cons.mpr ⟨vv_120 D B st cI cJ cZ, List.forall_mem_cons.mpr ⟨vv_121 D B st cI cJ cZ, List.forall_mem_cons.mpr ⟨vv_122 D B st cI cJ cZ, List.forall_mem_cons.mpr ⟨vv_123 D B st cI cJ cZ, List.forall_mem_cons.mpr ⟨vv_124 D B st cI cJ cZ, List.forall_mem_cons.mpr ⟨vv_125 D B st cI cJ cZ, List.forall_mem_cons.mpr ⟨vv_126 D B st cI cJ cZ, List.forall_mem_cons.mpr ⟨vv_127 D B st cI cJ cZ, List.forall_mem_cons.mpr ⟨vv_128 D B st cI cJ cZ, List.forall_mem_cons.mpr ⟨vv_129 D B st cI cJ cZ, List.forall_mem_cons.mpr ⟨vv_130 D B st cI cJ cZ, List.forall_mem_cons.mpr ⟨vv_131 D B st cI cJ cZ, fun _ h => absurd h List.not_mem_nil⟩⟩⟩⟩⟩⟩⟩⟩⟩⟩⟩⟩
theorem vv_all (D : va_G) (B : Nat) (st : Nat → Nat) (cI cJ cZ : ClassId) (c : Nat) (hc : c < 132) : (VV B cI cJ cZ)[offL.getD c 0]? = some (ad0 B st c, cellE (w0 D B st cI cJ cZ) c S0) := by
  have h : (0 ≤ c ∧ c < 12) ∨ (12 ≤ c ∧ c < 24) ∨ (24 ≤ c ∧ c < 36) ∨ (36 ≤ c ∧ c < 48) ∨ (48 ≤ c ∧ c < 60) ∨ (60 ≤ c ∧ c < 72) ∨ (72 ≤ c ∧ c < 84) ∨ (84 ≤ c ∧ c < 96) ∨ (96 ≤ c ∧ c < 108) ∨ (108 ≤ c ∧ c < 120) ∨ (120 ≤ c ∧ c < 132) := by omega
  rcases h with h | h | h | h | h | h | h | h | h | h | h
  · exact vg_0 D B st cI cJ cZ c (by simp only [List.mem_cons, List.not_mem_nil, or_false]; omega)
  · exact vg_1 D B st cI cJ cZ c (by simp only [List.mem_cons, List.not_mem_nil, or_false]; omega)
  · exact vg_2 D B st cI cJ cZ c (by simp only [List.mem_cons, List.not_mem_nil, or_false]; omega)
  · exact vg_3 D B st cI cJ cZ c (by simp only [List.mem_cons, List.not_mem_nil, or_false]; omega)
  · exact vg_4 D B st cI cJ cZ c (by simp only [List.mem_cons, List.not_mem_nil, or_false]; omega)
  · exact vg_5 D B st cI cJ cZ c (by simp only [List.mem_cons, List.not_mem_nil, or_false]; omega)
  · exact vg_6 D B st cI cJ cZ c (by simp only [List.mem_cons, List.not_mem_nil, or_false]; omega)
  · exact vg_7 D B st cI cJ cZ c (by simp only [List.mem_cons, List.not_mem_nil, or_false]; omega)
  · exact vg_8 D B st cI cJ cZ c (by simp only [List.mem_cons, List.not_mem_nil, or_false]; omega)
  · exact vg_9 D B st cI cJ cZ c (by simp only [List.mem_cons, List.not_mem_nil, or_false]; omega)
  · exact vg_10 D B st cI cJ cZ c (by simp only [List.mem_cons, List.not_mem_nil, or_false]; omega)
theorem Wo_0 (D : va_G) (B : Nat) (st : Nat → Nat) (cI cJ cZ : ClassId) {H : Heap} (hP : va_P D vwCl (VV B cI cJ cZ) H) : Wo (w0 D B st cI cJ cZ) S0 H := by
  intro k q hq
  have hk : k < nC := by
    have := (List.getElem?_eq_some_iff.mp hq).1
    rwa [wl_len] at this
  rw [wl_get _ _ hk] at hq
  cases hq
  exact hP _ _ (vv_all D B st cI cJ cZ k hk)
