/-! what is thrown: words -/
def E1 : String := "java/util/NoSuchElementException"
def Y1 : String := "java/lang/RuntimeException"
def thA : List Cond := (tgA "RugReader" 138 E1 Y1 ["java/lang/Exception"] 13 prog_23_method_4_code).filter vx_no
def thB : List Cond := [.declares (Bundle.initS Y1), .declares (Bundle.initS "java/lang/Exception"), .declares (Bundle.initS Bundle.tN), .castable E1 E1]
theorem th_bad : ∀ w ∈ thA.filter (fun w => !goodWord w), w ∈ thB := by decide +kernel
theorem th_in : ∀ w ∈ thA.filter goodWord, w ∈ lw_tbl := by decide +kernel
theorem th_inB : ∀ w ∈ thB, w ∈ lw_tbl := by decide +kernel
theorem th_ot : ∀ w ∈ Cond.classLink "RugReader" 134 E1 :: Cond.initialized E1 :: thA, vx_ot w = true := by decide +kernel
theorem th_fit : Bundle.fit E1 = true ∧ Bundle.fit Y1 = true ∧ ∀ n ∈ ["java/lang/Exception"], Bundle.fit n = true := by decide +kernel
theorem th_b1 : decode prog_23_method_4_code 0 = .ok (.aload_n 0, 1) ∧ decode prog_23_method_4_code 1 = .ok (.aload_n 1, 1) ∧ decode prog_23_method_4_code 2 = .ok (.invokespecial 13, 3) ∧ decode prog_23_method_4_code 5 = .ok (.return_, 1) := by decide +kernel
theorem th_k : Cond.classLink "RugReader" 134 E1 ∈ lw_tbl ∧ goodWord (Cond.classLink "RugReader" 134 E1) = true ∧ Cond.initialized E1 ∈ lw_tbl ∧ goodWord (Cond.initialized E1) = true := by decide +kernel
theorem th_dec : decode (zby 180) 20 = .ok (.new 134, 3) ∧ decode (zby 180) 23 = .ok (.dup, 1) ∧ decode (zby 180) 24 = .ok (.ldc 136, 2) ∧ decode (zby 180) 26 = .ok (.invokespecial 138, 3) ∧ decode (zby 180) 29 = .ok (.athrow, 1) := by decide +kernel
theorem th_dec2 : decode (zby 181) 21 = .ok (.new 134, 3) ∧ decode (zby 181) 24 = .ok (.dup, 1) ∧ decode (zby 181) 25 = .ok (.ldc 152, 2) ∧ decode (zby 181) 27 = .ok (.invokespecial 138, 3) ∧ decode (zby 181) 30 = .ok (.athrow, 1) := by decide +kernel
def cw4 : Cond := Cond.codeWith (zy 400) method_3_code 5 (some .int) [(0, 10, 13, 13)]
def cw5 : Cond := Cond.codeWith (zy 401) method_4_code 5 (some .int) [(0, 10, 13, 13)]
theorem th_w4 : goodWord cw4 = true ∧ cw4 ∈ lw_tbl ∧ goodWord cw5 = true ∧ cw5 ∈ lw_tbl := by decide +kernel
theorem th_l4 : Cond.methodLink "RugReaderLaw" 41 (zy 400) ∈ lw_tbl ∧ Cond.static (zy 400) ∈ lw_tbl ∧ Cond.methodLink "RugReaderLaw" 50 (zy 401) ∈ lw_tbl ∧ Cond.static (zy 401) ∈ lw_tbl ∧ Cond.initialized "RugReaderLaw" ∈ lw_tbl ∧ Cond.classLink "RugReaderLaw" 13 E1 ∈ lw_tbl := by decide +kernel
theorem th_l5 : Cond.methodLink "RugReaderLaw" 7 (zy 180) ∈ lw_tbl ∧ Cond.methodLink "RugReaderLaw" 15 (zy 181) ∈ lw_tbl := by decide +kernel
theorem th_l6 : goodWord (Cond.methodLink "RugReaderLaw" 41 (zy 400)) = true ∧ goodWord (Cond.static (zy 400)) = true ∧ goodWord (Cond.methodLink "RugReaderLaw" 50 (zy 401)) = true ∧ goodWord (Cond.static (zy 401)) = true ∧ goodWord (Cond.initialized "RugReaderLaw") = true ∧ goodWord (Cond.classLink "RugReaderLaw" 13 E1) = true ∧ goodWord (Cond.methodLink "RugReaderLaw" 7 (zy 180)) = true ∧ goodWord (Cond.methodLink "RugReaderLaw" 15 (zy 181)) = true := by decide +kernel
theorem d400 : decode method_3_code 0 = .ok (.aload_n 3, 1) ∧ decode method_3_code 1 = .ok (.iconst 0, 1) ∧ decode method_3_code 2 = .ok (.aload_n 0, 1) ∧ decode method_3_code 3 = .ok (.iload_n 1, 1) ∧ decode method_3_code 4 = .ok (.iload_n 2, 1) ∧ decode method_3_code 5 = .ok (.invokevirtual 7, 3) ∧ decode method_3_code 8 = .ok (.i2l, 1) ∧ decode method_3_code 9 = .ok (.lastore, 1) ∧ decode method_3_code 10 = .ok (.goto 7, 3) ∧ decode method_3_code 13 = .ok (.astore 4, 2) ∧ decode method_3_code 15 = .ok (.iconst 1, 1) ∧ decode method_3_code 16 = .ok (.ireturn, 1) ∧ decode method_3_code 17 = .ok (.iconst 0, 1) ∧ decode method_3_code 18 = .ok (.ireturn, 1) := by decide +kernel
theorem d401 : decode method_4_code 0 = .ok (.aload_n 3, 1) ∧ decode method_4_code 1 = .ok (.iconst 0, 1) ∧ decode method_4_code 2 = .ok (.aload_n 0, 1) ∧ decode method_4_code 3 = .ok (.iload_n 1, 1) ∧ decode method_4_code 4 = .ok (.iload_n 2, 1) ∧ decode method_4_code 5 = .ok (.invokevirtual 15, 3) ∧ decode method_4_code 8 = .ok (.i2l, 1) ∧ decode method_4_code 9 = .ok (.lastore, 1) ∧ decode method_4_code 10 = .ok (.goto 7, 3) ∧ decode method_4_code 13 = .ok (.astore 4, 2) ∧ decode method_4_code 15 = .ok (.iconst 1, 1) ∧ decode method_4_code 16 = .ok (.ireturn, 1) ∧ decode method_4_code 17 = .ok (.iconst 0, 1) ∧ decode method_4_code 18 = .ok (.ireturn, 1) := by decide +kernel
theorem d0x : decode (zby 0) 338 = .ok (.invokestatic 41, 3) ∧ decode (zby 0) 406 = .ok (.invokestatic 50, 3) := by decide +kernel
