def cstTab : List (Nat × Nat × Int32) := [(8, 265, 1431655765), (8, 266, 858993459), (8, 267, 252645135), (5, 307, 2147483647)]
def cslTab : List (Nat × Nat × Int64) := [(1, 36, 48271), (1, 38, 2147483647), (5, 323, 17), (5, 325, 31), (4, 58, 31), (6, 72, 5), (6, 78, 3), (6, 119, 48), (6, 222, 255), (6, 233, 2), (6, 238, 7), (6, 276, 12), (6, 285, 2147483646), (6, 287, 48271), (6, 289, 2147483647), (6, 294, 8), (6, 299, 17), (6, 301, 31)]
def fldTab : List (Nat × Nat × Nat × Nat) := [(4, 7, 4, 0), (4, 13, 4, 1), (4, 17, 4, 2), (0, 11, 0, 0), (3, 70, 0, 0), (0, 15, 0, 1), (5, 139, 0, 1), (0, 18, 0, 2), (5, 242, 0, 2), (0, 21, 0, 3), (5, 183, 0, 3), (0, 24, 0, 4), (5, 173, 0, 4), (0, 27, 0, 5), (5, 292, 0, 5), (0, 30, 0, 6), (0, 33, 0, 7), (0, 36, 0, 8), (0, 39, 0, 9), (0, 42, 0, 10), (5, 130, 0, 10), (0, 46, 0, 11), (5, 167, 0, 11), (0, 49, 0, 12), (5, 170, 0, 12), (0, 52, 0, 13), (5, 159, 0, 13), (0, 55, 0, 14), (5, 203, 0, 14), (0, 58, 0, 15), (5, 212, 0, 15), (0, 61, 0, 16), (5, 206, 0, 16), (3, 14, 3, 0), (5, 122, 3, 0), (3, 20, 3, 1), (3, 61, 3, 2), (3, 35, 3, 3), (1, 9, 1, 0), (5, 196, 1, 0), (1, 21, 1, 1), (2, 9, 2, 0), (2, 15, 2, 1), (2, 18, 2, 2), (2, 21, 2, 3), (2, 24, 2, 4), (2, 27, 2, 5), (2, 62, 2, 6), (2, 40, 2, 7), (2, 36, 2, 8), (5, 14, 5, 0), (5, 18, 5, 1), (5, 26, 5, 2), (5, 30, 5, 3), (5, 34, 5, 4), (5, 40, 5, 5), (5, 47, 5, 6), (5, 54, 5, 7), (5, 58, 5, 8), (5, 320, 5, 9), (5, 78, 5, 10), (5, 311, 5, 11), (5, 62, 5, 12), (6, 7, 6, 0), (6, 143, 6, 1), (6, 13, 6, 2), (6, 16, 6, 3), (6, 19, 6, 4), (6, 22, 6, 5), (6, 25, 6, 6), (6, 28, 6, 7), (6, 31, 6, 8), (6, 69, 6, 9), (6, 282, 6, 10), (6, 34, 6, 11), (6, 66, 6, 12), (6, 38, 6, 13), (6, 106, 6, 14), (6, 109, 6, 15), (6, 112, 6, 16), (6, 41, 6, 17), (6, 44, 6, 18), (6, 130, 6, 19), (6, 47, 6, 20), (6, 50, 6, 21), (6, 146, 6, 22), (6, 149, 6, 23), (6, 53, 6, 24), (6, 57, 6, 25), (6, 152, 6, 26), (6, 60, 6, 27), (6, 63, 6, 28), (5, 334, 4, 0)]
set_option maxRecDepth 100000 in
theorem cst_0 : Cond.constant (ownS 8) 265 1431655765 ∈ T1 := T1_in2 (i := 206) rfl rfl
set_option maxRecDepth 100000 in
theorem cst_1 : Cond.constant (ownS 8) 266 858993459 ∈ T1 := T1_in2 (i := 207) rfl rfl
set_option maxRecDepth 100000 in
theorem cst_2 : Cond.constant (ownS 8) 267 252645135 ∈ T1 := T1_in2 (i := 208) rfl rfl
set_option maxRecDepth 100000 in
theorem cst_3 : Cond.constant (ownS 5) 307 2147483647 ∈ T1 := T1_in4 (i := 66) rfl rfl
theorem cst_ok : ∀ q ∈ cstTab, Cond.constant (ownS q.1) q.2.1 q.2.2 ∈ T1 := List.forall_mem_cons.mpr ⟨cst_0, List.forall_mem_cons.mpr ⟨cst_1, List.forall_mem_cons.mpr ⟨cst_2, List.forall_mem_cons.mpr ⟨cst_3, fun _ h => absurd h List.not_mem_nil⟩⟩⟩⟩
set_option maxRecDepth 100000 in
theorem csl_0 : Cond.constantLong (ownS 1) 36 48271 ∈ T1 := T1_in4 (i := 71) rfl rfl
set_option maxRecDepth 100000 in
theorem csl_1 : Cond.constantLong (ownS 1) 38 2147483647 ∈ T1 := T1_in4 (i := 72) rfl rfl
set_option maxRecDepth 100000 in
theorem csl_2 : Cond.constantLong (ownS 5) 323 17 ∈ T1 := T1_in4 (i := 110) rfl rfl
set_option maxRecDepth 100000 in
theorem csl_3 : Cond.constantLong (ownS 5) 325 31 ∈ T1 := T1_in4 (i := 111) rfl rfl
set_option maxRecDepth 100000 in
theorem csl_4 : Cond.constantLong (ownS 4) 58 31 ∈ T1 := T1_in4 (i := 117) rfl rfl
set_option maxRecDepth 100000 in
theorem csl_5 : Cond.constantLong (ownS 6) 72 5 ∈ T1 := T1_in4 (i := 219) rfl rfl
set_option maxRecDepth 100000 in
theorem csl_6 : Cond.constantLong (ownS 6) 78 3 ∈ T1 := T1_in5 (i := 30) rfl rfl
set_option maxRecDepth 100000 in
theorem csl_7 : Cond.constantLong (ownS 6) 119 48 ∈ T1 := T1_in5 (i := 59) rfl rfl
set_option maxRecDepth 100000 in
theorem csl_8 : Cond.constantLong (ownS 6) 222 255 ∈ T1 := T1_in5 (i := 149) rfl rfl
set_option maxRecDepth 100000 in
theorem csl_9 : Cond.constantLong (ownS 6) 233 2 ∈ T1 := T1_in5 (i := 217) rfl rfl
set_option maxRecDepth 100000 in
theorem csl_10 : Cond.constantLong (ownS 6) 238 7 ∈ T1 := T1_in5 (i := 233) rfl rfl
set_option maxRecDepth 100000 in
theorem csl_11 : Cond.constantLong (ownS 6) 276 12 ∈ T1 := T1_in6 (i := 106) rfl rfl
set_option maxRecDepth 100000 in
theorem csl_12 : Cond.constantLong (ownS 6) 285 2147483646 ∈ T1 := T1_in6 (i := 114) rfl rfl
set_option maxRecDepth 100000 in
theorem csl_13 : Cond.constantLong (ownS 6) 287 48271 ∈ T1 := T1_in6 (i := 115) rfl rfl
set_option maxRecDepth 100000 in
theorem csl_14 : Cond.constantLong (ownS 6) 289 2147483647 ∈ T1 := T1_in6 (i := 116) rfl rfl
set_option maxRecDepth 100000 in
theorem csl_15 : Cond.constantLong (ownS 6) 294 8 ∈ T1 := T1_in6 (i := 133) rfl rfl
set_option maxRecDepth 100000 in
theorem csl_16 : Cond.constantLong (ownS 6) 299 17 ∈ T1 := T1_in6 (i := 154) rfl rfl
set_option maxRecDepth 100000 in
theorem csl_17 : Cond.constantLong (ownS 6) 301 31 ∈ T1 := T1_in6 (i := 155) rfl rfl
theorem csl_ok : ∀ q ∈ cslTab, Cond.constantLong (ownS q.1) q.2.1 q.2.2 ∈ T1 := List.forall_mem_cons.mpr ⟨csl_0, List.forall_mem_cons.mpr ⟨csl_1, List.forall_mem_cons.mpr ⟨csl_2, List.forall_mem_cons.mpr ⟨csl_3, List.forall_mem_cons.mpr ⟨csl_4, List.forall_mem_cons.mpr ⟨csl_5, List.forall_mem_cons.mpr ⟨csl_6, List.forall_mem_cons.mpr ⟨csl_7, List.forall_mem_cons.mpr ⟨csl_8, List.forall_mem_cons.mpr ⟨csl_9, List.forall_mem_cons.mpr ⟨csl_10, List.forall_mem_cons.mpr ⟨csl_11, List.forall_mem_cons.mpr ⟨csl_12, List.forall_mem_cons.mpr ⟨csl_13, List.forall_mem_cons.mpr ⟨csl_14, List.forall_mem_cons.mpr ⟨csl_15, List.forall_mem_cons.mpr ⟨csl_16, List.forall_mem_cons.mpr ⟨csl_17, fun _ h => absurd h List.not_mem_nil⟩⟩⟩⟩⟩⟩⟩⟩⟩⟩⟩⟩⟩⟩⟩⟩⟩⟩
set_option maxRecDepth 100000 in
theorem fld_0 : fldW (ownS 4) 7 4 0 := ⟨RX4, TX4, 3, rfl, by decide, rfl, iX4, Or.inl (T1_in1 (i := 29) rfl rfl)⟩
set_option maxRecDepth 100000 in
theorem fld_1 : fldW (ownS 4) 13 4 1 := ⟨RX4, TX4, 3, rfl, by decide, rfl, iX4, Or.inl (T1_in1 (i := 31) rfl rfl)⟩
set_option maxRecDepth 100000 in
theorem fld_2 : fldW (ownS 4) 17 4 2 := ⟨RX4, TX4, 3, rfl, by decide, rfl, iX4, Or.inl (T1_in1 (i := 32) rfl rfl)⟩
set_option maxRecDepth 100000 in
theorem fld_3 : fldW (ownS 0) 11 0 0 := ⟨RX0, TX0, 17, rfl, by decide, rfl, iX0, Or.inl (T1_in1 (i := 47) rfl rfl)⟩
set_option maxRecDepth 100000 in
theorem fld_4 : fldW (ownS 3) 70 0 0 := ⟨RX0, TX0, 17, rfl, by decide, rfl, iX0, Or.inl (T1_in1 (i := 48) rfl rfl)⟩
set_option maxRecDepth 100000 in
theorem fld_5 : fldW (ownS 0) 15 0 1 := ⟨RX0, TX0, 17, rfl, by decide, rfl, iX0, Or.inl (T1_in1 (i := 49) rfl rfl)⟩
set_option maxRecDepth 100000 in
theorem fld_6 : fldW (ownS 5) 139 0 1 := ⟨RX0, TX0, 17, rfl, by decide, rfl, iX0, Or.inl (T1_in1 (i := 50) rfl rfl)⟩
set_option maxRecDepth 100000 in
theorem fld_7 : fldW (ownS 0) 18 0 2 := ⟨RX0, TX0, 17, rfl, by decide, rfl, iX0, Or.inl (T1_in1 (i := 51) rfl rfl)⟩
set_option maxRecDepth 100000 in
theorem fld_8 : fldW (ownS 5) 242 0 2 := ⟨RX0, TX0, 17, rfl, by decide, rfl, iX0, Or.inl (T1_in1 (i := 52) rfl rfl)⟩
set_option maxRecDepth 100000 in
theorem fld_9 : fldW (ownS 0) 21 0 3 := ⟨RX0, TX0, 17, rfl, by decide, rfl, iX0, Or.inl (T1_in1 (i := 53) rfl rfl)⟩
set_option maxRecDepth 100000 in
theorem fld_10 : fldW (ownS 5) 183 0 3 := ⟨RX0, TX0, 17, rfl, by decide, rfl, iX0, Or.inl (T1_in1 (i := 54) rfl rfl)⟩
set_option maxRecDepth 100000 in
theorem fld_11 : fldW (ownS 0) 24 0 4 := ⟨RX0, TX0, 17, rfl, by decide, rfl, iX0, Or.inl (T1_in1 (i := 55) rfl rfl)⟩
set_option maxRecDepth 100000 in
theorem fld_12 : fldW (ownS 5) 173 0 4 := ⟨RX0, TX0, 17, rfl, by decide, rfl, iX0, Or.inl (T1_in1 (i := 56) rfl rfl)⟩
set_option maxRecDepth 100000 in
theorem fld_13 : fldW (ownS 0) 27 0 5 := ⟨RX0, TX0, 17, rfl, by decide, rfl, iX0, Or.inl (T1_in1 (i := 57) rfl rfl)⟩
set_option maxRecDepth 100000 in
theorem fld_14 : fldW (ownS 5) 292 0 5 := ⟨RX0, TX0, 17, rfl, by decide, rfl, iX0, Or.inl (T1_in1 (i := 58) rfl rfl)⟩
set_option maxRecDepth 100000 in
theorem fld_15 : fldW (ownS 0) 30 0 6 := ⟨RX0, TX0, 17, rfl, by decide, rfl, iX0, Or.inl (T1_in1 (i := 59) rfl rfl)⟩
set_option maxRecDepth 100000 in
theorem fld_16 : fldW (ownS 0) 33 0 7 := ⟨RX0, TX0, 17, rfl, by decide, rfl, iX0, Or.inl (T1_in1 (i := 60) rfl rfl)⟩
set_option maxRecDepth 100000 in
theorem fld_17 : fldW (ownS 0) 36 0 8 := ⟨RX0, TX0, 17, rfl, by decide, rfl, iX0, Or.inl (T1_in1 (i := 61) rfl rfl)⟩
set_option maxRecDepth 100000 in
theorem fld_18 : fldW (ownS 0) 39 0 9 := ⟨RX0, TX0, 17, rfl, by decide, rfl, iX0, Or.inl (T1_in1 (i := 62) rfl rfl)⟩
set_option maxRecDepth 100000 in
theorem fld_19 : fldW (ownS 0) 42 0 10 := ⟨RX0, TX0, 17, rfl, by decide, rfl, iX0, Or.inl (T1_in1 (i := 63) rfl rfl)⟩
set_option maxRecDepth 100000 in
theorem fld_20 : fldW (ownS 5) 130 0 10 := ⟨RX0, TX0, 17, rfl, by decide, rfl, iX0, Or.inl (T1_in1 (i := 64) rfl rfl)⟩
set_option maxRecDepth 100000 in
theorem fld_21 : fldW (ownS 0) 46 0 11 := ⟨RX0, TX0, 17, rfl, by decide, rfl, iX0, Or.inl (T1_in1 (i := 65) rfl rfl)⟩
set_option maxRecDepth 100000 in
theorem fld_22 : fldW (ownS 5) 167 0 11 := ⟨RX0, TX0, 17, rfl, by decide, rfl, iX0, Or.inl (T1_in1 (i := 66) rfl rfl)⟩
set_option maxRecDepth 100000 in
theorem fld_23 : fldW (ownS 0) 49 0 12 := ⟨RX0, TX0, 17, rfl, by decide, rfl, iX0, Or.inl (T1_in1 (i := 67) rfl rfl)⟩
set_option maxRecDepth 100000 in
theorem fld_24 : fldW (ownS 5) 170 0 12 := ⟨RX0, TX0, 17, rfl, by decide, rfl, iX0, Or.inl (T1_in1 (i := 68) rfl rfl)⟩
set_option maxRecDepth 100000 in
theorem fld_25 : fldW (ownS 0) 52 0 13 := ⟨RX0, TX0, 17, rfl, by decide, rfl, iX0, Or.inl (T1_in1 (i := 69) rfl rfl)⟩
set_option maxRecDepth 100000 in
theorem fld_26 : fldW (ownS 5) 159 0 13 := ⟨RX0, TX0, 17, rfl, by decide, rfl, iX0, Or.inl (T1_in1 (i := 70) rfl rfl)⟩
set_option maxRecDepth 100000 in
theorem fld_27 : fldW (ownS 0) 55 0 14 := ⟨RX0, TX0, 17, rfl, by decide, rfl, iX0, Or.inl (T1_in1 (i := 71) rfl rfl)⟩
set_option maxRecDepth 100000 in
theorem fld_28 : fldW (ownS 5) 203 0 14 := ⟨RX0, TX0, 17, rfl, by decide, rfl, iX0, Or.inl (T1_in1 (i := 72) rfl rfl)⟩
set_option maxRecDepth 100000 in
theorem fld_29 : fldW (ownS 0) 58 0 15 := ⟨RX0, TX0, 17, rfl, by decide, rfl, iX0, Or.inl (T1_in1 (i := 73) rfl rfl)⟩
set_option maxRecDepth 100000 in
theorem fld_30 : fldW (ownS 5) 212 0 15 := ⟨RX0, TX0, 17, rfl, by decide, rfl, iX0, Or.inl (T1_in1 (i := 74) rfl rfl)⟩
set_option maxRecDepth 100000 in
theorem fld_31 : fldW (ownS 0) 61 0 16 := ⟨RX0, TX0, 17, rfl, by decide, rfl, iX0, Or.inl (T1_in1 (i := 75) rfl rfl)⟩
set_option maxRecDepth 100000 in
theorem fld_32 : fldW (ownS 5) 206 0 16 := ⟨RX0, TX0, 17, rfl, by decide, rfl, iX0, Or.inl (T1_in1 (i := 76) rfl rfl)⟩
set_option maxRecDepth 100000 in
theorem fld_33 : fldW (ownS 3) 14 3 0 := ⟨RX3, TX3, 4, rfl, by decide, rfl, iX3, Or.inl (T1_in1 (i := 121) rfl rfl)⟩
set_option maxRecDepth 100000 in
theorem fld_34 : fldW (ownS 5) 122 3 0 := ⟨RX3, TX3, 4, rfl, by decide, rfl, iX3, Or.inl (T1_in1 (i := 122) rfl rfl)⟩
set_option maxRecDepth 100000 in
theorem fld_35 : fldW (ownS 3) 20 3 1 := ⟨RX3, TX3, 4, rfl, by decide, rfl, iX3, Or.inl (T1_in1 (i := 123) rfl rfl)⟩
set_option maxRecDepth 100000 in
theorem fld_36 : fldW (ownS 3) 61 3 2 := ⟨RX3, TX3, 4, rfl, by decide, rfl, iX3, Or.inl (T1_in1 (i := 124) rfl rfl)⟩
set_option maxRecDepth 100000 in
theorem fld_37 : fldW (ownS 3) 35 3 3 := ⟨RX3, TX3, 4, rfl, by decide, rfl, iX3, Or.inl (T1_in1 (i := 125) rfl rfl)⟩
set_option maxRecDepth 100000 in
theorem fld_38 : fldW (ownS 1) 9 1 0 := ⟨RX1, TX1, 2, rfl, by decide, rfl, iX1, Or.inl (T1_in1 (i := 141) rfl rfl)⟩
set_option maxRecDepth 100000 in
theorem fld_39 : fldW (ownS 5) 196 1 0 := ⟨RX1, TX1, 2, rfl, by decide, rfl, iX1, Or.inl (T1_in1 (i := 142) rfl rfl)⟩
set_option maxRecDepth 100000 in
theorem fld_40 : fldW (ownS 1) 21 1 1 := ⟨RX1, TX1, 2, rfl, by decide, rfl, iX1, Or.inl (T1_in1 (i := 143) rfl rfl)⟩
set_option maxRecDepth 100000 in
theorem fld_41 : fldW (ownS 2) 9 2 0 := ⟨RX2, TX2, 9, rfl, by decide, rfl, iX2, Or.inl (T1_in1 (i := 155) rfl rfl)⟩
set_option maxRecDepth 100000 in
theorem fld_42 : fldW (ownS 2) 15 2 1 := ⟨RX2, TX2, 9, rfl, by decide, rfl, iX2, Or.inl (T1_in1 (i := 156) rfl rfl)⟩
set_option maxRecDepth 100000 in
theorem fld_43 : fldW (ownS 2) 18 2 2 := ⟨RX2, TX2, 9, rfl, by decide, rfl, iX2, Or.inl (T1_in1 (i := 157) rfl rfl)⟩
set_option maxRecDepth 100000 in
theorem fld_44 : fldW (ownS 2) 21 2 3 := ⟨RX2, TX2, 9, rfl, by decide, rfl, iX2, Or.inl (T1_in1 (i := 158) rfl rfl)⟩
set_option maxRecDepth 100000 in
theorem fld_45 : fldW (ownS 2) 24 2 4 := ⟨RX2, TX2, 9, rfl, by decide, rfl, iX2, Or.inl (T1_in1 (i := 159) rfl rfl)⟩
set_option maxRecDepth 100000 in
theorem fld_46 : fldW (ownS 2) 27 2 5 := ⟨RX2, TX2, 9, rfl, by decide, rfl, iX2, Or.inl (T1_in1 (i := 160) rfl rfl)⟩
set_option maxRecDepth 100000 in
theorem fld_47 : fldW (ownS 2) 62 2 6 := ⟨RX2, TX2, 9, rfl, by decide, rfl, iX2, Or.inl (T1_in1 (i := 161) rfl rfl)⟩
set_option maxRecDepth 100000 in
theorem fld_48 : fldW (ownS 2) 40 2 7 := ⟨RX2, TX2, 9, rfl, by decide, rfl, iX2, Or.inl (T1_in1 (i := 162) rfl rfl)⟩
set_option maxRecDepth 100000 in
theorem fld_49 : fldW (ownS 2) 36 2 8 := ⟨RX2, TX2, 9, rfl, by decide, rfl, iX2, Or.inl (T1_in1 (i := 163) rfl rfl)⟩
set_option maxRecDepth 100000 in
theorem fld_50 : fldW (ownS 5) 14 5 0 := ⟨RX5, TX5, 13, rfl, by decide, rfl, iX5, Or.inl (T1_in1 (i := 183) rfl rfl)⟩
set_option maxRecDepth 100000 in
theorem fld_51 : fldW (ownS 5) 18 5 1 := ⟨RX5, TX5, 13, rfl, by decide, rfl, iX5, Or.inl (T1_in1 (i := 184) rfl rfl)⟩
set_option maxRecDepth 100000 in
theorem fld_52 : fldW (ownS 5) 26 5 2 := ⟨RX5, TX5, 13, rfl, by decide, rfl, iX5, Or.inl (T1_in1 (i := 185) rfl rfl)⟩
set_option maxRecDepth 100000 in
theorem fld_53 : fldW (ownS 5) 30 5 3 := ⟨RX5, TX5, 13, rfl, by decide, rfl, iX5, Or.inl (T1_in1 (i := 186) rfl rfl)⟩
set_option maxRecDepth 100000 in
theorem fld_54 : fldW (ownS 5) 34 5 4 := ⟨RX5, TX5, 13, rfl, by decide, rfl, iX5, Or.inl (T1_in1 (i := 187) rfl rfl)⟩
set_option maxRecDepth 100000 in
theorem fld_55 : fldW (ownS 5) 40 5 5 := ⟨RX5, TX5, 13, rfl, by decide, rfl, iX5, Or.inl (T1_in1 (i := 188) rfl rfl)⟩
set_option maxRecDepth 100000 in
theorem fld_56 : fldW (ownS 5) 47 5 6 := ⟨RX5, TX5, 13, rfl, by decide, rfl, iX5, Or.inl (T1_in1 (i := 189) rfl rfl)⟩
set_option maxRecDepth 100000 in
theorem fld_57 : fldW (ownS 5) 54 5 7 := ⟨RX5, TX5, 13, rfl, by decide, rfl, iX5, Or.inl (T1_in1 (i := 190) rfl rfl)⟩
set_option maxRecDepth 100000 in
theorem fld_58 : fldW (ownS 5) 58 5 8 := ⟨RX5, TX5, 13, rfl, by decide, rfl, iX5, Or.inl (T1_in1 (i := 191) rfl rfl)⟩
set_option maxRecDepth 100000 in
theorem fld_59 : fldW (ownS 5) 320 5 9 := ⟨RX5, TX5, 13, rfl, by decide, rfl, iX5, Or.inl (T1_in1 (i := 192) rfl rfl)⟩
set_option maxRecDepth 100000 in
theorem fld_60 : fldW (ownS 5) 78 5 10 := ⟨RX5, TX5, 13, rfl, by decide, rfl, iX5, Or.inl (T1_in1 (i := 193) rfl rfl)⟩
set_option maxRecDepth 100000 in
theorem fld_61 : fldW (ownS 5) 311 5 11 := ⟨RX5, TX5, 13, rfl, by decide, rfl, iX5, Or.inl (T1_in1 (i := 194) rfl rfl)⟩
set_option maxRecDepth 100000 in
theorem fld_62 : fldW (ownS 5) 62 5 12 := ⟨RX5, TX5, 13, rfl, by decide, rfl, iX5, Or.inl (T1_in1 (i := 195) rfl rfl)⟩
set_option maxRecDepth 100000 in
theorem fld_63 : fldW (ownS 6) 7 6 0 := ⟨RX6, TX6, 29, rfl, by decide, rfl, iX6, Or.inl (T1_in4 (i := 124) rfl rfl)⟩
set_option maxRecDepth 100000 in
theorem fld_64 : fldW (ownS 6) 143 6 1 := ⟨RX6, TX6, 29, rfl, by decide, rfl, iX6, Or.inl (T1_in4 (i := 125) rfl rfl)⟩
set_option maxRecDepth 100000 in
theorem fld_65 : fldW (ownS 6) 13 6 2 := ⟨RX6, TX6, 29, rfl, by decide, rfl, iX6, Or.inl (T1_in4 (i := 126) rfl rfl)⟩
set_option maxRecDepth 100000 in
theorem fld_66 : fldW (ownS 6) 16 6 3 := ⟨RX6, TX6, 29, rfl, by decide, rfl, iX6, Or.inl (T1_in4 (i := 127) rfl rfl)⟩
set_option maxRecDepth 100000 in
theorem fld_67 : fldW (ownS 6) 19 6 4 := ⟨RX6, TX6, 29, rfl, by decide, rfl, iX6, Or.inl (T1_in4 (i := 128) rfl rfl)⟩
set_option maxRecDepth 100000 in
theorem fld_68 : fldW (ownS 6) 22 6 5 := ⟨RX6, TX6, 29, rfl, by decide, rfl, iX6, Or.inl (T1_in4 (i := 129) rfl rfl)⟩
set_option maxRecDepth 100000 in
theorem fld_69 : fldW (ownS 6) 25 6 6 := ⟨RX6, TX6, 29, rfl, by decide, rfl, iX6, Or.inl (T1_in4 (i := 130) rfl rfl)⟩
set_option maxRecDepth 100000 in
theorem fld_70 : fldW (ownS 6) 28 6 7 := ⟨RX6, TX6, 29, rfl, by decide, rfl, iX6, Or.inl (T1_in4 (i := 131) rfl rfl)⟩
set_option maxRecDepth 100000 in
theorem fld_71 : fldW (ownS 6) 31 6 8 := ⟨RX6, TX6, 29, rfl, by decide, rfl, iX6, Or.inl (T1_in4 (i := 132) rfl rfl)⟩
set_option maxRecDepth 100000 in
theorem fld_72 : fldW (ownS 6) 69 6 9 := ⟨RX6, TX6, 29, rfl, by decide, rfl, iX6, Or.inl (T1_in4 (i := 133) rfl rfl)⟩
set_option maxRecDepth 100000 in
theorem fld_73 : fldW (ownS 6) 282 6 10 := ⟨RX6, TX6, 29, rfl, by decide, rfl, iX6, Or.inl (T1_in4 (i := 134) rfl rfl)⟩
set_option maxRecDepth 100000 in
theorem fld_74 : fldW (ownS 6) 34 6 11 := ⟨RX6, TX6, 29, rfl, by decide, rfl, iX6, Or.inl (T1_in4 (i := 135) rfl rfl)⟩
set_option maxRecDepth 100000 in
theorem fld_75 : fldW (ownS 6) 66 6 12 := ⟨RX6, TX6, 29, rfl, by decide, rfl, iX6, Or.inl (T1_in4 (i := 136) rfl rfl)⟩
set_option maxRecDepth 100000 in
theorem fld_76 : fldW (ownS 6) 38 6 13 := ⟨RX6, TX6, 29, rfl, by decide, rfl, iX6, Or.inl (T1_in4 (i := 137) rfl rfl)⟩
set_option maxRecDepth 100000 in
theorem fld_77 : fldW (ownS 6) 106 6 14 := ⟨RX6, TX6, 29, rfl, by decide, rfl, iX6, Or.inl (T1_in4 (i := 138) rfl rfl)⟩
set_option maxRecDepth 100000 in
theorem fld_78 : fldW (ownS 6) 109 6 15 := ⟨RX6, TX6, 29, rfl, by decide, rfl, iX6, Or.inl (T1_in4 (i := 139) rfl rfl)⟩
set_option maxRecDepth 100000 in
theorem fld_79 : fldW (ownS 6) 112 6 16 := ⟨RX6, TX6, 29, rfl, by decide, rfl, iX6, Or.inl (T1_in4 (i := 140) rfl rfl)⟩
set_option maxRecDepth 100000 in
theorem fld_80 : fldW (ownS 6) 41 6 17 := ⟨RX6, TX6, 29, rfl, by decide, rfl, iX6, Or.inl (T1_in4 (i := 141) rfl rfl)⟩
set_option maxRecDepth 100000 in
theorem fld_81 : fldW (ownS 6) 44 6 18 := ⟨RX6, TX6, 29, rfl, by decide, rfl, iX6, Or.inl (T1_in4 (i := 142) rfl rfl)⟩
set_option maxRecDepth 100000 in
theorem fld_82 : fldW (ownS 6) 130 6 19 := ⟨RX6, TX6, 29, rfl, by decide, rfl, iX6, Or.inl (T1_in4 (i := 143) rfl rfl)⟩
set_option maxRecDepth 100000 in
theorem fld_83 : fldW (ownS 6) 47 6 20 := ⟨RX6, TX6, 29, rfl, by decide, rfl, iX6, Or.inl (T1_in4 (i := 144) rfl rfl)⟩
set_option maxRecDepth 100000 in
theorem fld_84 : fldW (ownS 6) 50 6 21 := ⟨RX6, TX6, 29, rfl, by decide, rfl, iX6, Or.inl (T1_in4 (i := 145) rfl rfl)⟩
set_option maxRecDepth 100000 in
theorem fld_85 : fldW (ownS 6) 146 6 22 := ⟨RX6, TX6, 29, rfl, by decide, rfl, iX6, Or.inl (T1_in4 (i := 146) rfl rfl)⟩
set_option maxRecDepth 100000 in
theorem fld_86 : fldW (ownS 6) 149 6 23 := ⟨RX6, TX6, 29, rfl, by decide, rfl, iX6, Or.inl (T1_in4 (i := 147) rfl rfl)⟩
set_option maxRecDepth 100000 in
theorem fld_87 : fldW (ownS 6) 53 6 24 := ⟨RX6, TX6, 29, rfl, by decide, rfl, iX6, Or.inl (T1_in4 (i := 148) rfl rfl)⟩
set_option maxRecDepth 100000 in
theorem fld_88 : fldW (ownS 6) 57 6 25 := ⟨RX6, TX6, 29, rfl, by decide, rfl, iX6, Or.inl (T1_in4 (i := 149) rfl rfl)⟩
set_option maxRecDepth 100000 in
theorem fld_89 : fldW (ownS 6) 152 6 26 := ⟨RX6, TX6, 29, rfl, by decide, rfl, iX6, Or.inl (T1_in4 (i := 150) rfl rfl)⟩
set_option maxRecDepth 100000 in
theorem fld_90 : fldW (ownS 6) 60 6 27 := ⟨RX6, TX6, 29, rfl, by decide, rfl, iX6, Or.inl (T1_in4 (i := 151) rfl rfl)⟩
set_option maxRecDepth 100000 in
theorem fld_91 : fldW (ownS 6) 63 6 28 := ⟨RX6, TX6, 29, rfl, by decide, rfl, iX6, Or.inl (T1_in4 (i := 152) rfl rfl)⟩
set_option maxRecDepth 100000 in
theorem fld_92 : fldW (ownS 5) 334 4 0 := ⟨RX4, TX4, 3, rfl, by decide, rfl, iX4, Or.inr rfl⟩
set_option maxRecDepth 100000 in
theorem fld_ok : ∀ q ∈ fldTab, fldW (ownS q.1) q.2.1 q.2.2.1 q.2.2.2 := List.forall_mem_cons.mpr ⟨fld_0, List.forall_mem_cons.mpr ⟨fld_1, List.forall_mem_cons.mpr ⟨fld_2, List.forall_mem_cons.mpr ⟨fld_3, List.forall_mem_cons.mpr ⟨fld_4, List.forall_mem_cons.mpr ⟨fld_5, List.forall_mem_cons.mpr ⟨fld_6, List.forall_mem_cons.mpr ⟨fld_7, List.forall_mem_cons.mpr ⟨fld_8, List.forall_mem_cons.mpr ⟨fld_9, List.forall_mem_cons.mpr ⟨fld_10, List.forall_mem_cons.mpr ⟨fld_11, List.forall_mem_cons.mpr ⟨fld_12, List.forall_mem_cons.mpr ⟨fld_13, List.forall_mem_cons.mpr ⟨fld_14, List.forall_mem_cons.mpr ⟨fld_15, List.forall_mem_cons.mpr ⟨fld_16, List.forall_mem_cons.mpr ⟨fld_17, List.forall_mem_cons.mpr ⟨fld_18, List.forall_mem_cons.mpr ⟨fld_19, List.forall_mem_cons.mpr ⟨fld_20, List.forall_mem_cons.mpr ⟨fld_21, List.forall_mem_cons.mpr ⟨fld_22, List.forall_mem_cons.mpr ⟨fld_23, List.forall_mem_cons.mpr ⟨fld_24, List.forall_mem_cons.mpr ⟨fld_25, List.forall_mem_cons.mpr ⟨fld_26, List.forall_mem_cons.mpr ⟨fld_27, List.forall_mem_cons.mpr ⟨fld_28, List.forall_mem_cons.mpr ⟨fld_29, List.forall_mem_cons.mpr ⟨fld_30, List.forall_mem_cons.mpr ⟨fld_31, List.forall_mem_cons.mpr ⟨fld_32, List.forall_mem_cons.mpr ⟨fld_33, List.forall_mem_cons.mpr ⟨fld_34, List.forall_mem_cons.mpr ⟨fld_35, List.forall_mem_cons.mpr ⟨fld_36, List.forall_mem_cons.mpr ⟨fld_37, List.forall_mem_cons.mpr ⟨fld_38, List.forall_mem_cons.mpr ⟨fld_39, List.forall_mem_cons.mpr ⟨fld_40, List.forall_mem_cons.mpr ⟨fld_41, List.forall_mem_cons.mpr ⟨fld_42, List.forall_mem_cons.mpr ⟨fld_43, List.forall_mem_cons.mpr ⟨fld_44, List.forall_mem_cons.mpr ⟨fld_45, List.forall_mem_cons.mpr ⟨fld_46, List.forall_mem_cons.mpr ⟨fld_47, List.forall_mem_cons.mpr ⟨fld_48, List.forall_mem_cons.mpr ⟨fld_49, List.forall_mem_cons.mpr ⟨fld_50, List.forall_mem_cons.mpr ⟨fld_51, List.forall_mem_cons.mpr ⟨fld_52, List.forall_mem_cons.mpr ⟨fld_53, List.forall_mem_cons.mpr ⟨fld_54, List.forall_mem_cons.mpr ⟨fld_55, List.forall_mem_cons.mpr ⟨fld_56, List.forall_mem_cons.mpr ⟨fld_57, List.forall_mem_cons.mpr ⟨fld_58, List.forall_mem_cons.mpr ⟨fld_59, List.forall_mem_cons.mpr ⟨fld_60, List.forall_mem_cons.mpr ⟨fld_61, List.forall_mem_cons.mpr ⟨fld_62, List.forall_mem_cons.mpr ⟨fld_63, List.forall_mem_cons.mpr ⟨fld_64, List.forall_mem_cons.mpr ⟨fld_65, List.forall_mem_cons.mpr ⟨fld_66, List.forall_mem_cons.mpr ⟨fld_67, List.forall_mem_cons.mpr ⟨fld_68, List.forall_mem_cons.mpr ⟨fld_69, List.forall_mem_cons.mpr ⟨fld_70, List.forall_mem_cons.mpr ⟨fld_71, List.forall_mem_cons.mpr ⟨fld_72, List.forall_mem_cons.mpr ⟨fld_73, List.forall_mem_cons.mpr ⟨fld_74, List.forall_mem_cons.mpr ⟨fld_75, List.forall_mem_cons.mpr ⟨fld_76, List.forall_mem_cons.mpr ⟨fld_77, List.forall_mem_cons.mpr ⟨fld_78, List.forall_mem_cons.mpr ⟨fld_79, List.forall_mem_cons.mpr ⟨fld_80, List.forall_mem_cons.mpr ⟨fld_81, List.forall_mem_cons.mpr ⟨fld_82, List.forall_mem_cons.mpr ⟨fld_83, List.forall_mem_cons.mpr ⟨fld_84, List.forall_mem_cons.mpr ⟨fld_85, List.forall_mem_cons.mpr ⟨fld_86, List.forall_mem_cons.mpr ⟨fld_87, List.forall_mem_cons.mpr ⟨fld_88, List.forall_mem_cons.mpr ⟨fld_89, List.forall_mem_cons.mpr ⟨fld_90, List.forall_mem_cons.mpr ⟨fld_91, List.forall_mem_cons.mpr ⟨fld_92, fun _ h => absurd h List.not_mem_nil⟩⟩⟩⟩⟩⟩⟩⟩⟩⟩⟩⟩⟩⟩⟩⟩⟩⟩⟩⟩⟩⟩⟩⟩⟩⟩⟩⟩⟩⟩⟩⟩⟩⟩⟩⟩⟩⟩⟩⟩⟩⟩⟩⟩⟩⟩⟩⟩⟩⟩⟩⟩⟩⟩⟩⟩⟩⟩⟩⟩⟩⟩⟩⟩⟩⟩⟩⟩⟩⟩⟩⟩⟩⟩⟩⟩⟩⟩⟩⟩⟩⟩⟩⟩⟩⟩⟩⟩⟩⟩⟩⟩⟩
