def MX8_init : Mx := (yX8_init, cX8_init, 4, none, 12)
def MX7_init : Mx := (yX7_init, cX7_init, 1, none, 1)
def MX1_init : Mx := (yX1_init, cX1_init, 1, none, 1)
def MX4_init : Mx := (yX4_init, cX4_init, 1, none, 1)
def MX10_init : Mx := (yX10_init, cX10_init, 1, none, 2)
def MX3_init : Mx := (yX3_init, cX3_init, 3, none, 23)
def MX2_init : Mx := (yX2_init, cX2_init, 1, none, 1)
def MX0_init : Mx := (yX0_init, cX0_init, 2, none, 1)
def MX9_init : Mx := (yX9_init, cX9_init, 3, none, 2)
def MX5_init : Mx := (yX5_init, cX5_init, 3, none, 1)
def MX6_init : Mx := (yX6_init, cX6_init, 1, none, 1)
def MX11_init : Mx := (yX11_init, cX11_init, 2, none, 34)
def MX12_init : Mx := (yX12_init, cX12_init, 1, none, 6)
theorem fa_RX1_9 : FA RX1 9 1 2 (.array .long) true := ⟨RX1, TX1, 7, tyX1, rfl, by decide, tb1 64 (by decide +kernel) (by decide +kernel), wsin_1, tyX1_ok, nmX1, tyX1_ok 2 (by decide), rfl, rfl, rfl⟩
theorem fa_RX10_25 : FA RX10 25 10 6 (.array .long) true := ⟨RX10, TX10, 17, tyX10, rfl, by decide, tb1 149 (by decide +kernel) (by decide +kernel), wsin_10, tyX10_ok, nmX10, tyX10_ok 6 (by decide), rfl, rfl, rfl⟩
theorem fa_RX10_46 : FA RX10 46 10 12 (.array .long) true := ⟨RX10, TX10, 17, tyX10, rfl, by decide, tb1 171 (by decide +kernel) (by decide +kernel), wsin_10, tyX10_ok, nmX10, tyX10_ok 12 (by decide), rfl, rfl, rfl⟩
theorem fa_RX3_32 : FA RX3 32 10 0 (.object "NoonSquare$Land") true := ⟨RX10, TX10, 17, tyX10, rfl, by decide, tb1 122 (by decide +kernel) (by decide +kernel), wsin_10, tyX10_ok, nmX10, tyX10_ok 0 (by decide), rfl, rfl, rfl⟩
theorem fa_RX3_39 : FA RX3 39 10 1 (.object "NoonSquare$Rules") true := ⟨RX10, TX10, 17, tyX10, rfl, by decide, tb1 127 (by decide +kernel) (by decide +kernel), wsin_10, tyX10_ok, nmX10, tyX10_ok 1 (by decide), rfl, rfl, rfl⟩
theorem oi_RX11_1 : Cond.methodLink RX11 1 Lib.objectInit ∈ tbg := tb1 26 (by decide +kernel) (by decide +kernel)
theorem oi_w : Cond.instanceMethod Lib.objectInit ∈ tbg ∧ Cond.code Lib.objectInit ⟨#[0xb1]⟩ 1 none ∈ tbg := ⟨tb1 27 (by decide +kernel) (by decide +kernel), tb1 28 (by decide +kernel) (by decide +kernel)⟩
theorem hdf_7 : ∀ j, j < 2 → defaultValue (tyX7 j) = match fk 7 j with | 0 => .int 0 | 1 => .long 0 | _ => .null := by decide +kernel
theorem cl_RX11_7 : Cond.classLink RX11 7 RX7 ∈ tbg := tb1 29 (by decide +kernel) (by decide +kernel)
theorem inst_7 : Cond.instantiable RX7 2 ∈ tbg ∧ Cond.initialized RX7 ∈ tbg := ⟨tb1 30 (by decide +kernel) (by decide +kernel), tb1 2 (by decide +kernel) (by decide +kernel)⟩
theorem obk_1 : sk 1 = 7 + 10 ∧ sl 1 = (fkL.getD 7 []).length := ⟨by decide +kernel, by decide +kernel⟩
theorem oi_RX7_3 : Cond.methodLink RX7 3 Lib.objectInit ∈ tbg := tb1 34 (by decide +kernel) (by decide +kernel)
theorem ni_1700 : (1700 : Int32) = nI 1700 := by decide +kernel
theorem acl_byte : Cond.arrayClass .byte ∈ tbg := tb1 44 (by decide +kernel) (by decide +kernel)
theorem ark_2 : sk 2 = 3 ∧ sl 2 = 1700 := ⟨by decide +kernel, by decide +kernel⟩
theorem ci_RX7 : Cond.instanceMethod (mY MX7_init) ∈ tbg ∧ Cond.initialized (mY MX7_init).cls ∈ tbg ∧ Cond.code (mY MX7_init) (mC MX7_init) (mL MX7_init) (mR MX7_init) ∈ tbg := ⟨tb1 32 (by decide +kernel) (by decide +kernel), tb1 2 (by decide +kernel) (by decide +kernel), tb1 33 (by decide +kernel) (by decide +kernel)⟩
theorem obk_0 : sk 0 = 11 + 10 ∧ sl 0 = (fkL.getD 11 []).length := ⟨by decide +kernel, by decide +kernel⟩
theorem hdf_10 : ∀ j, j < 17 → defaultValue (tyX10 j) = match fk 10 j with | 0 => .int 0 | 1 => .long 0 | _ => .null := by decide +kernel
theorem cl_RX11_16 : Cond.classLink RX11 16 RX10 ∈ tbg := tb1 45 (by decide +kernel) (by decide +kernel)
theorem inst_10 : Cond.instantiable RX10 17 ∈ tbg ∧ Cond.initialized RX10 ∈ tbg := ⟨tb1 46 (by decide +kernel) (by decide +kernel), tb1 3 (by decide +kernel) (by decide +kernel)⟩
theorem obk_3 : sk 3 = 10 + 10 ∧ sl 3 = (fkL.getD 10 []).length := ⟨by decide +kernel, by decide +kernel⟩
theorem oi_RX10_3 : Cond.methodLink RX10 3 Lib.objectInit ∈ tbg := tb1 50 (by decide +kernel) (by decide +kernel)
theorem hdf_1 : ∀ j, j < 7 → defaultValue (tyX1 j) = match fk 1 j with | 0 => .int 0 | 1 => .long 0 | _ => .null := by decide +kernel
theorem cl_RX10_9 : Cond.classLink RX10 9 RX1 ∈ tbg := tb1 51 (by decide +kernel) (by decide +kernel)
theorem inst_1 : Cond.instantiable RX1 7 ∈ tbg ∧ Cond.initialized RX1 ∈ tbg := ⟨tb1 52 (by decide +kernel) (by decide +kernel), tb1 4 (by decide +kernel) (by decide +kernel)⟩
theorem obk_4 : sk 4 = 1 + 10 ∧ sl 4 = (fkL.getD 1 []).length := ⟨by decide +kernel, by decide +kernel⟩
theorem oi_RX1_3 : Cond.methodLink RX1 3 Lib.objectInit ∈ tbg := tb1 56 (by decide +kernel) (by decide +kernel)
theorem ni_8 : (8 : Int32) = nI 8 := by decide +kernel
theorem acl_long : Cond.arrayClass .long ∈ tbg := tb1 89 (by decide +kernel) (by decide +kernel)
theorem ark_5 : sk 5 = 1 ∧ sl 5 = 8 := ⟨by decide +kernel, by decide +kernel⟩
theorem acl_int : Cond.arrayClass .int ∈ tbg := tb1 90 (by decide +kernel) (by decide +kernel)
theorem ark_6 : sk 6 = 0 ∧ sl 6 = 8 := ⟨by decide +kernel, by decide +kernel⟩
theorem ark_7 : sk 7 = 0 ∧ sl 7 = 8 := ⟨by decide +kernel, by decide +kernel⟩
theorem ni_64 : (64 : Int32) = nI 64 := by decide +kernel
theorem ark_8 : sk 8 = 0 ∧ sl 8 = 64 := ⟨by decide +kernel, by decide +kernel⟩
theorem ark_9 : sk 9 = 0 ∧ sl 9 = 8 := ⟨by decide +kernel, by decide +kernel⟩
theorem ci_RX1 : Cond.instanceMethod (mY MX1_init) ∈ tbg ∧ Cond.initialized (mY MX1_init).cls ∈ tbg ∧ Cond.code (mY MX1_init) (mC MX1_init) (mL MX1_init) (mR MX1_init) ∈ tbg := ⟨tb1 54 (by decide +kernel) (by decide +kernel), tb1 4 (by decide +kernel) (by decide +kernel), tb1 55 (by decide +kernel) (by decide +kernel)⟩
theorem hdf_4 : ∀ j, j < 6 → defaultValue (tyX4 j) = match fk 4 j with | 0 => .int 0 | 1 => .long 0 | _ => .null := by decide +kernel
theorem cl_RX10_18 : Cond.classLink RX10 18 RX4 ∈ tbg := tb1 91 (by decide +kernel) (by decide +kernel)
theorem inst_4 : Cond.instantiable RX4 6 ∈ tbg ∧ Cond.initialized RX4 ∈ tbg := ⟨tb1 92 (by decide +kernel) (by decide +kernel), tb1 5 (by decide +kernel) (by decide +kernel)⟩
theorem obk_10 : sk 10 = 4 + 10 ∧ sl 10 = (fkL.getD 4 []).length := ⟨by decide +kernel, by decide +kernel⟩
theorem oi_RX4_3 : Cond.methodLink RX4 3 Lib.objectInit ∈ tbg := tb1 96 (by decide +kernel) (by decide +kernel)
theorem ni_6 : (6 : Int32) = nI 6 := by decide +kernel
theorem ark_11 : sk 11 = 0 ∧ sl 11 = 6 := ⟨by decide +kernel, by decide +kernel⟩
theorem ark_12 : sk 12 = 0 ∧ sl 12 = 6 := ⟨by decide +kernel, by decide +kernel⟩
theorem ni_720 : (720 : Int32) = nI 720 := by decide +kernel
theorem ark_13 : sk 13 = 0 ∧ sl 13 = 720 := ⟨by decide +kernel, by decide +kernel⟩
theorem ni_80 : (80 : Int32) = nI 80 := by decide +kernel
theorem ark_14 : sk 14 = 0 ∧ sl 14 = 80 := ⟨by decide +kernel, by decide +kernel⟩
theorem ci_RX4 : Cond.instanceMethod (mY MX4_init) ∈ tbg ∧ Cond.initialized (mY MX4_init).cls ∈ tbg ∧ Cond.code (mY MX4_init) (mC MX4_init) (mL MX4_init) (mR MX4_init) ∈ tbg := ⟨tb1 94 (by decide +kernel) (by decide +kernel), tb1 5 (by decide +kernel) (by decide +kernel), tb1 95 (by decide +kernel) (by decide +kernel)⟩
theorem ni_10 : (10 : Int32) = nI 10 := by decide +kernel
theorem ark_15 : sk 15 = 1 ∧ sl 15 = 10 := ⟨by decide +kernel, by decide +kernel⟩
theorem ark_16 : sk 16 = 0 ∧ sl 16 = 10 := ⟨by decide +kernel, by decide +kernel⟩
theorem ark_17 : sk 17 = 0 ∧ sl 17 = 10 := ⟨by decide +kernel, by decide +kernel⟩
theorem ark_18 : sk 18 = 0 ∧ sl 18 = 10 := ⟨by decide +kernel, by decide +kernel⟩
theorem ark_19 : sk 19 = 0 ∧ sl 19 = 10 := ⟨by decide +kernel, by decide +kernel⟩
theorem acl_boolean : Cond.arrayClass .boolean ∈ tbg := tb1 222 (by decide +kernel) (by decide +kernel)
theorem ark_20 : sk 20 = 2 ∧ sl 20 = 10 := ⟨by decide +kernel, by decide +kernel⟩
theorem ark_21 : sk 21 = 1 ∧ sl 21 = 6 := ⟨by decide +kernel, by decide +kernel⟩
theorem ark_22 : sk 22 = 0 ∧ sl 22 = 6 := ⟨by decide +kernel, by decide +kernel⟩
theorem ark_23 : sk 23 = 0 ∧ sl 23 = 6 := ⟨by decide +kernel, by decide +kernel⟩
theorem ark_24 : sk 24 = 0 ∧ sl 24 = 6 := ⟨by decide +kernel, by decide +kernel⟩
theorem ark_25 : sk 25 = 0 ∧ sl 25 = 6 := ⟨by decide +kernel, by decide +kernel⟩
theorem ci_RX10 : Cond.instanceMethod (mY MX10_init) ∈ tbg ∧ Cond.initialized (mY MX10_init).cls ∈ tbg ∧ Cond.code (mY MX10_init) (mC MX10_init) (mL MX10_init) (mR MX10_init) ∈ tbg := ⟨tb1 48 (by decide +kernel) (by decide +kernel), tb1 3 (by decide +kernel) (by decide +kernel), tb1 49 (by decide +kernel) (by decide +kernel)⟩
theorem obk_26 : sk 26 = 10 + 10 ∧ sl 26 = (fkL.getD 10 []).length := ⟨by decide +kernel, by decide +kernel⟩
theorem obk_27 : sk 27 = 1 + 10 ∧ sl 27 = (fkL.getD 1 []).length := ⟨by decide +kernel, by decide +kernel⟩
theorem ark_28 : sk 28 = 1 ∧ sl 28 = 8 := ⟨by decide +kernel, by decide +kernel⟩
theorem ark_29 : sk 29 = 0 ∧ sl 29 = 8 := ⟨by decide +kernel, by decide +kernel⟩
theorem ark_30 : sk 30 = 0 ∧ sl 30 = 8 := ⟨by decide +kernel, by decide +kernel⟩
theorem ark_31 : sk 31 = 0 ∧ sl 31 = 64 := ⟨by decide +kernel, by decide +kernel⟩
theorem ark_32 : sk 32 = 0 ∧ sl 32 = 8 := ⟨by decide +kernel, by decide +kernel⟩
theorem obk_33 : sk 33 = 4 + 10 ∧ sl 33 = (fkL.getD 4 []).length := ⟨by decide +kernel, by decide +kernel⟩
theorem ark_34 : sk 34 = 0 ∧ sl 34 = 6 := ⟨by decide +kernel, by decide +kernel⟩
theorem ark_35 : sk 35 = 0 ∧ sl 35 = 6 := ⟨by decide +kernel, by decide +kernel⟩
theorem ark_36 : sk 36 = 0 ∧ sl 36 = 720 := ⟨by decide +kernel, by decide +kernel⟩
theorem ark_37 : sk 37 = 0 ∧ sl 37 = 80 := ⟨by decide +kernel, by decide +kernel⟩
theorem ark_38 : sk 38 = 1 ∧ sl 38 = 10 := ⟨by decide +kernel, by decide +kernel⟩
theorem ark_39 : sk 39 = 0 ∧ sl 39 = 10 := ⟨by decide +kernel, by decide +kernel⟩
theorem ark_40 : sk 40 = 0 ∧ sl 40 = 10 := ⟨by decide +kernel, by decide +kernel⟩
theorem ark_41 : sk 41 = 0 ∧ sl 41 = 10 := ⟨by decide +kernel, by decide +kernel⟩
theorem ark_42 : sk 42 = 0 ∧ sl 42 = 10 := ⟨by decide +kernel, by decide +kernel⟩
theorem ark_43 : sk 43 = 2 ∧ sl 43 = 10 := ⟨by decide +kernel, by decide +kernel⟩
theorem ark_44 : sk 44 = 1 ∧ sl 44 = 6 := ⟨by decide +kernel, by decide +kernel⟩
theorem ark_45 : sk 45 = 0 ∧ sl 45 = 6 := ⟨by decide +kernel, by decide +kernel⟩
theorem ark_46 : sk 46 = 0 ∧ sl 46 = 6 := ⟨by decide +kernel, by decide +kernel⟩
theorem ark_47 : sk 47 = 0 ∧ sl 47 = 6 := ⟨by decide +kernel, by decide +kernel⟩
theorem ark_48 : sk 48 = 0 ∧ sl 48 = 6 := ⟨by decide +kernel, by decide +kernel⟩
theorem hdf_3 : ∀ j, j < 9 → defaultValue (tyX3 j) = match fk 3 j with | 0 => .int 0 | 1 => .long 0 | _ => .null := by decide +kernel
theorem cl_RX11_26 : Cond.classLink RX11 26 RX3 ∈ tbg := tb1 223 (by decide +kernel) (by decide +kernel)
theorem inst_3 : Cond.instantiable RX3 9 ∈ tbg ∧ Cond.initialized RX3 ∈ tbg := ⟨tb1 224 (by decide +kernel) (by decide +kernel), tb1 6 (by decide +kernel) (by decide +kernel)⟩
theorem obk_49 : sk 49 = 3 + 10 ∧ sl 49 = (fkL.getD 3 []).length := ⟨by decide +kernel, by decide +kernel⟩
theorem oi_RX3_3 : Cond.methodLink RX3 3 Lib.objectInit ∈ tbg := tb1 228 (by decide +kernel) (by decide +kernel)
theorem ni_1 : (1 : Int32) = nI 1 := by decide +kernel
theorem ark_50 : sk 50 = 0 ∧ sl 50 = 1 := ⟨by decide +kernel, by decide +kernel⟩
theorem hdf_8 : ∀ j, j < 7 → defaultValue (tyX8 j) = match fk 8 j with | 0 => .int 0 | 1 => .long 0 | _ => .null := by decide +kernel
theorem cl_RX3_19 : Cond.classLink RX3 19 RX8 ∈ tbg := tb1 229 (by decide +kernel) (by decide +kernel)
theorem inst_8 : Cond.instantiable RX8 7 ∈ tbg ∧ Cond.initialized RX8 ∈ tbg := ⟨tb1 230 (by decide +kernel) (by decide +kernel), tb1 7 (by decide +kernel) (by decide +kernel)⟩
theorem obk_51 : sk 51 = 8 + 10 ∧ sl 51 = (fkL.getD 8 []).length := ⟨by decide +kernel, by decide +kernel⟩
theorem oi_RX8_3 : Cond.methodLink RX8 3 Lib.objectInit ∈ tbg := tb1 234 (by decide +kernel) (by decide +kernel)
theorem ni_28 : (28 : Int32) = nI 28 := by decide +kernel
theorem ark_52 : sk 52 = 1 ∧ sl 52 = 28 := ⟨by decide +kernel, by decide +kernel⟩
theorem ci_RX8 : Cond.instanceMethod (mY MX8_init) ∈ tbg ∧ Cond.initialized (mY MX8_init).cls ∈ tbg ∧ Cond.code (mY MX8_init) (mC MX8_init) (mL MX8_init) (mR MX8_init) ∈ tbg := ⟨tb1 232 (by decide +kernel) (by decide +kernel), tb1 7 (by decide +kernel) (by decide +kernel), tb1 233 (by decide +kernel) (by decide +kernel)⟩
theorem cm_RX3_21 : Cond.methodLink RX3 21 (mY MX8_init) ∈ tbg := tb1 231 (by decide +kernel) (by decide +kernel)
theorem ci_RX3 : Cond.instanceMethod (mY MX3_init) ∈ tbg ∧ Cond.initialized (mY MX3_init).cls ∈ tbg ∧ Cond.code (mY MX3_init) (mC MX3_init) (mL MX3_init) (mR MX3_init) ∈ tbg := ⟨tb1 226 (by decide +kernel) (by decide +kernel), tb1 6 (by decide +kernel) (by decide +kernel), tb1 227 (by decide +kernel) (by decide +kernel)⟩
theorem cm_RX11_28 : Cond.methodLink RX11 28 (mY MX3_init) ∈ tbg := tb1 225 (by decide +kernel) (by decide +kernel)
theorem hdf_2 : ∀ j, j < 11 → defaultValue (tyX2 j) = match fk 2 j with | 0 => .int 0 | 1 => .long 0 | _ => .null := by decide +kernel
theorem cl_RX11_35 : Cond.classLink RX11 35 RX2 ∈ tbg := tb2 99 (by decide +kernel) (by decide +kernel)
theorem inst_2 : Cond.instantiable RX2 11 ∈ tbg ∧ Cond.initialized RX2 ∈ tbg := ⟨tb2 100 (by decide +kernel) (by decide +kernel), tb1 12 (by decide +kernel) (by decide +kernel)⟩
theorem obk_53 : sk 53 = 2 + 10 ∧ sl 53 = (fkL.getD 2 []).length := ⟨by decide +kernel, by decide +kernel⟩
theorem oi_RX2_3 : Cond.methodLink RX2 3 Lib.objectInit ∈ tbg := tb2 104 (by decide +kernel) (by decide +kernel)
theorem ark_54 : sk 54 = 0 ∧ sl 54 = 10 := ⟨by decide +kernel, by decide +kernel⟩
theorem ark_55 : sk 55 = 0 ∧ sl 55 = 10 := ⟨by decide +kernel, by decide +kernel⟩
theorem ark_56 : sk 56 = 0 ∧ sl 56 = 10 := ⟨by decide +kernel, by decide +kernel⟩
theorem ark_57 : sk 57 = 0 ∧ sl 57 = 10 := ⟨by decide +kernel, by decide +kernel⟩
theorem ark_58 : sk 58 = 2 ∧ sl 58 = 10 := ⟨by decide +kernel, by decide +kernel⟩
theorem ark_59 : sk 59 = 0 ∧ sl 59 = 6 := ⟨by decide +kernel, by decide +kernel⟩
theorem ark_60 : sk 60 = 0 ∧ sl 60 = 6 := ⟨by decide +kernel, by decide +kernel⟩
theorem ni_600 : (600 : Int32) = nI 600 := by decide +kernel
theorem ark_61 : sk 61 = 0 ∧ sl 61 = 600 := ⟨by decide +kernel, by decide +kernel⟩
theorem ci_RX2 : Cond.instanceMethod (mY MX2_init) ∈ tbg ∧ Cond.initialized (mY MX2_init).cls ∈ tbg ∧ Cond.code (mY MX2_init) (mC MX2_init) (mL MX2_init) (mR MX2_init) ∈ tbg := ⟨tb2 102 (by decide +kernel) (by decide +kernel), tb1 12 (by decide +kernel) (by decide +kernel), tb2 103 (by decide +kernel) (by decide +kernel)⟩
theorem hdf_0 : ∀ j, j < 7 → defaultValue (tyX0 j) = match fk 0 j with | 0 => .int 0 | 1 => .long 0 | _ => .null := by decide +kernel
theorem cl_RX11_42 : Cond.classLink RX11 42 RX0 ∈ tbg := tb2 168 (by decide +kernel) (by decide +kernel)
theorem inst_0 : Cond.instantiable RX0 7 ∈ tbg ∧ Cond.initialized RX0 ∈ tbg := ⟨tb2 169 (by decide +kernel) (by decide +kernel), tb1 13 (by decide +kernel) (by decide +kernel)⟩
theorem obk_62 : sk 62 = 0 + 10 ∧ sl 62 = (fkL.getD 0 []).length := ⟨by decide +kernel, by decide +kernel⟩
theorem oi_RX0_3 : Cond.methodLink RX0 3 Lib.objectInit ∈ tbg := tb2 173 (by decide +kernel) (by decide +kernel)
theorem ni_11 : (11 : Int32) = nI 11 := by decide +kernel
theorem ark_63 : sk 63 = 0 ∧ sl 63 = 11 := ⟨by decide +kernel, by decide +kernel⟩
theorem ark_64 : sk 64 = 0 ∧ sl 64 = 10 := ⟨by decide +kernel, by decide +kernel⟩
theorem ark_65 : sk 65 = 0 ∧ sl 65 = 10 := ⟨by decide +kernel, by decide +kernel⟩
theorem ark_66 : sk 66 = 0 ∧ sl 66 = 6 := ⟨by decide +kernel, by decide +kernel⟩
theorem ark_67 : sk 67 = 0 ∧ sl 67 = 6 := ⟨by decide +kernel, by decide +kernel⟩
theorem ark_68 : sk 68 = 0 ∧ sl 68 = 10 := ⟨by decide +kernel, by decide +kernel⟩
theorem ci_RX0 : Cond.instanceMethod (mY MX0_init) ∈ tbg ∧ Cond.initialized (mY MX0_init).cls ∈ tbg ∧ Cond.code (mY MX0_init) (mC MX0_init) (mL MX0_init) (mR MX0_init) ∈ tbg := ⟨tb2 171 (by decide +kernel) (by decide +kernel), tb1 13 (by decide +kernel) (by decide +kernel), tb2 172 (by decide +kernel) (by decide +kernel)⟩
theorem cm_RX11_44 : Cond.methodLink RX11 44 (mY MX0_init) ∈ tbg := tb2 170 (by decide +kernel) (by decide +kernel)
theorem hdf_9 : ∀ j, j < 7 → defaultValue (tyX9 j) = match fk 9 j with | 0 => .int 0 | 1 => .long 0 | _ => .null := by decide +kernel
theorem cl_RX11_51 : Cond.classLink RX11 51 RX9 ∈ tbg := tb2 197 (by decide +kernel) (by decide +kernel)
theorem inst_9 : Cond.instantiable RX9 7 ∈ tbg ∧ Cond.initialized RX9 ∈ tbg := ⟨tb2 198 (by decide +kernel) (by decide +kernel), tb1 14 (by decide +kernel) (by decide +kernel)⟩
theorem obk_69 : sk 69 = 9 + 10 ∧ sl 69 = (fkL.getD 9 []).length := ⟨by decide +kernel, by decide +kernel⟩
theorem oi_RX9_3 : Cond.methodLink RX9 3 Lib.objectInit ∈ tbg := tb2 202 (by decide +kernel) (by decide +kernel)
theorem cl_RX9_9 : Cond.classLink RX9 9 RX2 ∈ tbg := tb2 203 (by decide +kernel) (by decide +kernel)
theorem obk_70 : sk 70 = 2 + 10 ∧ sl 70 = (fkL.getD 2 []).length := ⟨by decide +kernel, by decide +kernel⟩
theorem ark_71 : sk 71 = 0 ∧ sl 71 = 10 := ⟨by decide +kernel, by decide +kernel⟩
theorem ark_72 : sk 72 = 0 ∧ sl 72 = 10 := ⟨by decide +kernel, by decide +kernel⟩
theorem ark_73 : sk 73 = 0 ∧ sl 73 = 10 := ⟨by decide +kernel, by decide +kernel⟩
theorem ark_74 : sk 74 = 0 ∧ sl 74 = 10 := ⟨by decide +kernel, by decide +kernel⟩
theorem ark_75 : sk 75 = 2 ∧ sl 75 = 10 := ⟨by decide +kernel, by decide +kernel⟩
theorem ark_76 : sk 76 = 0 ∧ sl 76 = 6 := ⟨by decide +kernel, by decide +kernel⟩
theorem ark_77 : sk 77 = 0 ∧ sl 77 = 6 := ⟨by decide +kernel, by decide +kernel⟩
theorem ark_78 : sk 78 = 0 ∧ sl 78 = 600 := ⟨by decide +kernel, by decide +kernel⟩
theorem ni_101 : (101 : Int32) = nI 101 := by decide +kernel
theorem ark_79 : sk 79 = 1 ∧ sl 79 = 101 := ⟨by decide +kernel, by decide +kernel⟩
theorem ci_RX9 : Cond.instanceMethod (mY MX9_init) ∈ tbg ∧ Cond.initialized (mY MX9_init).cls ∈ tbg ∧ Cond.code (mY MX9_init) (mC MX9_init) (mL MX9_init) (mR MX9_init) ∈ tbg := ⟨tb2 200 (by decide +kernel) (by decide +kernel), tb1 14 (by decide +kernel) (by decide +kernel), tb2 201 (by decide +kernel) (by decide +kernel)⟩
theorem cm_RX11_53 : Cond.methodLink RX11 53 (mY MX9_init) ∈ tbg := tb2 199 (by decide +kernel) (by decide +kernel)
theorem hdf_5 : ∀ j, j < 9 → defaultValue (tyX5 j) = match fk 5 j with | 0 => .int 0 | 1 => .long 0 | _ => .null := by decide +kernel
theorem cl_RX11_60 : Cond.classLink RX11 60 RX5 ∈ tbg := tb2 230 (by decide +kernel) (by decide +kernel)
theorem inst_5 : Cond.instantiable RX5 9 ∈ tbg ∧ Cond.initialized RX5 ∈ tbg := ⟨tb2 231 (by decide +kernel) (by decide +kernel), tb1 15 (by decide +kernel) (by decide +kernel)⟩
theorem obk_80 : sk 80 = 5 + 10 ∧ sl 80 = (fkL.getD 5 []).length := ⟨by decide +kernel, by decide +kernel⟩
theorem oi_RX5_3 : Cond.methodLink RX5 3 Lib.objectInit ∈ tbg := tb2 235 (by decide +kernel) (by decide +kernel)
theorem ni_66 : (66 : Int32) = nI 66 := by decide +kernel
theorem ark_81 : sk 81 = 0 ∧ sl 81 = 66 := ⟨by decide +kernel, by decide +kernel⟩
theorem ark_82 : sk 82 = 0 ∧ sl 82 = 6 := ⟨by decide +kernel, by decide +kernel⟩
theorem ark_83 : sk 83 = 0 ∧ sl 83 = 6 := ⟨by decide +kernel, by decide +kernel⟩
theorem ark_84 : sk 84 = 0 ∧ sl 84 = 6 := ⟨by decide +kernel, by decide +kernel⟩
theorem ci_RX5 : Cond.instanceMethod (mY MX5_init) ∈ tbg ∧ Cond.initialized (mY MX5_init).cls ∈ tbg ∧ Cond.code (mY MX5_init) (mC MX5_init) (mL MX5_init) (mR MX5_init) ∈ tbg := ⟨tb2 233 (by decide +kernel) (by decide +kernel), tb1 15 (by decide +kernel) (by decide +kernel), tb2 234 (by decide +kernel) (by decide +kernel)⟩
theorem cm_RX11_62 : Cond.methodLink RX11 62 (mY MX5_init) ∈ tbg := tb2 232 (by decide +kernel) (by decide +kernel)
theorem hdf_6 : ∀ j, j < 6 → defaultValue (tyX6 j) = match fk 6 j with | 0 => .int 0 | 1 => .long 0 | _ => .null := by decide +kernel
theorem cl_RX11_69 : Cond.classLink RX11 69 RX6 ∈ tbg := tb3 28 (by decide +kernel) (by decide +kernel)
theorem inst_6 : Cond.instantiable RX6 6 ∈ tbg ∧ Cond.initialized RX6 ∈ tbg := ⟨tb3 29 (by decide +kernel) (by decide +kernel), tb1 16 (by decide +kernel) (by decide +kernel)⟩
theorem obk_85 : sk 85 = 6 + 10 ∧ sl 85 = (fkL.getD 6 []).length := ⟨by decide +kernel, by decide +kernel⟩
theorem oi_RX6_3 : Cond.methodLink RX6 3 Lib.objectInit ∈ tbg := tb3 33 (by decide +kernel) (by decide +kernel)
theorem ni_40 : (40 : Int32) = nI 40 := by decide +kernel
theorem ark_86 : sk 86 = 0 ∧ sl 86 = 40 := ⟨by decide +kernel, by decide +kernel⟩
theorem ark_87 : sk 87 = 0 ∧ sl 87 = 40 := ⟨by decide +kernel, by decide +kernel⟩
theorem ark_88 : sk 88 = 0 ∧ sl 88 = 40 := ⟨by decide +kernel, by decide +kernel⟩
theorem ark_89 : sk 89 = 0 ∧ sl 89 = 40 := ⟨by decide +kernel, by decide +kernel⟩
theorem ark_90 : sk 90 = 0 ∧ sl 90 = 40 := ⟨by decide +kernel, by decide +kernel⟩
theorem ci_RX6 : Cond.instanceMethod (mY MX6_init) ∈ tbg ∧ Cond.initialized (mY MX6_init).cls ∈ tbg ∧ Cond.code (mY MX6_init) (mC MX6_init) (mL MX6_init) (mR MX6_init) ∈ tbg := ⟨tb3 31 (by decide +kernel) (by decide +kernel), tb1 16 (by decide +kernel) (by decide +kernel), tb3 32 (by decide +kernel) (by decide +kernel)⟩
theorem ni_3 : (3 : Int32) = nI 3 := by decide +kernel
theorem ark_91 : sk 91 = 4 ∧ sl 91 = 3 := ⟨by decide +kernel, by decide +kernel⟩
theorem ark_92 : sk 92 = 2 ∧ sl 92 = 3 := ⟨by decide +kernel, by decide +kernel⟩
theorem obk_93 : sk 93 = 2 + 10 ∧ sl 93 = (fkL.getD 2 []).length := ⟨by decide +kernel, by decide +kernel⟩
theorem ark_94 : sk 94 = 0 ∧ sl 94 = 10 := ⟨by decide +kernel, by decide +kernel⟩
theorem ark_95 : sk 95 = 0 ∧ sl 95 = 10 := ⟨by decide +kernel, by decide +kernel⟩
theorem ark_96 : sk 96 = 0 ∧ sl 96 = 10 := ⟨by decide +kernel, by decide +kernel⟩
theorem ark_97 : sk 97 = 0 ∧ sl 97 = 10 := ⟨by decide +kernel, by decide +kernel⟩
theorem ark_98 : sk 98 = 2 ∧ sl 98 = 10 := ⟨by decide +kernel, by decide +kernel⟩
theorem ark_99 : sk 99 = 0 ∧ sl 99 = 6 := ⟨by decide +kernel, by decide +kernel⟩
theorem ark_100 : sk 100 = 0 ∧ sl 100 = 6 := ⟨by decide +kernel, by decide +kernel⟩
theorem ark_101 : sk 101 = 0 ∧ sl 101 = 600 := ⟨by decide +kernel, by decide +kernel⟩
theorem obk_102 : sk 102 = 2 + 10 ∧ sl 102 = (fkL.getD 2 []).length := ⟨by decide +kernel, by decide +kernel⟩
theorem ark_103 : sk 103 = 0 ∧ sl 103 = 10 := ⟨by decide +kernel, by decide +kernel⟩
theorem ark_104 : sk 104 = 0 ∧ sl 104 = 10 := ⟨by decide +kernel, by decide +kernel⟩
theorem ark_105 : sk 105 = 0 ∧ sl 105 = 10 := ⟨by decide +kernel, by decide +kernel⟩
theorem ark_106 : sk 106 = 0 ∧ sl 106 = 10 := ⟨by decide +kernel, by decide +kernel⟩
theorem ark_107 : sk 107 = 2 ∧ sl 107 = 10 := ⟨by decide +kernel, by decide +kernel⟩
theorem ark_108 : sk 108 = 0 ∧ sl 108 = 6 := ⟨by decide +kernel, by decide +kernel⟩
theorem ark_109 : sk 109 = 0 ∧ sl 109 = 6 := ⟨by decide +kernel, by decide +kernel⟩
theorem ark_110 : sk 110 = 0 ∧ sl 110 = 600 := ⟨by decide +kernel, by decide +kernel⟩
theorem obk_111 : sk 111 = 2 + 10 ∧ sl 111 = (fkL.getD 2 []).length := ⟨by decide +kernel, by decide +kernel⟩
theorem ark_112 : sk 112 = 0 ∧ sl 112 = 10 := ⟨by decide +kernel, by decide +kernel⟩
theorem ark_113 : sk 113 = 0 ∧ sl 113 = 10 := ⟨by decide +kernel, by decide +kernel⟩
theorem ark_114 : sk 114 = 0 ∧ sl 114 = 10 := ⟨by decide +kernel, by decide +kernel⟩
theorem ark_115 : sk 115 = 0 ∧ sl 115 = 10 := ⟨by decide +kernel, by decide +kernel⟩
theorem ark_116 : sk 116 = 2 ∧ sl 116 = 10 := ⟨by decide +kernel, by decide +kernel⟩
theorem ark_117 : sk 117 = 0 ∧ sl 117 = 6 := ⟨by decide +kernel, by decide +kernel⟩
theorem ark_118 : sk 118 = 0 ∧ sl 118 = 6 := ⟨by decide +kernel, by decide +kernel⟩
theorem ark_119 : sk 119 = 0 ∧ sl 119 = 600 := ⟨by decide +kernel, by decide +kernel⟩
theorem oi_RX12_1 : Cond.methodLink RX12 1 Lib.objectInit ∈ tbg := tb5 196 (by decide +kernel) (by decide +kernel)
theorem ark_121 : sk 121 = 0 ∧ sl 121 = 1700 := ⟨by decide +kernel, by decide +kernel⟩
theorem obk_120 : sk 120 = 12 + 10 ∧ sl 120 = (fkL.getD 12 []).length := ⟨by decide +kernel, by decide +kernel⟩
theorem ni_640 : (640 : Int32) = nI 640 := by decide +kernel
theorem ark_122 : sk 122 = 0 ∧ sl 122 = 640 := ⟨by decide +kernel, by decide +kernel⟩
theorem ark_123 : sk 123 = 0 ∧ sl 123 = 640 := ⟨by decide +kernel, by decide +kernel⟩
theorem ni_7 : (7 : Int32) = nI 7 := by decide +kernel
theorem ark_124 : sk 124 = 0 ∧ sl 124 = 7 := ⟨by decide +kernel, by decide +kernel⟩
theorem ark_125 : sk 125 = 0 ∧ sl 125 = 640 := ⟨by decide +kernel, by decide +kernel⟩
theorem ark_126 : sk 126 = 0 ∧ sl 126 = 640 := ⟨by decide +kernel, by decide +kernel⟩
theorem ark_127 : sk 127 = 0 ∧ sl 127 = 7 := ⟨by decide +kernel, by decide +kernel⟩
theorem ni_300 : (300 : Int32) = nI 300 := by decide +kernel
theorem ark_128 : sk 128 = 0 ∧ sl 128 = 300 := ⟨by decide +kernel, by decide +kernel⟩
theorem ni_90 : (90 : Int32) = nI 90 := by decide +kernel
theorem ark_129 : sk 129 = 0 ∧ sl 129 = 90 := ⟨by decide +kernel, by decide +kernel⟩
theorem ni_12 : (12 : Int32) = nI 12 := by decide +kernel
theorem ark_130 : sk 130 = 0 ∧ sl 130 = 12 := ⟨by decide +kernel, by decide +kernel⟩
theorem ark_131 : sk 131 = 1 ∧ sl 131 = 8 := ⟨by decide +kernel, by decide +kernel⟩
theorem ark_132 : sk 132 = 1 ∧ sl 132 = 10 := ⟨by decide +kernel, by decide +kernel⟩
theorem ark_133 : sk 133 = 1 ∧ sl 133 = 6 := ⟨by decide +kernel, by decide +kernel⟩
theorem ark_134 : sk 134 = 0 ∧ sl 134 = 8 := ⟨by decide +kernel, by decide +kernel⟩
theorem ark_135 : sk 135 = 0 ∧ sl 135 = 64 := ⟨by decide +kernel, by decide +kernel⟩
theorem ni_50 : (50 : Int32) = nI 50 := by decide +kernel
theorem ark_136 : sk 136 = 0 ∧ sl 136 = 50 := ⟨by decide +kernel, by decide +kernel⟩
theorem ni_24 : (24 : Int32) = nI 24 := by decide +kernel
theorem ark_137 : sk 137 = 0 ∧ sl 137 = 24 := ⟨by decide +kernel, by decide +kernel⟩
theorem ark_138 : sk 138 = 0 ∧ sl 138 = 8 := ⟨by decide +kernel, by decide +kernel⟩
theorem ark_139 : sk 139 = 0 ∧ sl 139 = 64 := ⟨by decide +kernel, by decide +kernel⟩
theorem ark_140 : sk 140 = 0 ∧ sl 140 = 64 := ⟨by decide +kernel, by decide +kernel⟩
theorem ark_141 : sk 141 = 0 ∧ sl 141 = 50 := ⟨by decide +kernel, by decide +kernel⟩
theorem ark_142 : sk 142 = 0 ∧ sl 142 = 24 := ⟨by decide +kernel, by decide +kernel⟩
theorem ark_143 : sk 143 = 0 ∧ sl 143 = 10 := ⟨by decide +kernel, by decide +kernel⟩
theorem ark_144 : sk 144 = 0 ∧ sl 144 = 10 := ⟨by decide +kernel, by decide +kernel⟩
theorem ark_145 : sk 145 = 0 ∧ sl 145 = 10 := ⟨by decide +kernel, by decide +kernel⟩
theorem ark_146 : sk 146 = 0 ∧ sl 146 = 10 := ⟨by decide +kernel, by decide +kernel⟩
theorem ark_147 : sk 147 = 0 ∧ sl 147 = 6 := ⟨by decide +kernel, by decide +kernel⟩
theorem ark_148 : sk 148 = 0 ∧ sl 148 = 6 := ⟨by decide +kernel, by decide +kernel⟩
theorem ark_149 : sk 149 = 2 ∧ sl 149 = 10 := ⟨by decide +kernel, by decide +kernel⟩
theorem ni_610 : (610 : Int32) = nI 610 := by decide +kernel
theorem ark_150 : sk 150 = 0 ∧ sl 150 = 610 := ⟨by decide +kernel, by decide +kernel⟩
theorem ark_151 : sk 151 = 0 ∧ sl 151 = 10 := ⟨by decide +kernel, by decide +kernel⟩
theorem ark_152 : sk 152 = 0 ∧ sl 152 = 10 := ⟨by decide +kernel, by decide +kernel⟩
theorem ark_153 : sk 153 = 0 ∧ sl 153 = 10 := ⟨by decide +kernel, by decide +kernel⟩
theorem ark_154 : sk 154 = 0 ∧ sl 154 = 6 := ⟨by decide +kernel, by decide +kernel⟩
theorem ark_155 : sk 155 = 0 ∧ sl 155 = 6 := ⟨by decide +kernel, by decide +kernel⟩
theorem ark_156 : sk 156 = 2 ∧ sl 156 = 10 := ⟨by decide +kernel, by decide +kernel⟩
theorem ark_157 : sk 157 = 0 ∧ sl 157 = 10 := ⟨by decide +kernel, by decide +kernel⟩
theorem ark_158 : sk 158 = 0 ∧ sl 158 = 10 := ⟨by decide +kernel, by decide +kernel⟩
theorem ark_159 : sk 159 = 0 ∧ sl 159 = 6 := ⟨by decide +kernel, by decide +kernel⟩
theorem ark_160 : sk 160 = 0 ∧ sl 160 = 6 := ⟨by decide +kernel, by decide +kernel⟩
theorem ark_161 : sk 161 = 1 ∧ sl 161 = 101 := ⟨by decide +kernel, by decide +kernel⟩
theorem ark_162 : sk 162 = 1 ∧ sl 162 = 101 := ⟨by decide +kernel, by decide +kernel⟩
theorem ark_163 : sk 163 = 0 ∧ sl 163 = 8 := ⟨by decide +kernel, by decide +kernel⟩
theorem ark_164 : sk 164 = 0 ∧ sl 164 = 40 := ⟨by decide +kernel, by decide +kernel⟩
theorem ark_165 : sk 165 = 0 ∧ sl 165 = 40 := ⟨by decide +kernel, by decide +kernel⟩
theorem ark_166 : sk 166 = 0 ∧ sl 166 = 40 := ⟨by decide +kernel, by decide +kernel⟩
theorem ark_167 : sk 167 = 0 ∧ sl 167 = 40 := ⟨by decide +kernel, by decide +kernel⟩
theorem ark_168 : sk 168 = 0 ∧ sl 168 = 40 := ⟨by decide +kernel, by decide +kernel⟩
theorem ark_169 : sk 169 = 2 ∧ sl 169 = 3 := ⟨by decide +kernel, by decide +kernel⟩
theorem ni_30 : (30 : Int32) = nI 30 := by decide +kernel
theorem ark_170 : sk 170 = 2 ∧ sl 170 = 30 := ⟨by decide +kernel, by decide +kernel⟩
theorem ni_120 : (120 : Int32) = nI 120 := by decide +kernel
theorem ark_171 : sk 171 = 0 ∧ sl 171 = 120 := ⟨by decide +kernel, by decide +kernel⟩
theorem ni_18 : (18 : Int32) = nI 18 := by decide +kernel
theorem ark_172 : sk 172 = 0 ∧ sl 172 = 18 := ⟨by decide +kernel, by decide +kernel⟩
theorem ark_173 : sk 173 = 0 ∧ sl 173 = 18 := ⟨by decide +kernel, by decide +kernel⟩
theorem ni_1830 : (1830 : Int32) = nI 1830 := by decide +kernel
theorem ark_174 : sk 174 = 0 ∧ sl 174 = 1830 := ⟨by decide +kernel, by decide +kernel⟩
theorem ark_175 : sk 175 = 0 ∧ sl 175 = 3 := ⟨by decide +kernel, by decide +kernel⟩
theorem ark_176 : sk 176 = 0 ∧ sl 176 = 3 := ⟨by decide +kernel, by decide +kernel⟩
theorem ark_177 : sk 177 = 0 ∧ sl 177 = 3 := ⟨by decide +kernel, by decide +kernel⟩
def qC (nF : Nat) (I' : Ix) (L' : Lx) (R' : Rx) : Qx := fun v n I L R => v = none ∧ n = nF ∧ I = I' ∧ L = L' ∧ R = R'
def cX7_1_i (I : Ix) : Ix := I
def cX7_1_l (L : Lx) : Lx := L
def cX7_1_r (R : Rx) : Rx := (pu (va_up R 2 (fun _ => none)) 1 0 (some 2))
theorem cX7_1_i_keep {I : Ix} {q : Nat} (h : 3 ≤ q) : cX7_1_i I q = I q := by
  unfold cX7_1_i
  rfl
theorem cX7_1_l_keep {L : Lx} {q : Nat} (h : 3 ≤ q) : cX7_1_l L q = L q := by
  unfold cX7_1_l
  rfl
set_option maxRecDepth 20000 in
theorem okccX7_1 {G : Gx} {Ls : Nat} {xs : Nat → Int32} (hO : Old G Ls xs) {I : Ix} {L : Lx} {R : Rx} (hI : ∀ q, 2 ≤ q → I q = fun _ => 0) (hL : ∀ q, 2 ≤ q → L q = fun _ => 0) : Mt G MX7_init [.ref 1] 2 I L R 3 (qC 3 (cX7_1_i I) (cX7_1_l L) (cX7_1_r R)) := by
  refine Mt.of (by decide +kernel) (Nat.le_of_ble_eq_true rfl) (by decide) ?_
  refine Ev.aload_n (k := 0) (pc' := 1) dX7_init_0 rfl rfl rfl ?_
  refine Ev.objInit (pc' := 4) dX7_init_1 rfl oi_RX7_3 oi_w.1 oi_w.2 (Nat.le_of_ble_eq_true rfl) (Nat.le_of_ble_eq_true rfl) ?_
  refine Ev.aload_n (k := 0) (pc' := 5) dX7_init_4 rfl rfl rfl ?_
  refine Ev.sipush (v := 1700) (pc' := 8) dX7_init_5 rfl (by decide) ?_
  refine Ev.newA' 3 (N := 1700) (pc' := 10) dX7_init_8 rfl rfl (fun _ _ h9 => h9) acl_byte ni_1700 (by decide) rfl ⟨by decide, ark_2.1, ark_2.2⟩ (by decide) rfl (by decide) (by decide) (by decide) (by exact hI _ (by decide)) (by exact hL _ (by decide)) ?_
  refine Ev.putR (pc' := 13) dX7_init_10 rfl fa_RX7_9 ⟨by decide, obk_1.1, obk_1.2⟩ fk_7_0 (Or.inr ⟨rfl, rfl⟩) (fun _ => rfl) (fun _ => rfl) ?_
  exact Ev.vret dX7_init_13 rfl rfl ⟨rfl, rfl, rfl, rfl, rfl⟩
def cX1_4_i (I : Ix) : Ix := I
def cX1_4_l (L : Lx) : Lx := L
def cX1_4_r (R : Rx) : Rx := (pu (va_up (pu (va_up (pu (va_up (pu (va_up (pu (va_up R 5 (fun _ => none)) 4 2 (some 5)) 6 (fun _ => none)) 4 3 (some 6)) 7 (fun _ => none)) 4 4 (some 7)) 8 (fun _ => none)) 4 5 (some 8)) 9 (fun _ => none)) 4 6 (some 9))
theorem cX1_4_i_keep {I : Ix} {q : Nat} (h : 10 ≤ q) : cX1_4_i I q = I q := by
  unfold cX1_4_i
  rfl
theorem cX1_4_l_keep {L : Lx} {q : Nat} (h : 10 ≤ q) : cX1_4_l L q = L q := by
  unfold cX1_4_l
  rfl
set_option maxRecDepth 20000 in
theorem okccX1_4 {G : Gx} {Ls : Nat} {xs : Nat → Int32} (hO : Old G Ls xs) {I : Ix} {L : Lx} {R : Rx} (hI : ∀ q, 5 ≤ q → I q = fun _ => 0) (hL : ∀ q, 5 ≤ q → L q = fun _ => 0) : Mt G MX1_init [.ref 4] 5 I L R 10 (qC 10 (cX1_4_i I) (cX1_4_l L) (cX1_4_r R)) := by
  refine Mt.of (by decide +kernel) (Nat.le_of_ble_eq_true rfl) (by decide) ?_
  refine Ev.aload_n (k := 0) (pc' := 1) dX1_init_0 rfl rfl rfl ?_
  refine Ev.objInit (pc' := 4) dX1_init_1 rfl oi_RX1_3 oi_w.1 oi_w.2 (Nat.le_of_ble_eq_true rfl) (Nat.le_of_ble_eq_true rfl) ?_
  refine Ev.aload_n (k := 0) (pc' := 5) dX1_init_4 rfl rfl rfl ?_
  refine Ev.bipush (v := 8) (pc' := 7) dX1_init_5 rfl (by decide) ?_
  refine Ev.newA' 1 (N := 8) (pc' := 9) dX1_init_7 rfl rfl (fun _ _ h9 => h9) acl_long ni_8 (by decide) rfl ⟨by decide, ark_5.1, ark_5.2⟩ (by decide) rfl (by decide) (by decide) (by decide) (by exact hI _ (by decide)) (by exact hL _ (by decide)) ?_
  refine Ev.putR (pc' := 12) dX1_init_9 rfl fa_RX1_9 ⟨by decide, obk_4.1, obk_4.2⟩ fk_1_2 (Or.inr ⟨rfl, rfl⟩) (fun _ => rfl) (fun _ => rfl) ?_
  refine Ev.aload_n (k := 0) (pc' := 13) dX1_init_12 rfl rfl rfl ?_
  refine Ev.bipush (v := 8) (pc' := 15) dX1_init_13 rfl (by decide) ?_
  refine Ev.newA' 0 (N := 8) (pc' := 17) dX1_init_15 rfl rfl (fun _ _ h9 => h9) acl_int ni_8 (by decide) rfl ⟨by decide, ark_6.1, ark_6.2⟩ (by decide) rfl (by decide) (by decide) (by decide) (by exact hI _ (by decide)) (by exact hL _ (by decide)) ?_
  refine Ev.putR (pc' := 20) dX1_init_17 rfl fa_RX1_15 ⟨by decide, obk_4.1, obk_4.2⟩ fk_1_3 (Or.inr ⟨rfl, rfl⟩) (fun _ => rfl) (fun _ => rfl) ?_
  refine Ev.aload_n (k := 0) (pc' := 21) dX1_init_20 rfl rfl rfl ?_
  refine Ev.bipush (v := 8) (pc' := 23) dX1_init_21 rfl (by decide) ?_
  refine Ev.newA' 0 (N := 8) (pc' := 25) dX1_init_23 rfl rfl (fun _ _ h9 => h9) acl_int ni_8 (by decide) rfl ⟨by decide, ark_7.1, ark_7.2⟩ (by decide) rfl (by decide) (by decide) (by decide) (by exact hI _ (by decide)) (by exact hL _ (by decide)) ?_
  refine Ev.putR (pc' := 28) dX1_init_25 rfl fa_RX1_19 ⟨by decide, obk_4.1, obk_4.2⟩ fk_1_4 (Or.inr ⟨rfl, rfl⟩) (fun _ => rfl) (fun _ => rfl) ?_
  refine Ev.aload_n (k := 0) (pc' := 29) dX1_init_28 rfl rfl rfl ?_
  refine Ev.bipush (v := 64) (pc' := 31) dX1_init_29 rfl (by decide) ?_
  refine Ev.newA' 0 (N := 64) (pc' := 33) dX1_init_31 rfl rfl (fun _ _ h9 => h9) acl_int ni_64 (by decide) rfl ⟨by decide, ark_8.1, ark_8.2⟩ (by decide) rfl (by decide) (by decide) (by decide) (by exact hI _ (by decide)) (by exact hL _ (by decide)) ?_
  refine Ev.putR (pc' := 36) dX1_init_33 rfl fa_RX1_22 ⟨by decide, obk_4.1, obk_4.2⟩ fk_1_5 (Or.inr ⟨rfl, rfl⟩) (fun _ => rfl) (fun _ => rfl) ?_
  refine Ev.aload_n (k := 0) (pc' := 37) dX1_init_36 rfl rfl rfl ?_
  refine Ev.bipush (v := 8) (pc' := 39) dX1_init_37 rfl (by decide) ?_
  refine Ev.newA' 0 (N := 8) (pc' := 41) dX1_init_39 rfl rfl (fun _ _ h9 => h9) acl_int ni_8 (by decide) rfl ⟨by decide, ark_9.1, ark_9.2⟩ (by decide) rfl (by decide) (by decide) (by decide) (by exact hI _ (by decide)) (by exact hL _ (by decide)) ?_
  refine Ev.putR (pc' := 44) dX1_init_41 rfl fa_RX1_25 ⟨by decide, obk_4.1, obk_4.2⟩ fk_1_6 (Or.inr ⟨rfl, rfl⟩) (fun _ => rfl) (fun _ => rfl) ?_
  exact Ev.vret dX1_init_44 rfl rfl ⟨rfl, rfl, rfl, rfl, rfl⟩
def cX4_10_i (I : Ix) : Ix := I
def cX4_10_l (L : Lx) : Lx := L
def cX4_10_r (R : Rx) : Rx := (pu (va_up (pu (va_up (pu (va_up (pu (va_up R 11 (fun _ => none)) 10 2 (some 11)) 12 (fun _ => none)) 10 3 (some 12)) 13 (fun _ => none)) 10 4 (some 13)) 14 (fun _ => none)) 10 5 (some 14))
theorem cX4_10_i_keep {I : Ix} {q : Nat} (h : 15 ≤ q) : cX4_10_i I q = I q := by
  unfold cX4_10_i
  rfl
theorem cX4_10_l_keep {L : Lx} {q : Nat} (h : 15 ≤ q) : cX4_10_l L q = L q := by
  unfold cX4_10_l
  rfl
set_option maxRecDepth 20000 in
theorem okccX4_10 {G : Gx} {Ls : Nat} {xs : Nat → Int32} (hO : Old G Ls xs) {I : Ix} {L : Lx} {R : Rx} (hI : ∀ q, 11 ≤ q → I q = fun _ => 0) (hL : ∀ q, 11 ≤ q → L q = fun _ => 0) : Mt G MX4_init [.ref 10] 11 I L R 15 (qC 15 (cX4_10_i I) (cX4_10_l L) (cX4_10_r R)) := by
  refine Mt.of (by decide +kernel) (Nat.le_of_ble_eq_true rfl) (by decide) ?_
  refine Ev.aload_n (k := 0) (pc' := 1) dX4_init_0 rfl rfl rfl ?_
  refine Ev.objInit (pc' := 4) dX4_init_1 rfl oi_RX4_3 oi_w.1 oi_w.2 (Nat.le_of_ble_eq_true rfl) (Nat.le_of_ble_eq_true rfl) ?_
  refine Ev.aload_n (k := 0) (pc' := 5) dX4_init_4 rfl rfl rfl ?_
  refine Ev.bipush (v := 6) (pc' := 7) dX4_init_5 rfl (by decide) ?_
  refine Ev.newA' 0 (N := 6) (pc' := 9) dX4_init_7 rfl rfl (fun _ _ h9 => h9) acl_int ni_6 (by decide) rfl ⟨by decide, ark_11.1, ark_11.2⟩ (by decide) rfl (by decide) (by decide) (by decide) (by exact hI _ (by decide)) (by exact hL _ (by decide)) ?_
  refine Ev.putR (pc' := 12) dX4_init_9 rfl fa_RX4_9 ⟨by decide, obk_10.1, obk_10.2⟩ fk_4_2 (Or.inr ⟨rfl, rfl⟩) (fun _ => rfl) (fun _ => rfl) ?_
  refine Ev.aload_n (k := 0) (pc' := 13) dX4_init_12 rfl rfl rfl ?_
  refine Ev.bipush (v := 6) (pc' := 15) dX4_init_13 rfl (by decide) ?_
  refine Ev.newA' 0 (N := 6) (pc' := 17) dX4_init_15 rfl rfl (fun _ _ h9 => h9) acl_int ni_6 (by decide) rfl ⟨by decide, ark_12.1, ark_12.2⟩ (by decide) rfl (by decide) (by decide) (by decide) (by exact hI _ (by decide)) (by exact hL _ (by decide)) ?_
  refine Ev.putR (pc' := 20) dX4_init_17 rfl fa_RX4_15 ⟨by decide, obk_10.1, obk_10.2⟩ fk_4_3 (Or.inr ⟨rfl, rfl⟩) (fun _ => rfl) (fun _ => rfl) ?_
  refine Ev.aload_n (k := 0) (pc' := 21) dX4_init_20 rfl rfl rfl ?_
  refine Ev.sipush (v := 720) (pc' := 24) dX4_init_21 rfl (by decide) ?_
  refine Ev.newA' 0 (N := 720) (pc' := 26) dX4_init_24 rfl rfl (fun _ _ h9 => h9) acl_int ni_720 (by decide) rfl ⟨by decide, ark_13.1, ark_13.2⟩ (by decide) rfl (by decide) (by decide) (by decide) (by exact hI _ (by decide)) (by exact hL _ (by decide)) ?_
  refine Ev.putR (pc' := 29) dX4_init_26 rfl fa_RX4_18 ⟨by decide, obk_10.1, obk_10.2⟩ fk_4_4 (Or.inr ⟨rfl, rfl⟩) (fun _ => rfl) (fun _ => rfl) ?_
  refine Ev.aload_n (k := 0) (pc' := 30) dX4_init_29 rfl rfl rfl ?_
  refine Ev.bipush (v := 80) (pc' := 32) dX4_init_30 rfl (by decide) ?_
  refine Ev.newA' 0 (N := 80) (pc' := 34) dX4_init_32 rfl rfl (fun _ _ h9 => h9) acl_int ni_80 (by decide) rfl ⟨by decide, ark_14.1, ark_14.2⟩ (by decide) rfl (by decide) (by decide) (by decide) (by exact hI _ (by decide)) (by exact hL _ (by decide)) ?_
  refine Ev.putR (pc' := 37) dX4_init_34 rfl fa_RX4_21 ⟨by decide, obk_10.1, obk_10.2⟩ fk_4_5 (Or.inr ⟨rfl, rfl⟩) (fun _ => rfl) (fun _ => rfl) ?_
  exact Ev.vret dX4_init_37 rfl rfl ⟨rfl, rfl, rfl, rfl, rfl⟩
def cX10_3_i (I : Ix) : Ix := (cX4_10_i (cX1_4_i I))
def cX10_3_l (L : Lx) : Lx := (cX4_10_l (cX1_4_l L))
def cX10_3_r (R : Rx) : Rx := (pu (va_up (pu (va_up (pu (va_up (pu (va_up (pu (va_up (pu (va_up (pu (va_up (pu (va_up (pu (va_up (pu (va_up (pu (va_up (pu (cX4_10_r (va_up (pu (cX1_4_r (va_up R 4 (fun _ => none))) 3 0 (some 4)) 10 (fun _ => none))) 3 1 (some 10)) 15 (fun _ => none)) 3 6 (some 15)) 16 (fun _ => none)) 3 7 (some 16)) 17 (fun _ => none)) 3 8 (some 17)) 18 (fun _ => none)) 3 9 (some 18)) 19 (fun _ => none)) 3 10 (some 19)) 20 (fun _ => none)) 3 11 (some 20)) 21 (fun _ => none)) 3 12 (some 21)) 22 (fun _ => none)) 3 13 (some 22)) 23 (fun _ => none)) 3 14 (some 23)) 24 (fun _ => none)) 3 15 (some 24)) 25 (fun _ => none)) 3 16 (some 25))
theorem cX10_3_i_keep {I : Ix} {q : Nat} (h : 26 ≤ q) : cX10_3_i I q = I q := by
  unfold cX10_3_i
  rw [cX4_10_i_keep (by omega), cX1_4_i_keep (by omega)]
theorem cX10_3_l_keep {L : Lx} {q : Nat} (h : 26 ≤ q) : cX10_3_l L q = L q := by
  unfold cX10_3_l
  rw [cX4_10_l_keep (by omega), cX1_4_l_keep (by omega)]
set_option maxRecDepth 20000 in
theorem okccX10_3 {G : Gx} {Ls : Nat} {xs : Nat → Int32} (hO : Old G Ls xs) {I : Ix} {L : Lx} {R : Rx} (hI : ∀ q, 4 ≤ q → I q = fun _ => 0) (hL : ∀ q, 4 ≤ q → L q = fun _ => 0) : Mt G MX10_init [.ref 3] 4 I L R 26 (qC 26 (cX10_3_i I) (cX10_3_l L) (cX10_3_r R)) := by
  refine Mt.of (by decide +kernel) (Nat.le_of_ble_eq_true rfl) (by decide) ?_
  refine Ev.aload_n (k := 0) (pc' := 1) dX10_init_0 rfl rfl rfl ?_
  refine Ev.objInit (pc' := 4) dX10_init_1 rfl oi_RX10_3 oi_w.1 oi_w.2 (Nat.le_of_ble_eq_true rfl) (Nat.le_of_ble_eq_true rfl) ?_
  refine Ev.aload_n (k := 0) (pc' := 5) dX10_init_4 rfl rfl rfl ?_
  refine Ev.newO' (tyT := tyX1) (pc' := 8) dX10_init_5 rfl (c := 1) rfl rfl wsin_1 tyX1_ok hdf_1 cl_RX10_9 inst_1.1 inst_1.2 ⟨by decide, obk_4.1, obk_4.2⟩ (by decide) (by decide) (by exact hI _ (by decide)) (by exact hL _ (by decide)) ?_
  refine Ev.dup (pc' := 9) dX10_init_8 rfl rfl ?_
  refine Ev.callN (M' := MX1_init) (host := "NoonSquare") (k := 4) (As := []) (rest := [.ref 4, .ref 3]) (nF' := 10) (pc' := 12) dX10_init_9 rfl (fun U hU => (hO U hU).2.2.2.2.2.2.2.2.1) ci_RX1.1 ci_RX1.2.1 ci_RX1.2.2 rfl rfl ⟨by decide, by decide, by decide +kernel⟩ ⟨Nat.le_of_ble_eq_true rfl, Nat.le_of_ble_eq_true rfl⟩ rfl rfl (Nat.le_of_ble_eq_true rfl) (by decide) (by decide) (okccX1_4 hO (fun q hq => by exact hI _ (by omega)) (fun q hq => by exact hL _ (by omega))) ?_
  intro v n' I' L' R' hq
  obtain ⟨e1, e2, e3, e4, e5⟩ := hq
  rw [e1, e2, e3, e4, e5]
  refine ⟨rfl, ?_⟩
  refine Ev.putR (pc' := 15) dX10_init_12 rfl fa_RX10_12 ⟨by decide, obk_3.1, obk_3.2⟩ fk_10_0 (Or.inr ⟨rfl, rfl⟩) (fun _ => rfl) (fun _ => rfl) ?_
  refine Ev.aload_n (k := 0) (pc' := 16) dX10_init_15 rfl rfl rfl ?_
  refine Ev.newO' (tyT := tyX4) (pc' := 19) dX10_init_16 rfl (c := 4) rfl rfl wsin_4 tyX4_ok hdf_4 cl_RX10_18 inst_4.1 inst_4.2 ⟨by decide, obk_10.1, obk_10.2⟩ (by decide) (by decide) (by rw [cX1_4_i_keep (by decide)]; exact hI _ (by decide)) (by rw [cX1_4_l_keep (by decide)]; exact hL _ (by decide)) ?_
  refine Ev.dup (pc' := 20) dX10_init_19 rfl rfl ?_
  refine Ev.callN (M' := MX4_init) (host := "NoonSquare") (k := 10) (As := []) (rest := [.ref 10, .ref 3]) (nF' := 15) (pc' := 23) dX10_init_20 rfl (fun U hU => (hO U hU).2.2.2.2.2.2.2.2.2.1) ci_RX4.1 ci_RX4.2.1 ci_RX4.2.2 rfl rfl ⟨by decide, by decide, by decide +kernel⟩ ⟨Nat.le_of_ble_eq_true rfl, Nat.le_of_ble_eq_true rfl⟩ rfl rfl (Nat.le_of_ble_eq_true rfl) (by decide) (by decide) (okccX4_10 hO (fun q hq => by rw [cX1_4_i_keep (by omega)]; exact hI _ (by omega)) (fun q hq => by rw [cX1_4_l_keep (by omega)]; exact hL _ (by omega))) ?_
  intro v n' I' L' R' hq
  obtain ⟨e1, e2, e3, e4, e5⟩ := hq
  rw [e1, e2, e3, e4, e5]
  refine ⟨rfl, ?_⟩
  refine Ev.putR (pc' := 26) dX10_init_23 rfl fa_RX10_21 ⟨by decide, obk_3.1, obk_3.2⟩ fk_10_1 (Or.inr ⟨rfl, rfl⟩) (fun _ => rfl) (fun _ => rfl) ?_
  refine Ev.aload_n (k := 0) (pc' := 27) dX10_init_26 rfl rfl rfl ?_
  refine Ev.bipush (v := 10) (pc' := 29) dX10_init_27 rfl (by decide) ?_
  refine Ev.newA' 1 (N := 10) (pc' := 31) dX10_init_29 rfl rfl (fun _ _ h9 => h9) acl_long ni_10 (by decide) rfl ⟨by decide, ark_15.1, ark_15.2⟩ (by decide) rfl (by decide) (by decide) (by decide) (by rw [cX4_10_i_keep (by decide), cX1_4_i_keep (by decide)]; exact hI _ (by decide)) (by rw [cX4_10_l_keep (by decide), cX1_4_l_keep (by decide)]; exact hL _ (by decide)) ?_
  refine Ev.putR (pc' := 34) dX10_init_31 rfl fa_RX10_25 ⟨by decide, obk_3.1, obk_3.2⟩ fk_10_6 (Or.inr ⟨rfl, rfl⟩) (fun _ => rfl) (fun _ => rfl) ?_
  refine Ev.aload_n (k := 0) (pc' := 35) dX10_init_34 rfl rfl rfl ?_
  refine Ev.bipush (v := 10) (pc' := 37) dX10_init_35 rfl (by decide) ?_
  refine Ev.newA' 0 (N := 10) (pc' := 39) dX10_init_37 rfl rfl (fun _ _ h9 => h9) acl_int ni_10 (by decide) rfl ⟨by decide, ark_16.1, ark_16.2⟩ (by decide) rfl (by decide) (by decide) (by decide) (by rw [cX4_10_i_keep (by decide), cX1_4_i_keep (by decide)]; exact hI _ (by decide)) (by rw [cX4_10_l_keep (by decide), cX1_4_l_keep (by decide)]; exact hL _ (by decide)) ?_
  refine Ev.putR (pc' := 42) dX10_init_39 rfl fa_RX10_29 ⟨by decide, obk_3.1, obk_3.2⟩ fk_10_7 (Or.inr ⟨rfl, rfl⟩) (fun _ => rfl) (fun _ => rfl) ?_
  refine Ev.aload_n (k := 0) (pc' := 43) dX10_init_42 rfl rfl rfl ?_
  refine Ev.bipush (v := 10) (pc' := 45) dX10_init_43 rfl (by decide) ?_
  refine Ev.newA' 0 (N := 10) (pc' := 47) dX10_init_45 rfl rfl (fun _ _ h9 => h9) acl_int ni_10 (by decide) rfl ⟨by decide, ark_17.1, ark_17.2⟩ (by decide) rfl (by decide) (by decide) (by decide) (by rw [cX4_10_i_keep (by decide), cX1_4_i_keep (by decide)]; exact hI _ (by decide)) (by rw [cX4_10_l_keep (by decide), cX1_4_l_keep (by decide)]; exact hL _ (by decide)) ?_
  refine Ev.putR (pc' := 50) dX10_init_47 rfl fa_RX10_33 ⟨by decide, obk_3.1, obk_3.2⟩ fk_10_8 (Or.inr ⟨rfl, rfl⟩) (fun _ => rfl) (fun _ => rfl) ?_
  refine Ev.aload_n (k := 0) (pc' := 51) dX10_init_50 rfl rfl rfl ?_
  refine Ev.bipush (v := 10) (pc' := 53) dX10_init_51 rfl (by decide) ?_
  refine Ev.newA' 0 (N := 10) (pc' := 55) dX10_init_53 rfl rfl (fun _ _ h9 => h9) acl_int ni_10 (by decide) rfl ⟨by decide, ark_18.1, ark_18.2⟩ (by decide) rfl (by decide) (by decide) (by decide) (by rw [cX4_10_i_keep (by decide), cX1_4_i_keep (by decide)]; exact hI _ (by decide)) (by rw [cX4_10_l_keep (by decide), cX1_4_l_keep (by decide)]; exact hL _ (by decide)) ?_
  refine Ev.putR (pc' := 58) dX10_init_55 rfl fa_RX10_36 ⟨by decide, obk_3.1, obk_3.2⟩ fk_10_9 (Or.inr ⟨rfl, rfl⟩) (fun _ => rfl) (fun _ => rfl) ?_
  refine Ev.aload_n (k := 0) (pc' := 59) dX10_init_58 rfl rfl rfl ?_
  refine Ev.bipush (v := 10) (pc' := 61) dX10_init_59 rfl (by decide) ?_
  refine Ev.newA' 0 (N := 10) (pc' := 63) dX10_init_61 rfl rfl (fun _ _ h9 => h9) acl_int ni_10 (by decide) rfl ⟨by decide, ark_19.1, ark_19.2⟩ (by decide) rfl (by decide) (by decide) (by decide) (by rw [cX4_10_i_keep (by decide), cX1_4_i_keep (by decide)]; exact hI _ (by decide)) (by rw [cX4_10_l_keep (by decide), cX1_4_l_keep (by decide)]; exact hL _ (by decide)) ?_
  refine Ev.putR (pc' := 66) dX10_init_63 rfl fa_RX10_39 ⟨by decide, obk_3.1, obk_3.2⟩ fk_10_10 (Or.inr ⟨rfl, rfl⟩) (fun _ => rfl) (fun _ => rfl) ?_
  refine Ev.aload_n (k := 0) (pc' := 67) dX10_init_66 rfl rfl rfl ?_
  refine Ev.bipush (v := 10) (pc' := 69) dX10_init_67 rfl (by decide) ?_
  refine Ev.newA' 2 (N := 10) (pc' := 71) dX10_init_69 rfl rfl (fun _ _ h9 => h9) acl_boolean ni_10 (by decide) rfl ⟨by decide, ark_20.1, ark_20.2⟩ (by decide) rfl (by decide) (by decide) (by decide) (by rw [cX4_10_i_keep (by decide), cX1_4_i_keep (by decide)]; exact hI _ (by decide)) (by rw [cX4_10_l_keep (by decide), cX1_4_l_keep (by decide)]; exact hL _ (by decide)) ?_
  refine Ev.putR (pc' := 74) dX10_init_71 rfl fa_RX10_42 ⟨by decide, obk_3.1, obk_3.2⟩ fk_10_11 (Or.inr ⟨rfl, rfl⟩) (fun _ => rfl) (fun _ => rfl) ?_
  refine Ev.aload_n (k := 0) (pc' := 75) dX10_init_74 rfl rfl rfl ?_
  refine Ev.bipush (v := 6) (pc' := 77) dX10_init_75 rfl (by decide) ?_
  refine Ev.newA' 1 (N := 6) (pc' := 79) dX10_init_77 rfl rfl (fun _ _ h9 => h9) acl_long ni_6 (by decide) rfl ⟨by decide, ark_21.1, ark_21.2⟩ (by decide) rfl (by decide) (by decide) (by decide) (by rw [cX4_10_i_keep (by decide), cX1_4_i_keep (by decide)]; exact hI _ (by decide)) (by rw [cX4_10_l_keep (by decide), cX1_4_l_keep (by decide)]; exact hL _ (by decide)) ?_
  refine Ev.putR (pc' := 82) dX10_init_79 rfl fa_RX10_46 ⟨by decide, obk_3.1, obk_3.2⟩ fk_10_12 (Or.inr ⟨rfl, rfl⟩) (fun _ => rfl) (fun _ => rfl) ?_
  refine Ev.aload_n (k := 0) (pc' := 83) dX10_init_82 rfl rfl rfl ?_
  refine Ev.bipush (v := 6) (pc' := 85) dX10_init_83 rfl (by decide) ?_
  refine Ev.newA' 0 (N := 6) (pc' := 87) dX10_init_85 rfl rfl (fun _ _ h9 => h9) acl_int ni_6 (by decide) rfl ⟨by decide, ark_22.1, ark_22.2⟩ (by decide) rfl (by decide) (by decide) (by decide) (by rw [cX4_10_i_keep (by decide), cX1_4_i_keep (by decide)]; exact hI _ (by decide)) (by rw [cX4_10_l_keep (by decide), cX1_4_l_keep (by decide)]; exact hL _ (by decide)) ?_
  refine Ev.putR (pc' := 90) dX10_init_87 rfl fa_RX10_49 ⟨by decide, obk_3.1, obk_3.2⟩ fk_10_13 (Or.inr ⟨rfl, rfl⟩) (fun _ => rfl) (fun _ => rfl) ?_
  refine Ev.aload_n (k := 0) (pc' := 91) dX10_init_90 rfl rfl rfl ?_
  refine Ev.bipush (v := 6) (pc' := 93) dX10_init_91 rfl (by decide) ?_
  refine Ev.newA' 0 (N := 6) (pc' := 95) dX10_init_93 rfl rfl (fun _ _ h9 => h9) acl_int ni_6 (by decide) rfl ⟨by decide, ark_23.1, ark_23.2⟩ (by decide) rfl (by decide) (by decide) (by decide) (by rw [cX4_10_i_keep (by decide), cX1_4_i_keep (by decide)]; exact hI _ (by decide)) (by rw [cX4_10_l_keep (by decide), cX1_4_l_keep (by decide)]; exact hL _ (by decide)) ?_
  refine Ev.putR (pc' := 98) dX10_init_95 rfl fa_RX10_52 ⟨by decide, obk_3.1, obk_3.2⟩ fk_10_14 (Or.inr ⟨rfl, rfl⟩) (fun _ => rfl) (fun _ => rfl) ?_
  refine Ev.aload_n (k := 0) (pc' := 99) dX10_init_98 rfl rfl rfl ?_
  refine Ev.bipush (v := 6) (pc' := 101) dX10_init_99 rfl (by decide) ?_
  refine Ev.newA' 0 (N := 6) (pc' := 103) dX10_init_101 rfl rfl (fun _ _ h9 => h9) acl_int ni_6 (by decide) rfl ⟨by decide, ark_24.1, ark_24.2⟩ (by decide) rfl (by decide) (by decide) (by decide) (by rw [cX4_10_i_keep (by decide), cX1_4_i_keep (by decide)]; exact hI _ (by decide)) (by rw [cX4_10_l_keep (by decide), cX1_4_l_keep (by decide)]; exact hL _ (by decide)) ?_
  refine Ev.putR (pc' := 106) dX10_init_103 rfl fa_RX10_55 ⟨by decide, obk_3.1, obk_3.2⟩ fk_10_15 (Or.inr ⟨rfl, rfl⟩) (fun _ => rfl) (fun _ => rfl) ?_
  refine Ev.aload_n (k := 0) (pc' := 107) dX10_init_106 rfl rfl rfl ?_
  refine Ev.bipush (v := 6) (pc' := 109) dX10_init_107 rfl (by decide) ?_
  refine Ev.newA' 0 (N := 6) (pc' := 111) dX10_init_109 rfl rfl (fun _ _ h9 => h9) acl_int ni_6 (by decide) rfl ⟨by decide, ark_25.1, ark_25.2⟩ (by decide) rfl (by decide) (by decide) (by decide) (by rw [cX4_10_i_keep (by decide), cX1_4_i_keep (by decide)]; exact hI _ (by decide)) (by rw [cX4_10_l_keep (by decide), cX1_4_l_keep (by decide)]; exact hL _ (by decide)) ?_
  refine Ev.putR (pc' := 114) dX10_init_111 rfl fa_RX10_58 ⟨by decide, obk_3.1, obk_3.2⟩ fk_10_16 (Or.inr ⟨rfl, rfl⟩) (fun _ => rfl) (fun _ => rfl) ?_
  exact Ev.vret dX10_init_114 rfl rfl ⟨rfl, rfl, rfl, rfl, rfl⟩
def cX1_27_i (I : Ix) : Ix := I
def cX1_27_l (L : Lx) : Lx := L
def cX1_27_r (R : Rx) : Rx := (pu (va_up (pu (va_up (pu (va_up (pu (va_up (pu (va_up R 28 (fun _ => none)) 27 2 (some 28)) 29 (fun _ => none)) 27 3 (some 29)) 30 (fun _ => none)) 27 4 (some 30)) 31 (fun _ => none)) 27 5 (some 31)) 32 (fun _ => none)) 27 6 (some 32))
theorem cX1_27_i_keep {I : Ix} {q : Nat} (h : 33 ≤ q) : cX1_27_i I q = I q := by
  unfold cX1_27_i
  rfl
theorem cX1_27_l_keep {L : Lx} {q : Nat} (h : 33 ≤ q) : cX1_27_l L q = L q := by
  unfold cX1_27_l
  rfl
set_option maxRecDepth 20000 in
theorem okccX1_27 {G : Gx} {Ls : Nat} {xs : Nat → Int32} (hO : Old G Ls xs) {I : Ix} {L : Lx} {R : Rx} (hI : ∀ q, 28 ≤ q → I q = fun _ => 0) (hL : ∀ q, 28 ≤ q → L q = fun _ => 0) : Mt G MX1_init [.ref 27] 28 I L R 33 (qC 33 (cX1_27_i I) (cX1_27_l L) (cX1_27_r R)) := by
  refine Mt.of (by decide +kernel) (Nat.le_of_ble_eq_true rfl) (by decide) ?_
  refine Ev.aload_n (k := 0) (pc' := 1) dX1_init_0 rfl rfl rfl ?_
  refine Ev.objInit (pc' := 4) dX1_init_1 rfl oi_RX1_3 oi_w.1 oi_w.2 (Nat.le_of_ble_eq_true rfl) (Nat.le_of_ble_eq_true rfl) ?_
  refine Ev.aload_n (k := 0) (pc' := 5) dX1_init_4 rfl rfl rfl ?_
  refine Ev.bipush (v := 8) (pc' := 7) dX1_init_5 rfl (by decide) ?_
  refine Ev.newA' 1 (N := 8) (pc' := 9) dX1_init_7 rfl rfl (fun _ _ h9 => h9) acl_long ni_8 (by decide) rfl ⟨by decide, ark_28.1, ark_28.2⟩ (by decide) rfl (by decide) (by decide) (by decide) (by exact hI _ (by decide)) (by exact hL _ (by decide)) ?_
  refine Ev.putR (pc' := 12) dX1_init_9 rfl fa_RX1_9 ⟨by decide, obk_27.1, obk_27.2⟩ fk_1_2 (Or.inr ⟨rfl, rfl⟩) (fun _ => rfl) (fun _ => rfl) ?_
  refine Ev.aload_n (k := 0) (pc' := 13) dX1_init_12 rfl rfl rfl ?_
  refine Ev.bipush (v := 8) (pc' := 15) dX1_init_13 rfl (by decide) ?_
  refine Ev.newA' 0 (N := 8) (pc' := 17) dX1_init_15 rfl rfl (fun _ _ h9 => h9) acl_int ni_8 (by decide) rfl ⟨by decide, ark_29.1, ark_29.2⟩ (by decide) rfl (by decide) (by decide) (by decide) (by exact hI _ (by decide)) (by exact hL _ (by decide)) ?_
  refine Ev.putR (pc' := 20) dX1_init_17 rfl fa_RX1_15 ⟨by decide, obk_27.1, obk_27.2⟩ fk_1_3 (Or.inr ⟨rfl, rfl⟩) (fun _ => rfl) (fun _ => rfl) ?_
  refine Ev.aload_n (k := 0) (pc' := 21) dX1_init_20 rfl rfl rfl ?_
  refine Ev.bipush (v := 8) (pc' := 23) dX1_init_21 rfl (by decide) ?_
  refine Ev.newA' 0 (N := 8) (pc' := 25) dX1_init_23 rfl rfl (fun _ _ h9 => h9) acl_int ni_8 (by decide) rfl ⟨by decide, ark_30.1, ark_30.2⟩ (by decide) rfl (by decide) (by decide) (by decide) (by exact hI _ (by decide)) (by exact hL _ (by decide)) ?_
  refine Ev.putR (pc' := 28) dX1_init_25 rfl fa_RX1_19 ⟨by decide, obk_27.1, obk_27.2⟩ fk_1_4 (Or.inr ⟨rfl, rfl⟩) (fun _ => rfl) (fun _ => rfl) ?_
  refine Ev.aload_n (k := 0) (pc' := 29) dX1_init_28 rfl rfl rfl ?_
  refine Ev.bipush (v := 64) (pc' := 31) dX1_init_29 rfl (by decide) ?_
  refine Ev.newA' 0 (N := 64) (pc' := 33) dX1_init_31 rfl rfl (fun _ _ h9 => h9) acl_int ni_64 (by decide) rfl ⟨by decide, ark_31.1, ark_31.2⟩ (by decide) rfl (by decide) (by decide) (by decide) (by exact hI _ (by decide)) (by exact hL _ (by decide)) ?_
  refine Ev.putR (pc' := 36) dX1_init_33 rfl fa_RX1_22 ⟨by decide, obk_27.1, obk_27.2⟩ fk_1_5 (Or.inr ⟨rfl, rfl⟩) (fun _ => rfl) (fun _ => rfl) ?_
  refine Ev.aload_n (k := 0) (pc' := 37) dX1_init_36 rfl rfl rfl ?_
  refine Ev.bipush (v := 8) (pc' := 39) dX1_init_37 rfl (by decide) ?_
  refine Ev.newA' 0 (N := 8) (pc' := 41) dX1_init_39 rfl rfl (fun _ _ h9 => h9) acl_int ni_8 (by decide) rfl ⟨by decide, ark_32.1, ark_32.2⟩ (by decide) rfl (by decide) (by decide) (by decide) (by exact hI _ (by decide)) (by exact hL _ (by decide)) ?_
  refine Ev.putR (pc' := 44) dX1_init_41 rfl fa_RX1_25 ⟨by decide, obk_27.1, obk_27.2⟩ fk_1_6 (Or.inr ⟨rfl, rfl⟩) (fun _ => rfl) (fun _ => rfl) ?_
  exact Ev.vret dX1_init_44 rfl rfl ⟨rfl, rfl, rfl, rfl, rfl⟩
def cX4_33_i (I : Ix) : Ix := I
def cX4_33_l (L : Lx) : Lx := L
def cX4_33_r (R : Rx) : Rx := (pu (va_up (pu (va_up (pu (va_up (pu (va_up R 34 (fun _ => none)) 33 2 (some 34)) 35 (fun _ => none)) 33 3 (some 35)) 36 (fun _ => none)) 33 4 (some 36)) 37 (fun _ => none)) 33 5 (some 37))
theorem cX4_33_i_keep {I : Ix} {q : Nat} (h : 38 ≤ q) : cX4_33_i I q = I q := by
  unfold cX4_33_i
  rfl
theorem cX4_33_l_keep {L : Lx} {q : Nat} (h : 38 ≤ q) : cX4_33_l L q = L q := by
  unfold cX4_33_l
  rfl
set_option maxRecDepth 20000 in
theorem okccX4_33 {G : Gx} {Ls : Nat} {xs : Nat → Int32} (hO : Old G Ls xs) {I : Ix} {L : Lx} {R : Rx} (hI : ∀ q, 34 ≤ q → I q = fun _ => 0) (hL : ∀ q, 34 ≤ q → L q = fun _ => 0) : Mt G MX4_init [.ref 33] 34 I L R 38 (qC 38 (cX4_33_i I) (cX4_33_l L) (cX4_33_r R)) := by
  refine Mt.of (by decide +kernel) (Nat.le_of_ble_eq_true rfl) (by decide) ?_
  refine Ev.aload_n (k := 0) (pc' := 1) dX4_init_0 rfl rfl rfl ?_
  refine Ev.objInit (pc' := 4) dX4_init_1 rfl oi_RX4_3 oi_w.1 oi_w.2 (Nat.le_of_ble_eq_true rfl) (Nat.le_of_ble_eq_true rfl) ?_
  refine Ev.aload_n (k := 0) (pc' := 5) dX4_init_4 rfl rfl rfl ?_
  refine Ev.bipush (v := 6) (pc' := 7) dX4_init_5 rfl (by decide) ?_
  refine Ev.newA' 0 (N := 6) (pc' := 9) dX4_init_7 rfl rfl (fun _ _ h9 => h9) acl_int ni_6 (by decide) rfl ⟨by decide, ark_34.1, ark_34.2⟩ (by decide) rfl (by decide) (by decide) (by decide) (by exact hI _ (by decide)) (by exact hL _ (by decide)) ?_
  refine Ev.putR (pc' := 12) dX4_init_9 rfl fa_RX4_9 ⟨by decide, obk_33.1, obk_33.2⟩ fk_4_2 (Or.inr ⟨rfl, rfl⟩) (fun _ => rfl) (fun _ => rfl) ?_
  refine Ev.aload_n (k := 0) (pc' := 13) dX4_init_12 rfl rfl rfl ?_
  refine Ev.bipush (v := 6) (pc' := 15) dX4_init_13 rfl (by decide) ?_
  refine Ev.newA' 0 (N := 6) (pc' := 17) dX4_init_15 rfl rfl (fun _ _ h9 => h9) acl_int ni_6 (by decide) rfl ⟨by decide, ark_35.1, ark_35.2⟩ (by decide) rfl (by decide) (by decide) (by decide) (by exact hI _ (by decide)) (by exact hL _ (by decide)) ?_
  refine Ev.putR (pc' := 20) dX4_init_17 rfl fa_RX4_15 ⟨by decide, obk_33.1, obk_33.2⟩ fk_4_3 (Or.inr ⟨rfl, rfl⟩) (fun _ => rfl) (fun _ => rfl) ?_
  refine Ev.aload_n (k := 0) (pc' := 21) dX4_init_20 rfl rfl rfl ?_
  refine Ev.sipush (v := 720) (pc' := 24) dX4_init_21 rfl (by decide) ?_
  refine Ev.newA' 0 (N := 720) (pc' := 26) dX4_init_24 rfl rfl (fun _ _ h9 => h9) acl_int ni_720 (by decide) rfl ⟨by decide, ark_36.1, ark_36.2⟩ (by decide) rfl (by decide) (by decide) (by decide) (by exact hI _ (by decide)) (by exact hL _ (by decide)) ?_
  refine Ev.putR (pc' := 29) dX4_init_26 rfl fa_RX4_18 ⟨by decide, obk_33.1, obk_33.2⟩ fk_4_4 (Or.inr ⟨rfl, rfl⟩) (fun _ => rfl) (fun _ => rfl) ?_
  refine Ev.aload_n (k := 0) (pc' := 30) dX4_init_29 rfl rfl rfl ?_
  refine Ev.bipush (v := 80) (pc' := 32) dX4_init_30 rfl (by decide) ?_
  refine Ev.newA' 0 (N := 80) (pc' := 34) dX4_init_32 rfl rfl (fun _ _ h9 => h9) acl_int ni_80 (by decide) rfl ⟨by decide, ark_37.1, ark_37.2⟩ (by decide) rfl (by decide) (by decide) (by decide) (by exact hI _ (by decide)) (by exact hL _ (by decide)) ?_
  refine Ev.putR (pc' := 37) dX4_init_34 rfl fa_RX4_21 ⟨by decide, obk_33.1, obk_33.2⟩ fk_4_5 (Or.inr ⟨rfl, rfl⟩) (fun _ => rfl) (fun _ => rfl) ?_
  exact Ev.vret dX4_init_37 rfl rfl ⟨rfl, rfl, rfl, rfl, rfl⟩
def cX10_26_i (I : Ix) : Ix := (cX4_33_i (cX1_27_i I))
def cX10_26_l (L : Lx) : Lx := (cX4_33_l (cX1_27_l L))
def cX10_26_r (R : Rx) : Rx := (pu (va_up (pu (va_up (pu (va_up (pu (va_up (pu (va_up (pu (va_up (pu (va_up (pu (va_up (pu (va_up (pu (va_up (pu (va_up (pu (cX4_33_r (va_up (pu (cX1_27_r (va_up R 27 (fun _ => none))) 26 0 (some 27)) 33 (fun _ => none))) 26 1 (some 33)) 38 (fun _ => none)) 26 6 (some 38)) 39 (fun _ => none)) 26 7 (some 39)) 40 (fun _ => none)) 26 8 (some 40)) 41 (fun _ => none)) 26 9 (some 41)) 42 (fun _ => none)) 26 10 (some 42)) 43 (fun _ => none)) 26 11 (some 43)) 44 (fun _ => none)) 26 12 (some 44)) 45 (fun _ => none)) 26 13 (some 45)) 46 (fun _ => none)) 26 14 (some 46)) 47 (fun _ => none)) 26 15 (some 47)) 48 (fun _ => none)) 26 16 (some 48))
theorem cX10_26_i_keep {I : Ix} {q : Nat} (h : 49 ≤ q) : cX10_26_i I q = I q := by
  unfold cX10_26_i
  rw [cX4_33_i_keep (by omega), cX1_27_i_keep (by omega)]
theorem cX10_26_l_keep {L : Lx} {q : Nat} (h : 49 ≤ q) : cX10_26_l L q = L q := by
  unfold cX10_26_l
  rw [cX4_33_l_keep (by omega), cX1_27_l_keep (by omega)]
set_option maxRecDepth 20000 in
theorem okccX10_26 {G : Gx} {Ls : Nat} {xs : Nat → Int32} (hO : Old G Ls xs) {I : Ix} {L : Lx} {R : Rx} (hI : ∀ q, 27 ≤ q → I q = fun _ => 0) (hL : ∀ q, 27 ≤ q → L q = fun _ => 0) : Mt G MX10_init [.ref 26] 27 I L R 49 (qC 49 (cX10_26_i I) (cX10_26_l L) (cX10_26_r R)) := by
  refine Mt.of (by decide +kernel) (Nat.le_of_ble_eq_true rfl) (by decide) ?_
  refine Ev.aload_n (k := 0) (pc' := 1) dX10_init_0 rfl rfl rfl ?_
  refine Ev.objInit (pc' := 4) dX10_init_1 rfl oi_RX10_3 oi_w.1 oi_w.2 (Nat.le_of_ble_eq_true rfl) (Nat.le_of_ble_eq_true rfl) ?_
  refine Ev.aload_n (k := 0) (pc' := 5) dX10_init_4 rfl rfl rfl ?_
  refine Ev.newO' (tyT := tyX1) (pc' := 8) dX10_init_5 rfl (c := 1) rfl rfl wsin_1 tyX1_ok hdf_1 cl_RX10_9 inst_1.1 inst_1.2 ⟨by decide, obk_27.1, obk_27.2⟩ (by decide) (by decide) (by exact hI _ (by decide)) (by exact hL _ (by decide)) ?_
  refine Ev.dup (pc' := 9) dX10_init_8 rfl rfl ?_
  refine Ev.callN (M' := MX1_init) (host := "NoonSquare") (k := 27) (As := []) (rest := [.ref 27, .ref 26]) (nF' := 33) (pc' := 12) dX10_init_9 rfl (fun U hU => (hO U hU).2.2.2.2.2.2.2.2.1) ci_RX1.1 ci_RX1.2.1 ci_RX1.2.2 rfl rfl ⟨by decide, by decide, by decide +kernel⟩ ⟨Nat.le_of_ble_eq_true rfl, Nat.le_of_ble_eq_true rfl⟩ rfl rfl (Nat.le_of_ble_eq_true rfl) (by decide) (by decide) (okccX1_27 hO (fun q hq => by exact hI _ (by omega)) (fun q hq => by exact hL _ (by omega))) ?_
  intro v n' I' L' R' hq
  obtain ⟨e1, e2, e3, e4, e5⟩ := hq
  rw [e1, e2, e3, e4, e5]
  refine ⟨rfl, ?_⟩
  refine Ev.putR (pc' := 15) dX10_init_12 rfl fa_RX10_12 ⟨by decide, obk_26.1, obk_26.2⟩ fk_10_0 (Or.inr ⟨rfl, rfl⟩) (fun _ => rfl) (fun _ => rfl) ?_
  refine Ev.aload_n (k := 0) (pc' := 16) dX10_init_15 rfl rfl rfl ?_
  refine Ev.newO' (tyT := tyX4) (pc' := 19) dX10_init_16 rfl (c := 4) rfl rfl wsin_4 tyX4_ok hdf_4 cl_RX10_18 inst_4.1 inst_4.2 ⟨by decide, obk_33.1, obk_33.2⟩ (by decide) (by decide) (by rw [cX1_27_i_keep (by decide)]; exact hI _ (by decide)) (by rw [cX1_27_l_keep (by decide)]; exact hL _ (by decide)) ?_
  refine Ev.dup (pc' := 20) dX10_init_19 rfl rfl ?_
  refine Ev.callN (M' := MX4_init) (host := "NoonSquare") (k := 33) (As := []) (rest := [.ref 33, .ref 26]) (nF' := 38) (pc' := 23) dX10_init_20 rfl (fun U hU => (hO U hU).2.2.2.2.2.2.2.2.2.1) ci_RX4.1 ci_RX4.2.1 ci_RX4.2.2 rfl rfl ⟨by decide, by decide, by decide +kernel⟩ ⟨Nat.le_of_ble_eq_true rfl, Nat.le_of_ble_eq_true rfl⟩ rfl rfl (Nat.le_of_ble_eq_true rfl) (by decide) (by decide) (okccX4_33 hO (fun q hq => by rw [cX1_27_i_keep (by omega)]; exact hI _ (by omega)) (fun q hq => by rw [cX1_27_l_keep (by omega)]; exact hL _ (by omega))) ?_
  intro v n' I' L' R' hq
  obtain ⟨e1, e2, e3, e4, e5⟩ := hq
  rw [e1, e2, e3, e4, e5]
  refine ⟨rfl, ?_⟩
  refine Ev.putR (pc' := 26) dX10_init_23 rfl fa_RX10_21 ⟨by decide, obk_26.1, obk_26.2⟩ fk_10_1 (Or.inr ⟨rfl, rfl⟩) (fun _ => rfl) (fun _ => rfl) ?_
  refine Ev.aload_n (k := 0) (pc' := 27) dX10_init_26 rfl rfl rfl ?_
  refine Ev.bipush (v := 10) (pc' := 29) dX10_init_27 rfl (by decide) ?_
  refine Ev.newA' 1 (N := 10) (pc' := 31) dX10_init_29 rfl rfl (fun _ _ h9 => h9) acl_long ni_10 (by decide) rfl ⟨by decide, ark_38.1, ark_38.2⟩ (by decide) rfl (by decide) (by decide) (by decide) (by rw [cX4_33_i_keep (by decide), cX1_27_i_keep (by decide)]; exact hI _ (by decide)) (by rw [cX4_33_l_keep (by decide), cX1_27_l_keep (by decide)]; exact hL _ (by decide)) ?_
  refine Ev.putR (pc' := 34) dX10_init_31 rfl fa_RX10_25 ⟨by decide, obk_26.1, obk_26.2⟩ fk_10_6 (Or.inr ⟨rfl, rfl⟩) (fun _ => rfl) (fun _ => rfl) ?_
  refine Ev.aload_n (k := 0) (pc' := 35) dX10_init_34 rfl rfl rfl ?_
  refine Ev.bipush (v := 10) (pc' := 37) dX10_init_35 rfl (by decide) ?_
  refine Ev.newA' 0 (N := 10) (pc' := 39) dX10_init_37 rfl rfl (fun _ _ h9 => h9) acl_int ni_10 (by decide) rfl ⟨by decide, ark_39.1, ark_39.2⟩ (by decide) rfl (by decide) (by decide) (by decide) (by rw [cX4_33_i_keep (by decide), cX1_27_i_keep (by decide)]; exact hI _ (by decide)) (by rw [cX4_33_l_keep (by decide), cX1_27_l_keep (by decide)]; exact hL _ (by decide)) ?_
  refine Ev.putR (pc' := 42) dX10_init_39 rfl fa_RX10_29 ⟨by decide, obk_26.1, obk_26.2⟩ fk_10_7 (Or.inr ⟨rfl, rfl⟩) (fun _ => rfl) (fun _ => rfl) ?_
  refine Ev.aload_n (k := 0) (pc' := 43) dX10_init_42 rfl rfl rfl ?_
  refine Ev.bipush (v := 10) (pc' := 45) dX10_init_43 rfl (by decide) ?_
  refine Ev.newA' 0 (N := 10) (pc' := 47) dX10_init_45 rfl rfl (fun _ _ h9 => h9) acl_int ni_10 (by decide) rfl ⟨by decide, ark_40.1, ark_40.2⟩ (by decide) rfl (by decide) (by decide) (by decide) (by rw [cX4_33_i_keep (by decide), cX1_27_i_keep (by decide)]; exact hI _ (by decide)) (by rw [cX4_33_l_keep (by decide), cX1_27_l_keep (by decide)]; exact hL _ (by decide)) ?_
  refine Ev.putR (pc' := 50) dX10_init_47 rfl fa_RX10_33 ⟨by decide, obk_26.1, obk_26.2⟩ fk_10_8 (Or.inr ⟨rfl, rfl⟩) (fun _ => rfl) (fun _ => rfl) ?_
  refine Ev.aload_n (k := 0) (pc' := 51) dX10_init_50 rfl rfl rfl ?_
  refine Ev.bipush (v := 10) (pc' := 53) dX10_init_51 rfl (by decide) ?_
  refine Ev.newA' 0 (N := 10) (pc' := 55) dX10_init_53 rfl rfl (fun _ _ h9 => h9) acl_int ni_10 (by decide) rfl ⟨by decide, ark_41.1, ark_41.2⟩ (by decide) rfl (by decide) (by decide) (by decide) (by rw [cX4_33_i_keep (by decide), cX1_27_i_keep (by decide)]; exact hI _ (by decide)) (by rw [cX4_33_l_keep (by decide), cX1_27_l_keep (by decide)]; exact hL _ (by decide)) ?_
  refine Ev.putR (pc' := 58) dX10_init_55 rfl fa_RX10_36 ⟨by decide, obk_26.1, obk_26.2⟩ fk_10_9 (Or.inr ⟨rfl, rfl⟩) (fun _ => rfl) (fun _ => rfl) ?_
  refine Ev.aload_n (k := 0) (pc' := 59) dX10_init_58 rfl rfl rfl ?_
  refine Ev.bipush (v := 10) (pc' := 61) dX10_init_59 rfl (by decide) ?_
  refine Ev.newA' 0 (N := 10) (pc' := 63) dX10_init_61 rfl rfl (fun _ _ h9 => h9) acl_int ni_10 (by decide) rfl ⟨by decide, ark_42.1, ark_42.2⟩ (by decide) rfl (by decide) (by decide) (by decide) (by rw [cX4_33_i_keep (by decide), cX1_27_i_keep (by decide)]; exact hI _ (by decide)) (by rw [cX4_33_l_keep (by decide), cX1_27_l_keep (by decide)]; exact hL _ (by decide)) ?_
  refine Ev.putR (pc' := 66) dX10_init_63 rfl fa_RX10_39 ⟨by decide, obk_26.1, obk_26.2⟩ fk_10_10 (Or.inr ⟨rfl, rfl⟩) (fun _ => rfl) (fun _ => rfl) ?_
  refine Ev.aload_n (k := 0) (pc' := 67) dX10_init_66 rfl rfl rfl ?_
  refine Ev.bipush (v := 10) (pc' := 69) dX10_init_67 rfl (by decide) ?_
  refine Ev.newA' 2 (N := 10) (pc' := 71) dX10_init_69 rfl rfl (fun _ _ h9 => h9) acl_boolean ni_10 (by decide) rfl ⟨by decide, ark_43.1, ark_43.2⟩ (by decide) rfl (by decide) (by decide) (by decide) (by rw [cX4_33_i_keep (by decide), cX1_27_i_keep (by decide)]; exact hI _ (by decide)) (by rw [cX4_33_l_keep (by decide), cX1_27_l_keep (by decide)]; exact hL _ (by decide)) ?_
  refine Ev.putR (pc' := 74) dX10_init_71 rfl fa_RX10_42 ⟨by decide, obk_26.1, obk_26.2⟩ fk_10_11 (Or.inr ⟨rfl, rfl⟩) (fun _ => rfl) (fun _ => rfl) ?_
  refine Ev.aload_n (k := 0) (pc' := 75) dX10_init_74 rfl rfl rfl ?_
  refine Ev.bipush (v := 6) (pc' := 77) dX10_init_75 rfl (by decide) ?_
  refine Ev.newA' 1 (N := 6) (pc' := 79) dX10_init_77 rfl rfl (fun _ _ h9 => h9) acl_long ni_6 (by decide) rfl ⟨by decide, ark_44.1, ark_44.2⟩ (by decide) rfl (by decide) (by decide) (by decide) (by rw [cX4_33_i_keep (by decide), cX1_27_i_keep (by decide)]; exact hI _ (by decide)) (by rw [cX4_33_l_keep (by decide), cX1_27_l_keep (by decide)]; exact hL _ (by decide)) ?_
  refine Ev.putR (pc' := 82) dX10_init_79 rfl fa_RX10_46 ⟨by decide, obk_26.1, obk_26.2⟩ fk_10_12 (Or.inr ⟨rfl, rfl⟩) (fun _ => rfl) (fun _ => rfl) ?_
  refine Ev.aload_n (k := 0) (pc' := 83) dX10_init_82 rfl rfl rfl ?_
  refine Ev.bipush (v := 6) (pc' := 85) dX10_init_83 rfl (by decide) ?_
  refine Ev.newA' 0 (N := 6) (pc' := 87) dX10_init_85 rfl rfl (fun _ _ h9 => h9) acl_int ni_6 (by decide) rfl ⟨by decide, ark_45.1, ark_45.2⟩ (by decide) rfl (by decide) (by decide) (by decide) (by rw [cX4_33_i_keep (by decide), cX1_27_i_keep (by decide)]; exact hI _ (by decide)) (by rw [cX4_33_l_keep (by decide), cX1_27_l_keep (by decide)]; exact hL _ (by decide)) ?_
  refine Ev.putR (pc' := 90) dX10_init_87 rfl fa_RX10_49 ⟨by decide, obk_26.1, obk_26.2⟩ fk_10_13 (Or.inr ⟨rfl, rfl⟩) (fun _ => rfl) (fun _ => rfl) ?_
  refine Ev.aload_n (k := 0) (pc' := 91) dX10_init_90 rfl rfl rfl ?_
  refine Ev.bipush (v := 6) (pc' := 93) dX10_init_91 rfl (by decide) ?_
  refine Ev.newA' 0 (N := 6) (pc' := 95) dX10_init_93 rfl rfl (fun _ _ h9 => h9) acl_int ni_6 (by decide) rfl ⟨by decide, ark_46.1, ark_46.2⟩ (by decide) rfl (by decide) (by decide) (by decide) (by rw [cX4_33_i_keep (by decide), cX1_27_i_keep (by decide)]; exact hI _ (by decide)) (by rw [cX4_33_l_keep (by decide), cX1_27_l_keep (by decide)]; exact hL _ (by decide)) ?_
  refine Ev.putR (pc' := 98) dX10_init_95 rfl fa_RX10_52 ⟨by decide, obk_26.1, obk_26.2⟩ fk_10_14 (Or.inr ⟨rfl, rfl⟩) (fun _ => rfl) (fun _ => rfl) ?_
  refine Ev.aload_n (k := 0) (pc' := 99) dX10_init_98 rfl rfl rfl ?_
  refine Ev.bipush (v := 6) (pc' := 101) dX10_init_99 rfl (by decide) ?_
  refine Ev.newA' 0 (N := 6) (pc' := 103) dX10_init_101 rfl rfl (fun _ _ h9 => h9) acl_int ni_6 (by decide) rfl ⟨by decide, ark_47.1, ark_47.2⟩ (by decide) rfl (by decide) (by decide) (by decide) (by rw [cX4_33_i_keep (by decide), cX1_27_i_keep (by decide)]; exact hI _ (by decide)) (by rw [cX4_33_l_keep (by decide), cX1_27_l_keep (by decide)]; exact hL _ (by decide)) ?_
  refine Ev.putR (pc' := 106) dX10_init_103 rfl fa_RX10_55 ⟨by decide, obk_26.1, obk_26.2⟩ fk_10_15 (Or.inr ⟨rfl, rfl⟩) (fun _ => rfl) (fun _ => rfl) ?_
  refine Ev.aload_n (k := 0) (pc' := 107) dX10_init_106 rfl rfl rfl ?_
  refine Ev.bipush (v := 6) (pc' := 109) dX10_init_107 rfl (by decide) ?_
  refine Ev.newA' 0 (N := 6) (pc' := 111) dX10_init_109 rfl rfl (fun _ _ h9 => h9) acl_int ni_6 (by decide) rfl ⟨by decide, ark_48.1, ark_48.2⟩ (by decide) rfl (by decide) (by decide) (by decide) (by rw [cX4_33_i_keep (by decide), cX1_27_i_keep (by decide)]; exact hI _ (by decide)) (by rw [cX4_33_l_keep (by decide), cX1_27_l_keep (by decide)]; exact hL _ (by decide)) ?_
  refine Ev.putR (pc' := 114) dX10_init_111 rfl fa_RX10_58 ⟨by decide, obk_26.1, obk_26.2⟩ fk_10_16 (Or.inr ⟨rfl, rfl⟩) (fun _ => rfl) (fun _ => rfl) ?_
  exact Ev.vret dX10_init_114 rfl rfl ⟨rfl, rfl, rfl, rfl, rfl⟩
section TOK
variable {G : Gx} {n : Nat} {I : Ix} {L : Lx} {R : Rx}
def isLet (a : Int32) : Bool := decide (97 ≤ a) && decide (a ≤ 122)
theorem okgX8_isLetter {a : Int32} {Q : Bool → Ix → Lx → Prop} (h : Q (isLet a) I L) : Mt G MX8_isLetter [.int a] n I L R n (qZn n R Q) := by
  refine Mt.of (by decide +kernel) (Nat.le_of_ble_eq_true rfl) (Nat.le_refl _) ?_
  refine Ev.iload_n (k := 0) (pc' := 1) dX8_isLetter_0 rfl rfl rfl ?_
  refine Ev.bipush (pc' := 3) dX8_isLetter_1 rfl kb_97 ?_
  refine Ev.icmp_lt (pc' := 6) (tgt := 16) dX8_isLetter_3 rfl rfl (fun hc => ?_) (fun hc => ?_)
  · refine Ev.iconst (v := 0) (pc' := 17) dX8_isLetter_16 rfl (by decide) ?_
    refine Ev.zret dX8_isLetter_17 rfl rfl rfl ⟨rfl, rfl, false, rfl, ?_⟩
    have h1 : ¬ (97 : Int32) ≤ a := Int32.not_le.mpr hc
    simpa [isLet, h1] using h
  refine Ev.iload_n (k := 0) (pc' := 7) dX8_isLetter_6 rfl rfl rfl ?_
  refine Ev.bipush (pc' := 9) dX8_isLetter_7 rfl kb_122 ?_
  have h1 : (97 : Int32) ≤ a := Int32.not_lt.mp hc
  refine Ev.icmp_gt (pc' := 12) (tgt := 16) dX8_isLetter_9 rfl rfl (fun hc => ?_) (fun hc => ?_)
  · refine Ev.iconst (v := 0) (pc' := 17) dX8_isLetter_16 rfl (by decide) ?_
    refine Ev.zret dX8_isLetter_17 rfl rfl rfl ⟨rfl, rfl, false, rfl, ?_⟩
    have h2 : ¬ a ≤ (122 : Int32) := Int32.not_le.mpr hc
    simpa [isLet, h2] using h
  · refine Ev.iconst (v := 1) (pc' := 13) dX8_isLetter_12 rfl (by decide) ?_
    refine Ev.goto (tgt := 17) dX8_isLetter_13 rfl ?_
    refine Ev.zret dX8_isLetter_17 rfl rfl rfl ⟨rfl, rfl, true, rfl, ?_⟩
    have h2 : a ≤ (122 : Int32) := Int32.not_lt.mp hc
    simpa [isLet, h1, h2] using h
def withL (l : Int64) (a : Int32) : Int64 := l * 32 + (a - 97 + 1).toInt64
theorem okgX8_withLetter {l : Int64} {a : Int32} {Q : Int64 → Ix → Lx → Prop} (h : Q (withL l a) I L) : Mt G MX8_withLetter [.long l, .int a] n I L R n (qLn n R Q) := by
  refine Mt.of (by decide +kernel) (Nat.le_of_ble_eq_true rfl) (Nat.le_refl _) ?_
  refine Ev.lload_n (k := 0) (pc' := 1) dX8_withLetter_0 rfl rfl rfl ?_
  refine Ev.ldc2 (pc' := 4) dX8_withLetter_1 rfl ll_RX8_79 ?_
  refine Ev.lmul (pc' := 5) dX8_withLetter_4 rfl ?_
  refine Ev.iload_n (k := 1) (pc' := 6) dX8_withLetter_5 rfl rfl rfl ?_
  refine Ev.bipush (pc' := 8) dX8_withLetter_6 rfl kb_97 ?_
  refine Ev.isub (pc' := 9) dX8_withLetter_8 rfl ?_
  refine Ev.iconst (pc' := 10) dX8_withLetter_9 rfl ki_1 ?_
  refine Ev.iadd (pc' := 11) dX8_withLetter_10 rfl ?_
  refine Ev.i2l (pc' := 12) dX8_withLetter_11 rfl ?_
  refine Ev.ladd (pc' := 13) dX8_withLetter_12 rfl ?_
  exact Ev.lret dX8_withLetter_13 rfl rfl ⟨rfl, rfl, _, rfl, h⟩
/-- the packed words behind i letters -/
def wlAt : Nat → Nat → Int64
  | 0 => fun _ => 0
  | i + 1 => if isLet (wch (nI i)) then va_up (wlAt i) (i / 8) (withL (wlAt i (i / 8)) (wch (nI i))) else wlAt i
def cX8_51_i (I : Ix) : Ix := I
def cX8_51_l (L : Lx) : Lx := va_up L 52 (wlAt 224)
def cX8_51_r (R : Rx) : Rx := pu (pu (va_up R 52 (fun _ => none)) 51 1 (some 52)) 51 0 (some 1)
theorem cX8_51_i_keep {I : Ix} {q : Nat} (_h : 53 ≤ q) : cX8_51_i I q = I q := rfl
theorem cX8_51_l_keep {L : Lx} {q : Nat} (h : 53 ≤ q) : cX8_51_l L q = L q := by
  unfold cX8_51_l va_up
  rw [if_neg (by omega)]
theorem ob51 : OB 53 51 8 := ⟨by decide, by decide +kernel, by decide +kernel⟩
theorem ar52 : AR 53 52 1 28 := ⟨by decide, by decide +kernel, by decide +kernel⟩
theorem divI {i : Nat} (h : i < 224) : nI i / 8 = nI (i / 8) := by
  have := pk_div (a := i) (d := 8) (by omega) (by decide) (by decide)
  exact this
set_option maxRecDepth 20000 in
theorem tokLoop {Ls : Nat} {xs : Nat → Int32} (hO : Old G Ls xs) (hR : R 51 1 = some 52) : ∀ k i, i + k = 224 → Ev G MX8_init 52 53 (qC 53 I (va_up L 52 (wlAt 224)) R) 19 [(0, .ref 51), (2, .int (nI i))] [] 53 I (va_up L 52 (wlAt i)) R := by
  intro k
  induction k with
  | zero =>
    intro i hi
    have hi : i = 224 := by omega
    subst hi
    refine Ev.iload_n (k := 1) (pc' := 20) dX8_init_19 rfl rfl rfl ?_
    refine Ev.sipush (v := 224) (pc' := 23) dX8_init_20 rfl (by decide) ?_
    refine Ev.icmp_ge (pc' := 26) (tgt := 70) dX8_init_23 rfl rfl (fun hc => ?_) (fun hc => absurd (by decide) hc)
    exact Ev.vret dX8_init_70 rfl rfl ⟨rfl, rfl, rfl, rfl, rfl⟩
  | succ k ih =>
    intro i hi
    have hlt : i < 224 := by omega
    have hin : vp_in (nI i) 224 := vp_in_nI hlt (by decide)
    have hi8 : i / 8 < 28 := by omega
    have hin8 : vp_in (nI (i / 8)) 28 := vp_in_nI hi8 (by decide)
    have ihn := ih (i + 1) (by omega)
    refine Ev.iload_n (k := 1) (pc' := 20) dX8_init_19 rfl rfl rfl ?_
    refine Ev.sipush (v := 224) (pc' := 23) dX8_init_20 rfl (by decide) ?_
    refine Ev.icmp_ge (pc' := 26) (tgt := 70) dX8_init_23 rfl rfl (fun hc => absurd hc (nI_ge (b := 224) hlt (by decide))) (fun hc => ?_)
    refine Ev.ldcS (k := 1000) (pc' := 28) dX8_init_26 rfl (fun U hU => (hO U hU).2.1) ?_
    refine Ev.iload_n (k := 1) (pc' := 29) dX8_init_28 rfl rfl rfl ?_
    refine Ev.callO (k := 1000) (As := [.int (nI i)]) (rest := []) (pc' := 32) dX8_init_29 rfl cv_X8_21 ⟨Nat.le_of_ble_eq_true rfl, Nat.le_of_ble_eq_true rfl⟩ (fun U hU => ((hO U hU).1.1 0 (by decide)).1) rfl rfl (Nat.le_of_ble_eq_true rfl) (by decide) (okJ0 hO hin (Q := fun r I2 L2 => r = wch (nI i) ∧ I2 = I ∧ L2 = va_up L 52 (wlAt i)) ⟨rfl, rfl, rfl⟩) ?_
    intro v n' I' L' R' hq
    obtain ⟨rfl, hR', r, rfl, rfl, rfl, rfl⟩ := hq
    subst hR'
    refine ⟨rfl, ?_⟩
    refine Ev.callS (As := [.int (wch (nI i))]) (rest := []) (pc' := 35) dX8_init_32 rfl cv_RX8_27_X8_isLetter ⟨Nat.le_of_ble_eq_true rfl, Nat.le_of_ble_eq_true rfl⟩ rfl rfl (Nat.le_of_ble_eq_true rfl) (Nat.le_refl _) (by decide) (okgX8_isLetter (Q := fun b I2 L2 => b = isLet (wch (nI i)) ∧ I2 = I' ∧ L2 = va_up L 52 (wlAt i)) ⟨rfl, rfl, rfl⟩) ?_
    intro v n' I'' L' R'' hq
    obtain ⟨rfl, hR', r, rfl, rfl, hI'', rfl⟩ := hq
    subst hR'
    subst hI''
    refine ⟨rfl, ?_⟩
    have hend : ∀ (ls : List (Nat × Value)) (wl : Nat → Int64), wlAt (i + 1) = wl → (lv_pick ls [1, 2] = [(0, .ref 51), (2, .int (nI i))]) → Ev G MX8_init 52 53 (qC 53 I'' (va_up L 52 (wlAt 224)) R'') 64 ls [] 53 I'' (va_up L 52 wl) R'' := by
      intro ls wl hwl hls
      refine Ev.sub [1, 2] hls ?_
      refine Ev.iinc (k := 1) (v := nI (i + 1)) (ls' := [(2, .int (nI (i + 1))), (0, .ref 51)]) (pc' := 67) dX8_init_64 rfl rfl (by rw [nI_succ]; rfl) (Nat.le_of_ble_eq_true rfl) rfl ?_
      refine Ev.goto (tgt := 19) dX8_init_67 rfl ?_
      refine Ev.sub [1, 0] rfl ?_
      rw [← hwl]
      exact ihn
    refine Ev.if_eq (pc' := 38) (tgt := 64) dX8_init_35 rfl rfl (fun hc => ?_) (fun hc => ?_)
    · have hb := b2i_0 hc
      refine Ev.sub (ls' := [(0, .ref 51), (0, .ref 51), (2, .int (nI i))]) [0, 0, 1] rfl ?_
      refine hend _ _ ?_ rfl
      show (if isLet (wch (nI i)) = true then _ else _) = _
      rw [hb]; rfl
    · have hb := b2i_1 hc
      refine Ev.iload_n (k := 1) (pc' := 39) dX8_init_38 rfl rfl rfl ?_
      refine Ev.bipush (pc' := 41) dX8_init_39 rfl kb_8 ?_
      refine Ev.idiv (pc' := 42) dX8_init_41 rfl (by decide) ?_
      rw [divI hlt]
      refine Ev.istore_n (ls' := [(3, .int _), (0, .ref _), (2, .int _)]) (pc' := 43) dX8_init_42 rfl rfl (Nat.le_of_ble_eq_true rfl) rfl ?_
      refine Ev.aload_n (k := 1) (pc' := 44) dX8_init_43 rfl rfl rfl ?_
      refine Ev.getR (pc' := 47) dX8_init_44 rfl fa_RX8_9 ob51 fk_8_1 hR ?_
      refine Ev.iload_n (k := 0) (pc' := 48) dX8_init_47 rfl rfl rfl ?_
      refine Ev.aload_n (k := 1) (pc' := 49) dX8_init_48 rfl rfl rfl ?_
      refine Ev.getR (pc' := 52) dX8_init_49 rfl fa_RX8_9 ob51 fk_8_1 hR ?_
      refine Ev.iload_n (k := 0) (pc' := 53) dX8_init_52 rfl rfl rfl ?_
      refine Ev.laload (j := i / 8) (pc' := 54) dX8_init_53 rfl ar52 hin8 (nI_clamp (by omega)) ?_
      refine Ev.ldcS (k := 1000) (pc' := 56) dX8_init_54 rfl (fun U hU => (hO U hU).2.1) ?_
      refine Ev.iload_n (k := 2) (pc' := 57) dX8_init_56 rfl rfl rfl ?_
      refine Ev.callO (k := 1000) (As := [.int (nI i)]) (rest := [.long _, .int _, .ref _]) (pc' := 60) dX8_init_57 rfl cv_X8_21 ⟨Nat.le_of_ble_eq_true rfl, Nat.le_of_ble_eq_true rfl⟩ (fun U hU => ((hO U hU).1.1 0 (by decide)).1) rfl rfl (Nat.le_of_ble_eq_true rfl) (by decide) (okJ0 hO hin (Q := fun r I2 L2 => r = wch (nI i) ∧ I2 = I'' ∧ L2 = va_up L 52 (wlAt i)) ⟨rfl, rfl, rfl⟩) ?_
      intro v n' I3 L3 R3 hq
      obtain ⟨rfl, hR', r, rfl, rfl, hI3, rfl⟩ := hq
      subst hR'
      subst hI3
      refine ⟨rfl, ?_⟩
      refine Ev.callS (As := [.long _, .int (wch (nI i))]) (rest := [.int _, .ref _]) (pc' := 63) dX8_init_60 rfl cv_RX8_31_X8_withLetter ⟨Nat.le_of_ble_eq_true rfl, Nat.le_of_ble_eq_true rfl⟩ rfl rfl (Nat.le_of_ble_eq_true rfl) (Nat.le_refl _) (by decide) (okgX8_withLetter (Q := fun r I2 L2 => r = withL (va_up L 52 (wlAt i) 52 (i / 8)) (wch (nI i)) ∧ I2 = I3 ∧ L2 = va_up L 52 (wlAt i)) ⟨rfl, rfl, rfl⟩) ?_
      intro v n' I4 L4 R4 hq
      obtain ⟨rfl, hR', r, rfl, rfl, hI4, rfl⟩ := hq
      subst hR'
      subst hI4
      refine ⟨rfl, ?_⟩
      refine Ev.lastore (j := i / 8) (pc' := 64) dX8_init_63 rfl ar52 hin8 (nI_clamp (by omega)) (fun L5 e5 => ?_)
      subst e5
      have he : pu (va_up L 52 (wlAt i)) 52 (i / 8) (withL (va_up L 52 (wlAt i) 52 (i / 8)) (wch (nI i))) = va_up L 52 (va_up (wlAt i) (i / 8) (withL (wlAt i (i / 8)) (wch (nI i)))) := by
        have h1 : va_up L 52 (wlAt i) 52 = wlAt i := by simp [va_up]
        funext a
        by_cases ha : a = 52
        · subst ha; rw [pu_at, h1]; simp [va_up]
        · rw [pu_ne _ _ _ ha]; simp [va_up, ha]
      rw [he]
      refine hend _ _ ?_ rfl
      show (if isLet (wch (nI i)) = true then _ else _) = _
      rw [if_pos hb]
set_option maxRecDepth 20000 in
theorem okccX8_51 {Ls : Nat} {xs : Nat → Int32} (hO : Old G Ls xs) (hI : ∀ q, 52 ≤ q → I q = fun _ => 0) (hL : ∀ q, 52 ≤ q → L q = fun _ => 0) : Mt G MX8_init [.ref 51, .ref 1] 52 I L R 53 (qC 53 (cX8_51_i I) (cX8_51_l L) (cX8_51_r R)) := by
  refine Mt.of (by decide +kernel) (Nat.le_of_ble_eq_true rfl) (by decide) ?_
  refine Ev.aload_n (k := 0) (pc' := 1) dX8_init_0 rfl rfl rfl ?_
  refine Ev.objInit (pc' := 4) dX8_init_1 rfl oi_RX8_3 oi_w.1 oi_w.2 (Nat.le_of_ble_eq_true rfl) (Nat.le_of_ble_eq_true rfl) ?_
  refine Ev.aload_n (k := 0) (pc' := 5) dX8_init_4 rfl rfl rfl ?_
  refine Ev.bipush (v := 28) (pc' := 7) dX8_init_5 rfl (by decide) ?_
  refine Ev.newA' 1 (N := 28) (pc' := 9) dX8_init_7 rfl rfl (fun _ _ h9 => h9) acl_long ni_28 (by decide) rfl ⟨by decide, ark_52.1, ark_52.2⟩ (by decide) rfl (by decide) (by decide) (by decide) (hI _ (by decide)) (hL _ (by decide)) ?_
  refine Ev.putR (pc' := 12) dX8_init_9 rfl fa_RX8_9 ob51 fk_8_1 (Or.inr ⟨rfl, rfl⟩) (fun _ => rfl) (fun _ => rfl) ?_
  refine Ev.aload_n (k := 0) (pc' := 13) dX8_init_12 rfl rfl rfl ?_
  refine Ev.aload_n (k := 1) (pc' := 14) dX8_init_13 rfl rfl rfl ?_
  refine Ev.putR (pc' := 17) dX8_init_14 rfl fa_RX8_15 ob51 fk_8_0 (Or.inr ⟨rfl, rfl⟩) (fun _ => rfl) (fun _ => rfl) ?_
  refine Ev.iconst (v := nI 0) (pc' := 18) dX8_init_17 rfl (by decide) ?_
  refine Ev.istore_n (ls' := [(2, .int _), (0, .ref _), (1, .ref _)]) (pc' := 19) dX8_init_18 rfl rfl (Nat.le_of_ble_eq_true rfl) rfl ?_
  refine Ev.sub [1, 0] rfl ?_
  have h0 : L = va_up L 52 (wlAt 0) := (va_up_id (hL 52 (by decide))).symm
  have h1 := tokLoop (G := G) (I := I) (L := L) (R := cX8_51_r R) hO (by rfl) 224 0 rfl
  rw [← h0] at h1
  exact h1
end TOK

def cX3_49_i (I : Ix) : Ix := (cX8_51_i (pu I 49 8 (-1)))
def cX3_49_l (L : Lx) : Lx := (cX8_51_l L)
def cX3_49_r (R : Rx) : Rx := (pu (pu (pu (pu (cX8_51_r (va_up (pu (va_up R 50 (fun _ => none)) 49 6 (some 50)) 51 (fun _ => none))) 49 0 (some 51)) 49 1 (some 26)) 49 2 (some 27)) 49 3 (some 33))
theorem cX3_49_i_keep {I : Ix} {q : Nat} (h : 53 ≤ q) : cX3_49_i I q = I q := by
  unfold cX3_49_i
  rw [cX8_51_i_keep (by omega), pu_ne _ _ _ (by omega)]
theorem cX3_49_l_keep {L : Lx} {q : Nat} (h : 53 ≤ q) : cX3_49_l L q = L q := by
  unfold cX3_49_l
  rw [cX8_51_l_keep (by omega)]
set_option maxRecDepth 20000 in
theorem okccX3_49 {G : Gx} {Ls : Nat} {xs : Nat → Int32} (hO : Old G Ls xs) {I : Ix} {L : Lx} {R : Rx} (hI : ∀ q, 50 ≤ q → I q = fun _ => 0) (hL : ∀ q, 50 ≤ q → L q = fun _ => 0) (hR26_0 : R 26 0 = some 27) (hR26_1 : R 26 1 = some 33) : Mt G MX3_init [.ref 49, .ref 1, .ref 26] 50 I L R 53 (qC 53 (cX3_49_i I) (cX3_49_l L) (cX3_49_r R)) := by
  refine Mt.of (by decide +kernel) (Nat.le_of_ble_eq_true rfl) (by decide) ?_
  refine Ev.aload_n (k := 0) (pc' := 1) dX3_init_0 rfl rfl rfl ?_
  refine Ev.objInit (pc' := 4) dX3_init_1 rfl oi_RX3_3 oi_w.1 oi_w.2 (Nat.le_of_ble_eq_true rfl) (Nat.le_of_ble_eq_true rfl) ?_
  refine Ev.aload_n (k := 0) (pc' := 5) dX3_init_4 rfl rfl rfl ?_
  refine Ev.iconst (v := 1) (pc' := 6) dX3_init_5 rfl (by decide) ?_
  refine Ev.newA' 0 (N := 1) (pc' := 8) dX3_init_6 rfl rfl (fun _ _ h9 => h9) acl_int ni_1 (by decide) rfl ⟨by decide, ark_50.1, ark_50.2⟩ (by decide) rfl (by decide) (by decide) (by decide) (by exact hI _ (by decide)) (by exact hL _ (by decide)) ?_
  refine Ev.putR (pc' := 11) dX3_init_8 rfl fa_RX3_9 ⟨by decide, obk_49.1, obk_49.2⟩ fk_3_6 (Or.inr ⟨rfl, rfl⟩) (fun _ => rfl) (fun _ => rfl) ?_
  refine Ev.aload_n (k := 0) (pc' := 12) dX3_init_11 rfl rfl rfl ?_
  refine Ev.iconst (v := (-1)) (pc' := 13) dX3_init_12 rfl (by decide) ?_
  refine Ev.putI (pc' := 16) dX3_init_13 rfl fa_RX3_15 ⟨by decide, obk_49.1, obk_49.2⟩ fk_3_8 rfl rfl (fun I1 e1 => ?_)
  subst e1
  refine Ev.aload_n (k := 0) (pc' := 17) dX3_init_16 rfl rfl rfl ?_
  refine Ev.newO' (tyT := tyX8) (pc' := 20) dX3_init_17 rfl (c := 8) rfl rfl wsin_8 tyX8_ok hdf_8 cl_RX3_19 inst_8.1 inst_8.2 ⟨by decide, obk_51.1, obk_51.2⟩ (by decide) (by decide) (by rw [pu_ne _ _ _ (by decide)]; exact hI _ (by decide)) (by exact hL _ (by decide)) ?_
  refine Ev.dup (pc' := 21) dX3_init_20 rfl rfl ?_
  refine Ev.aload_n (k := 1) (pc' := 22) dX3_init_21 rfl rfl rfl ?_
  refine Ev.callI (M' := MX8_init) (k := 51) (As := [.ref 1]) (rest := [.ref 51, .ref 49]) (nF' := 53) (pc' := 25) dX3_init_22 rfl cm_RX3_21 ci_RX8.1 ci_RX8.2.1 ci_RX8.2.2 rfl rfl ⟨by decide, by decide, by decide +kernel⟩ ⟨Nat.le_of_ble_eq_true rfl, Nat.le_of_ble_eq_true rfl⟩ rfl rfl (Nat.le_of_ble_eq_true rfl) (by decide) (by decide) (okccX8_51 hO (fun q hq => by rw [pu_ne _ _ _ (by omega)]; exact hI _ (by omega)) (fun q hq => by exact hL _ (by omega))) ?_
  intro v n' I' L' R' hq
  obtain ⟨e1, e2, e3, e4, e5⟩ := hq
  rw [e1, e2, e3, e4, e5]
  refine ⟨rfl, ?_⟩
  refine Ev.putR (pc' := 28) dX3_init_25 rfl fa_RX3_24 ⟨by decide, obk_49.1, obk_49.2⟩ fk_3_0 (Or.inr ⟨rfl, rfl⟩) (fun _ => rfl) (fun _ => rfl) ?_
  refine Ev.aload_n (k := 0) (pc' := 29) dX3_init_28 rfl rfl rfl ?_
  refine Ev.aload_n (k := 2) (pc' := 30) dX3_init_29 rfl rfl rfl ?_
  refine Ev.putR (pc' := 33) dX3_init_30 rfl fa_RX3_28 ⟨by decide, obk_49.1, obk_49.2⟩ fk_3_1 (Or.inr ⟨rfl, rfl⟩) (fun _ => rfl) (fun _ => rfl) ?_
  refine Ev.aload_n (k := 0) (pc' := 34) dX3_init_33 rfl rfl rfl ?_
  refine Ev.aload_n (k := 2) (pc' := 35) dX3_init_34 rfl rfl rfl ?_
  refine Ev.getR (r := 27) (pc' := 38) dX3_init_35 rfl fa_RX3_32 ⟨by decide, obk_26.1, obk_26.2⟩ fk_10_0 hR26_0 ?_
  refine Ev.putR (pc' := 41) dX3_init_38 rfl fa_RX3_38 ⟨by decide, obk_49.1, obk_49.2⟩ fk_3_2 (Or.inr ⟨rfl, rfl⟩) (fun _ => rfl) (fun _ => rfl) ?_
  refine Ev.aload_n (k := 0) (pc' := 42) dX3_init_41 rfl rfl rfl ?_
  refine Ev.aload_n (k := 2) (pc' := 43) dX3_init_42 rfl rfl rfl ?_
  refine Ev.getR (r := 33) (pc' := 46) dX3_init_43 rfl fa_RX3_39 ⟨by decide, obk_26.1, obk_26.2⟩ fk_10_1 hR26_1 ?_
  refine Ev.putR (pc' := 49) dX3_init_46 rfl fa_RX3_43 ⟨by decide, obk_49.1, obk_49.2⟩ fk_3_3 (Or.inr ⟨rfl, rfl⟩) (fun _ => rfl) (fun _ => rfl) ?_
  exact Ev.vret dX3_init_49 rfl rfl ⟨rfl, rfl, rfl, rfl, rfl⟩
def cX2_53_i (I : Ix) : Ix := (pu I 53 2 1)
def cX2_53_l (L : Lx) : Lx := L
def cX2_53_r (R : Rx) : Rx := (pu (va_up (pu (va_up (pu (va_up (pu (va_up (pu (va_up (pu (va_up (pu (va_up (pu (va_up R 54 (fun _ => none)) 53 3 (some 54)) 55 (fun _ => none)) 53 4 (some 55)) 56 (fun _ => none)) 53 5 (some 56)) 57 (fun _ => none)) 53 6 (some 57)) 58 (fun _ => none)) 53 7 (some 58)) 59 (fun _ => none)) 53 8 (some 59)) 60 (fun _ => none)) 53 9 (some 60)) 61 (fun _ => none)) 53 10 (some 61))
theorem cX2_53_i_keep {I : Ix} {q : Nat} (h : 62 ≤ q) : cX2_53_i I q = I q := by
  unfold cX2_53_i
  rw [pu_ne _ _ _ (by omega)]
theorem cX2_53_l_keep {L : Lx} {q : Nat} (h : 62 ≤ q) : cX2_53_l L q = L q := by
  unfold cX2_53_l
  rfl
set_option maxRecDepth 20000 in
theorem okccX2_53 {G : Gx} {Ls : Nat} {xs : Nat → Int32} (hO : Old G Ls xs) {I : Ix} {L : Lx} {R : Rx} (hI : ∀ q, 54 ≤ q → I q = fun _ => 0) (hL : ∀ q, 54 ≤ q → L q = fun _ => 0) : Mt G MX2_init [.ref 53] 54 I L R 62 (qC 62 (cX2_53_i I) (cX2_53_l L) (cX2_53_r R)) := by
  refine Mt.of (by decide +kernel) (Nat.le_of_ble_eq_true rfl) (by decide) ?_
  refine Ev.aload_n (k := 0) (pc' := 1) dX2_init_0 rfl rfl rfl ?_
  refine Ev.objInit (pc' := 4) dX2_init_1 rfl oi_RX2_3 oi_w.1 oi_w.2 (Nat.le_of_ble_eq_true rfl) (Nat.le_of_ble_eq_true rfl) ?_
  refine Ev.aload_n (k := 0) (pc' := 5) dX2_init_4 rfl rfl rfl ?_
  refine Ev.iconst (v := 1) (pc' := 6) dX2_init_5 rfl (by decide) ?_
  refine Ev.putI (pc' := 9) dX2_init_6 rfl fa_RX2_9 ⟨by decide, obk_53.1, obk_53.2⟩ fk_2_2 rfl rfl (fun I1 e1 => ?_)
  subst e1
  refine Ev.aload_n (k := 0) (pc' := 10) dX2_init_9 rfl rfl rfl ?_
  refine Ev.bipush (v := 10) (pc' := 12) dX2_init_10 rfl (by decide) ?_
  refine Ev.newA' 0 (N := 10) (pc' := 14) dX2_init_12 rfl rfl (fun _ _ h9 => h9) acl_int ni_10 (by decide) rfl ⟨by decide, ark_54.1, ark_54.2⟩ (by decide) rfl (by decide) (by decide) (by decide) (by rw [pu_ne _ _ _ (by decide)]; exact hI _ (by decide)) (by exact hL _ (by decide)) ?_
  refine Ev.putR (pc' := 17) dX2_init_14 rfl fa_RX2_15 ⟨by decide, obk_53.1, obk_53.2⟩ fk_2_3 (Or.inr ⟨rfl, rfl⟩) (fun _ => rfl) (fun _ => rfl) ?_
  refine Ev.aload_n (k := 0) (pc' := 18) dX2_init_17 rfl rfl rfl ?_
  refine Ev.bipush (v := 10) (pc' := 20) dX2_init_18 rfl (by decide) ?_
  refine Ev.newA' 0 (N := 10) (pc' := 22) dX2_init_20 rfl rfl (fun _ _ h9 => h9) acl_int ni_10 (by decide) rfl ⟨by decide, ark_55.1, ark_55.2⟩ (by decide) rfl (by decide) (by decide) (by decide) (by rw [pu_ne _ _ _ (by decide)]; exact hI _ (by decide)) (by exact hL _ (by decide)) ?_
  refine Ev.putR (pc' := 25) dX2_init_22 rfl fa_RX2_19 ⟨by decide, obk_53.1, obk_53.2⟩ fk_2_4 (Or.inr ⟨rfl, rfl⟩) (fun _ => rfl) (fun _ => rfl) ?_
  refine Ev.aload_n (k := 0) (pc' := 26) dX2_init_25 rfl rfl rfl ?_
  refine Ev.bipush (v := 10) (pc' := 28) dX2_init_26 rfl (by decide) ?_
  refine Ev.newA' 0 (N := 10) (pc' := 30) dX2_init_28 rfl rfl (fun _ _ h9 => h9) acl_int ni_10 (by decide) rfl ⟨by decide, ark_56.1, ark_56.2⟩ (by decide) rfl (by decide) (by decide) (by decide) (by rw [pu_ne _ _ _ (by decide)]; exact hI _ (by decide)) (by exact hL _ (by decide)) ?_
  refine Ev.putR (pc' := 33) dX2_init_30 rfl fa_RX2_22 ⟨by decide, obk_53.1, obk_53.2⟩ fk_2_5 (Or.inr ⟨rfl, rfl⟩) (fun _ => rfl) (fun _ => rfl) ?_
  refine Ev.aload_n (k := 0) (pc' := 34) dX2_init_33 rfl rfl rfl ?_
  refine Ev.bipush (v := 10) (pc' := 36) dX2_init_34 rfl (by decide) ?_
  refine Ev.newA' 0 (N := 10) (pc' := 38) dX2_init_36 rfl rfl (fun _ _ h9 => h9) acl_int ni_10 (by decide) rfl ⟨by decide, ark_57.1, ark_57.2⟩ (by decide) rfl (by decide) (by decide) (by decide) (by rw [pu_ne _ _ _ (by decide)]; exact hI _ (by decide)) (by exact hL _ (by decide)) ?_
  refine Ev.putR (pc' := 41) dX2_init_38 rfl fa_RX2_25 ⟨by decide, obk_53.1, obk_53.2⟩ fk_2_6 (Or.inr ⟨rfl, rfl⟩) (fun _ => rfl) (fun _ => rfl) ?_
  refine Ev.aload_n (k := 0) (pc' := 42) dX2_init_41 rfl rfl rfl ?_
  refine Ev.bipush (v := 10) (pc' := 44) dX2_init_42 rfl (by decide) ?_
  refine Ev.newA' 2 (N := 10) (pc' := 46) dX2_init_44 rfl rfl (fun _ _ h9 => h9) acl_boolean ni_10 (by decide) rfl ⟨by decide, ark_58.1, ark_58.2⟩ (by decide) rfl (by decide) (by decide) (by decide) (by rw [pu_ne _ _ _ (by decide)]; exact hI _ (by decide)) (by exact hL _ (by decide)) ?_
  refine Ev.putR (pc' := 49) dX2_init_46 rfl fa_RX2_28 ⟨by decide, obk_53.1, obk_53.2⟩ fk_2_7 (Or.inr ⟨rfl, rfl⟩) (fun _ => rfl) (fun _ => rfl) ?_
  refine Ev.aload_n (k := 0) (pc' := 50) dX2_init_49 rfl rfl rfl ?_
  refine Ev.bipush (v := 6) (pc' := 52) dX2_init_50 rfl (by decide) ?_
  refine Ev.newA' 0 (N := 6) (pc' := 54) dX2_init_52 rfl rfl (fun _ _ h9 => h9) acl_int ni_6 (by decide) rfl ⟨by decide, ark_59.1, ark_59.2⟩ (by decide) rfl (by decide) (by decide) (by decide) (by rw [pu_ne _ _ _ (by decide)]; exact hI _ (by decide)) (by exact hL _ (by decide)) ?_
  refine Ev.putR (pc' := 57) dX2_init_54 rfl fa_RX2_32 ⟨by decide, obk_53.1, obk_53.2⟩ fk_2_8 (Or.inr ⟨rfl, rfl⟩) (fun _ => rfl) (fun _ => rfl) ?_
  refine Ev.aload_n (k := 0) (pc' := 58) dX2_init_57 rfl rfl rfl ?_
  refine Ev.bipush (v := 6) (pc' := 60) dX2_init_58 rfl (by decide) ?_
  refine Ev.newA' 0 (N := 6) (pc' := 62) dX2_init_60 rfl rfl (fun _ _ h9 => h9) acl_int ni_6 (by decide) rfl ⟨by decide, ark_60.1, ark_60.2⟩ (by decide) rfl (by decide) (by decide) (by decide) (by rw [pu_ne _ _ _ (by decide)]; exact hI _ (by decide)) (by exact hL _ (by decide)) ?_
  refine Ev.putR (pc' := 65) dX2_init_62 rfl fa_RX2_35 ⟨by decide, obk_53.1, obk_53.2⟩ fk_2_9 (Or.inr ⟨rfl, rfl⟩) (fun _ => rfl) (fun _ => rfl) ?_
  refine Ev.aload_n (k := 0) (pc' := 66) dX2_init_65 rfl rfl rfl ?_
  refine Ev.sipush (v := 600) (pc' := 69) dX2_init_66 rfl (by decide) ?_
  refine Ev.newA' 0 (N := 600) (pc' := 71) dX2_init_69 rfl rfl (fun _ _ h9 => h9) acl_int ni_600 (by decide) rfl ⟨by decide, ark_61.1, ark_61.2⟩ (by decide) rfl (by decide) (by decide) (by decide) (by rw [pu_ne _ _ _ (by decide)]; exact hI _ (by decide)) (by exact hL _ (by decide)) ?_
  refine Ev.putR (pc' := 74) dX2_init_71 rfl fa_RX2_38 ⟨by decide, obk_53.1, obk_53.2⟩ fk_2_10 (Or.inr ⟨rfl, rfl⟩) (fun _ => rfl) (fun _ => rfl) ?_
  exact Ev.vret dX2_init_74 rfl rfl ⟨rfl, rfl, rfl, rfl, rfl⟩
def cX0_62_i (I : Ix) : Ix := I
def cX0_62_l (L : Lx) : Lx := L
def cX0_62_r (R : Rx) : Rx := (pu (pu (va_up (pu (va_up (pu (va_up (pu (va_up (pu (va_up (pu (va_up R 63 (fun _ => none)) 62 1 (some 63)) 64 (fun _ => none)) 62 2 (some 64)) 65 (fun _ => none)) 62 3 (some 65)) 66 (fun _ => none)) 62 4 (some 66)) 67 (fun _ => none)) 62 5 (some 67)) 68 (fun _ => none)) 62 6 (some 68)) 62 0 (some 3))
theorem cX0_62_i_keep {I : Ix} {q : Nat} (h : 69 ≤ q) : cX0_62_i I q = I q := by
  unfold cX0_62_i
  rfl
theorem cX0_62_l_keep {L : Lx} {q : Nat} (h : 69 ≤ q) : cX0_62_l L q = L q := by
  unfold cX0_62_l
  rfl
set_option maxRecDepth 20000 in
theorem okccX0_62 {G : Gx} {Ls : Nat} {xs : Nat → Int32} (hO : Old G Ls xs) {I : Ix} {L : Lx} {R : Rx} (hI : ∀ q, 63 ≤ q → I q = fun _ => 0) (hL : ∀ q, 63 ≤ q → L q = fun _ => 0) : Mt G MX0_init [.ref 62, .ref 3] 63 I L R 69 (qC 69 (cX0_62_i I) (cX0_62_l L) (cX0_62_r R)) := by
  refine Mt.of (by decide +kernel) (Nat.le_of_ble_eq_true rfl) (by decide) ?_
  refine Ev.aload_n (k := 0) (pc' := 1) dX0_init_0 rfl rfl rfl ?_
  refine Ev.objInit (pc' := 4) dX0_init_1 rfl oi_RX0_3 oi_w.1 oi_w.2 (Nat.le_of_ble_eq_true rfl) (Nat.le_of_ble_eq_true rfl) ?_
  refine Ev.aload_n (k := 0) (pc' := 5) dX0_init_4 rfl rfl rfl ?_
  refine Ev.bipush (v := 11) (pc' := 7) dX0_init_5 rfl (by decide) ?_
  refine Ev.newA' 0 (N := 11) (pc' := 9) dX0_init_7 rfl rfl (fun _ _ h9 => h9) acl_int ni_11 (by decide) rfl ⟨by decide, ark_63.1, ark_63.2⟩ (by decide) rfl (by decide) (by decide) (by decide) (by exact hI _ (by decide)) (by exact hL _ (by decide)) ?_
  refine Ev.putR (pc' := 12) dX0_init_9 rfl fa_RX0_9 ⟨by decide, obk_62.1, obk_62.2⟩ fk_0_1 (Or.inr ⟨rfl, rfl⟩) (fun _ => rfl) (fun _ => rfl) ?_
  refine Ev.aload_n (k := 0) (pc' := 13) dX0_init_12 rfl rfl rfl ?_
  refine Ev.bipush (v := 10) (pc' := 15) dX0_init_13 rfl (by decide) ?_
  refine Ev.newA' 0 (N := 10) (pc' := 17) dX0_init_15 rfl rfl (fun _ _ h9 => h9) acl_int ni_10 (by decide) rfl ⟨by decide, ark_64.1, ark_64.2⟩ (by decide) rfl (by decide) (by decide) (by decide) (by exact hI _ (by decide)) (by exact hL _ (by decide)) ?_
  refine Ev.putR (pc' := 20) dX0_init_17 rfl fa_RX0_15 ⟨by decide, obk_62.1, obk_62.2⟩ fk_0_2 (Or.inr ⟨rfl, rfl⟩) (fun _ => rfl) (fun _ => rfl) ?_
  refine Ev.aload_n (k := 0) (pc' := 21) dX0_init_20 rfl rfl rfl ?_
  refine Ev.bipush (v := 10) (pc' := 23) dX0_init_21 rfl (by decide) ?_
  refine Ev.newA' 0 (N := 10) (pc' := 25) dX0_init_23 rfl rfl (fun _ _ h9 => h9) acl_int ni_10 (by decide) rfl ⟨by decide, ark_65.1, ark_65.2⟩ (by decide) rfl (by decide) (by decide) (by decide) (by exact hI _ (by decide)) (by exact hL _ (by decide)) ?_
  refine Ev.putR (pc' := 28) dX0_init_25 rfl fa_RX0_18 ⟨by decide, obk_62.1, obk_62.2⟩ fk_0_3 (Or.inr ⟨rfl, rfl⟩) (fun _ => rfl) (fun _ => rfl) ?_
  refine Ev.aload_n (k := 0) (pc' := 29) dX0_init_28 rfl rfl rfl ?_
  refine Ev.bipush (v := 6) (pc' := 31) dX0_init_29 rfl (by decide) ?_
  refine Ev.newA' 0 (N := 6) (pc' := 33) dX0_init_31 rfl rfl (fun _ _ h9 => h9) acl_int ni_6 (by decide) rfl ⟨by decide, ark_66.1, ark_66.2⟩ (by decide) rfl (by decide) (by decide) (by decide) (by exact hI _ (by decide)) (by exact hL _ (by decide)) ?_
  refine Ev.putR (pc' := 36) dX0_init_33 rfl fa_RX0_21 ⟨by decide, obk_62.1, obk_62.2⟩ fk_0_4 (Or.inr ⟨rfl, rfl⟩) (fun _ => rfl) (fun _ => rfl) ?_
  refine Ev.aload_n (k := 0) (pc' := 37) dX0_init_36 rfl rfl rfl ?_
  refine Ev.bipush (v := 6) (pc' := 39) dX0_init_37 rfl (by decide) ?_
  refine Ev.newA' 0 (N := 6) (pc' := 41) dX0_init_39 rfl rfl (fun _ _ h9 => h9) acl_int ni_6 (by decide) rfl ⟨by decide, ark_67.1, ark_67.2⟩ (by decide) rfl (by decide) (by decide) (by decide) (by exact hI _ (by decide)) (by exact hL _ (by decide)) ?_
  refine Ev.putR (pc' := 44) dX0_init_41 rfl fa_RX0_24 ⟨by decide, obk_62.1, obk_62.2⟩ fk_0_5 (Or.inr ⟨rfl, rfl⟩) (fun _ => rfl) (fun _ => rfl) ?_
  refine Ev.aload_n (k := 0) (pc' := 45) dX0_init_44 rfl rfl rfl ?_
  refine Ev.bipush (v := 10) (pc' := 47) dX0_init_45 rfl (by decide) ?_
  refine Ev.newA' 0 (N := 10) (pc' := 49) dX0_init_47 rfl rfl (fun _ _ h9 => h9) acl_int ni_10 (by decide) rfl ⟨by decide, ark_68.1, ark_68.2⟩ (by decide) rfl (by decide) (by decide) (by decide) (by exact hI _ (by decide)) (by exact hL _ (by decide)) ?_
  refine Ev.putR (pc' := 52) dX0_init_49 rfl fa_RX0_27 ⟨by decide, obk_62.1, obk_62.2⟩ fk_0_6 (Or.inr ⟨rfl, rfl⟩) (fun _ => rfl) (fun _ => rfl) ?_
  refine Ev.aload_n (k := 0) (pc' := 53) dX0_init_52 rfl rfl rfl ?_
  refine Ev.aload_n (k := 1) (pc' := 54) dX0_init_53 rfl rfl rfl ?_
  refine Ev.putR (pc' := 57) dX0_init_54 rfl fa_RX0_30 ⟨by decide, obk_62.1, obk_62.2⟩ fk_0_0 (Or.inr ⟨rfl, rfl⟩) (fun _ => rfl) (fun _ => rfl) ?_
  exact Ev.vret dX0_init_57 rfl rfl ⟨rfl, rfl, rfl, rfl, rfl⟩
def cX2_70_i (I : Ix) : Ix := (pu I 70 2 1)
def cX2_70_l (L : Lx) : Lx := L
def cX2_70_r (R : Rx) : Rx := (pu (va_up (pu (va_up (pu (va_up (pu (va_up (pu (va_up (pu (va_up (pu (va_up (pu (va_up R 71 (fun _ => none)) 70 3 (some 71)) 72 (fun _ => none)) 70 4 (some 72)) 73 (fun _ => none)) 70 5 (some 73)) 74 (fun _ => none)) 70 6 (some 74)) 75 (fun _ => none)) 70 7 (some 75)) 76 (fun _ => none)) 70 8 (some 76)) 77 (fun _ => none)) 70 9 (some 77)) 78 (fun _ => none)) 70 10 (some 78))
theorem cX2_70_i_keep {I : Ix} {q : Nat} (h : 79 ≤ q) : cX2_70_i I q = I q := by
  unfold cX2_70_i
  rw [pu_ne _ _ _ (by omega)]
theorem cX2_70_l_keep {L : Lx} {q : Nat} (h : 79 ≤ q) : cX2_70_l L q = L q := by
  unfold cX2_70_l
  rfl
set_option maxRecDepth 20000 in
theorem okccX2_70 {G : Gx} {Ls : Nat} {xs : Nat → Int32} (hO : Old G Ls xs) {I : Ix} {L : Lx} {R : Rx} (hI : ∀ q, 71 ≤ q → I q = fun _ => 0) (hL : ∀ q, 71 ≤ q → L q = fun _ => 0) : Mt G MX2_init [.ref 70] 71 I L R 79 (qC 79 (cX2_70_i I) (cX2_70_l L) (cX2_70_r R)) := by
  refine Mt.of (by decide +kernel) (Nat.le_of_ble_eq_true rfl) (by decide) ?_
  refine Ev.aload_n (k := 0) (pc' := 1) dX2_init_0 rfl rfl rfl ?_
  refine Ev.objInit (pc' := 4) dX2_init_1 rfl oi_RX2_3 oi_w.1 oi_w.2 (Nat.le_of_ble_eq_true rfl) (Nat.le_of_ble_eq_true rfl) ?_
  refine Ev.aload_n (k := 0) (pc' := 5) dX2_init_4 rfl rfl rfl ?_
  refine Ev.iconst (v := 1) (pc' := 6) dX2_init_5 rfl (by decide) ?_
  refine Ev.putI (pc' := 9) dX2_init_6 rfl fa_RX2_9 ⟨by decide, obk_70.1, obk_70.2⟩ fk_2_2 rfl rfl (fun I1 e1 => ?_)
  subst e1
  refine Ev.aload_n (k := 0) (pc' := 10) dX2_init_9 rfl rfl rfl ?_
  refine Ev.bipush (v := 10) (pc' := 12) dX2_init_10 rfl (by decide) ?_
  refine Ev.newA' 0 (N := 10) (pc' := 14) dX2_init_12 rfl rfl (fun _ _ h9 => h9) acl_int ni_10 (by decide) rfl ⟨by decide, ark_71.1, ark_71.2⟩ (by decide) rfl (by decide) (by decide) (by decide) (by rw [pu_ne _ _ _ (by decide)]; exact hI _ (by decide)) (by exact hL _ (by decide)) ?_
  refine Ev.putR (pc' := 17) dX2_init_14 rfl fa_RX2_15 ⟨by decide, obk_70.1, obk_70.2⟩ fk_2_3 (Or.inr ⟨rfl, rfl⟩) (fun _ => rfl) (fun _ => rfl) ?_
  refine Ev.aload_n (k := 0) (pc' := 18) dX2_init_17 rfl rfl rfl ?_
  refine Ev.bipush (v := 10) (pc' := 20) dX2_init_18 rfl (by decide) ?_
  refine Ev.newA' 0 (N := 10) (pc' := 22) dX2_init_20 rfl rfl (fun _ _ h9 => h9) acl_int ni_10 (by decide) rfl ⟨by decide, ark_72.1, ark_72.2⟩ (by decide) rfl (by decide) (by decide) (by decide) (by rw [pu_ne _ _ _ (by decide)]; exact hI _ (by decide)) (by exact hL _ (by decide)) ?_
  refine Ev.putR (pc' := 25) dX2_init_22 rfl fa_RX2_19 ⟨by decide, obk_70.1, obk_70.2⟩ fk_2_4 (Or.inr ⟨rfl, rfl⟩) (fun _ => rfl) (fun _ => rfl) ?_
  refine Ev.aload_n (k := 0) (pc' := 26) dX2_init_25 rfl rfl rfl ?_
  refine Ev.bipush (v := 10) (pc' := 28) dX2_init_26 rfl (by decide) ?_
  refine Ev.newA' 0 (N := 10) (pc' := 30) dX2_init_28 rfl rfl (fun _ _ h9 => h9) acl_int ni_10 (by decide) rfl ⟨by decide, ark_73.1, ark_73.2⟩ (by decide) rfl (by decide) (by decide) (by decide) (by rw [pu_ne _ _ _ (by decide)]; exact hI _ (by decide)) (by exact hL _ (by decide)) ?_
  refine Ev.putR (pc' := 33) dX2_init_30 rfl fa_RX2_22 ⟨by decide, obk_70.1, obk_70.2⟩ fk_2_5 (Or.inr ⟨rfl, rfl⟩) (fun _ => rfl) (fun _ => rfl) ?_
  refine Ev.aload_n (k := 0) (pc' := 34) dX2_init_33 rfl rfl rfl ?_
  refine Ev.bipush (v := 10) (pc' := 36) dX2_init_34 rfl (by decide) ?_
  refine Ev.newA' 0 (N := 10) (pc' := 38) dX2_init_36 rfl rfl (fun _ _ h9 => h9) acl_int ni_10 (by decide) rfl ⟨by decide, ark_74.1, ark_74.2⟩ (by decide) rfl (by decide) (by decide) (by decide) (by rw [pu_ne _ _ _ (by decide)]; exact hI _ (by decide)) (by exact hL _ (by decide)) ?_
  refine Ev.putR (pc' := 41) dX2_init_38 rfl fa_RX2_25 ⟨by decide, obk_70.1, obk_70.2⟩ fk_2_6 (Or.inr ⟨rfl, rfl⟩) (fun _ => rfl) (fun _ => rfl) ?_
  refine Ev.aload_n (k := 0) (pc' := 42) dX2_init_41 rfl rfl rfl ?_
  refine Ev.bipush (v := 10) (pc' := 44) dX2_init_42 rfl (by decide) ?_
  refine Ev.newA' 2 (N := 10) (pc' := 46) dX2_init_44 rfl rfl (fun _ _ h9 => h9) acl_boolean ni_10 (by decide) rfl ⟨by decide, ark_75.1, ark_75.2⟩ (by decide) rfl (by decide) (by decide) (by decide) (by rw [pu_ne _ _ _ (by decide)]; exact hI _ (by decide)) (by exact hL _ (by decide)) ?_
  refine Ev.putR (pc' := 49) dX2_init_46 rfl fa_RX2_28 ⟨by decide, obk_70.1, obk_70.2⟩ fk_2_7 (Or.inr ⟨rfl, rfl⟩) (fun _ => rfl) (fun _ => rfl) ?_
  refine Ev.aload_n (k := 0) (pc' := 50) dX2_init_49 rfl rfl rfl ?_
  refine Ev.bipush (v := 6) (pc' := 52) dX2_init_50 rfl (by decide) ?_
  refine Ev.newA' 0 (N := 6) (pc' := 54) dX2_init_52 rfl rfl (fun _ _ h9 => h9) acl_int ni_6 (by decide) rfl ⟨by decide, ark_76.1, ark_76.2⟩ (by decide) rfl (by decide) (by decide) (by decide) (by rw [pu_ne _ _ _ (by decide)]; exact hI _ (by decide)) (by exact hL _ (by decide)) ?_
  refine Ev.putR (pc' := 57) dX2_init_54 rfl fa_RX2_32 ⟨by decide, obk_70.1, obk_70.2⟩ fk_2_8 (Or.inr ⟨rfl, rfl⟩) (fun _ => rfl) (fun _ => rfl) ?_
  refine Ev.aload_n (k := 0) (pc' := 58) dX2_init_57 rfl rfl rfl ?_
  refine Ev.bipush (v := 6) (pc' := 60) dX2_init_58 rfl (by decide) ?_
  refine Ev.newA' 0 (N := 6) (pc' := 62) dX2_init_60 rfl rfl (fun _ _ h9 => h9) acl_int ni_6 (by decide) rfl ⟨by decide, ark_77.1, ark_77.2⟩ (by decide) rfl (by decide) (by decide) (by decide) (by rw [pu_ne _ _ _ (by decide)]; exact hI _ (by decide)) (by exact hL _ (by decide)) ?_
  refine Ev.putR (pc' := 65) dX2_init_62 rfl fa_RX2_35 ⟨by decide, obk_70.1, obk_70.2⟩ fk_2_9 (Or.inr ⟨rfl, rfl⟩) (fun _ => rfl) (fun _ => rfl) ?_
  refine Ev.aload_n (k := 0) (pc' := 66) dX2_init_65 rfl rfl rfl ?_
  refine Ev.sipush (v := 600) (pc' := 69) dX2_init_66 rfl (by decide) ?_
  refine Ev.newA' 0 (N := 600) (pc' := 71) dX2_init_69 rfl rfl (fun _ _ h9 => h9) acl_int ni_600 (by decide) rfl ⟨by decide, ark_78.1, ark_78.2⟩ (by decide) rfl (by decide) (by decide) (by decide) (by rw [pu_ne _ _ _ (by decide)]; exact hI _ (by decide)) (by exact hL _ (by decide)) ?_
  refine Ev.putR (pc' := 74) dX2_init_71 rfl fa_RX2_38 ⟨by decide, obk_70.1, obk_70.2⟩ fk_2_10 (Or.inr ⟨rfl, rfl⟩) (fun _ => rfl) (fun _ => rfl) ?_
  exact Ev.vret dX2_init_74 rfl rfl ⟨rfl, rfl, rfl, rfl, rfl⟩
def cX9_69_i (I : Ix) : Ix := (cX2_70_i I)
def cX9_69_l (L : Lx) : Lx := (cX2_70_l L)
def cX9_69_r (R : Rx) : Rx := (pu (pu (pu (va_up (pu (cX2_70_r (va_up R 70 (fun _ => none))) 69 2 (some 70)) 79 (fun _ => none)) 69 3 (some 79)) 69 0 (some 3)) 69 1 (some 62))
theorem cX9_69_i_keep {I : Ix} {q : Nat} (h : 80 ≤ q) : cX9_69_i I q = I q := by
  unfold cX9_69_i
  rw [cX2_70_i_keep (by omega)]
theorem cX9_69_l_keep {L : Lx} {q : Nat} (h : 80 ≤ q) : cX9_69_l L q = L q := by
  unfold cX9_69_l
  rw [cX2_70_l_keep (by omega)]
set_option maxRecDepth 20000 in
theorem okccX9_69 {G : Gx} {Ls : Nat} {xs : Nat → Int32} (hO : Old G Ls xs) {I : Ix} {L : Lx} {R : Rx} (hI : ∀ q, 70 ≤ q → I q = fun _ => 0) (hL : ∀ q, 70 ≤ q → L q = fun _ => 0) : Mt G MX9_init [.ref 69, .ref 3, .ref 62] 70 I L R 80 (qC 80 (cX9_69_i I) (cX9_69_l L) (cX9_69_r R)) := by
  refine Mt.of (by decide +kernel) (Nat.le_of_ble_eq_true rfl) (by decide) ?_
  refine Ev.aload_n (k := 0) (pc' := 1) dX9_init_0 rfl rfl rfl ?_
  refine Ev.objInit (pc' := 4) dX9_init_1 rfl oi_RX9_3 oi_w.1 oi_w.2 (Nat.le_of_ble_eq_true rfl) (Nat.le_of_ble_eq_true rfl) ?_
  refine Ev.aload_n (k := 0) (pc' := 5) dX9_init_4 rfl rfl rfl ?_
  refine Ev.newO' (tyT := tyX2) (pc' := 8) dX9_init_5 rfl (c := 2) rfl rfl wsin_2 tyX2_ok hdf_2 cl_RX9_9 inst_2.1 inst_2.2 ⟨by decide, obk_70.1, obk_70.2⟩ (by decide) (by decide) (by exact hI _ (by decide)) (by exact hL _ (by decide)) ?_
  refine Ev.dup (pc' := 9) dX9_init_8 rfl rfl ?_
  refine Ev.callN (M' := MX2_init) (host := "NoonSquare") (k := 70) (As := []) (rest := [.ref 70, .ref 69]) (nF' := 79) (pc' := 12) dX9_init_9 rfl (fun U hU => (hO U hU).2.2.2.2.2.2.2.2.2.2.2.1) ci_RX2.1 ci_RX2.2.1 ci_RX2.2.2 rfl rfl ⟨by decide, by decide, by decide +kernel⟩ ⟨Nat.le_of_ble_eq_true rfl, Nat.le_of_ble_eq_true rfl⟩ rfl rfl (Nat.le_of_ble_eq_true rfl) (by decide) (by decide) (okccX2_70 hO (fun q hq => by exact hI _ (by omega)) (fun q hq => by exact hL _ (by omega))) ?_
  intro v n' I' L' R' hq
  obtain ⟨e1, e2, e3, e4, e5⟩ := hq
  rw [e1, e2, e3, e4, e5]
  refine ⟨rfl, ?_⟩
  refine Ev.putR (pc' := 15) dX9_init_12 rfl fa_RX9_12 ⟨by decide, obk_69.1, obk_69.2⟩ fk_9_2 (Or.inr ⟨rfl, rfl⟩) (fun _ => rfl) (fun _ => rfl) ?_
  refine Ev.aload_n (k := 0) (pc' := 16) dX9_init_15 rfl rfl rfl ?_
  refine Ev.bipush (v := 101) (pc' := 18) dX9_init_16 rfl (by decide) ?_
  refine Ev.newA' 1 (N := 101) (pc' := 20) dX9_init_18 rfl rfl (fun _ _ h9 => h9) acl_long ni_101 (by decide) rfl ⟨by decide, ark_79.1, ark_79.2⟩ (by decide) rfl (by decide) (by decide) (by decide) (by rw [cX2_70_i_keep (by decide)]; exact hI _ (by decide)) (by rw [cX2_70_l_keep (by decide)]; exact hL _ (by decide)) ?_
  refine Ev.putR (pc' := 23) dX9_init_20 rfl fa_RX9_18 ⟨by decide, obk_69.1, obk_69.2⟩ fk_9_3 (Or.inr ⟨rfl, rfl⟩) (fun _ => rfl) (fun _ => rfl) ?_
  refine Ev.aload_n (k := 0) (pc' := 24) dX9_init_23 rfl rfl rfl ?_
  refine Ev.aload_n (k := 1) (pc' := 25) dX9_init_24 rfl rfl rfl ?_
  refine Ev.putR (pc' := 28) dX9_init_25 rfl fa_RX9_22 ⟨by decide, obk_69.1, obk_69.2⟩ fk_9_0 (Or.inr ⟨rfl, rfl⟩) (fun _ => rfl) (fun _ => rfl) ?_
  refine Ev.aload_n (k := 0) (pc' := 29) dX9_init_28 rfl rfl rfl ?_
  refine Ev.aload_n (k := 2) (pc' := 30) dX9_init_29 rfl rfl rfl ?_
  refine Ev.putR (pc' := 33) dX9_init_30 rfl fa_RX9_26 ⟨by decide, obk_69.1, obk_69.2⟩ fk_9_1 (Or.inr ⟨rfl, rfl⟩) (fun _ => rfl) (fun _ => rfl) ?_
  exact Ev.vret dX9_init_33 rfl rfl ⟨rfl, rfl, rfl, rfl, rfl⟩
def cX5_80_i (I : Ix) : Ix := I
def cX5_80_l (L : Lx) : Lx := L
def cX5_80_r (R : Rx) : Rx := (pu (pu (pu (va_up (pu (va_up (pu (va_up (pu (va_up R 81 (fun _ => none)) 80 2 (some 81)) 82 (fun _ => none)) 80 3 (some 82)) 83 (fun _ => none)) 80 4 (some 83)) 84 (fun _ => none)) 80 5 (some 84)) 80 0 (some 3)) 80 1 (some 53))
theorem cX5_80_i_keep {I : Ix} {q : Nat} (h : 85 ≤ q) : cX5_80_i I q = I q := by
  unfold cX5_80_i
  rfl
theorem cX5_80_l_keep {L : Lx} {q : Nat} (h : 85 ≤ q) : cX5_80_l L q = L q := by
  unfold cX5_80_l
  rfl
set_option maxRecDepth 20000 in
theorem okccX5_80 {G : Gx} {Ls : Nat} {xs : Nat → Int32} (hO : Old G Ls xs) {I : Ix} {L : Lx} {R : Rx} (hI : ∀ q, 81 ≤ q → I q = fun _ => 0) (hL : ∀ q, 81 ≤ q → L q = fun _ => 0) : Mt G MX5_init [.ref 80, .ref 3, .ref 53] 81 I L R 85 (qC 85 (cX5_80_i I) (cX5_80_l L) (cX5_80_r R)) := by
  refine Mt.of (by decide +kernel) (Nat.le_of_ble_eq_true rfl) (by decide) ?_
  refine Ev.aload_n (k := 0) (pc' := 1) dX5_init_0 rfl rfl rfl ?_
  refine Ev.objInit (pc' := 4) dX5_init_1 rfl oi_RX5_3 oi_w.1 oi_w.2 (Nat.le_of_ble_eq_true rfl) (Nat.le_of_ble_eq_true rfl) ?_
  refine Ev.aload_n (k := 0) (pc' := 5) dX5_init_4 rfl rfl rfl ?_
  refine Ev.bipush (v := 66) (pc' := 7) dX5_init_5 rfl (by decide) ?_
  refine Ev.newA' 0 (N := 66) (pc' := 9) dX5_init_7 rfl rfl (fun _ _ h9 => h9) acl_int ni_66 (by decide) rfl ⟨by decide, ark_81.1, ark_81.2⟩ (by decide) rfl (by decide) (by decide) (by decide) (by exact hI _ (by decide)) (by exact hL _ (by decide)) ?_
  refine Ev.putR (pc' := 12) dX5_init_9 rfl fa_RX5_9 ⟨by decide, obk_80.1, obk_80.2⟩ fk_5_2 (Or.inr ⟨rfl, rfl⟩) (fun _ => rfl) (fun _ => rfl) ?_
  refine Ev.aload_n (k := 0) (pc' := 13) dX5_init_12 rfl rfl rfl ?_
  refine Ev.bipush (v := 6) (pc' := 15) dX5_init_13 rfl (by decide) ?_
  refine Ev.newA' 0 (N := 6) (pc' := 17) dX5_init_15 rfl rfl (fun _ _ h9 => h9) acl_int ni_6 (by decide) rfl ⟨by decide, ark_82.1, ark_82.2⟩ (by decide) rfl (by decide) (by decide) (by decide) (by exact hI _ (by decide)) (by exact hL _ (by decide)) ?_
  refine Ev.putR (pc' := 20) dX5_init_17 rfl fa_RX5_15 ⟨by decide, obk_80.1, obk_80.2⟩ fk_5_3 (Or.inr ⟨rfl, rfl⟩) (fun _ => rfl) (fun _ => rfl) ?_
  refine Ev.aload_n (k := 0) (pc' := 21) dX5_init_20 rfl rfl rfl ?_
  refine Ev.bipush (v := 6) (pc' := 23) dX5_init_21 rfl (by decide) ?_
  refine Ev.newA' 0 (N := 6) (pc' := 25) dX5_init_23 rfl rfl (fun _ _ h9 => h9) acl_int ni_6 (by decide) rfl ⟨by decide, ark_83.1, ark_83.2⟩ (by decide) rfl (by decide) (by decide) (by decide) (by exact hI _ (by decide)) (by exact hL _ (by decide)) ?_
  refine Ev.putR (pc' := 28) dX5_init_25 rfl fa_RX5_18 ⟨by decide, obk_80.1, obk_80.2⟩ fk_5_4 (Or.inr ⟨rfl, rfl⟩) (fun _ => rfl) (fun _ => rfl) ?_
  refine Ev.aload_n (k := 0) (pc' := 29) dX5_init_28 rfl rfl rfl ?_
  refine Ev.bipush (v := 6) (pc' := 31) dX5_init_29 rfl (by decide) ?_
  refine Ev.newA' 0 (N := 6) (pc' := 33) dX5_init_31 rfl rfl (fun _ _ h9 => h9) acl_int ni_6 (by decide) rfl ⟨by decide, ark_84.1, ark_84.2⟩ (by decide) rfl (by decide) (by decide) (by decide) (by exact hI _ (by decide)) (by exact hL _ (by decide)) ?_
  refine Ev.putR (pc' := 36) dX5_init_33 rfl fa_RX5_21 ⟨by decide, obk_80.1, obk_80.2⟩ fk_5_5 (Or.inr ⟨rfl, rfl⟩) (fun _ => rfl) (fun _ => rfl) ?_
  refine Ev.aload_n (k := 0) (pc' := 37) dX5_init_36 rfl rfl rfl ?_
  refine Ev.aload_n (k := 1) (pc' := 38) dX5_init_37 rfl rfl rfl ?_
  refine Ev.putR (pc' := 41) dX5_init_38 rfl fa_RX5_24 ⟨by decide, obk_80.1, obk_80.2⟩ fk_5_0 (Or.inr ⟨rfl, rfl⟩) (fun _ => rfl) (fun _ => rfl) ?_
  refine Ev.aload_n (k := 0) (pc' := 42) dX5_init_41 rfl rfl rfl ?_
  refine Ev.aload_n (k := 2) (pc' := 43) dX5_init_42 rfl rfl rfl ?_
  refine Ev.putR (pc' := 46) dX5_init_43 rfl fa_RX5_28 ⟨by decide, obk_80.1, obk_80.2⟩ fk_5_1 (Or.inr ⟨rfl, rfl⟩) (fun _ => rfl) (fun _ => rfl) ?_
  exact Ev.vret dX5_init_46 rfl rfl ⟨rfl, rfl, rfl, rfl, rfl⟩
def cX6_85_i (I : Ix) : Ix := I
def cX6_85_l (L : Lx) : Lx := L
def cX6_85_r (R : Rx) : Rx := (pu (va_up (pu (va_up (pu (va_up (pu (va_up (pu (va_up R 86 (fun _ => none)) 85 1 (some 86)) 87 (fun _ => none)) 85 2 (some 87)) 88 (fun _ => none)) 85 3 (some 88)) 89 (fun _ => none)) 85 4 (some 89)) 90 (fun _ => none)) 85 5 (some 90))
theorem cX6_85_i_keep {I : Ix} {q : Nat} (h : 91 ≤ q) : cX6_85_i I q = I q := by
  unfold cX6_85_i
  rfl
theorem cX6_85_l_keep {L : Lx} {q : Nat} (h : 91 ≤ q) : cX6_85_l L q = L q := by
  unfold cX6_85_l
  rfl
set_option maxRecDepth 20000 in
theorem okccX6_85 {G : Gx} {Ls : Nat} {xs : Nat → Int32} (hO : Old G Ls xs) {I : Ix} {L : Lx} {R : Rx} (hI : ∀ q, 86 ≤ q → I q = fun _ => 0) (hL : ∀ q, 86 ≤ q → L q = fun _ => 0) : Mt G MX6_init [.ref 85] 86 I L R 91 (qC 91 (cX6_85_i I) (cX6_85_l L) (cX6_85_r R)) := by
  refine Mt.of (by decide +kernel) (Nat.le_of_ble_eq_true rfl) (by decide) ?_
  refine Ev.aload_n (k := 0) (pc' := 1) dX6_init_0 rfl rfl rfl ?_
  refine Ev.objInit (pc' := 4) dX6_init_1 rfl oi_RX6_3 oi_w.1 oi_w.2 (Nat.le_of_ble_eq_true rfl) (Nat.le_of_ble_eq_true rfl) ?_
  refine Ev.aload_n (k := 0) (pc' := 5) dX6_init_4 rfl rfl rfl ?_
  refine Ev.bipush (v := 40) (pc' := 7) dX6_init_5 rfl (by decide) ?_
  refine Ev.newA' 0 (N := 40) (pc' := 9) dX6_init_7 rfl rfl (fun _ _ h9 => h9) acl_int ni_40 (by decide) rfl ⟨by decide, ark_86.1, ark_86.2⟩ (by decide) rfl (by decide) (by decide) (by decide) (by exact hI _ (by decide)) (by exact hL _ (by decide)) ?_
  refine Ev.putR (pc' := 12) dX6_init_9 rfl fa_RX6_9 ⟨by decide, obk_85.1, obk_85.2⟩ fk_6_1 (Or.inr ⟨rfl, rfl⟩) (fun _ => rfl) (fun _ => rfl) ?_
  refine Ev.aload_n (k := 0) (pc' := 13) dX6_init_12 rfl rfl rfl ?_
  refine Ev.bipush (v := 40) (pc' := 15) dX6_init_13 rfl (by decide) ?_
  refine Ev.newA' 0 (N := 40) (pc' := 17) dX6_init_15 rfl rfl (fun _ _ h9 => h9) acl_int ni_40 (by decide) rfl ⟨by decide, ark_87.1, ark_87.2⟩ (by decide) rfl (by decide) (by decide) (by decide) (by exact hI _ (by decide)) (by exact hL _ (by decide)) ?_
  refine Ev.putR (pc' := 20) dX6_init_17 rfl fa_RX6_15 ⟨by decide, obk_85.1, obk_85.2⟩ fk_6_2 (Or.inr ⟨rfl, rfl⟩) (fun _ => rfl) (fun _ => rfl) ?_
  refine Ev.aload_n (k := 0) (pc' := 21) dX6_init_20 rfl rfl rfl ?_
  refine Ev.bipush (v := 40) (pc' := 23) dX6_init_21 rfl (by decide) ?_
  refine Ev.newA' 0 (N := 40) (pc' := 25) dX6_init_23 rfl rfl (fun _ _ h9 => h9) acl_int ni_40 (by decide) rfl ⟨by decide, ark_88.1, ark_88.2⟩ (by decide) rfl (by decide) (by decide) (by decide) (by exact hI _ (by decide)) (by exact hL _ (by decide)) ?_
  refine Ev.putR (pc' := 28) dX6_init_25 rfl fa_RX6_18 ⟨by decide, obk_85.1, obk_85.2⟩ fk_6_3 (Or.inr ⟨rfl, rfl⟩) (fun _ => rfl) (fun _ => rfl) ?_
  refine Ev.aload_n (k := 0) (pc' := 29) dX6_init_28 rfl rfl rfl ?_
  refine Ev.bipush (v := 40) (pc' := 31) dX6_init_29 rfl (by decide) ?_
  refine Ev.newA' 0 (N := 40) (pc' := 33) dX6_init_31 rfl rfl (fun _ _ h9 => h9) acl_int ni_40 (by decide) rfl ⟨by decide, ark_89.1, ark_89.2⟩ (by decide) rfl (by decide) (by decide) (by decide) (by exact hI _ (by decide)) (by exact hL _ (by decide)) ?_
  refine Ev.putR (pc' := 36) dX6_init_33 rfl fa_RX6_21 ⟨by decide, obk_85.1, obk_85.2⟩ fk_6_4 (Or.inr ⟨rfl, rfl⟩) (fun _ => rfl) (fun _ => rfl) ?_
  refine Ev.aload_n (k := 0) (pc' := 37) dX6_init_36 rfl rfl rfl ?_
  refine Ev.bipush (v := 40) (pc' := 39) dX6_init_37 rfl (by decide) ?_
  refine Ev.newA' 0 (N := 40) (pc' := 41) dX6_init_39 rfl rfl (fun _ _ h9 => h9) acl_int ni_40 (by decide) rfl ⟨by decide, ark_90.1, ark_90.2⟩ (by decide) rfl (by decide) (by decide) (by decide) (by exact hI _ (by decide)) (by exact hL _ (by decide)) ?_
  refine Ev.putR (pc' := 44) dX6_init_41 rfl fa_RX6_24 ⟨by decide, obk_85.1, obk_85.2⟩ fk_6_5 (Or.inr ⟨rfl, rfl⟩) (fun _ => rfl) (fun _ => rfl) ?_
  exact Ev.vret dX6_init_44 rfl rfl ⟨rfl, rfl, rfl, rfl, rfl⟩
def cX2_93_i (I : Ix) : Ix := (pu I 93 2 1)
def cX2_93_l (L : Lx) : Lx := L
def cX2_93_r (R : Rx) : Rx := (pu (va_up (pu (va_up (pu (va_up (pu (va_up (pu (va_up (pu (va_up (pu (va_up (pu (va_up R 94 (fun _ => none)) 93 3 (some 94)) 95 (fun _ => none)) 93 4 (some 95)) 96 (fun _ => none)) 93 5 (some 96)) 97 (fun _ => none)) 93 6 (some 97)) 98 (fun _ => none)) 93 7 (some 98)) 99 (fun _ => none)) 93 8 (some 99)) 100 (fun _ => none)) 93 9 (some 100)) 101 (fun _ => none)) 93 10 (some 101))
theorem cX2_93_i_keep {I : Ix} {q : Nat} (h : 102 ≤ q) : cX2_93_i I q = I q := by
  unfold cX2_93_i
  rw [pu_ne _ _ _ (by omega)]
theorem cX2_93_l_keep {L : Lx} {q : Nat} (h : 102 ≤ q) : cX2_93_l L q = L q := by
  unfold cX2_93_l
  rfl
set_option maxRecDepth 20000 in
theorem okccX2_93 {G : Gx} {Ls : Nat} {xs : Nat → Int32} (hO : Old G Ls xs) {I : Ix} {L : Lx} {R : Rx} (hI : ∀ q, 94 ≤ q → I q = fun _ => 0) (hL : ∀ q, 94 ≤ q → L q = fun _ => 0) : Mt G MX2_init [.ref 93] 94 I L R 102 (qC 102 (cX2_93_i I) (cX2_93_l L) (cX2_93_r R)) := by
  refine Mt.of (by decide +kernel) (Nat.le_of_ble_eq_true rfl) (by decide) ?_
  refine Ev.aload_n (k := 0) (pc' := 1) dX2_init_0 rfl rfl rfl ?_
  refine Ev.objInit (pc' := 4) dX2_init_1 rfl oi_RX2_3 oi_w.1 oi_w.2 (Nat.le_of_ble_eq_true rfl) (Nat.le_of_ble_eq_true rfl) ?_
  refine Ev.aload_n (k := 0) (pc' := 5) dX2_init_4 rfl rfl rfl ?_
  refine Ev.iconst (v := 1) (pc' := 6) dX2_init_5 rfl (by decide) ?_
  refine Ev.putI (pc' := 9) dX2_init_6 rfl fa_RX2_9 ⟨by decide, obk_93.1, obk_93.2⟩ fk_2_2 rfl rfl (fun I1 e1 => ?_)
  subst e1
  refine Ev.aload_n (k := 0) (pc' := 10) dX2_init_9 rfl rfl rfl ?_
  refine Ev.bipush (v := 10) (pc' := 12) dX2_init_10 rfl (by decide) ?_
  refine Ev.newA' 0 (N := 10) (pc' := 14) dX2_init_12 rfl rfl (fun _ _ h9 => h9) acl_int ni_10 (by decide) rfl ⟨by decide, ark_94.1, ark_94.2⟩ (by decide) rfl (by decide) (by decide) (by decide) (by rw [pu_ne _ _ _ (by decide)]; exact hI _ (by decide)) (by exact hL _ (by decide)) ?_
  refine Ev.putR (pc' := 17) dX2_init_14 rfl fa_RX2_15 ⟨by decide, obk_93.1, obk_93.2⟩ fk_2_3 (Or.inr ⟨rfl, rfl⟩) (fun _ => rfl) (fun _ => rfl) ?_
  refine Ev.aload_n (k := 0) (pc' := 18) dX2_init_17 rfl rfl rfl ?_
  refine Ev.bipush (v := 10) (pc' := 20) dX2_init_18 rfl (by decide) ?_
  refine Ev.newA' 0 (N := 10) (pc' := 22) dX2_init_20 rfl rfl (fun _ _ h9 => h9) acl_int ni_10 (by decide) rfl ⟨by decide, ark_95.1, ark_95.2⟩ (by decide) rfl (by decide) (by decide) (by decide) (by rw [pu_ne _ _ _ (by decide)]; exact hI _ (by decide)) (by exact hL _ (by decide)) ?_
  refine Ev.putR (pc' := 25) dX2_init_22 rfl fa_RX2_19 ⟨by decide, obk_93.1, obk_93.2⟩ fk_2_4 (Or.inr ⟨rfl, rfl⟩) (fun _ => rfl) (fun _ => rfl) ?_
  refine Ev.aload_n (k := 0) (pc' := 26) dX2_init_25 rfl rfl rfl ?_
  refine Ev.bipush (v := 10) (pc' := 28) dX2_init_26 rfl (by decide) ?_
  refine Ev.newA' 0 (N := 10) (pc' := 30) dX2_init_28 rfl rfl (fun _ _ h9 => h9) acl_int ni_10 (by decide) rfl ⟨by decide, ark_96.1, ark_96.2⟩ (by decide) rfl (by decide) (by decide) (by decide) (by rw [pu_ne _ _ _ (by decide)]; exact hI _ (by decide)) (by exact hL _ (by decide)) ?_
  refine Ev.putR (pc' := 33) dX2_init_30 rfl fa_RX2_22 ⟨by decide, obk_93.1, obk_93.2⟩ fk_2_5 (Or.inr ⟨rfl, rfl⟩) (fun _ => rfl) (fun _ => rfl) ?_
  refine Ev.aload_n (k := 0) (pc' := 34) dX2_init_33 rfl rfl rfl ?_
  refine Ev.bipush (v := 10) (pc' := 36) dX2_init_34 rfl (by decide) ?_
  refine Ev.newA' 0 (N := 10) (pc' := 38) dX2_init_36 rfl rfl (fun _ _ h9 => h9) acl_int ni_10 (by decide) rfl ⟨by decide, ark_97.1, ark_97.2⟩ (by decide) rfl (by decide) (by decide) (by decide) (by rw [pu_ne _ _ _ (by decide)]; exact hI _ (by decide)) (by exact hL _ (by decide)) ?_
  refine Ev.putR (pc' := 41) dX2_init_38 rfl fa_RX2_25 ⟨by decide, obk_93.1, obk_93.2⟩ fk_2_6 (Or.inr ⟨rfl, rfl⟩) (fun _ => rfl) (fun _ => rfl) ?_
  refine Ev.aload_n (k := 0) (pc' := 42) dX2_init_41 rfl rfl rfl ?_
  refine Ev.bipush (v := 10) (pc' := 44) dX2_init_42 rfl (by decide) ?_
  refine Ev.newA' 2 (N := 10) (pc' := 46) dX2_init_44 rfl rfl (fun _ _ h9 => h9) acl_boolean ni_10 (by decide) rfl ⟨by decide, ark_98.1, ark_98.2⟩ (by decide) rfl (by decide) (by decide) (by decide) (by rw [pu_ne _ _ _ (by decide)]; exact hI _ (by decide)) (by exact hL _ (by decide)) ?_
  refine Ev.putR (pc' := 49) dX2_init_46 rfl fa_RX2_28 ⟨by decide, obk_93.1, obk_93.2⟩ fk_2_7 (Or.inr ⟨rfl, rfl⟩) (fun _ => rfl) (fun _ => rfl) ?_
  refine Ev.aload_n (k := 0) (pc' := 50) dX2_init_49 rfl rfl rfl ?_
  refine Ev.bipush (v := 6) (pc' := 52) dX2_init_50 rfl (by decide) ?_
  refine Ev.newA' 0 (N := 6) (pc' := 54) dX2_init_52 rfl rfl (fun _ _ h9 => h9) acl_int ni_6 (by decide) rfl ⟨by decide, ark_99.1, ark_99.2⟩ (by decide) rfl (by decide) (by decide) (by decide) (by rw [pu_ne _ _ _ (by decide)]; exact hI _ (by decide)) (by exact hL _ (by decide)) ?_
  refine Ev.putR (pc' := 57) dX2_init_54 rfl fa_RX2_32 ⟨by decide, obk_93.1, obk_93.2⟩ fk_2_8 (Or.inr ⟨rfl, rfl⟩) (fun _ => rfl) (fun _ => rfl) ?_
  refine Ev.aload_n (k := 0) (pc' := 58) dX2_init_57 rfl rfl rfl ?_
  refine Ev.bipush (v := 6) (pc' := 60) dX2_init_58 rfl (by decide) ?_
  refine Ev.newA' 0 (N := 6) (pc' := 62) dX2_init_60 rfl rfl (fun _ _ h9 => h9) acl_int ni_6 (by decide) rfl ⟨by decide, ark_100.1, ark_100.2⟩ (by decide) rfl (by decide) (by decide) (by decide) (by rw [pu_ne _ _ _ (by decide)]; exact hI _ (by decide)) (by exact hL _ (by decide)) ?_
  refine Ev.putR (pc' := 65) dX2_init_62 rfl fa_RX2_35 ⟨by decide, obk_93.1, obk_93.2⟩ fk_2_9 (Or.inr ⟨rfl, rfl⟩) (fun _ => rfl) (fun _ => rfl) ?_
  refine Ev.aload_n (k := 0) (pc' := 66) dX2_init_65 rfl rfl rfl ?_
  refine Ev.sipush (v := 600) (pc' := 69) dX2_init_66 rfl (by decide) ?_
  refine Ev.newA' 0 (N := 600) (pc' := 71) dX2_init_69 rfl rfl (fun _ _ h9 => h9) acl_int ni_600 (by decide) rfl ⟨by decide, ark_101.1, ark_101.2⟩ (by decide) rfl (by decide) (by decide) (by decide) (by rw [pu_ne _ _ _ (by decide)]; exact hI _ (by decide)) (by exact hL _ (by decide)) ?_
  refine Ev.putR (pc' := 74) dX2_init_71 rfl fa_RX2_38 ⟨by decide, obk_93.1, obk_93.2⟩ fk_2_10 (Or.inr ⟨rfl, rfl⟩) (fun _ => rfl) (fun _ => rfl) ?_
  exact Ev.vret dX2_init_74 rfl rfl ⟨rfl, rfl, rfl, rfl, rfl⟩
def cX2_102_i (I : Ix) : Ix := (pu I 102 2 1)
def cX2_102_l (L : Lx) : Lx := L
def cX2_102_r (R : Rx) : Rx := (pu (va_up (pu (va_up (pu (va_up (pu (va_up (pu (va_up (pu (va_up (pu (va_up (pu (va_up R 103 (fun _ => none)) 102 3 (some 103)) 104 (fun _ => none)) 102 4 (some 104)) 105 (fun _ => none)) 102 5 (some 105)) 106 (fun _ => none)) 102 6 (some 106)) 107 (fun _ => none)) 102 7 (some 107)) 108 (fun _ => none)) 102 8 (some 108)) 109 (fun _ => none)) 102 9 (some 109)) 110 (fun _ => none)) 102 10 (some 110))
theorem cX2_102_i_keep {I : Ix} {q : Nat} (h : 111 ≤ q) : cX2_102_i I q = I q := by
  unfold cX2_102_i
  rw [pu_ne _ _ _ (by omega)]
theorem cX2_102_l_keep {L : Lx} {q : Nat} (h : 111 ≤ q) : cX2_102_l L q = L q := by
  unfold cX2_102_l
  rfl
set_option maxRecDepth 20000 in
theorem okccX2_102 {G : Gx} {Ls : Nat} {xs : Nat → Int32} (hO : Old G Ls xs) {I : Ix} {L : Lx} {R : Rx} (hI : ∀ q, 103 ≤ q → I q = fun _ => 0) (hL : ∀ q, 103 ≤ q → L q = fun _ => 0) : Mt G MX2_init [.ref 102] 103 I L R 111 (qC 111 (cX2_102_i I) (cX2_102_l L) (cX2_102_r R)) := by
  refine Mt.of (by decide +kernel) (Nat.le_of_ble_eq_true rfl) (by decide) ?_
  refine Ev.aload_n (k := 0) (pc' := 1) dX2_init_0 rfl rfl rfl ?_
  refine Ev.objInit (pc' := 4) dX2_init_1 rfl oi_RX2_3 oi_w.1 oi_w.2 (Nat.le_of_ble_eq_true rfl) (Nat.le_of_ble_eq_true rfl) ?_
  refine Ev.aload_n (k := 0) (pc' := 5) dX2_init_4 rfl rfl rfl ?_
  refine Ev.iconst (v := 1) (pc' := 6) dX2_init_5 rfl (by decide) ?_
  refine Ev.putI (pc' := 9) dX2_init_6 rfl fa_RX2_9 ⟨by decide, obk_102.1, obk_102.2⟩ fk_2_2 rfl rfl (fun I1 e1 => ?_)
  subst e1
  refine Ev.aload_n (k := 0) (pc' := 10) dX2_init_9 rfl rfl rfl ?_
  refine Ev.bipush (v := 10) (pc' := 12) dX2_init_10 rfl (by decide) ?_
  refine Ev.newA' 0 (N := 10) (pc' := 14) dX2_init_12 rfl rfl (fun _ _ h9 => h9) acl_int ni_10 (by decide) rfl ⟨by decide, ark_103.1, ark_103.2⟩ (by decide) rfl (by decide) (by decide) (by decide) (by rw [pu_ne _ _ _ (by decide)]; exact hI _ (by decide)) (by exact hL _ (by decide)) ?_
  refine Ev.putR (pc' := 17) dX2_init_14 rfl fa_RX2_15 ⟨by decide, obk_102.1, obk_102.2⟩ fk_2_3 (Or.inr ⟨rfl, rfl⟩) (fun _ => rfl) (fun _ => rfl) ?_
  refine Ev.aload_n (k := 0) (pc' := 18) dX2_init_17 rfl rfl rfl ?_
  refine Ev.bipush (v := 10) (pc' := 20) dX2_init_18 rfl (by decide) ?_
  refine Ev.newA' 0 (N := 10) (pc' := 22) dX2_init_20 rfl rfl (fun _ _ h9 => h9) acl_int ni_10 (by decide) rfl ⟨by decide, ark_104.1, ark_104.2⟩ (by decide) rfl (by decide) (by decide) (by decide) (by rw [pu_ne _ _ _ (by decide)]; exact hI _ (by decide)) (by exact hL _ (by decide)) ?_
  refine Ev.putR (pc' := 25) dX2_init_22 rfl fa_RX2_19 ⟨by decide, obk_102.1, obk_102.2⟩ fk_2_4 (Or.inr ⟨rfl, rfl⟩) (fun _ => rfl) (fun _ => rfl) ?_
  refine Ev.aload_n (k := 0) (pc' := 26) dX2_init_25 rfl rfl rfl ?_
  refine Ev.bipush (v := 10) (pc' := 28) dX2_init_26 rfl (by decide) ?_
  refine Ev.newA' 0 (N := 10) (pc' := 30) dX2_init_28 rfl rfl (fun _ _ h9 => h9) acl_int ni_10 (by decide) rfl ⟨by decide, ark_105.1, ark_105.2⟩ (by decide) rfl (by decide) (by decide) (by decide) (by rw [pu_ne _ _ _ (by decide)]; exact hI _ (by decide)) (by exact hL _ (by decide)) ?_
  refine Ev.putR (pc' := 33) dX2_init_30 rfl fa_RX2_22 ⟨by decide, obk_102.1, obk_102.2⟩ fk_2_5 (Or.inr ⟨rfl, rfl⟩) (fun _ => rfl) (fun _ => rfl) ?_
  refine Ev.aload_n (k := 0) (pc' := 34) dX2_init_33 rfl rfl rfl ?_
  refine Ev.bipush (v := 10) (pc' := 36) dX2_init_34 rfl (by decide) ?_
  refine Ev.newA' 0 (N := 10) (pc' := 38) dX2_init_36 rfl rfl (fun _ _ h9 => h9) acl_int ni_10 (by decide) rfl ⟨by decide, ark_106.1, ark_106.2⟩ (by decide) rfl (by decide) (by decide) (by decide) (by rw [pu_ne _ _ _ (by decide)]; exact hI _ (by decide)) (by exact hL _ (by decide)) ?_
  refine Ev.putR (pc' := 41) dX2_init_38 rfl fa_RX2_25 ⟨by decide, obk_102.1, obk_102.2⟩ fk_2_6 (Or.inr ⟨rfl, rfl⟩) (fun _ => rfl) (fun _ => rfl) ?_
  refine Ev.aload_n (k := 0) (pc' := 42) dX2_init_41 rfl rfl rfl ?_
  refine Ev.bipush (v := 10) (pc' := 44) dX2_init_42 rfl (by decide) ?_
  refine Ev.newA' 2 (N := 10) (pc' := 46) dX2_init_44 rfl rfl (fun _ _ h9 => h9) acl_boolean ni_10 (by decide) rfl ⟨by decide, ark_107.1, ark_107.2⟩ (by decide) rfl (by decide) (by decide) (by decide) (by rw [pu_ne _ _ _ (by decide)]; exact hI _ (by decide)) (by exact hL _ (by decide)) ?_
  refine Ev.putR (pc' := 49) dX2_init_46 rfl fa_RX2_28 ⟨by decide, obk_102.1, obk_102.2⟩ fk_2_7 (Or.inr ⟨rfl, rfl⟩) (fun _ => rfl) (fun _ => rfl) ?_
  refine Ev.aload_n (k := 0) (pc' := 50) dX2_init_49 rfl rfl rfl ?_
  refine Ev.bipush (v := 6) (pc' := 52) dX2_init_50 rfl (by decide) ?_
  refine Ev.newA' 0 (N := 6) (pc' := 54) dX2_init_52 rfl rfl (fun _ _ h9 => h9) acl_int ni_6 (by decide) rfl ⟨by decide, ark_108.1, ark_108.2⟩ (by decide) rfl (by decide) (by decide) (by decide) (by rw [pu_ne _ _ _ (by decide)]; exact hI _ (by decide)) (by exact hL _ (by decide)) ?_
  refine Ev.putR (pc' := 57) dX2_init_54 rfl fa_RX2_32 ⟨by decide, obk_102.1, obk_102.2⟩ fk_2_8 (Or.inr ⟨rfl, rfl⟩) (fun _ => rfl) (fun _ => rfl) ?_
  refine Ev.aload_n (k := 0) (pc' := 58) dX2_init_57 rfl rfl rfl ?_
  refine Ev.bipush (v := 6) (pc' := 60) dX2_init_58 rfl (by decide) ?_
  refine Ev.newA' 0 (N := 6) (pc' := 62) dX2_init_60 rfl rfl (fun _ _ h9 => h9) acl_int ni_6 (by decide) rfl ⟨by decide, ark_109.1, ark_109.2⟩ (by decide) rfl (by decide) (by decide) (by decide) (by rw [pu_ne _ _ _ (by decide)]; exact hI _ (by decide)) (by exact hL _ (by decide)) ?_
  refine Ev.putR (pc' := 65) dX2_init_62 rfl fa_RX2_35 ⟨by decide, obk_102.1, obk_102.2⟩ fk_2_9 (Or.inr ⟨rfl, rfl⟩) (fun _ => rfl) (fun _ => rfl) ?_
  refine Ev.aload_n (k := 0) (pc' := 66) dX2_init_65 rfl rfl rfl ?_
  refine Ev.sipush (v := 600) (pc' := 69) dX2_init_66 rfl (by decide) ?_
  refine Ev.newA' 0 (N := 600) (pc' := 71) dX2_init_69 rfl rfl (fun _ _ h9 => h9) acl_int ni_600 (by decide) rfl ⟨by decide, ark_110.1, ark_110.2⟩ (by decide) rfl (by decide) (by decide) (by decide) (by rw [pu_ne _ _ _ (by decide)]; exact hI _ (by decide)) (by exact hL _ (by decide)) ?_
  refine Ev.putR (pc' := 74) dX2_init_71 rfl fa_RX2_38 ⟨by decide, obk_102.1, obk_102.2⟩ fk_2_10 (Or.inr ⟨rfl, rfl⟩) (fun _ => rfl) (fun _ => rfl) ?_
  exact Ev.vret dX2_init_74 rfl rfl ⟨rfl, rfl, rfl, rfl, rfl⟩
def cX2_111_i (I : Ix) : Ix := (pu I 111 2 1)
def cX2_111_l (L : Lx) : Lx := L
def cX2_111_r (R : Rx) : Rx := (pu (va_up (pu (va_up (pu (va_up (pu (va_up (pu (va_up (pu (va_up (pu (va_up (pu (va_up R 112 (fun _ => none)) 111 3 (some 112)) 113 (fun _ => none)) 111 4 (some 113)) 114 (fun _ => none)) 111 5 (some 114)) 115 (fun _ => none)) 111 6 (some 115)) 116 (fun _ => none)) 111 7 (some 116)) 117 (fun _ => none)) 111 8 (some 117)) 118 (fun _ => none)) 111 9 (some 118)) 119 (fun _ => none)) 111 10 (some 119))
theorem cX2_111_i_keep {I : Ix} {q : Nat} (h : 120 ≤ q) : cX2_111_i I q = I q := by
  unfold cX2_111_i
  rw [pu_ne _ _ _ (by omega)]
theorem cX2_111_l_keep {L : Lx} {q : Nat} (h : 120 ≤ q) : cX2_111_l L q = L q := by
  unfold cX2_111_l
  rfl
set_option maxRecDepth 20000 in
theorem okccX2_111 {G : Gx} {Ls : Nat} {xs : Nat → Int32} (hO : Old G Ls xs) {I : Ix} {L : Lx} {R : Rx} (hI : ∀ q, 112 ≤ q → I q = fun _ => 0) (hL : ∀ q, 112 ≤ q → L q = fun _ => 0) : Mt G MX2_init [.ref 111] 112 I L R 120 (qC 120 (cX2_111_i I) (cX2_111_l L) (cX2_111_r R)) := by
  refine Mt.of (by decide +kernel) (Nat.le_of_ble_eq_true rfl) (by decide) ?_
  refine Ev.aload_n (k := 0) (pc' := 1) dX2_init_0 rfl rfl rfl ?_
  refine Ev.objInit (pc' := 4) dX2_init_1 rfl oi_RX2_3 oi_w.1 oi_w.2 (Nat.le_of_ble_eq_true rfl) (Nat.le_of_ble_eq_true rfl) ?_
  refine Ev.aload_n (k := 0) (pc' := 5) dX2_init_4 rfl rfl rfl ?_
  refine Ev.iconst (v := 1) (pc' := 6) dX2_init_5 rfl (by decide) ?_
  refine Ev.putI (pc' := 9) dX2_init_6 rfl fa_RX2_9 ⟨by decide, obk_111.1, obk_111.2⟩ fk_2_2 rfl rfl (fun I1 e1 => ?_)
  subst e1
  refine Ev.aload_n (k := 0) (pc' := 10) dX2_init_9 rfl rfl rfl ?_
  refine Ev.bipush (v := 10) (pc' := 12) dX2_init_10 rfl (by decide) ?_
  refine Ev.newA' 0 (N := 10) (pc' := 14) dX2_init_12 rfl rfl (fun _ _ h9 => h9) acl_int ni_10 (by decide) rfl ⟨by decide, ark_112.1, ark_112.2⟩ (by decide) rfl (by decide) (by decide) (by decide) (by rw [pu_ne _ _ _ (by decide)]; exact hI _ (by decide)) (by exact hL _ (by decide)) ?_
  refine Ev.putR (pc' := 17) dX2_init_14 rfl fa_RX2_15 ⟨by decide, obk_111.1, obk_111.2⟩ fk_2_3 (Or.inr ⟨rfl, rfl⟩) (fun _ => rfl) (fun _ => rfl) ?_
  refine Ev.aload_n (k := 0) (pc' := 18) dX2_init_17 rfl rfl rfl ?_
  refine Ev.bipush (v := 10) (pc' := 20) dX2_init_18 rfl (by decide) ?_
  refine Ev.newA' 0 (N := 10) (pc' := 22) dX2_init_20 rfl rfl (fun _ _ h9 => h9) acl_int ni_10 (by decide) rfl ⟨by decide, ark_113.1, ark_113.2⟩ (by decide) rfl (by decide) (by decide) (by decide) (by rw [pu_ne _ _ _ (by decide)]; exact hI _ (by decide)) (by exact hL _ (by decide)) ?_
  refine Ev.putR (pc' := 25) dX2_init_22 rfl fa_RX2_19 ⟨by decide, obk_111.1, obk_111.2⟩ fk_2_4 (Or.inr ⟨rfl, rfl⟩) (fun _ => rfl) (fun _ => rfl) ?_
  refine Ev.aload_n (k := 0) (pc' := 26) dX2_init_25 rfl rfl rfl ?_
  refine Ev.bipush (v := 10) (pc' := 28) dX2_init_26 rfl (by decide) ?_
  refine Ev.newA' 0 (N := 10) (pc' := 30) dX2_init_28 rfl rfl (fun _ _ h9 => h9) acl_int ni_10 (by decide) rfl ⟨by decide, ark_114.1, ark_114.2⟩ (by decide) rfl (by decide) (by decide) (by decide) (by rw [pu_ne _ _ _ (by decide)]; exact hI _ (by decide)) (by exact hL _ (by decide)) ?_
  refine Ev.putR (pc' := 33) dX2_init_30 rfl fa_RX2_22 ⟨by decide, obk_111.1, obk_111.2⟩ fk_2_5 (Or.inr ⟨rfl, rfl⟩) (fun _ => rfl) (fun _ => rfl) ?_
  refine Ev.aload_n (k := 0) (pc' := 34) dX2_init_33 rfl rfl rfl ?_
  refine Ev.bipush (v := 10) (pc' := 36) dX2_init_34 rfl (by decide) ?_
  refine Ev.newA' 0 (N := 10) (pc' := 38) dX2_init_36 rfl rfl (fun _ _ h9 => h9) acl_int ni_10 (by decide) rfl ⟨by decide, ark_115.1, ark_115.2⟩ (by decide) rfl (by decide) (by decide) (by decide) (by rw [pu_ne _ _ _ (by decide)]; exact hI _ (by decide)) (by exact hL _ (by decide)) ?_
  refine Ev.putR (pc' := 41) dX2_init_38 rfl fa_RX2_25 ⟨by decide, obk_111.1, obk_111.2⟩ fk_2_6 (Or.inr ⟨rfl, rfl⟩) (fun _ => rfl) (fun _ => rfl) ?_
  refine Ev.aload_n (k := 0) (pc' := 42) dX2_init_41 rfl rfl rfl ?_
  refine Ev.bipush (v := 10) (pc' := 44) dX2_init_42 rfl (by decide) ?_
  refine Ev.newA' 2 (N := 10) (pc' := 46) dX2_init_44 rfl rfl (fun _ _ h9 => h9) acl_boolean ni_10 (by decide) rfl ⟨by decide, ark_116.1, ark_116.2⟩ (by decide) rfl (by decide) (by decide) (by decide) (by rw [pu_ne _ _ _ (by decide)]; exact hI _ (by decide)) (by exact hL _ (by decide)) ?_
  refine Ev.putR (pc' := 49) dX2_init_46 rfl fa_RX2_28 ⟨by decide, obk_111.1, obk_111.2⟩ fk_2_7 (Or.inr ⟨rfl, rfl⟩) (fun _ => rfl) (fun _ => rfl) ?_
  refine Ev.aload_n (k := 0) (pc' := 50) dX2_init_49 rfl rfl rfl ?_
  refine Ev.bipush (v := 6) (pc' := 52) dX2_init_50 rfl (by decide) ?_
  refine Ev.newA' 0 (N := 6) (pc' := 54) dX2_init_52 rfl rfl (fun _ _ h9 => h9) acl_int ni_6 (by decide) rfl ⟨by decide, ark_117.1, ark_117.2⟩ (by decide) rfl (by decide) (by decide) (by decide) (by rw [pu_ne _ _ _ (by decide)]; exact hI _ (by decide)) (by exact hL _ (by decide)) ?_
  refine Ev.putR (pc' := 57) dX2_init_54 rfl fa_RX2_32 ⟨by decide, obk_111.1, obk_111.2⟩ fk_2_8 (Or.inr ⟨rfl, rfl⟩) (fun _ => rfl) (fun _ => rfl) ?_
  refine Ev.aload_n (k := 0) (pc' := 58) dX2_init_57 rfl rfl rfl ?_
  refine Ev.bipush (v := 6) (pc' := 60) dX2_init_58 rfl (by decide) ?_
  refine Ev.newA' 0 (N := 6) (pc' := 62) dX2_init_60 rfl rfl (fun _ _ h9 => h9) acl_int ni_6 (by decide) rfl ⟨by decide, ark_118.1, ark_118.2⟩ (by decide) rfl (by decide) (by decide) (by decide) (by rw [pu_ne _ _ _ (by decide)]; exact hI _ (by decide)) (by exact hL _ (by decide)) ?_
  refine Ev.putR (pc' := 65) dX2_init_62 rfl fa_RX2_35 ⟨by decide, obk_111.1, obk_111.2⟩ fk_2_9 (Or.inr ⟨rfl, rfl⟩) (fun _ => rfl) (fun _ => rfl) ?_
  refine Ev.aload_n (k := 0) (pc' := 66) dX2_init_65 rfl rfl rfl ?_
  refine Ev.sipush (v := 600) (pc' := 69) dX2_init_66 rfl (by decide) ?_
  refine Ev.newA' 0 (N := 600) (pc' := 71) dX2_init_69 rfl rfl (fun _ _ h9 => h9) acl_int ni_600 (by decide) rfl ⟨by decide, ark_119.1, ark_119.2⟩ (by decide) rfl (by decide) (by decide) (by decide) (by rw [pu_ne _ _ _ (by decide)]; exact hI _ (by decide)) (by exact hL _ (by decide)) ?_
  refine Ev.putR (pc' := 74) dX2_init_71 rfl fa_RX2_38 ⟨by decide, obk_111.1, obk_111.2⟩ fk_2_10 (Or.inr ⟨rfl, rfl⟩) (fun _ => rfl) (fun _ => rfl) ?_
  exact Ev.vret dX2_init_74 rfl rfl ⟨rfl, rfl, rfl, rfl, rfl⟩
def cX11_0_i (I : Ix) : Ix := (cX2_111_i (cX2_102_i (cX2_93_i (cX6_85_i (cX5_80_i (cX9_69_i (cX0_62_i (cX2_53_i (cX3_49_i (cX10_26_i (cX10_3_i (cX7_1_i I))))))))))))
def cX11_0_l (L : Lx) : Lx := (cX2_111_l (cX2_102_l (cX2_93_l (cX6_85_l (cX5_80_l (cX9_69_l (cX0_62_l (cX2_53_l (cX3_49_l (cX10_26_l (cX10_3_l (cX7_1_l L))))))))))))
def cX11_0_r (R : Rx) : Rx := (pu (cX2_111_r (va_up (pu (cX2_102_r (va_up (pu (cX2_93_r (va_up (pu (va_up (pu (va_up (pu (cX6_85_r (va_up (pu (cX5_80_r (va_up (pu (cX9_69_r (va_up (pu (cX0_62_r (va_up (pu (cX2_53_r (va_up (pu (cX3_49_r (va_up (pu (cX10_26_r (va_up (pu (cX10_3_r (va_up (pu (cX7_1_r (va_up R 1 (fun _ => none))) 0 0 (some 1)) 3 (fun _ => none))) 0 1 (some 3)) 26 (fun _ => none))) 0 2 (some 26)) 49 (fun _ => none))) 0 3 (some 49)) 53 (fun _ => none))) 0 4 (some 53)) 62 (fun _ => none))) 0 5 (some 62)) 69 (fun _ => none))) 0 6 (some 69)) 80 (fun _ => none))) 0 7 (some 80)) 85 (fun _ => none))) 0 8 (some 85)) 91 (fun _ => none)) 0 9 (some 91)) 92 (fun _ => none)) 0 10 (some 92)) 93 (fun _ => none))) 91 0 (some 93)) 102 (fun _ => none))) 91 1 (some 102)) 111 (fun _ => none))) 91 2 (some 111))
theorem cX11_0_i_keep {I : Ix} {q : Nat} (h : 120 ≤ q) : cX11_0_i I q = I q := by
  unfold cX11_0_i
  rw [cX2_111_i_keep (by omega), cX2_102_i_keep (by omega), cX2_93_i_keep (by omega), cX6_85_i_keep (by omega), cX5_80_i_keep (by omega), cX9_69_i_keep (by omega), cX0_62_i_keep (by omega), cX2_53_i_keep (by omega), cX3_49_i_keep (by omega), cX10_26_i_keep (by omega), cX10_3_i_keep (by omega), cX7_1_i_keep (by omega)]
theorem cX11_0_l_keep {L : Lx} {q : Nat} (h : 120 ≤ q) : cX11_0_l L q = L q := by
  unfold cX11_0_l
  rw [cX2_111_l_keep (by omega), cX2_102_l_keep (by omega), cX2_93_l_keep (by omega), cX6_85_l_keep (by omega), cX5_80_l_keep (by omega), cX9_69_l_keep (by omega), cX0_62_l_keep (by omega), cX2_53_l_keep (by omega), cX3_49_l_keep (by omega), cX10_26_l_keep (by omega), cX10_3_l_keep (by omega), cX7_1_l_keep (by omega)]
set_option maxRecDepth 20000 in
theorem okccX11_0 {G : Gx} {Ls : Nat} {xs : Nat → Int32} (hO : Old G Ls xs) {I : Ix} {L : Lx} {R : Rx} (hI : ∀ q, 1 ≤ q → I q = fun _ => 0) (hL : ∀ q, 1 ≤ q → L q = fun _ => 0) : Mt G MX11_init [.ref 0] 1 I L R 120 (qC 120 (cX11_0_i I) (cX11_0_l L) (cX11_0_r R)) := by
  refine Mt.of (by decide +kernel) (Nat.le_of_ble_eq_true rfl) (by decide) ?_
  refine Ev.aload_n (k := 0) (pc' := 1) dX11_init_0 rfl rfl rfl ?_
  refine Ev.objInit (pc' := 4) dX11_init_1 rfl oi_RX11_1 oi_w.1 oi_w.2 (Nat.le_of_ble_eq_true rfl) (Nat.le_of_ble_eq_true rfl) ?_
  refine Ev.aload_n (k := 0) (pc' := 5) dX11_init_4 rfl rfl rfl ?_
  refine Ev.newO' (tyT := tyX7) (pc' := 8) dX11_init_5 rfl (c := 7) rfl rfl wsin_7 tyX7_ok hdf_7 cl_RX11_7 inst_7.1 inst_7.2 ⟨by decide, obk_1.1, obk_1.2⟩ (by decide) (by decide) (by exact hI _ (by decide)) (by exact hL _ (by decide)) ?_
  refine Ev.dup (pc' := 9) dX11_init_8 rfl rfl ?_
  refine Ev.callN (M' := MX7_init) (host := "NoonSquare") (k := 1) (As := []) (rest := [.ref 1, .ref 0]) (nF' := 3) (pc' := 12) dX11_init_9 rfl (fun U hU => (hO U hU).2.2.2.2.2.2.1) ci_RX7.1 ci_RX7.2.1 ci_RX7.2.2 rfl rfl ⟨by decide, by decide, by decide +kernel⟩ ⟨Nat.le_of_ble_eq_true rfl, Nat.le_of_ble_eq_true rfl⟩ rfl rfl (Nat.le_of_ble_eq_true rfl) (by decide) (by decide) (okccX7_1 hO (fun q hq => by exact hI _ (by omega)) (fun q hq => by exact hL _ (by omega))) ?_
  intro v n' I' L' R' hq
  obtain ⟨e1, e2, e3, e4, e5⟩ := hq
  rw [e1, e2, e3, e4, e5]
  refine ⟨rfl, ?_⟩
  refine Ev.putR (pc' := 15) dX11_init_12 rfl fa_RX11_10 ⟨by decide, obk_0.1, obk_0.2⟩ fk_11_0 (Or.inr ⟨rfl, rfl⟩) (fun _ => rfl) (fun _ => rfl) ?_
  refine Ev.aload_n (k := 0) (pc' := 16) dX11_init_15 rfl rfl rfl ?_
  refine Ev.newO' (tyT := tyX10) (pc' := 19) dX11_init_16 rfl (c := 10) rfl rfl wsin_10 tyX10_ok hdf_10 cl_RX11_16 inst_10.1 inst_10.2 ⟨by decide, obk_3.1, obk_3.2⟩ (by decide) (by decide) (by rw [cX7_1_i_keep (by decide)]; exact hI _ (by decide)) (by rw [cX7_1_l_keep (by decide)]; exact hL _ (by decide)) ?_
  refine Ev.dup (pc' := 20) dX11_init_19 rfl rfl ?_
  refine Ev.callN (M' := MX10_init) (host := "NoonSquare") (k := 3) (As := []) (rest := [.ref 3, .ref 0]) (nF' := 26) (pc' := 23) dX11_init_20 rfl (fun U hU => (hO U hU).2.2.2.2.2.2.2.1) ci_RX10.1 ci_RX10.2.1 ci_RX10.2.2 rfl rfl ⟨by decide, by decide, by decide +kernel⟩ ⟨Nat.le_of_ble_eq_true rfl, Nat.le_of_ble_eq_true rfl⟩ rfl rfl (Nat.le_of_ble_eq_true rfl) (by decide) (by decide) (okccX10_3 hO (fun q hq => by rw [cX7_1_i_keep (by omega)]; exact hI _ (by omega)) (fun q hq => by rw [cX7_1_l_keep (by omega)]; exact hL _ (by omega))) ?_
  intro v n' I' L' R' hq
  obtain ⟨e1, e2, e3, e4, e5⟩ := hq
  rw [e1, e2, e3, e4, e5]
  refine ⟨rfl, ?_⟩
  refine Ev.putR (pc' := 26) dX11_init_23 rfl fa_RX11_19 ⟨by decide, obk_0.1, obk_0.2⟩ fk_11_1 (Or.inr ⟨rfl, rfl⟩) (fun _ => rfl) (fun _ => rfl) ?_
  refine Ev.aload_n (k := 0) (pc' := 27) dX11_init_26 rfl rfl rfl ?_
  refine Ev.newO' (tyT := tyX10) (pc' := 30) dX11_init_27 rfl (c := 10) rfl rfl wsin_10 tyX10_ok hdf_10 cl_RX11_16 inst_10.1 inst_10.2 ⟨by decide, obk_26.1, obk_26.2⟩ (by decide) (by decide) (by rw [cX10_3_i_keep (by decide), cX7_1_i_keep (by decide)]; exact hI _ (by decide)) (by rw [cX10_3_l_keep (by decide), cX7_1_l_keep (by decide)]; exact hL _ (by decide)) ?_
  refine Ev.dup (pc' := 31) dX11_init_30 rfl rfl ?_
  refine Ev.callN (M' := MX10_init) (host := "NoonSquare") (k := 26) (As := []) (rest := [.ref 26, .ref 0]) (nF' := 49) (pc' := 34) dX11_init_31 rfl (fun U hU => (hO U hU).2.2.2.2.2.2.2.1) ci_RX10.1 ci_RX10.2.1 ci_RX10.2.2 rfl rfl ⟨by decide, by decide, by decide +kernel⟩ ⟨Nat.le_of_ble_eq_true rfl, Nat.le_of_ble_eq_true rfl⟩ rfl rfl (Nat.le_of_ble_eq_true rfl) (by decide) (by decide) (okccX10_26 hO (fun q hq => by rw [cX10_3_i_keep (by omega), cX7_1_i_keep (by omega)]; exact hI _ (by omega)) (fun q hq => by rw [cX10_3_l_keep (by omega), cX7_1_l_keep (by omega)]; exact hL _ (by omega))) ?_
  intro v n' I' L' R' hq
  obtain ⟨e1, e2, e3, e4, e5⟩ := hq
  rw [e1, e2, e3, e4, e5]
  refine ⟨rfl, ?_⟩
  refine Ev.putR (pc' := 37) dX11_init_34 rfl fa_RX11_23 ⟨by decide, obk_0.1, obk_0.2⟩ fk_11_2 (Or.inr ⟨rfl, rfl⟩) (fun _ => rfl) (fun _ => rfl) ?_
  refine Ev.aload_n (k := 0) (pc' := 38) dX11_init_37 rfl rfl rfl ?_
  refine Ev.newO' (tyT := tyX3) (pc' := 41) dX11_init_38 rfl (c := 3) rfl rfl wsin_3 tyX3_ok hdf_3 cl_RX11_26 inst_3.1 inst_3.2 ⟨by decide, obk_49.1, obk_49.2⟩ (by decide) (by decide) (by rw [cX10_26_i_keep (by decide), cX10_3_i_keep (by decide), cX7_1_i_keep (by decide)]; exact hI _ (by decide)) (by rw [cX10_26_l_keep (by decide), cX10_3_l_keep (by decide), cX7_1_l_keep (by decide)]; exact hL _ (by decide)) ?_
  refine Ev.dup (pc' := 42) dX11_init_41 rfl rfl ?_
  refine Ev.aload_n (k := 0) (pc' := 43) dX11_init_42 rfl rfl rfl ?_
  refine Ev.getR (r := 1) (pc' := 46) dX11_init_43 rfl fa_RX11_10 ⟨by decide, obk_0.1, obk_0.2⟩ fk_11_0 rfl ?_
  refine Ev.aload_n (k := 0) (pc' := 47) dX11_init_46 rfl rfl rfl ?_
  refine Ev.getR (r := 26) (pc' := 50) dX11_init_47 rfl fa_RX11_23 ⟨by decide, obk_0.1, obk_0.2⟩ fk_11_2 rfl ?_
  refine Ev.callI (M' := MX3_init) (k := 49) (As := [.ref 1, .ref 26]) (rest := [.ref 49, .ref 0]) (nF' := 53) (pc' := 53) dX11_init_50 rfl cm_RX11_28 ci_RX3.1 ci_RX3.2.1 ci_RX3.2.2 rfl rfl ⟨by decide, by decide, by decide +kernel⟩ ⟨Nat.le_of_ble_eq_true rfl, Nat.le_of_ble_eq_true rfl⟩ rfl rfl (Nat.le_of_ble_eq_true rfl) (by decide) (by decide) (okccX3_49 hO (fun q hq => by rw [cX10_26_i_keep (by omega), cX10_3_i_keep (by omega), cX7_1_i_keep (by omega)]; exact hI _ (by omega)) (fun q hq => by rw [cX10_26_l_keep (by omega), cX10_3_l_keep (by omega), cX7_1_l_keep (by omega)]; exact hL _ (by omega)) rfl rfl) ?_
  intro v n' I' L' R' hq
  obtain ⟨e1, e2, e3, e4, e5⟩ := hq
  rw [e1, e2, e3, e4, e5]
  refine ⟨rfl, ?_⟩
  refine Ev.putR (pc' := 56) dX11_init_53 rfl fa_RX11_31 ⟨by decide, obk_0.1, obk_0.2⟩ fk_11_3 (Or.inr ⟨rfl, rfl⟩) (fun _ => rfl) (fun _ => rfl) ?_
  refine Ev.aload_n (k := 0) (pc' := 57) dX11_init_56 rfl rfl rfl ?_
  refine Ev.newO' (tyT := tyX2) (pc' := 60) dX11_init_57 rfl (c := 2) rfl rfl wsin_2 tyX2_ok hdf_2 cl_RX11_35 inst_2.1 inst_2.2 ⟨by decide, obk_53.1, obk_53.2⟩ (by decide) (by decide) (by rw [cX3_49_i_keep (by decide), cX10_26_i_keep (by decide), cX10_3_i_keep (by decide), cX7_1_i_keep (by decide)]; exact hI _ (by decide)) (by rw [cX3_49_l_keep (by decide), cX10_26_l_keep (by decide), cX10_3_l_keep (by decide), cX7_1_l_keep (by decide)]; exact hL _ (by decide)) ?_
  refine Ev.dup (pc' := 61) dX11_init_60 rfl rfl ?_
  refine Ev.callN (M' := MX2_init) (host := "NoonSquare") (k := 53) (As := []) (rest := [.ref 53, .ref 0]) (nF' := 62) (pc' := 64) dX11_init_61 rfl (fun U hU => (hO U hU).2.2.2.2.2.2.2.2.2.2.1) ci_RX2.1 ci_RX2.2.1 ci_RX2.2.2 rfl rfl ⟨by decide, by decide, by decide +kernel⟩ ⟨Nat.le_of_ble_eq_true rfl, Nat.le_of_ble_eq_true rfl⟩ rfl rfl (Nat.le_of_ble_eq_true rfl) (by decide) (by decide) (okccX2_53 hO (fun q hq => by rw [cX3_49_i_keep (by omega), cX10_26_i_keep (by omega), cX10_3_i_keep (by omega), cX7_1_i_keep (by omega)]; exact hI _ (by omega)) (fun q hq => by rw [cX3_49_l_keep (by omega), cX10_26_l_keep (by omega), cX10_3_l_keep (by omega), cX7_1_l_keep (by omega)]; exact hL _ (by omega))) ?_
  intro v n' I' L' R' hq
  obtain ⟨e1, e2, e3, e4, e5⟩ := hq
  rw [e1, e2, e3, e4, e5]
  refine ⟨rfl, ?_⟩
  refine Ev.putR (pc' := 67) dX11_init_64 rfl fa_RX11_38 ⟨by decide, obk_0.1, obk_0.2⟩ fk_11_4 (Or.inr ⟨rfl, rfl⟩) (fun _ => rfl) (fun _ => rfl) ?_
  refine Ev.aload_n (k := 0) (pc' := 68) dX11_init_67 rfl rfl rfl ?_
  refine Ev.newO' (tyT := tyX0) (pc' := 71) dX11_init_68 rfl (c := 0) rfl rfl wsin_0 tyX0_ok hdf_0 cl_RX11_42 inst_0.1 inst_0.2 ⟨by decide, obk_62.1, obk_62.2⟩ (by decide) (by decide) (by rw [cX2_53_i_keep (by decide), cX3_49_i_keep (by decide), cX10_26_i_keep (by decide), cX10_3_i_keep (by decide), cX7_1_i_keep (by decide)]; exact hI _ (by decide)) (by rw [cX2_53_l_keep (by decide), cX3_49_l_keep (by decide), cX10_26_l_keep (by decide), cX10_3_l_keep (by decide), cX7_1_l_keep (by decide)]; exact hL _ (by decide)) ?_
  refine Ev.dup (pc' := 72) dX11_init_71 rfl rfl ?_
  refine Ev.aload_n (k := 0) (pc' := 73) dX11_init_72 rfl rfl rfl ?_
  refine Ev.getR (r := 3) (pc' := 76) dX11_init_73 rfl fa_RX11_19 ⟨by decide, obk_0.1, obk_0.2⟩ fk_11_1 rfl ?_
  refine Ev.callI (M' := MX0_init) (k := 62) (As := [.ref 3]) (rest := [.ref 62, .ref 0]) (nF' := 69) (pc' := 79) dX11_init_76 rfl cm_RX11_44 ci_RX0.1 ci_RX0.2.1 ci_RX0.2.2 rfl rfl ⟨by decide, by decide, by decide +kernel⟩ ⟨Nat.le_of_ble_eq_true rfl, Nat.le_of_ble_eq_true rfl⟩ rfl rfl (Nat.le_of_ble_eq_true rfl) (by decide) (by decide) (okccX0_62 hO (fun q hq => by rw [cX2_53_i_keep (by omega), cX3_49_i_keep (by omega), cX10_26_i_keep (by omega), cX10_3_i_keep (by omega), cX7_1_i_keep (by omega)]; exact hI _ (by omega)) (fun q hq => by rw [cX2_53_l_keep (by omega), cX3_49_l_keep (by omega), cX10_26_l_keep (by omega), cX10_3_l_keep (by omega), cX7_1_l_keep (by omega)]; exact hL _ (by omega))) ?_
  intro v n' I' L' R' hq
  obtain ⟨e1, e2, e3, e4, e5⟩ := hq
  rw [e1, e2, e3, e4, e5]
  refine ⟨rfl, ?_⟩
  refine Ev.putR (pc' := 82) dX11_init_79 rfl fa_RX11_47 ⟨by decide, obk_0.1, obk_0.2⟩ fk_11_5 (Or.inr ⟨rfl, rfl⟩) (fun _ => rfl) (fun _ => rfl) ?_
  refine Ev.aload_n (k := 0) (pc' := 83) dX11_init_82 rfl rfl rfl ?_
  refine Ev.newO' (tyT := tyX9) (pc' := 86) dX11_init_83 rfl (c := 9) rfl rfl wsin_9 tyX9_ok hdf_9 cl_RX11_51 inst_9.1 inst_9.2 ⟨by decide, obk_69.1, obk_69.2⟩ (by decide) (by decide) (by rw [cX0_62_i_keep (by decide), cX2_53_i_keep (by decide), cX3_49_i_keep (by decide), cX10_26_i_keep (by decide), cX10_3_i_keep (by decide), cX7_1_i_keep (by decide)]; exact hI _ (by decide)) (by rw [cX0_62_l_keep (by decide), cX2_53_l_keep (by decide), cX3_49_l_keep (by decide), cX10_26_l_keep (by decide), cX10_3_l_keep (by decide), cX7_1_l_keep (by decide)]; exact hL _ (by decide)) ?_
  refine Ev.dup (pc' := 87) dX11_init_86 rfl rfl ?_
  refine Ev.aload_n (k := 0) (pc' := 88) dX11_init_87 rfl rfl rfl ?_
  refine Ev.getR (r := 3) (pc' := 91) dX11_init_88 rfl fa_RX11_19 ⟨by decide, obk_0.1, obk_0.2⟩ fk_11_1 rfl ?_
  refine Ev.aload_n (k := 0) (pc' := 92) dX11_init_91 rfl rfl rfl ?_
  refine Ev.getR (r := 62) (pc' := 95) dX11_init_92 rfl fa_RX11_47 ⟨by decide, obk_0.1, obk_0.2⟩ fk_11_5 rfl ?_
  refine Ev.callI (M' := MX9_init) (k := 69) (As := [.ref 3, .ref 62]) (rest := [.ref 69, .ref 0]) (nF' := 80) (pc' := 98) dX11_init_95 rfl cm_RX11_53 ci_RX9.1 ci_RX9.2.1 ci_RX9.2.2 rfl rfl ⟨by decide, by decide, by decide +kernel⟩ ⟨Nat.le_of_ble_eq_true rfl, Nat.le_of_ble_eq_true rfl⟩ rfl rfl (Nat.le_of_ble_eq_true rfl) (by decide) (by decide) (okccX9_69 hO (fun q hq => by rw [cX0_62_i_keep (by omega), cX2_53_i_keep (by omega), cX3_49_i_keep (by omega), cX10_26_i_keep (by omega), cX10_3_i_keep (by omega), cX7_1_i_keep (by omega)]; exact hI _ (by omega)) (fun q hq => by rw [cX0_62_l_keep (by omega), cX2_53_l_keep (by omega), cX3_49_l_keep (by omega), cX10_26_l_keep (by omega), cX10_3_l_keep (by omega), cX7_1_l_keep (by omega)]; exact hL _ (by omega))) ?_
  intro v n' I' L' R' hq
  obtain ⟨e1, e2, e3, e4, e5⟩ := hq
  rw [e1, e2, e3, e4, e5]
  refine ⟨rfl, ?_⟩
  refine Ev.putR (pc' := 101) dX11_init_98 rfl fa_RX11_56 ⟨by decide, obk_0.1, obk_0.2⟩ fk_11_6 (Or.inr ⟨rfl, rfl⟩) (fun _ => rfl) (fun _ => rfl) ?_
  refine Ev.aload_n (k := 0) (pc' := 102) dX11_init_101 rfl rfl rfl ?_
  refine Ev.newO' (tyT := tyX5) (pc' := 105) dX11_init_102 rfl (c := 5) rfl rfl wsin_5 tyX5_ok hdf_5 cl_RX11_60 inst_5.1 inst_5.2 ⟨by decide, obk_80.1, obk_80.2⟩ (by decide) (by decide) (by rw [cX9_69_i_keep (by decide), cX0_62_i_keep (by decide), cX2_53_i_keep (by decide), cX3_49_i_keep (by decide), cX10_26_i_keep (by decide), cX10_3_i_keep (by decide), cX7_1_i_keep (by decide)]; exact hI _ (by decide)) (by rw [cX9_69_l_keep (by decide), cX0_62_l_keep (by decide), cX2_53_l_keep (by decide), cX3_49_l_keep (by decide), cX10_26_l_keep (by decide), cX10_3_l_keep (by decide), cX7_1_l_keep (by decide)]; exact hL _ (by decide)) ?_
  refine Ev.dup (pc' := 106) dX11_init_105 rfl rfl ?_
  refine Ev.aload_n (k := 0) (pc' := 107) dX11_init_106 rfl rfl rfl ?_
  refine Ev.getR (r := 3) (pc' := 110) dX11_init_107 rfl fa_RX11_19 ⟨by decide, obk_0.1, obk_0.2⟩ fk_11_1 rfl ?_
  refine Ev.aload_n (k := 0) (pc' := 111) dX11_init_110 rfl rfl rfl ?_
  refine Ev.getR (r := 53) (pc' := 114) dX11_init_111 rfl fa_RX11_38 ⟨by decide, obk_0.1, obk_0.2⟩ fk_11_4 rfl ?_
  refine Ev.callI (M' := MX5_init) (k := 80) (As := [.ref 3, .ref 53]) (rest := [.ref 80, .ref 0]) (nF' := 85) (pc' := 117) dX11_init_114 rfl cm_RX11_62 ci_RX5.1 ci_RX5.2.1 ci_RX5.2.2 rfl rfl ⟨by decide, by decide, by decide +kernel⟩ ⟨Nat.le_of_ble_eq_true rfl, Nat.le_of_ble_eq_true rfl⟩ rfl rfl (Nat.le_of_ble_eq_true rfl) (by decide) (by decide) (okccX5_80 hO (fun q hq => by rw [cX9_69_i_keep (by omega), cX0_62_i_keep (by omega), cX2_53_i_keep (by omega), cX3_49_i_keep (by omega), cX10_26_i_keep (by omega), cX10_3_i_keep (by omega), cX7_1_i_keep (by omega)]; exact hI _ (by omega)) (fun q hq => by rw [cX9_69_l_keep (by omega), cX0_62_l_keep (by omega), cX2_53_l_keep (by omega), cX3_49_l_keep (by omega), cX10_26_l_keep (by omega), cX10_3_l_keep (by omega), cX7_1_l_keep (by omega)]; exact hL _ (by omega))) ?_
  intro v n' I' L' R' hq
  obtain ⟨e1, e2, e3, e4, e5⟩ := hq
  rw [e1, e2, e3, e4, e5]
  refine ⟨rfl, ?_⟩
  refine Ev.putR (pc' := 120) dX11_init_117 rfl fa_RX11_65 ⟨by decide, obk_0.1, obk_0.2⟩ fk_11_7 (Or.inr ⟨rfl, rfl⟩) (fun _ => rfl) (fun _ => rfl) ?_
  refine Ev.aload_n (k := 0) (pc' := 121) dX11_init_120 rfl rfl rfl ?_
  refine Ev.newO' (tyT := tyX6) (pc' := 124) dX11_init_121 rfl (c := 6) rfl rfl wsin_6 tyX6_ok hdf_6 cl_RX11_69 inst_6.1 inst_6.2 ⟨by decide, obk_85.1, obk_85.2⟩ (by decide) (by decide) (by rw [cX5_80_i_keep (by decide), cX9_69_i_keep (by decide), cX0_62_i_keep (by decide), cX2_53_i_keep (by decide), cX3_49_i_keep (by decide), cX10_26_i_keep (by decide), cX10_3_i_keep (by decide), cX7_1_i_keep (by decide)]; exact hI _ (by decide)) (by rw [cX5_80_l_keep (by decide), cX9_69_l_keep (by decide), cX0_62_l_keep (by decide), cX2_53_l_keep (by decide), cX3_49_l_keep (by decide), cX10_26_l_keep (by decide), cX10_3_l_keep (by decide), cX7_1_l_keep (by decide)]; exact hL _ (by decide)) ?_
  refine Ev.dup (pc' := 125) dX11_init_124 rfl rfl ?_
  refine Ev.callN (M' := MX6_init) (host := "NoonSquare") (k := 85) (As := []) (rest := [.ref 85, .ref 0]) (nF' := 91) (pc' := 128) dX11_init_125 rfl (fun U hU => (hO U hU).2.2.2.2.2.2.2.2.2.2.2.2) ci_RX6.1 ci_RX6.2.1 ci_RX6.2.2 rfl rfl ⟨by decide, by decide, by decide +kernel⟩ ⟨Nat.le_of_ble_eq_true rfl, Nat.le_of_ble_eq_true rfl⟩ rfl rfl (Nat.le_of_ble_eq_true rfl) (by decide) (by decide) (okccX6_85 hO (fun q hq => by rw [cX5_80_i_keep (by omega), cX9_69_i_keep (by omega), cX0_62_i_keep (by omega), cX2_53_i_keep (by omega), cX3_49_i_keep (by omega), cX10_26_i_keep (by omega), cX10_3_i_keep (by omega), cX7_1_i_keep (by omega)]; exact hI _ (by omega)) (fun q hq => by rw [cX5_80_l_keep (by omega), cX9_69_l_keep (by omega), cX0_62_l_keep (by omega), cX2_53_l_keep (by omega), cX3_49_l_keep (by omega), cX10_26_l_keep (by omega), cX10_3_l_keep (by omega), cX7_1_l_keep (by omega)]; exact hL _ (by omega))) ?_
  intro v n' I' L' R' hq
  obtain ⟨e1, e2, e3, e4, e5⟩ := hq
  rw [e1, e2, e3, e4, e5]
  refine ⟨rfl, ?_⟩
  refine Ev.putR (pc' := 131) dX11_init_128 rfl fa_RX11_72 ⟨by decide, obk_0.1, obk_0.2⟩ fk_11_8 (Or.inr ⟨rfl, rfl⟩) (fun _ => rfl) (fun _ => rfl) ?_
  refine Ev.aload_n (k := 0) (pc' := 132) dX11_init_131 rfl rfl rfl ?_
  refine Ev.iconst (v := 3) (pc' := 133) dX11_init_132 rfl (by decide) ?_
  refine Ev.newQ (N := 3) (pc' := 136) dX11_init_133 rfl cl_RX11_35 (fun U hU => (hO U hU).2.2.2.2.2.1) ni_3 (by decide) ⟨by decide, ark_91.1, ark_91.2⟩ (by decide) (by decide) (by rw [cX6_85_i_keep (by decide), cX5_80_i_keep (by decide), cX9_69_i_keep (by decide), cX0_62_i_keep (by decide), cX2_53_i_keep (by decide), cX3_49_i_keep (by decide), cX10_26_i_keep (by decide), cX10_3_i_keep (by decide), cX7_1_i_keep (by decide)]; exact hI _ (by decide)) (by rw [cX6_85_l_keep (by decide), cX5_80_l_keep (by decide), cX9_69_l_keep (by decide), cX0_62_l_keep (by decide), cX2_53_l_keep (by decide), cX3_49_l_keep (by decide), cX10_26_l_keep (by decide), cX10_3_l_keep (by decide), cX7_1_l_keep (by decide)]; exact hL _ (by decide)) ?_
  refine Ev.putR (pc' := 139) dX11_init_136 rfl fa_RX11_76 ⟨by decide, obk_0.1, obk_0.2⟩ fk_11_9 (Or.inr ⟨rfl, rfl⟩) (fun _ => rfl) (fun _ => rfl) ?_
  refine Ev.aload_n (k := 0) (pc' := 140) dX11_init_139 rfl rfl rfl ?_
  refine Ev.iconst (v := 3) (pc' := 141) dX11_init_140 rfl (by decide) ?_
  refine Ev.newA' 2 (N := 3) (pc' := 143) dX11_init_141 rfl rfl (fun _ _ h9 => h9) acl_boolean ni_3 (by decide) rfl ⟨by decide, ark_92.1, ark_92.2⟩ (by decide) rfl (by decide) (by decide) (by decide) (by rw [cX6_85_i_keep (by decide), cX5_80_i_keep (by decide), cX9_69_i_keep (by decide), cX0_62_i_keep (by decide), cX2_53_i_keep (by decide), cX3_49_i_keep (by decide), cX10_26_i_keep (by decide), cX10_3_i_keep (by decide), cX7_1_i_keep (by decide)]; exact hI _ (by decide)) (by rw [cX6_85_l_keep (by decide), cX5_80_l_keep (by decide), cX9_69_l_keep (by decide), cX0_62_l_keep (by decide), cX2_53_l_keep (by decide), cX3_49_l_keep (by decide), cX10_26_l_keep (by decide), cX10_3_l_keep (by decide), cX7_1_l_keep (by decide)]; exact hL _ (by decide)) ?_
  refine Ev.putR (pc' := 146) dX11_init_143 rfl fa_RX11_80 ⟨by decide, obk_0.1, obk_0.2⟩ fk_11_10 (Or.inr ⟨rfl, rfl⟩) (fun _ => rfl) (fun _ => rfl) ?_
  refine Ev.iconst (v := 0) (pc' := 147) dX11_init_146 rfl (by decide) ?_
  refine Ev.istore_n (ls' := [(1, .int 0), (0, .ref 0)]) (pc' := 148) dX11_init_147 rfl rfl (Nat.le_of_ble_eq_true rfl) rfl ?_
  refine Ev.iload_n (k := 0) (pc' := 149) dX11_init_148 rfl rfl rfl ?_
  refine Ev.iconst (v := 3) (pc' := 150) dX11_init_149 rfl (by decide) ?_
  refine Ev.icmp_ge (pc' := 153) (tgt := 172) dX11_init_150 rfl rfl (fun hc => absurd hc (by decide)) (fun hc => ?_)
  refine Ev.aload_n (k := 1) (pc' := 154) dX11_init_153 rfl rfl rfl ?_
  refine Ev.getR (r := 91) (pc' := 157) dX11_init_154 rfl fa_RX11_76 ⟨by decide, obk_0.1, obk_0.2⟩ fk_11_9 rfl ?_
  refine Ev.iload_n (k := 0) (pc' := 158) dX11_init_157 rfl rfl rfl ?_
  refine Ev.newO' (tyT := tyX2) (pc' := 161) dX11_init_158 rfl (c := 2) rfl rfl wsin_2 tyX2_ok hdf_2 cl_RX11_35 inst_2.1 inst_2.2 ⟨by decide, obk_93.1, obk_93.2⟩ (by decide) (by decide) (by rw [cX6_85_i_keep (by decide), cX5_80_i_keep (by decide), cX9_69_i_keep (by decide), cX0_62_i_keep (by decide), cX2_53_i_keep (by decide), cX3_49_i_keep (by decide), cX10_26_i_keep (by decide), cX10_3_i_keep (by decide), cX7_1_i_keep (by decide)]; exact hI _ (by decide)) (by rw [cX6_85_l_keep (by decide), cX5_80_l_keep (by decide), cX9_69_l_keep (by decide), cX0_62_l_keep (by decide), cX2_53_l_keep (by decide), cX3_49_l_keep (by decide), cX10_26_l_keep (by decide), cX10_3_l_keep (by decide), cX7_1_l_keep (by decide)]; exact hL _ (by decide)) ?_
  refine Ev.dup (pc' := 162) dX11_init_161 rfl rfl ?_
  refine Ev.callN (M' := MX2_init) (host := "NoonSquare") (k := 93) (As := []) (rest := [.ref 93, .int 0, .ref 91]) (nF' := 102) (pc' := 165) dX11_init_162 rfl (fun U hU => (hO U hU).2.2.2.2.2.2.2.2.2.2.1) ci_RX2.1 ci_RX2.2.1 ci_RX2.2.2 rfl rfl ⟨by decide, by decide, by decide +kernel⟩ ⟨Nat.le_of_ble_eq_true rfl, Nat.le_of_ble_eq_true rfl⟩ rfl rfl (Nat.le_of_ble_eq_true rfl) (by decide) (by decide) (okccX2_93 hO (fun q hq => by rw [cX6_85_i_keep (by omega), cX5_80_i_keep (by omega), cX9_69_i_keep (by omega), cX0_62_i_keep (by omega), cX2_53_i_keep (by omega), cX3_49_i_keep (by omega), cX10_26_i_keep (by omega), cX10_3_i_keep (by omega), cX7_1_i_keep (by omega)]; exact hI _ (by omega)) (fun q hq => by rw [cX6_85_l_keep (by omega), cX5_80_l_keep (by omega), cX9_69_l_keep (by omega), cX0_62_l_keep (by omega), cX2_53_l_keep (by omega), cX3_49_l_keep (by omega), cX10_26_l_keep (by omega), cX10_3_l_keep (by omega), cX7_1_l_keep (by omega)]; exact hL _ (by omega))) ?_
  intro v n' I' L' R' hq
  obtain ⟨e1, e2, e3, e4, e5⟩ := hq
  rw [e1, e2, e3, e4, e5]
  refine ⟨rfl, ?_⟩
  refine Ev.aastore (pc' := 166) dX11_init_165 rfl ⟨by decide, ark_91.1, ark_91.2⟩ ⟨by decide, obk_93.1, obk_93.2⟩ (vpl rfl) ?_
  refine Ev.iinc (k := 0) (v := 1) (ls' := [(1, .int 1), (0, .ref 0)]) (pc' := 169) dX11_init_166 rfl rfl (by decide) (Nat.le_of_ble_eq_true rfl) rfl ?_
  refine Ev.goto (tgt := 148) dX11_init_169 rfl ?_
  refine Ev.iload_n (k := 0) (pc' := 149) dX11_init_148 rfl rfl rfl ?_
  refine Ev.iconst (v := 3) (pc' := 150) dX11_init_149 rfl (by decide) ?_
  refine Ev.icmp_ge (pc' := 153) (tgt := 172) dX11_init_150 rfl rfl (fun hc => absurd hc (by decide)) (fun hc => ?_)
  refine Ev.aload_n (k := 1) (pc' := 154) dX11_init_153 rfl rfl rfl ?_
  refine Ev.getR (r := 91) (pc' := 157) dX11_init_154 rfl fa_RX11_76 ⟨by decide, obk_0.1, obk_0.2⟩ fk_11_9 rfl ?_
  refine Ev.iload_n (k := 0) (pc' := 158) dX11_init_157 rfl rfl rfl ?_
  refine Ev.newO' (tyT := tyX2) (pc' := 161) dX11_init_158 rfl (c := 2) rfl rfl wsin_2 tyX2_ok hdf_2 cl_RX11_35 inst_2.1 inst_2.2 ⟨by decide, obk_102.1, obk_102.2⟩ (by decide) (by decide) (by rw [cX2_93_i_keep (by decide), cX6_85_i_keep (by decide), cX5_80_i_keep (by decide), cX9_69_i_keep (by decide), cX0_62_i_keep (by decide), cX2_53_i_keep (by decide), cX3_49_i_keep (by decide), cX10_26_i_keep (by decide), cX10_3_i_keep (by decide), cX7_1_i_keep (by decide)]; exact hI _ (by decide)) (by rw [cX2_93_l_keep (by decide), cX6_85_l_keep (by decide), cX5_80_l_keep (by decide), cX9_69_l_keep (by decide), cX0_62_l_keep (by decide), cX2_53_l_keep (by decide), cX3_49_l_keep (by decide), cX10_26_l_keep (by decide), cX10_3_l_keep (by decide), cX7_1_l_keep (by decide)]; exact hL _ (by decide)) ?_
  refine Ev.dup (pc' := 162) dX11_init_161 rfl rfl ?_
  refine Ev.callN (M' := MX2_init) (host := "NoonSquare") (k := 102) (As := []) (rest := [.ref 102, .int 1, .ref 91]) (nF' := 111) (pc' := 165) dX11_init_162 rfl (fun U hU => (hO U hU).2.2.2.2.2.2.2.2.2.2.1) ci_RX2.1 ci_RX2.2.1 ci_RX2.2.2 rfl rfl ⟨by decide, by decide, by decide +kernel⟩ ⟨Nat.le_of_ble_eq_true rfl, Nat.le_of_ble_eq_true rfl⟩ rfl rfl (Nat.le_of_ble_eq_true rfl) (by decide) (by decide) (okccX2_102 hO (fun q hq => by rw [cX2_93_i_keep (by omega), cX6_85_i_keep (by omega), cX5_80_i_keep (by omega), cX9_69_i_keep (by omega), cX0_62_i_keep (by omega), cX2_53_i_keep (by omega), cX3_49_i_keep (by omega), cX10_26_i_keep (by omega), cX10_3_i_keep (by omega), cX7_1_i_keep (by omega)]; exact hI _ (by omega)) (fun q hq => by rw [cX2_93_l_keep (by omega), cX6_85_l_keep (by omega), cX5_80_l_keep (by omega), cX9_69_l_keep (by omega), cX0_62_l_keep (by omega), cX2_53_l_keep (by omega), cX3_49_l_keep (by omega), cX10_26_l_keep (by omega), cX10_3_l_keep (by omega), cX7_1_l_keep (by omega)]; exact hL _ (by omega))) ?_
  intro v n' I' L' R' hq
  obtain ⟨e1, e2, e3, e4, e5⟩ := hq
  rw [e1, e2, e3, e4, e5]
  refine ⟨rfl, ?_⟩
  refine Ev.aastore (pc' := 166) dX11_init_165 rfl ⟨by decide, ark_91.1, ark_91.2⟩ ⟨by decide, obk_102.1, obk_102.2⟩ (vpl rfl) ?_
  refine Ev.iinc (k := 0) (v := 2) (ls' := [(1, .int 2), (0, .ref 0)]) (pc' := 169) dX11_init_166 rfl rfl (by decide) (Nat.le_of_ble_eq_true rfl) rfl ?_
  refine Ev.goto (tgt := 148) dX11_init_169 rfl ?_
  refine Ev.iload_n (k := 0) (pc' := 149) dX11_init_148 rfl rfl rfl ?_
  refine Ev.iconst (v := 3) (pc' := 150) dX11_init_149 rfl (by decide) ?_
  refine Ev.icmp_ge (pc' := 153) (tgt := 172) dX11_init_150 rfl rfl (fun hc => absurd hc (by decide)) (fun hc => ?_)
  refine Ev.aload_n (k := 1) (pc' := 154) dX11_init_153 rfl rfl rfl ?_
  refine Ev.getR (r := 91) (pc' := 157) dX11_init_154 rfl fa_RX11_76 ⟨by decide, obk_0.1, obk_0.2⟩ fk_11_9 rfl ?_
  refine Ev.iload_n (k := 0) (pc' := 158) dX11_init_157 rfl rfl rfl ?_
  refine Ev.newO' (tyT := tyX2) (pc' := 161) dX11_init_158 rfl (c := 2) rfl rfl wsin_2 tyX2_ok hdf_2 cl_RX11_35 inst_2.1 inst_2.2 ⟨by decide, obk_111.1, obk_111.2⟩ (by decide) (by decide) (by rw [cX2_102_i_keep (by decide), cX2_93_i_keep (by decide), cX6_85_i_keep (by decide), cX5_80_i_keep (by decide), cX9_69_i_keep (by decide), cX0_62_i_keep (by decide), cX2_53_i_keep (by decide), cX3_49_i_keep (by decide), cX10_26_i_keep (by decide), cX10_3_i_keep (by decide), cX7_1_i_keep (by decide)]; exact hI _ (by decide)) (by rw [cX2_102_l_keep (by decide), cX2_93_l_keep (by decide), cX6_85_l_keep (by decide), cX5_80_l_keep (by decide), cX9_69_l_keep (by decide), cX0_62_l_keep (by decide), cX2_53_l_keep (by decide), cX3_49_l_keep (by decide), cX10_26_l_keep (by decide), cX10_3_l_keep (by decide), cX7_1_l_keep (by decide)]; exact hL _ (by decide)) ?_
  refine Ev.dup (pc' := 162) dX11_init_161 rfl rfl ?_
  refine Ev.callN (M' := MX2_init) (host := "NoonSquare") (k := 111) (As := []) (rest := [.ref 111, .int 2, .ref 91]) (nF' := 120) (pc' := 165) dX11_init_162 rfl (fun U hU => (hO U hU).2.2.2.2.2.2.2.2.2.2.1) ci_RX2.1 ci_RX2.2.1 ci_RX2.2.2 rfl rfl ⟨by decide, by decide, by decide +kernel⟩ ⟨Nat.le_of_ble_eq_true rfl, Nat.le_of_ble_eq_true rfl⟩ rfl rfl (Nat.le_of_ble_eq_true rfl) (by decide) (by decide) (okccX2_111 hO (fun q hq => by rw [cX2_102_i_keep (by omega), cX2_93_i_keep (by omega), cX6_85_i_keep (by omega), cX5_80_i_keep (by omega), cX9_69_i_keep (by omega), cX0_62_i_keep (by omega), cX2_53_i_keep (by omega), cX3_49_i_keep (by omega), cX10_26_i_keep (by omega), cX10_3_i_keep (by omega), cX7_1_i_keep (by omega)]; exact hI _ (by omega)) (fun q hq => by rw [cX2_102_l_keep (by omega), cX2_93_l_keep (by omega), cX6_85_l_keep (by omega), cX5_80_l_keep (by omega), cX9_69_l_keep (by omega), cX0_62_l_keep (by omega), cX2_53_l_keep (by omega), cX3_49_l_keep (by omega), cX10_26_l_keep (by omega), cX10_3_l_keep (by omega), cX7_1_l_keep (by omega)]; exact hL _ (by omega))) ?_
  intro v n' I' L' R' hq
  obtain ⟨e1, e2, e3, e4, e5⟩ := hq
  rw [e1, e2, e3, e4, e5]
  refine ⟨rfl, ?_⟩
  refine Ev.aastore (pc' := 166) dX11_init_165 rfl ⟨by decide, ark_91.1, ark_91.2⟩ ⟨by decide, obk_111.1, obk_111.2⟩ (vpl rfl) ?_
  refine Ev.iinc (k := 0) (v := 3) (ls' := [(1, .int 3), (0, .ref 0)]) (pc' := 169) dX11_init_166 rfl rfl (by decide) (Nat.le_of_ble_eq_true rfl) rfl ?_
  refine Ev.goto (tgt := 148) dX11_init_169 rfl ?_
  refine Ev.iload_n (k := 0) (pc' := 149) dX11_init_148 rfl rfl rfl ?_
  refine Ev.iconst (v := 3) (pc' := 150) dX11_init_149 rfl (by decide) ?_
  refine Ev.icmp_ge (pc' := 153) (tgt := 172) dX11_init_150 rfl rfl (fun hc => ?_) (fun hc => absurd (by decide) hc)
  exact Ev.vret dX11_init_172 rfl rfl ⟨rfl, rfl, rfl, rfl, rfl⟩
def cX12_120_i (I : Ix) : Ix := (pu (pu (pu I 120 3 (-1)) 120 58 1) 120 76 (-1))
def cX12_120_l (L : Lx) : Lx := L
def cX12_120_r (R : Rx) : Rx := (pu (va_up (pu (va_up (pu (va_up (pu (va_up (pu (va_up (pu (va_up (pu (va_up (pu (va_up (pu (va_up (pu (va_up (pu (va_up (pu (va_up (pu (va_up (pu (va_up (pu (va_up (pu (va_up (pu (va_up (pu (va_up (pu (va_up (pu (va_up (pu (va_up (pu (va_up (pu (va_up (pu (va_up (pu (va_up (pu (va_up (pu (va_up (pu (va_up (pu (va_up (pu (va_up (pu (va_up (pu (va_up (pu (va_up (pu (va_up (pu (va_up (pu (va_up (pu (va_up (pu (va_up (pu (va_up (pu (va_up (pu (va_up (pu (va_up (pu (va_up (pu (va_up (pu (va_up (pu (va_up (pu (va_up (pu (va_up (pu (va_up (pu (va_up (pu (va_up (pu (va_up (pu (va_up (pu (va_up (pu (va_up (pu (va_up (pu (va_up R 121 (fun _ => none)) 120 0 (some 121)) 122 (fun _ => none)) 120 10 (some 122)) 123 (fun _ => none)) 120 11 (some 123)) 124 (fun _ => none)) 120 12 (some 124)) 125 (fun _ => none)) 120 13 (some 125)) 126 (fun _ => none)) 120 14 (some 126)) 127 (fun _ => none)) 120 15 (some 127)) 128 (fun _ => none)) 120 16 (some 128)) 129 (fun _ => none)) 120 17 (some 129)) 130 (fun _ => none)) 120 18 (some 130)) 131 (fun _ => none)) 120 24 (some 131)) 132 (fun _ => none)) 120 25 (some 132)) 133 (fun _ => none)) 120 26 (some 133)) 134 (fun _ => none)) 120 27 (some 134)) 135 (fun _ => none)) 120 28 (some 135)) 136 (fun _ => none)) 120 29 (some 136)) 137 (fun _ => none)) 120 30 (some 137)) 138 (fun _ => none)) 120 31 (some 138)) 139 (fun _ => none)) 120 32 (some 139)) 140 (fun _ => none)) 120 33 (some 140)) 141 (fun _ => none)) 120 34 (some 141)) 142 (fun _ => none)) 120 35 (some 142)) 143 (fun _ => none)) 120 50 (some 143)) 144 (fun _ => none)) 120 51 (some 144)) 145 (fun _ => none)) 120 52 (some 145)) 146 (fun _ => none)) 120 53 (some 146)) 147 (fun _ => none)) 120 54 (some 147)) 148 (fun _ => none)) 120 55 (some 148)) 149 (fun _ => none)) 120 56 (some 149)) 150 (fun _ => none)) 120 60 (some 150)) 151 (fun _ => none)) 120 61 (some 151)) 152 (fun _ => none)) 120 62 (some 152)) 153 (fun _ => none)) 120 63 (some 153)) 154 (fun _ => none)) 120 64 (some 154)) 155 (fun _ => none)) 120 65 (some 155)) 156 (fun _ => none)) 120 66 (some 156)) 157 (fun _ => none)) 120 71 (some 157)) 158 (fun _ => none)) 120 72 (some 158)) 159 (fun _ => none)) 120 73 (some 159)) 160 (fun _ => none)) 120 74 (some 160)) 161 (fun _ => none)) 120 84 (some 161)) 162 (fun _ => none)) 120 85 (some 162)) 163 (fun _ => none)) 120 87 (some 163)) 164 (fun _ => none)) 120 88 (some 164)) 165 (fun _ => none)) 120 89 (some 165)) 166 (fun _ => none)) 120 90 (some 166)) 167 (fun _ => none)) 120 91 (some 167)) 168 (fun _ => none)) 120 92 (some 168)) 169 (fun _ => none)) 120 95 (some 169)) 170 (fun _ => none)) 120 96 (some 170)) 171 (fun _ => none)) 120 97 (some 171)) 172 (fun _ => none)) 120 98 (some 172)) 173 (fun _ => none)) 120 99 (some 173)) 174 (fun _ => none)) 120 100 (some 174)) 175 (fun _ => none)) 120 101 (some 175)) 176 (fun _ => none)) 120 102 (some 176)) 177 (fun _ => none)) 120 103 (some 177))
theorem cX12_120_i_keep {I : Ix} {q : Nat} (h : 178 ≤ q) : cX12_120_i I q = I q := by
  unfold cX12_120_i
  rw [pu_ne _ _ _ (by omega), pu_ne _ _ _ (by omega), pu_ne _ _ _ (by omega)]
theorem cX12_120_l_keep {L : Lx} {q : Nat} (h : 178 ≤ q) : cX12_120_l L q = L q := by
  unfold cX12_120_l
  rfl
set_option maxRecDepth 20000 in
theorem okccX12_120 {G : Gx} {Ls : Nat} {xs : Nat → Int32} (hO : Old G Ls xs) {I : Ix} {L : Lx} {R : Rx} {Q : Qx} (hI : ∀ q, 121 ≤ q → I q = fun _ => 0) (hL : ∀ q, 121 ≤ q → L q = fun _ => 0) (hfin : Ev G MX12_init 121 178 Q 480 [(0, .ref 120)] [.ref 120] 178 (cX12_120_i I) (cX12_120_l L) (cX12_120_r R)) : Mt G MX12_init [.ref 120] 121 I L R 178 Q := by
  refine Mt.of (by decide +kernel) (Nat.le_of_ble_eq_true rfl) (by decide) ?_
  refine Ev.aload_n (k := 0) (pc' := 1) dX12_init_0 rfl rfl rfl ?_
  refine Ev.objInit (pc' := 4) dX12_init_1 rfl oi_RX12_1 oi_w.1 oi_w.2 (Nat.le_of_ble_eq_true rfl) (Nat.le_of_ble_eq_true rfl) ?_
  refine Ev.aload_n (k := 0) (pc' := 5) dX12_init_4 rfl rfl rfl ?_
  refine Ev.sipush (v := 1700) (pc' := 8) dX12_init_5 rfl (by decide) ?_
  refine Ev.newA' 0 (N := 1700) (pc' := 10) dX12_init_8 rfl rfl (fun _ _ h9 => h9) acl_int ni_1700 (by decide) rfl ⟨by decide, ark_121.1, ark_121.2⟩ (by decide) rfl (by decide) (by decide) (by decide) (by exact hI _ (by decide)) (by exact hL _ (by decide)) ?_
  refine Ev.putR (pc' := 13) dX12_init_10 rfl fa_RX12_7 ⟨by decide, obk_120.1, obk_120.2⟩ fk_12_0 (Or.inr ⟨rfl, rfl⟩) (fun _ => rfl) (fun _ => rfl) ?_
  refine Ev.aload_n (k := 0) (pc' := 14) dX12_init_13 rfl rfl rfl ?_
  refine Ev.iconst (v := (-1)) (pc' := 15) dX12_init_14 rfl (by decide) ?_
  refine Ev.putI (pc' := 18) dX12_init_15 rfl fa_RX12_13 ⟨by decide, obk_120.1, obk_120.2⟩ fk_12_3 rfl rfl (fun I1 e1 => ?_)
  subst e1
  refine Ev.aload_n (k := 0) (pc' := 19) dX12_init_18 rfl rfl rfl ?_
  refine Ev.sipush (v := 640) (pc' := 22) dX12_init_19 rfl (by decide) ?_
  refine Ev.newA' 0 (N := 640) (pc' := 24) dX12_init_22 rfl rfl (fun _ _ h9 => h9) acl_int ni_640 (by decide) rfl ⟨by decide, ark_122.1, ark_122.2⟩ (by decide) rfl (by decide) (by decide) (by decide) (by rw [pu_ne _ _ _ (by decide)]; exact hI _ (by decide)) (by exact hL _ (by decide)) ?_
  refine Ev.putR (pc' := 27) dX12_init_24 rfl fa_RX12_17 ⟨by decide, obk_120.1, obk_120.2⟩ fk_12_10 (Or.inr ⟨rfl, rfl⟩) (fun _ => rfl) (fun _ => rfl) ?_
  refine Ev.aload_n (k := 0) (pc' := 28) dX12_init_27 rfl rfl rfl ?_
  refine Ev.sipush (v := 640) (pc' := 31) dX12_init_28 rfl (by decide) ?_
  refine Ev.newA' 0 (N := 640) (pc' := 33) dX12_init_31 rfl rfl (fun _ _ h9 => h9) acl_int ni_640 (by decide) rfl ⟨by decide, ark_123.1, ark_123.2⟩ (by decide) rfl (by decide) (by decide) (by decide) (by rw [pu_ne _ _ _ (by decide)]; exact hI _ (by decide)) (by exact hL _ (by decide)) ?_
  refine Ev.putR (pc' := 36) dX12_init_33 rfl fa_RX12_20 ⟨by decide, obk_120.1, obk_120.2⟩ fk_12_11 (Or.inr ⟨rfl, rfl⟩) (fun _ => rfl) (fun _ => rfl) ?_
  refine Ev.aload_n (k := 0) (pc' := 37) dX12_init_36 rfl rfl rfl ?_
  refine Ev.bipush (v := 7) (pc' := 39) dX12_init_37 rfl (by decide) ?_
  refine Ev.newA' 0 (N := 7) (pc' := 41) dX12_init_39 rfl rfl (fun _ _ h9 => h9) acl_int ni_7 (by decide) rfl ⟨by decide, ark_124.1, ark_124.2⟩ (by decide) rfl (by decide) (by decide) (by decide) (by rw [pu_ne _ _ _ (by decide)]; exact hI _ (by decide)) (by exact hL _ (by decide)) ?_
  refine Ev.putR (pc' := 44) dX12_init_41 rfl fa_RX12_23 ⟨by decide, obk_120.1, obk_120.2⟩ fk_12_12 (Or.inr ⟨rfl, rfl⟩) (fun _ => rfl) (fun _ => rfl) ?_
  refine Ev.aload_n (k := 0) (pc' := 45) dX12_init_44 rfl rfl rfl ?_
  refine Ev.sipush (v := 640) (pc' := 48) dX12_init_45 rfl (by decide) ?_
  refine Ev.newA' 0 (N := 640) (pc' := 50) dX12_init_48 rfl rfl (fun _ _ h9 => h9) acl_int ni_640 (by decide) rfl ⟨by decide, ark_125.1, ark_125.2⟩ (by decide) rfl (by decide) (by decide) (by decide) (by rw [pu_ne _ _ _ (by decide)]; exact hI _ (by decide)) (by exact hL _ (by decide)) ?_
  refine Ev.putR (pc' := 53) dX12_init_50 rfl fa_RX12_26 ⟨by decide, obk_120.1, obk_120.2⟩ fk_12_13 (Or.inr ⟨rfl, rfl⟩) (fun _ => rfl) (fun _ => rfl) ?_
  refine Ev.aload_n (k := 0) (pc' := 54) dX12_init_53 rfl rfl rfl ?_
  refine Ev.sipush (v := 640) (pc' := 57) dX12_init_54 rfl (by decide) ?_
  refine Ev.newA' 0 (N := 640) (pc' := 59) dX12_init_57 rfl rfl (fun _ _ h9 => h9) acl_int ni_640 (by decide) rfl ⟨by decide, ark_126.1, ark_126.2⟩ (by decide) rfl (by decide) (by decide) (by decide) (by rw [pu_ne _ _ _ (by decide)]; exact hI _ (by decide)) (by exact hL _ (by decide)) ?_
  refine Ev.putR (pc' := 62) dX12_init_59 rfl fa_RX12_29 ⟨by decide, obk_120.1, obk_120.2⟩ fk_12_14 (Or.inr ⟨rfl, rfl⟩) (fun _ => rfl) (fun _ => rfl) ?_
  refine Ev.aload_n (k := 0) (pc' := 63) dX12_init_62 rfl rfl rfl ?_
  refine Ev.bipush (v := 7) (pc' := 65) dX12_init_63 rfl (by decide) ?_
  refine Ev.newA' 0 (N := 7) (pc' := 67) dX12_init_65 rfl rfl (fun _ _ h9 => h9) acl_int ni_7 (by decide) rfl ⟨by decide, ark_127.1, ark_127.2⟩ (by decide) rfl (by decide) (by decide) (by decide) (by rw [pu_ne _ _ _ (by decide)]; exact hI _ (by decide)) (by exact hL _ (by decide)) ?_
  refine Ev.putR (pc' := 70) dX12_init_67 rfl fa_RX12_32 ⟨by decide, obk_120.1, obk_120.2⟩ fk_12_15 (Or.inr ⟨rfl, rfl⟩) (fun _ => rfl) (fun _ => rfl) ?_
  refine Ev.aload_n (k := 0) (pc' := 71) dX12_init_70 rfl rfl rfl ?_
  refine Ev.sipush (v := 300) (pc' := 74) dX12_init_71 rfl (by decide) ?_
  refine Ev.newA' 0 (N := 300) (pc' := 76) dX12_init_74 rfl rfl (fun _ _ h9 => h9) acl_int ni_300 (by decide) rfl ⟨by decide, ark_128.1, ark_128.2⟩ (by decide) rfl (by decide) (by decide) (by decide) (by rw [pu_ne _ _ _ (by decide)]; exact hI _ (by decide)) (by exact hL _ (by decide)) ?_
  refine Ev.putR (pc' := 79) dX12_init_76 rfl fa_RX12_35 ⟨by decide, obk_120.1, obk_120.2⟩ fk_12_16 (Or.inr ⟨rfl, rfl⟩) (fun _ => rfl) (fun _ => rfl) ?_
  refine Ev.aload_n (k := 0) (pc' := 80) dX12_init_79 rfl rfl rfl ?_
  refine Ev.bipush (v := 90) (pc' := 82) dX12_init_80 rfl (by decide) ?_
  refine Ev.newA' 0 (N := 90) (pc' := 84) dX12_init_82 rfl rfl (fun _ _ h9 => h9) acl_int ni_90 (by decide) rfl ⟨by decide, ark_129.1, ark_129.2⟩ (by decide) rfl (by decide) (by decide) (by decide) (by rw [pu_ne _ _ _ (by decide)]; exact hI _ (by decide)) (by exact hL _ (by decide)) ?_
  refine Ev.putR (pc' := 87) dX12_init_84 rfl fa_RX12_38 ⟨by decide, obk_120.1, obk_120.2⟩ fk_12_17 (Or.inr ⟨rfl, rfl⟩) (fun _ => rfl) (fun _ => rfl) ?_
  refine Ev.aload_n (k := 0) (pc' := 88) dX12_init_87 rfl rfl rfl ?_
  refine Ev.bipush (v := 12) (pc' := 90) dX12_init_88 rfl (by decide) ?_
  refine Ev.newA' 0 (N := 12) (pc' := 92) dX12_init_90 rfl rfl (fun _ _ h9 => h9) acl_int ni_12 (by decide) rfl ⟨by decide, ark_130.1, ark_130.2⟩ (by decide) rfl (by decide) (by decide) (by decide) (by rw [pu_ne _ _ _ (by decide)]; exact hI _ (by decide)) (by exact hL _ (by decide)) ?_
  refine Ev.putR (pc' := 95) dX12_init_92 rfl fa_RX12_41 ⟨by decide, obk_120.1, obk_120.2⟩ fk_12_18 (Or.inr ⟨rfl, rfl⟩) (fun _ => rfl) (fun _ => rfl) ?_
  refine Ev.aload_n (k := 0) (pc' := 96) dX12_init_95 rfl rfl rfl ?_
  refine Ev.bipush (v := 8) (pc' := 98) dX12_init_96 rfl (by decide) ?_
  refine Ev.newA' 1 (N := 8) (pc' := 100) dX12_init_98 rfl rfl (fun _ _ h9 => h9) acl_long ni_8 (by decide) rfl ⟨by decide, ark_131.1, ark_131.2⟩ (by decide) rfl (by decide) (by decide) (by decide) (by rw [pu_ne _ _ _ (by decide)]; exact hI _ (by decide)) (by exact hL _ (by decide)) ?_
  refine Ev.putR (pc' := 103) dX12_init_100 rfl fa_RX12_44 ⟨by decide, obk_120.1, obk_120.2⟩ fk_12_24 (Or.inr ⟨rfl, rfl⟩) (fun _ => rfl) (fun _ => rfl) ?_
  refine Ev.aload_n (k := 0) (pc' := 104) dX12_init_103 rfl rfl rfl ?_
  refine Ev.bipush (v := 10) (pc' := 106) dX12_init_104 rfl (by decide) ?_
  refine Ev.newA' 1 (N := 10) (pc' := 108) dX12_init_106 rfl rfl (fun _ _ h9 => h9) acl_long ni_10 (by decide) rfl ⟨by decide, ark_132.1, ark_132.2⟩ (by decide) rfl (by decide) (by decide) (by decide) (by rw [pu_ne _ _ _ (by decide)]; exact hI _ (by decide)) (by exact hL _ (by decide)) ?_
  refine Ev.putR (pc' := 111) dX12_init_108 rfl fa_RX12_48 ⟨by decide, obk_120.1, obk_120.2⟩ fk_12_25 (Or.inr ⟨rfl, rfl⟩) (fun _ => rfl) (fun _ => rfl) ?_
  refine Ev.aload_n (k := 0) (pc' := 112) dX12_init_111 rfl rfl rfl ?_
  refine Ev.bipush (v := 6) (pc' := 114) dX12_init_112 rfl (by decide) ?_
  refine Ev.newA' 1 (N := 6) (pc' := 116) dX12_init_114 rfl rfl (fun _ _ h9 => h9) acl_long ni_6 (by decide) rfl ⟨by decide, ark_133.1, ark_133.2⟩ (by decide) rfl (by decide) (by decide) (by decide) (by rw [pu_ne _ _ _ (by decide)]; exact hI _ (by decide)) (by exact hL _ (by decide)) ?_
  refine Ev.putR (pc' := 119) dX12_init_116 rfl fa_RX12_51 ⟨by decide, obk_120.1, obk_120.2⟩ fk_12_26 (Or.inr ⟨rfl, rfl⟩) (fun _ => rfl) (fun _ => rfl) ?_
  refine Ev.aload_n (k := 0) (pc' := 120) dX12_init_119 rfl rfl rfl ?_
  refine Ev.bipush (v := 8) (pc' := 122) dX12_init_120 rfl (by decide) ?_
  refine Ev.newA' 0 (N := 8) (pc' := 124) dX12_init_122 rfl rfl (fun _ _ h9 => h9) acl_int ni_8 (by decide) rfl ⟨by decide, ark_134.1, ark_134.2⟩ (by decide) rfl (by decide) (by decide) (by decide) (by rw [pu_ne _ _ _ (by decide)]; exact hI _ (by decide)) (by exact hL _ (by decide)) ?_
  refine Ev.putR (pc' := 127) dX12_init_124 rfl fa_RX12_54 ⟨by decide, obk_120.1, obk_120.2⟩ fk_12_27 (Or.inr ⟨rfl, rfl⟩) (fun _ => rfl) (fun _ => rfl) ?_
  refine Ev.aload_n (k := 0) (pc' := 128) dX12_init_127 rfl rfl rfl ?_
  refine Ev.bipush (v := 64) (pc' := 130) dX12_init_128 rfl (by decide) ?_
  refine Ev.newA' 0 (N := 64) (pc' := 132) dX12_init_130 rfl rfl (fun _ _ h9 => h9) acl_int ni_64 (by decide) rfl ⟨by decide, ark_135.1, ark_135.2⟩ (by decide) rfl (by decide) (by decide) (by decide) (by rw [pu_ne _ _ _ (by decide)]; exact hI _ (by decide)) (by exact hL _ (by decide)) ?_
  refine Ev.putR (pc' := 135) dX12_init_132 rfl fa_RX12_57 ⟨by decide, obk_120.1, obk_120.2⟩ fk_12_28 (Or.inr ⟨rfl, rfl⟩) (fun _ => rfl) (fun _ => rfl) ?_
  refine Ev.aload_n (k := 0) (pc' := 136) dX12_init_135 rfl rfl rfl ?_
  refine Ev.bipush (v := 50) (pc' := 138) dX12_init_136 rfl (by decide) ?_
  refine Ev.newA' 0 (N := 50) (pc' := 140) dX12_init_138 rfl rfl (fun _ _ h9 => h9) acl_int ni_50 (by decide) rfl ⟨by decide, ark_136.1, ark_136.2⟩ (by decide) rfl (by decide) (by decide) (by decide) (by rw [pu_ne _ _ _ (by decide)]; exact hI _ (by decide)) (by exact hL _ (by decide)) ?_
  refine Ev.putR (pc' := 143) dX12_init_140 rfl fa_RX12_60 ⟨by decide, obk_120.1, obk_120.2⟩ fk_12_29 (Or.inr ⟨rfl, rfl⟩) (fun _ => rfl) (fun _ => rfl) ?_
  refine Ev.aload_n (k := 0) (pc' := 144) dX12_init_143 rfl rfl rfl ?_
  refine Ev.bipush (v := 24) (pc' := 146) dX12_init_144 rfl (by decide) ?_
  refine Ev.newA' 0 (N := 24) (pc' := 148) dX12_init_146 rfl rfl (fun _ _ h9 => h9) acl_int ni_24 (by decide) rfl ⟨by decide, ark_137.1, ark_137.2⟩ (by decide) rfl (by decide) (by decide) (by decide) (by rw [pu_ne _ _ _ (by decide)]; exact hI _ (by decide)) (by exact hL _ (by decide)) ?_
  refine Ev.putR (pc' := 151) dX12_init_148 rfl fa_RX12_63 ⟨by decide, obk_120.1, obk_120.2⟩ fk_12_30 (Or.inr ⟨rfl, rfl⟩) (fun _ => rfl) (fun _ => rfl) ?_
  refine Ev.aload_n (k := 0) (pc' := 152) dX12_init_151 rfl rfl rfl ?_
  refine Ev.bipush (v := 8) (pc' := 154) dX12_init_152 rfl (by decide) ?_
  refine Ev.newA' 0 (N := 8) (pc' := 156) dX12_init_154 rfl rfl (fun _ _ h9 => h9) acl_int ni_8 (by decide) rfl ⟨by decide, ark_138.1, ark_138.2⟩ (by decide) rfl (by decide) (by decide) (by decide) (by rw [pu_ne _ _ _ (by decide)]; exact hI _ (by decide)) (by exact hL _ (by decide)) ?_
  refine Ev.putR (pc' := 159) dX12_init_156 rfl fa_RX12_66 ⟨by decide, obk_120.1, obk_120.2⟩ fk_12_31 (Or.inr ⟨rfl, rfl⟩) (fun _ => rfl) (fun _ => rfl) ?_
  refine Ev.aload_n (k := 0) (pc' := 160) dX12_init_159 rfl rfl rfl ?_
  refine Ev.bipush (v := 64) (pc' := 162) dX12_init_160 rfl (by decide) ?_
  refine Ev.newA' 0 (N := 64) (pc' := 164) dX12_init_162 rfl rfl (fun _ _ h9 => h9) acl_int ni_64 (by decide) rfl ⟨by decide, ark_139.1, ark_139.2⟩ (by decide) rfl (by decide) (by decide) (by decide) (by rw [pu_ne _ _ _ (by decide)]; exact hI _ (by decide)) (by exact hL _ (by decide)) ?_
  refine Ev.putR (pc' := 167) dX12_init_164 rfl fa_RX12_69 ⟨by decide, obk_120.1, obk_120.2⟩ fk_12_32 (Or.inr ⟨rfl, rfl⟩) (fun _ => rfl) (fun _ => rfl) ?_
  refine Ev.aload_n (k := 0) (pc' := 168) dX12_init_167 rfl rfl rfl ?_
  refine Ev.bipush (v := 64) (pc' := 170) dX12_init_168 rfl (by decide) ?_
  refine Ev.newA' 0 (N := 64) (pc' := 172) dX12_init_170 rfl rfl (fun _ _ h9 => h9) acl_int ni_64 (by decide) rfl ⟨by decide, ark_140.1, ark_140.2⟩ (by decide) rfl (by decide) (by decide) (by decide) (by rw [pu_ne _ _ _ (by decide)]; exact hI _ (by decide)) (by exact hL _ (by decide)) ?_
  refine Ev.putR (pc' := 175) dX12_init_172 rfl fa_RX12_72 ⟨by decide, obk_120.1, obk_120.2⟩ fk_12_33 (Or.inr ⟨rfl, rfl⟩) (fun _ => rfl) (fun _ => rfl) ?_
  refine Ev.aload_n (k := 0) (pc' := 176) dX12_init_175 rfl rfl rfl ?_
  refine Ev.bipush (v := 50) (pc' := 178) dX12_init_176 rfl (by decide) ?_
  refine Ev.newA' 0 (N := 50) (pc' := 180) dX12_init_178 rfl rfl (fun _ _ h9 => h9) acl_int ni_50 (by decide) rfl ⟨by decide, ark_141.1, ark_141.2⟩ (by decide) rfl (by decide) (by decide) (by decide) (by rw [pu_ne _ _ _ (by decide)]; exact hI _ (by decide)) (by exact hL _ (by decide)) ?_
  refine Ev.putR (pc' := 183) dX12_init_180 rfl fa_RX12_75 ⟨by decide, obk_120.1, obk_120.2⟩ fk_12_34 (Or.inr ⟨rfl, rfl⟩) (fun _ => rfl) (fun _ => rfl) ?_
  refine Ev.aload_n (k := 0) (pc' := 184) dX12_init_183 rfl rfl rfl ?_
  refine Ev.bipush (v := 24) (pc' := 186) dX12_init_184 rfl (by decide) ?_
  refine Ev.newA' 0 (N := 24) (pc' := 188) dX12_init_186 rfl rfl (fun _ _ h9 => h9) acl_int ni_24 (by decide) rfl ⟨by decide, ark_142.1, ark_142.2⟩ (by decide) rfl (by decide) (by decide) (by decide) (by rw [pu_ne _ _ _ (by decide)]; exact hI _ (by decide)) (by exact hL _ (by decide)) ?_
  refine Ev.putR (pc' := 191) dX12_init_188 rfl fa_RX12_78 ⟨by decide, obk_120.1, obk_120.2⟩ fk_12_35 (Or.inr ⟨rfl, rfl⟩) (fun _ => rfl) (fun _ => rfl) ?_
  refine Ev.aload_n (k := 0) (pc' := 192) dX12_init_191 rfl rfl rfl ?_
  refine Ev.bipush (v := 10) (pc' := 194) dX12_init_192 rfl (by decide) ?_
  refine Ev.newA' 0 (N := 10) (pc' := 196) dX12_init_194 rfl rfl (fun _ _ h9 => h9) acl_int ni_10 (by decide) rfl ⟨by decide, ark_143.1, ark_143.2⟩ (by decide) rfl (by decide) (by decide) (by decide) (by rw [pu_ne _ _ _ (by decide)]; exact hI _ (by decide)) (by exact hL _ (by decide)) ?_
  refine Ev.putR (pc' := 199) dX12_init_196 rfl fa_RX12_81 ⟨by decide, obk_120.1, obk_120.2⟩ fk_12_50 (Or.inr ⟨rfl, rfl⟩) (fun _ => rfl) (fun _ => rfl) ?_
  refine Ev.aload_n (k := 0) (pc' := 200) dX12_init_199 rfl rfl rfl ?_
  refine Ev.bipush (v := 10) (pc' := 202) dX12_init_200 rfl (by decide) ?_
  refine Ev.newA' 0 (N := 10) (pc' := 204) dX12_init_202 rfl rfl (fun _ _ h9 => h9) acl_int ni_10 (by decide) rfl ⟨by decide, ark_144.1, ark_144.2⟩ (by decide) rfl (by decide) (by decide) (by decide) (by rw [pu_ne _ _ _ (by decide)]; exact hI _ (by decide)) (by exact hL _ (by decide)) ?_
  refine Ev.putR (pc' := 207) dX12_init_204 rfl fa_RX12_84 ⟨by decide, obk_120.1, obk_120.2⟩ fk_12_51 (Or.inr ⟨rfl, rfl⟩) (fun _ => rfl) (fun _ => rfl) ?_
  refine Ev.aload_n (k := 0) (pc' := 208) dX12_init_207 rfl rfl rfl ?_
  refine Ev.bipush (v := 10) (pc' := 210) dX12_init_208 rfl (by decide) ?_
  refine Ev.newA' 0 (N := 10) (pc' := 212) dX12_init_210 rfl rfl (fun _ _ h9 => h9) acl_int ni_10 (by decide) rfl ⟨by decide, ark_145.1, ark_145.2⟩ (by decide) rfl (by decide) (by decide) (by decide) (by rw [pu_ne _ _ _ (by decide)]; exact hI _ (by decide)) (by exact hL _ (by decide)) ?_
  refine Ev.putR (pc' := 215) dX12_init_212 rfl fa_RX12_87 ⟨by decide, obk_120.1, obk_120.2⟩ fk_12_52 (Or.inr ⟨rfl, rfl⟩) (fun _ => rfl) (fun _ => rfl) ?_
  refine Ev.aload_n (k := 0) (pc' := 216) dX12_init_215 rfl rfl rfl ?_
  refine Ev.bipush (v := 10) (pc' := 218) dX12_init_216 rfl (by decide) ?_
  refine Ev.newA' 0 (N := 10) (pc' := 220) dX12_init_218 rfl rfl (fun _ _ h9 => h9) acl_int ni_10 (by decide) rfl ⟨by decide, ark_146.1, ark_146.2⟩ (by decide) rfl (by decide) (by decide) (by decide) (by rw [pu_ne _ _ _ (by decide)]; exact hI _ (by decide)) (by exact hL _ (by decide)) ?_
  refine Ev.putR (pc' := 223) dX12_init_220 rfl fa_RX12_90 ⟨by decide, obk_120.1, obk_120.2⟩ fk_12_53 (Or.inr ⟨rfl, rfl⟩) (fun _ => rfl) (fun _ => rfl) ?_
  refine Ev.aload_n (k := 0) (pc' := 224) dX12_init_223 rfl rfl rfl ?_
  refine Ev.bipush (v := 6) (pc' := 226) dX12_init_224 rfl (by decide) ?_
  refine Ev.newA' 0 (N := 6) (pc' := 228) dX12_init_226 rfl rfl (fun _ _ h9 => h9) acl_int ni_6 (by decide) rfl ⟨by decide, ark_147.1, ark_147.2⟩ (by decide) rfl (by decide) (by decide) (by decide) (by rw [pu_ne _ _ _ (by decide)]; exact hI _ (by decide)) (by exact hL _ (by decide)) ?_
  refine Ev.putR (pc' := 231) dX12_init_228 rfl fa_RX12_93 ⟨by decide, obk_120.1, obk_120.2⟩ fk_12_54 (Or.inr ⟨rfl, rfl⟩) (fun _ => rfl) (fun _ => rfl) ?_
  refine Ev.aload_n (k := 0) (pc' := 232) dX12_init_231 rfl rfl rfl ?_
  refine Ev.bipush (v := 6) (pc' := 234) dX12_init_232 rfl (by decide) ?_
  refine Ev.newA' 0 (N := 6) (pc' := 236) dX12_init_234 rfl rfl (fun _ _ h9 => h9) acl_int ni_6 (by decide) rfl ⟨by decide, ark_148.1, ark_148.2⟩ (by decide) rfl (by decide) (by decide) (by decide) (by rw [pu_ne _ _ _ (by decide)]; exact hI _ (by decide)) (by exact hL _ (by decide)) ?_
  refine Ev.putR (pc' := 239) dX12_init_236 rfl fa_RX12_96 ⟨by decide, obk_120.1, obk_120.2⟩ fk_12_55 (Or.inr ⟨rfl, rfl⟩) (fun _ => rfl) (fun _ => rfl) ?_
  refine Ev.aload_n (k := 0) (pc' := 240) dX12_init_239 rfl rfl rfl ?_
  refine Ev.bipush (v := 10) (pc' := 242) dX12_init_240 rfl (by decide) ?_
  refine Ev.newA' 2 (N := 10) (pc' := 244) dX12_init_242 rfl rfl (fun _ _ h9 => h9) acl_boolean ni_10 (by decide) rfl ⟨by decide, ark_149.1, ark_149.2⟩ (by decide) rfl (by decide) (by decide) (by decide) (by rw [pu_ne _ _ _ (by decide)]; exact hI _ (by decide)) (by exact hL _ (by decide)) ?_
  refine Ev.putR (pc' := 247) dX12_init_244 rfl fa_RX12_99 ⟨by decide, obk_120.1, obk_120.2⟩ fk_12_56 (Or.inr ⟨rfl, rfl⟩) (fun _ => rfl) (fun _ => rfl) ?_
  refine Ev.aload_n (k := 0) (pc' := 248) dX12_init_247 rfl rfl rfl ?_
  refine Ev.iconst (v := 1) (pc' := 249) dX12_init_248 rfl (by decide) ?_
  refine Ev.putI (pc' := 252) dX12_init_249 rfl fa_RX12_103 ⟨by decide, obk_120.1, obk_120.2⟩ fk_12_58 rfl rfl (fun I1 e1 => ?_)
  subst e1
  refine Ev.aload_n (k := 0) (pc' := 253) dX12_init_252 rfl rfl rfl ?_
  refine Ev.sipush (v := 610) (pc' := 256) dX12_init_253 rfl (by decide) ?_
  refine Ev.newA' 0 (N := 610) (pc' := 258) dX12_init_256 rfl rfl (fun _ _ h9 => h9) acl_int ni_610 (by decide) rfl ⟨by decide, ark_150.1, ark_150.2⟩ (by decide) rfl (by decide) (by decide) (by decide) (by rw [pu_ne _ _ _ (by decide), pu_ne _ _ _ (by decide)]; exact hI _ (by decide)) (by exact hL _ (by decide)) ?_
  refine Ev.putR (pc' := 261) dX12_init_258 rfl fa_RX12_106 ⟨by decide, obk_120.1, obk_120.2⟩ fk_12_60 (Or.inr ⟨rfl, rfl⟩) (fun _ => rfl) (fun _ => rfl) ?_
  refine Ev.aload_n (k := 0) (pc' := 262) dX12_init_261 rfl rfl rfl ?_
  refine Ev.bipush (v := 10) (pc' := 264) dX12_init_262 rfl (by decide) ?_
  refine Ev.newA' 0 (N := 10) (pc' := 266) dX12_init_264 rfl rfl (fun _ _ h9 => h9) acl_int ni_10 (by decide) rfl ⟨by decide, ark_151.1, ark_151.2⟩ (by decide) rfl (by decide) (by decide) (by decide) (by rw [pu_ne _ _ _ (by decide), pu_ne _ _ _ (by decide)]; exact hI _ (by decide)) (by exact hL _ (by decide)) ?_
  refine Ev.putR (pc' := 269) dX12_init_266 rfl fa_RX12_109 ⟨by decide, obk_120.1, obk_120.2⟩ fk_12_61 (Or.inr ⟨rfl, rfl⟩) (fun _ => rfl) (fun _ => rfl) ?_
  refine Ev.aload_n (k := 0) (pc' := 270) dX12_init_269 rfl rfl rfl ?_
  refine Ev.bipush (v := 10) (pc' := 272) dX12_init_270 rfl (by decide) ?_
  refine Ev.newA' 0 (N := 10) (pc' := 274) dX12_init_272 rfl rfl (fun _ _ h9 => h9) acl_int ni_10 (by decide) rfl ⟨by decide, ark_152.1, ark_152.2⟩ (by decide) rfl (by decide) (by decide) (by decide) (by rw [pu_ne _ _ _ (by decide), pu_ne _ _ _ (by decide)]; exact hI _ (by decide)) (by exact hL _ (by decide)) ?_
  refine Ev.putR (pc' := 277) dX12_init_274 rfl fa_RX12_112 ⟨by decide, obk_120.1, obk_120.2⟩ fk_12_62 (Or.inr ⟨rfl, rfl⟩) (fun _ => rfl) (fun _ => rfl) ?_
  refine Ev.aload_n (k := 0) (pc' := 278) dX12_init_277 rfl rfl rfl ?_
  refine Ev.bipush (v := 10) (pc' := 280) dX12_init_278 rfl (by decide) ?_
  refine Ev.newA' 0 (N := 10) (pc' := 282) dX12_init_280 rfl rfl (fun _ _ h9 => h9) acl_int ni_10 (by decide) rfl ⟨by decide, ark_153.1, ark_153.2⟩ (by decide) rfl (by decide) (by decide) (by decide) (by rw [pu_ne _ _ _ (by decide), pu_ne _ _ _ (by decide)]; exact hI _ (by decide)) (by exact hL _ (by decide)) ?_
  refine Ev.putR (pc' := 285) dX12_init_282 rfl fa_RX12_115 ⟨by decide, obk_120.1, obk_120.2⟩ fk_12_63 (Or.inr ⟨rfl, rfl⟩) (fun _ => rfl) (fun _ => rfl) ?_
  refine Ev.aload_n (k := 0) (pc' := 286) dX12_init_285 rfl rfl rfl ?_
  refine Ev.bipush (v := 6) (pc' := 288) dX12_init_286 rfl (by decide) ?_
  refine Ev.newA' 0 (N := 6) (pc' := 290) dX12_init_288 rfl rfl (fun _ _ h9 => h9) acl_int ni_6 (by decide) rfl ⟨by decide, ark_154.1, ark_154.2⟩ (by decide) rfl (by decide) (by decide) (by decide) (by rw [pu_ne _ _ _ (by decide), pu_ne _ _ _ (by decide)]; exact hI _ (by decide)) (by exact hL _ (by decide)) ?_
  refine Ev.putR (pc' := 293) dX12_init_290 rfl fa_RX12_118 ⟨by decide, obk_120.1, obk_120.2⟩ fk_12_64 (Or.inr ⟨rfl, rfl⟩) (fun _ => rfl) (fun _ => rfl) ?_
  refine Ev.aload_n (k := 0) (pc' := 294) dX12_init_293 rfl rfl rfl ?_
  refine Ev.bipush (v := 6) (pc' := 296) dX12_init_294 rfl (by decide) ?_
  refine Ev.newA' 0 (N := 6) (pc' := 298) dX12_init_296 rfl rfl (fun _ _ h9 => h9) acl_int ni_6 (by decide) rfl ⟨by decide, ark_155.1, ark_155.2⟩ (by decide) rfl (by decide) (by decide) (by decide) (by rw [pu_ne _ _ _ (by decide), pu_ne _ _ _ (by decide)]; exact hI _ (by decide)) (by exact hL _ (by decide)) ?_
  refine Ev.putR (pc' := 301) dX12_init_298 rfl fa_RX12_121 ⟨by decide, obk_120.1, obk_120.2⟩ fk_12_65 (Or.inr ⟨rfl, rfl⟩) (fun _ => rfl) (fun _ => rfl) ?_
  refine Ev.aload_n (k := 0) (pc' := 302) dX12_init_301 rfl rfl rfl ?_
  refine Ev.bipush (v := 10) (pc' := 304) dX12_init_302 rfl (by decide) ?_
  refine Ev.newA' 2 (N := 10) (pc' := 306) dX12_init_304 rfl rfl (fun _ _ h9 => h9) acl_boolean ni_10 (by decide) rfl ⟨by decide, ark_156.1, ark_156.2⟩ (by decide) rfl (by decide) (by decide) (by decide) (by rw [pu_ne _ _ _ (by decide), pu_ne _ _ _ (by decide)]; exact hI _ (by decide)) (by exact hL _ (by decide)) ?_
  refine Ev.putR (pc' := 309) dX12_init_306 rfl fa_RX12_124 ⟨by decide, obk_120.1, obk_120.2⟩ fk_12_66 (Or.inr ⟨rfl, rfl⟩) (fun _ => rfl) (fun _ => rfl) ?_
  refine Ev.aload_n (k := 0) (pc' := 310) dX12_init_309 rfl rfl rfl ?_
  refine Ev.bipush (v := 10) (pc' := 312) dX12_init_310 rfl (by decide) ?_
  refine Ev.newA' 0 (N := 10) (pc' := 314) dX12_init_312 rfl rfl (fun _ _ h9 => h9) acl_int ni_10 (by decide) rfl ⟨by decide, ark_157.1, ark_157.2⟩ (by decide) rfl (by decide) (by decide) (by decide) (by rw [pu_ne _ _ _ (by decide), pu_ne _ _ _ (by decide)]; exact hI _ (by decide)) (by exact hL _ (by decide)) ?_
  refine Ev.putR (pc' := 317) dX12_init_314 rfl fa_RX12_127 ⟨by decide, obk_120.1, obk_120.2⟩ fk_12_71 (Or.inr ⟨rfl, rfl⟩) (fun _ => rfl) (fun _ => rfl) ?_
  refine Ev.aload_n (k := 0) (pc' := 318) dX12_init_317 rfl rfl rfl ?_
  refine Ev.bipush (v := 10) (pc' := 320) dX12_init_318 rfl (by decide) ?_
  refine Ev.newA' 0 (N := 10) (pc' := 322) dX12_init_320 rfl rfl (fun _ _ h9 => h9) acl_int ni_10 (by decide) rfl ⟨by decide, ark_158.1, ark_158.2⟩ (by decide) rfl (by decide) (by decide) (by decide) (by rw [pu_ne _ _ _ (by decide), pu_ne _ _ _ (by decide)]; exact hI _ (by decide)) (by exact hL _ (by decide)) ?_
  refine Ev.putR (pc' := 325) dX12_init_322 rfl fa_RX12_130 ⟨by decide, obk_120.1, obk_120.2⟩ fk_12_72 (Or.inr ⟨rfl, rfl⟩) (fun _ => rfl) (fun _ => rfl) ?_
  refine Ev.aload_n (k := 0) (pc' := 326) dX12_init_325 rfl rfl rfl ?_
  refine Ev.bipush (v := 6) (pc' := 328) dX12_init_326 rfl (by decide) ?_
  refine Ev.newA' 0 (N := 6) (pc' := 330) dX12_init_328 rfl rfl (fun _ _ h9 => h9) acl_int ni_6 (by decide) rfl ⟨by decide, ark_159.1, ark_159.2⟩ (by decide) rfl (by decide) (by decide) (by decide) (by rw [pu_ne _ _ _ (by decide), pu_ne _ _ _ (by decide)]; exact hI _ (by decide)) (by exact hL _ (by decide)) ?_
  refine Ev.putR (pc' := 333) dX12_init_330 rfl fa_RX12_133 ⟨by decide, obk_120.1, obk_120.2⟩ fk_12_73 (Or.inr ⟨rfl, rfl⟩) (fun _ => rfl) (fun _ => rfl) ?_
  refine Ev.aload_n (k := 0) (pc' := 334) dX12_init_333 rfl rfl rfl ?_
  refine Ev.bipush (v := 6) (pc' := 336) dX12_init_334 rfl (by decide) ?_
  refine Ev.newA' 0 (N := 6) (pc' := 338) dX12_init_336 rfl rfl (fun _ _ h9 => h9) acl_int ni_6 (by decide) rfl ⟨by decide, ark_160.1, ark_160.2⟩ (by decide) rfl (by decide) (by decide) (by decide) (by rw [pu_ne _ _ _ (by decide), pu_ne _ _ _ (by decide)]; exact hI _ (by decide)) (by exact hL _ (by decide)) ?_
  refine Ev.putR (pc' := 341) dX12_init_338 rfl fa_RX12_136 ⟨by decide, obk_120.1, obk_120.2⟩ fk_12_74 (Or.inr ⟨rfl, rfl⟩) (fun _ => rfl) (fun _ => rfl) ?_
  refine Ev.aload_n (k := 0) (pc' := 342) dX12_init_341 rfl rfl rfl ?_
  refine Ev.iconst (v := (-1)) (pc' := 343) dX12_init_342 rfl (by decide) ?_
  refine Ev.putI (pc' := 346) dX12_init_343 rfl fa_RX12_139 ⟨by decide, obk_120.1, obk_120.2⟩ fk_12_76 rfl rfl (fun I1 e1 => ?_)
  subst e1
  refine Ev.aload_n (k := 0) (pc' := 347) dX12_init_346 rfl rfl rfl ?_
  refine Ev.bipush (v := 101) (pc' := 349) dX12_init_347 rfl (by decide) ?_
  refine Ev.newA' 1 (N := 101) (pc' := 351) dX12_init_349 rfl rfl (fun _ _ h9 => h9) acl_long ni_101 (by decide) rfl ⟨by decide, ark_161.1, ark_161.2⟩ (by decide) rfl (by decide) (by decide) (by decide) (by rw [pu_ne _ _ _ (by decide), pu_ne _ _ _ (by decide), pu_ne _ _ _ (by decide)]; exact hI _ (by decide)) (by exact hL _ (by decide)) ?_
  refine Ev.putR (pc' := 354) dX12_init_351 rfl fa_RX12_142 ⟨by decide, obk_120.1, obk_120.2⟩ fk_12_84 (Or.inr ⟨rfl, rfl⟩) (fun _ => rfl) (fun _ => rfl) ?_
  refine Ev.aload_n (k := 0) (pc' := 355) dX12_init_354 rfl rfl rfl ?_
  refine Ev.bipush (v := 101) (pc' := 357) dX12_init_355 rfl (by decide) ?_
  refine Ev.newA' 1 (N := 101) (pc' := 359) dX12_init_357 rfl rfl (fun _ _ h9 => h9) acl_long ni_101 (by decide) rfl ⟨by decide, ark_162.1, ark_162.2⟩ (by decide) rfl (by decide) (by decide) (by decide) (by rw [pu_ne _ _ _ (by decide), pu_ne _ _ _ (by decide), pu_ne _ _ _ (by decide)]; exact hI _ (by decide)) (by exact hL _ (by decide)) ?_
  refine Ev.putR (pc' := 362) dX12_init_359 rfl fa_RX12_145 ⟨by decide, obk_120.1, obk_120.2⟩ fk_12_85 (Or.inr ⟨rfl, rfl⟩) (fun _ => rfl) (fun _ => rfl) ?_
  refine Ev.aload_n (k := 0) (pc' := 363) dX12_init_362 rfl rfl rfl ?_
  refine Ev.bipush (v := 8) (pc' := 365) dX12_init_363 rfl (by decide) ?_
  refine Ev.newA' 0 (N := 8) (pc' := 367) dX12_init_365 rfl rfl (fun _ _ h9 => h9) acl_int ni_8 (by decide) rfl ⟨by decide, ark_163.1, ark_163.2⟩ (by decide) rfl (by decide) (by decide) (by decide) (by rw [pu_ne _ _ _ (by decide), pu_ne _ _ _ (by decide), pu_ne _ _ _ (by decide)]; exact hI _ (by decide)) (by exact hL _ (by decide)) ?_
  refine Ev.putR (pc' := 370) dX12_init_367 rfl fa_RX12_148 ⟨by decide, obk_120.1, obk_120.2⟩ fk_12_87 (Or.inr ⟨rfl, rfl⟩) (fun _ => rfl) (fun _ => rfl) ?_
  refine Ev.aload_n (k := 0) (pc' := 371) dX12_init_370 rfl rfl rfl ?_
  refine Ev.bipush (v := 40) (pc' := 373) dX12_init_371 rfl (by decide) ?_
  refine Ev.newA' 0 (N := 40) (pc' := 375) dX12_init_373 rfl rfl (fun _ _ h9 => h9) acl_int ni_40 (by decide) rfl ⟨by decide, ark_164.1, ark_164.2⟩ (by decide) rfl (by decide) (by decide) (by decide) (by rw [pu_ne _ _ _ (by decide), pu_ne _ _ _ (by decide), pu_ne _ _ _ (by decide)]; exact hI _ (by decide)) (by exact hL _ (by decide)) ?_
  refine Ev.putR (pc' := 378) dX12_init_375 rfl fa_RX12_151 ⟨by decide, obk_120.1, obk_120.2⟩ fk_12_88 (Or.inr ⟨rfl, rfl⟩) (fun _ => rfl) (fun _ => rfl) ?_
  refine Ev.aload_n (k := 0) (pc' := 379) dX12_init_378 rfl rfl rfl ?_
  refine Ev.bipush (v := 40) (pc' := 381) dX12_init_379 rfl (by decide) ?_
  refine Ev.newA' 0 (N := 40) (pc' := 383) dX12_init_381 rfl rfl (fun _ _ h9 => h9) acl_int ni_40 (by decide) rfl ⟨by decide, ark_165.1, ark_165.2⟩ (by decide) rfl (by decide) (by decide) (by decide) (by rw [pu_ne _ _ _ (by decide), pu_ne _ _ _ (by decide), pu_ne _ _ _ (by decide)]; exact hI _ (by decide)) (by exact hL _ (by decide)) ?_
  refine Ev.putR (pc' := 386) dX12_init_383 rfl fa_RX12_154 ⟨by decide, obk_120.1, obk_120.2⟩ fk_12_89 (Or.inr ⟨rfl, rfl⟩) (fun _ => rfl) (fun _ => rfl) ?_
  refine Ev.aload_n (k := 0) (pc' := 387) dX12_init_386 rfl rfl rfl ?_
  refine Ev.bipush (v := 40) (pc' := 389) dX12_init_387 rfl (by decide) ?_
  refine Ev.newA' 0 (N := 40) (pc' := 391) dX12_init_389 rfl rfl (fun _ _ h9 => h9) acl_int ni_40 (by decide) rfl ⟨by decide, ark_166.1, ark_166.2⟩ (by decide) rfl (by decide) (by decide) (by decide) (by rw [pu_ne _ _ _ (by decide), pu_ne _ _ _ (by decide), pu_ne _ _ _ (by decide)]; exact hI _ (by decide)) (by exact hL _ (by decide)) ?_
  refine Ev.putR (pc' := 394) dX12_init_391 rfl fa_RX12_157 ⟨by decide, obk_120.1, obk_120.2⟩ fk_12_90 (Or.inr ⟨rfl, rfl⟩) (fun _ => rfl) (fun _ => rfl) ?_
  refine Ev.aload_n (k := 0) (pc' := 395) dX12_init_394 rfl rfl rfl ?_
  refine Ev.bipush (v := 40) (pc' := 397) dX12_init_395 rfl (by decide) ?_
  refine Ev.newA' 0 (N := 40) (pc' := 399) dX12_init_397 rfl rfl (fun _ _ h9 => h9) acl_int ni_40 (by decide) rfl ⟨by decide, ark_167.1, ark_167.2⟩ (by decide) rfl (by decide) (by decide) (by decide) (by rw [pu_ne _ _ _ (by decide), pu_ne _ _ _ (by decide), pu_ne _ _ _ (by decide)]; exact hI _ (by decide)) (by exact hL _ (by decide)) ?_
  refine Ev.putR (pc' := 402) dX12_init_399 rfl fa_RX12_160 ⟨by decide, obk_120.1, obk_120.2⟩ fk_12_91 (Or.inr ⟨rfl, rfl⟩) (fun _ => rfl) (fun _ => rfl) ?_
  refine Ev.aload_n (k := 0) (pc' := 403) dX12_init_402 rfl rfl rfl ?_
  refine Ev.bipush (v := 40) (pc' := 405) dX12_init_403 rfl (by decide) ?_
  refine Ev.newA' 0 (N := 40) (pc' := 407) dX12_init_405 rfl rfl (fun _ _ h9 => h9) acl_int ni_40 (by decide) rfl ⟨by decide, ark_168.1, ark_168.2⟩ (by decide) rfl (by decide) (by decide) (by decide) (by rw [pu_ne _ _ _ (by decide), pu_ne _ _ _ (by decide), pu_ne _ _ _ (by decide)]; exact hI _ (by decide)) (by exact hL _ (by decide)) ?_
  refine Ev.putR (pc' := 410) dX12_init_407 rfl fa_RX12_163 ⟨by decide, obk_120.1, obk_120.2⟩ fk_12_92 (Or.inr ⟨rfl, rfl⟩) (fun _ => rfl) (fun _ => rfl) ?_
  refine Ev.aload_n (k := 0) (pc' := 411) dX12_init_410 rfl rfl rfl ?_
  refine Ev.iconst (v := 3) (pc' := 412) dX12_init_411 rfl (by decide) ?_
  refine Ev.newA' 2 (N := 3) (pc' := 414) dX12_init_412 rfl rfl (fun _ _ h9 => h9) acl_boolean ni_3 (by decide) rfl ⟨by decide, ark_169.1, ark_169.2⟩ (by decide) rfl (by decide) (by decide) (by decide) (by rw [pu_ne _ _ _ (by decide), pu_ne _ _ _ (by decide), pu_ne _ _ _ (by decide)]; exact hI _ (by decide)) (by exact hL _ (by decide)) ?_
  refine Ev.putR (pc' := 417) dX12_init_414 rfl fa_RX12_166 ⟨by decide, obk_120.1, obk_120.2⟩ fk_12_95 (Or.inr ⟨rfl, rfl⟩) (fun _ => rfl) (fun _ => rfl) ?_
  refine Ev.aload_n (k := 0) (pc' := 418) dX12_init_417 rfl rfl rfl ?_
  refine Ev.bipush (v := 30) (pc' := 420) dX12_init_418 rfl (by decide) ?_
  refine Ev.newA' 2 (N := 30) (pc' := 422) dX12_init_420 rfl rfl (fun _ _ h9 => h9) acl_boolean ni_30 (by decide) rfl ⟨by decide, ark_170.1, ark_170.2⟩ (by decide) rfl (by decide) (by decide) (by decide) (by rw [pu_ne _ _ _ (by decide), pu_ne _ _ _ (by decide), pu_ne _ _ _ (by decide)]; exact hI _ (by decide)) (by exact hL _ (by decide)) ?_
  refine Ev.putR (pc' := 425) dX12_init_422 rfl fa_RX12_169 ⟨by decide, obk_120.1, obk_120.2⟩ fk_12_96 (Or.inr ⟨rfl, rfl⟩) (fun _ => rfl) (fun _ => rfl) ?_
  refine Ev.aload_n (k := 0) (pc' := 426) dX12_init_425 rfl rfl rfl ?_
  refine Ev.bipush (v := 120) (pc' := 428) dX12_init_426 rfl (by decide) ?_
  refine Ev.newA' 0 (N := 120) (pc' := 430) dX12_init_428 rfl rfl (fun _ _ h9 => h9) acl_int ni_120 (by decide) rfl ⟨by decide, ark_171.1, ark_171.2⟩ (by decide) rfl (by decide) (by decide) (by decide) (by rw [pu_ne _ _ _ (by decide), pu_ne _ _ _ (by decide), pu_ne _ _ _ (by decide)]; exact hI _ (by decide)) (by exact hL _ (by decide)) ?_
  refine Ev.putR (pc' := 433) dX12_init_430 rfl fa_RX12_172 ⟨by decide, obk_120.1, obk_120.2⟩ fk_12_97 (Or.inr ⟨rfl, rfl⟩) (fun _ => rfl) (fun _ => rfl) ?_
  refine Ev.aload_n (k := 0) (pc' := 434) dX12_init_433 rfl rfl rfl ?_
  refine Ev.bipush (v := 18) (pc' := 436) dX12_init_434 rfl (by decide) ?_
  refine Ev.newA' 0 (N := 18) (pc' := 438) dX12_init_436 rfl rfl (fun _ _ h9 => h9) acl_int ni_18 (by decide) rfl ⟨by decide, ark_172.1, ark_172.2⟩ (by decide) rfl (by decide) (by decide) (by decide) (by rw [pu_ne _ _ _ (by decide), pu_ne _ _ _ (by decide), pu_ne _ _ _ (by decide)]; exact hI _ (by decide)) (by exact hL _ (by decide)) ?_
  refine Ev.putR (pc' := 441) dX12_init_438 rfl fa_RX12_175 ⟨by decide, obk_120.1, obk_120.2⟩ fk_12_98 (Or.inr ⟨rfl, rfl⟩) (fun _ => rfl) (fun _ => rfl) ?_
  refine Ev.aload_n (k := 0) (pc' := 442) dX12_init_441 rfl rfl rfl ?_
  refine Ev.bipush (v := 18) (pc' := 444) dX12_init_442 rfl (by decide) ?_
  refine Ev.newA' 0 (N := 18) (pc' := 446) dX12_init_444 rfl rfl (fun _ _ h9 => h9) acl_int ni_18 (by decide) rfl ⟨by decide, ark_173.1, ark_173.2⟩ (by decide) rfl (by decide) (by decide) (by decide) (by rw [pu_ne _ _ _ (by decide), pu_ne _ _ _ (by decide), pu_ne _ _ _ (by decide)]; exact hI _ (by decide)) (by exact hL _ (by decide)) ?_
  refine Ev.putR (pc' := 449) dX12_init_446 rfl fa_RX12_178 ⟨by decide, obk_120.1, obk_120.2⟩ fk_12_99 (Or.inr ⟨rfl, rfl⟩) (fun _ => rfl) (fun _ => rfl) ?_
  refine Ev.aload_n (k := 0) (pc' := 450) dX12_init_449 rfl rfl rfl ?_
  refine Ev.sipush (v := 1830) (pc' := 453) dX12_init_450 rfl (by decide) ?_
  refine Ev.newA' 0 (N := 1830) (pc' := 455) dX12_init_453 rfl rfl (fun _ _ h9 => h9) acl_int ni_1830 (by decide) rfl ⟨by decide, ark_174.1, ark_174.2⟩ (by decide) rfl (by decide) (by decide) (by decide) (by rw [pu_ne _ _ _ (by decide), pu_ne _ _ _ (by decide), pu_ne _ _ _ (by decide)]; exact hI _ (by decide)) (by exact hL _ (by decide)) ?_
  refine Ev.putR (pc' := 458) dX12_init_455 rfl fa_RX12_181 ⟨by decide, obk_120.1, obk_120.2⟩ fk_12_100 (Or.inr ⟨rfl, rfl⟩) (fun _ => rfl) (fun _ => rfl) ?_
  refine Ev.aload_n (k := 0) (pc' := 459) dX12_init_458 rfl rfl rfl ?_
  refine Ev.iconst (v := 3) (pc' := 460) dX12_init_459 rfl (by decide) ?_
  refine Ev.newA' 0 (N := 3) (pc' := 462) dX12_init_460 rfl rfl (fun _ _ h9 => h9) acl_int ni_3 (by decide) rfl ⟨by decide, ark_175.1, ark_175.2⟩ (by decide) rfl (by decide) (by decide) (by decide) (by rw [pu_ne _ _ _ (by decide), pu_ne _ _ _ (by decide), pu_ne _ _ _ (by decide)]; exact hI _ (by decide)) (by exact hL _ (by decide)) ?_
  refine Ev.putR (pc' := 465) dX12_init_462 rfl fa_RX12_184 ⟨by decide, obk_120.1, obk_120.2⟩ fk_12_101 (Or.inr ⟨rfl, rfl⟩) (fun _ => rfl) (fun _ => rfl) ?_
  refine Ev.aload_n (k := 0) (pc' := 466) dX12_init_465 rfl rfl rfl ?_
  refine Ev.iconst (v := 3) (pc' := 467) dX12_init_466 rfl (by decide) ?_
  refine Ev.newA' 0 (N := 3) (pc' := 469) dX12_init_467 rfl rfl (fun _ _ h9 => h9) acl_int ni_3 (by decide) rfl ⟨by decide, ark_176.1, ark_176.2⟩ (by decide) rfl (by decide) (by decide) (by decide) (by rw [pu_ne _ _ _ (by decide), pu_ne _ _ _ (by decide), pu_ne _ _ _ (by decide)]; exact hI _ (by decide)) (by exact hL _ (by decide)) ?_
  refine Ev.putR (pc' := 472) dX12_init_469 rfl fa_RX12_187 ⟨by decide, obk_120.1, obk_120.2⟩ fk_12_102 (Or.inr ⟨rfl, rfl⟩) (fun _ => rfl) (fun _ => rfl) ?_
  refine Ev.aload_n (k := 0) (pc' := 473) dX12_init_472 rfl rfl rfl ?_
  refine Ev.iconst (v := 3) (pc' := 474) dX12_init_473 rfl (by decide) ?_
  refine Ev.newA' 0 (N := 3) (pc' := 476) dX12_init_474 rfl rfl (fun _ _ h9 => h9) acl_int ni_3 (by decide) rfl ⟨by decide, ark_177.1, ark_177.2⟩ (by decide) rfl (by decide) (by decide) (by decide) (by rw [pu_ne _ _ _ (by decide), pu_ne _ _ _ (by decide), pu_ne _ _ _ (by decide)]; exact hI _ (by decide)) (by exact hL _ (by decide)) ?_
  refine Ev.putR (pc' := 479) dX12_init_476 rfl fa_RX12_190 ⟨by decide, obk_120.1, obk_120.2⟩ fk_12_103 (Or.inr ⟨rfl, rfl⟩) (fun _ => rfl) (fun _ => rfl) ?_
  refine Ev.aload_n (k := 0) (pc' := 480) dX12_init_479 rfl rfl rfl ?_
  exact hfin
