theorem dJ6_bitCount_0f7a4_0 : decode cJ6_bitCount_0f7a4 0 = .ok (.iload_n 0, 1) := by decide +kernel
theorem dJ6_bitCount_0f7a4_1 : decode cJ6_bitCount_0f7a4 1 = .ok (.iload_n 0, 1) := by decide +kernel
theorem dJ6_bitCount_0f7a4_2 : decode cJ6_bitCount_0f7a4 2 = .ok (.iconst 1, 1) := by decide +kernel
theorem dJ6_bitCount_0f7a4_3 : decode cJ6_bitCount_0f7a4 3 = .ok (.iushr, 1) := by decide +kernel
theorem dJ6_bitCount_0f7a4_4 : decode cJ6_bitCount_0f7a4 4 = .ok (.ldc_w 265, 3) := by decide +kernel
theorem dJ6_bitCount_0f7a4_7 : decode cJ6_bitCount_0f7a4 7 = .ok (.iand, 1) := by decide +kernel
theorem dJ6_bitCount_0f7a4_8 : decode cJ6_bitCount_0f7a4 8 = .ok (.isub, 1) := by decide +kernel
theorem dJ6_bitCount_0f7a4_9 : decode cJ6_bitCount_0f7a4 9 = .ok (.istore_n 0, 1) := by decide +kernel
theorem dJ6_bitCount_0f7a4_10 : decode cJ6_bitCount_0f7a4 10 = .ok (.iload_n 0, 1) := by decide +kernel
theorem dJ6_bitCount_0f7a4_11 : decode cJ6_bitCount_0f7a4 11 = .ok (.ldc_w 266, 3) := by decide +kernel
theorem dJ6_bitCount_0f7a4_14 : decode cJ6_bitCount_0f7a4 14 = .ok (.iand, 1) := by decide +kernel
theorem dJ6_bitCount_0f7a4_15 : decode cJ6_bitCount_0f7a4 15 = .ok (.iload_n 0, 1) := by decide +kernel
theorem dJ6_bitCount_0f7a4_16 : decode cJ6_bitCount_0f7a4 16 = .ok (.iconst 2, 1) := by decide +kernel
theorem dJ6_bitCount_0f7a4_17 : decode cJ6_bitCount_0f7a4 17 = .ok (.iushr, 1) := by decide +kernel
theorem dJ6_bitCount_0f7a4_18 : decode cJ6_bitCount_0f7a4 18 = .ok (.ldc_w 266, 3) := by decide +kernel
theorem dJ6_bitCount_0f7a4_21 : decode cJ6_bitCount_0f7a4 21 = .ok (.iand, 1) := by decide +kernel
theorem dJ6_bitCount_0f7a4_22 : decode cJ6_bitCount_0f7a4 22 = .ok (.iadd, 1) := by decide +kernel
theorem dJ6_bitCount_0f7a4_23 : decode cJ6_bitCount_0f7a4 23 = .ok (.istore_n 0, 1) := by decide +kernel
theorem dJ6_bitCount_0f7a4_24 : decode cJ6_bitCount_0f7a4 24 = .ok (.iload_n 0, 1) := by decide +kernel
theorem dJ6_bitCount_0f7a4_25 : decode cJ6_bitCount_0f7a4 25 = .ok (.iload_n 0, 1) := by decide +kernel
theorem dJ6_bitCount_0f7a4_26 : decode cJ6_bitCount_0f7a4 26 = .ok (.iconst 4, 1) := by decide +kernel
theorem dJ6_bitCount_0f7a4_27 : decode cJ6_bitCount_0f7a4 27 = .ok (.iushr, 1) := by decide +kernel
theorem dJ6_bitCount_0f7a4_28 : decode cJ6_bitCount_0f7a4 28 = .ok (.iadd, 1) := by decide +kernel
theorem dJ6_bitCount_0f7a4_29 : decode cJ6_bitCount_0f7a4 29 = .ok (.ldc_w 267, 3) := by decide +kernel
theorem dJ6_bitCount_0f7a4_32 : decode cJ6_bitCount_0f7a4 32 = .ok (.iand, 1) := by decide +kernel
theorem dJ6_bitCount_0f7a4_33 : decode cJ6_bitCount_0f7a4 33 = .ok (.istore_n 0, 1) := by decide +kernel
theorem dJ6_bitCount_0f7a4_34 : decode cJ6_bitCount_0f7a4 34 = .ok (.iload_n 0, 1) := by decide +kernel
theorem dJ6_bitCount_0f7a4_35 : decode cJ6_bitCount_0f7a4 35 = .ok (.iload_n 0, 1) := by decide +kernel
theorem dJ6_bitCount_0f7a4_36 : decode cJ6_bitCount_0f7a4 36 = .ok (.bipush 8, 2) := by decide +kernel
theorem dJ6_bitCount_0f7a4_38 : decode cJ6_bitCount_0f7a4 38 = .ok (.iushr, 1) := by decide +kernel
theorem dJ6_bitCount_0f7a4_39 : decode cJ6_bitCount_0f7a4 39 = .ok (.iadd, 1) := by decide +kernel
theorem dJ6_bitCount_0f7a4_40 : decode cJ6_bitCount_0f7a4 40 = .ok (.istore_n 0, 1) := by decide +kernel
theorem dJ6_bitCount_0f7a4_41 : decode cJ6_bitCount_0f7a4 41 = .ok (.iload_n 0, 1) := by decide +kernel
theorem dJ6_bitCount_0f7a4_42 : decode cJ6_bitCount_0f7a4 42 = .ok (.iload_n 0, 1) := by decide +kernel
theorem dJ6_bitCount_0f7a4_43 : decode cJ6_bitCount_0f7a4 43 = .ok (.bipush 16, 2) := by decide +kernel
theorem dJ6_bitCount_0f7a4_45 : decode cJ6_bitCount_0f7a4 45 = .ok (.iushr, 1) := by decide +kernel
theorem dJ6_bitCount_0f7a4_46 : decode cJ6_bitCount_0f7a4 46 = .ok (.iadd, 1) := by decide +kernel
theorem dJ6_bitCount_0f7a4_47 : decode cJ6_bitCount_0f7a4 47 = .ok (.istore_n 0, 1) := by decide +kernel
theorem dJ6_bitCount_0f7a4_48 : decode cJ6_bitCount_0f7a4 48 = .ok (.iload_n 0, 1) := by decide +kernel
theorem dJ6_bitCount_0f7a4_49 : decode cJ6_bitCount_0f7a4 49 = .ok (.bipush 63, 2) := by decide +kernel
theorem dJ6_bitCount_0f7a4_51 : decode cJ6_bitCount_0f7a4 51 = .ok (.iand, 1) := by decide +kernel
theorem dJ6_bitCount_0f7a4_52 : decode cJ6_bitCount_0f7a4 52 = .ok (.ireturn, 1) := by decide +kernel
set_option maxRecDepth 20000 in
theorem wp_J6_bitCount_0f7a4 (E : En) (d : Nat) (a1 : Int32) (h : Hp) (P : Int32 → Hp → Prop) (t : P ((((((((a1 - (((a1.toUInt32 >>> ((1 : Int32).toUInt32 &&& Int32.toUInt32 31)).toInt32) &&& (1431655765 : Int32))) &&& (858993459 : Int32)) + ((((a1 - (((a1.toUInt32 >>> ((1 : Int32).toUInt32 &&& Int32.toUInt32 31)).toInt32) &&& (1431655765 : Int32))).toUInt32 >>> ((2 : Int32).toUInt32 &&& Int32.toUInt32 31)).toInt32) &&& (858993459 : Int32))) + (((((a1 - (((a1.toUInt32 >>> ((1 : Int32).toUInt32 &&& Int32.toUInt32 31)).toInt32) &&& (1431655765 : Int32))) &&& (858993459 : Int32)) + ((((a1 - (((a1.toUInt32 >>> ((1 : Int32).toUInt32 &&& Int32.toUInt32 31)).toInt32) &&& (1431655765 : Int32))).toUInt32 >>> ((2 : Int32).toUInt32 &&& Int32.toUInt32 31)).toInt32) &&& (858993459 : Int32))).toUInt32 >>> ((4 : Int32).toUInt32 &&& Int32.toUInt32 31)).toInt32)) &&& (252645135 : Int32)) + (((((((a1 - (((a1.toUInt32 >>> ((1 : Int32).toUInt32 &&& Int32.toUInt32 31)).toInt32) &&& (1431655765 : Int32))) &&& (858993459 : Int32)) + ((((a1 - (((a1.toUInt32 >>> ((1 : Int32).toUInt32 &&& Int32.toUInt32 31)).toInt32) &&& (1431655765 : Int32))).toUInt32 >>> ((2 : Int32).toUInt32 &&& Int32.toUInt32 31)).toInt32) &&& (858993459 : Int32))) + (((((a1 - (((a1.toUInt32 >>> ((1 : Int32).toUInt32 &&& Int32.toUInt32 31)).toInt32) &&& (1431655765 : Int32))) &&& (858993459 : Int32)) + ((((a1 - (((a1.toUInt32 >>> ((1 : Int32).toUInt32 &&& Int32.toUInt32 31)).toInt32) &&& (1431655765 : Int32))).toUInt32 >>> ((2 : Int32).toUInt32 &&& Int32.toUInt32 31)).toInt32) &&& (858993459 : Int32))).toUInt32 >>> ((4 : Int32).toUInt32 &&& Int32.toUInt32 31)).toInt32)) &&& (252645135 : Int32)).toUInt32 >>> ((8 : Int32).toUInt32 &&& Int32.toUInt32 31)).toInt32)) + ((((((((a1 - (((a1.toUInt32 >>> ((1 : Int32).toUInt32 &&& Int32.toUInt32 31)).toInt32) &&& (1431655765 : Int32))) &&& (858993459 : Int32)) + ((((a1 - (((a1.toUInt32 >>> ((1 : Int32).toUInt32 &&& Int32.toUInt32 31)).toInt32) &&& (1431655765 : Int32))).toUInt32 >>> ((2 : Int32).toUInt32 &&& Int32.toUInt32 31)).toInt32) &&& (858993459 : Int32))) + (((((a1 - (((a1.toUInt32 >>> ((1 : Int32).toUInt32 &&& Int32.toUInt32 31)).toInt32) &&& (1431655765 : Int32))) &&& (858993459 : Int32)) + ((((a1 - (((a1.toUInt32 >>> ((1 : Int32).toUInt32 &&& Int32.toUInt32 31)).toInt32) &&& (1431655765 : Int32))).toUInt32 >>> ((2 : Int32).toUInt32 &&& Int32.toUInt32 31)).toInt32) &&& (858993459 : Int32))).toUInt32 >>> ((4 : Int32).toUInt32 &&& Int32.toUInt32 31)).toInt32)) &&& (252645135 : Int32)) + (((((((a1 - (((a1.toUInt32 >>> ((1 : Int32).toUInt32 &&& Int32.toUInt32 31)).toInt32) &&& (1431655765 : Int32))) &&& (858993459 : Int32)) + ((((a1 - (((a1.toUInt32 >>> ((1 : Int32).toUInt32 &&& Int32.toUInt32 31)).toInt32) &&& (1431655765 : Int32))).toUInt32 >>> ((2 : Int32).toUInt32 &&& Int32.toUInt32 31)).toInt32) &&& (858993459 : Int32))) + (((((a1 - (((a1.toUInt32 >>> ((1 : Int32).toUInt32 &&& Int32.toUInt32 31)).toInt32) &&& (1431655765 : Int32))) &&& (858993459 : Int32)) + ((((a1 - (((a1.toUInt32 >>> ((1 : Int32).toUInt32 &&& Int32.toUInt32 31)).toInt32) &&& (1431655765 : Int32))).toUInt32 >>> ((2 : Int32).toUInt32 &&& Int32.toUInt32 31)).toInt32) &&& (858993459 : Int32))).toUInt32 >>> ((4 : Int32).toUInt32 &&& Int32.toUInt32 31)).toInt32)) &&& (252645135 : Int32)).toUInt32 >>> ((8 : Int32).toUInt32 &&& Int32.toUInt32 31)).toInt32)).toUInt32 >>> ((16 : Int32).toUInt32 &&& Int32.toUInt32 31)).toInt32)) &&& (63 : Int32)) h) : SpI E d MJ6_bitCount_0f7a4 [.int a1] h P := by
  refine SpI.of (lv0 := [(0, .int a1)]) (by decide) (Nat.le_of_ble_eq_true rfl) rfl (fun g => ?_)
  refine r_iload_n (q := 0) dJ6_bitCount_0f7a4_0 rfl rfl ?_
  refine r_iload_n (q := 0) dJ6_bitCount_0f7a4_1 rfl rfl ?_
  refine r_iconst (v := (1 : Int32)) dJ6_bitCount_0f7a4_2 rfl ?_
  refine r_iushr dJ6_bitCount_0f7a4_3 ?_
  refine r_ldcw (v := (1431655765 : Int32)) dJ6_bitCount_0f7a4_4 cnJ6_265 ?_
  refine r_iand dJ6_bitCount_0f7a4_7 ?_
  refine r_isub dJ6_bitCount_0f7a4_8 ?_
  refine r_istore_n (lv' := [(0, .int (a1 - (((a1.toUInt32 >>> ((1 : Int32).toUInt32 &&& Int32.toUInt32 31)).toInt32) &&& (1431655765 : Int32))))]) dJ6_bitCount_0f7a4_9 rfl (by decide) rfl ?_
  refine r_iload_n (q := 0) dJ6_bitCount_0f7a4_10 rfl rfl ?_
  refine r_ldcw (v := (858993459 : Int32)) dJ6_bitCount_0f7a4_11 cnJ6_266 ?_
  refine r_iand dJ6_bitCount_0f7a4_14 ?_
  refine r_iload_n (q := 0) dJ6_bitCount_0f7a4_15 rfl rfl ?_
  refine r_iconst (v := (2 : Int32)) dJ6_bitCount_0f7a4_16 rfl ?_
  refine r_iushr dJ6_bitCount_0f7a4_17 ?_
  refine r_ldcw (v := (858993459 : Int32)) dJ6_bitCount_0f7a4_18 cnJ6_266 ?_
  refine r_iand dJ6_bitCount_0f7a4_21 ?_
  refine r_iadd dJ6_bitCount_0f7a4_22 ?_
  refine r_istore_n (lv' := [(0, .int (((a1 - (((a1.toUInt32 >>> ((1 : Int32).toUInt32 &&& Int32.toUInt32 31)).toInt32) &&& (1431655765 : Int32))) &&& (858993459 : Int32)) + ((((a1 - (((a1.toUInt32 >>> ((1 : Int32).toUInt32 &&& Int32.toUInt32 31)).toInt32) &&& (1431655765 : Int32))).toUInt32 >>> ((2 : Int32).toUInt32 &&& Int32.toUInt32 31)).toInt32) &&& (858993459 : Int32))))]) dJ6_bitCount_0f7a4_23 rfl (by decide) rfl ?_
  refine r_iload_n (q := 0) dJ6_bitCount_0f7a4_24 rfl rfl ?_
  refine r_iload_n (q := 0) dJ6_bitCount_0f7a4_25 rfl rfl ?_
  refine r_iconst (v := (4 : Int32)) dJ6_bitCount_0f7a4_26 rfl ?_
  refine r_iushr dJ6_bitCount_0f7a4_27 ?_
  refine r_iadd dJ6_bitCount_0f7a4_28 ?_
  refine r_ldcw (v := (252645135 : Int32)) dJ6_bitCount_0f7a4_29 cnJ6_267 ?_
  refine r_iand dJ6_bitCount_0f7a4_32 ?_
  refine r_istore_n (lv' := [(0, .int (((((a1 - (((a1.toUInt32 >>> ((1 : Int32).toUInt32 &&& Int32.toUInt32 31)).toInt32) &&& (1431655765 : Int32))) &&& (858993459 : Int32)) + ((((a1 - (((a1.toUInt32 >>> ((1 : Int32).toUInt32 &&& Int32.toUInt32 31)).toInt32) &&& (1431655765 : Int32))).toUInt32 >>> ((2 : Int32).toUInt32 &&& Int32.toUInt32 31)).toInt32) &&& (858993459 : Int32))) + (((((a1 - (((a1.toUInt32 >>> ((1 : Int32).toUInt32 &&& Int32.toUInt32 31)).toInt32) &&& (1431655765 : Int32))) &&& (858993459 : Int32)) + ((((a1 - (((a1.toUInt32 >>> ((1 : Int32).toUInt32 &&& Int32.toUInt32 31)).toInt32) &&& (1431655765 : Int32))).toUInt32 >>> ((2 : Int32).toUInt32 &&& Int32.toUInt32 31)).toInt32) &&& (858993459 : Int32))).toUInt32 >>> ((4 : Int32).toUInt32 &&& Int32.toUInt32 31)).toInt32)) &&& (252645135 : Int32)))]) dJ6_bitCount_0f7a4_33 rfl (by decide) rfl ?_
  refine r_iload_n (q := 0) dJ6_bitCount_0f7a4_34 rfl rfl ?_
  refine r_iload_n (q := 0) dJ6_bitCount_0f7a4_35 rfl rfl ?_
  refine r_bipush (v := (8 : Int32)) dJ6_bitCount_0f7a4_36 rfl ?_
  refine r_iushr dJ6_bitCount_0f7a4_38 ?_
  refine r_iadd dJ6_bitCount_0f7a4_39 ?_
  refine r_istore_n (lv' := [(0, .int ((((((a1 - (((a1.toUInt32 >>> ((1 : Int32).toUInt32 &&& Int32.toUInt32 31)).toInt32) &&& (1431655765 : Int32))) &&& (858993459 : Int32)) + ((((a1 - (((a1.toUInt32 >>> ((1 : Int32).toUInt32 &&& Int32.toUInt32 31)).toInt32) &&& (1431655765 : Int32))).toUInt32 >>> ((2 : Int32).toUInt32 &&& Int32.toUInt32 31)).toInt32) &&& (858993459 : Int32))) + (((((a1 - (((a1.toUInt32 >>> ((1 : Int32).toUInt32 &&& Int32.toUInt32 31)).toInt32) &&& (1431655765 : Int32))) &&& (858993459 : Int32)) + ((((a1 - (((a1.toUInt32 >>> ((1 : Int32).toUInt32 &&& Int32.toUInt32 31)).toInt32) &&& (1431655765 : Int32))).toUInt32 >>> ((2 : Int32).toUInt32 &&& Int32.toUInt32 31)).toInt32) &&& (858993459 : Int32))).toUInt32 >>> ((4 : Int32).toUInt32 &&& Int32.toUInt32 31)).toInt32)) &&& (252645135 : Int32)) + (((((((a1 - (((a1.toUInt32 >>> ((1 : Int32).toUInt32 &&& Int32.toUInt32 31)).toInt32) &&& (1431655765 : Int32))) &&& (858993459 : Int32)) + ((((a1 - (((a1.toUInt32 >>> ((1 : Int32).toUInt32 &&& Int32.toUInt32 31)).toInt32) &&& (1431655765 : Int32))).toUInt32 >>> ((2 : Int32).toUInt32 &&& Int32.toUInt32 31)).toInt32) &&& (858993459 : Int32))) + (((((a1 - (((a1.toUInt32 >>> ((1 : Int32).toUInt32 &&& Int32.toUInt32 31)).toInt32) &&& (1431655765 : Int32))) &&& (858993459 : Int32)) + ((((a1 - (((a1.toUInt32 >>> ((1 : Int32).toUInt32 &&& Int32.toUInt32 31)).toInt32) &&& (1431655765 : Int32))).toUInt32 >>> ((2 : Int32).toUInt32 &&& Int32.toUInt32 31)).toInt32) &&& (858993459 : Int32))).toUInt32 >>> ((4 : Int32).toUInt32 &&& Int32.toUInt32 31)).toInt32)) &&& (252645135 : Int32)).toUInt32 >>> ((8 : Int32).toUInt32 &&& Int32.toUInt32 31)).toInt32)))]) dJ6_bitCount_0f7a4_40 rfl (by decide) rfl ?_
  refine r_iload_n (q := 0) dJ6_bitCount_0f7a4_41 rfl rfl ?_
  refine r_iload_n (q := 0) dJ6_bitCount_0f7a4_42 rfl rfl ?_
  refine r_bipush (v := (16 : Int32)) dJ6_bitCount_0f7a4_43 rfl ?_
  refine r_iushr dJ6_bitCount_0f7a4_45 ?_
  refine r_iadd dJ6_bitCount_0f7a4_46 ?_
  refine r_istore_n (lv' := [(0, .int (((((((a1 - (((a1.toUInt32 >>> ((1 : Int32).toUInt32 &&& Int32.toUInt32 31)).toInt32) &&& (1431655765 : Int32))) &&& (858993459 : Int32)) + ((((a1 - (((a1.toUInt32 >>> ((1 : Int32).toUInt32 &&& Int32.toUInt32 31)).toInt32) &&& (1431655765 : Int32))).toUInt32 >>> ((2 : Int32).toUInt32 &&& Int32.toUInt32 31)).toInt32) &&& (858993459 : Int32))) + (((((a1 - (((a1.toUInt32 >>> ((1 : Int32).toUInt32 &&& Int32.toUInt32 31)).toInt32) &&& (1431655765 : Int32))) &&& (858993459 : Int32)) + ((((a1 - (((a1.toUInt32 >>> ((1 : Int32).toUInt32 &&& Int32.toUInt32 31)).toInt32) &&& (1431655765 : Int32))).toUInt32 >>> ((2 : Int32).toUInt32 &&& Int32.toUInt32 31)).toInt32) &&& (858993459 : Int32))).toUInt32 >>> ((4 : Int32).toUInt32 &&& Int32.toUInt32 31)).toInt32)) &&& (252645135 : Int32)) + (((((((a1 - (((a1.toUInt32 >>> ((1 : Int32).toUInt32 &&& Int32.toUInt32 31)).toInt32) &&& (1431655765 : Int32))) &&& (858993459 : Int32)) + ((((a1 - (((a1.toUInt32 >>> ((1 : Int32).toUInt32 &&& Int32.toUInt32 31)).toInt32) &&& (1431655765 : Int32))).toUInt32 >>> ((2 : Int32).toUInt32 &&& Int32.toUInt32 31)).toInt32) &&& (858993459 : Int32))) + (((((a1 - (((a1.toUInt32 >>> ((1 : Int32).toUInt32 &&& Int32.toUInt32 31)).toInt32) &&& (1431655765 : Int32))) &&& (858993459 : Int32)) + ((((a1 - (((a1.toUInt32 >>> ((1 : Int32).toUInt32 &&& Int32.toUInt32 31)).toInt32) &&& (1431655765 : Int32))).toUInt32 >>> ((2 : Int32).toUInt32 &&& Int32.toUInt32 31)).toInt32) &&& (858993459 : Int32))).toUInt32 >>> ((4 : Int32).toUInt32 &&& Int32.toUInt32 31)).toInt32)) &&& (252645135 : Int32)).toUInt32 >>> ((8 : Int32).toUInt32 &&& Int32.toUInt32 31)).toInt32)) + ((((((((a1 - (((a1.toUInt32 >>> ((1 : Int32).toUInt32 &&& Int32.toUInt32 31)).toInt32) &&& (1431655765 : Int32))) &&& (858993459 : Int32)) + ((((a1 - (((a1.toUInt32 >>> ((1 : Int32).toUInt32 &&& Int32.toUInt32 31)).toInt32) &&& (1431655765 : Int32))).toUInt32 >>> ((2 : Int32).toUInt32 &&& Int32.toUInt32 31)).toInt32) &&& (858993459 : Int32))) + (((((a1 - (((a1.toUInt32 >>> ((1 : Int32).toUInt32 &&& Int32.toUInt32 31)).toInt32) &&& (1431655765 : Int32))) &&& (858993459 : Int32)) + ((((a1 - (((a1.toUInt32 >>> ((1 : Int32).toUInt32 &&& Int32.toUInt32 31)).toInt32) &&& (1431655765 : Int32))).toUInt32 >>> ((2 : Int32).toUInt32 &&& Int32.toUInt32 31)).toInt32) &&& (858993459 : Int32))).toUInt32 >>> ((4 : Int32).toUInt32 &&& Int32.toUInt32 31)).toInt32)) &&& (252645135 : Int32)) + (((((((a1 - (((a1.toUInt32 >>> ((1 : Int32).toUInt32 &&& Int32.toUInt32 31)).toInt32) &&& (1431655765 : Int32))) &&& (858993459 : Int32)) + ((((a1 - (((a1.toUInt32 >>> ((1 : Int32).toUInt32 &&& Int32.toUInt32 31)).toInt32) &&& (1431655765 : Int32))).toUInt32 >>> ((2 : Int32).toUInt32 &&& Int32.toUInt32 31)).toInt32) &&& (858993459 : Int32))) + (((((a1 - (((a1.toUInt32 >>> ((1 : Int32).toUInt32 &&& Int32.toUInt32 31)).toInt32) &&& (1431655765 : Int32))) &&& (858993459 : Int32)) + ((((a1 - (((a1.toUInt32 >>> ((1 : Int32).toUInt32 &&& Int32.toUInt32 31)).toInt32) &&& (1431655765 : Int32))).toUInt32 >>> ((2 : Int32).toUInt32 &&& Int32.toUInt32 31)).toInt32) &&& (858993459 : Int32))).toUInt32 >>> ((4 : Int32).toUInt32 &&& Int32.toUInt32 31)).toInt32)) &&& (252645135 : Int32)).toUInt32 >>> ((8 : Int32).toUInt32 &&& Int32.toUInt32 31)).toInt32)).toUInt32 >>> ((16 : Int32).toUInt32 &&& Int32.toUInt32 31)).toInt32)))]) dJ6_bitCount_0f7a4_47 rfl (by decide) rfl ?_
  refine r_iload_n (q := 0) dJ6_bitCount_0f7a4_48 rfl rfl ?_
  refine r_bipush (v := (63 : Int32)) dJ6_bitCount_0f7a4_49 rfl ?_
  refine r_iand dJ6_bitCount_0f7a4_51 ?_
  exact r_iret dJ6_bitCount_0f7a4_52 rfl t
theorem dJ7_fill_53178_0 : decode cJ7_fill_53178 0 = .ok (.iconst 0, 1) := by decide +kernel
theorem dJ7_fill_53178_1 : decode cJ7_fill_53178 1 = .ok (.istore_n 2, 1) := by decide +kernel
theorem dJ7_fill_53178_2 : decode cJ7_fill_53178 2 = .ok (.aload_n 0, 1) := by decide +kernel
theorem dJ7_fill_53178_3 : decode cJ7_fill_53178 3 = .ok (.arraylength, 1) := by decide +kernel
theorem dJ7_fill_53178_4 : decode cJ7_fill_53178 4 = .ok (.istore_n 3, 1) := by decide +kernel
theorem dJ7_fill_53178_5 : decode cJ7_fill_53178 5 = .ok (.iload_n 2, 1) := by decide +kernel
theorem dJ7_fill_53178_6 : decode cJ7_fill_53178 6 = .ok (.iload_n 3, 1) := by decide +kernel
theorem dJ7_fill_53178_7 : decode cJ7_fill_53178 7 = .ok (.if_icmp .ge 13, 3) := by decide +kernel
theorem dJ7_fill_53178_10 : decode cJ7_fill_53178 10 = .ok (.aload_n 0, 1) := by decide +kernel
theorem dJ7_fill_53178_11 : decode cJ7_fill_53178 11 = .ok (.iload_n 2, 1) := by decide +kernel
theorem dJ7_fill_53178_12 : decode cJ7_fill_53178 12 = .ok (.iload_n 1, 1) := by decide +kernel
theorem dJ7_fill_53178_13 : decode cJ7_fill_53178 13 = .ok (.iastore, 1) := by decide +kernel
theorem dJ7_fill_53178_14 : decode cJ7_fill_53178 14 = .ok (.iinc 2 1, 3) := by decide +kernel
theorem dJ7_fill_53178_17 : decode cJ7_fill_53178 17 = .ok (.goto (-12), 3) := by decide +kernel
theorem dJ7_fill_53178_20 : decode cJ7_fill_53178 20 = .ok (.return_, 1) := by decide +kernel
abbrev VJ7_fill_53178_5 (E : En) (d : Nat) (g : Ga) (P : Hp → Prop) (ca : Nat) (x1 : Int32) (x2 : Int32) (x3 : Int32) (h : Hp) : Prop := V E MJ7_fill_53178 (RM d 0) g (QQ E g (QV E P) 0 0) 0 0 h 5 [(0, .ref (eA E ca)), (1, .int x1), (2, .int x2), (3, .int x3)] []
set_option maxRecDepth 20000 in
theorem wp_J7_fill_53178 (E : En) (d : Nat) (ca nca : Nat) (hca : lay[ca]? = some (.inr (0, nca))) (a2 : Int32) (h : Hp) (P : Hp → Prop) (t : ∀ g : Ga, VJ7_fill_53178_5 E d g P ca a2 (0 : Int32) (Int32.ofNat nca) h) : SpV E d MJ7_fill_53178 [.ref (eA E ca), .int a2] h P := by
  refine SpV.of (lv0 := [(0, .ref (eA E ca)), (1, .int a2)]) (by decide) (Nat.le_of_ble_eq_true rfl) rfl (fun g => ?_)
  have t := t g
  refine r_iconst (v := (0 : Int32)) dJ7_fill_53178_0 rfl ?_
  refine r_istore_n (lv' := [(2, .int (0 : Int32)), (0, .ref (eA E ca)), (1, .int a2)]) dJ7_fill_53178_1 rfl (by decide) rfl ?_
  refine r_aload_n (q := 1) dJ7_fill_53178_2 rfl rfl ?_
  refine r_alen (c := ca) (v := Int32.ofNat nca) dJ7_fill_53178_3 hca (by decide) rfl ?_
  refine r_istore_n (lv' := [(3, .int (Int32.ofNat nca)), (2, .int (0 : Int32)), (0, .ref (eA E ca)), (1, .int a2)]) dJ7_fill_53178_4 rfl (by decide) rfl ?_
  refine r_sub [2, 3, 1, 0] rfl ?_
  exact t
set_option maxRecDepth 20000 in
theorem sg_J7_fill_53178_5 (E : En) (d : Nat) (g : Ga) (ca nca : Nat) (hca : lay[ca]? = some (.inr (0, nca))) (x1 : Int32) (x2 : Int32) (x3 : Int32) (h : Hp) (P : Hp → Prop) (t : (x3 ≤ x2 → (P h)) ∧ (¬ x3 ≤ x2 → (vp_in x2 nca ∧ (VJ7_fill_53178_5 E d g P ca x1 (x2 + (1 : Int32)) x3 (sI h ca x2.toNatClampNeg x1))))) : VJ7_fill_53178_5 E d g P ca x1 x2 x3 h := by
  refine r_iload_n (q := 2) dJ7_fill_53178_5 rfl rfl ?_
  refine r_iload_n (q := 3) dJ7_fill_53178_6 rfl rfl ?_
  refine r_icmp_ge (tgt := 20) dJ7_fill_53178_7 (by decide) (fun q1 => ?_) (fun q1 => ?_)
  · have t := t.1 q1
    exact r_vret dJ7_fill_53178_20 rfl t
  · have t := t.2 q1
    refine r_aload_n (q := 0) dJ7_fill_53178_10 rfl rfl ?_
    refine r_iload_n (q := 2) dJ7_fill_53178_11 rfl rfl ?_
    refine r_iload_n (q := 1) dJ7_fill_53178_12 rfl rfl ?_
    obtain ⟨c2, t⟩ := t
    refine r_iast (c := ca) dJ7_fill_53178_13 hca c2 ?_
    refine r_iinc (k := 2) (v := x2 + (1 : Int32)) (lv' := [(2, .int (x2 + (1 : Int32))), (0, .ref (eA E ca)), (1, .int x1), (3, .int x3)]) dJ7_fill_53178_14 rfl rfl (by decide) rfl ?_
    refine r_goto (tgt := 5) dJ7_fill_53178_17 (by decide) ?_
    refine r_sub [1, 2, 0, 3] rfl ?_
    exact t
theorem dJ0_coder_7d493_0 : decode cJ0_coder_7d493 0 = .ok (.getstatic 38, 3) := by decide +kernel
theorem dJ0_coder_7d493_3 : decode cJ0_coder_7d493 3 = .ok (.ifCond .eq 10, 3) := by decide +kernel
theorem dJ0_coder_7d493_6 : decode cJ0_coder_7d493 6 = .ok (.aload_n 0, 1) := by decide +kernel
theorem dJ0_coder_7d493_7 : decode cJ0_coder_7d493 7 = .ok (.getfield 15, 3) := by decide +kernel
theorem dJ0_coder_7d493_10 : decode cJ0_coder_7d493 10 = .ok (.goto 4, 3) := by decide +kernel
theorem dJ0_coder_7d493_13 : decode cJ0_coder_7d493 13 = .ok (.iconst 1, 1) := by decide +kernel
theorem dJ0_coder_7d493_14 : decode cJ0_coder_7d493 14 = .ok (.ireturn, 1) := by decide +kernel
set_option maxRecDepth 20000 in
theorem wp_J0_coder_7d493 (E : En) (d : Nat) (i : Nat) (hi : i < 8) (h : Hp) (P : Int32 → Hp → Prop) (t : ((1 : Int32) = 0 → (P (1 : Int32) h)) ∧ (¬ (1 : Int32) = 0 → (P (0 : Int32) h))) : SpI E d MJ0_coder_7d493 [.ref (eK E i)] h P := by
  refine SpI.of (lv0 := [(0, .ref (eK E i))]) (by decide) (Nat.le_of_ble_eq_true rfl) rfl (fun g => ?_)
  refine r_cs dJ0_coder_7d493_0 fjJ0_38 ?_
  refine r_if_eq (tgt := 13) dJ0_coder_7d493_3 (by decide) (fun q1 => ?_) (fun q1 => ?_)
  · have t := t.1 q1
    refine r_iconst (v := (1 : Int32)) dJ0_coder_7d493_13 rfl ?_
    exact r_nret dJ0_coder_7d493_14 rfl (by decide) t
  · have t := t.2 q1
    refine r_aload_n (q := 0) dJ0_coder_7d493_6 rfl rfl ?_
    refine r_kcod (i := i) dJ0_coder_7d493_7 fjJ0_15 hi ?_
    refine r_goto (tgt := 14) dJ0_coder_7d493_10 (by decide) ?_
    exact r_nret dJ0_coder_7d493_14 rfl (by decide) t
theorem dJ0_isLatin1_aae02_0 : decode cJ0_isLatin1_aae02 0 = .ok (.getstatic 38, 3) := by decide +kernel
theorem dJ0_isLatin1_aae02_3 : decode cJ0_isLatin1_aae02 3 = .ok (.ifCond .eq 14, 3) := by decide +kernel
theorem dJ0_isLatin1_aae02_6 : decode cJ0_isLatin1_aae02 6 = .ok (.aload_n 0, 1) := by decide +kernel
theorem dJ0_isLatin1_aae02_7 : decode cJ0_isLatin1_aae02 7 = .ok (.getfield 15, 3) := by decide +kernel
theorem dJ0_isLatin1_aae02_10 : decode cJ0_isLatin1_aae02 10 = .ok (.ifCond .ne 7, 3) := by decide +kernel
theorem dJ0_isLatin1_aae02_13 : decode cJ0_isLatin1_aae02 13 = .ok (.iconst 1, 1) := by decide +kernel
theorem dJ0_isLatin1_aae02_14 : decode cJ0_isLatin1_aae02 14 = .ok (.goto 4, 3) := by decide +kernel
theorem dJ0_isLatin1_aae02_17 : decode cJ0_isLatin1_aae02 17 = .ok (.iconst 0, 1) := by decide +kernel
theorem dJ0_isLatin1_aae02_18 : decode cJ0_isLatin1_aae02 18 = .ok (.ireturn, 1) := by decide +kernel
set_option maxRecDepth 20000 in
theorem wp_J0_isLatin1_aae02 (E : En) (d : Nat) (i : Nat) (hi : i < 8) (h : Hp) (P : Int32 → Hp → Prop) (t : ((1 : Int32) = 0 → (P (0 : Int32) h)) ∧ (¬ (1 : Int32) = 0 → ((¬ (0 : Int32) = 0 → (P (0 : Int32) h)) ∧ ((0 : Int32) = 0 → (P (1 : Int32) h))))) : SpI E d MJ0_isLatin1_aae02 [.ref (eK E i)] h P := by
  refine SpI.of (lv0 := [(0, .ref (eK E i))]) (by decide) (Nat.le_of_ble_eq_true rfl) rfl (fun g => ?_)
  refine r_cs dJ0_isLatin1_aae02_0 fjJ0_38 ?_
  refine r_if_eq (tgt := 17) dJ0_isLatin1_aae02_3 (by decide) (fun q1 => ?_) (fun q1 => ?_)
  · have t := t.1 q1
    refine r_iconst (v := (0 : Int32)) dJ0_isLatin1_aae02_17 rfl ?_
    exact r_zret dJ0_isLatin1_aae02_18 rfl (Or.inl rfl) t
  · have t := t.2 q1
    refine r_aload_n (q := 0) dJ0_isLatin1_aae02_6 rfl rfl ?_
    refine r_kcod (i := i) dJ0_isLatin1_aae02_7 fjJ0_15 hi ?_
    refine r_if_ne (tgt := 17) dJ0_isLatin1_aae02_10 (by decide) (fun q2 => ?_) (fun q2 => ?_)
    · have t := t.1 q2
      refine r_iconst (v := (0 : Int32)) dJ0_isLatin1_aae02_17 rfl ?_
      exact r_zret dJ0_isLatin1_aae02_18 rfl (Or.inl rfl) t
    · have t := t.2 q2
      refine r_iconst (v := (1 : Int32)) dJ0_isLatin1_aae02_13 rfl ?_
      refine r_goto (tgt := 18) dJ0_isLatin1_aae02_14 (by decide) ?_
      exact r_zret dJ0_isLatin1_aae02_18 rfl (Or.inr rfl) t
theorem dJ0_length_8abf5_0 : decode cJ0_length_8abf5 0 = .ok (.aload_n 0, 1) := by decide +kernel
theorem dJ0_length_8abf5_1 : decode cJ0_length_8abf5 1 = .ok (.getfield 9, 3) := by decide +kernel
theorem dJ0_length_8abf5_4 : decode cJ0_length_8abf5 4 = .ok (.arraylength, 1) := by decide +kernel
theorem dJ0_length_8abf5_5 : decode cJ0_length_8abf5 5 = .ok (.aload_n 0, 1) := by decide +kernel
theorem dJ0_length_8abf5_6 : decode cJ0_length_8abf5 6 = .ok (.invokevirtual 335, 3) := by decide +kernel
theorem dJ0_length_8abf5_9 : decode cJ0_length_8abf5 9 = .ok (.ishr, 1) := by decide +kernel
theorem dJ0_length_8abf5_10 : decode cJ0_length_8abf5 10 = .ok (.ireturn, 1) := by decide +kernel
set_option maxRecDepth 20000 in
theorem wp_J0_length_8abf5 (E : En) (d : Nat) (i : Nat) (hi : i < 8) (h : Hp) (P : Int32 → Hp → Prop) (t : SpI E d MJ0_coder_7d493 [.ref (eK E i)] h (fun v1 h1 => P ((Int32.ofNat (slen.getD i 0)) >>> (v1 &&& 31)) h1)) : SpI E (d + 1) MJ0_length_8abf5 [.ref (eK E i)] h P := by
  refine SpI.of (lv0 := [(0, .ref (eK E i))]) (by decide) (Nat.le_of_ble_eq_true rfl) rfl (fun g => ?_)
  refine r_aload_n (q := 0) dJ0_length_8abf5_0 rfl rfl ?_
  refine r_kval (i := i) dJ0_length_8abf5_1 fjJ0_9 hi ?_
  refine r_vlen (i := i) dJ0_length_8abf5_4 hi ?_
  refine r_aload_n (q := 0) dJ0_length_8abf5_5 rfl rfl ?_
  refine r_kVI (i := i) (As := []) dJ0_length_8abf5_6 mkJ0_coder_7d493 lkJ0_335 hi rfl (by decide) rfl (Nat.le_of_ble_eq_true rfl) z00 rfl t ?_
  intro v1 h1 t
  refine r_ishr dJ0_length_8abf5_9 ?_
  exact r_iret dJ0_length_8abf5_10 rfl t
theorem dJ3_checkIndex_8e157_0 : decode cJ3_checkIndex_8e157 0 = .ok (.iload_n 0, 1) := by decide +kernel
theorem dJ3_checkIndex_8e157_1 : decode cJ3_checkIndex_8e157 1 = .ok (.ifCond .lt 8, 3) := by decide +kernel
theorem dJ3_checkIndex_8e157_4 : decode cJ3_checkIndex_8e157 4 = .ok (.iload_n 0, 1) := by decide +kernel
theorem dJ3_checkIndex_8e157_5 : decode cJ3_checkIndex_8e157 5 = .ok (.iload_n 1, 1) := by decide +kernel
theorem dJ3_checkIndex_8e157_6 : decode cJ3_checkIndex_8e157 6 = .ok (.if_icmp .lt 10, 3) := by decide +kernel
theorem dJ3_checkIndex_8e157_9 : decode cJ3_checkIndex_8e157 9 = .ok (.aload_n 2, 1) := by decide +kernel
theorem dJ3_checkIndex_8e157_10 : decode cJ3_checkIndex_8e157 10 = .ok (.iload_n 0, 1) := by decide +kernel
theorem dJ3_checkIndex_8e157_11 : decode cJ3_checkIndex_8e157 11 = .ok (.iload_n 1, 1) := by decide +kernel
theorem dJ3_checkIndex_8e157_12 : decode cJ3_checkIndex_8e157 12 = .ok (.invokestatic 95, 3) := by decide +kernel
theorem dJ3_checkIndex_8e157_15 : decode cJ3_checkIndex_8e157 15 = .ok (.athrow, 1) := by decide +kernel
theorem dJ3_checkIndex_8e157_16 : decode cJ3_checkIndex_8e157 16 = .ok (.iload_n 0, 1) := by decide +kernel
theorem dJ3_checkIndex_8e157_17 : decode cJ3_checkIndex_8e157 17 = .ok (.ireturn, 1) := by decide +kernel
set_option maxRecDepth 20000 in
theorem wp_J3_checkIndex_n (E : En) (d : Nat) (a1 : Int32) (a2 : Int32) (h : Hp) (P : Int32 → Hp → Prop) (t : (a1 < 0 → (False)) ∧ (¬ a1 < 0 → ((a1 < a2 → (P a1 h)) ∧ (¬ a1 < a2 → (False))))) : SpI E (d + 1) MJ3_checkIndex_8e157 [.int a1, .int a2, .null] h P := by
  refine SpI.of (lv0 := [(0, .int a1), (1, .int a2), (2, .null)]) (by decide) (Nat.le_of_ble_eq_true rfl) rfl (fun g => ?_)
  refine r_iload_n (q := 0) dJ3_checkIndex_8e157_0 rfl rfl ?_
  refine r_if_lt (tgt := 9) dJ3_checkIndex_8e157_1 (by decide) (fun q1 => ?_) (fun q1 => ?_)
  · have t := t.1 q1
    exact t.elim
  · have t := t.2 q1
    refine r_iload_n (q := 0) dJ3_checkIndex_8e157_4 rfl rfl ?_
    refine r_iload_n (q := 1) dJ3_checkIndex_8e157_5 rfl rfl ?_
    refine r_icmp_lt (tgt := 16) dJ3_checkIndex_8e157_6 (by decide) (fun q2 => ?_) (fun q2 => ?_)
    · have t := t.1 q2
      refine r_iload_n (q := 0) dJ3_checkIndex_8e157_16 rfl rfl ?_
      exact r_iret dJ3_checkIndex_8e157_17 rfl t
    · have t := t.2 q2
      exact t.elim
set_option maxRecDepth 20000 in
theorem wp_J3_checkIndex_r (E : En) (d : Nat) (q : Nat) (a1 : Int32) (a2 : Int32) (h : Hp) (P : Int32 → Hp → Prop) (t : (a1 < 0 → (False)) ∧ (¬ a1 < 0 → ((a1 < a2 → (P a1 h)) ∧ (¬ a1 < a2 → (False))))) : SpI E (d + 1) MJ3_checkIndex_8e157 [.int a1, .int a2, .ref q] h P := by
  refine SpI.of (lv0 := [(0, .int a1), (1, .int a2), (2, .ref q)]) (by decide) (Nat.le_of_ble_eq_true rfl) rfl (fun g => ?_)
  refine r_iload_n (q := 0) dJ3_checkIndex_8e157_0 rfl rfl ?_
  refine r_if_lt (tgt := 9) dJ3_checkIndex_8e157_1 (by decide) (fun q1 => ?_) (fun q1 => ?_)
  · have t := t.1 q1
    exact t.elim
  · have t := t.2 q1
    refine r_iload_n (q := 0) dJ3_checkIndex_8e157_4 rfl rfl ?_
    refine r_iload_n (q := 1) dJ3_checkIndex_8e157_5 rfl rfl ?_
    refine r_icmp_lt (tgt := 16) dJ3_checkIndex_8e157_6 (by decide) (fun q2 => ?_) (fun q2 => ?_)
    · have t := t.1 q2
      refine r_iload_n (q := 0) dJ3_checkIndex_8e157_16 rfl rfl ?_
      exact r_iret dJ3_checkIndex_8e157_17 rfl t
    · have t := t.2 q2
      exact t.elim
theorem dJ0_checkIndex_df160_0 : decode cJ0_checkIndex_df160 0 = .ok (.iload_n 0, 1) := by decide +kernel
theorem dJ0_checkIndex_df160_1 : decode cJ0_checkIndex_df160 1 = .ok (.iload_n 1, 1) := by decide +kernel
theorem dJ0_checkIndex_df160_2 : decode cJ0_checkIndex_df160 2 = .ok (.getstatic 1053, 3) := by decide +kernel
theorem dJ0_checkIndex_df160_5 : decode cJ0_checkIndex_df160 5 = .ok (.invokestatic 1059, 3) := by decide +kernel
theorem dJ0_checkIndex_df160_8 : decode cJ0_checkIndex_df160 8 = .ok (.pop, 1) := by decide +kernel
theorem dJ0_checkIndex_df160_9 : decode cJ0_checkIndex_df160 9 = .ok (.return_, 1) := by decide +kernel
set_option maxRecDepth 20000 in
theorem wp_J0_checkIndex_df160 (E : En) (d : Nat) (a1 : Int32) (a2 : Int32) (h : Hp) (P : Hp → Prop) (t : (SpI E d MJ3_checkIndex_8e157 [.int a1, .int a2, .null] h (fun v1 h1 => P h1)) ∧ (∀ q : Nat, SpI E d MJ3_checkIndex_8e157 [.int a1, .int a2, .ref q] h (fun v2 h2 => P h2))) : SpV E (d + 1) MJ0_checkIndex_df160 [.int a1, .int a2] h P := by
  refine SpV.of (lv0 := [(0, .int a1), (1, .int a2)]) (by decide) (Nat.le_of_ble_eq_true rfl) rfl (fun g => ?_)
  refine r_iload_n (q := 0) dJ0_checkIndex_df160_0 rfl rfl ?_
  refine r_iload_n (q := 1) dJ0_checkIndex_df160_1 rfl rfl ?_
  refine r_sio dJ0_checkIndex_df160_2 fjJ0_1053 (fun v hv => ?_)
  rcases hv with rfl | ⟨q, rfl⟩
  · have t := t.1
    refine r_cSI (As := [.int a1, .int a2, .null]) dJ0_checkIndex_df160_5 mkJ3_checkIndex_8e157 lkJ0_1059 rfl (by decide) rfl (Nat.le_of_ble_eq_true rfl) z00 t ?_
    intro v1 h1 t
    refine r_pop dJ0_checkIndex_df160_8 rfl ?_
    exact r_vret dJ0_checkIndex_df160_9 rfl t
  · have t := t.2 q
    refine r_cSI (As := [.int a1, .int a2, .ref q]) dJ0_checkIndex_df160_5 mkJ3_checkIndex_8e157 lkJ0_1059 rfl (by decide) rfl (Nat.le_of_ble_eq_true rfl) z00 t ?_
    intro v2 h2 t
    refine r_pop dJ0_checkIndex_df160_8 rfl ?_
    exact r_vret dJ0_checkIndex_df160_9 rfl t
theorem dJ1_charAt_3b067_0 : decode cJ1_charAt_3b067 0 = .ok (.iload_n 1, 1) := by decide +kernel
theorem dJ1_charAt_3b067_1 : decode cJ1_charAt_3b067 1 = .ok (.aload_n 0, 1) := by decide +kernel
theorem dJ1_charAt_3b067_2 : decode cJ1_charAt_3b067 2 = .ok (.arraylength, 1) := by decide +kernel
theorem dJ1_charAt_3b067_3 : decode cJ1_charAt_3b067 3 = .ok (.invokestatic 9, 3) := by decide +kernel
theorem dJ1_charAt_3b067_6 : decode cJ1_charAt_3b067 6 = .ok (.aload_n 0, 1) := by decide +kernel
theorem dJ1_charAt_3b067_7 : decode cJ1_charAt_3b067 7 = .ok (.iload_n 1, 1) := by decide +kernel
theorem dJ1_charAt_3b067_8 : decode cJ1_charAt_3b067 8 = .ok (.baload, 1) := by decide +kernel
theorem dJ1_charAt_3b067_9 : decode cJ1_charAt_3b067 9 = .ok (.sipush 255, 3) := by decide +kernel
theorem dJ1_charAt_3b067_12 : decode cJ1_charAt_3b067 12 = .ok (.iand, 1) := by decide +kernel
theorem dJ1_charAt_3b067_13 : decode cJ1_charAt_3b067 13 = .ok (.i2c, 1) := by decide +kernel
theorem dJ1_charAt_3b067_14 : decode cJ1_charAt_3b067 14 = .ok (.ireturn, 1) := by decide +kernel
set_option maxRecDepth 20000 in
theorem wp_J1_charAt_3b067 (E : En) (d : Nat) (i : Nat) (hi : i < 8) (a2 : Int32) (h : Hp) (P : Int32 → Hp → Prop) (t : SpV E d MJ0_checkIndex_df160 [.int a2, .int (Int32.ofNat (slen.getD i 0))] h (fun h1 => vp_in a2 (slen.getD i 0) ∧ (P (((((sbyt.getD i []).getD a2.toNatClampNeg 0) &&& (255 : Int32)).toUInt32 % 65536).toInt32) h1))) : SpI E (d + 1) MJ1_charAt_3b067 [.ref (eV E i), .int a2] h P := by
  refine SpI.of (lv0 := [(0, .ref (eV E i)), (1, .int a2)]) (by decide) (Nat.le_of_ble_eq_true rfl) rfl (fun g => ?_)
  refine r_iload_n (q := 1) dJ1_charAt_3b067_0 rfl rfl ?_
  refine r_aload_n (q := 0) dJ1_charAt_3b067_1 rfl rfl ?_
  refine r_vlen (i := i) dJ1_charAt_3b067_2 hi ?_
  refine r_cSV (As := [.int a2, .int (Int32.ofNat (slen.getD i 0))]) dJ1_charAt_3b067_3 mkJ0_checkIndex_df160 lkJ1_9 rfl (by decide) rfl (Nat.le_of_ble_eq_true rfl) z00 t ?_
  intro h1 t
  refine r_aload_n (q := 0) dJ1_charAt_3b067_6 rfl rfl ?_
  refine r_iload_n (q := 1) dJ1_charAt_3b067_7 rfl rfl ?_
  obtain ⟨c2, t⟩ := t
  refine r_vald (i := i) dJ1_charAt_3b067_8 hi c2 ?_
  refine r_sipush (v := (255 : Int32)) dJ1_charAt_3b067_9 rfl ?_
  refine r_iand dJ1_charAt_3b067_12 ?_
  refine r_i2c dJ1_charAt_3b067_13 ?_
  exact r_nret dJ1_charAt_3b067_14 rfl (pk_nc _) t
theorem dJ0_charAt_5068e_0 : decode cJ0_charAt_5068e 0 = .ok (.aload_n 0, 1) := by decide +kernel
theorem dJ0_charAt_5068e_1 : decode cJ0_charAt_5068e 1 = .ok (.invokevirtual 492, 3) := by decide +kernel
theorem dJ0_charAt_5068e_4 : decode cJ0_charAt_5068e 4 = .ok (.ifCond .eq 12, 3) := by decide +kernel
theorem dJ0_charAt_5068e_7 : decode cJ0_charAt_5068e 7 = .ok (.aload_n 0, 1) := by decide +kernel
theorem dJ0_charAt_5068e_8 : decode cJ0_charAt_5068e 8 = .ok (.getfield 9, 3) := by decide +kernel
theorem dJ0_charAt_5068e_11 : decode cJ0_charAt_5068e 11 = .ok (.iload_n 1, 1) := by decide +kernel
theorem dJ0_charAt_5068e_12 : decode cJ0_charAt_5068e 12 = .ok (.invokestatic 495, 3) := by decide +kernel
theorem dJ0_charAt_5068e_15 : decode cJ0_charAt_5068e 15 = .ok (.ireturn, 1) := by decide +kernel
theorem dJ0_charAt_5068e_16 : decode cJ0_charAt_5068e 16 = .ok (.aload_n 0, 1) := by decide +kernel
theorem dJ0_charAt_5068e_17 : decode cJ0_charAt_5068e 17 = .ok (.getfield 9, 3) := by decide +kernel
theorem dJ0_charAt_5068e_20 : decode cJ0_charAt_5068e 20 = .ok (.iload_n 1, 1) := by decide +kernel
theorem dJ0_charAt_5068e_21 : decode cJ0_charAt_5068e 21 = .ok (.invokestatic 498, 3) := by decide +kernel
theorem dJ0_charAt_5068e_24 : decode cJ0_charAt_5068e 24 = .ok (.ireturn, 1) := by decide +kernel
set_option maxRecDepth 20000 in
theorem wp_J0_charAt_5068e (E : En) (d : Nat) (i : Nat) (hi : i < 8) (a1 : Int32) (h : Hp) (P : Int32 → Hp → Prop) (t : SpI E d MJ0_isLatin1_aae02 [.ref (eK E i)] h (fun v1 h1 => (v1 = 0 → (False)) ∧ (¬ v1 = 0 → (SpI E d MJ1_charAt_3b067 [.ref (eV E i), .int a1] h1 (fun v3 h3 => narrow .char (.int v3) = .int v3 ∧ P v3 h3))))) : SpI E (d + 1) MJ0_charAt_5068e [.ref (eK E i), .int a1] h P := by
  refine SpI.of (lv0 := [(0, .ref (eK E i)), (1, .int a1)]) (by decide) (Nat.le_of_ble_eq_true rfl) rfl (fun g => ?_)
  refine r_aload_n (q := 0) dJ0_charAt_5068e_0 rfl rfl ?_
  refine r_kVI (i := i) (As := []) dJ0_charAt_5068e_1 mkJ0_isLatin1_aae02 lkJ0_492 hi rfl (by decide) rfl (Nat.le_of_ble_eq_true rfl) z00 rfl t ?_
  intro v1 h1 t
  refine r_if_eq (tgt := 16) dJ0_charAt_5068e_4 (by decide) (fun q2 => ?_) (fun q2 => ?_)
  · have t := t.1 q2
    exact t.elim
  · have t := t.2 q2
    refine r_aload_n (q := 0) dJ0_charAt_5068e_7 rfl rfl ?_
    refine r_kval (i := i) dJ0_charAt_5068e_8 fjJ0_9 hi ?_
    refine r_iload_n (q := 1) dJ0_charAt_5068e_11 rfl rfl ?_
    refine r_cSI (As := [.ref (eV E i), .int a1]) dJ0_charAt_5068e_12 mkJ1_charAt_3b067 lkJ0_495 rfl (by decide) rfl (Nat.le_of_ble_eq_true rfl) z00 t ?_
    intro v3 h3 t
    exact r_nret dJ0_charAt_5068e_15 rfl t.1 t.2
theorem dJ1_canEncode_9a6ad_0 : decode cJ1_canEncode_9a6ad 0 = .ok (.iload_n 0, 1) := by decide +kernel
theorem dJ1_canEncode_9a6ad_1 : decode cJ1_canEncode_9a6ad 1 = .ok (.ifCond .lt 14, 3) := by decide +kernel
theorem dJ1_canEncode_9a6ad_4 : decode cJ1_canEncode_9a6ad 4 = .ok (.iload_n 0, 1) := by decide +kernel
theorem dJ1_canEncode_9a6ad_5 : decode cJ1_canEncode_9a6ad 5 = .ok (.sipush 255, 3) := by decide +kernel
theorem dJ1_canEncode_9a6ad_8 : decode cJ1_canEncode_9a6ad 8 = .ok (.if_icmp .gt 7, 3) := by decide +kernel
theorem dJ1_canEncode_9a6ad_11 : decode cJ1_canEncode_9a6ad 11 = .ok (.iconst 1, 1) := by decide +kernel
theorem dJ1_canEncode_9a6ad_12 : decode cJ1_canEncode_9a6ad 12 = .ok (.goto 4, 3) := by decide +kernel
theorem dJ1_canEncode_9a6ad_15 : decode cJ1_canEncode_9a6ad 15 = .ok (.iconst 0, 1) := by decide +kernel
theorem dJ1_canEncode_9a6ad_16 : decode cJ1_canEncode_9a6ad 16 = .ok (.ireturn, 1) := by decide +kernel
set_option maxRecDepth 20000 in
theorem wp_J1_canEncode_9a6ad (E : En) (d : Nat) (a1 : Int32) (h : Hp) (P : Int32 → Hp → Prop) (t : (a1 < 0 → (P (0 : Int32) h)) ∧ (¬ a1 < 0 → (((255 : Int32) < a1 → (P (0 : Int32) h)) ∧ (¬ (255 : Int32) < a1 → (P (1 : Int32) h))))) : SpI E d MJ1_canEncode_9a6ad [.int a1] h P := by
  refine SpI.of (lv0 := [(0, .int a1)]) (by decide) (Nat.le_of_ble_eq_true rfl) rfl (fun g => ?_)
  refine r_iload_n (q := 0) dJ1_canEncode_9a6ad_0 rfl rfl ?_
  refine r_if_lt (tgt := 15) dJ1_canEncode_9a6ad_1 (by decide) (fun q1 => ?_) (fun q1 => ?_)
  · have t := t.1 q1
    refine r_iconst (v := (0 : Int32)) dJ1_canEncode_9a6ad_15 rfl ?_
    exact r_zret dJ1_canEncode_9a6ad_16 rfl (Or.inl rfl) t
  · have t := t.2 q1
    refine r_iload_n (q := 0) dJ1_canEncode_9a6ad_4 rfl rfl ?_
    refine r_sipush (v := (255 : Int32)) dJ1_canEncode_9a6ad_5 rfl ?_
    refine r_icmp_gt (tgt := 15) dJ1_canEncode_9a6ad_8 (by decide) (fun q2 => ?_) (fun q2 => ?_)
    · have t := t.1 q2
      refine r_iconst (v := (0 : Int32)) dJ1_canEncode_9a6ad_15 rfl ?_
      exact r_zret dJ1_canEncode_9a6ad_16 rfl (Or.inl rfl) t
    · have t := t.2 q2
      refine r_iconst (v := (1 : Int32)) dJ1_canEncode_9a6ad_11 rfl ?_
      refine r_goto (tgt := 16) dJ1_canEncode_9a6ad_12 (by decide) ?_
      exact r_zret dJ1_canEncode_9a6ad_16 rfl (Or.inr rfl) t
theorem dJ1_indexOfChar_4cfef_0 : decode cJ1_indexOfChar_4cfef 0 = .ok (.iload_n 1, 1) := by decide +kernel
theorem dJ1_indexOfChar_4cfef_1 : decode cJ1_indexOfChar_4cfef 1 = .ok (.i2b, 1) := by decide +kernel
theorem dJ1_indexOfChar_4cfef_2 : decode cJ1_indexOfChar_4cfef 2 = .ok (.istore 4, 2) := by decide +kernel
theorem dJ1_indexOfChar_4cfef_4 : decode cJ1_indexOfChar_4cfef 4 = .ok (.iload_n 2, 1) := by decide +kernel
theorem dJ1_indexOfChar_4cfef_5 : decode cJ1_indexOfChar_4cfef 5 = .ok (.istore 5, 2) := by decide +kernel
theorem dJ1_indexOfChar_4cfef_7 : decode cJ1_indexOfChar_4cfef 7 = .ok (.iload 5, 2) := by decide +kernel
theorem dJ1_indexOfChar_4cfef_9 : decode cJ1_indexOfChar_4cfef 9 = .ok (.iload_n 3, 1) := by decide +kernel
theorem dJ1_indexOfChar_4cfef_10 : decode cJ1_indexOfChar_4cfef 10 = .ok (.if_icmp .ge 21, 3) := by decide +kernel
theorem dJ1_indexOfChar_4cfef_13 : decode cJ1_indexOfChar_4cfef 13 = .ok (.aload_n 0, 1) := by decide +kernel
theorem dJ1_indexOfChar_4cfef_14 : decode cJ1_indexOfChar_4cfef 14 = .ok (.iload 5, 2) := by decide +kernel
theorem dJ1_indexOfChar_4cfef_16 : decode cJ1_indexOfChar_4cfef 16 = .ok (.baload, 1) := by decide +kernel
theorem dJ1_indexOfChar_4cfef_17 : decode cJ1_indexOfChar_4cfef 17 = .ok (.iload 4, 2) := by decide +kernel
theorem dJ1_indexOfChar_4cfef_19 : decode cJ1_indexOfChar_4cfef 19 = .ok (.if_icmp .ne 6, 3) := by decide +kernel
theorem dJ1_indexOfChar_4cfef_22 : decode cJ1_indexOfChar_4cfef 22 = .ok (.iload 5, 2) := by decide +kernel
theorem dJ1_indexOfChar_4cfef_24 : decode cJ1_indexOfChar_4cfef 24 = .ok (.ireturn, 1) := by decide +kernel
theorem dJ1_indexOfChar_4cfef_25 : decode cJ1_indexOfChar_4cfef 25 = .ok (.iinc 5 1, 3) := by decide +kernel
theorem dJ1_indexOfChar_4cfef_28 : decode cJ1_indexOfChar_4cfef 28 = .ok (.goto (-21), 3) := by decide +kernel
theorem dJ1_indexOfChar_4cfef_31 : decode cJ1_indexOfChar_4cfef 31 = .ok (.iconst (-1), 1) := by decide +kernel
theorem dJ1_indexOfChar_4cfef_32 : decode cJ1_indexOfChar_4cfef 32 = .ok (.ireturn, 1) := by decide +kernel
abbrev VJ1_indexOfChar_4cfef_7 (E : En) (d : Nat) (g : Ga) (P : Int32 → Hp → Prop) (i : Nat) (x1 : Int32) (x2 : Int32) (x3 : Int32) (x4 : Int32) (x5 : Int32) (h : Hp) : Prop := V E MJ1_indexOfChar_4cfef (RM d 0) g (QQ E g (QI E P) 0 0) 0 0 h 7 [(0, .ref (eV E i)), (1, .int x1), (2, .int x2), (3, .int x3), (4, .int x4), (5, .int x5)] []
set_option maxRecDepth 20000 in
theorem wp_J1_indexOfChar_4cfef (E : En) (d : Nat) (i : Nat) (hi : i < 8) (a2 : Int32) (a3 : Int32) (a4 : Int32) (h : Hp) (P : Int32 → Hp → Prop) (t : ∀ g : Ga, VJ1_indexOfChar_4cfef_7 E d g P i a2 a3 a4 a2.toInt8.toInt32 a3 h) : SpI E d MJ1_indexOfChar_4cfef [.ref (eV E i), .int a2, .int a3, .int a4] h P := by
  refine SpI.of (lv0 := [(0, .ref (eV E i)), (1, .int a2), (2, .int a3), (3, .int a4)]) (by decide) (Nat.le_of_ble_eq_true rfl) rfl (fun g => ?_)
  have t := t g
  refine r_iload_n (q := 1) dJ1_indexOfChar_4cfef_0 rfl rfl ?_
  refine r_i2b dJ1_indexOfChar_4cfef_1 ?_
  refine r_istore (lv' := [(4, .int a2.toInt8.toInt32), (0, .ref (eV E i)), (1, .int a2), (2, .int a3), (3, .int a4)]) dJ1_indexOfChar_4cfef_2 (by decide) rfl ?_
  refine r_iload_n (q := 3) dJ1_indexOfChar_4cfef_4 rfl rfl ?_
  refine r_istore (lv' := [(5, .int a3), (4, .int a2.toInt8.toInt32), (0, .ref (eV E i)), (1, .int a2), (2, .int a3), (3, .int a4)]) dJ1_indexOfChar_4cfef_5 (by decide) rfl ?_
  refine r_sub [2, 3, 4, 5, 1, 0] rfl ?_
  exact t
set_option maxRecDepth 20000 in
theorem sg_J1_indexOfChar_4cfef_7 (E : En) (d : Nat) (g : Ga) (i : Nat) (hi : i < 8) (x1 : Int32) (x2 : Int32) (x3 : Int32) (x4 : Int32) (x5 : Int32) (h : Hp) (P : Int32 → Hp → Prop) (t : (x3 ≤ x5 → (P (-1 : Int32) h)) ∧ (¬ x3 ≤ x5 → (vp_in x5 (slen.getD i 0) ∧ ((¬ ((sbyt.getD i []).getD x5.toNatClampNeg 0) = x4 → (VJ1_indexOfChar_4cfef_7 E d g P i x1 x2 x3 x4 (x5 + (1 : Int32)) h)) ∧ (((sbyt.getD i []).getD x5.toNatClampNeg 0) = x4 → (P x5 h)))))) : VJ1_indexOfChar_4cfef_7 E d g P i x1 x2 x3 x4 x5 h := by
  refine r_iload (q := 5) dJ1_indexOfChar_4cfef_7 rfl ?_
  refine r_iload_n (q := 3) dJ1_indexOfChar_4cfef_9 rfl rfl ?_
  refine r_icmp_ge (tgt := 31) dJ1_indexOfChar_4cfef_10 (by decide) (fun q1 => ?_) (fun q1 => ?_)
  · have t := t.1 q1
    refine r_iconst (v := (-1 : Int32)) dJ1_indexOfChar_4cfef_31 rfl ?_
    exact r_iret dJ1_indexOfChar_4cfef_32 rfl t
  · have t := t.2 q1
    refine r_aload_n (q := 0) dJ1_indexOfChar_4cfef_13 rfl rfl ?_
    refine r_iload (q := 5) dJ1_indexOfChar_4cfef_14 rfl ?_
    obtain ⟨c2, t⟩ := t
    refine r_vald (i := i) dJ1_indexOfChar_4cfef_16 hi c2 ?_
    refine r_iload (q := 4) dJ1_indexOfChar_4cfef_17 rfl ?_
    refine r_icmp_ne (tgt := 25) dJ1_indexOfChar_4cfef_19 (by decide) (fun q3 => ?_) (fun q3 => ?_)
    · have t := t.1 q3
      refine r_iinc (k := 5) (v := x5 + (1 : Int32)) (lv' := [(5, .int (x5 + (1 : Int32))), (0, .ref (eV E i)), (1, .int x1), (2, .int x2), (3, .int x3), (4, .int x4)]) dJ1_indexOfChar_4cfef_25 rfl rfl (by decide) rfl ?_
      refine r_goto (tgt := 7) dJ1_indexOfChar_4cfef_28 (by decide) ?_
      refine r_sub [1, 2, 3, 4, 5, 0] rfl ?_
      exact t
    · have t := t.2 q3
      refine r_iload (q := 5) dJ1_indexOfChar_4cfef_22 rfl ?_
      exact r_iret dJ1_indexOfChar_4cfef_24 rfl t
theorem dJ1_indexOf_4cfef_0 : decode cJ1_indexOf_4cfef 0 = .ok (.iload_n 1, 1) := by decide +kernel
theorem dJ1_indexOf_4cfef_1 : decode cJ1_indexOf_4cfef 1 = .ok (.invokestatic 88, 3) := by decide +kernel
theorem dJ1_indexOf_4cfef_4 : decode cJ1_indexOf_4cfef 4 = .ok (.ifCond .ne 5, 3) := by decide +kernel
theorem dJ1_indexOf_4cfef_7 : decode cJ1_indexOf_4cfef 7 = .ok (.iconst (-1), 1) := by decide +kernel
theorem dJ1_indexOf_4cfef_8 : decode cJ1_indexOf_4cfef 8 = .ok (.ireturn, 1) := by decide +kernel
theorem dJ1_indexOf_4cfef_9 : decode cJ1_indexOf_4cfef 9 = .ok (.iload_n 2, 1) := by decide +kernel
theorem dJ1_indexOf_4cfef_10 : decode cJ1_indexOf_4cfef 10 = .ok (.iconst 0, 1) := by decide +kernel
theorem dJ1_indexOf_4cfef_11 : decode cJ1_indexOf_4cfef 11 = .ok (.invokestatic 92, 3) := by decide +kernel
theorem dJ1_indexOf_4cfef_14 : decode cJ1_indexOf_4cfef 14 = .ok (.istore_n 2, 1) := by decide +kernel
theorem dJ1_indexOf_4cfef_15 : decode cJ1_indexOf_4cfef 15 = .ok (.iload_n 3, 1) := by decide +kernel
theorem dJ1_indexOf_4cfef_16 : decode cJ1_indexOf_4cfef 16 = .ok (.aload_n 0, 1) := by decide +kernel
theorem dJ1_indexOf_4cfef_17 : decode cJ1_indexOf_4cfef 17 = .ok (.arraylength, 1) := by decide +kernel
theorem dJ1_indexOf_4cfef_18 : decode cJ1_indexOf_4cfef 18 = .ok (.invokestatic 38, 3) := by decide +kernel
theorem dJ1_indexOf_4cfef_21 : decode cJ1_indexOf_4cfef 21 = .ok (.istore_n 3, 1) := by decide +kernel
theorem dJ1_indexOf_4cfef_22 : decode cJ1_indexOf_4cfef 22 = .ok (.iload_n 2, 1) := by decide +kernel
theorem dJ1_indexOf_4cfef_23 : decode cJ1_indexOf_4cfef 23 = .ok (.iload_n 3, 1) := by decide +kernel
theorem dJ1_indexOf_4cfef_24 : decode cJ1_indexOf_4cfef 24 = .ok (.if_icmp .lt 5, 3) := by decide +kernel
theorem dJ1_indexOf_4cfef_27 : decode cJ1_indexOf_4cfef 27 = .ok (.iconst (-1), 1) := by decide +kernel
theorem dJ1_indexOf_4cfef_28 : decode cJ1_indexOf_4cfef 28 = .ok (.ireturn, 1) := by decide +kernel
theorem dJ1_indexOf_4cfef_29 : decode cJ1_indexOf_4cfef 29 = .ok (.aload_n 0, 1) := by decide +kernel
theorem dJ1_indexOf_4cfef_30 : decode cJ1_indexOf_4cfef 30 = .ok (.iload_n 1, 1) := by decide +kernel
theorem dJ1_indexOf_4cfef_31 : decode cJ1_indexOf_4cfef 31 = .ok (.iload_n 2, 1) := by decide +kernel
theorem dJ1_indexOf_4cfef_32 : decode cJ1_indexOf_4cfef 32 = .ok (.iload_n 3, 1) := by decide +kernel
theorem dJ1_indexOf_4cfef_33 : decode cJ1_indexOf_4cfef 33 = .ok (.invokestatic 95, 3) := by decide +kernel
theorem dJ1_indexOf_4cfef_36 : decode cJ1_indexOf_4cfef 36 = .ok (.ireturn, 1) := by decide +kernel
set_option maxRecDepth 20000 in
theorem wp_J1_indexOf_4cfef (E : En) (d : Nat) (i : Nat) (hi : i < 8) (a2 : Int32) (a3 : Int32) (a4 : Int32) (h : Hp) (P : Int32 → Hp → Prop) (t : SpI E d MJ1_canEncode_9a6ad [.int a2] h (fun v1 h1 => (¬ v1 = 0 → (((if a3 < (0 : Int32) then (0 : Int32) else a3) < (if (Int32.ofNat (slen.getD i 0)) < a4 then (Int32.ofNat (slen.getD i 0)) else a4) → (SpI E d MJ1_indexOfChar_4cfef [.ref (eV E i), .int a2, .int (if a3 < (0 : Int32) then (0 : Int32) else a3), .int (if (Int32.ofNat (slen.getD i 0)) < a4 then (Int32.ofNat (slen.getD i 0)) else a4)] h1 (fun v4 h4 => P v4 h4))) ∧ (¬ (if a3 < (0 : Int32) then (0 : Int32) else a3) < (if (Int32.ofNat (slen.getD i 0)) < a4 then (Int32.ofNat (slen.getD i 0)) else a4) → (P (-1 : Int32) h1)))) ∧ (v1 = 0 → (P (-1 : Int32) h1)))) : SpI E (d + 1) MJ1_indexOf_4cfef [.ref (eV E i), .int a2, .int a3, .int a4] h P := by
  refine SpI.of (lv0 := [(0, .ref (eV E i)), (1, .int a2), (2, .int a3), (3, .int a4)]) (by decide) (Nat.le_of_ble_eq_true rfl) rfl (fun g => ?_)
  refine r_iload_n (q := 1) dJ1_indexOf_4cfef_0 rfl rfl ?_
  refine r_cSI (As := [.int a2]) dJ1_indexOf_4cfef_1 mkJ1_canEncode_9a6ad lkJ1_88 rfl (by decide) rfl (Nat.le_of_ble_eq_true rfl) z00 t ?_
  intro v1 h1 t
  refine r_if_ne (tgt := 9) dJ1_indexOf_4cfef_4 (by decide) (fun q2 => ?_) (fun q2 => ?_)
  · have t := t.1 q2
    refine r_iload_n (q := 2) dJ1_indexOf_4cfef_9 rfl rfl ?_
    refine r_iconst (v := (0 : Int32)) dJ1_indexOf_4cfef_10 rfl ?_
    refine r_max dJ1_indexOf_4cfef_11 lkJ1_92 (Nat.le_of_ble_eq_true rfl) z00 ?_
    refine r_istore_n (lv' := [(2, .int (if a3 < (0 : Int32) then (0 : Int32) else a3)), (0, .ref (eV E i)), (1, .int a2), (3, .int a4)]) dJ1_indexOf_4cfef_14 rfl (by decide) rfl ?_
    refine r_iload_n (q := 3) dJ1_indexOf_4cfef_15 rfl rfl ?_
    refine r_aload_n (q := 1) dJ1_indexOf_4cfef_16 rfl rfl ?_
    refine r_vlen (i := i) dJ1_indexOf_4cfef_17 hi ?_
    refine r_min dJ1_indexOf_4cfef_18 lkJ1_38 (Nat.le_of_ble_eq_true rfl) z00 ?_
    refine r_istore_n (lv' := [(3, .int (if (Int32.ofNat (slen.getD i 0)) < a4 then (Int32.ofNat (slen.getD i 0)) else a4)), (2, .int (if a3 < (0 : Int32) then (0 : Int32) else a3)), (0, .ref (eV E i)), (1, .int a2)]) dJ1_indexOf_4cfef_21 rfl (by decide) rfl ?_
    refine r_iload_n (q := 1) dJ1_indexOf_4cfef_22 rfl rfl ?_
    refine r_iload_n (q := 0) dJ1_indexOf_4cfef_23 rfl rfl ?_
    refine r_icmp_lt (tgt := 29) dJ1_indexOf_4cfef_24 (by decide) (fun q3 => ?_) (fun q3 => ?_)
    · have t := t.1 q3
      refine r_aload_n (q := 2) dJ1_indexOf_4cfef_29 rfl rfl ?_
      refine r_iload_n (q := 3) dJ1_indexOf_4cfef_30 rfl rfl ?_
      refine r_iload_n (q := 1) dJ1_indexOf_4cfef_31 rfl rfl ?_
      refine r_iload_n (q := 0) dJ1_indexOf_4cfef_32 rfl rfl ?_
      refine r_cSI (As := [.ref (eV E i), .int a2, .int (if a3 < (0 : Int32) then (0 : Int32) else a3), .int (if (Int32.ofNat (slen.getD i 0)) < a4 then (Int32.ofNat (slen.getD i 0)) else a4)]) dJ1_indexOf_4cfef_33 mkJ1_indexOfChar_4cfef lkJ1_95 rfl (by decide) rfl (Nat.le_of_ble_eq_true rfl) z00 t ?_
      intro v4 h4 t
      exact r_iret dJ1_indexOf_4cfef_36 rfl t
    · have t := t.2 q3
      refine r_iconst (v := (-1 : Int32)) dJ1_indexOf_4cfef_27 rfl ?_
      exact r_iret dJ1_indexOf_4cfef_28 rfl t
  · have t := t.2 q2
    refine r_iconst (v := (-1 : Int32)) dJ1_indexOf_4cfef_7 rfl ?_
    exact r_iret dJ1_indexOf_4cfef_8 rfl t
theorem dJ0_indexOf_7cf53_0 : decode cJ0_indexOf_7cf53 0 = .ok (.aload_n 0, 1) := by decide +kernel
theorem dJ0_indexOf_7cf53_1 : decode cJ0_indexOf_7cf53 1 = .ok (.invokevirtual 492, 3) := by decide +kernel
theorem dJ0_indexOf_7cf53_4 : decode cJ0_indexOf_7cf53 4 = .ok (.ifCond .eq 19, 3) := by decide +kernel
theorem dJ0_indexOf_7cf53_7 : decode cJ0_indexOf_7cf53 7 = .ok (.aload_n 0, 1) := by decide +kernel
theorem dJ0_indexOf_7cf53_8 : decode cJ0_indexOf_7cf53 8 = .ok (.getfield 9, 3) := by decide +kernel
theorem dJ0_indexOf_7cf53_11 : decode cJ0_indexOf_7cf53 11 = .ok (.iload_n 1, 1) := by decide +kernel
theorem dJ0_indexOf_7cf53_12 : decode cJ0_indexOf_7cf53 12 = .ok (.iload_n 2, 1) := by decide +kernel
theorem dJ0_indexOf_7cf53_13 : decode cJ0_indexOf_7cf53 13 = .ok (.aload_n 0, 1) := by decide +kernel
theorem dJ0_indexOf_7cf53_14 : decode cJ0_indexOf_7cf53 14 = .ok (.invokevirtual 505, 3) := by decide +kernel
theorem dJ0_indexOf_7cf53_17 : decode cJ0_indexOf_7cf53 17 = .ok (.invokestatic 637, 3) := by decide +kernel
theorem dJ0_indexOf_7cf53_20 : decode cJ0_indexOf_7cf53 20 = .ok (.goto 16, 3) := by decide +kernel
theorem dJ0_indexOf_7cf53_23 : decode cJ0_indexOf_7cf53 23 = .ok (.aload_n 0, 1) := by decide +kernel
theorem dJ0_indexOf_7cf53_24 : decode cJ0_indexOf_7cf53 24 = .ok (.getfield 9, 3) := by decide +kernel
theorem dJ0_indexOf_7cf53_27 : decode cJ0_indexOf_7cf53 27 = .ok (.iload_n 1, 1) := by decide +kernel
theorem dJ0_indexOf_7cf53_28 : decode cJ0_indexOf_7cf53 28 = .ok (.iload_n 2, 1) := by decide +kernel
theorem dJ0_indexOf_7cf53_29 : decode cJ0_indexOf_7cf53 29 = .ok (.aload_n 0, 1) := by decide +kernel
theorem dJ0_indexOf_7cf53_30 : decode cJ0_indexOf_7cf53 30 = .ok (.invokevirtual 505, 3) := by decide +kernel
theorem dJ0_indexOf_7cf53_33 : decode cJ0_indexOf_7cf53 33 = .ok (.invokestatic 640, 3) := by decide +kernel
theorem dJ0_indexOf_7cf53_36 : decode cJ0_indexOf_7cf53 36 = .ok (.ireturn, 1) := by decide +kernel
set_option maxRecDepth 20000 in
theorem wp_J0_indexOf_7cf53 (E : En) (d : Nat) (i : Nat) (hi : i < 8) (a1 : Int32) (a2 : Int32) (h : Hp) (P : Int32 → Hp → Prop) (t : SpI E d MJ0_isLatin1_aae02 [.ref (eK E i)] h (fun v1 h1 => (v1 = 0 → (False)) ∧ (¬ v1 = 0 → (SpI E d MJ0_length_8abf5 [.ref (eK E i)] h1 (fun v3 h3 => SpI E d MJ1_indexOf_4cfef [.ref (eV E i), .int a1, .int a2, .int v3] h3 (fun v4 h4 => P v4 h4)))))) : SpI E (d + 1) MJ0_indexOf_7cf53 [.ref (eK E i), .int a1, .int a2] h P := by
  refine SpI.of (lv0 := [(0, .ref (eK E i)), (1, .int a1), (2, .int a2)]) (by decide) (Nat.le_of_ble_eq_true rfl) rfl (fun g => ?_)
  refine r_aload_n (q := 0) dJ0_indexOf_7cf53_0 rfl rfl ?_
  refine r_kVI (i := i) (As := []) dJ0_indexOf_7cf53_1 mkJ0_isLatin1_aae02 lkJ0_492 hi rfl (by decide) rfl (Nat.le_of_ble_eq_true rfl) z00 rfl t ?_
  intro v1 h1 t
  refine r_if_eq (tgt := 23) dJ0_indexOf_7cf53_4 (by decide) (fun q2 => ?_) (fun q2 => ?_)
  · have t := t.1 q2
    exact t.elim
  · have t := t.2 q2
    refine r_aload_n (q := 0) dJ0_indexOf_7cf53_7 rfl rfl ?_
    refine r_kval (i := i) dJ0_indexOf_7cf53_8 fjJ0_9 hi ?_
    refine r_iload_n (q := 1) dJ0_indexOf_7cf53_11 rfl rfl ?_
    refine r_iload_n (q := 2) dJ0_indexOf_7cf53_12 rfl rfl ?_
    refine r_aload_n (q := 0) dJ0_indexOf_7cf53_13 rfl rfl ?_
    refine r_kVI (i := i) (As := []) dJ0_indexOf_7cf53_14 mkJ0_length_8abf5 lkJ0_505 hi rfl (by decide) rfl (Nat.le_of_ble_eq_true rfl) z00 rfl t ?_
    intro v3 h3 t
    refine r_cSI (As := [.ref (eV E i), .int a1, .int a2, .int v3]) dJ0_indexOf_7cf53_17 mkJ1_indexOf_4cfef lkJ0_637 rfl (by decide) rfl (Nat.le_of_ble_eq_true rfl) z00 t ?_
    intro v4 h4 t
    refine r_goto (tgt := 36) dJ0_indexOf_7cf53_20 (by decide) ?_
    exact r_iret dJ0_indexOf_7cf53_36 rfl t
theorem dJ0_indexOf_0f7a4_0 : decode cJ0_indexOf_0f7a4 0 = .ok (.aload_n 0, 1) := by decide +kernel
theorem dJ0_indexOf_0f7a4_1 : decode cJ0_indexOf_0f7a4 1 = .ok (.iload_n 1, 1) := by decide +kernel
theorem dJ0_indexOf_0f7a4_2 : decode cJ0_indexOf_0f7a4 2 = .ok (.iconst 0, 1) := by decide +kernel
theorem dJ0_indexOf_0f7a4_3 : decode cJ0_indexOf_0f7a4 3 = .ok (.invokevirtual 633, 3) := by decide +kernel
theorem dJ0_indexOf_0f7a4_6 : decode cJ0_indexOf_0f7a4 6 = .ok (.ireturn, 1) := by decide +kernel
set_option maxRecDepth 20000 in
theorem wp_J0_indexOf_0f7a4 (E : En) (d : Nat) (i : Nat) (hi : i < 8) (a1 : Int32) (h : Hp) (P : Int32 → Hp → Prop) (t : SpI E d MJ0_indexOf_7cf53 [.ref (eK E i), .int a1, .int (0 : Int32)] h (fun v1 h1 => P v1 h1)) : SpI E (d + 1) MJ0_indexOf_0f7a4 [.ref (eK E i), .int a1] h P := by
  refine SpI.of (lv0 := [(0, .ref (eK E i)), (1, .int a1)]) (by decide) (Nat.le_of_ble_eq_true rfl) rfl (fun g => ?_)
  refine r_aload_n (q := 0) dJ0_indexOf_0f7a4_0 rfl rfl ?_
  refine r_iload_n (q := 1) dJ0_indexOf_0f7a4_1 rfl rfl ?_
  refine r_iconst (v := (0 : Int32)) dJ0_indexOf_0f7a4_2 rfl ?_
  refine r_kVI (i := i) (As := [.int a1, .int (0 : Int32)]) dJ0_indexOf_0f7a4_3 mkJ0_indexOf_7cf53 lkJ0_633 hi rfl (by decide) rfl (Nat.le_of_ble_eq_true rfl) z00 rfl t ?_
  intro v1 h1 t
  exact r_iret dJ0_indexOf_0f7a4_6 rfl t
