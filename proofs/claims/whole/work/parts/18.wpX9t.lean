theorem dX9_outputByte_0 : decode cX9_outputByte 0 = .ok (.iload_n 1, 1) := by decide +kernel
theorem dX9_outputByte_1 : decode cX9_outputByte 1 = .ok (.ifCond .lt 14, 3) := by decide +kernel
theorem dX9_outputByte_4 : decode cX9_outputByte 4 = .ok (.iload_n 1, 1) := by decide +kernel
theorem dX9_outputByte_5 : decode cX9_outputByte 5 = .ok (.aload_n 0, 1) := by decide +kernel
theorem dX9_outputByte_6 : decode cX9_outputByte 6 = .ok (.getfield 19, 3) := by decide +kernel
theorem dX9_outputByte_9 : decode cX9_outputByte 9 = .ok (.getfield 114, 3) := by decide +kernel
theorem dX9_outputByte_12 : decode cX9_outputByte 12 = .ok (.if_icmp .lt 13, 3) := by decide +kernel
theorem dX9_outputByte_15 : decode cX9_outputByte 15 = .ok (.new 115, 3) := by decide +kernel
theorem dX9_outputByte_18 : decode cX9_outputByte 18 = .ok (.dup, 1) := by decide +kernel
theorem dX9_outputByte_19 : decode cX9_outputByte 19 = .ok (.ldc 117, 2) := by decide +kernel
theorem dX9_outputByte_21 : decode cX9_outputByte 21 = .ok (.invokespecial 119, 3) := by decide +kernel
theorem dX9_outputByte_24 : decode cX9_outputByte 24 = .ok (.athrow, 1) := by decide +kernel
theorem dX9_outputByte_25 : decode cX9_outputByte 25 = .ok (.aload_n 0, 1) := by decide +kernel
theorem dX9_outputByte_26 : decode cX9_outputByte 26 = .ok (.getfield 19, 3) := by decide +kernel
theorem dX9_outputByte_29 : decode cX9_outputByte 29 = .ok (.getfield 122, 3) := by decide +kernel
theorem dX9_outputByte_32 : decode cX9_outputByte 32 = .ok (.iload_n 1, 1) := by decide +kernel
theorem dX9_outputByte_33 : decode cX9_outputByte 33 = .ok (.baload, 1) := by decide +kernel
theorem dX9_outputByte_34 : decode cX9_outputByte 34 = .ok (.ireturn, 1) := by decide +kernel
set_option maxRecDepth 20000 in
theorem wp_X9_outputByte (E : En) (d : Nat) (a1 : Int32) (h : Hp) (P : Int32 → Hp → Prop) (PX : String → Hp → Prop) (t : (a1 < 0 → (PX "java/util/NoSuchElementException" h)) ∧ (¬ a1 < 0 → ((a1 < (h.1 3 1) → (vp_in a1 2232 ∧ (P (h.1 4 a1.toNatClampNeg) h))) ∧ (¬ a1 < (h.1 3 1) → (PX "java/util/NoSuchElementException" h))))) : SxI E (d + 6) 1 MX9_outputByte [.ref (eA E 0), .int a1] h P PX := by
  refine SxI.of (lv0 := [(0, .ref (eA E 0)), (1, .int a1)]) (by decide) (Nat.le_of_ble_eq_true rfl) rfl (fun g hnt => ?_)
  refine r_iload_n (q := 1) dX9_outputByte_0 rfl rfl ?_
  refine r_if_lt (tgt := 15) dX9_outputByte_1 (by decide) (fun q1 => ?_) (fun q1 => ?_)
  · have t := t.1 q1
    exact r_throwN (tx := "no such byte of the output") (by decide) rfl dX9_outputByte_15 dX9_outputByte_18 dX9_outputByte_19 dX9_outputByte_21 dX9_outputByte_24 (Nat.le_of_ble_eq_true rfl) (by decide) hnt t
  · have t := t.2 q1
    refine r_iload_n (q := 1) dX9_outputByte_4 rfl rfl ?_
    refine r_aload_n (q := 0) dX9_outputByte_5 rfl rfl ?_
    refine r_getR (c := 0) (c2 := 3) dX9_outputByte_6 flX9_19 lay_0 rfl ?_
    refine r_getI (c := 3) dX9_outputByte_9 flX9_114 lay_3 rfl ?_
    refine r_icmp_lt (tgt := 25) dX9_outputByte_12 (by decide) (fun q2 => ?_) (fun q2 => ?_)
    · have t := t.1 q2
      refine r_aload_n (q := 0) dX9_outputByte_25 rfl rfl ?_
      refine r_getR (c := 0) (c2 := 3) dX9_outputByte_26 flX9_19 lay_0 rfl ?_
      refine r_getR (c := 3) (c2 := 4) dX9_outputByte_29 flX9_122 lay_3 rfl ?_
      refine r_iload_n (q := 1) dX9_outputByte_32 rfl rfl ?_
      obtain ⟨c3, t⟩ := t
      refine r_bald (c := 4) dX9_outputByte_33 lay_4 c3 ?_
      exact r_xiret dX9_outputByte_34 rfl (by decide) t
    · have t := t.2 q2
      exact r_throwN (tx := "no such byte of the output") (by decide) rfl dX9_outputByte_15 dX9_outputByte_18 dX9_outputByte_19 dX9_outputByte_21 dX9_outputByte_24 (Nat.le_of_ble_eq_true rfl) (by decide) hnt t
theorem dX9_checkOperation_0 : decode cX9_checkOperation 0 = .ok (.iload_n 1, 1) := by decide +kernel
theorem dX9_checkOperation_1 : decode cX9_checkOperation 1 = .ok (.ifCond .lt 14, 3) := by decide +kernel
theorem dX9_checkOperation_4 : decode cX9_checkOperation 4 = .ok (.iload_n 1, 1) := by decide +kernel
theorem dX9_checkOperation_5 : decode cX9_checkOperation 5 = .ok (.aload_n 0, 1) := by decide +kernel
theorem dX9_checkOperation_6 : decode cX9_checkOperation 6 = .ok (.getfield 26, 3) := by decide +kernel
theorem dX9_checkOperation_9 : decode cX9_checkOperation 9 = .ok (.getfield 126, 3) := by decide +kernel
theorem dX9_checkOperation_12 : decode cX9_checkOperation 12 = .ok (.if_icmp .lt 13, 3) := by decide +kernel
theorem dX9_checkOperation_15 : decode cX9_checkOperation 15 = .ok (.new 178, 3) := by decide +kernel
theorem dX9_checkOperation_18 : decode cX9_checkOperation 18 = .ok (.dup, 1) := by decide +kernel
theorem dX9_checkOperation_19 : decode cX9_checkOperation 19 = .ok (.ldc 180, 2) := by decide +kernel
theorem dX9_checkOperation_21 : decode cX9_checkOperation 21 = .ok (.invokespecial 182, 3) := by decide +kernel
theorem dX9_checkOperation_24 : decode cX9_checkOperation 24 = .ok (.athrow, 1) := by decide +kernel
theorem dX9_checkOperation_25 : decode cX9_checkOperation 25 = .ok (.return_, 1) := by decide +kernel
set_option maxRecDepth 20000 in
theorem wp_X9_checkOperation (E : En) (d : Nat) (a1 : Int32) (h : Hp) (P : Hp → Prop) (PX : String → Hp → Prop) (t : (a1 < 0 → (PX "java/lang/IndexOutOfBoundsException" h)) ∧ (¬ a1 < 0 → ((a1 < (h.1 5 0) → (P h)) ∧ (¬ a1 < (h.1 5 0) → (PX "java/lang/IndexOutOfBoundsException" h))))) : SxV E (d + 6) 1 MX9_checkOperation [.ref (eA E 0), .int a1] h P PX := by
  refine SxV.of (lv0 := [(0, .ref (eA E 0)), (1, .int a1)]) (by decide) (Nat.le_of_ble_eq_true rfl) rfl (fun g hnt => ?_)
  refine r_iload_n (q := 1) dX9_checkOperation_0 rfl rfl ?_
  refine r_if_lt (tgt := 15) dX9_checkOperation_1 (by decide) (fun q1 => ?_) (fun q1 => ?_)
  · have t := t.1 q1
    exact r_throw (tx := "no such operation") thr_X (by decide) rfl dX9_checkOperation_15 dX9_checkOperation_18 dX9_checkOperation_19 dX9_checkOperation_21 dX9_checkOperation_24 (Nat.le_of_ble_eq_true rfl) (by decide) hnt t
  · have t := t.2 q1
    refine r_iload_n (q := 1) dX9_checkOperation_4 rfl rfl ?_
    refine r_aload_n (q := 0) dX9_checkOperation_5 rfl rfl ?_
    refine r_getR (c := 0) (c2 := 5) dX9_checkOperation_6 flX9_26 lay_0 rfl ?_
    refine r_getI (c := 5) dX9_checkOperation_9 flX9_126 lay_5 rfl ?_
    refine r_icmp_lt (tgt := 25) dX9_checkOperation_12 (by decide) (fun q2 => ?_) (fun q2 => ?_)
    · have t := t.1 q2
      exact r_xvret dX9_checkOperation_25 rfl (by decide) t
    · have t := t.2 q2
      exact r_throw (tx := "no such operation") thr_X (by decide) rfl dX9_checkOperation_15 dX9_checkOperation_18 dX9_checkOperation_19 dX9_checkOperation_21 dX9_checkOperation_24 (Nat.le_of_ble_eq_true rfl) (by decide) hnt t
theorem dX9_checkInstruction_0 : decode cX9_checkInstruction 0 = .ok (.iload_n 1, 1) := by decide +kernel
theorem dX9_checkInstruction_1 : decode cX9_checkInstruction 1 = .ok (.ifCond .lt 14, 3) := by decide +kernel
theorem dX9_checkInstruction_4 : decode cX9_checkInstruction 4 = .ok (.iload_n 1, 1) := by decide +kernel
theorem dX9_checkInstruction_5 : decode cX9_checkInstruction 5 = .ok (.aload_n 0, 1) := by decide +kernel
theorem dX9_checkInstruction_6 : decode cX9_checkInstruction 6 = .ok (.getfield 26, 3) := by decide +kernel
theorem dX9_checkInstruction_9 : decode cX9_checkInstruction 9 = .ok (.getfield 96, 3) := by decide +kernel
theorem dX9_checkInstruction_12 : decode cX9_checkInstruction 12 = .ok (.if_icmp .lt 13, 3) := by decide +kernel
theorem dX9_checkInstruction_15 : decode cX9_checkInstruction 15 = .ok (.new 178, 3) := by decide +kernel
theorem dX9_checkInstruction_18 : decode cX9_checkInstruction 18 = .ok (.dup, 1) := by decide +kernel
theorem dX9_checkInstruction_19 : decode cX9_checkInstruction 19 = .ok (.ldc 183, 2) := by decide +kernel
theorem dX9_checkInstruction_21 : decode cX9_checkInstruction 21 = .ok (.invokespecial 182, 3) := by decide +kernel
theorem dX9_checkInstruction_24 : decode cX9_checkInstruction 24 = .ok (.athrow, 1) := by decide +kernel
theorem dX9_checkInstruction_25 : decode cX9_checkInstruction 25 = .ok (.return_, 1) := by decide +kernel
set_option maxRecDepth 20000 in
theorem wp_X9_checkInstruction (E : En) (d : Nat) (a1 : Int32) (h : Hp) (P : Hp → Prop) (PX : String → Hp → Prop) (t : (a1 < 0 → (PX "java/lang/IndexOutOfBoundsException" h)) ∧ (¬ a1 < 0 → ((a1 < (h.1 5 8) → (P h)) ∧ (¬ a1 < (h.1 5 8) → (PX "java/lang/IndexOutOfBoundsException" h))))) : SxV E (d + 6) 1 MX9_checkInstruction [.ref (eA E 0), .int a1] h P PX := by
  refine SxV.of (lv0 := [(0, .ref (eA E 0)), (1, .int a1)]) (by decide) (Nat.le_of_ble_eq_true rfl) rfl (fun g hnt => ?_)
  refine r_iload_n (q := 1) dX9_checkInstruction_0 rfl rfl ?_
  refine r_if_lt (tgt := 15) dX9_checkInstruction_1 (by decide) (fun q1 => ?_) (fun q1 => ?_)
  · have t := t.1 q1
    exact r_throw (tx := "no such instruction") thr_X (by decide) rfl dX9_checkInstruction_15 dX9_checkInstruction_18 dX9_checkInstruction_19 dX9_checkInstruction_21 dX9_checkInstruction_24 (Nat.le_of_ble_eq_true rfl) (by decide) hnt t
  · have t := t.2 q1
    refine r_iload_n (q := 1) dX9_checkInstruction_4 rfl rfl ?_
    refine r_aload_n (q := 0) dX9_checkInstruction_5 rfl rfl ?_
    refine r_getR (c := 0) (c2 := 5) dX9_checkInstruction_6 flX9_26 lay_0 rfl ?_
    refine r_getI (c := 5) dX9_checkInstruction_9 flX9_96 lay_5 rfl ?_
    refine r_icmp_lt (tgt := 25) dX9_checkInstruction_12 (by decide) (fun q2 => ?_) (fun q2 => ?_)
    · have t := t.1 q2
      exact r_xvret dX9_checkInstruction_25 rfl (by decide) t
    · have t := t.2 q2
      exact r_throw (tx := "no such instruction") thr_X (by decide) rfl dX9_checkInstruction_15 dX9_checkInstruction_18 dX9_checkInstruction_19 dX9_checkInstruction_21 dX9_checkInstruction_24 (Nat.le_of_ble_eq_true rfl) (by decide) hnt t
theorem dX9_checkPosition_0 : decode cX9_checkPosition 0 = .ok (.aload_n 0, 1) := by decide +kernel
theorem dX9_checkPosition_1 : decode cX9_checkPosition 1 = .ok (.iload_n 1, 1) := by decide +kernel
theorem dX9_checkPosition_2 : decode cX9_checkPosition 2 = .ok (.invokevirtual 154, 3) := by decide +kernel
theorem dX9_checkPosition_5 : decode cX9_checkPosition 5 = .ok (.iload_n 2, 1) := by decide +kernel
theorem dX9_checkPosition_6 : decode cX9_checkPosition 6 = .ok (.ifCond .lt 16, 3) := by decide +kernel
theorem dX9_checkPosition_9 : decode cX9_checkPosition 9 = .ok (.iload_n 2, 1) := by decide +kernel
theorem dX9_checkPosition_10 : decode cX9_checkPosition 10 = .ok (.aload_n 0, 1) := by decide +kernel
theorem dX9_checkPosition_11 : decode cX9_checkPosition 11 = .ok (.getfield 26, 3) := by decide +kernel
theorem dX9_checkPosition_14 : decode cX9_checkPosition 14 = .ok (.getfield 157, 3) := by decide +kernel
theorem dX9_checkPosition_17 : decode cX9_checkPosition 17 = .ok (.iload_n 1, 1) := by decide +kernel
theorem dX9_checkPosition_18 : decode cX9_checkPosition 18 = .ok (.iaload, 1) := by decide +kernel
theorem dX9_checkPosition_19 : decode cX9_checkPosition 19 = .ok (.if_icmp .lt 13, 3) := by decide +kernel
theorem dX9_checkPosition_22 : decode cX9_checkPosition 22 = .ok (.new 178, 3) := by decide +kernel
theorem dX9_checkPosition_25 : decode cX9_checkPosition 25 = .ok (.dup, 1) := by decide +kernel
theorem dX9_checkPosition_26 : decode cX9_checkPosition 26 = .ok (.ldc 185, 2) := by decide +kernel
theorem dX9_checkPosition_28 : decode cX9_checkPosition 28 = .ok (.invokespecial 182, 3) := by decide +kernel
theorem dX9_checkPosition_31 : decode cX9_checkPosition 31 = .ok (.athrow, 1) := by decide +kernel
theorem dX9_checkPosition_32 : decode cX9_checkPosition 32 = .ok (.return_, 1) := by decide +kernel
set_option maxRecDepth 20000 in
theorem wp_X9_checkPosition (E : En) (d : Nat) (a1 : Int32) (a2 : Int32) (h : Hp) (P : Hp → Prop) (PX : String → Hp → Prop) (t : SxV E (d + 5) 1 MX9_checkInstruction [.ref (eA E 0), .int a1] h (fun h1 => (a2 < 0 → (PX "java/lang/IndexOutOfBoundsException" h1)) ∧ (¬ a2 < 0 → (vp_in a1 8 ∧ ((a2 < (h1.1 14 a1.toNatClampNeg) → (P h1)) ∧ (¬ a2 < (h1.1 14 a1.toNatClampNeg) → (PX "java/lang/IndexOutOfBoundsException" h1)))))) PX) : SxV E (d + 6) 2 MX9_checkPosition [.ref (eA E 0), .int a1, .int a2] h P PX := by
  refine SxV.of (lv0 := [(0, .ref (eA E 0)), (1, .int a1), (2, .int a2)]) (by decide) (Nat.le_of_ble_eq_true rfl) rfl (fun g hnt => ?_)
  refine r_aload_n (q := 0) dX9_checkPosition_0 rfl rfl ?_
  refine r_iload_n (q := 1) dX9_checkPosition_1 rfl rfl ?_
  refine r_xcVV (c := 0) (k1 := 1) (As := [.int a1]) dX9_checkPosition_2 mkX9_checkInstruction lkX9_154 lay_0 rfl rfl rfl (by decide) rfl (Nat.le_of_ble_eq_true rfl) (by decide) hnt t ?_
  intro h1 t
  refine r_iload_n (q := 2) dX9_checkPosition_5 rfl rfl ?_
  refine r_if_lt (tgt := 22) dX9_checkPosition_6 (by decide) (fun q2 => ?_) (fun q2 => ?_)
  · have t := t.1 q2
    exact r_throw (tx := "no such index into the source") thr_X (by decide) rfl dX9_checkPosition_22 dX9_checkPosition_25 dX9_checkPosition_26 dX9_checkPosition_28 dX9_checkPosition_31 (Nat.le_of_ble_eq_true rfl) (by decide) hnt t
  · have t := t.2 q2
    refine r_iload_n (q := 2) dX9_checkPosition_9 rfl rfl ?_
    refine r_aload_n (q := 0) dX9_checkPosition_10 rfl rfl ?_
    refine r_getR (c := 0) (c2 := 5) dX9_checkPosition_11 flX9_26 lay_0 rfl ?_
    refine r_getR (c := 5) (c2 := 14) dX9_checkPosition_14 flX9_157 lay_5 rfl ?_
    refine r_iload_n (q := 1) dX9_checkPosition_17 rfl rfl ?_
    obtain ⟨c3, t⟩ := t
    refine r_iald (c := 14) dX9_checkPosition_18 lay_14 c3 ?_
    refine r_icmp_lt (tgt := 32) dX9_checkPosition_19 (by decide) (fun q4 => ?_) (fun q4 => ?_)
    · have t := t.1 q4
      exact r_xvret dX9_checkPosition_32 rfl (by decide) t
    · have t := t.2 q4
      exact r_throw (tx := "no such index into the source") thr_X (by decide) rfl dX9_checkPosition_22 dX9_checkPosition_25 dX9_checkPosition_26 dX9_checkPosition_28 dX9_checkPosition_31 (Nat.le_of_ble_eq_true rfl) (by decide) hnt t
theorem dX9_checkAddress_0 : decode cX9_checkAddress 0 = .ok (.iload_n 1, 1) := by decide +kernel
theorem dX9_checkAddress_1 : decode cX9_checkAddress 1 = .ok (.ifCond .lt 14, 3) := by decide +kernel
theorem dX9_checkAddress_4 : decode cX9_checkAddress 4 = .ok (.iload_n 1, 1) := by decide +kernel
theorem dX9_checkAddress_5 : decode cX9_checkAddress 5 = .ok (.aload_n 0, 1) := by decide +kernel
theorem dX9_checkAddress_6 : decode cX9_checkAddress 6 = .ok (.getfield 57, 3) := by decide +kernel
theorem dX9_checkAddress_9 : decode cX9_checkAddress 9 = .ok (.getfield 192, 3) := by decide +kernel
theorem dX9_checkAddress_12 : decode cX9_checkAddress 12 = .ok (.if_icmp .lt 14, 3) := by decide +kernel
theorem dX9_checkAddress_15 : decode cX9_checkAddress 15 = .ok (.new 178, 3) := by decide +kernel
theorem dX9_checkAddress_18 : decode cX9_checkAddress 18 = .ok (.dup, 1) := by decide +kernel
theorem dX9_checkAddress_19 : decode cX9_checkAddress 19 = .ok (.ldc_w 264, 3) := by decide +kernel
theorem dX9_checkAddress_22 : decode cX9_checkAddress 22 = .ok (.invokespecial 182, 3) := by decide +kernel
theorem dX9_checkAddress_25 : decode cX9_checkAddress 25 = .ok (.athrow, 1) := by decide +kernel
theorem dX9_checkAddress_26 : decode cX9_checkAddress 26 = .ok (.return_, 1) := by decide +kernel
set_option maxRecDepth 20000 in
theorem wp_X9_checkAddress (E : En) (d : Nat) (a1 : Int32) (h : Hp) (P : Hp → Prop) (PX : String → Hp → Prop) (t : (a1 < 0 → (PX "java/lang/IndexOutOfBoundsException" h)) ∧ (¬ a1 < 0 → ((a1 < (h.1 46 4) → (P h)) ∧ (¬ a1 < (h.1 46 4) → (PX "java/lang/IndexOutOfBoundsException" h))))) : SxV E (d + 6) 1 MX9_checkAddress [.ref (eA E 0), .int a1] h P PX := by
  refine SxV.of (lv0 := [(0, .ref (eA E 0)), (1, .int a1)]) (by decide) (Nat.le_of_ble_eq_true rfl) rfl (fun g hnt => ?_)
  refine r_iload_n (q := 1) dX9_checkAddress_0 rfl rfl ?_
  refine r_if_lt (tgt := 15) dX9_checkAddress_1 (by decide) (fun q1 => ?_) (fun q1 => ?_)
  · have t := t.1 q1
    exact r_throwW (tx := "no such address") thr_X (by decide) rfl dX9_checkAddress_15 dX9_checkAddress_18 dX9_checkAddress_19 dX9_checkAddress_22 dX9_checkAddress_25 (Nat.le_of_ble_eq_true rfl) (by decide) hnt t
  · have t := t.2 q1
    refine r_iload_n (q := 1) dX9_checkAddress_4 rfl rfl ?_
    refine r_aload_n (q := 0) dX9_checkAddress_5 rfl rfl ?_
    refine r_getR (c := 0) (c2 := 46) dX9_checkAddress_6 flX9_57 lay_0 rfl ?_
    refine r_getI (c := 46) dX9_checkAddress_9 flX9_192 lay_46 rfl ?_
    refine r_icmp_lt (tgt := 26) dX9_checkAddress_12 (by decide) (fun q2 => ?_) (fun q2 => ?_)
    · have t := t.1 q2
      exact r_xvret dX9_checkAddress_26 rfl (by decide) t
    · have t := t.2 q2
      exact r_throwW (tx := "no such address") thr_X (by decide) rfl dX9_checkAddress_15 dX9_checkAddress_18 dX9_checkAddress_19 dX9_checkAddress_22 dX9_checkAddress_25 (Nat.le_of_ble_eq_true rfl) (by decide) hnt t
theorem dX9_checkRegister_0 : decode cX9_checkRegister 0 = .ok (.iload_n 1, 1) := by decide +kernel
theorem dX9_checkRegister_1 : decode cX9_checkRegister 1 = .ok (.ifCond .lt 9, 3) := by decide +kernel
theorem dX9_checkRegister_4 : decode cX9_checkRegister 4 = .ok (.iload_n 1, 1) := by decide +kernel
theorem dX9_checkRegister_5 : decode cX9_checkRegister 5 = .ok (.bipush 8, 2) := by decide +kernel
theorem dX9_checkRegister_7 : decode cX9_checkRegister 7 = .ok (.if_icmp .lt 14, 3) := by decide +kernel
theorem dX9_checkRegister_10 : decode cX9_checkRegister 10 = .ok (.new 178, 3) := by decide +kernel
theorem dX9_checkRegister_13 : decode cX9_checkRegister 13 = .ok (.dup, 1) := by decide +kernel
theorem dX9_checkRegister_14 : decode cX9_checkRegister 14 = .ok (.ldc_w 292, 3) := by decide +kernel
theorem dX9_checkRegister_17 : decode cX9_checkRegister 17 = .ok (.invokespecial 182, 3) := by decide +kernel
theorem dX9_checkRegister_20 : decode cX9_checkRegister 20 = .ok (.athrow, 1) := by decide +kernel
theorem dX9_checkRegister_21 : decode cX9_checkRegister 21 = .ok (.return_, 1) := by decide +kernel
set_option maxRecDepth 20000 in
theorem wp_X9_checkRegister (E : En) (d : Nat) (a1 : Int32) (h : Hp) (P : Hp → Prop) (PX : String → Hp → Prop) (t : (a1 < 0 → (PX "java/lang/IndexOutOfBoundsException" h)) ∧ (¬ a1 < 0 → ((a1 < (8 : Int32) → (P h)) ∧ (¬ a1 < (8 : Int32) → (PX "java/lang/IndexOutOfBoundsException" h))))) : SxV E (d + 6) 1 MX9_checkRegister [.ref (eA E 0), .int a1] h P PX := by
  refine SxV.of (lv0 := [(0, .ref (eA E 0)), (1, .int a1)]) (by decide) (Nat.le_of_ble_eq_true rfl) rfl (fun g hnt => ?_)
  refine r_iload_n (q := 1) dX9_checkRegister_0 rfl rfl ?_
  refine r_if_lt (tgt := 10) dX9_checkRegister_1 (by decide) (fun q1 => ?_) (fun q1 => ?_)
  · have t := t.1 q1
    exact r_throwW (tx := "no such register") thr_X (by decide) rfl dX9_checkRegister_10 dX9_checkRegister_13 dX9_checkRegister_14 dX9_checkRegister_17 dX9_checkRegister_20 (Nat.le_of_ble_eq_true rfl) (by decide) hnt t
  · have t := t.2 q1
    refine r_iload_n (q := 1) dX9_checkRegister_4 rfl rfl ?_
    refine r_bipush (v := (8 : Int32)) dX9_checkRegister_5 rfl ?_
    refine r_icmp_lt (tgt := 21) dX9_checkRegister_7 (by decide) (fun q2 => ?_) (fun q2 => ?_)
    · have t := t.1 q2
      exact r_xvret dX9_checkRegister_21 rfl (by decide) t
    · have t := t.2 q2
      exact r_throwW (tx := "no such register") thr_X (by decide) rfl dX9_checkRegister_10 dX9_checkRegister_13 dX9_checkRegister_14 dX9_checkRegister_17 dX9_checkRegister_20 (Nat.le_of_ble_eq_true rfl) (by decide) hnt t
theorem dX9_checkIdle_0 : decode cX9_checkIdle 0 = .ok (.aload_n 0, 1) := by decide +kernel
theorem dX9_checkIdle_1 : decode cX9_checkIdle 1 = .ok (.getfield 71, 3) := by decide +kernel
theorem dX9_checkIdle_4 : decode cX9_checkIdle 4 = .ok (.getfield 229, 3) := by decide +kernel
theorem dX9_checkIdle_7 : decode cX9_checkIdle 7 = .ok (.iconst (-1), 1) := by decide +kernel
theorem dX9_checkIdle_8 : decode cX9_checkIdle 8 = .ok (.if_icmp .eq 14, 3) := by decide +kernel
theorem dX9_checkIdle_11 : decode cX9_checkIdle 11 = .ok (.new 198, 3) := by decide +kernel
theorem dX9_checkIdle_14 : decode cX9_checkIdle 14 = .ok (.dup, 1) := by decide +kernel
theorem dX9_checkIdle_15 : decode cX9_checkIdle 15 = .ok (.ldc_w 309, 3) := by decide +kernel
theorem dX9_checkIdle_18 : decode cX9_checkIdle 18 = .ok (.invokespecial 202, 3) := by decide +kernel
theorem dX9_checkIdle_21 : decode cX9_checkIdle 21 = .ok (.athrow, 1) := by decide +kernel
theorem dX9_checkIdle_22 : decode cX9_checkIdle 22 = .ok (.return_, 1) := by decide +kernel
set_option maxRecDepth 20000 in
theorem wp_X9_checkIdle (E : En) (d : Nat) (h : Hp) (P : Hp → Prop) (PX : String → Hp → Prop) (t : ((h.1 58 1) = (-1 : Int32) → (P h)) ∧ (¬ (h.1 58 1) = (-1 : Int32) → (PX "java/lang/IllegalStateException" h))) : SxV E (d + 6) 1 MX9_checkIdle [.ref (eA E 0)] h P PX := by
  refine SxV.of (lv0 := [(0, .ref (eA E 0))]) (by decide) (Nat.le_of_ble_eq_true rfl) rfl (fun g hnt => ?_)
  refine r_aload_n (q := 0) dX9_checkIdle_0 rfl rfl ?_
  refine r_getR (c := 0) (c2 := 58) dX9_checkIdle_1 flX9_71 lay_0 rfl ?_
  refine r_getI (c := 58) dX9_checkIdle_4 flX9_229 lay_58 rfl ?_
  refine r_iconst (v := (-1 : Int32)) dX9_checkIdle_7 rfl ?_
  refine r_icmp_eq (tgt := 22) dX9_checkIdle_8 (by decide) (fun q1 => ?_) (fun q1 => ?_)
  · have t := t.1 q1
    exact r_xvret dX9_checkIdle_22 rfl (by decide) t
  · have t := t.2 q1
    exact r_throwW (tx := "the processor is not idle") thr_S (by decide) rfl dX9_checkIdle_11 dX9_checkIdle_14 dX9_checkIdle_15 dX9_checkIdle_18 dX9_checkIdle_21 (Nat.le_of_ble_eq_true rfl) (by decide) hnt t
theorem dX9_operation_0 : decode cX9_operation 0 = .ok (.aload_n 0, 1) := by decide +kernel
theorem dX9_operation_1 : decode cX9_operation 1 = .ok (.iload_n 1, 1) := by decide +kernel
theorem dX9_operation_2 : decode cX9_operation 2 = .ok (.invokevirtual 129, 3) := by decide +kernel
theorem dX9_operation_5 : decode cX9_operation 5 = .ok (.iload_n 2, 1) := by decide +kernel
theorem dX9_operation_6 : decode cX9_operation 6 = .ok (.tableswitch 83 0 4 #[34, 44, 54, 64, 74], 34) := by decide +kernel
theorem dX9_operation_40 : decode cX9_operation 40 = .ok (.aload_n 0, 1) := by decide +kernel
theorem dX9_operation_41 : decode cX9_operation 41 = .ok (.getfield 26, 3) := by decide +kernel
theorem dX9_operation_44 : decode cX9_operation 44 = .ok (.getfield 132, 3) := by decide +kernel
theorem dX9_operation_47 : decode cX9_operation 47 = .ok (.iload_n 1, 1) := by decide +kernel
theorem dX9_operation_48 : decode cX9_operation 48 = .ok (.iaload, 1) := by decide +kernel
theorem dX9_operation_49 : decode cX9_operation 49 = .ok (.ireturn, 1) := by decide +kernel
theorem dX9_operation_50 : decode cX9_operation 50 = .ok (.aload_n 0, 1) := by decide +kernel
theorem dX9_operation_51 : decode cX9_operation 51 = .ok (.getfield 26, 3) := by decide +kernel
theorem dX9_operation_54 : decode cX9_operation 54 = .ok (.getfield 136, 3) := by decide +kernel
theorem dX9_operation_57 : decode cX9_operation 57 = .ok (.iload_n 1, 1) := by decide +kernel
theorem dX9_operation_58 : decode cX9_operation 58 = .ok (.iaload, 1) := by decide +kernel
theorem dX9_operation_59 : decode cX9_operation 59 = .ok (.ireturn, 1) := by decide +kernel
theorem dX9_operation_60 : decode cX9_operation 60 = .ok (.aload_n 0, 1) := by decide +kernel
theorem dX9_operation_61 : decode cX9_operation 61 = .ok (.getfield 26, 3) := by decide +kernel
theorem dX9_operation_64 : decode cX9_operation 64 = .ok (.getfield 139, 3) := by decide +kernel
theorem dX9_operation_67 : decode cX9_operation 67 = .ok (.iload_n 1, 1) := by decide +kernel
theorem dX9_operation_68 : decode cX9_operation 68 = .ok (.iaload, 1) := by decide +kernel
theorem dX9_operation_69 : decode cX9_operation 69 = .ok (.ireturn, 1) := by decide +kernel
theorem dX9_operation_70 : decode cX9_operation 70 = .ok (.aload_n 0, 1) := by decide +kernel
theorem dX9_operation_71 : decode cX9_operation 71 = .ok (.getfield 26, 3) := by decide +kernel
theorem dX9_operation_74 : decode cX9_operation 74 = .ok (.getfield 142, 3) := by decide +kernel
theorem dX9_operation_77 : decode cX9_operation 77 = .ok (.iload_n 1, 1) := by decide +kernel
theorem dX9_operation_78 : decode cX9_operation 78 = .ok (.iaload, 1) := by decide +kernel
theorem dX9_operation_79 : decode cX9_operation 79 = .ok (.ireturn, 1) := by decide +kernel
theorem dX9_operation_80 : decode cX9_operation 80 = .ok (.aload_n 0, 1) := by decide +kernel
theorem dX9_operation_81 : decode cX9_operation 81 = .ok (.getfield 26, 3) := by decide +kernel
theorem dX9_operation_84 : decode cX9_operation 84 = .ok (.iload_n 1, 1) := by decide +kernel
theorem dX9_operation_85 : decode cX9_operation 85 = .ok (.invokevirtual 145, 3) := by decide +kernel
theorem dX9_operation_88 : decode cX9_operation 88 = .ok (.ireturn, 1) := by decide +kernel
theorem dX9_operation_89 : decode cX9_operation 89 = .ok (.new 149, 3) := by decide +kernel
theorem dX9_operation_92 : decode cX9_operation 92 = .ok (.dup, 1) := by decide +kernel
theorem dX9_operation_93 : decode cX9_operation 93 = .ok (.ldc 151, 2) := by decide +kernel
theorem dX9_operation_95 : decode cX9_operation 95 = .ok (.invokespecial 153, 3) := by decide +kernel
theorem dX9_operation_98 : decode cX9_operation 98 = .ok (.athrow, 1) := by decide +kernel
set_option maxRecDepth 20000 in
theorem wp_X9_operation (E : En) (d : Nat) (a1 : Int32) (a2 : Int32) (h : Hp) (P : Int32 → Hp → Prop) (PX : String → Hp → Prop) (t : SxV E (d + 5) 1 MX9_checkOperation [.ref (eA E 0), .int a1] h (fun h1 => (a2 = 0 → (vp_in a1 12 ∧ (P (h1.1 7 a1.toNatClampNeg) h1))) ∧ (a2 = 1 → (vp_in a1 12 ∧ (P (h1.1 8 a1.toNatClampNeg) h1))) ∧ (a2 = 2 → (vp_in a1 12 ∧ (P (h1.1 9 a1.toNatClampNeg) h1))) ∧ (a2 = 3 → (vp_in a1 12 ∧ (P (h1.1 12 a1.toNatClampNeg) h1))) ∧ (a2 = 4 → (SpI E (d + 5) MX6_occurrences [.ref (eA E 5), .int a1] h1 (fun v7 h7 => P v7 h7))) ∧ (¬ a2 = 0 → ¬ a2 = 1 → ¬ a2 = 2 → ¬ a2 = 3 → ¬ a2 = 4 → (PX "java/lang/IllegalArgumentException" h1))) PX) : SxI E (d + 6) 2 MX9_operation [.ref (eA E 0), .int a1, .int a2] h P PX := by
  refine SxI.of (lv0 := [(0, .ref (eA E 0)), (1, .int a1), (2, .int a2)]) (by decide) (Nat.le_of_ble_eq_true rfl) rfl (fun g hnt => ?_)
  refine r_aload_n (q := 0) dX9_operation_0 rfl rfl ?_
  refine r_iload_n (q := 1) dX9_operation_1 rfl rfl ?_
  refine r_xcVV (c := 0) (k1 := 1) (As := [.int a1]) dX9_operation_2 mkX9_checkOperation lkX9_129 lay_0 rfl rfl rfl (by decide) rfl (Nat.le_of_ble_eq_true rfl) (by decide) hnt t ?_
  intro h1 t
  refine r_iload_n (q := 2) dX9_operation_5 rfl rfl ?_
  by_cases q2_0 : a2 = 0
  · have t := t.1 q2_0
    refine r_tswI (x := a2) (v := 0) (off := 34) (tgt := 40) dX9_operation_6 q2_0 (by decide) (by decide) (by decide) (by decide) ?_
    refine r_aload_n (q := 0) dX9_operation_40 rfl rfl ?_
    refine r_getR (c := 0) (c2 := 5) dX9_operation_41 flX9_26 lay_0 rfl ?_
    refine r_getR (c := 5) (c2 := 7) dX9_operation_44 flX9_132 lay_5 rfl ?_
    refine r_iload_n (q := 1) dX9_operation_47 rfl rfl ?_
    obtain ⟨c3, t⟩ := t
    refine r_iald (c := 7) dX9_operation_48 lay_7 c3 ?_
    exact r_xiret dX9_operation_49 rfl (by decide) t
  have t := t.2
  by_cases q2_1 : a2 = 1
  · have t := t.1 q2_1
    refine r_tswI (x := a2) (v := 1) (off := 44) (tgt := 50) dX9_operation_6 q2_1 (by decide) (by decide) (by decide) (by decide) ?_
    refine r_aload_n (q := 0) dX9_operation_50 rfl rfl ?_
    refine r_getR (c := 0) (c2 := 5) dX9_operation_51 flX9_26 lay_0 rfl ?_
    refine r_getR (c := 5) (c2 := 8) dX9_operation_54 flX9_136 lay_5 rfl ?_
    refine r_iload_n (q := 1) dX9_operation_57 rfl rfl ?_
    obtain ⟨c4, t⟩ := t
    refine r_iald (c := 8) dX9_operation_58 lay_8 c4 ?_
    exact r_xiret dX9_operation_59 rfl (by decide) t
  have t := t.2
  by_cases q2_2 : a2 = 2
  · have t := t.1 q2_2
    refine r_tswI (x := a2) (v := 2) (off := 54) (tgt := 60) dX9_operation_6 q2_2 (by decide) (by decide) (by decide) (by decide) ?_
    refine r_aload_n (q := 0) dX9_operation_60 rfl rfl ?_
    refine r_getR (c := 0) (c2 := 5) dX9_operation_61 flX9_26 lay_0 rfl ?_
    refine r_getR (c := 5) (c2 := 9) dX9_operation_64 flX9_139 lay_5 rfl ?_
    refine r_iload_n (q := 1) dX9_operation_67 rfl rfl ?_
    obtain ⟨c5, t⟩ := t
    refine r_iald (c := 9) dX9_operation_68 lay_9 c5 ?_
    exact r_xiret dX9_operation_69 rfl (by decide) t
  have t := t.2
  by_cases q2_3 : a2 = 3
  · have t := t.1 q2_3
    refine r_tswI (x := a2) (v := 3) (off := 64) (tgt := 70) dX9_operation_6 q2_3 (by decide) (by decide) (by decide) (by decide) ?_
    refine r_aload_n (q := 0) dX9_operation_70 rfl rfl ?_
    refine r_getR (c := 0) (c2 := 5) dX9_operation_71 flX9_26 lay_0 rfl ?_
    refine r_getR (c := 5) (c2 := 12) dX9_operation_74 flX9_142 lay_5 rfl ?_
    refine r_iload_n (q := 1) dX9_operation_77 rfl rfl ?_
    obtain ⟨c6, t⟩ := t
    refine r_iald (c := 12) dX9_operation_78 lay_12 c6 ?_
    exact r_xiret dX9_operation_79 rfl (by decide) t
  have t := t.2
  by_cases q2_4 : a2 = 4
  · have t := t.1 q2_4
    refine r_tswI (x := a2) (v := 4) (off := 74) (tgt := 80) dX9_operation_6 q2_4 (by decide) (by decide) (by decide) (by decide) ?_
    refine r_aload_n (q := 0) dX9_operation_80 rfl rfl ?_
    refine r_getR (c := 0) (c2 := 5) dX9_operation_81 flX9_26 lay_0 rfl ?_
    refine r_iload_n (q := 1) dX9_operation_84 rfl rfl ?_
    refine r_cVI (c := 5) (As := [.int a1]) dX9_operation_85 mkX6_occurrences lkX9_145 lay_5 rfl rfl rfl (by decide) rfl (Nat.le_of_ble_eq_true rfl) (by decide) t ?_
    intro v7 h7 t
    exact r_xiret dX9_operation_88 rfl (by decide) t
  have t := t.2
  have t := t q2_0 q2_1 q2_2 q2_3 q2_4
  refine r_tswO (x := a2) (tgt := 89) dX9_operation_6 (sw_out 4 (by decide) (fun k hk => by rcases (show k = 0 ∨ k = 1 ∨ k = 2 ∨ k = 3 ∨ k = 4 by omega) with rfl | rfl | rfl | rfl | rfl <;> assumption)) (by decide) ?_
  exact r_throw (tx := "no such property of an operation") thr_A (by decide) rfl dX9_operation_89 dX9_operation_92 dX9_operation_93 dX9_operation_95 dX9_operation_98 (Nat.le_of_ble_eq_true rfl) (by decide) hnt t
theorem dX9_length_0 : decode cX9_length 0 = .ok (.aload_n 0, 1) := by decide +kernel
theorem dX9_length_1 : decode cX9_length 1 = .ok (.iload_n 1, 1) := by decide +kernel
theorem dX9_length_2 : decode cX9_length 2 = .ok (.invokevirtual 154, 3) := by decide +kernel
theorem dX9_length_5 : decode cX9_length 5 = .ok (.aload_n 0, 1) := by decide +kernel
theorem dX9_length_6 : decode cX9_length 6 = .ok (.getfield 26, 3) := by decide +kernel
theorem dX9_length_9 : decode cX9_length 9 = .ok (.getfield 157, 3) := by decide +kernel
theorem dX9_length_12 : decode cX9_length 12 = .ok (.iload_n 1, 1) := by decide +kernel
theorem dX9_length_13 : decode cX9_length 13 = .ok (.iaload, 1) := by decide +kernel
theorem dX9_length_14 : decode cX9_length 14 = .ok (.ireturn, 1) := by decide +kernel
set_option maxRecDepth 20000 in
theorem wp_X9_length (E : En) (d : Nat) (a1 : Int32) (h : Hp) (P : Int32 → Hp → Prop) (PX : String → Hp → Prop) (t : SxV E (d + 5) 1 MX9_checkInstruction [.ref (eA E 0), .int a1] h (fun h1 => vp_in a1 8 ∧ (P (h1.1 14 a1.toNatClampNeg) h1)) PX) : SxI E (d + 6) 1 MX9_length [.ref (eA E 0), .int a1] h P PX := by
  refine SxI.of (lv0 := [(0, .ref (eA E 0)), (1, .int a1)]) (by decide) (Nat.le_of_ble_eq_true rfl) rfl (fun g hnt => ?_)
  refine r_aload_n (q := 0) dX9_length_0 rfl rfl ?_
  refine r_iload_n (q := 1) dX9_length_1 rfl rfl ?_
  refine r_xcVV (c := 0) (k1 := 1) (As := [.int a1]) dX9_length_2 mkX9_checkInstruction lkX9_154 lay_0 rfl rfl rfl (by decide) rfl (Nat.le_of_ble_eq_true rfl) (by decide) hnt t ?_
  intro h1 t
  refine r_aload_n (q := 0) dX9_length_5 rfl rfl ?_
  refine r_getR (c := 0) (c2 := 5) dX9_length_6 flX9_26 lay_0 rfl ?_
  refine r_getR (c := 5) (c2 := 14) dX9_length_9 flX9_157 lay_5 rfl ?_
  refine r_iload_n (q := 1) dX9_length_12 rfl rfl ?_
  obtain ⟨c2, t⟩ := t
  refine r_iald (c := 14) dX9_length_13 lay_14 c2 ?_
  exact r_xiret dX9_length_14 rfl (by decide) t
theorem dX9_operationAt_0 : decode cX9_operationAt 0 = .ok (.aload_n 0, 1) := by decide +kernel
theorem dX9_operationAt_1 : decode cX9_operationAt 1 = .ok (.iload_n 1, 1) := by decide +kernel
theorem dX9_operationAt_2 : decode cX9_operationAt 2 = .ok (.iload_n 2, 1) := by decide +kernel
theorem dX9_operationAt_3 : decode cX9_operationAt 3 = .ok (.invokevirtual 160, 3) := by decide +kernel
theorem dX9_operationAt_6 : decode cX9_operationAt 6 = .ok (.aload_n 0, 1) := by decide +kernel
theorem dX9_operationAt_7 : decode cX9_operationAt 7 = .ok (.getfield 26, 3) := by decide +kernel
theorem dX9_operationAt_10 : decode cX9_operationAt 10 = .ok (.getfield 164, 3) := by decide +kernel
theorem dX9_operationAt_13 : decode cX9_operationAt 13 = .ok (.iload_n 1, 1) := by decide +kernel
theorem dX9_operationAt_14 : decode cX9_operationAt 14 = .ok (.bipush 24, 2) := by decide +kernel
theorem dX9_operationAt_16 : decode cX9_operationAt 16 = .ok (.imul, 1) := by decide +kernel
theorem dX9_operationAt_17 : decode cX9_operationAt 17 = .ok (.iload_n 2, 1) := by decide +kernel
theorem dX9_operationAt_18 : decode cX9_operationAt 18 = .ok (.iadd, 1) := by decide +kernel
theorem dX9_operationAt_19 : decode cX9_operationAt 19 = .ok (.iaload, 1) := by decide +kernel
theorem dX9_operationAt_20 : decode cX9_operationAt 20 = .ok (.ireturn, 1) := by decide +kernel
set_option maxRecDepth 20000 in
theorem wp_X9_operationAt (E : En) (d : Nat) (a1 : Int32) (a2 : Int32) (h : Hp) (P : Int32 → Hp → Prop) (PX : String → Hp → Prop) (t : SxV E (d + 5) 2 MX9_checkPosition [.ref (eA E 0), .int a1, .int a2] h (fun h1 => vp_in ((a1 * (24 : Int32)) + a2) 192 ∧ (P (h1.1 15 (((a1 * (24 : Int32)) + a2).toNatClampNeg)) h1)) PX) : SxI E (d + 6) 2 MX9_operationAt [.ref (eA E 0), .int a1, .int a2] h P PX := by
  refine SxI.of (lv0 := [(0, .ref (eA E 0)), (1, .int a1), (2, .int a2)]) (by decide) (Nat.le_of_ble_eq_true rfl) rfl (fun g hnt => ?_)
  refine r_aload_n (q := 0) dX9_operationAt_0 rfl rfl ?_
  refine r_iload_n (q := 1) dX9_operationAt_1 rfl rfl ?_
  refine r_iload_n (q := 2) dX9_operationAt_2 rfl rfl ?_
  refine r_xcVV (c := 0) (k1 := 2) (As := [.int a1, .int a2]) dX9_operationAt_3 mkX9_checkPosition lkX9_160 lay_0 rfl rfl rfl (by decide) rfl (Nat.le_of_ble_eq_true rfl) (by decide) hnt t ?_
  intro h1 t
  refine r_aload_n (q := 0) dX9_operationAt_6 rfl rfl ?_
  refine r_getR (c := 0) (c2 := 5) dX9_operationAt_7 flX9_26 lay_0 rfl ?_
  refine r_getR (c := 5) (c2 := 15) dX9_operationAt_10 flX9_164 lay_5 rfl ?_
  refine r_iload_n (q := 1) dX9_operationAt_13 rfl rfl ?_
  refine r_bipush (v := (24 : Int32)) dX9_operationAt_14 rfl ?_
  refine r_imul dX9_operationAt_16 ?_
  refine r_iload_n (q := 2) dX9_operationAt_17 rfl rfl ?_
  refine r_iadd dX9_operationAt_18 ?_
  obtain ⟨c2, t⟩ := t
  refine r_iald (c := 15) dX9_operationAt_19 lay_15 c2 ?_
  exact r_xiret dX9_operationAt_20 rfl (by decide) t
theorem dX9_hasMark_0 : decode cX9_hasMark 0 = .ok (.aload_n 0, 1) := by decide +kernel
theorem dX9_hasMark_1 : decode cX9_hasMark 1 = .ok (.iload_n 1, 1) := by decide +kernel
theorem dX9_hasMark_2 : decode cX9_hasMark 2 = .ok (.iload_n 2, 1) := by decide +kernel
theorem dX9_hasMark_3 : decode cX9_hasMark 3 = .ok (.invokevirtual 160, 3) := by decide +kernel
theorem dX9_hasMark_6 : decode cX9_hasMark 6 = .ok (.aload_n 0, 1) := by decide +kernel
theorem dX9_hasMark_7 : decode cX9_hasMark 7 = .ok (.getfield 26, 3) := by decide +kernel
theorem dX9_hasMark_10 : decode cX9_hasMark 10 = .ok (.getfield 167, 3) := by decide +kernel
theorem dX9_hasMark_13 : decode cX9_hasMark 13 = .ok (.iload_n 1, 1) := by decide +kernel
theorem dX9_hasMark_14 : decode cX9_hasMark 14 = .ok (.bipush 24, 2) := by decide +kernel
theorem dX9_hasMark_16 : decode cX9_hasMark 16 = .ok (.imul, 1) := by decide +kernel
theorem dX9_hasMark_17 : decode cX9_hasMark 17 = .ok (.iload_n 2, 1) := by decide +kernel
theorem dX9_hasMark_18 : decode cX9_hasMark 18 = .ok (.iadd, 1) := by decide +kernel
theorem dX9_hasMark_19 : decode cX9_hasMark 19 = .ok (.baload, 1) := by decide +kernel
theorem dX9_hasMark_20 : decode cX9_hasMark 20 = .ok (.ireturn, 1) := by decide +kernel
set_option maxRecDepth 20000 in
theorem wp_X9_hasMark (E : En) (d : Nat) (a1 : Int32) (a2 : Int32) (h : Hp) (P : Int32 → Hp → Prop) (PX : String → Hp → Prop) (t : SxV E (d + 5) 2 MX9_checkPosition [.ref (eA E 0), .int a1, .int a2] h (fun h1 => vp_in ((a1 * (24 : Int32)) + a2) 192 ∧ (((h1.1 16 (((a1 * (24 : Int32)) + a2).toNatClampNeg)) = 0 ∨ (h1.1 16 (((a1 * (24 : Int32)) + a2).toNatClampNeg)) = 1) ∧ P (h1.1 16 (((a1 * (24 : Int32)) + a2).toNatClampNeg)) h1)) PX) : SxI E (d + 6) 2 MX9_hasMark [.ref (eA E 0), .int a1, .int a2] h P PX := by
  refine SxI.of (lv0 := [(0, .ref (eA E 0)), (1, .int a1), (2, .int a2)]) (by decide) (Nat.le_of_ble_eq_true rfl) rfl (fun g hnt => ?_)
  refine r_aload_n (q := 0) dX9_hasMark_0 rfl rfl ?_
  refine r_iload_n (q := 1) dX9_hasMark_1 rfl rfl ?_
  refine r_iload_n (q := 2) dX9_hasMark_2 rfl rfl ?_
  refine r_xcVV (c := 0) (k1 := 2) (As := [.int a1, .int a2]) dX9_hasMark_3 mkX9_checkPosition lkX9_160 lay_0 rfl rfl rfl (by decide) rfl (Nat.le_of_ble_eq_true rfl) (by decide) hnt t ?_
  intro h1 t
  refine r_aload_n (q := 0) dX9_hasMark_6 rfl rfl ?_
  refine r_getR (c := 0) (c2 := 5) dX9_hasMark_7 flX9_26 lay_0 rfl ?_
  refine r_getR (c := 5) (c2 := 16) dX9_hasMark_10 flX9_167 lay_5 rfl ?_
  refine r_iload_n (q := 1) dX9_hasMark_13 rfl rfl ?_
  refine r_bipush (v := (24 : Int32)) dX9_hasMark_14 rfl ?_
  refine r_imul dX9_hasMark_16 ?_
  refine r_iload_n (q := 2) dX9_hasMark_17 rfl rfl ?_
  refine r_iadd dX9_hasMark_18 ?_
  obtain ⟨c2, t⟩ := t
  refine r_zald (c := 16) dX9_hasMark_19 lay_16 c2 ?_
  exact r_xzret dX9_hasMark_20 rfl t.1 (by decide) t.2
theorem dX9_dependence_0 : decode cX9_dependence 0 = .ok (.aload_n 0, 1) := by decide +kernel
theorem dX9_dependence_1 : decode cX9_dependence 1 = .ok (.iload_n 1, 1) := by decide +kernel
theorem dX9_dependence_2 : decode cX9_dependence 2 = .ok (.iload_n 2, 1) := by decide +kernel
theorem dX9_dependence_3 : decode cX9_dependence 3 = .ok (.invokevirtual 160, 3) := by decide +kernel
theorem dX9_dependence_6 : decode cX9_dependence 6 = .ok (.aload_n 0, 1) := by decide +kernel
theorem dX9_dependence_7 : decode cX9_dependence 7 = .ok (.iload_n 1, 1) := by decide +kernel
theorem dX9_dependence_8 : decode cX9_dependence 8 = .ok (.iload_n 3, 1) := by decide +kernel
theorem dX9_dependence_9 : decode cX9_dependence 9 = .ok (.invokevirtual 160, 3) := by decide +kernel
theorem dX9_dependence_12 : decode cX9_dependence 12 = .ok (.iload_n 2, 1) := by decide +kernel
theorem dX9_dependence_13 : decode cX9_dependence 13 = .ok (.iload_n 3, 1) := by decide +kernel
theorem dX9_dependence_14 : decode cX9_dependence 14 = .ok (.if_icmp .lt 5, 3) := by decide +kernel
theorem dX9_dependence_17 : decode cX9_dependence 17 = .ok (.iconst 0, 1) := by decide +kernel
theorem dX9_dependence_18 : decode cX9_dependence 18 = .ok (.ireturn, 1) := by decide +kernel
theorem dX9_dependence_19 : decode cX9_dependence 19 = .ok (.iload_n 1, 1) := by decide +kernel
theorem dX9_dependence_20 : decode cX9_dependence 20 = .ok (.bipush 24, 2) := by decide +kernel
theorem dX9_dependence_22 : decode cX9_dependence 22 = .ok (.imul, 1) := by decide +kernel
theorem dX9_dependence_23 : decode cX9_dependence 23 = .ok (.istore 4, 2) := by decide +kernel
theorem dX9_dependence_25 : decode cX9_dependence 25 = .ok (.aload_n 0, 1) := by decide +kernel
theorem dX9_dependence_26 : decode cX9_dependence 26 = .ok (.getfield 26, 3) := by decide +kernel
theorem dX9_dependence_29 : decode cX9_dependence 29 = .ok (.iload_n 1, 1) := by decide +kernel
theorem dX9_dependence_30 : decode cX9_dependence 30 = .ok (.iload_n 2, 1) := by decide +kernel
theorem dX9_dependence_31 : decode cX9_dependence 31 = .ok (.invokevirtual 171, 3) := by decide +kernel
theorem dX9_dependence_34 : decode cX9_dependence 34 = .ok (.iload_n 3, 1) := by decide +kernel
theorem dX9_dependence_35 : decode cX9_dependence 35 = .ok (.if_icmp .gt 5, 3) := by decide +kernel
theorem dX9_dependence_38 : decode cX9_dependence 38 = .ok (.iconst 3, 1) := by decide +kernel
theorem dX9_dependence_39 : decode cX9_dependence 39 = .ok (.ireturn, 1) := by decide +kernel
theorem dX9_dependence_40 : decode cX9_dependence 40 = .ok (.aload_n 0, 1) := by decide +kernel
theorem dX9_dependence_41 : decode cX9_dependence 41 = .ok (.getfield 26, 3) := by decide +kernel
theorem dX9_dependence_44 : decode cX9_dependence 44 = .ok (.aload_n 0, 1) := by decide +kernel
theorem dX9_dependence_45 : decode cX9_dependence 45 = .ok (.getfield 26, 3) := by decide +kernel
theorem dX9_dependence_48 : decode cX9_dependence 48 = .ok (.getfield 164, 3) := by decide +kernel
theorem dX9_dependence_51 : decode cX9_dependence 51 = .ok (.iload 4, 2) := by decide +kernel
theorem dX9_dependence_53 : decode cX9_dependence 53 = .ok (.iload_n 2, 1) := by decide +kernel
theorem dX9_dependence_54 : decode cX9_dependence 54 = .ok (.iadd, 1) := by decide +kernel
theorem dX9_dependence_55 : decode cX9_dependence 55 = .ok (.iaload, 1) := by decide +kernel
theorem dX9_dependence_56 : decode cX9_dependence 56 = .ok (.aload_n 0, 1) := by decide +kernel
theorem dX9_dependence_57 : decode cX9_dependence 57 = .ok (.getfield 26, 3) := by decide +kernel
theorem dX9_dependence_60 : decode cX9_dependence 60 = .ok (.getfield 164, 3) := by decide +kernel
theorem dX9_dependence_63 : decode cX9_dependence 63 = .ok (.iload 4, 2) := by decide +kernel
theorem dX9_dependence_65 : decode cX9_dependence 65 = .ok (.iload_n 3, 1) := by decide +kernel
theorem dX9_dependence_66 : decode cX9_dependence 66 = .ok (.iadd, 1) := by decide +kernel
theorem dX9_dependence_67 : decode cX9_dependence 67 = .ok (.iaload, 1) := by decide +kernel
theorem dX9_dependence_68 : decode cX9_dependence 68 = .ok (.invokevirtual 175, 3) := by decide +kernel
theorem dX9_dependence_71 : decode cX9_dependence 71 = .ok (.ireturn, 1) := by decide +kernel
set_option maxRecDepth 20000 in
theorem wp_X9_dependence (E : En) (d : Nat) (a1 : Int32) (a2 : Int32) (a3 : Int32) (h : Hp) (P : Int32 → Hp → Prop) (PX : String → Hp → Prop) (t : SxV E (d + 5) 2 MX9_checkPosition [.ref (eA E 0), .int a1, .int a2] h (fun h1 => SxV E (d + 5) 2 MX9_checkPosition [.ref (eA E 0), .int a1, .int a3] h1 (fun h2 => (a2 < a3 → (SpI E (d + 5) MX6_segmentEnd [.ref (eA E 5), .int a1, .int a2] h2 (fun v4 h4 => (a3 < v4 → (vp_in ((a1 * (24 : Int32)) + a2) 192 ∧ (vp_in ((a1 * (24 : Int32)) + a3) 192 ∧ (SpI E (d + 5) MX6_tie [.ref (eA E 5), .int (h4.1 15 (((a1 * (24 : Int32)) + a2).toNatClampNeg)), .int (h4.1 15 (((a1 * (24 : Int32)) + a3).toNatClampNeg))] h4 (fun v8 h8 => P v8 h8))))) ∧ (¬ a3 < v4 → (P (3 : Int32) h4))))) ∧ (¬ a2 < a3 → (P (0 : Int32) h2))) PX) PX) : SxI E (d + 6) 4 MX9_dependence [.ref (eA E 0), .int a1, .int a2, .int a3] h P PX := by
  refine SxI.of (lv0 := [(0, .ref (eA E 0)), (1, .int a1), (2, .int a2), (3, .int a3)]) (by decide) (Nat.le_of_ble_eq_true rfl) rfl (fun g hnt => ?_)
  refine r_aload_n (q := 0) dX9_dependence_0 rfl rfl ?_
  refine r_iload_n (q := 1) dX9_dependence_1 rfl rfl ?_
  refine r_iload_n (q := 2) dX9_dependence_2 rfl rfl ?_
  refine r_xcVV (c := 0) (k1 := 2) (As := [.int a1, .int a2]) dX9_dependence_3 mkX9_checkPosition lkX9_160 lay_0 rfl rfl rfl (by decide) rfl (Nat.le_of_ble_eq_true rfl) (by decide) hnt t ?_
  intro h1 t
  refine r_aload_n (q := 0) dX9_dependence_6 rfl rfl ?_
  refine r_iload_n (q := 1) dX9_dependence_7 rfl rfl ?_
  refine r_iload_n (q := 3) dX9_dependence_8 rfl rfl ?_
  refine r_xcVV (c := 0) (k1 := 2) (As := [.int a1, .int a3]) dX9_dependence_9 mkX9_checkPosition lkX9_160 lay_0 rfl rfl rfl (by decide) rfl (Nat.le_of_ble_eq_true rfl) (by decide) hnt t ?_
  intro h2 t
  refine r_iload_n (q := 2) dX9_dependence_12 rfl rfl ?_
  refine r_iload_n (q := 3) dX9_dependence_13 rfl rfl ?_
  refine r_icmp_lt (tgt := 19) dX9_dependence_14 (by decide) (fun q3 => ?_) (fun q3 => ?_)
  · have t := t.1 q3
    refine r_iload_n (q := 1) dX9_dependence_19 rfl rfl ?_
    refine r_bipush (v := (24 : Int32)) dX9_dependence_20 rfl ?_
    refine r_imul dX9_dependence_22 ?_
    refine r_istore (lv' := [(4, .int (a1 * (24 : Int32))), (0, .ref (eA E 0)), (1, .int a1), (2, .int a2), (3, .int a3)]) dX9_dependence_23 (by decide) rfl ?_
    refine r_aload_n (q := 1) dX9_dependence_25 rfl rfl ?_
    refine r_getR (c := 0) (c2 := 5) dX9_dependence_26 flX9_26 lay_0 rfl ?_
    refine r_iload_n (q := 2) dX9_dependence_29 rfl rfl ?_
    refine r_iload_n (q := 3) dX9_dependence_30 rfl rfl ?_
    refine r_cVI (c := 5) (As := [.int a1, .int a2]) dX9_dependence_31 mkX6_segmentEnd lkX9_171 lay_5 rfl rfl rfl (by decide) rfl (Nat.le_of_ble_eq_true rfl) (by decide) t ?_
    intro v4 h4 t
    refine r_iload_n (q := 4) dX9_dependence_34 rfl rfl ?_
    refine r_icmp_gt (tgt := 40) dX9_dependence_35 (by decide) (fun q5 => ?_) (fun q5 => ?_)
    · have t := t.1 q5
      refine r_aload_n (q := 1) dX9_dependence_40 rfl rfl ?_
      refine r_getR (c := 0) (c2 := 5) dX9_dependence_41 flX9_26 lay_0 rfl ?_
      refine r_aload_n (q := 1) dX9_dependence_44 rfl rfl ?_
      refine r_getR (c := 0) (c2 := 5) dX9_dependence_45 flX9_26 lay_0 rfl ?_
      refine r_getR (c := 5) (c2 := 15) dX9_dependence_48 flX9_164 lay_5 rfl ?_
      refine r_iload (q := 0) dX9_dependence_51 rfl ?_
      refine r_iload_n (q := 3) dX9_dependence_53 rfl rfl ?_
      refine r_iadd dX9_dependence_54 ?_
      obtain ⟨c6, t⟩ := t
      refine r_iald (c := 15) dX9_dependence_55 lay_15 c6 ?_
      refine r_aload_n (q := 1) dX9_dependence_56 rfl rfl ?_
      refine r_getR (c := 0) (c2 := 5) dX9_dependence_57 flX9_26 lay_0 rfl ?_
      refine r_getR (c := 5) (c2 := 15) dX9_dependence_60 flX9_164 lay_5 rfl ?_
      refine r_iload (q := 0) dX9_dependence_63 rfl ?_
      refine r_iload_n (q := 4) dX9_dependence_65 rfl rfl ?_
      refine r_iadd dX9_dependence_66 ?_
      obtain ⟨c7, t⟩ := t
      refine r_iald (c := 15) dX9_dependence_67 lay_15 c7 ?_
      refine r_cVI (c := 5) (As := [.int (h4.1 15 (((a1 * (24 : Int32)) + a2).toNatClampNeg)), .int (h4.1 15 (((a1 * (24 : Int32)) + a3).toNatClampNeg))]) dX9_dependence_68 mkX6_tie lkX9_175 lay_5 rfl rfl rfl (by decide) rfl (Nat.le_of_ble_eq_true rfl) (by decide) t ?_
      intro v8 h8 t
      exact r_xiret dX9_dependence_71 rfl (by decide) t
    · have t := t.2 q5
      refine r_iconst (v := (3 : Int32)) dX9_dependence_38 rfl ?_
      exact r_xiret dX9_dependence_39 rfl (by decide) t
  · have t := t.2 q3
    refine r_iconst (v := (0 : Int32)) dX9_dependence_17 rfl ?_
    exact r_xiret dX9_dependence_18 rfl (by decide) t
theorem dX9_setMode_0 : decode cX9_setMode 0 = .ok (.iload_n 1, 1) := by decide +kernel
theorem dX9_setMode_1 : decode cX9_setMode 1 = .ok (.ifCond .lt 8, 3) := by decide +kernel
theorem dX9_setMode_4 : decode cX9_setMode 4 = .ok (.iload_n 1, 1) := by decide +kernel
theorem dX9_setMode_5 : decode cX9_setMode 5 = .ok (.iconst 2, 1) := by decide +kernel
theorem dX9_setMode_6 : decode cX9_setMode 6 = .ok (.if_icmp .le 13, 3) := by decide +kernel
theorem dX9_setMode_9 : decode cX9_setMode 9 = .ok (.new 149, 3) := by decide +kernel
theorem dX9_setMode_12 : decode cX9_setMode 12 = .ok (.dup, 1) := by decide +kernel
theorem dX9_setMode_13 : decode cX9_setMode 13 = .ok (.ldc 187, 2) := by decide +kernel
theorem dX9_setMode_15 : decode cX9_setMode 15 = .ok (.invokespecial 153, 3) := by decide +kernel
theorem dX9_setMode_18 : decode cX9_setMode 18 = .ok (.athrow, 1) := by decide +kernel
theorem dX9_setMode_19 : decode cX9_setMode 19 = .ok (.aload_n 0, 1) := by decide +kernel
theorem dX9_setMode_20 : decode cX9_setMode 20 = .ok (.getfield 36, 3) := by decide +kernel
theorem dX9_setMode_23 : decode cX9_setMode 23 = .ok (.iconst (-1), 1) := by decide +kernel
theorem dX9_setMode_24 : decode cX9_setMode 24 = .ok (.aload_n 0, 1) := by decide +kernel
theorem dX9_setMode_25 : decode cX9_setMode 25 = .ok (.getfield 75, 3) := by decide +kernel
theorem dX9_setMode_28 : decode cX9_setMode 28 = .ok (.invokevirtual 189, 3) := by decide +kernel
theorem dX9_setMode_31 : decode cX9_setMode 31 = .ok (.aload_n 0, 1) := by decide +kernel
theorem dX9_setMode_32 : decode cX9_setMode 32 = .ok (.iload_n 1, 1) := by decide +kernel
theorem dX9_setMode_33 : decode cX9_setMode 33 = .ok (.putfield 75, 3) := by decide +kernel
theorem dX9_setMode_36 : decode cX9_setMode 36 = .ok (.aload_n 0, 1) := by decide +kernel
theorem dX9_setMode_37 : decode cX9_setMode 37 = .ok (.invokevirtual 93, 3) := by decide +kernel
theorem dX9_setMode_40 : decode cX9_setMode 40 = .ok (.aload_n 0, 1) := by decide +kernel
theorem dX9_setMode_41 : decode cX9_setMode 41 = .ok (.getfield 57, 3) := by decide +kernel
theorem dX9_setMode_44 : decode cX9_setMode 44 = .ok (.getfield 192, 3) := by decide +kernel
theorem dX9_setMode_47 : decode cX9_setMode 47 = .ok (.ireturn, 1) := by decide +kernel
set_option maxRecDepth 20000 in
theorem wp_X9_setMode (E : En) (d : Nat) (a1 : Int32) (h : Hp) (P : Int32 → Hp → Prop) (PX : String → Hp → Prop) (t : (a1 < 0 → (PX "java/lang/IllegalArgumentException" h)) ∧ (¬ a1 < 0 → ((a1 ≤ (2 : Int32) → (SpV E (d + 5) MX1_remember [.ref (eA E 29), .int (-1 : Int32), .int (h.1 0 10)] h (fun h3 => SpV E (d + 5) MX9_packAll [.ref (eA E 0)] (sI h3 0 10 a1) (fun h4 => P (h4.1 46 4) h4)))) ∧ (¬ a1 ≤ (2 : Int32) → (PX "java/lang/IllegalArgumentException" h))))) : SxI E (d + 6) 1 MX9_setMode [.ref (eA E 0), .int a1] h P PX := by
  refine SxI.of (lv0 := [(0, .ref (eA E 0)), (1, .int a1)]) (by decide) (Nat.le_of_ble_eq_true rfl) rfl (fun g hnt => ?_)
  refine r_iload_n (q := 1) dX9_setMode_0 rfl rfl ?_
  refine r_if_lt (tgt := 9) dX9_setMode_1 (by decide) (fun q1 => ?_) (fun q1 => ?_)
  · have t := t.1 q1
    exact r_throw (tx := "no such mode") thr_A (by decide) rfl dX9_setMode_9 dX9_setMode_12 dX9_setMode_13 dX9_setMode_15 dX9_setMode_18 (Nat.le_of_ble_eq_true rfl) (by decide) hnt t
  · have t := t.2 q1
    refine r_iload_n (q := 1) dX9_setMode_4 rfl rfl ?_
    refine r_iconst (v := (2 : Int32)) dX9_setMode_5 rfl ?_
    refine r_icmp_le (tgt := 19) dX9_setMode_6 (by decide) (fun q2 => ?_) (fun q2 => ?_)
    · have t := t.1 q2
      refine r_aload_n (q := 0) dX9_setMode_19 rfl rfl ?_
      refine r_getR (c := 0) (c2 := 29) dX9_setMode_20 flX9_36 lay_0 rfl ?_
      refine r_iconst (v := (-1 : Int32)) dX9_setMode_23 rfl ?_
      refine r_aload_n (q := 0) dX9_setMode_24 rfl rfl ?_
      refine r_getI (c := 0) dX9_setMode_25 flX9_75 lay_0 rfl ?_
      refine r_cVV (c := 29) (As := [.int (-1 : Int32), .int (h.1 0 10)]) dX9_setMode_28 mkX1_remember lkX9_189 lay_29 rfl rfl rfl (by decide) rfl (Nat.le_of_ble_eq_true rfl) (by decide) t ?_
      intro h3 t
      refine r_aload_n (q := 0) dX9_setMode_31 rfl rfl ?_
      refine r_iload_n (q := 1) dX9_setMode_32 rfl rfl ?_
      refine r_putI (c := 0) dX9_setMode_33 flX9_75 lay_0 rfl ?_
      refine r_aload_n (q := 0) dX9_setMode_36 rfl rfl ?_
      refine r_cVV (c := 0) (As := []) dX9_setMode_37 mkX9_packAll lkX9_93 lay_0 rfl rfl rfl (by decide) rfl (Nat.le_of_ble_eq_true rfl) (by decide) t ?_
      intro h4 t
      refine r_aload_n (q := 0) dX9_setMode_40 rfl rfl ?_
      refine r_getR (c := 0) (c2 := 46) dX9_setMode_41 flX9_57 lay_0 rfl ?_
      refine r_getI (c := 46) dX9_setMode_44 flX9_192 lay_46 rfl ?_
      exact r_xiret dX9_setMode_47 rfl (by decide) t
    · have t := t.2 q2
      exact r_throw (tx := "no such mode") thr_A (by decide) rfl dX9_setMode_9 dX9_setMode_12 dX9_setMode_13 dX9_setMode_15 dX9_setMode_18 (Nat.le_of_ble_eq_true rfl) (by decide) hnt t
theorem dX9_setMark_0 : decode cX9_setMark 0 = .ok (.aload_n 0, 1) := by decide +kernel
theorem dX9_setMark_1 : decode cX9_setMark 1 = .ok (.iload_n 1, 1) := by decide +kernel
theorem dX9_setMark_2 : decode cX9_setMark 2 = .ok (.iload_n 2, 1) := by decide +kernel
theorem dX9_setMark_3 : decode cX9_setMark 3 = .ok (.invokevirtual 160, 3) := by decide +kernel
theorem dX9_setMark_6 : decode cX9_setMark 6 = .ok (.iload_n 2, 1) := by decide +kernel
theorem dX9_setMark_7 : decode cX9_setMark 7 = .ok (.aload_n 0, 1) := by decide +kernel
theorem dX9_setMark_8 : decode cX9_setMark 8 = .ok (.getfield 26, 3) := by decide +kernel
theorem dX9_setMark_11 : decode cX9_setMark 11 = .ok (.getfield 157, 3) := by decide +kernel
theorem dX9_setMark_14 : decode cX9_setMark 14 = .ok (.iload_n 1, 1) := by decide +kernel
theorem dX9_setMark_15 : decode cX9_setMark 15 = .ok (.iaload, 1) := by decide +kernel
theorem dX9_setMark_16 : decode cX9_setMark 16 = .ok (.iconst 1, 1) := by decide +kernel
theorem dX9_setMark_17 : decode cX9_setMark 17 = .ok (.isub, 1) := by decide +kernel
theorem dX9_setMark_18 : decode cX9_setMark 18 = .ok (.if_icmp .ne 13, 3) := by decide +kernel
theorem dX9_setMark_21 : decode cX9_setMark 21 = .ok (.new 178, 3) := by decide +kernel
theorem dX9_setMark_24 : decode cX9_setMark 24 = .ok (.dup, 1) := by decide +kernel
theorem dX9_setMark_25 : decode cX9_setMark 25 = .ok (.ldc 193, 2) := by decide +kernel
theorem dX9_setMark_27 : decode cX9_setMark 27 = .ok (.invokespecial 182, 3) := by decide +kernel
theorem dX9_setMark_30 : decode cX9_setMark 30 = .ok (.athrow, 1) := by decide +kernel
theorem dX9_setMark_31 : decode cX9_setMark 31 = .ok (.iload_n 3, 1) := by decide +kernel
theorem dX9_setMark_32 : decode cX9_setMark 32 = .ok (.ifCond .ne 27, 3) := by decide +kernel
theorem dX9_setMark_35 : decode cX9_setMark 35 = .ok (.aload_n 0, 1) := by decide +kernel
theorem dX9_setMark_36 : decode cX9_setMark 36 = .ok (.getfield 26, 3) := by decide +kernel
theorem dX9_setMark_39 : decode cX9_setMark 39 = .ok (.iload_n 1, 1) := by decide +kernel
theorem dX9_setMark_40 : decode cX9_setMark 40 = .ok (.iload_n 2, 1) := by decide +kernel
theorem dX9_setMark_41 : decode cX9_setMark 41 = .ok (.invokevirtual 195, 3) := by decide +kernel
theorem dX9_setMark_44 : decode cX9_setMark 44 = .ok (.bipush 10, 2) := by decide +kernel
theorem dX9_setMark_46 : decode cX9_setMark 46 = .ok (.if_icmp .le 13, 3) := by decide +kernel
theorem dX9_setMark_49 : decode cX9_setMark 49 = .ok (.new 198, 3) := by decide +kernel
theorem dX9_setMark_52 : decode cX9_setMark 52 = .ok (.dup, 1) := by decide +kernel
theorem dX9_setMark_53 : decode cX9_setMark 53 = .ok (.ldc 200, 2) := by decide +kernel
theorem dX9_setMark_55 : decode cX9_setMark 55 = .ok (.invokespecial 202, 3) := by decide +kernel
theorem dX9_setMark_58 : decode cX9_setMark 58 = .ok (.athrow, 1) := by decide +kernel
theorem dX9_setMark_59 : decode cX9_setMark 59 = .ok (.iload_n 1, 1) := by decide +kernel
theorem dX9_setMark_60 : decode cX9_setMark 60 = .ok (.bipush 24, 2) := by decide +kernel
theorem dX9_setMark_62 : decode cX9_setMark 62 = .ok (.imul, 1) := by decide +kernel
theorem dX9_setMark_63 : decode cX9_setMark 63 = .ok (.iload_n 2, 1) := by decide +kernel
theorem dX9_setMark_64 : decode cX9_setMark 64 = .ok (.iadd, 1) := by decide +kernel
theorem dX9_setMark_65 : decode cX9_setMark 65 = .ok (.istore 4, 2) := by decide +kernel
theorem dX9_setMark_67 : decode cX9_setMark 67 = .ok (.aload_n 0, 1) := by decide +kernel
theorem dX9_setMark_68 : decode cX9_setMark 68 = .ok (.getfield 36, 3) := by decide +kernel
theorem dX9_setMark_71 : decode cX9_setMark 71 = .ok (.iload 4, 2) := by decide +kernel
theorem dX9_setMark_73 : decode cX9_setMark 73 = .ok (.aload_n 0, 1) := by decide +kernel
theorem dX9_setMark_74 : decode cX9_setMark 74 = .ok (.getfield 26, 3) := by decide +kernel
theorem dX9_setMark_77 : decode cX9_setMark 77 = .ok (.getfield 167, 3) := by decide +kernel
theorem dX9_setMark_80 : decode cX9_setMark 80 = .ok (.iload 4, 2) := by decide +kernel
theorem dX9_setMark_82 : decode cX9_setMark 82 = .ok (.baload, 1) := by decide +kernel
theorem dX9_setMark_83 : decode cX9_setMark 83 = .ok (.ifCond .eq 7, 3) := by decide +kernel
theorem dX9_setMark_86 : decode cX9_setMark 86 = .ok (.iconst 1, 1) := by decide +kernel
theorem dX9_setMark_87 : decode cX9_setMark 87 = .ok (.goto 4, 3) := by decide +kernel
theorem dX9_setMark_90 : decode cX9_setMark 90 = .ok (.iconst 0, 1) := by decide +kernel
theorem dX9_setMark_91 : decode cX9_setMark 91 = .ok (.invokevirtual 189, 3) := by decide +kernel
theorem dX9_setMark_94 : decode cX9_setMark 94 = .ok (.aload_n 0, 1) := by decide +kernel
theorem dX9_setMark_95 : decode cX9_setMark 95 = .ok (.iload 4, 2) := by decide +kernel
theorem dX9_setMark_97 : decode cX9_setMark 97 = .ok (.iload_n 3, 1) := by decide +kernel
theorem dX9_setMark_98 : decode cX9_setMark 98 = .ok (.invokevirtual 203, 3) := by decide +kernel
theorem dX9_setMark_101 : decode cX9_setMark 101 = .ok (.aload_n 0, 1) := by decide +kernel
theorem dX9_setMark_102 : decode cX9_setMark 102 = .ok (.getfield 57, 3) := by decide +kernel
theorem dX9_setMark_105 : decode cX9_setMark 105 = .ok (.getfield 192, 3) := by decide +kernel
theorem dX9_setMark_108 : decode cX9_setMark 108 = .ok (.ireturn, 1) := by decide +kernel
set_option maxRecDepth 20000 in
theorem wp_X9_setMark (E : En) (d : Nat) (a1 : Int32) (a2 : Int32) (a3 : Int32) (h : Hp) (P : Int32 → Hp → Prop) (PX : String → Hp → Prop) (t : SxV E (d + 5) 2 MX9_checkPosition [.ref (eA E 0), .int a1, .int a2] h (fun h1 => vp_in a1 8 ∧ ((¬ a2 = ((h1.1 14 a1.toNatClampNeg) - (1 : Int32)) → ((¬ a3 = 0 → (vp_in ((a1 * (24 : Int32)) + a2) 192 ∧ (((h1.1 16 (((a1 * (24 : Int32)) + a2).toNatClampNeg)) = 0 → (SpV E (d + 5) MX1_remember [.ref (eA E 29), .int ((a1 * (24 : Int32)) + a2), .int (0 : Int32)] h1 (fun h7 => SpV E (d + 5) MX9_changeMark [.ref (eA E 0), .int ((a1 * (24 : Int32)) + a2), .int a3] h7 (fun h8 => P (h8.1 46 4) h8)))) ∧ (¬ (h1.1 16 (((a1 * (24 : Int32)) + a2).toNatClampNeg)) = 0 → (SpV E (d + 5) MX1_remember [.ref (eA E 29), .int ((a1 * (24 : Int32)) + a2), .int (1 : Int32)] h1 (fun h9 => SpV E (d + 5) MX9_changeMark [.ref (eA E 0), .int ((a1 * (24 : Int32)) + a2), .int a3] h9 (fun h10 => P (h10.1 46 4) h10))))))) ∧ (a3 = 0 → (SpI E (d + 5) MX6_joinedLength [.ref (eA E 5), .int a1, .int a2] h1 (fun v11 h11 => (v11 ≤ (10 : Int32) → (vp_in ((a1 * (24 : Int32)) + a2) 192 ∧ (((h11.1 16 (((a1 * (24 : Int32)) + a2).toNatClampNeg)) = 0 → (SpV E (d + 5) MX1_remember [.ref (eA E 29), .int ((a1 * (24 : Int32)) + a2), .int (0 : Int32)] h11 (fun h15 => SpV E (d + 5) MX9_changeMark [.ref (eA E 0), .int ((a1 * (24 : Int32)) + a2), .int a3] h15 (fun h16 => P (h16.1 46 4) h16)))) ∧ (¬ (h11.1 16 (((a1 * (24 : Int32)) + a2).toNatClampNeg)) = 0 → (SpV E (d + 5) MX1_remember [.ref (eA E 29), .int ((a1 * (24 : Int32)) + a2), .int (1 : Int32)] h11 (fun h17 => SpV E (d + 5) MX9_changeMark [.ref (eA E 0), .int ((a1 * (24 : Int32)) + a2), .int a3] h17 (fun h18 => P (h18.1 46 4) h18))))))) ∧ (¬ v11 ≤ (10 : Int32) → (PX "java/lang/IllegalStateException" h11))))))) ∧ (a2 = ((h1.1 14 a1.toNatClampNeg) - (1 : Int32)) → (PX "java/lang/IndexOutOfBoundsException" h1)))) PX) : SxI E (d + 6) 3 MX9_setMark [.ref (eA E 0), .int a1, .int a2, .int a3] h P PX := by
  refine SxI.of (lv0 := [(0, .ref (eA E 0)), (1, .int a1), (2, .int a2), (3, .int a3)]) (by decide) (Nat.le_of_ble_eq_true rfl) rfl (fun g hnt => ?_)
  refine r_aload_n (q := 0) dX9_setMark_0 rfl rfl ?_
  refine r_iload_n (q := 1) dX9_setMark_1 rfl rfl ?_
  refine r_iload_n (q := 2) dX9_setMark_2 rfl rfl ?_
  refine r_xcVV (c := 0) (k1 := 2) (As := [.int a1, .int a2]) dX9_setMark_3 mkX9_checkPosition lkX9_160 lay_0 rfl rfl rfl (by decide) rfl (Nat.le_of_ble_eq_true rfl) (by decide) hnt t ?_
  intro h1 t
  refine r_iload_n (q := 2) dX9_setMark_6 rfl rfl ?_
  refine r_aload_n (q := 0) dX9_setMark_7 rfl rfl ?_
  refine r_getR (c := 0) (c2 := 5) dX9_setMark_8 flX9_26 lay_0 rfl ?_
  refine r_getR (c := 5) (c2 := 14) dX9_setMark_11 flX9_157 lay_5 rfl ?_
  refine r_iload_n (q := 1) dX9_setMark_14 rfl rfl ?_
  obtain ⟨c2, t⟩ := t
  refine r_iald (c := 14) dX9_setMark_15 lay_14 c2 ?_
  refine r_iconst (v := (1 : Int32)) dX9_setMark_16 rfl ?_
  refine r_isub dX9_setMark_17 ?_
  refine r_icmp_ne (tgt := 31) dX9_setMark_18 (by decide) (fun q3 => ?_) (fun q3 => ?_)
  · have t := t.1 q3
    refine r_iload_n (q := 3) dX9_setMark_31 rfl rfl ?_
    refine r_if_ne (tgt := 59) dX9_setMark_32 (by decide) (fun q4 => ?_) (fun q4 => ?_)
    · have t := t.1 q4
      refine r_iload_n (q := 1) dX9_setMark_59 rfl rfl ?_
      refine r_bipush (v := (24 : Int32)) dX9_setMark_60 rfl ?_
      refine r_imul dX9_setMark_62 ?_
      refine r_iload_n (q := 2) dX9_setMark_63 rfl rfl ?_
      refine r_iadd dX9_setMark_64 ?_
      refine r_istore (lv' := [(4, .int ((a1 * (24 : Int32)) + a2)), (0, .ref (eA E 0)), (1, .int a1), (2, .int a2), (3, .int a3)]) dX9_setMark_65 (by decide) rfl ?_
      refine r_aload_n (q := 1) dX9_setMark_67 rfl rfl ?_
      refine r_getR (c := 0) (c2 := 29) dX9_setMark_68 flX9_36 lay_0 rfl ?_
      refine r_iload (q := 0) dX9_setMark_71 rfl ?_
      refine r_aload_n (q := 1) dX9_setMark_73 rfl rfl ?_
      refine r_getR (c := 0) (c2 := 5) dX9_setMark_74 flX9_26 lay_0 rfl ?_
      refine r_getR (c := 5) (c2 := 16) dX9_setMark_77 flX9_167 lay_5 rfl ?_
      refine r_iload (q := 0) dX9_setMark_80 rfl ?_
      obtain ⟨c5, t⟩ := t
      refine r_zald (c := 16) dX9_setMark_82 lay_16 c5 ?_
      refine r_if_eq (tgt := 90) dX9_setMark_83 (by decide) (fun q6 => ?_) (fun q6 => ?_)
      · have t := t.1 q6
        refine r_iconst (v := (0 : Int32)) dX9_setMark_90 rfl ?_
        refine r_cVV (c := 29) (As := [.int ((a1 * (24 : Int32)) + a2), .int (0 : Int32)]) dX9_setMark_91 mkX1_remember lkX9_189 lay_29 rfl rfl rfl (by decide) rfl (Nat.le_of_ble_eq_true rfl) (by decide) t ?_
        intro h7 t
        refine r_aload_n (q := 1) dX9_setMark_94 rfl rfl ?_
        refine r_iload (q := 0) dX9_setMark_95 rfl ?_
        refine r_iload_n (q := 4) dX9_setMark_97 rfl rfl ?_
        refine r_cVV (c := 0) (As := [.int ((a1 * (24 : Int32)) + a2), .int a3]) dX9_setMark_98 mkX9_changeMark lkX9_203 lay_0 rfl rfl rfl (by decide) rfl (Nat.le_of_ble_eq_true rfl) (by decide) t ?_
        intro h8 t
        refine r_aload_n (q := 1) dX9_setMark_101 rfl rfl ?_
        refine r_getR (c := 0) (c2 := 46) dX9_setMark_102 flX9_57 lay_0 rfl ?_
        refine r_getI (c := 46) dX9_setMark_105 flX9_192 lay_46 rfl ?_
        exact r_xiret dX9_setMark_108 rfl (by decide) t
      · have t := t.2 q6
        refine r_iconst (v := (1 : Int32)) dX9_setMark_86 rfl ?_
        refine r_goto (tgt := 91) dX9_setMark_87 (by decide) ?_
        refine r_cVV (c := 29) (As := [.int ((a1 * (24 : Int32)) + a2), .int (1 : Int32)]) dX9_setMark_91 mkX1_remember lkX9_189 lay_29 rfl rfl rfl (by decide) rfl (Nat.le_of_ble_eq_true rfl) (by decide) t ?_
        intro h9 t
        refine r_aload_n (q := 1) dX9_setMark_94 rfl rfl ?_
        refine r_iload (q := 0) dX9_setMark_95 rfl ?_
        refine r_iload_n (q := 4) dX9_setMark_97 rfl rfl ?_
        refine r_cVV (c := 0) (As := [.int ((a1 * (24 : Int32)) + a2), .int a3]) dX9_setMark_98 mkX9_changeMark lkX9_203 lay_0 rfl rfl rfl (by decide) rfl (Nat.le_of_ble_eq_true rfl) (by decide) t ?_
        intro h10 t
        refine r_aload_n (q := 1) dX9_setMark_101 rfl rfl ?_
        refine r_getR (c := 0) (c2 := 46) dX9_setMark_102 flX9_57 lay_0 rfl ?_
        refine r_getI (c := 46) dX9_setMark_105 flX9_192 lay_46 rfl ?_
        exact r_xiret dX9_setMark_108 rfl (by decide) t
    · have t := t.2 q4
      refine r_aload_n (q := 0) dX9_setMark_35 rfl rfl ?_
      refine r_getR (c := 0) (c2 := 5) dX9_setMark_36 flX9_26 lay_0 rfl ?_
      refine r_iload_n (q := 1) dX9_setMark_39 rfl rfl ?_
      refine r_iload_n (q := 2) dX9_setMark_40 rfl rfl ?_
      refine r_cVI (c := 5) (As := [.int a1, .int a2]) dX9_setMark_41 mkX6_joinedLength lkX9_195 lay_5 rfl rfl rfl (by decide) rfl (Nat.le_of_ble_eq_true rfl) (by decide) t ?_
      intro v11 h11 t
      refine r_bipush (v := (10 : Int32)) dX9_setMark_44 rfl ?_
      refine r_icmp_le (tgt := 59) dX9_setMark_46 (by decide) (fun q12 => ?_) (fun q12 => ?_)
      · have t := t.1 q12
        refine r_iload_n (q := 1) dX9_setMark_59 rfl rfl ?_
        refine r_bipush (v := (24 : Int32)) dX9_setMark_60 rfl ?_
        refine r_imul dX9_setMark_62 ?_
        refine r_iload_n (q := 2) dX9_setMark_63 rfl rfl ?_
        refine r_iadd dX9_setMark_64 ?_
        refine r_istore (lv' := [(4, .int ((a1 * (24 : Int32)) + a2)), (0, .ref (eA E 0)), (1, .int a1), (2, .int a2), (3, .int a3)]) dX9_setMark_65 (by decide) rfl ?_
        refine r_aload_n (q := 1) dX9_setMark_67 rfl rfl ?_
        refine r_getR (c := 0) (c2 := 29) dX9_setMark_68 flX9_36 lay_0 rfl ?_
        refine r_iload (q := 0) dX9_setMark_71 rfl ?_
        refine r_aload_n (q := 1) dX9_setMark_73 rfl rfl ?_
        refine r_getR (c := 0) (c2 := 5) dX9_setMark_74 flX9_26 lay_0 rfl ?_
        refine r_getR (c := 5) (c2 := 16) dX9_setMark_77 flX9_167 lay_5 rfl ?_
        refine r_iload (q := 0) dX9_setMark_80 rfl ?_
        obtain ⟨c13, t⟩ := t
        refine r_zald (c := 16) dX9_setMark_82 lay_16 c13 ?_
        refine r_if_eq (tgt := 90) dX9_setMark_83 (by decide) (fun q14 => ?_) (fun q14 => ?_)
        · have t := t.1 q14
          refine r_iconst (v := (0 : Int32)) dX9_setMark_90 rfl ?_
          refine r_cVV (c := 29) (As := [.int ((a1 * (24 : Int32)) + a2), .int (0 : Int32)]) dX9_setMark_91 mkX1_remember lkX9_189 lay_29 rfl rfl rfl (by decide) rfl (Nat.le_of_ble_eq_true rfl) (by decide) t ?_
          intro h15 t
          refine r_aload_n (q := 1) dX9_setMark_94 rfl rfl ?_
          refine r_iload (q := 0) dX9_setMark_95 rfl ?_
          refine r_iload_n (q := 4) dX9_setMark_97 rfl rfl ?_
          refine r_cVV (c := 0) (As := [.int ((a1 * (24 : Int32)) + a2), .int a3]) dX9_setMark_98 mkX9_changeMark lkX9_203 lay_0 rfl rfl rfl (by decide) rfl (Nat.le_of_ble_eq_true rfl) (by decide) t ?_
          intro h16 t
          refine r_aload_n (q := 1) dX9_setMark_101 rfl rfl ?_
          refine r_getR (c := 0) (c2 := 46) dX9_setMark_102 flX9_57 lay_0 rfl ?_
          refine r_getI (c := 46) dX9_setMark_105 flX9_192 lay_46 rfl ?_
          exact r_xiret dX9_setMark_108 rfl (by decide) t
        · have t := t.2 q14
          refine r_iconst (v := (1 : Int32)) dX9_setMark_86 rfl ?_
          refine r_goto (tgt := 91) dX9_setMark_87 (by decide) ?_
          refine r_cVV (c := 29) (As := [.int ((a1 * (24 : Int32)) + a2), .int (1 : Int32)]) dX9_setMark_91 mkX1_remember lkX9_189 lay_29 rfl rfl rfl (by decide) rfl (Nat.le_of_ble_eq_true rfl) (by decide) t ?_
          intro h17 t
          refine r_aload_n (q := 1) dX9_setMark_94 rfl rfl ?_
          refine r_iload (q := 0) dX9_setMark_95 rfl ?_
          refine r_iload_n (q := 4) dX9_setMark_97 rfl rfl ?_
          refine r_cVV (c := 0) (As := [.int ((a1 * (24 : Int32)) + a2), .int a3]) dX9_setMark_98 mkX9_changeMark lkX9_203 lay_0 rfl rfl rfl (by decide) rfl (Nat.le_of_ble_eq_true rfl) (by decide) t ?_
          intro h18 t
          refine r_aload_n (q := 1) dX9_setMark_101 rfl rfl ?_
          refine r_getR (c := 0) (c2 := 46) dX9_setMark_102 flX9_57 lay_0 rfl ?_
          refine r_getI (c := 46) dX9_setMark_105 flX9_192 lay_46 rfl ?_
          exact r_xiret dX9_setMark_108 rfl (by decide) t
      · have t := t.2 q12
        exact r_throw (tx := "a segment would be too long") thr_S (by decide) rfl dX9_setMark_49 dX9_setMark_52 dX9_setMark_53 dX9_setMark_55 dX9_setMark_58 (Nat.le_of_ble_eq_true rfl) (by decide) hnt t
  · have t := t.2 q3
    exact r_throw (tx := "no mark behind the last operation") thr_X (by decide) rfl dX9_setMark_21 dX9_setMark_24 dX9_setMark_25 dX9_setMark_27 dX9_setMark_30 (Nat.le_of_ble_eq_true rfl) (by decide) hnt t
theorem dX9_wordCount_0 : decode cX9_wordCount 0 = .ok (.aload_n 0, 1) := by decide +kernel
theorem dX9_wordCount_1 : decode cX9_wordCount 1 = .ok (.iload_n 1, 1) := by decide +kernel
theorem dX9_wordCount_2 : decode cX9_wordCount 2 = .ok (.invokevirtual 154, 3) := by decide +kernel
theorem dX9_wordCount_5 : decode cX9_wordCount 5 = .ok (.aload_n 0, 1) := by decide +kernel
theorem dX9_wordCount_6 : decode cX9_wordCount 6 = .ok (.getfield 50, 3) := by decide +kernel
theorem dX9_wordCount_9 : decode cX9_wordCount 9 = .ok (.getfield 232, 3) := by decide +kernel
theorem dX9_wordCount_12 : decode cX9_wordCount 12 = .ok (.iload_n 1, 1) := by decide +kernel
theorem dX9_wordCount_13 : decode cX9_wordCount 13 = .ok (.iaload, 1) := by decide +kernel
theorem dX9_wordCount_14 : decode cX9_wordCount 14 = .ok (.ireturn, 1) := by decide +kernel
set_option maxRecDepth 20000 in
theorem wp_X9_wordCount (E : En) (d : Nat) (a1 : Int32) (h : Hp) (P : Int32 → Hp → Prop) (PX : String → Hp → Prop) (t : SxV E (d + 5) 1 MX9_checkInstruction [.ref (eA E 0), .int a1] h (fun h1 => vp_in a1 8 ∧ (P (h1.1 41 a1.toNatClampNeg) h1)) PX) : SxI E (d + 6) 1 MX9_wordCount [.ref (eA E 0), .int a1] h P PX := by
  refine SxI.of (lv0 := [(0, .ref (eA E 0)), (1, .int a1)]) (by decide) (Nat.le_of_ble_eq_true rfl) rfl (fun g hnt => ?_)
  refine r_aload_n (q := 0) dX9_wordCount_0 rfl rfl ?_
  refine r_iload_n (q := 1) dX9_wordCount_1 rfl rfl ?_
  refine r_xcVV (c := 0) (k1 := 1) (As := [.int a1]) dX9_wordCount_2 mkX9_checkInstruction lkX9_154 lay_0 rfl rfl rfl (by decide) rfl (Nat.le_of_ble_eq_true rfl) (by decide) hnt t ?_
  intro h1 t
  refine r_aload_n (q := 0) dX9_wordCount_5 rfl rfl ?_
  refine r_getR (c := 0) (c2 := 40) dX9_wordCount_6 flX9_50 lay_0 rfl ?_
  refine r_getR (c := 40) (c2 := 41) dX9_wordCount_9 flX9_232 lay_40 rfl ?_
  refine r_iload_n (q := 1) dX9_wordCount_12 rfl rfl ?_
  obtain ⟨c2, t⟩ := t
  refine r_iald (c := 41) dX9_wordCount_13 lay_41 c2 ?_
  exact r_xiret dX9_wordCount_14 rfl (by decide) t
theorem dX9_word_0 : decode cX9_word 0 = .ok (.aload_n 0, 1) := by decide +kernel
theorem dX9_word_1 : decode cX9_word 1 = .ok (.iload_n 1, 1) := by decide +kernel
theorem dX9_word_2 : decode cX9_word 2 = .ok (.invokevirtual 154, 3) := by decide +kernel
theorem dX9_word_5 : decode cX9_word 5 = .ok (.iload_n 2, 1) := by decide +kernel
theorem dX9_word_6 : decode cX9_word 6 = .ok (.ifCond .lt 16, 3) := by decide +kernel
theorem dX9_word_9 : decode cX9_word 9 = .ok (.iload_n 2, 1) := by decide +kernel
theorem dX9_word_10 : decode cX9_word 10 = .ok (.aload_n 0, 1) := by decide +kernel
theorem dX9_word_11 : decode cX9_word 11 = .ok (.getfield 50, 3) := by decide +kernel
theorem dX9_word_14 : decode cX9_word 14 = .ok (.getfield 232, 3) := by decide +kernel
theorem dX9_word_17 : decode cX9_word 17 = .ok (.iload_n 1, 1) := by decide +kernel
theorem dX9_word_18 : decode cX9_word 18 = .ok (.iaload, 1) := by decide +kernel
theorem dX9_word_19 : decode cX9_word 19 = .ok (.if_icmp .lt 13, 3) := by decide +kernel
theorem dX9_word_22 : decode cX9_word 22 = .ok (.new 178, 3) := by decide +kernel
theorem dX9_word_25 : decode cX9_word 25 = .ok (.dup, 1) := by decide +kernel
theorem dX9_word_26 : decode cX9_word 26 = .ok (.ldc 235, 2) := by decide +kernel
theorem dX9_word_28 : decode cX9_word 28 = .ok (.invokespecial 182, 3) := by decide +kernel
theorem dX9_word_31 : decode cX9_word 31 = .ok (.athrow, 1) := by decide +kernel
theorem dX9_word_32 : decode cX9_word 32 = .ok (.aload_n 0, 1) := by decide +kernel
theorem dX9_word_33 : decode cX9_word 33 = .ok (.getfield 50, 3) := by decide +kernel
theorem dX9_word_36 : decode cX9_word 36 = .ok (.getfield 237, 3) := by decide +kernel
theorem dX9_word_39 : decode cX9_word 39 = .ok (.iload_n 1, 1) := by decide +kernel
theorem dX9_word_40 : decode cX9_word 40 = .ok (.bipush 24, 2) := by decide +kernel
theorem dX9_word_42 : decode cX9_word 42 = .ok (.imul, 1) := by decide +kernel
theorem dX9_word_43 : decode cX9_word 43 = .ok (.iload_n 2, 1) := by decide +kernel
theorem dX9_word_44 : decode cX9_word 44 = .ok (.iadd, 1) := by decide +kernel
theorem dX9_word_45 : decode cX9_word 45 = .ok (.iaload, 1) := by decide +kernel
theorem dX9_word_46 : decode cX9_word 46 = .ok (.ireturn, 1) := by decide +kernel
set_option maxRecDepth 20000 in
theorem wp_X9_word (E : En) (d : Nat) (a1 : Int32) (a2 : Int32) (h : Hp) (P : Int32 → Hp → Prop) (PX : String → Hp → Prop) (t : SxV E (d + 5) 1 MX9_checkInstruction [.ref (eA E 0), .int a1] h (fun h1 => (a2 < 0 → (PX "java/lang/IndexOutOfBoundsException" h1)) ∧ (¬ a2 < 0 → (vp_in a1 8 ∧ ((a2 < (h1.1 41 a1.toNatClampNeg) → (vp_in ((a1 * (24 : Int32)) + a2) 192 ∧ (P (h1.1 44 (((a1 * (24 : Int32)) + a2).toNatClampNeg)) h1))) ∧ (¬ a2 < (h1.1 41 a1.toNatClampNeg) → (PX "java/lang/IndexOutOfBoundsException" h1)))))) PX) : SxI E (d + 6) 2 MX9_word [.ref (eA E 0), .int a1, .int a2] h P PX := by
  refine SxI.of (lv0 := [(0, .ref (eA E 0)), (1, .int a1), (2, .int a2)]) (by decide) (Nat.le_of_ble_eq_true rfl) rfl (fun g hnt => ?_)
  refine r_aload_n (q := 0) dX9_word_0 rfl rfl ?_
  refine r_iload_n (q := 1) dX9_word_1 rfl rfl ?_
  refine r_xcVV (c := 0) (k1 := 1) (As := [.int a1]) dX9_word_2 mkX9_checkInstruction lkX9_154 lay_0 rfl rfl rfl (by decide) rfl (Nat.le_of_ble_eq_true rfl) (by decide) hnt t ?_
  intro h1 t
  refine r_iload_n (q := 2) dX9_word_5 rfl rfl ?_
  refine r_if_lt (tgt := 22) dX9_word_6 (by decide) (fun q2 => ?_) (fun q2 => ?_)
  · have t := t.1 q2
    exact r_throw (tx := "no such word") thr_X (by decide) rfl dX9_word_22 dX9_word_25 dX9_word_26 dX9_word_28 dX9_word_31 (Nat.le_of_ble_eq_true rfl) (by decide) hnt t
  · have t := t.2 q2
    refine r_iload_n (q := 2) dX9_word_9 rfl rfl ?_
    refine r_aload_n (q := 0) dX9_word_10 rfl rfl ?_
    refine r_getR (c := 0) (c2 := 40) dX9_word_11 flX9_50 lay_0 rfl ?_
    refine r_getR (c := 40) (c2 := 41) dX9_word_14 flX9_232 lay_40 rfl ?_
    refine r_iload_n (q := 1) dX9_word_17 rfl rfl ?_
    obtain ⟨c3, t⟩ := t
    refine r_iald (c := 41) dX9_word_18 lay_41 c3 ?_
    refine r_icmp_lt (tgt := 32) dX9_word_19 (by decide) (fun q4 => ?_) (fun q4 => ?_)
    · have t := t.1 q4
      refine r_aload_n (q := 0) dX9_word_32 rfl rfl ?_
      refine r_getR (c := 0) (c2 := 40) dX9_word_33 flX9_50 lay_0 rfl ?_
      refine r_getR (c := 40) (c2 := 44) dX9_word_36 flX9_237 lay_40 rfl ?_
      refine r_iload_n (q := 1) dX9_word_39 rfl rfl ?_
      refine r_bipush (v := (24 : Int32)) dX9_word_40 rfl ?_
      refine r_imul dX9_word_42 ?_
      refine r_iload_n (q := 2) dX9_word_43 rfl rfl ?_
      refine r_iadd dX9_word_44 ?_
      obtain ⟨c5, t⟩ := t
      refine r_iald (c := 44) dX9_word_45 lay_44 c5 ?_
      exact r_xiret dX9_word_46 rfl (by decide) t
    · have t := t.2 q4
      exact r_throw (tx := "no such word") thr_X (by decide) rfl dX9_word_22 dX9_word_25 dX9_word_26 dX9_word_28 dX9_word_31 (Nat.le_of_ble_eq_true rfl) (by decide) hnt t
theorem dX9_chain_0 : decode cX9_chain 0 = .ok (.aload_n 0, 1) := by decide +kernel
theorem dX9_chain_1 : decode cX9_chain 1 = .ok (.iload_n 1, 1) := by decide +kernel
theorem dX9_chain_2 : decode cX9_chain 2 = .ok (.invokevirtual 154, 3) := by decide +kernel
theorem dX9_chain_5 : decode cX9_chain 5 = .ok (.aload_n 0, 1) := by decide +kernel
theorem dX9_chain_6 : decode cX9_chain 6 = .ok (.getfield 50, 3) := by decide +kernel
theorem dX9_chain_9 : decode cX9_chain 9 = .ok (.getfield 240, 3) := by decide +kernel
theorem dX9_chain_12 : decode cX9_chain 12 = .ok (.iload_n 1, 1) := by decide +kernel
theorem dX9_chain_13 : decode cX9_chain 13 = .ok (.iaload, 1) := by decide +kernel
theorem dX9_chain_14 : decode cX9_chain 14 = .ok (.ireturn, 1) := by decide +kernel
set_option maxRecDepth 20000 in
theorem wp_X9_chain (E : En) (d : Nat) (a1 : Int32) (h : Hp) (P : Int32 → Hp → Prop) (PX : String → Hp → Prop) (t : SxV E (d + 5) 1 MX9_checkInstruction [.ref (eA E 0), .int a1] h (fun h1 => vp_in a1 8 ∧ (P (h1.1 42 a1.toNatClampNeg) h1)) PX) : SxI E (d + 6) 1 MX9_chain [.ref (eA E 0), .int a1] h P PX := by
  refine SxI.of (lv0 := [(0, .ref (eA E 0)), (1, .int a1)]) (by decide) (Nat.le_of_ble_eq_true rfl) rfl (fun g hnt => ?_)
  refine r_aload_n (q := 0) dX9_chain_0 rfl rfl ?_
  refine r_iload_n (q := 1) dX9_chain_1 rfl rfl ?_
  refine r_xcVV (c := 0) (k1 := 1) (As := [.int a1]) dX9_chain_2 mkX9_checkInstruction lkX9_154 lay_0 rfl rfl rfl (by decide) rfl (Nat.le_of_ble_eq_true rfl) (by decide) hnt t ?_
  intro h1 t
  refine r_aload_n (q := 0) dX9_chain_5 rfl rfl ?_
  refine r_getR (c := 0) (c2 := 40) dX9_chain_6 flX9_50 lay_0 rfl ?_
  refine r_getR (c := 40) (c2 := 42) dX9_chain_9 flX9_240 lay_40 rfl ?_
  refine r_iload_n (q := 1) dX9_chain_12 rfl rfl ?_
  obtain ⟨c2, t⟩ := t
  refine r_iald (c := 42) dX9_chain_13 lay_42 c2 ?_
  exact r_xiret dX9_chain_14 rfl (by decide) t
theorem dX9_latency_0 : decode cX9_latency 0 = .ok (.aload_n 0, 1) := by decide +kernel
theorem dX9_latency_1 : decode cX9_latency 1 = .ok (.iload_n 1, 1) := by decide +kernel
theorem dX9_latency_2 : decode cX9_latency 2 = .ok (.invokevirtual 154, 3) := by decide +kernel
theorem dX9_latency_5 : decode cX9_latency 5 = .ok (.aload_n 0, 1) := by decide +kernel
theorem dX9_latency_6 : decode cX9_latency 6 = .ok (.getfield 50, 3) := by decide +kernel
theorem dX9_latency_9 : decode cX9_latency 9 = .ok (.getfield 243, 3) := by decide +kernel
theorem dX9_latency_12 : decode cX9_latency 12 = .ok (.iload_n 1, 1) := by decide +kernel
theorem dX9_latency_13 : decode cX9_latency 13 = .ok (.iaload, 1) := by decide +kernel
theorem dX9_latency_14 : decode cX9_latency 14 = .ok (.ireturn, 1) := by decide +kernel
set_option maxRecDepth 20000 in
theorem wp_X9_latency (E : En) (d : Nat) (a1 : Int32) (h : Hp) (P : Int32 → Hp → Prop) (PX : String → Hp → Prop) (t : SxV E (d + 5) 1 MX9_checkInstruction [.ref (eA E 0), .int a1] h (fun h1 => vp_in a1 8 ∧ (P (h1.1 43 a1.toNatClampNeg) h1)) PX) : SxI E (d + 6) 1 MX9_latency [.ref (eA E 0), .int a1] h P PX := by
  refine SxI.of (lv0 := [(0, .ref (eA E 0)), (1, .int a1)]) (by decide) (Nat.le_of_ble_eq_true rfl) rfl (fun g hnt => ?_)
  refine r_aload_n (q := 0) dX9_latency_0 rfl rfl ?_
  refine r_iload_n (q := 1) dX9_latency_1 rfl rfl ?_
  refine r_xcVV (c := 0) (k1 := 1) (As := [.int a1]) dX9_latency_2 mkX9_checkInstruction lkX9_154 lay_0 rfl rfl rfl (by decide) rfl (Nat.le_of_ble_eq_true rfl) (by decide) hnt t ?_
  intro h1 t
  refine r_aload_n (q := 0) dX9_latency_5 rfl rfl ?_
  refine r_getR (c := 0) (c2 := 40) dX9_latency_6 flX9_50 lay_0 rfl ?_
  refine r_getR (c := 40) (c2 := 43) dX9_latency_9 flX9_243 lay_40 rfl ?_
  refine r_iload_n (q := 1) dX9_latency_12 rfl rfl ?_
  obtain ⟨c2, t⟩ := t
  refine r_iald (c := 43) dX9_latency_13 lay_43 c2 ?_
  exact r_xiret dX9_latency_14 rfl (by decide) t
theorem dX9_entry_0 : decode cX9_entry 0 = .ok (.aload_n 0, 1) := by decide +kernel
theorem dX9_entry_1 : decode cX9_entry 1 = .ok (.iload_n 1, 1) := by decide +kernel
theorem dX9_entry_2 : decode cX9_entry 2 = .ok (.invokevirtual 154, 3) := by decide +kernel
theorem dX9_entry_5 : decode cX9_entry 5 = .ok (.aload_n 0, 1) := by decide +kernel
theorem dX9_entry_6 : decode cX9_entry 6 = .ok (.getfield 57, 3) := by decide +kernel
theorem dX9_entry_9 : decode cX9_entry 9 = .ok (.getfield 246, 3) := by decide +kernel
theorem dX9_entry_12 : decode cX9_entry 12 = .ok (.iload_n 1, 1) := by decide +kernel
theorem dX9_entry_13 : decode cX9_entry 13 = .ok (.iaload, 1) := by decide +kernel
theorem dX9_entry_14 : decode cX9_entry 14 = .ok (.ireturn, 1) := by decide +kernel
set_option maxRecDepth 20000 in
theorem wp_X9_entry (E : En) (d : Nat) (a1 : Int32) (h : Hp) (P : Int32 → Hp → Prop) (PX : String → Hp → Prop) (t : SxV E (d + 5) 1 MX9_checkInstruction [.ref (eA E 0), .int a1] h (fun h1 => vp_in a1 8 ∧ (P (h1.1 50 a1.toNatClampNeg) h1)) PX) : SxI E (d + 6) 1 MX9_entry [.ref (eA E 0), .int a1] h P PX := by
  refine SxI.of (lv0 := [(0, .ref (eA E 0)), (1, .int a1)]) (by decide) (Nat.le_of_ble_eq_true rfl) rfl (fun g hnt => ?_)
  refine r_aload_n (q := 0) dX9_entry_0 rfl rfl ?_
  refine r_iload_n (q := 1) dX9_entry_1 rfl rfl ?_
  refine r_xcVV (c := 0) (k1 := 1) (As := [.int a1]) dX9_entry_2 mkX9_checkInstruction lkX9_154 lay_0 rfl rfl rfl (by decide) rfl (Nat.le_of_ble_eq_true rfl) (by decide) hnt t ?_
  intro h1 t
  refine r_aload_n (q := 0) dX9_entry_5 rfl rfl ?_
  refine r_getR (c := 0) (c2 := 46) dX9_entry_6 flX9_57 lay_0 rfl ?_
  refine r_getR (c := 46) (c2 := 50) dX9_entry_9 flX9_246 lay_46 rfl ?_
  refine r_iload_n (q := 1) dX9_entry_12 rfl rfl ?_
  obtain ⟨c2, t⟩ := t
  refine r_iald (c := 50) dX9_entry_13 lay_50 c2 ?_
  exact r_xiret dX9_entry_14 rfl (by decide) t
theorem dX9_store_0 : decode cX9_store 0 = .ok (.aload_n 0, 1) := by decide +kernel
theorem dX9_store_1 : decode cX9_store 1 = .ok (.iload_n 1, 1) := by decide +kernel
theorem dX9_store_2 : decode cX9_store 2 = .ok (.invokevirtual 249, 3) := by decide +kernel
theorem dX9_store_5 : decode cX9_store 5 = .ok (.iload_n 2, 1) := by decide +kernel
theorem dX9_store_6 : decode cX9_store 6 = .ok (.tableswitch 84 0 3 #[30, 40, 58, 68], 30) := by decide +kernel
theorem dX9_store_36 : decode cX9_store 36 = .ok (.aload_n 0, 1) := by decide +kernel
theorem dX9_store_37 : decode cX9_store 37 = .ok (.getfield 57, 3) := by decide +kernel
theorem dX9_store_40 : decode cX9_store 40 = .ok (.getfield 252, 3) := by decide +kernel
theorem dX9_store_43 : decode cX9_store 43 = .ok (.iload_n 1, 1) := by decide +kernel
theorem dX9_store_44 : decode cX9_store 44 = .ok (.iaload, 1) := by decide +kernel
theorem dX9_store_45 : decode cX9_store 45 = .ok (.ireturn, 1) := by decide +kernel
theorem dX9_store_46 : decode cX9_store 46 = .ok (.aload_n 0, 1) := by decide +kernel
theorem dX9_store_47 : decode cX9_store 47 = .ok (.getfield 57, 3) := by decide +kernel
theorem dX9_store_50 : decode cX9_store 50 = .ok (.getfield 253, 3) := by decide +kernel
theorem dX9_store_53 : decode cX9_store 53 = .ok (.iload_n 1, 1) := by decide +kernel
theorem dX9_store_54 : decode cX9_store 54 = .ok (.baload, 1) := by decide +kernel
theorem dX9_store_55 : decode cX9_store 55 = .ok (.ifCond .eq 7, 3) := by decide +kernel
theorem dX9_store_58 : decode cX9_store 58 = .ok (.iconst 1, 1) := by decide +kernel
theorem dX9_store_59 : decode cX9_store 59 = .ok (.goto 4, 3) := by decide +kernel
theorem dX9_store_62 : decode cX9_store 62 = .ok (.iconst 0, 1) := by decide +kernel
theorem dX9_store_63 : decode cX9_store 63 = .ok (.ireturn, 1) := by decide +kernel
theorem dX9_store_64 : decode cX9_store 64 = .ok (.aload_n 0, 1) := by decide +kernel
theorem dX9_store_65 : decode cX9_store 65 = .ok (.getfield 57, 3) := by decide +kernel
theorem dX9_store_68 : decode cX9_store 68 = .ok (.getfield 256, 3) := by decide +kernel
theorem dX9_store_71 : decode cX9_store 71 = .ok (.iload_n 1, 1) := by decide +kernel
theorem dX9_store_72 : decode cX9_store 72 = .ok (.iaload, 1) := by decide +kernel
theorem dX9_store_73 : decode cX9_store 73 = .ok (.ireturn, 1) := by decide +kernel
theorem dX9_store_74 : decode cX9_store 74 = .ok (.aload_n 0, 1) := by decide +kernel
theorem dX9_store_75 : decode cX9_store 75 = .ok (.getfield 57, 3) := by decide +kernel
theorem dX9_store_78 : decode cX9_store 78 = .ok (.iload_n 1, 1) := by decide +kernel
theorem dX9_store_79 : decode cX9_store 79 = .ok (.aload_n 0, 1) := by decide +kernel
theorem dX9_store_80 : decode cX9_store 80 = .ok (.getfield 26, 3) := by decide +kernel
theorem dX9_store_83 : decode cX9_store 83 = .ok (.getfield 96, 3) := by decide +kernel
theorem dX9_store_86 : decode cX9_store 86 = .ok (.invokevirtual 259, 3) := by decide +kernel
theorem dX9_store_89 : decode cX9_store 89 = .ok (.ireturn, 1) := by decide +kernel
theorem dX9_store_90 : decode cX9_store 90 = .ok (.new 149, 3) := by decide +kernel
theorem dX9_store_93 : decode cX9_store 93 = .ok (.dup, 1) := by decide +kernel
theorem dX9_store_94 : decode cX9_store 94 = .ok (.ldc_w 262, 3) := by decide +kernel
theorem dX9_store_97 : decode cX9_store 97 = .ok (.invokespecial 153, 3) := by decide +kernel
theorem dX9_store_100 : decode cX9_store 100 = .ok (.athrow, 1) := by decide +kernel
set_option maxRecDepth 20000 in
theorem wp_X9_store (E : En) (d : Nat) (a1 : Int32) (a2 : Int32) (h : Hp) (P : Int32 → Hp → Prop) (PX : String → Hp → Prop) (t : SxV E (d + 5) 1 MX9_checkAddress [.ref (eA E 0), .int a1] h (fun h1 => (a2 = 0 → (vp_in a1 192 ∧ (P (h1.1 47 a1.toNatClampNeg) h1))) ∧ (a2 = 1 → (vp_in a1 192 ∧ (((h1.1 48 a1.toNatClampNeg) = 0 → (P (0 : Int32) h1)) ∧ (¬ (h1.1 48 a1.toNatClampNeg) = 0 → (P (1 : Int32) h1))))) ∧ (a2 = 2 → (vp_in a1 192 ∧ (P (h1.1 49 a1.toNatClampNeg) h1))) ∧ (a2 = 3 → (SpI E (d + 5) MX7_users [.ref (eA E 46), .int a1, .int (h1.1 5 8)] h1 (fun v7 h7 => P v7 h7))) ∧ (¬ a2 = 0 → ¬ a2 = 1 → ¬ a2 = 2 → ¬ a2 = 3 → (PX "java/lang/IllegalArgumentException" h1))) PX) : SxI E (d + 6) 2 MX9_store [.ref (eA E 0), .int a1, .int a2] h P PX := by
  refine SxI.of (lv0 := [(0, .ref (eA E 0)), (1, .int a1), (2, .int a2)]) (by decide) (Nat.le_of_ble_eq_true rfl) rfl (fun g hnt => ?_)
  refine r_aload_n (q := 0) dX9_store_0 rfl rfl ?_
  refine r_iload_n (q := 1) dX9_store_1 rfl rfl ?_
  refine r_xcVV (c := 0) (k1 := 1) (As := [.int a1]) dX9_store_2 mkX9_checkAddress lkX9_249 lay_0 rfl rfl rfl (by decide) rfl (Nat.le_of_ble_eq_true rfl) (by decide) hnt t ?_
  intro h1 t
  refine r_iload_n (q := 2) dX9_store_5 rfl rfl ?_
  by_cases q2_0 : a2 = 0
  · have t := t.1 q2_0
    refine r_tswI (x := a2) (v := 0) (off := 30) (tgt := 36) dX9_store_6 q2_0 (by decide) (by decide) (by decide) (by decide) ?_
    refine r_aload_n (q := 0) dX9_store_36 rfl rfl ?_
    refine r_getR (c := 0) (c2 := 46) dX9_store_37 flX9_57 lay_0 rfl ?_
    refine r_getR (c := 46) (c2 := 47) dX9_store_40 flX9_252 lay_46 rfl ?_
    refine r_iload_n (q := 1) dX9_store_43 rfl rfl ?_
    obtain ⟨c3, t⟩ := t
    refine r_iald (c := 47) dX9_store_44 lay_47 c3 ?_
    exact r_xiret dX9_store_45 rfl (by decide) t
  have t := t.2
  by_cases q2_1 : a2 = 1
  · have t := t.1 q2_1
    refine r_tswI (x := a2) (v := 1) (off := 40) (tgt := 46) dX9_store_6 q2_1 (by decide) (by decide) (by decide) (by decide) ?_
    refine r_aload_n (q := 0) dX9_store_46 rfl rfl ?_
    refine r_getR (c := 0) (c2 := 46) dX9_store_47 flX9_57 lay_0 rfl ?_
    refine r_getR (c := 46) (c2 := 48) dX9_store_50 flX9_253 lay_46 rfl ?_
    refine r_iload_n (q := 1) dX9_store_53 rfl rfl ?_
    obtain ⟨c4, t⟩ := t
    refine r_zald (c := 48) dX9_store_54 lay_48 c4 ?_
    refine r_if_eq (tgt := 62) dX9_store_55 (by decide) (fun q5 => ?_) (fun q5 => ?_)
    · have t := t.1 q5
      refine r_iconst (v := (0 : Int32)) dX9_store_62 rfl ?_
      exact r_xiret dX9_store_63 rfl (by decide) t
    · have t := t.2 q5
      refine r_iconst (v := (1 : Int32)) dX9_store_58 rfl ?_
      refine r_goto (tgt := 63) dX9_store_59 (by decide) ?_
      exact r_xiret dX9_store_63 rfl (by decide) t
  have t := t.2
  by_cases q2_2 : a2 = 2
  · have t := t.1 q2_2
    refine r_tswI (x := a2) (v := 2) (off := 58) (tgt := 64) dX9_store_6 q2_2 (by decide) (by decide) (by decide) (by decide) ?_
    refine r_aload_n (q := 0) dX9_store_64 rfl rfl ?_
    refine r_getR (c := 0) (c2 := 46) dX9_store_65 flX9_57 lay_0 rfl ?_
    refine r_getR (c := 46) (c2 := 49) dX9_store_68 flX9_256 lay_46 rfl ?_
    refine r_iload_n (q := 1) dX9_store_71 rfl rfl ?_
    obtain ⟨c6, t⟩ := t
    refine r_iald (c := 49) dX9_store_72 lay_49 c6 ?_
    exact r_xiret dX9_store_73 rfl (by decide) t
  have t := t.2
  by_cases q2_3 : a2 = 3
  · have t := t.1 q2_3
    refine r_tswI (x := a2) (v := 3) (off := 68) (tgt := 74) dX9_store_6 q2_3 (by decide) (by decide) (by decide) (by decide) ?_
    refine r_aload_n (q := 0) dX9_store_74 rfl rfl ?_
    refine r_getR (c := 0) (c2 := 46) dX9_store_75 flX9_57 lay_0 rfl ?_
    refine r_iload_n (q := 1) dX9_store_78 rfl rfl ?_
    refine r_aload_n (q := 0) dX9_store_79 rfl rfl ?_
    refine r_getR (c := 0) (c2 := 5) dX9_store_80 flX9_26 lay_0 rfl ?_
    refine r_getI (c := 5) dX9_store_83 flX9_96 lay_5 rfl ?_
    refine r_cVI (c := 46) (As := [.int a1, .int (h1.1 5 8)]) dX9_store_86 mkX7_users lkX9_259 lay_46 rfl rfl rfl (by decide) rfl (Nat.le_of_ble_eq_true rfl) (by decide) t ?_
    intro v7 h7 t
    exact r_xiret dX9_store_89 rfl (by decide) t
  have t := t.2
  have t := t q2_0 q2_1 q2_2 q2_3
  refine r_tswO (x := a2) (tgt := 90) dX9_store_6 (sw_out 3 (by decide) (fun k hk => by rcases (show k = 0 ∨ k = 1 ∨ k = 2 ∨ k = 3 by omega) with rfl | rfl | rfl | rfl <;> assumption)) (by decide) ?_
  exact r_throwW (tx := "no such property of a word") thr_A (by decide) rfl dX9_store_90 dX9_store_93 dX9_store_94 dX9_store_97 dX9_store_100 (Nat.le_of_ble_eq_true rfl) (by decide) hnt t
theorem dX9_fieldOf_0 : decode cX9_fieldOf 0 = .ok (.aload_n 0, 1) := by decide +kernel
theorem dX9_fieldOf_1 : decode cX9_fieldOf 1 = .ok (.iload_n 1, 1) := by decide +kernel
theorem dX9_fieldOf_2 : decode cX9_fieldOf 2 = .ok (.invokevirtual 129, 3) := by decide +kernel
theorem dX9_fieldOf_5 : decode cX9_fieldOf 5 = .ok (.aload_n 0, 1) := by decide +kernel
theorem dX9_fieldOf_6 : decode cX9_fieldOf 6 = .ok (.getfield 64, 3) := by decide +kernel
theorem dX9_fieldOf_9 : decode cX9_fieldOf 9 = .ok (.aload_n 0, 1) := by decide +kernel
theorem dX9_fieldOf_10 : decode cX9_fieldOf 10 = .ok (.getfield 57, 3) := by decide +kernel
theorem dX9_fieldOf_13 : decode cX9_fieldOf 13 = .ok (.invokevirtual 266, 3) := by decide +kernel
theorem dX9_fieldOf_16 : decode cX9_fieldOf 16 = .ok (.aload_n 0, 1) := by decide +kernel
theorem dX9_fieldOf_17 : decode cX9_fieldOf 17 = .ok (.getfield 64, 3) := by decide +kernel
theorem dX9_fieldOf_20 : decode cX9_fieldOf 20 = .ok (.getfield 276, 3) := by decide +kernel
theorem dX9_fieldOf_23 : decode cX9_fieldOf 23 = .ok (.iload_n 1, 1) := by decide +kernel
theorem dX9_fieldOf_24 : decode cX9_fieldOf 24 = .ok (.iaload, 1) := by decide +kernel
theorem dX9_fieldOf_25 : decode cX9_fieldOf 25 = .ok (.ireturn, 1) := by decide +kernel
set_option maxRecDepth 20000 in
theorem wp_X9_fieldOf (E : En) (d : Nat) (a1 : Int32) (h : Hp) (P : Int32 → Hp → Prop) (PX : String → Hp → Prop) (t : SxV E (d + 5) 1 MX9_checkOperation [.ref (eA E 0), .int a1] h (fun h1 => SpV E (d + 5) MX0_know [.ref (eA E 51), .ref (eA E 46)] h1 (fun h2 => vp_in a1 12 ∧ (P (h2.1 52 a1.toNatClampNeg) h2))) PX) : SxI E (d + 6) 1 MX9_fieldOf [.ref (eA E 0), .int a1] h P PX := by
  refine SxI.of (lv0 := [(0, .ref (eA E 0)), (1, .int a1)]) (by decide) (Nat.le_of_ble_eq_true rfl) rfl (fun g hnt => ?_)
  refine r_aload_n (q := 0) dX9_fieldOf_0 rfl rfl ?_
  refine r_iload_n (q := 1) dX9_fieldOf_1 rfl rfl ?_
  refine r_xcVV (c := 0) (k1 := 1) (As := [.int a1]) dX9_fieldOf_2 mkX9_checkOperation lkX9_129 lay_0 rfl rfl rfl (by decide) rfl (Nat.le_of_ble_eq_true rfl) (by decide) hnt t ?_
  intro h1 t
  refine r_aload_n (q := 0) dX9_fieldOf_5 rfl rfl ?_
  refine r_getR (c := 0) (c2 := 51) dX9_fieldOf_6 flX9_64 lay_0 rfl ?_
  refine r_aload_n (q := 0) dX9_fieldOf_9 rfl rfl ?_
  refine r_getR (c := 0) (c2 := 46) dX9_fieldOf_10 flX9_57 lay_0 rfl ?_
  refine r_cVV (c := 51) (As := [.ref (eA E 46)]) dX9_fieldOf_13 mkX0_know lkX9_266 lay_51 rfl rfl rfl (by decide) rfl (Nat.le_of_ble_eq_true rfl) (by decide) t ?_
  intro h2 t
  refine r_aload_n (q := 0) dX9_fieldOf_16 rfl rfl ?_
  refine r_getR (c := 0) (c2 := 51) dX9_fieldOf_17 flX9_64 lay_0 rfl ?_
  refine r_getR (c := 51) (c2 := 52) dX9_fieldOf_20 flX9_276 lay_51 rfl ?_
  refine r_iload_n (q := 1) dX9_fieldOf_23 rfl rfl ?_
  obtain ⟨c3, t⟩ := t
  refine r_iald (c := 52) dX9_fieldOf_24 lay_52 c3 ?_
  exact r_xiret dX9_fieldOf_25 rfl (by decide) t
theorem dX9_codeOf_0 : decode cX9_codeOf 0 = .ok (.aload_n 0, 1) := by decide +kernel
theorem dX9_codeOf_1 : decode cX9_codeOf 1 = .ok (.iload_n 1, 1) := by decide +kernel
theorem dX9_codeOf_2 : decode cX9_codeOf 2 = .ok (.invokevirtual 129, 3) := by decide +kernel
theorem dX9_codeOf_5 : decode cX9_codeOf 5 = .ok (.aload_n 0, 1) := by decide +kernel
theorem dX9_codeOf_6 : decode cX9_codeOf 6 = .ok (.getfield 64, 3) := by decide +kernel
theorem dX9_codeOf_9 : decode cX9_codeOf 9 = .ok (.aload_n 0, 1) := by decide +kernel
theorem dX9_codeOf_10 : decode cX9_codeOf 10 = .ok (.getfield 57, 3) := by decide +kernel
theorem dX9_codeOf_13 : decode cX9_codeOf 13 = .ok (.invokevirtual 266, 3) := by decide +kernel
theorem dX9_codeOf_16 : decode cX9_codeOf 16 = .ok (.aload_n 0, 1) := by decide +kernel
theorem dX9_codeOf_17 : decode cX9_codeOf 17 = .ok (.getfield 64, 3) := by decide +kernel
theorem dX9_codeOf_20 : decode cX9_codeOf 20 = .ok (.getfield 279, 3) := by decide +kernel
theorem dX9_codeOf_23 : decode cX9_codeOf 23 = .ok (.iload_n 1, 1) := by decide +kernel
theorem dX9_codeOf_24 : decode cX9_codeOf 24 = .ok (.iaload, 1) := by decide +kernel
theorem dX9_codeOf_25 : decode cX9_codeOf 25 = .ok (.ireturn, 1) := by decide +kernel
set_option maxRecDepth 20000 in
theorem wp_X9_codeOf (E : En) (d : Nat) (a1 : Int32) (h : Hp) (P : Int32 → Hp → Prop) (PX : String → Hp → Prop) (t : SxV E (d + 5) 1 MX9_checkOperation [.ref (eA E 0), .int a1] h (fun h1 => SpV E (d + 5) MX0_know [.ref (eA E 51), .ref (eA E 46)] h1 (fun h2 => vp_in a1 12 ∧ (P (h2.1 53 a1.toNatClampNeg) h2))) PX) : SxI E (d + 6) 1 MX9_codeOf [.ref (eA E 0), .int a1] h P PX := by
  refine SxI.of (lv0 := [(0, .ref (eA E 0)), (1, .int a1)]) (by decide) (Nat.le_of_ble_eq_true rfl) rfl (fun g hnt => ?_)
  refine r_aload_n (q := 0) dX9_codeOf_0 rfl rfl ?_
  refine r_iload_n (q := 1) dX9_codeOf_1 rfl rfl ?_
  refine r_xcVV (c := 0) (k1 := 1) (As := [.int a1]) dX9_codeOf_2 mkX9_checkOperation lkX9_129 lay_0 rfl rfl rfl (by decide) rfl (Nat.le_of_ble_eq_true rfl) (by decide) hnt t ?_
  intro h1 t
  refine r_aload_n (q := 0) dX9_codeOf_5 rfl rfl ?_
  refine r_getR (c := 0) (c2 := 51) dX9_codeOf_6 flX9_64 lay_0 rfl ?_
  refine r_aload_n (q := 0) dX9_codeOf_9 rfl rfl ?_
  refine r_getR (c := 0) (c2 := 46) dX9_codeOf_10 flX9_57 lay_0 rfl ?_
  refine r_cVV (c := 51) (As := [.ref (eA E 46)]) dX9_codeOf_13 mkX0_know lkX9_266 lay_51 rfl rfl rfl (by decide) rfl (Nat.le_of_ble_eq_true rfl) (by decide) t ?_
  intro h2 t
  refine r_aload_n (q := 0) dX9_codeOf_16 rfl rfl ?_
  refine r_getR (c := 0) (c2 := 51) dX9_codeOf_17 flX9_64 lay_0 rfl ?_
  refine r_getR (c := 51) (c2 := 53) dX9_codeOf_20 flX9_279 lay_51 rfl ?_
  refine r_iload_n (q := 1) dX9_codeOf_23 rfl rfl ?_
  obtain ⟨c3, t⟩ := t
  refine r_iald (c := 53) dX9_codeOf_24 lay_53 c3 ?_
  exact r_xiret dX9_codeOf_25 rfl (by decide) t
theorem dX9_control_0 : decode cX9_control 0 = .ok (.aload_n 0, 1) := by decide +kernel
theorem dX9_control_1 : decode cX9_control 1 = .ok (.iload_n 1, 1) := by decide +kernel
theorem dX9_control_2 : decode cX9_control 2 = .ok (.invokevirtual 249, 3) := by decide +kernel
theorem dX9_control_5 : decode cX9_control 5 = .ok (.aload_n 0, 1) := by decide +kernel
theorem dX9_control_6 : decode cX9_control 6 = .ok (.getfield 64, 3) := by decide +kernel
theorem dX9_control_9 : decode cX9_control 9 = .ok (.aload_n 0, 1) := by decide +kernel
theorem dX9_control_10 : decode cX9_control 10 = .ok (.getfield 57, 3) := by decide +kernel
theorem dX9_control_13 : decode cX9_control 13 = .ok (.invokevirtual 266, 3) := by decide +kernel
theorem dX9_control_16 : decode cX9_control 16 = .ok (.aload_n 0, 1) := by decide +kernel
theorem dX9_control_17 : decode cX9_control 17 = .ok (.getfield 64, 3) := by decide +kernel
theorem dX9_control_20 : decode cX9_control 20 = .ok (.aload_n 0, 1) := by decide +kernel
theorem dX9_control_21 : decode cX9_control 21 = .ok (.getfield 57, 3) := by decide +kernel
theorem dX9_control_24 : decode cX9_control 24 = .ok (.getfield 252, 3) := by decide +kernel
theorem dX9_control_27 : decode cX9_control 27 = .ok (.iload_n 1, 1) := by decide +kernel
theorem dX9_control_28 : decode cX9_control 28 = .ok (.iaload, 1) := by decide +kernel
theorem dX9_control_29 : decode cX9_control 29 = .ok (.aload_n 0, 1) := by decide +kernel
theorem dX9_control_30 : decode cX9_control 30 = .ok (.getfield 57, 3) := by decide +kernel
theorem dX9_control_33 : decode cX9_control 33 = .ok (.getfield 253, 3) := by decide +kernel
theorem dX9_control_36 : decode cX9_control 36 = .ok (.iload_n 1, 1) := by decide +kernel
theorem dX9_control_37 : decode cX9_control 37 = .ok (.baload, 1) := by decide +kernel
theorem dX9_control_38 : decode cX9_control 38 = .ok (.invokevirtual 282, 3) := by decide +kernel
theorem dX9_control_41 : decode cX9_control 41 = .ok (.lreturn, 1) := by decide +kernel
set_option maxRecDepth 20000 in
theorem wp_X9_control (E : En) (d : Nat) (a1 : Int32) (h : Hp) (P : Int64 → Hp → Prop) (PX : String → Hp → Prop) (t : SxV E (d + 5) 1 MX9_checkAddress [.ref (eA E 0), .int a1] h (fun h1 => SpV E (d + 5) MX0_know [.ref (eA E 51), .ref (eA E 46)] h1 (fun h2 => vp_in a1 192 ∧ (vp_in a1 192 ∧ (SpL E (d + 5) MX0_encode [.ref (eA E 51), .int (h2.1 47 a1.toNatClampNeg), .int (h2.1 48 a1.toNatClampNeg)] h2 (fun v5 h5 => P v5 h5))))) PX) : SxL E (d + 6) 1 MX9_control [.ref (eA E 0), .int a1] h P PX := by
  refine SxL.of (lv0 := [(0, .ref (eA E 0)), (1, .int a1)]) (by decide) (Nat.le_of_ble_eq_true rfl) rfl (fun g hnt => ?_)
  refine r_aload_n (q := 0) dX9_control_0 rfl rfl ?_
  refine r_iload_n (q := 1) dX9_control_1 rfl rfl ?_
  refine r_xcVV (c := 0) (k1 := 1) (As := [.int a1]) dX9_control_2 mkX9_checkAddress lkX9_249 lay_0 rfl rfl rfl (by decide) rfl (Nat.le_of_ble_eq_true rfl) (by decide) hnt t ?_
  intro h1 t
  refine r_aload_n (q := 0) dX9_control_5 rfl rfl ?_
  refine r_getR (c := 0) (c2 := 51) dX9_control_6 flX9_64 lay_0 rfl ?_
  refine r_aload_n (q := 0) dX9_control_9 rfl rfl ?_
  refine r_getR (c := 0) (c2 := 46) dX9_control_10 flX9_57 lay_0 rfl ?_
  refine r_cVV (c := 51) (As := [.ref (eA E 46)]) dX9_control_13 mkX0_know lkX9_266 lay_51 rfl rfl rfl (by decide) rfl (Nat.le_of_ble_eq_true rfl) (by decide) t ?_
  intro h2 t
  refine r_aload_n (q := 0) dX9_control_16 rfl rfl ?_
  refine r_getR (c := 0) (c2 := 51) dX9_control_17 flX9_64 lay_0 rfl ?_
  refine r_aload_n (q := 0) dX9_control_20 rfl rfl ?_
  refine r_getR (c := 0) (c2 := 46) dX9_control_21 flX9_57 lay_0 rfl ?_
  refine r_getR (c := 46) (c2 := 47) dX9_control_24 flX9_252 lay_46 rfl ?_
  refine r_iload_n (q := 1) dX9_control_27 rfl rfl ?_
  obtain ⟨c3, t⟩ := t
  refine r_iald (c := 47) dX9_control_28 lay_47 c3 ?_
  refine r_aload_n (q := 0) dX9_control_29 rfl rfl ?_
  refine r_getR (c := 0) (c2 := 46) dX9_control_30 flX9_57 lay_0 rfl ?_
  refine r_getR (c := 46) (c2 := 48) dX9_control_33 flX9_253 lay_46 rfl ?_
  refine r_iload_n (q := 1) dX9_control_36 rfl rfl ?_
  obtain ⟨c4, t⟩ := t
  refine r_zald (c := 48) dX9_control_37 lay_48 c4 ?_
  refine r_cVL (c := 51) (As := [.int (h2.1 47 a1.toNatClampNeg), .int (h2.1 48 a1.toNatClampNeg)]) dX9_control_38 mkX0_encode lkX9_282 lay_51 rfl rfl rfl (by decide) rfl (Nat.le_of_ble_eq_true rfl) (by decide) t ?_
  intro v5 h5 t
  exact r_xlret dX9_control_41 rfl (by decide) t
theorem dX9_setRegister_0 : decode cX9_setRegister 0 = .ok (.aload_n 0, 1) := by decide +kernel
theorem dX9_setRegister_1 : decode cX9_setRegister 1 = .ok (.iload_n 1, 1) := by decide +kernel
theorem dX9_setRegister_2 : decode cX9_setRegister 2 = .ok (.invokevirtual 286, 3) := by decide +kernel
theorem dX9_setRegister_5 : decode cX9_setRegister 5 = .ok (.aload_n 0, 1) := by decide +kernel
theorem dX9_setRegister_6 : decode cX9_setRegister 6 = .ok (.getfield 71, 3) := by decide +kernel
theorem dX9_setRegister_9 : decode cX9_setRegister 9 = .ok (.getfield 289, 3) := by decide +kernel
theorem dX9_setRegister_12 : decode cX9_setRegister 12 = .ok (.iload_n 1, 1) := by decide +kernel
theorem dX9_setRegister_13 : decode cX9_setRegister 13 = .ok (.iaload, 1) := by decide +kernel
theorem dX9_setRegister_14 : decode cX9_setRegister 14 = .ok (.istore_n 3, 1) := by decide +kernel
theorem dX9_setRegister_15 : decode cX9_setRegister 15 = .ok (.aload_n 0, 1) := by decide +kernel
theorem dX9_setRegister_16 : decode cX9_setRegister 16 = .ok (.getfield 71, 3) := by decide +kernel
theorem dX9_setRegister_19 : decode cX9_setRegister 19 = .ok (.getfield 289, 3) := by decide +kernel
theorem dX9_setRegister_22 : decode cX9_setRegister 22 = .ok (.iload_n 1, 1) := by decide +kernel
theorem dX9_setRegister_23 : decode cX9_setRegister 23 = .ok (.iload_n 2, 1) := by decide +kernel
theorem dX9_setRegister_24 : decode cX9_setRegister 24 = .ok (.iastore, 1) := by decide +kernel
theorem dX9_setRegister_25 : decode cX9_setRegister 25 = .ok (.iload_n 3, 1) := by decide +kernel
theorem dX9_setRegister_26 : decode cX9_setRegister 26 = .ok (.ireturn, 1) := by decide +kernel
set_option maxRecDepth 20000 in
theorem wp_X9_setRegister (E : En) (d : Nat) (a1 : Int32) (a2 : Int32) (h : Hp) (P : Int32 → Hp → Prop) (PX : String → Hp → Prop) (t : SxV E (d + 5) 1 MX9_checkRegister [.ref (eA E 0), .int a1] h (fun h1 => vp_in a1 8 ∧ (vp_in a1 8 ∧ (P (h1.1 59 a1.toNatClampNeg) (sI h1 59 a1.toNatClampNeg a2)))) PX) : SxI E (d + 6) 1 MX9_setRegister [.ref (eA E 0), .int a1, .int a2] h P PX := by
  refine SxI.of (lv0 := [(0, .ref (eA E 0)), (1, .int a1), (2, .int a2)]) (by decide) (Nat.le_of_ble_eq_true rfl) rfl (fun g hnt => ?_)
  refine r_aload_n (q := 0) dX9_setRegister_0 rfl rfl ?_
  refine r_iload_n (q := 1) dX9_setRegister_1 rfl rfl ?_
  refine r_xcVV (c := 0) (k1 := 1) (As := [.int a1]) dX9_setRegister_2 mkX9_checkRegister lkX9_286 lay_0 rfl rfl rfl (by decide) rfl (Nat.le_of_ble_eq_true rfl) (by decide) hnt t ?_
  intro h1 t
  refine r_aload_n (q := 0) dX9_setRegister_5 rfl rfl ?_
  refine r_getR (c := 0) (c2 := 58) dX9_setRegister_6 flX9_71 lay_0 rfl ?_
  refine r_getR (c := 58) (c2 := 59) dX9_setRegister_9 flX9_289 lay_58 rfl ?_
  refine r_iload_n (q := 1) dX9_setRegister_12 rfl rfl ?_
  obtain ⟨c2, t⟩ := t
  refine r_iald (c := 59) dX9_setRegister_13 lay_59 c2 ?_
  refine r_istore_n (lv' := [(3, .int (h1.1 59 a1.toNatClampNeg)), (0, .ref (eA E 0)), (1, .int a1), (2, .int a2)]) dX9_setRegister_14 rfl (by decide) rfl ?_
  refine r_aload_n (q := 1) dX9_setRegister_15 rfl rfl ?_
  refine r_getR (c := 0) (c2 := 58) dX9_setRegister_16 flX9_71 lay_0 rfl ?_
  refine r_getR (c := 58) (c2 := 59) dX9_setRegister_19 flX9_289 lay_58 rfl ?_
  refine r_iload_n (q := 2) dX9_setRegister_22 rfl rfl ?_
  refine r_iload_n (q := 3) dX9_setRegister_23 rfl rfl ?_
  obtain ⟨c3, t⟩ := t
  refine r_iast (c := 59) dX9_setRegister_24 lay_59 c3 ?_
  refine r_iload_n (q := 0) dX9_setRegister_25 rfl rfl ?_
  exact r_xiret dX9_setRegister_26 rfl (by decide) t
theorem dX9_register_0 : decode cX9_register 0 = .ok (.aload_n 0, 1) := by decide +kernel
theorem dX9_register_1 : decode cX9_register 1 = .ok (.iload_n 1, 1) := by decide +kernel
theorem dX9_register_2 : decode cX9_register 2 = .ok (.invokevirtual 286, 3) := by decide +kernel
theorem dX9_register_5 : decode cX9_register 5 = .ok (.aload_n 0, 1) := by decide +kernel
theorem dX9_register_6 : decode cX9_register 6 = .ok (.getfield 71, 3) := by decide +kernel
theorem dX9_register_9 : decode cX9_register 9 = .ok (.getfield 289, 3) := by decide +kernel
theorem dX9_register_12 : decode cX9_register 12 = .ok (.iload_n 1, 1) := by decide +kernel
theorem dX9_register_13 : decode cX9_register 13 = .ok (.iaload, 1) := by decide +kernel
theorem dX9_register_14 : decode cX9_register 14 = .ok (.ireturn, 1) := by decide +kernel
set_option maxRecDepth 20000 in
theorem wp_X9_register (E : En) (d : Nat) (a1 : Int32) (h : Hp) (P : Int32 → Hp → Prop) (PX : String → Hp → Prop) (t : SxV E (d + 5) 1 MX9_checkRegister [.ref (eA E 0), .int a1] h (fun h1 => vp_in a1 8 ∧ (P (h1.1 59 a1.toNatClampNeg) h1)) PX) : SxI E (d + 6) 1 MX9_register [.ref (eA E 0), .int a1] h P PX := by
  refine SxI.of (lv0 := [(0, .ref (eA E 0)), (1, .int a1)]) (by decide) (Nat.le_of_ble_eq_true rfl) rfl (fun g hnt => ?_)
  refine r_aload_n (q := 0) dX9_register_0 rfl rfl ?_
  refine r_iload_n (q := 1) dX9_register_1 rfl rfl ?_
  refine r_xcVV (c := 0) (k1 := 1) (As := [.int a1]) dX9_register_2 mkX9_checkRegister lkX9_286 lay_0 rfl rfl rfl (by decide) rfl (Nat.le_of_ble_eq_true rfl) (by decide) hnt t ?_
  intro h1 t
  refine r_aload_n (q := 0) dX9_register_5 rfl rfl ?_
  refine r_getR (c := 0) (c2 := 58) dX9_register_6 flX9_71 lay_0 rfl ?_
  refine r_getR (c := 58) (c2 := 59) dX9_register_9 flX9_289 lay_58 rfl ?_
  refine r_iload_n (q := 1) dX9_register_12 rfl rfl ?_
  obtain ⟨c2, t⟩ := t
  refine r_iald (c := 59) dX9_register_13 lay_59 c2 ?_
  exact r_xiret dX9_register_14 rfl (by decide) t
theorem dX9_runSource_0 : decode cX9_runSource 0 = .ok (.aload_n 0, 1) := by decide +kernel
theorem dX9_runSource_1 : decode cX9_runSource 1 = .ok (.iload_n 1, 1) := by decide +kernel
theorem dX9_runSource_2 : decode cX9_runSource 2 = .ok (.invokevirtual 154, 3) := by decide +kernel
theorem dX9_runSource_5 : decode cX9_runSource 5 = .ok (.aload_n 0, 1) := by decide +kernel
theorem dX9_runSource_6 : decode cX9_runSource 6 = .ok (.invokevirtual 294, 3) := by decide +kernel
theorem dX9_runSource_9 : decode cX9_runSource 9 = .ok (.aload_n 0, 1) := by decide +kernel
theorem dX9_runSource_10 : decode cX9_runSource 10 = .ok (.getfield 71, 3) := by decide +kernel
theorem dX9_runSource_13 : decode cX9_runSource 13 = .ok (.aload_n 0, 1) := by decide +kernel
theorem dX9_runSource_14 : decode cX9_runSource 14 = .ok (.getfield 26, 3) := by decide +kernel
theorem dX9_runSource_17 : decode cX9_runSource 17 = .ok (.iload_n 1, 1) := by decide +kernel
theorem dX9_runSource_18 : decode cX9_runSource 18 = .ok (.aload_n 0, 1) := by decide +kernel
theorem dX9_runSource_19 : decode cX9_runSource 19 = .ok (.getfield 71, 3) := by decide +kernel
theorem dX9_runSource_22 : decode cX9_runSource 22 = .ok (.getfield 289, 3) := by decide +kernel
theorem dX9_runSource_25 : decode cX9_runSource 25 = .ok (.invokevirtual 297, 3) := by decide +kernel
theorem dX9_runSource_28 : decode cX9_runSource 28 = .ok (.aload_n 0, 1) := by decide +kernel
theorem dX9_runSource_29 : decode cX9_runSource 29 = .ok (.getfield 26, 3) := by decide +kernel
theorem dX9_runSource_32 : decode cX9_runSource 32 = .ok (.getfield 157, 3) := by decide +kernel
theorem dX9_runSource_35 : decode cX9_runSource 35 = .ok (.iload_n 1, 1) := by decide +kernel
theorem dX9_runSource_36 : decode cX9_runSource 36 = .ok (.iaload, 1) := by decide +kernel
theorem dX9_runSource_37 : decode cX9_runSource 37 = .ok (.ireturn, 1) := by decide +kernel
set_option maxRecDepth 20000 in
theorem wp_X9_runSource (E : En) (d : Nat) (a1 : Int32) (h : Hp) (P : Int32 → Hp → Prop) (PX : String → Hp → Prop) (t : SxV E (d + 5) 1 MX9_checkInstruction [.ref (eA E 0), .int a1] h (fun h1 => SxV E (d + 5) 1 MX9_checkIdle [.ref (eA E 0)] h1 (fun h2 => SpV E (d + 5) MX5_runSequence [.ref (eA E 58), .ref (eA E 5), .int a1, .ref (eA E 59)] h2 (fun h3 => vp_in a1 8 ∧ (P (h3.1 14 a1.toNatClampNeg) h3))) PX) PX) : SxI E (d + 6) 2 MX9_runSource [.ref (eA E 0), .int a1] h P PX := by
  refine SxI.of (lv0 := [(0, .ref (eA E 0)), (1, .int a1)]) (by decide) (Nat.le_of_ble_eq_true rfl) rfl (fun g hnt => ?_)
  refine r_aload_n (q := 0) dX9_runSource_0 rfl rfl ?_
  refine r_iload_n (q := 1) dX9_runSource_1 rfl rfl ?_
  refine r_xcVV (c := 0) (k1 := 1) (As := [.int a1]) dX9_runSource_2 mkX9_checkInstruction lkX9_154 lay_0 rfl rfl rfl (by decide) rfl (Nat.le_of_ble_eq_true rfl) (by decide) hnt t ?_
  intro h1 t
  refine r_aload_n (q := 0) dX9_runSource_5 rfl rfl ?_
  refine r_xcVV (c := 0) (k1 := 1) (As := []) dX9_runSource_6 mkX9_checkIdle lkX9_294 lay_0 rfl rfl rfl (by decide) rfl (Nat.le_of_ble_eq_true rfl) (by decide) hnt t ?_
  intro h2 t
  refine r_aload_n (q := 0) dX9_runSource_9 rfl rfl ?_
  refine r_getR (c := 0) (c2 := 58) dX9_runSource_10 flX9_71 lay_0 rfl ?_
  refine r_aload_n (q := 0) dX9_runSource_13 rfl rfl ?_
  refine r_getR (c := 0) (c2 := 5) dX9_runSource_14 flX9_26 lay_0 rfl ?_
  refine r_iload_n (q := 1) dX9_runSource_17 rfl rfl ?_
  refine r_aload_n (q := 0) dX9_runSource_18 rfl rfl ?_
  refine r_getR (c := 0) (c2 := 58) dX9_runSource_19 flX9_71 lay_0 rfl ?_
  refine r_getR (c := 58) (c2 := 59) dX9_runSource_22 flX9_289 lay_58 rfl ?_
  refine r_cVV (c := 58) (As := [.ref (eA E 5), .int a1, .ref (eA E 59)]) dX9_runSource_25 mkX5_runSequence lkX9_297 lay_58 rfl rfl rfl (by decide) rfl (Nat.le_of_ble_eq_true rfl) (by decide) t ?_
  intro h3 t
  refine r_aload_n (q := 0) dX9_runSource_28 rfl rfl ?_
  refine r_getR (c := 0) (c2 := 5) dX9_runSource_29 flX9_26 lay_0 rfl ?_
  refine r_getR (c := 5) (c2 := 14) dX9_runSource_32 flX9_157 lay_5 rfl ?_
  refine r_iload_n (q := 1) dX9_runSource_35 rfl rfl ?_
  obtain ⟨c4, t⟩ := t
  refine r_iald (c := 14) dX9_runSource_36 lay_14 c4 ?_
  exact r_xiret dX9_runSource_37 rfl (by decide) t
theorem dX9_start_0 : decode cX9_start 0 = .ok (.aload_n 0, 1) := by decide +kernel
theorem dX9_start_1 : decode cX9_start 1 = .ok (.iload_n 1, 1) := by decide +kernel
theorem dX9_start_2 : decode cX9_start 2 = .ok (.invokevirtual 154, 3) := by decide +kernel
theorem dX9_start_5 : decode cX9_start 5 = .ok (.iload_n 2, 1) := by decide +kernel
theorem dX9_start_6 : decode cX9_start 6 = .ok (.ifCond .ge 14, 3) := by decide +kernel
theorem dX9_start_9 : decode cX9_start 9 = .ok (.new 149, 3) := by decide +kernel
theorem dX9_start_12 : decode cX9_start 12 = .ok (.dup, 1) := by decide +kernel
theorem dX9_start_13 : decode cX9_start 13 = .ok (.ldc_w 301, 3) := by decide +kernel
theorem dX9_start_16 : decode cX9_start 16 = .ok (.invokespecial 153, 3) := by decide +kernel
theorem dX9_start_19 : decode cX9_start 19 = .ok (.athrow, 1) := by decide +kernel
theorem dX9_start_20 : decode cX9_start 20 = .ok (.aload_n 0, 1) := by decide +kernel
theorem dX9_start_21 : decode cX9_start 21 = .ok (.invokevirtual 294, 3) := by decide +kernel
theorem dX9_start_24 : decode cX9_start 24 = .ok (.aload_n 0, 1) := by decide +kernel
theorem dX9_start_25 : decode cX9_start 25 = .ok (.getfield 71, 3) := by decide +kernel
theorem dX9_start_28 : decode cX9_start 28 = .ok (.aload_n 0, 1) := by decide +kernel
theorem dX9_start_29 : decode cX9_start 29 = .ok (.getfield 57, 3) := by decide +kernel
theorem dX9_start_32 : decode cX9_start 32 = .ok (.getfield 246, 3) := by decide +kernel
theorem dX9_start_35 : decode cX9_start 35 = .ok (.iload_n 1, 1) := by decide +kernel
theorem dX9_start_36 : decode cX9_start 36 = .ok (.iaload, 1) := by decide +kernel
theorem dX9_start_37 : decode cX9_start 37 = .ok (.putfield 229, 3) := by decide +kernel
theorem dX9_start_40 : decode cX9_start 40 = .ok (.iload_n 2, 1) := by decide +kernel
theorem dX9_start_41 : decode cX9_start 41 = .ok (.ifCond .ne 7, 3) := by decide +kernel
theorem dX9_start_44 : decode cX9_start 44 = .ok (.iconst 0, 1) := by decide +kernel
theorem dX9_start_45 : decode cX9_start 45 = .ok (.goto 19, 3) := by decide +kernel
theorem dX9_start_48 : decode cX9_start 48 = .ok (.aload_n 0, 1) := by decide +kernel
theorem dX9_start_49 : decode cX9_start 49 = .ok (.getfield 71, 3) := by decide +kernel
theorem dX9_start_52 : decode cX9_start 52 = .ok (.aload_n 0, 1) := by decide +kernel
theorem dX9_start_53 : decode cX9_start 53 = .ok (.getfield 26, 3) := by decide +kernel
theorem dX9_start_56 : decode cX9_start 56 = .ok (.aload_n 0, 1) := by decide +kernel
theorem dX9_start_57 : decode cX9_start 57 = .ok (.getfield 57, 3) := by decide +kernel
theorem dX9_start_60 : decode cX9_start 60 = .ok (.iload_n 2, 1) := by decide +kernel
theorem dX9_start_61 : decode cX9_start 61 = .ok (.invokevirtual 303, 3) := by decide +kernel
theorem dX9_start_64 : decode cX9_start 64 = .ok (.ireturn, 1) := by decide +kernel
set_option maxRecDepth 20000 in
theorem wp_X9_start (E : En) (d : Nat) (a1 : Int32) (a2 : Int32) (h : Hp) (P : Int32 → Hp → Prop) (PX : String → Hp → Prop) (t : SxV E (d + 5) 1 MX9_checkInstruction [.ref (eA E 0), .int a1] h (fun h1 => (0 ≤ a2 → (SxV E (d + 5) 1 MX9_checkIdle [.ref (eA E 0)] h1 (fun h3 => vp_in a1 8 ∧ ((¬ a2 = 0 → (SpI E (d + 5) MX5_runWords [.ref (eA E 58), .ref (eA E 5), .ref (eA E 46), .int a2] (sI h3 58 1 (h3.1 50 a1.toNatClampNeg)) (fun v6 h6 => P v6 h6))) ∧ (a2 = 0 → (P (0 : Int32) (sI h3 58 1 (h3.1 50 a1.toNatClampNeg)))))) PX)) ∧ (¬ 0 ≤ a2 → (PX "java/lang/IllegalArgumentException" h1))) PX) : SxI E (d + 6) 2 MX9_start [.ref (eA E 0), .int a1, .int a2] h P PX := by
  refine SxI.of (lv0 := [(0, .ref (eA E 0)), (1, .int a1), (2, .int a2)]) (by decide) (Nat.le_of_ble_eq_true rfl) rfl (fun g hnt => ?_)
  refine r_aload_n (q := 0) dX9_start_0 rfl rfl ?_
  refine r_iload_n (q := 1) dX9_start_1 rfl rfl ?_
  refine r_xcVV (c := 0) (k1 := 1) (As := [.int a1]) dX9_start_2 mkX9_checkInstruction lkX9_154 lay_0 rfl rfl rfl (by decide) rfl (Nat.le_of_ble_eq_true rfl) (by decide) hnt t ?_
  intro h1 t
  refine r_iload_n (q := 2) dX9_start_5 rfl rfl ?_
  refine r_if_ge (tgt := 20) dX9_start_6 (by decide) (fun q2 => ?_) (fun q2 => ?_)
  · have t := t.1 q2
    refine r_aload_n (q := 0) dX9_start_20 rfl rfl ?_
    refine r_xcVV (c := 0) (k1 := 1) (As := []) dX9_start_21 mkX9_checkIdle lkX9_294 lay_0 rfl rfl rfl (by decide) rfl (Nat.le_of_ble_eq_true rfl) (by decide) hnt t ?_
    intro h3 t
    refine r_aload_n (q := 0) dX9_start_24 rfl rfl ?_
    refine r_getR (c := 0) (c2 := 58) dX9_start_25 flX9_71 lay_0 rfl ?_
    refine r_aload_n (q := 0) dX9_start_28 rfl rfl ?_
    refine r_getR (c := 0) (c2 := 46) dX9_start_29 flX9_57 lay_0 rfl ?_
    refine r_getR (c := 46) (c2 := 50) dX9_start_32 flX9_246 lay_46 rfl ?_
    refine r_iload_n (q := 1) dX9_start_35 rfl rfl ?_
    obtain ⟨c4, t⟩ := t
    refine r_iald (c := 50) dX9_start_36 lay_50 c4 ?_
    refine r_putI (c := 58) dX9_start_37 flX9_229 lay_58 rfl ?_
    refine r_iload_n (q := 2) dX9_start_40 rfl rfl ?_
    refine r_if_ne (tgt := 48) dX9_start_41 (by decide) (fun q5 => ?_) (fun q5 => ?_)
    · have t := t.1 q5
      refine r_aload_n (q := 0) dX9_start_48 rfl rfl ?_
      refine r_getR (c := 0) (c2 := 58) dX9_start_49 flX9_71 lay_0 rfl ?_
      refine r_aload_n (q := 0) dX9_start_52 rfl rfl ?_
      refine r_getR (c := 0) (c2 := 5) dX9_start_53 flX9_26 lay_0 rfl ?_
      refine r_aload_n (q := 0) dX9_start_56 rfl rfl ?_
      refine r_getR (c := 0) (c2 := 46) dX9_start_57 flX9_57 lay_0 rfl ?_
      refine r_iload_n (q := 2) dX9_start_60 rfl rfl ?_
      refine r_cVI (c := 58) (As := [.ref (eA E 5), .ref (eA E 46), .int a2]) dX9_start_61 mkX5_runWords lkX9_303 lay_58 rfl rfl rfl (by decide) rfl (Nat.le_of_ble_eq_true rfl) (by decide) t ?_
      intro v6 h6 t
      exact r_xiret dX9_start_64 rfl (by decide) t
    · have t := t.2 q5
      refine r_iconst (v := (0 : Int32)) dX9_start_44 rfl ?_
      refine r_goto (tgt := 64) dX9_start_45 (by decide) ?_
      exact r_xiret dX9_start_64 rfl (by decide) t
  · have t := t.2 q2
    exact r_throwW (tx := "a negative number of words") thr_A (by decide) rfl dX9_start_9 dX9_start_12 dX9_start_13 dX9_start_16 dX9_start_19 (Nat.le_of_ble_eq_true rfl) (by decide) hnt t
theorem dX9_resume_0 : decode cX9_resume 0 = .ok (.aload_n 0, 1) := by decide +kernel
theorem dX9_resume_1 : decode cX9_resume 1 = .ok (.getfield 71, 3) := by decide +kernel
theorem dX9_resume_4 : decode cX9_resume 4 = .ok (.getfield 229, 3) := by decide +kernel
theorem dX9_resume_7 : decode cX9_resume 7 = .ok (.iconst (-1), 1) := by decide +kernel
theorem dX9_resume_8 : decode cX9_resume 8 = .ok (.if_icmp .ne 14, 3) := by decide +kernel
theorem dX9_resume_11 : decode cX9_resume 11 = .ok (.new 198, 3) := by decide +kernel
theorem dX9_resume_14 : decode cX9_resume 14 = .ok (.dup, 1) := by decide +kernel
theorem dX9_resume_15 : decode cX9_resume 15 = .ok (.ldc_w 307, 3) := by decide +kernel
theorem dX9_resume_18 : decode cX9_resume 18 = .ok (.invokespecial 202, 3) := by decide +kernel
theorem dX9_resume_21 : decode cX9_resume 21 = .ok (.athrow, 1) := by decide +kernel
theorem dX9_resume_22 : decode cX9_resume 22 = .ok (.aload_n 0, 1) := by decide +kernel
theorem dX9_resume_23 : decode cX9_resume 23 = .ok (.getfield 71, 3) := by decide +kernel
theorem dX9_resume_26 : decode cX9_resume 26 = .ok (.aload_n 0, 1) := by decide +kernel
theorem dX9_resume_27 : decode cX9_resume 27 = .ok (.getfield 26, 3) := by decide +kernel
theorem dX9_resume_30 : decode cX9_resume 30 = .ok (.aload_n 0, 1) := by decide +kernel
theorem dX9_resume_31 : decode cX9_resume 31 = .ok (.getfield 57, 3) := by decide +kernel
theorem dX9_resume_34 : decode cX9_resume 34 = .ok (.bipush 24, 2) := by decide +kernel
theorem dX9_resume_36 : decode cX9_resume 36 = .ok (.invokevirtual 303, 3) := by decide +kernel
theorem dX9_resume_39 : decode cX9_resume 39 = .ok (.ireturn, 1) := by decide +kernel
set_option maxRecDepth 20000 in
theorem wp_X9_resume (E : En) (d : Nat) (h : Hp) (P : Int32 → Hp → Prop) (PX : String → Hp → Prop) (t : (¬ (h.1 58 1) = (-1 : Int32) → (SpI E (d + 5) MX5_runWords [.ref (eA E 58), .ref (eA E 5), .ref (eA E 46), .int (24 : Int32)] h (fun v2 h2 => P v2 h2))) ∧ ((h.1 58 1) = (-1 : Int32) → (PX "java/lang/IllegalStateException" h))) : SxI E (d + 6) 1 MX9_resume [.ref (eA E 0)] h P PX := by
  refine SxI.of (lv0 := [(0, .ref (eA E 0))]) (by decide) (Nat.le_of_ble_eq_true rfl) rfl (fun g hnt => ?_)
  refine r_aload_n (q := 0) dX9_resume_0 rfl rfl ?_
  refine r_getR (c := 0) (c2 := 58) dX9_resume_1 flX9_71 lay_0 rfl ?_
  refine r_getI (c := 58) dX9_resume_4 flX9_229 lay_58 rfl ?_
  refine r_iconst (v := (-1 : Int32)) dX9_resume_7 rfl ?_
  refine r_icmp_ne (tgt := 22) dX9_resume_8 (by decide) (fun q1 => ?_) (fun q1 => ?_)
  · have t := t.1 q1
    refine r_aload_n (q := 0) dX9_resume_22 rfl rfl ?_
    refine r_getR (c := 0) (c2 := 58) dX9_resume_23 flX9_71 lay_0 rfl ?_
    refine r_aload_n (q := 0) dX9_resume_26 rfl rfl ?_
    refine r_getR (c := 0) (c2 := 5) dX9_resume_27 flX9_26 lay_0 rfl ?_
    refine r_aload_n (q := 0) dX9_resume_30 rfl rfl ?_
    refine r_getR (c := 0) (c2 := 46) dX9_resume_31 flX9_57 lay_0 rfl ?_
    refine r_bipush (v := (24 : Int32)) dX9_resume_34 rfl ?_
    refine r_cVI (c := 58) (As := [.ref (eA E 5), .ref (eA E 46), .int (24 : Int32)]) dX9_resume_36 mkX5_runWords lkX9_303 lay_58 rfl rfl rfl (by decide) rfl (Nat.le_of_ble_eq_true rfl) (by decide) t ?_
    intro v2 h2 t
    exact r_xiret dX9_resume_39 rfl (by decide) t
  · have t := t.2 q1
    exact r_throwW (tx := "the processor is idle") thr_S (by decide) rfl dX9_resume_11 dX9_resume_14 dX9_resume_15 dX9_resume_18 dX9_resume_21 (Nat.le_of_ble_eq_true rfl) (by decide) hnt t
theorem dX9_agrees_0 : decode cX9_agrees 0 = .ok (.aload_n 0, 1) := by decide +kernel
theorem dX9_agrees_1 : decode cX9_agrees 1 = .ok (.iload_n 1, 1) := by decide +kernel
theorem dX9_agrees_2 : decode cX9_agrees 2 = .ok (.invokevirtual 154, 3) := by decide +kernel
theorem dX9_agrees_5 : decode cX9_agrees 5 = .ok (.aload_n 0, 1) := by decide +kernel
theorem dX9_agrees_6 : decode cX9_agrees 6 = .ok (.getfield 71, 3) := by decide +kernel
theorem dX9_agrees_9 : decode cX9_agrees 9 = .ok (.aload_n 0, 1) := by decide +kernel
theorem dX9_agrees_10 : decode cX9_agrees 10 = .ok (.getfield 26, 3) := by decide +kernel
theorem dX9_agrees_13 : decode cX9_agrees 13 = .ok (.aload_n 0, 1) := by decide +kernel
theorem dX9_agrees_14 : decode cX9_agrees 14 = .ok (.getfield 57, 3) := by decide +kernel
theorem dX9_agrees_17 : decode cX9_agrees 17 = .ok (.iload_n 1, 1) := by decide +kernel
theorem dX9_agrees_18 : decode cX9_agrees 18 = .ok (.invokevirtual 311, 3) := by decide +kernel
theorem dX9_agrees_21 : decode cX9_agrees 21 = .ok (.ireturn, 1) := by decide +kernel
set_option maxRecDepth 20000 in
theorem wp_X9_agrees (E : En) (d : Nat) (a1 : Int32) (h : Hp) (P : Int32 → Hp → Prop) (PX : String → Hp → Prop) (t : SxV E (d + 5) 1 MX9_checkInstruction [.ref (eA E 0), .int a1] h (fun h1 => SpI E (d + 5) MX5_agreesOn [.ref (eA E 58), .ref (eA E 5), .ref (eA E 46), .int a1] h1 (fun v2 h2 => (v2 = 0 ∨ v2 = 1) ∧ P v2 h2)) PX) : SxI E (d + 6) 1 MX9_agrees [.ref (eA E 0), .int a1] h P PX := by
  refine SxI.of (lv0 := [(0, .ref (eA E 0)), (1, .int a1)]) (by decide) (Nat.le_of_ble_eq_true rfl) rfl (fun g hnt => ?_)
  refine r_aload_n (q := 0) dX9_agrees_0 rfl rfl ?_
  refine r_iload_n (q := 1) dX9_agrees_1 rfl rfl ?_
  refine r_xcVV (c := 0) (k1 := 1) (As := [.int a1]) dX9_agrees_2 mkX9_checkInstruction lkX9_154 lay_0 rfl rfl rfl (by decide) rfl (Nat.le_of_ble_eq_true rfl) (by decide) hnt t ?_
  intro h1 t
  refine r_aload_n (q := 0) dX9_agrees_5 rfl rfl ?_
  refine r_getR (c := 0) (c2 := 58) dX9_agrees_6 flX9_71 lay_0 rfl ?_
  refine r_aload_n (q := 0) dX9_agrees_9 rfl rfl ?_
  refine r_getR (c := 0) (c2 := 5) dX9_agrees_10 flX9_26 lay_0 rfl ?_
  refine r_aload_n (q := 0) dX9_agrees_13 rfl rfl ?_
  refine r_getR (c := 0) (c2 := 46) dX9_agrees_14 flX9_57 lay_0 rfl ?_
  refine r_iload_n (q := 1) dX9_agrees_17 rfl rfl ?_
  refine r_cVI (c := 58) (As := [.ref (eA E 5), .ref (eA E 46), .int a1]) dX9_agrees_18 mkX5_agreesOn lkX9_311 lay_58 rfl rfl rfl (by decide) rfl (Nat.le_of_ble_eq_true rfl) (by decide) t ?_
  intro v2 h2 t
  exact r_xzret dX9_agrees_21 rfl t.1 (by decide) t.2
