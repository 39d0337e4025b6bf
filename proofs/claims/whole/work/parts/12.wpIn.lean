theorem dX2_put_0 : decode cX2_put 0 = .ok (.bipush 24, 2) := by decide +kernel
theorem dX2_put_2 : decode cX2_put 2 = .ok (.istore_n 2, 1) := by decide +kernel
theorem dX2_put_3 : decode cX2_put 3 = .ok (.iload_n 2, 1) := by decide +kernel
theorem dX2_put_4 : decode cX2_put 4 = .ok (.ifCond .lt 42, 3) := by decide +kernel
theorem dX2_put_7 : decode cX2_put 7 = .ok (.aload_n 0, 1) := by decide +kernel
theorem dX2_put_8 : decode cX2_put 8 = .ok (.getfield 9, 3) := by decide +kernel
theorem dX2_put_11 : decode cX2_put 11 = .ok (.sipush 1200, 3) := by decide +kernel
theorem dX2_put_14 : decode cX2_put 14 = .ok (.if_icmp .ge 26, 3) := by decide +kernel
theorem dX2_put_17 : decode cX2_put 17 = .ok (.aload_n 0, 1) := by decide +kernel
theorem dX2_put_18 : decode cX2_put 18 = .ok (.getfield 15, 3) := by decide +kernel
theorem dX2_put_21 : decode cX2_put 21 = .ok (.aload_n 0, 1) := by decide +kernel
theorem dX2_put_22 : decode cX2_put 22 = .ok (.getfield 9, 3) := by decide +kernel
theorem dX2_put_25 : decode cX2_put 25 = .ok (.iload_n 1, 1) := by decide +kernel
theorem dX2_put_26 : decode cX2_put 26 = .ok (.iload_n 2, 1) := by decide +kernel
theorem dX2_put_27 : decode cX2_put 27 = .ok (.iushr, 1) := by decide +kernel
theorem dX2_put_28 : decode cX2_put 28 = .ok (.i2b, 1) := by decide +kernel
theorem dX2_put_29 : decode cX2_put 29 = .ok (.bastore, 1) := by decide +kernel
theorem dX2_put_30 : decode cX2_put 30 = .ok (.aload_n 0, 1) := by decide +kernel
theorem dX2_put_31 : decode cX2_put 31 = .ok (.dup, 1) := by decide +kernel
theorem dX2_put_32 : decode cX2_put 32 = .ok (.getfield 9, 3) := by decide +kernel
theorem dX2_put_35 : decode cX2_put 35 = .ok (.iconst 1, 1) := by decide +kernel
theorem dX2_put_36 : decode cX2_put 36 = .ok (.iadd, 1) := by decide +kernel
theorem dX2_put_37 : decode cX2_put 37 = .ok (.putfield 9, 3) := by decide +kernel
theorem dX2_put_40 : decode cX2_put 40 = .ok (.iinc 2 (-8), 3) := by decide +kernel
theorem dX2_put_43 : decode cX2_put 43 = .ok (.goto (-40), 3) := by decide +kernel
theorem dX2_put_46 : decode cX2_put 46 = .ok (.return_, 1) := by decide +kernel
abbrev VX2_put_3 (E : En) (d : Nat) (g : Ga) (P : Hp → Prop) (x1 : Int32) (x2 : Int32) (h : Hp) : Prop := V E MX2_put (RM d 0) g (QQ E g (QV E P) 0 0) 0 0 h 3 [(0, .ref (eA E 1)), (1, .int x1), (2, .int x2)] []
set_option maxRecDepth 20000 in
theorem wp_X2_put (E : En) (d : Nat) (a1 : Int32) (h : Hp) (P : Hp → Prop) (t : ∀ g : Ga, VX2_put_3 E d g P a1 (24 : Int32) h) : SpV E d MX2_put [.ref (eA E 1), .int a1] h P := by
  refine SpV.of (lv0 := [(0, .ref (eA E 1)), (1, .int a1)]) (by decide) (Nat.le_of_ble_eq_true rfl) rfl (fun g => ?_)
  have t := t g
  refine r_bipush (v := (24 : Int32)) dX2_put_0 rfl ?_
  refine r_istore_n (lv' := [(2, .int (24 : Int32)), (0, .ref (eA E 1)), (1, .int a1)]) dX2_put_2 rfl (by decide) rfl ?_
  refine r_sub [1, 2, 0] rfl ?_
  exact t
set_option maxRecDepth 20000 in
theorem sg_X2_put_3 (E : En) (d : Nat) (g : Ga) (x1 : Int32) (x2 : Int32) (h : Hp) (P : Hp → Prop) (t : (x2 < 0 → (P h)) ∧ (¬ x2 < 0 → (((1200 : Int32) ≤ (h.1 1 0) → (VX2_put_3 E d g P x1 (x2 + (-8 : Int32)) h)) ∧ (¬ (1200 : Int32) ≤ (h.1 1 0) → (vp_in (h.1 1 0) 1200 ∧ (VX2_put_3 E d g P x1 (x2 + (-8 : Int32)) (sI (sI h 2 ((h.1 1 0).toNatClampNeg) (vp_nar .byte (((x1.toUInt32 >>> (x2.toUInt32 &&& Int32.toUInt32 31)).toInt32).toInt8.toInt32))) 1 0 ((h.1 1 0) + (1 : Int32))))))))) : VX2_put_3 E d g P x1 x2 h := by
  refine r_iload_n (q := 2) dX2_put_3 rfl rfl ?_
  refine r_if_lt (tgt := 46) dX2_put_4 (by decide) (fun q1 => ?_) (fun q1 => ?_)
  · have t := t.1 q1
    exact r_vret dX2_put_46 rfl t
  · have t := t.2 q1
    refine r_aload_n (q := 0) dX2_put_7 rfl rfl ?_
    refine r_getI (c := 1) dX2_put_8 flX2_9 lay_1 rfl ?_
    refine r_sipush (v := (1200 : Int32)) dX2_put_11 rfl ?_
    refine r_icmp_ge (tgt := 40) dX2_put_14 (by decide) (fun q2 => ?_) (fun q2 => ?_)
    · have t := t.1 q2
      refine r_iinc (k := 2) (v := x2 + (-8 : Int32)) (lv' := [(2, .int (x2 + (-8 : Int32))), (0, .ref (eA E 1)), (1, .int x1)]) dX2_put_40 rfl rfl (by decide) rfl ?_
      refine r_goto (tgt := 3) dX2_put_43 (by decide) ?_
      refine r_sub [1, 2, 0] rfl ?_
      exact t
    · have t := t.2 q2
      refine r_aload_n (q := 0) dX2_put_17 rfl rfl ?_
      refine r_getR (c := 1) (c2 := 2) dX2_put_18 flX2_15 lay_1 rfl ?_
      refine r_aload_n (q := 0) dX2_put_21 rfl rfl ?_
      refine r_getI (c := 1) dX2_put_22 flX2_9 lay_1 rfl ?_
      refine r_iload_n (q := 1) dX2_put_25 rfl rfl ?_
      refine r_iload_n (q := 2) dX2_put_26 rfl rfl ?_
      refine r_iushr dX2_put_27 ?_
      refine r_i2b dX2_put_28 ?_
      obtain ⟨c3, t⟩ := t
      refine r_bast (c := 2) dX2_put_29 lay_2 c3 ?_
      refine r_aload_n (q := 0) dX2_put_30 rfl rfl ?_
      refine r_dup dX2_put_31 rfl ?_
      refine r_getIv (c := 1) (v := h.1 1 0) dX2_put_32 flX2_9 lay_1 rfl rfl ?_
      refine r_iconst (v := (1 : Int32)) dX2_put_35 rfl ?_
      refine r_iadd dX2_put_36 ?_
      refine r_putI (c := 1) dX2_put_37 flX2_9 lay_1 rfl ?_
      refine r_iinc (k := 2) (v := x2 + (-8 : Int32)) (lv' := [(2, .int (x2 + (-8 : Int32))), (0, .ref (eA E 1)), (1, .int x1)]) dX2_put_40 rfl rfl (by decide) rfl ?_
      refine r_goto (tgt := 3) dX2_put_43 (by decide) ?_
      refine r_sub [1, 2, 0] rfl ?_
      exact t
theorem dX2_wholeName_0 : decode cX2_wholeName 0 = .ok (.aload_n 0, 1) := by decide +kernel
theorem dX2_wholeName_1 : decode cX2_wholeName 1 = .ok (.getfield 9, 3) := by decide +kernel
theorem dX2_wholeName_4 : decode cX2_wholeName 4 = .ok (.bipush 8, 2) := by decide +kernel
theorem dX2_wholeName_6 : decode cX2_wholeName 6 = .ok (.if_icmp .le 5, 3) := by decide +kernel
theorem dX2_wholeName_9 : decode cX2_wholeName 9 = .ok (.lconst 0, 1) := by decide +kernel
theorem dX2_wholeName_10 : decode cX2_wholeName 10 = .ok (.lreturn, 1) := by decide +kernel
theorem dX2_wholeName_11 : decode cX2_wholeName 11 = .ok (.lconst 0, 1) := by decide +kernel
theorem dX2_wholeName_12 : decode cX2_wholeName 12 = .ok (.lstore_n 1, 1) := by decide +kernel
theorem dX2_wholeName_13 : decode cX2_wholeName 13 = .ok (.iconst 0, 1) := by decide +kernel
theorem dX2_wholeName_14 : decode cX2_wholeName 14 = .ok (.istore_n 3, 1) := by decide +kernel
theorem dX2_wholeName_15 : decode cX2_wholeName 15 = .ok (.iload_n 3, 1) := by decide +kernel
theorem dX2_wholeName_16 : decode cX2_wholeName 16 = .ok (.aload_n 0, 1) := by decide +kernel
theorem dX2_wholeName_17 : decode cX2_wholeName 17 = .ok (.getfield 9, 3) := by decide +kernel
theorem dX2_wholeName_20 : decode cX2_wholeName 20 = .ok (.if_icmp .ge 48, 3) := by decide +kernel
theorem dX2_wholeName_23 : decode cX2_wholeName 23 = .ok (.aload_n 0, 1) := by decide +kernel
theorem dX2_wholeName_24 : decode cX2_wholeName 24 = .ok (.getfield 15, 3) := by decide +kernel
theorem dX2_wholeName_27 : decode cX2_wholeName 27 = .ok (.iload_n 3, 1) := by decide +kernel
theorem dX2_wholeName_28 : decode cX2_wholeName 28 = .ok (.baload, 1) := by decide +kernel
theorem dX2_wholeName_29 : decode cX2_wholeName 29 = .ok (.invokestatic 38, 3) := by decide +kernel
theorem dX2_wholeName_32 : decode cX2_wholeName 32 = .ok (.ifCond .ne 17, 3) := by decide +kernel
theorem dX2_wholeName_35 : decode cX2_wholeName 35 = .ok (.aload_n 0, 1) := by decide +kernel
theorem dX2_wholeName_36 : decode cX2_wholeName 36 = .ok (.getfield 15, 3) := by decide +kernel
theorem dX2_wholeName_39 : decode cX2_wholeName 39 = .ok (.iload_n 3, 1) := by decide +kernel
theorem dX2_wholeName_40 : decode cX2_wholeName 40 = .ok (.baload, 1) := by decide +kernel
theorem dX2_wholeName_41 : decode cX2_wholeName 41 = .ok (.invokestatic 42, 3) := by decide +kernel
theorem dX2_wholeName_44 : decode cX2_wholeName 44 = .ok (.ifCond .ne 5, 3) := by decide +kernel
theorem dX2_wholeName_47 : decode cX2_wholeName 47 = .ok (.lconst 0, 1) := by decide +kernel
theorem dX2_wholeName_48 : decode cX2_wholeName 48 = .ok (.lreturn, 1) := by decide +kernel
theorem dX2_wholeName_49 : decode cX2_wholeName 49 = .ok (.lload_n 1, 1) := by decide +kernel
theorem dX2_wholeName_50 : decode cX2_wholeName 50 = .ok (.bipush 8, 2) := by decide +kernel
theorem dX2_wholeName_52 : decode cX2_wholeName 52 = .ok (.lshl, 1) := by decide +kernel
theorem dX2_wholeName_53 : decode cX2_wholeName 53 = .ok (.aload_n 0, 1) := by decide +kernel
theorem dX2_wholeName_54 : decode cX2_wholeName 54 = .ok (.getfield 15, 3) := by decide +kernel
theorem dX2_wholeName_57 : decode cX2_wholeName 57 = .ok (.iload_n 3, 1) := by decide +kernel
theorem dX2_wholeName_58 : decode cX2_wholeName 58 = .ok (.baload, 1) := by decide +kernel
theorem dX2_wholeName_59 : decode cX2_wholeName 59 = .ok (.i2l, 1) := by decide +kernel
theorem dX2_wholeName_60 : decode cX2_wholeName 60 = .ok (.lor, 1) := by decide +kernel
theorem dX2_wholeName_61 : decode cX2_wholeName 61 = .ok (.lstore_n 1, 1) := by decide +kernel
theorem dX2_wholeName_62 : decode cX2_wholeName 62 = .ok (.iinc 3 1, 3) := by decide +kernel
theorem dX2_wholeName_65 : decode cX2_wholeName 65 = .ok (.goto (-50), 3) := by decide +kernel
theorem dX2_wholeName_68 : decode cX2_wholeName 68 = .ok (.lload_n 1, 1) := by decide +kernel
theorem dX2_wholeName_69 : decode cX2_wholeName 69 = .ok (.lreturn, 1) := by decide +kernel
abbrev VX2_wholeName_15 (E : En) (d : Nat) (g : Ga) (P : Int64 → Hp → Prop) (x1 : Int64) (x3 : Int32) (h : Hp) : Prop := V E MX2_wholeName (RM (d + 1) 0) g (QQ E g (QL E P) 0 0) 0 0 h 15 [(0, .ref (eA E 1)), (1, .long x1), (3, .int x3)] []
set_option maxRecDepth 20000 in
theorem wp_X2_wholeName (E : En) (d : Nat) (h : Hp) (P : Int64 → Hp → Prop) (t : ∀ g : Ga, ((h.1 1 0) ≤ (8 : Int32) → (VX2_wholeName_15 E d g P (0 : Int64) (0 : Int32) h)) ∧ (¬ (h.1 1 0) ≤ (8 : Int32) → (P (0 : Int64) h))) : SpL E (d + 1) MX2_wholeName [.ref (eA E 1)] h P := by
  refine SpL.of (lv0 := [(0, .ref (eA E 1))]) (by decide) (Nat.le_of_ble_eq_true rfl) rfl (fun g => ?_)
  have t := t g
  refine r_aload_n (q := 0) dX2_wholeName_0 rfl rfl ?_
  refine r_getI (c := 1) dX2_wholeName_1 flX2_9 lay_1 rfl ?_
  refine r_bipush (v := (8 : Int32)) dX2_wholeName_4 rfl ?_
  refine r_icmp_le (tgt := 11) dX2_wholeName_6 (by decide) (fun q1 => ?_) (fun q1 => ?_)
  · have t := t.1 q1
    refine r_lconst (v := (0 : Int64)) dX2_wholeName_11 rfl ?_
    refine r_lstore_n (lv' := [(1, .long (0 : Int64)), (0, .ref (eA E 1))]) dX2_wholeName_12 rfl (by decide) rfl ?_
    refine r_iconst (v := (0 : Int32)) dX2_wholeName_13 rfl ?_
    refine r_istore_n (lv' := [(3, .int (0 : Int32)), (1, .long (0 : Int64)), (0, .ref (eA E 1))]) dX2_wholeName_14 rfl (by decide) rfl ?_
    refine r_sub [2, 1, 0] rfl ?_
    exact t
  · have t := t.2 q1
    refine r_lconst (v := (0 : Int64)) dX2_wholeName_9 rfl ?_
    exact r_lret dX2_wholeName_10 rfl t
set_option maxRecDepth 20000 in
theorem sg_X2_wholeName_15 (E : En) (d : Nat) (g : Ga) (x1 : Int64) (x3 : Int32) (h : Hp) (P : Int64 → Hp → Prop) (t : ((h.1 1 0) ≤ x3 → (P x1 h)) ∧ (¬ (h.1 1 0) ≤ x3 → (vp_in x3 1200 ∧ (SpI E d MX2_isLetter [.int (h.1 2 x3.toNatClampNeg)] h (fun v3 h3 => (¬ v3 = 0 → (vp_in x3 1200 ∧ (VX2_wholeName_15 E d g P ((x1 <<< ((8 : Int32).toInt64 &&& 63)) ||| ((h3.1 2 x3.toNatClampNeg).toInt64)) (x3 + (1 : Int32)) h3))) ∧ (v3 = 0 → (vp_in x3 1200 ∧ (SpI E d MX2_isDigit [.int (h3.1 2 x3.toNatClampNeg)] h3 (fun v7 h7 => (¬ v7 = 0 → (vp_in x3 1200 ∧ (VX2_wholeName_15 E d g P ((x1 <<< ((8 : Int32).toInt64 &&& 63)) ||| ((h7.1 2 x3.toNatClampNeg).toInt64)) (x3 + (1 : Int32)) h7))) ∧ (v7 = 0 → (P (0 : Int64) h7))))))))))) : VX2_wholeName_15 E d g P x1 x3 h := by
  refine r_iload_n (q := 2) dX2_wholeName_15 rfl rfl ?_
  refine r_aload_n (q := 0) dX2_wholeName_16 rfl rfl ?_
  refine r_getI (c := 1) dX2_wholeName_17 flX2_9 lay_1 rfl ?_
  refine r_icmp_ge (tgt := 68) dX2_wholeName_20 (by decide) (fun q1 => ?_) (fun q1 => ?_)
  · have t := t.1 q1
    refine r_lload_n (q := 1) dX2_wholeName_68 rfl rfl ?_
    exact r_lret dX2_wholeName_69 rfl t
  · have t := t.2 q1
    refine r_aload_n (q := 0) dX2_wholeName_23 rfl rfl ?_
    refine r_getR (c := 1) (c2 := 2) dX2_wholeName_24 flX2_15 lay_1 rfl ?_
    refine r_iload_n (q := 2) dX2_wholeName_27 rfl rfl ?_
    obtain ⟨c2, t⟩ := t
    refine r_bald (c := 2) dX2_wholeName_28 lay_2 c2 ?_
    refine r_cSI (As := [.int (h.1 2 x3.toNatClampNeg)]) dX2_wholeName_29 mkX2_isLetter lkX2_38 rfl (by decide) rfl (Nat.le_of_ble_eq_true rfl) z00 t ?_
    intro v3 h3 t
    refine r_if_ne (tgt := 49) dX2_wholeName_32 (by decide) (fun q4 => ?_) (fun q4 => ?_)
    · have t := t.1 q4
      refine r_lload_n (q := 1) dX2_wholeName_49 rfl rfl ?_
      refine r_bipush (v := (8 : Int32)) dX2_wholeName_50 rfl ?_
      refine r_lshl dX2_wholeName_52 ?_
      refine r_aload_n (q := 0) dX2_wholeName_53 rfl rfl ?_
      refine r_getR (c := 1) (c2 := 2) dX2_wholeName_54 flX2_15 lay_1 rfl ?_
      refine r_iload_n (q := 2) dX2_wholeName_57 rfl rfl ?_
      obtain ⟨c5, t⟩ := t
      refine r_bald (c := 2) dX2_wholeName_58 lay_2 c5 ?_
      refine r_i2l dX2_wholeName_59 ?_
      refine r_lor dX2_wholeName_60 ?_
      refine r_lstore_n (lv' := [(1, .long ((x1 <<< ((8 : Int32).toInt64 &&& 63)) ||| ((h3.1 2 x3.toNatClampNeg).toInt64))), (0, .ref (eA E 1)), (3, .int x3)]) dX2_wholeName_61 rfl (by decide) rfl ?_
      refine r_iinc (k := 2) (v := x3 + (1 : Int32)) (lv' := [(3, .int (x3 + (1 : Int32))), (1, .long ((x1 <<< ((8 : Int32).toInt64 &&& 63)) ||| ((h3.1 2 x3.toNatClampNeg).toInt64))), (0, .ref (eA E 1))]) dX2_wholeName_62 rfl rfl (by decide) rfl ?_
      refine r_goto (tgt := 15) dX2_wholeName_65 (by decide) ?_
      refine r_sub [2, 1, 0] rfl ?_
      exact t
    · have t := t.2 q4
      refine r_aload_n (q := 0) dX2_wholeName_35 rfl rfl ?_
      refine r_getR (c := 1) (c2 := 2) dX2_wholeName_36 flX2_15 lay_1 rfl ?_
      refine r_iload_n (q := 2) dX2_wholeName_39 rfl rfl ?_
      obtain ⟨c6, t⟩ := t
      refine r_bald (c := 2) dX2_wholeName_40 lay_2 c6 ?_
      refine r_cSI (As := [.int (h3.1 2 x3.toNatClampNeg)]) dX2_wholeName_41 mkX2_isDigit lkX2_42 rfl (by decide) rfl (Nat.le_of_ble_eq_true rfl) z00 t ?_
      intro v7 h7 t
      refine r_if_ne (tgt := 49) dX2_wholeName_44 (by decide) (fun q8 => ?_) (fun q8 => ?_)
      · have t := t.1 q8
        refine r_lload_n (q := 1) dX2_wholeName_49 rfl rfl ?_
        refine r_bipush (v := (8 : Int32)) dX2_wholeName_50 rfl ?_
        refine r_lshl dX2_wholeName_52 ?_
        refine r_aload_n (q := 0) dX2_wholeName_53 rfl rfl ?_
        refine r_getR (c := 1) (c2 := 2) dX2_wholeName_54 flX2_15 lay_1 rfl ?_
        refine r_iload_n (q := 2) dX2_wholeName_57 rfl rfl ?_
        obtain ⟨c9, t⟩ := t
        refine r_bald (c := 2) dX2_wholeName_58 lay_2 c9 ?_
        refine r_i2l dX2_wholeName_59 ?_
        refine r_lor dX2_wholeName_60 ?_
        refine r_lstore_n (lv' := [(1, .long ((x1 <<< ((8 : Int32).toInt64 &&& 63)) ||| ((h7.1 2 x3.toNatClampNeg).toInt64))), (0, .ref (eA E 1)), (3, .int x3)]) dX2_wholeName_61 rfl (by decide) rfl ?_
        refine r_iinc (k := 2) (v := x3 + (1 : Int32)) (lv' := [(3, .int (x3 + (1 : Int32))), (1, .long ((x1 <<< ((8 : Int32).toInt64 &&& 63)) ||| ((h7.1 2 x3.toNatClampNeg).toInt64))), (0, .ref (eA E 1))]) dX2_wholeName_62 rfl rfl (by decide) rfl ?_
        refine r_goto (tgt := 15) dX2_wholeName_65 (by decide) ?_
        refine r_sub [2, 1, 0] rfl ?_
        exact t
      · have t := t.2 q8
        refine r_lconst (v := (0 : Int64)) dX2_wholeName_47 rfl ?_
        exact r_lret dX2_wholeName_48 rfl t
theorem dX2_isLetter_0 : decode cX2_isLetter 0 = .ok (.iload_n 0, 1) := by decide +kernel
theorem dX2_isLetter_1 : decode cX2_isLetter 1 = .ok (.bipush 97, 2) := by decide +kernel
theorem dX2_isLetter_3 : decode cX2_isLetter 3 = .ok (.if_icmp .lt 13, 3) := by decide +kernel
theorem dX2_isLetter_6 : decode cX2_isLetter 6 = .ok (.iload_n 0, 1) := by decide +kernel
theorem dX2_isLetter_7 : decode cX2_isLetter 7 = .ok (.bipush 122, 2) := by decide +kernel
theorem dX2_isLetter_9 : decode cX2_isLetter 9 = .ok (.if_icmp .gt 7, 3) := by decide +kernel
theorem dX2_isLetter_12 : decode cX2_isLetter 12 = .ok (.iconst 1, 1) := by decide +kernel
theorem dX2_isLetter_13 : decode cX2_isLetter 13 = .ok (.goto 4, 3) := by decide +kernel
theorem dX2_isLetter_16 : decode cX2_isLetter 16 = .ok (.iconst 0, 1) := by decide +kernel
theorem dX2_isLetter_17 : decode cX2_isLetter 17 = .ok (.ireturn, 1) := by decide +kernel
set_option maxRecDepth 20000 in
theorem wp_X2_isLetter (E : En) (d : Nat) (a1 : Int32) (h : Hp) (P : Int32 → Hp → Prop) (t : (a1 < (97 : Int32) → (P (0 : Int32) h)) ∧ (¬ a1 < (97 : Int32) → (((122 : Int32) < a1 → (P (0 : Int32) h)) ∧ (¬ (122 : Int32) < a1 → (P (1 : Int32) h))))) : SpI E d MX2_isLetter [.int a1] h P := by
  refine SpI.of (lv0 := [(0, .int a1)]) (by decide) (Nat.le_of_ble_eq_true rfl) rfl (fun g => ?_)
  refine r_iload_n (q := 0) dX2_isLetter_0 rfl rfl ?_
  refine r_bipush (v := (97 : Int32)) dX2_isLetter_1 rfl ?_
  refine r_icmp_lt (tgt := 16) dX2_isLetter_3 (by decide) (fun q1 => ?_) (fun q1 => ?_)
  · have t := t.1 q1
    refine r_iconst (v := (0 : Int32)) dX2_isLetter_16 rfl ?_
    exact r_zret dX2_isLetter_17 rfl (Or.inl rfl) t
  · have t := t.2 q1
    refine r_iload_n (q := 0) dX2_isLetter_6 rfl rfl ?_
    refine r_bipush (v := (122 : Int32)) dX2_isLetter_7 rfl ?_
    refine r_icmp_gt (tgt := 16) dX2_isLetter_9 (by decide) (fun q2 => ?_) (fun q2 => ?_)
    · have t := t.1 q2
      refine r_iconst (v := (0 : Int32)) dX2_isLetter_16 rfl ?_
      exact r_zret dX2_isLetter_17 rfl (Or.inl rfl) t
    · have t := t.2 q2
      refine r_iconst (v := (1 : Int32)) dX2_isLetter_12 rfl ?_
      refine r_goto (tgt := 17) dX2_isLetter_13 (by decide) ?_
      exact r_zret dX2_isLetter_17 rfl (Or.inr rfl) t
theorem dX2_isDigit_0 : decode cX2_isDigit 0 = .ok (.iload_n 0, 1) := by decide +kernel
theorem dX2_isDigit_1 : decode cX2_isDigit 1 = .ok (.bipush 48, 2) := by decide +kernel
theorem dX2_isDigit_3 : decode cX2_isDigit 3 = .ok (.if_icmp .lt 13, 3) := by decide +kernel
theorem dX2_isDigit_6 : decode cX2_isDigit 6 = .ok (.iload_n 0, 1) := by decide +kernel
theorem dX2_isDigit_7 : decode cX2_isDigit 7 = .ok (.bipush 57, 2) := by decide +kernel
theorem dX2_isDigit_9 : decode cX2_isDigit 9 = .ok (.if_icmp .gt 7, 3) := by decide +kernel
theorem dX2_isDigit_12 : decode cX2_isDigit 12 = .ok (.iconst 1, 1) := by decide +kernel
theorem dX2_isDigit_13 : decode cX2_isDigit 13 = .ok (.goto 4, 3) := by decide +kernel
theorem dX2_isDigit_16 : decode cX2_isDigit 16 = .ok (.iconst 0, 1) := by decide +kernel
theorem dX2_isDigit_17 : decode cX2_isDigit 17 = .ok (.ireturn, 1) := by decide +kernel
set_option maxRecDepth 20000 in
theorem wp_X2_isDigit (E : En) (d : Nat) (a1 : Int32) (h : Hp) (P : Int32 → Hp → Prop) (t : (a1 < (48 : Int32) → (P (0 : Int32) h)) ∧ (¬ a1 < (48 : Int32) → (((57 : Int32) < a1 → (P (0 : Int32) h)) ∧ (¬ (57 : Int32) < a1 → (P (1 : Int32) h))))) : SpI E d MX2_isDigit [.int a1] h P := by
  refine SpI.of (lv0 := [(0, .int a1)]) (by decide) (Nat.le_of_ble_eq_true rfl) rfl (fun g => ?_)
  refine r_iload_n (q := 0) dX2_isDigit_0 rfl rfl ?_
  refine r_bipush (v := (48 : Int32)) dX2_isDigit_1 rfl ?_
  refine r_icmp_lt (tgt := 16) dX2_isDigit_3 (by decide) (fun q1 => ?_) (fun q1 => ?_)
  · have t := t.1 q1
    refine r_iconst (v := (0 : Int32)) dX2_isDigit_16 rfl ?_
    exact r_zret dX2_isDigit_17 rfl (Or.inl rfl) t
  · have t := t.2 q1
    refine r_iload_n (q := 0) dX2_isDigit_6 rfl rfl ?_
    refine r_bipush (v := (57 : Int32)) dX2_isDigit_7 rfl ?_
    refine r_icmp_gt (tgt := 16) dX2_isDigit_9 (by decide) (fun q2 => ?_) (fun q2 => ?_)
    · have t := t.1 q2
      refine r_iconst (v := (0 : Int32)) dX2_isDigit_16 rfl ?_
      exact r_zret dX2_isDigit_17 rfl (Or.inl rfl) t
    · have t := t.2 q2
      refine r_iconst (v := (1 : Int32)) dX2_isDigit_12 rfl ?_
      refine r_goto (tgt := 17) dX2_isDigit_13 (by decide) ?_
      exact r_zret dX2_isDigit_17 rfl (Or.inr rfl) t
theorem dX2_fail_0 : decode cX2_fail 0 = .ok (.aload_n 0, 1) := by decide +kernel
theorem dX2_fail_1 : decode cX2_fail 1 = .ok (.bipush 8, 2) := by decide +kernel
theorem dX2_fail_3 : decode cX2_fail 3 = .ok (.aload_n 0, 1) := by decide +kernel
theorem dX2_fail_4 : decode cX2_fail 4 = .ok (.getfield 25, 3) := by decide +kernel
theorem dX2_fail_7 : decode cX2_fail 7 = .ok (.imul, 1) := by decide +kernel
theorem dX2_fail_8 : decode cX2_fail 8 = .ok (.iload_n 1, 1) := by decide +kernel
theorem dX2_fail_9 : decode cX2_fail 9 = .ok (.iadd, 1) := by decide +kernel
theorem dX2_fail_10 : decode cX2_fail 10 = .ok (.putfield 35, 3) := by decide +kernel
theorem dX2_fail_13 : decode cX2_fail 13 = .ok (.iconst 0, 1) := by decide +kernel
theorem dX2_fail_14 : decode cX2_fail 14 = .ok (.ireturn, 1) := by decide +kernel
set_option maxRecDepth 20000 in
theorem wp_X2_fail (E : En) (d : Nat) (a1 : Int32) (h : Hp) (P : Int32 → Hp → Prop) (t : P (0 : Int32) (sI h 1 7 (((8 : Int32) * (h.1 1 4)) + a1))) : SpI E d MX2_fail [.ref (eA E 1), .int a1] h P := by
  refine SpI.of (lv0 := [(0, .ref (eA E 1)), (1, .int a1)]) (by decide) (Nat.le_of_ble_eq_true rfl) rfl (fun g => ?_)
  refine r_aload_n (q := 0) dX2_fail_0 rfl rfl ?_
  refine r_bipush (v := (8 : Int32)) dX2_fail_1 rfl ?_
  refine r_aload_n (q := 0) dX2_fail_3 rfl rfl ?_
  refine r_getI (c := 1) dX2_fail_4 flX2_25 lay_1 rfl ?_
  refine r_imul dX2_fail_7 ?_
  refine r_iload_n (q := 1) dX2_fail_8 rfl rfl ?_
  refine r_iadd dX2_fail_9 ?_
  refine r_putI (c := 1) dX2_fail_10 flX2_35 lay_1 rfl ?_
  refine r_iconst (v := (0 : Int32)) dX2_fail_13 rfl ?_
  exact r_zret dX2_fail_14 rfl (Or.inl rfl) t
theorem dX2_isOperand_0 : decode cX2_isOperand 0 = .ok (.aload_n 0, 1) := by decide +kernel
theorem dX2_isOperand_1 : decode cX2_isOperand 1 = .ok (.getfield 22, 3) := by decide +kernel
theorem dX2_isOperand_4 : decode cX2_isOperand 4 = .ok (.iconst 3, 1) := by decide +kernel
theorem dX2_isOperand_5 : decode cX2_isOperand 5 = .ok (.if_icmp .eq 11, 3) := by decide +kernel
theorem dX2_isOperand_8 : decode cX2_isOperand 8 = .ok (.aload_n 0, 1) := by decide +kernel
theorem dX2_isOperand_9 : decode cX2_isOperand 9 = .ok (.getfield 22, 3) := by decide +kernel
theorem dX2_isOperand_12 : decode cX2_isOperand 12 = .ok (.iconst 4, 1) := by decide +kernel
theorem dX2_isOperand_13 : decode cX2_isOperand 13 = .ok (.if_icmp .ne 7, 3) := by decide +kernel
theorem dX2_isOperand_16 : decode cX2_isOperand 16 = .ok (.iconst 1, 1) := by decide +kernel
theorem dX2_isOperand_17 : decode cX2_isOperand 17 = .ok (.goto 4, 3) := by decide +kernel
theorem dX2_isOperand_20 : decode cX2_isOperand 20 = .ok (.iconst 0, 1) := by decide +kernel
theorem dX2_isOperand_21 : decode cX2_isOperand 21 = .ok (.ireturn, 1) := by decide +kernel
set_option maxRecDepth 20000 in
theorem wp_X2_isOperand (E : En) (d : Nat) (h : Hp) (P : Int32 → Hp → Prop) (t : ((h.1 1 3) = (3 : Int32) → (P (1 : Int32) h)) ∧ (¬ (h.1 1 3) = (3 : Int32) → ((¬ (h.1 1 3) = (4 : Int32) → (P (0 : Int32) h)) ∧ ((h.1 1 3) = (4 : Int32) → (P (1 : Int32) h))))) : SpI E d MX2_isOperand [.ref (eA E 1)] h P := by
  refine SpI.of (lv0 := [(0, .ref (eA E 1))]) (by decide) (Nat.le_of_ble_eq_true rfl) rfl (fun g => ?_)
  refine r_aload_n (q := 0) dX2_isOperand_0 rfl rfl ?_
  refine r_getI (c := 1) dX2_isOperand_1 flX2_22 lay_1 rfl ?_
  refine r_iconst (v := (3 : Int32)) dX2_isOperand_4 rfl ?_
  refine r_icmp_eq (tgt := 16) dX2_isOperand_5 (by decide) (fun q1 => ?_) (fun q1 => ?_)
  · have t := t.1 q1
    refine r_iconst (v := (1 : Int32)) dX2_isOperand_16 rfl ?_
    refine r_goto (tgt := 21) dX2_isOperand_17 (by decide) ?_
    exact r_zret dX2_isOperand_21 rfl (Or.inr rfl) t
  · have t := t.2 q1
    refine r_aload_n (q := 0) dX2_isOperand_8 rfl rfl ?_
    refine r_getI (c := 1) dX2_isOperand_9 flX2_22 lay_1 rfl ?_
    refine r_iconst (v := (4 : Int32)) dX2_isOperand_12 rfl ?_
    refine r_icmp_ne (tgt := 20) dX2_isOperand_13 (by decide) (fun q2 => ?_) (fun q2 => ?_)
    · have t := t.1 q2
      refine r_iconst (v := (0 : Int32)) dX2_isOperand_20 rfl ?_
      exact r_zret dX2_isOperand_21 rfl (Or.inl rfl) t
    · have t := t.2 q2
      refine r_iconst (v := (1 : Int32)) dX2_isOperand_16 rfl ?_
      refine r_goto (tgt := 21) dX2_isOperand_17 (by decide) ?_
      exact r_zret dX2_isOperand_21 rfl (Or.inr rfl) t
theorem dX2_operand_0 : decode cX2_operand 0 = .ok (.aload_n 0, 1) := by decide +kernel
theorem dX2_operand_1 : decode cX2_operand 1 = .ok (.getfield 22, 3) := by decide +kernel
theorem dX2_operand_4 : decode cX2_operand 4 = .ok (.iconst 3, 1) := by decide +kernel
theorem dX2_operand_5 : decode cX2_operand 5 = .ok (.if_icmp .ne 12, 3) := by decide +kernel
theorem dX2_operand_8 : decode cX2_operand 8 = .ok (.aload_n 0, 1) := by decide +kernel
theorem dX2_operand_9 : decode cX2_operand 9 = .ok (.getfield 32, 3) := by decide +kernel
theorem dX2_operand_12 : decode cX2_operand 12 = .ok (.iconst (-1), 1) := by decide +kernel
theorem dX2_operand_13 : decode cX2_operand 13 = .ok (.ixor, 1) := by decide +kernel
theorem dX2_operand_14 : decode cX2_operand 14 = .ok (.goto 7, 3) := by decide +kernel
theorem dX2_operand_17 : decode cX2_operand 17 = .ok (.aload_n 0, 1) := by decide +kernel
theorem dX2_operand_18 : decode cX2_operand 18 = .ok (.getfield 32, 3) := by decide +kernel
theorem dX2_operand_21 : decode cX2_operand 21 = .ok (.ireturn, 1) := by decide +kernel
set_option maxRecDepth 20000 in
theorem wp_X2_operand (E : En) (d : Nat) (h : Hp) (P : Int32 → Hp → Prop) (t : (¬ (h.1 1 3) = (3 : Int32) → (P (h.1 1 6) h)) ∧ ((h.1 1 3) = (3 : Int32) → (P ((h.1 1 6) ^^^ (-1 : Int32)) h))) : SpI E d MX2_operand [.ref (eA E 1)] h P := by
  refine SpI.of (lv0 := [(0, .ref (eA E 1))]) (by decide) (Nat.le_of_ble_eq_true rfl) rfl (fun g => ?_)
  refine r_aload_n (q := 0) dX2_operand_0 rfl rfl ?_
  refine r_getI (c := 1) dX2_operand_1 flX2_22 lay_1 rfl ?_
  refine r_iconst (v := (3 : Int32)) dX2_operand_4 rfl ?_
  refine r_icmp_ne (tgt := 17) dX2_operand_5 (by decide) (fun q1 => ?_) (fun q1 => ?_)
  · have t := t.1 q1
    refine r_aload_n (q := 0) dX2_operand_17 rfl rfl ?_
    refine r_getI (c := 1) dX2_operand_18 flX2_32 lay_1 rfl ?_
    exact r_iret dX2_operand_21 rfl t
  · have t := t.2 q1
    refine r_aload_n (q := 0) dX2_operand_8 rfl rfl ?_
    refine r_getI (c := 1) dX2_operand_9 flX2_32 lay_1 rfl ?_
    refine r_iconst (v := (-1 : Int32)) dX2_operand_12 rfl ?_
    refine r_ixor dX2_operand_13 ?_
    refine r_goto (tgt := 21) dX2_operand_14 (by decide) ?_
    exact r_iret dX2_operand_21 rfl t
theorem dX2_operandReads_0 : decode cX2_operandReads 0 = .ok (.aload_n 0, 1) := by decide +kernel
theorem dX2_operandReads_1 : decode cX2_operandReads 1 = .ok (.getfield 22, 3) := by decide +kernel
theorem dX2_operandReads_4 : decode cX2_operandReads 4 = .ok (.iconst 3, 1) := by decide +kernel
theorem dX2_operandReads_5 : decode cX2_operandReads 5 = .ok (.if_icmp .ne 12, 3) := by decide +kernel
theorem dX2_operandReads_8 : decode cX2_operandReads 8 = .ok (.iconst 1, 1) := by decide +kernel
theorem dX2_operandReads_9 : decode cX2_operandReads 9 = .ok (.aload_n 0, 1) := by decide +kernel
theorem dX2_operandReads_10 : decode cX2_operandReads 10 = .ok (.getfield 32, 3) := by decide +kernel
theorem dX2_operandReads_13 : decode cX2_operandReads 13 = .ok (.ishl, 1) := by decide +kernel
theorem dX2_operandReads_14 : decode cX2_operandReads 14 = .ok (.goto 4, 3) := by decide +kernel
theorem dX2_operandReads_17 : decode cX2_operandReads 17 = .ok (.iconst 0, 1) := by decide +kernel
theorem dX2_operandReads_18 : decode cX2_operandReads 18 = .ok (.ireturn, 1) := by decide +kernel
set_option maxRecDepth 20000 in
theorem wp_X2_operandReads (E : En) (d : Nat) (h : Hp) (P : Int32 → Hp → Prop) (t : (¬ (h.1 1 3) = (3 : Int32) → (P (0 : Int32) h)) ∧ ((h.1 1 3) = (3 : Int32) → (P ((1 : Int32) <<< ((h.1 1 6) &&& 31)) h))) : SpI E d MX2_operandReads [.ref (eA E 1)] h P := by
  refine SpI.of (lv0 := [(0, .ref (eA E 1))]) (by decide) (Nat.le_of_ble_eq_true rfl) rfl (fun g => ?_)
  refine r_aload_n (q := 0) dX2_operandReads_0 rfl rfl ?_
  refine r_getI (c := 1) dX2_operandReads_1 flX2_22 lay_1 rfl ?_
  refine r_iconst (v := (3 : Int32)) dX2_operandReads_4 rfl ?_
  refine r_icmp_ne (tgt := 17) dX2_operandReads_5 (by decide) (fun q1 => ?_) (fun q1 => ?_)
  · have t := t.1 q1
    refine r_iconst (v := (0 : Int32)) dX2_operandReads_17 rfl ?_
    exact r_iret dX2_operandReads_18 rfl t
  · have t := t.2 q1
    refine r_iconst (v := (1 : Int32)) dX2_operandReads_8 rfl ?_
    refine r_aload_n (q := 0) dX2_operandReads_9 rfl rfl ?_
    refine r_getI (c := 1) dX2_operandReads_10 flX2_32 lay_1 rfl ?_
    refine r_ishl dX2_operandReads_13 ?_
    refine r_goto (tgt := 18) dX2_operandReads_14 (by decide) ?_
    exact r_iret dX2_operandReads_18 rfl t
theorem dX2_takeNumber_0 : decode cX2_takeNumber 0 = .ok (.aload_n 0, 1) := by decide +kernel
theorem dX2_takeNumber_1 : decode cX2_takeNumber 1 = .ok (.iconst 0, 1) := by decide +kernel
theorem dX2_takeNumber_2 : decode cX2_takeNumber 2 = .ok (.putfield 32, 3) := by decide +kernel
theorem dX2_takeNumber_5 : decode cX2_takeNumber 5 = .ok (.aload_n 0, 1) := by decide +kernel
theorem dX2_takeNumber_6 : decode cX2_takeNumber 6 = .ok (.getfield 19, 3) := by decide +kernel
theorem dX2_takeNumber_9 : decode cX2_takeNumber 9 = .ok (.aload_n 0, 1) := by decide +kernel
theorem dX2_takeNumber_10 : decode cX2_takeNumber 10 = .ok (.getfield 9, 3) := by decide +kernel
theorem dX2_takeNumber_13 : decode cX2_takeNumber 13 = .ok (.if_icmp .ge 55, 3) := by decide +kernel
theorem dX2_takeNumber_16 : decode cX2_takeNumber 16 = .ok (.aload_n 0, 1) := by decide +kernel
theorem dX2_takeNumber_17 : decode cX2_takeNumber 17 = .ok (.getfield 15, 3) := by decide +kernel
theorem dX2_takeNumber_20 : decode cX2_takeNumber 20 = .ok (.aload_n 0, 1) := by decide +kernel
theorem dX2_takeNumber_21 : decode cX2_takeNumber 21 = .ok (.getfield 19, 3) := by decide +kernel
theorem dX2_takeNumber_24 : decode cX2_takeNumber 24 = .ok (.baload, 1) := by decide +kernel
theorem dX2_takeNumber_25 : decode cX2_takeNumber 25 = .ok (.invokestatic 42, 3) := by decide +kernel
theorem dX2_takeNumber_28 : decode cX2_takeNumber 28 = .ok (.ifCond .eq 40, 3) := by decide +kernel
theorem dX2_takeNumber_31 : decode cX2_takeNumber 31 = .ok (.aload_n 0, 1) := by decide +kernel
theorem dX2_takeNumber_32 : decode cX2_takeNumber 32 = .ok (.bipush 10, 2) := by decide +kernel
theorem dX2_takeNumber_34 : decode cX2_takeNumber 34 = .ok (.aload_n 0, 1) := by decide +kernel
theorem dX2_takeNumber_35 : decode cX2_takeNumber 35 = .ok (.getfield 32, 3) := by decide +kernel
theorem dX2_takeNumber_38 : decode cX2_takeNumber 38 = .ok (.imul, 1) := by decide +kernel
theorem dX2_takeNumber_39 : decode cX2_takeNumber 39 = .ok (.aload_n 0, 1) := by decide +kernel
theorem dX2_takeNumber_40 : decode cX2_takeNumber 40 = .ok (.getfield 15, 3) := by decide +kernel
theorem dX2_takeNumber_43 : decode cX2_takeNumber 43 = .ok (.aload_n 0, 1) := by decide +kernel
theorem dX2_takeNumber_44 : decode cX2_takeNumber 44 = .ok (.getfield 19, 3) := by decide +kernel
theorem dX2_takeNumber_47 : decode cX2_takeNumber 47 = .ok (.baload, 1) := by decide +kernel
theorem dX2_takeNumber_48 : decode cX2_takeNumber 48 = .ok (.iadd, 1) := by decide +kernel
theorem dX2_takeNumber_49 : decode cX2_takeNumber 49 = .ok (.bipush 48, 2) := by decide +kernel
theorem dX2_takeNumber_51 : decode cX2_takeNumber 51 = .ok (.isub, 1) := by decide +kernel
theorem dX2_takeNumber_52 : decode cX2_takeNumber 52 = .ok (.putfield 32, 3) := by decide +kernel
theorem dX2_takeNumber_55 : decode cX2_takeNumber 55 = .ok (.aload_n 0, 1) := by decide +kernel
theorem dX2_takeNumber_56 : decode cX2_takeNumber 56 = .ok (.dup, 1) := by decide +kernel
theorem dX2_takeNumber_57 : decode cX2_takeNumber 57 = .ok (.getfield 19, 3) := by decide +kernel
theorem dX2_takeNumber_60 : decode cX2_takeNumber 60 = .ok (.iconst 1, 1) := by decide +kernel
theorem dX2_takeNumber_61 : decode cX2_takeNumber 61 = .ok (.iadd, 1) := by decide +kernel
theorem dX2_takeNumber_62 : decode cX2_takeNumber 62 = .ok (.putfield 19, 3) := by decide +kernel
theorem dX2_takeNumber_65 : decode cX2_takeNumber 65 = .ok (.goto (-60), 3) := by decide +kernel
theorem dX2_takeNumber_68 : decode cX2_takeNumber 68 = .ok (.aload_n 0, 1) := by decide +kernel
theorem dX2_takeNumber_69 : decode cX2_takeNumber 69 = .ok (.aload_n 0, 1) := by decide +kernel
theorem dX2_takeNumber_70 : decode cX2_takeNumber 70 = .ok (.getfield 19, 3) := by decide +kernel
theorem dX2_takeNumber_73 : decode cX2_takeNumber 73 = .ok (.aload_n 0, 1) := by decide +kernel
theorem dX2_takeNumber_74 : decode cX2_takeNumber 74 = .ok (.getfield 25, 3) := by decide +kernel
theorem dX2_takeNumber_77 : decode cX2_takeNumber 77 = .ok (.isub, 1) := by decide +kernel
theorem dX2_takeNumber_78 : decode cX2_takeNumber 78 = .ok (.iconst 4, 1) := by decide +kernel
theorem dX2_takeNumber_79 : decode cX2_takeNumber 79 = .ok (.if_icmp .le 7, 3) := by decide +kernel
theorem dX2_takeNumber_82 : decode cX2_takeNumber 82 = .ok (.iconst 1, 1) := by decide +kernel
theorem dX2_takeNumber_83 : decode cX2_takeNumber 83 = .ok (.goto 4, 3) := by decide +kernel
theorem dX2_takeNumber_86 : decode cX2_takeNumber 86 = .ok (.iconst 4, 1) := by decide +kernel
theorem dX2_takeNumber_87 : decode cX2_takeNumber 87 = .ok (.putfield 22, 3) := by decide +kernel
theorem dX2_takeNumber_90 : decode cX2_takeNumber 90 = .ok (.return_, 1) := by decide +kernel
abbrev VX2_takeNumber_5 (E : En) (d : Nat) (g : Ga) (P : Hp → Prop) (h : Hp) : Prop := V E MX2_takeNumber (RM (d + 1) 0) g (QQ E g (QV E P) 0 0) 0 0 h 5 [(0, .ref (eA E 1))] []
set_option maxRecDepth 20000 in
theorem wp_X2_takeNumber (E : En) (d : Nat) (h : Hp) (P : Hp → Prop) (t : ∀ g : Ga, VX2_takeNumber_5 E d g P (sI h 1 6 (0 : Int32))) : SpV E (d + 1) MX2_takeNumber [.ref (eA E 1)] h P := by
  refine SpV.of (lv0 := [(0, .ref (eA E 1))]) (by decide) (Nat.le_of_ble_eq_true rfl) rfl (fun g => ?_)
  have t := t g
  refine r_aload_n (q := 0) dX2_takeNumber_0 rfl rfl ?_
  refine r_iconst (v := (0 : Int32)) dX2_takeNumber_1 rfl ?_
  refine r_putI (c := 1) dX2_takeNumber_2 flX2_32 lay_1 rfl ?_
  exact t
set_option maxRecDepth 20000 in
theorem sg_X2_takeNumber_5 (E : En) (d : Nat) (g : Ga) (h : Hp) (P : Hp → Prop) (t : ((h.1 1 0) ≤ (h.1 1 2) → ((((h.1 1 2) - (h.1 1 4)) ≤ (4 : Int32) → (P (sI h 1 3 (4 : Int32)))) ∧ (¬ ((h.1 1 2) - (h.1 1 4)) ≤ (4 : Int32) → (P (sI h 1 3 (1 : Int32)))))) ∧ (¬ (h.1 1 0) ≤ (h.1 1 2) → (vp_in (h.1 1 2) 1200 ∧ (SpI E d MX2_isDigit [.int (h.1 2 ((h.1 1 2).toNatClampNeg))] h (fun v4 h4 => (v4 = 0 → ((((h4.1 1 2) - (h4.1 1 4)) ≤ (4 : Int32) → (P (sI h4 1 3 (4 : Int32)))) ∧ (¬ ((h4.1 1 2) - (h4.1 1 4)) ≤ (4 : Int32) → (P (sI h4 1 3 (1 : Int32)))))) ∧ (¬ v4 = 0 → (vp_in (h4.1 1 2) 1200 ∧ (VX2_takeNumber_5 E d g P (sI (sI h4 1 6 ((((10 : Int32) * (h4.1 1 6)) + (h4.1 2 ((h4.1 1 2).toNatClampNeg))) - (48 : Int32))) 1 2 ((h4.1 1 2) + (1 : Int32))))))))))) : VX2_takeNumber_5 E d g P h := by
  refine r_aload_n (q := 0) dX2_takeNumber_5 rfl rfl ?_
  refine r_getI (c := 1) dX2_takeNumber_6 flX2_19 lay_1 rfl ?_
  refine r_aload_n (q := 0) dX2_takeNumber_9 rfl rfl ?_
  refine r_getI (c := 1) dX2_takeNumber_10 flX2_9 lay_1 rfl ?_
  refine r_icmp_ge (tgt := 68) dX2_takeNumber_13 (by decide) (fun q1 => ?_) (fun q1 => ?_)
  · have t := t.1 q1
    refine r_aload_n (q := 0) dX2_takeNumber_68 rfl rfl ?_
    refine r_aload_n (q := 0) dX2_takeNumber_69 rfl rfl ?_
    refine r_getI (c := 1) dX2_takeNumber_70 flX2_19 lay_1 rfl ?_
    refine r_aload_n (q := 0) dX2_takeNumber_73 rfl rfl ?_
    refine r_getI (c := 1) dX2_takeNumber_74 flX2_25 lay_1 rfl ?_
    refine r_isub dX2_takeNumber_77 ?_
    refine r_iconst (v := (4 : Int32)) dX2_takeNumber_78 rfl ?_
    refine r_icmp_le (tgt := 86) dX2_takeNumber_79 (by decide) (fun q2 => ?_) (fun q2 => ?_)
    · have t := t.1 q2
      refine r_iconst (v := (4 : Int32)) dX2_takeNumber_86 rfl ?_
      refine r_putI (c := 1) dX2_takeNumber_87 flX2_22 lay_1 rfl ?_
      exact r_vret dX2_takeNumber_90 rfl t
    · have t := t.2 q2
      refine r_iconst (v := (1 : Int32)) dX2_takeNumber_82 rfl ?_
      refine r_goto (tgt := 87) dX2_takeNumber_83 (by decide) ?_
      refine r_putI (c := 1) dX2_takeNumber_87 flX2_22 lay_1 rfl ?_
      exact r_vret dX2_takeNumber_90 rfl t
  · have t := t.2 q1
    refine r_aload_n (q := 0) dX2_takeNumber_16 rfl rfl ?_
    refine r_getR (c := 1) (c2 := 2) dX2_takeNumber_17 flX2_15 lay_1 rfl ?_
    refine r_aload_n (q := 0) dX2_takeNumber_20 rfl rfl ?_
    refine r_getI (c := 1) dX2_takeNumber_21 flX2_19 lay_1 rfl ?_
    obtain ⟨c3, t⟩ := t
    refine r_bald (c := 2) dX2_takeNumber_24 lay_2 c3 ?_
    refine r_cSI (As := [.int (h.1 2 ((h.1 1 2).toNatClampNeg))]) dX2_takeNumber_25 mkX2_isDigit lkX2_42 rfl (by decide) rfl (Nat.le_of_ble_eq_true rfl) z00 t ?_
    intro v4 h4 t
    refine r_if_eq (tgt := 68) dX2_takeNumber_28 (by decide) (fun q5 => ?_) (fun q5 => ?_)
    · have t := t.1 q5
      refine r_aload_n (q := 0) dX2_takeNumber_68 rfl rfl ?_
      refine r_aload_n (q := 0) dX2_takeNumber_69 rfl rfl ?_
      refine r_getI (c := 1) dX2_takeNumber_70 flX2_19 lay_1 rfl ?_
      refine r_aload_n (q := 0) dX2_takeNumber_73 rfl rfl ?_
      refine r_getI (c := 1) dX2_takeNumber_74 flX2_25 lay_1 rfl ?_
      refine r_isub dX2_takeNumber_77 ?_
      refine r_iconst (v := (4 : Int32)) dX2_takeNumber_78 rfl ?_
      refine r_icmp_le (tgt := 86) dX2_takeNumber_79 (by decide) (fun q6 => ?_) (fun q6 => ?_)
      · have t := t.1 q6
        refine r_iconst (v := (4 : Int32)) dX2_takeNumber_86 rfl ?_
        refine r_putI (c := 1) dX2_takeNumber_87 flX2_22 lay_1 rfl ?_
        exact r_vret dX2_takeNumber_90 rfl t
      · have t := t.2 q6
        refine r_iconst (v := (1 : Int32)) dX2_takeNumber_82 rfl ?_
        refine r_goto (tgt := 87) dX2_takeNumber_83 (by decide) ?_
        refine r_putI (c := 1) dX2_takeNumber_87 flX2_22 lay_1 rfl ?_
        exact r_vret dX2_takeNumber_90 rfl t
    · have t := t.2 q5
      refine r_aload_n (q := 0) dX2_takeNumber_31 rfl rfl ?_
      refine r_bipush (v := (10 : Int32)) dX2_takeNumber_32 rfl ?_
      refine r_aload_n (q := 0) dX2_takeNumber_34 rfl rfl ?_
      refine r_getI (c := 1) dX2_takeNumber_35 flX2_32 lay_1 rfl ?_
      refine r_imul dX2_takeNumber_38 ?_
      refine r_aload_n (q := 0) dX2_takeNumber_39 rfl rfl ?_
      refine r_getR (c := 1) (c2 := 2) dX2_takeNumber_40 flX2_15 lay_1 rfl ?_
      refine r_aload_n (q := 0) dX2_takeNumber_43 rfl rfl ?_
      refine r_getI (c := 1) dX2_takeNumber_44 flX2_19 lay_1 rfl ?_
      obtain ⟨c7, t⟩ := t
      refine r_bald (c := 2) dX2_takeNumber_47 lay_2 c7 ?_
      refine r_iadd dX2_takeNumber_48 ?_
      refine r_bipush (v := (48 : Int32)) dX2_takeNumber_49 rfl ?_
      refine r_isub dX2_takeNumber_51 ?_
      refine r_putI (c := 1) dX2_takeNumber_52 flX2_32 lay_1 rfl ?_
      refine r_aload_n (q := 0) dX2_takeNumber_55 rfl rfl ?_
      refine r_dup dX2_takeNumber_56 rfl ?_
      refine r_getIv (c := 1) (v := h4.1 1 2) dX2_takeNumber_57 flX2_19 lay_1 rfl rfl ?_
      refine r_iconst (v := (1 : Int32)) dX2_takeNumber_60 rfl ?_
      refine r_iadd dX2_takeNumber_61 ?_
      refine r_putI (c := 1) dX2_takeNumber_62 flX2_19 lay_1 rfl ?_
      refine r_goto (tgt := 5) dX2_takeNumber_65 (by decide) ?_
      exact t
theorem dX2_takeWord_0 : decode cX2_takeWord 0 = .ok (.aload_n 0, 1) := by decide +kernel
theorem dX2_takeWord_1 : decode cX2_takeWord 1 = .ok (.lconst 0, 1) := by decide +kernel
theorem dX2_takeWord_2 : decode cX2_takeWord 2 = .ok (.putfield 28, 3) := by decide +kernel
theorem dX2_takeWord_5 : decode cX2_takeWord 5 = .ok (.aload_n 0, 1) := by decide +kernel
theorem dX2_takeWord_6 : decode cX2_takeWord 6 = .ok (.getfield 19, 3) := by decide +kernel
theorem dX2_takeWord_9 : decode cX2_takeWord 9 = .ok (.aload_n 0, 1) := by decide +kernel
theorem dX2_takeWord_10 : decode cX2_takeWord 10 = .ok (.getfield 9, 3) := by decide +kernel
theorem dX2_takeWord_13 : decode cX2_takeWord 13 = .ok (.if_icmp .ge 68, 3) := by decide +kernel
theorem dX2_takeWord_16 : decode cX2_takeWord 16 = .ok (.aload_n 0, 1) := by decide +kernel
theorem dX2_takeWord_17 : decode cX2_takeWord 17 = .ok (.getfield 15, 3) := by decide +kernel
theorem dX2_takeWord_20 : decode cX2_takeWord 20 = .ok (.aload_n 0, 1) := by decide +kernel
theorem dX2_takeWord_21 : decode cX2_takeWord 21 = .ok (.getfield 19, 3) := by decide +kernel
theorem dX2_takeWord_24 : decode cX2_takeWord 24 = .ok (.baload, 1) := by decide +kernel
theorem dX2_takeWord_25 : decode cX2_takeWord 25 = .ok (.invokestatic 38, 3) := by decide +kernel
theorem dX2_takeWord_28 : decode cX2_takeWord 28 = .ok (.ifCond .ne 18, 3) := by decide +kernel
theorem dX2_takeWord_31 : decode cX2_takeWord 31 = .ok (.aload_n 0, 1) := by decide +kernel
theorem dX2_takeWord_32 : decode cX2_takeWord 32 = .ok (.getfield 15, 3) := by decide +kernel
theorem dX2_takeWord_35 : decode cX2_takeWord 35 = .ok (.aload_n 0, 1) := by decide +kernel
theorem dX2_takeWord_36 : decode cX2_takeWord 36 = .ok (.getfield 19, 3) := by decide +kernel
theorem dX2_takeWord_39 : decode cX2_takeWord 39 = .ok (.baload, 1) := by decide +kernel
theorem dX2_takeWord_40 : decode cX2_takeWord 40 = .ok (.invokestatic 42, 3) := by decide +kernel
theorem dX2_takeWord_43 : decode cX2_takeWord 43 = .ok (.ifCond .eq 38, 3) := by decide +kernel
theorem dX2_takeWord_46 : decode cX2_takeWord 46 = .ok (.aload_n 0, 1) := by decide +kernel
theorem dX2_takeWord_47 : decode cX2_takeWord 47 = .ok (.aload_n 0, 1) := by decide +kernel
theorem dX2_takeWord_48 : decode cX2_takeWord 48 = .ok (.getfield 28, 3) := by decide +kernel
theorem dX2_takeWord_51 : decode cX2_takeWord 51 = .ok (.bipush 8, 2) := by decide +kernel
theorem dX2_takeWord_53 : decode cX2_takeWord 53 = .ok (.lshl, 1) := by decide +kernel
theorem dX2_takeWord_54 : decode cX2_takeWord 54 = .ok (.aload_n 0, 1) := by decide +kernel
theorem dX2_takeWord_55 : decode cX2_takeWord 55 = .ok (.getfield 15, 3) := by decide +kernel
theorem dX2_takeWord_58 : decode cX2_takeWord 58 = .ok (.aload_n 0, 1) := by decide +kernel
theorem dX2_takeWord_59 : decode cX2_takeWord 59 = .ok (.getfield 19, 3) := by decide +kernel
theorem dX2_takeWord_62 : decode cX2_takeWord 62 = .ok (.baload, 1) := by decide +kernel
theorem dX2_takeWord_63 : decode cX2_takeWord 63 = .ok (.i2l, 1) := by decide +kernel
theorem dX2_takeWord_64 : decode cX2_takeWord 64 = .ok (.lor, 1) := by decide +kernel
theorem dX2_takeWord_65 : decode cX2_takeWord 65 = .ok (.putfield 28, 3) := by decide +kernel
theorem dX2_takeWord_68 : decode cX2_takeWord 68 = .ok (.aload_n 0, 1) := by decide +kernel
theorem dX2_takeWord_69 : decode cX2_takeWord 69 = .ok (.dup, 1) := by decide +kernel
theorem dX2_takeWord_70 : decode cX2_takeWord 70 = .ok (.getfield 19, 3) := by decide +kernel
theorem dX2_takeWord_73 : decode cX2_takeWord 73 = .ok (.iconst 1, 1) := by decide +kernel
theorem dX2_takeWord_74 : decode cX2_takeWord 74 = .ok (.iadd, 1) := by decide +kernel
theorem dX2_takeWord_75 : decode cX2_takeWord 75 = .ok (.putfield 19, 3) := by decide +kernel
theorem dX2_takeWord_78 : decode cX2_takeWord 78 = .ok (.goto (-73), 3) := by decide +kernel
theorem dX2_takeWord_81 : decode cX2_takeWord 81 = .ok (.aload_n 0, 1) := by decide +kernel
theorem dX2_takeWord_82 : decode cX2_takeWord 82 = .ok (.getfield 19, 3) := by decide +kernel
theorem dX2_takeWord_85 : decode cX2_takeWord 85 = .ok (.aload_n 0, 1) := by decide +kernel
theorem dX2_takeWord_86 : decode cX2_takeWord 86 = .ok (.getfield 25, 3) := by decide +kernel
theorem dX2_takeWord_89 : decode cX2_takeWord 89 = .ok (.isub, 1) := by decide +kernel
theorem dX2_takeWord_90 : decode cX2_takeWord 90 = .ok (.bipush 8, 2) := by decide +kernel
theorem dX2_takeWord_92 : decode cX2_takeWord 92 = .ok (.if_icmp .le 11, 3) := by decide +kernel
theorem dX2_takeWord_95 : decode cX2_takeWord 95 = .ok (.aload_n 0, 1) := by decide +kernel
theorem dX2_takeWord_96 : decode cX2_takeWord 96 = .ok (.iconst 1, 1) := by decide +kernel
theorem dX2_takeWord_97 : decode cX2_takeWord 97 = .ok (.putfield 22, 3) := by decide +kernel
theorem dX2_takeWord_100 : decode cX2_takeWord 100 = .ok (.goto 98, 3) := by decide +kernel
theorem dX2_takeWord_103 : decode cX2_takeWord 103 = .ok (.aload_n 0, 1) := by decide +kernel
theorem dX2_takeWord_104 : decode cX2_takeWord 104 = .ok (.getfield 28, 3) := by decide +kernel
theorem dX2_takeWord_107 : decode cX2_takeWord 107 = .ok (.ldc2_w 154, 3) := by decide +kernel
theorem dX2_takeWord_110 : decode cX2_takeWord 110 = .ok (.lcmp, 1) := by decide +kernel
theorem dX2_takeWord_111 : decode cX2_takeWord 111 = .ok (.ifCond .lt 35, 3) := by decide +kernel
theorem dX2_takeWord_114 : decode cX2_takeWord 114 = .ok (.aload_n 0, 1) := by decide +kernel
theorem dX2_takeWord_115 : decode cX2_takeWord 115 = .ok (.getfield 28, 3) := by decide +kernel
theorem dX2_takeWord_118 : decode cX2_takeWord 118 = .ok (.ldc2_w 156, 3) := by decide +kernel
theorem dX2_takeWord_121 : decode cX2_takeWord 121 = .ok (.lcmp, 1) := by decide +kernel
theorem dX2_takeWord_122 : decode cX2_takeWord 122 = .ok (.ifCond .ge 24, 3) := by decide +kernel
theorem dX2_takeWord_125 : decode cX2_takeWord 125 = .ok (.aload_n 0, 1) := by decide +kernel
theorem dX2_takeWord_126 : decode cX2_takeWord 126 = .ok (.iconst 3, 1) := by decide +kernel
theorem dX2_takeWord_127 : decode cX2_takeWord 127 = .ok (.putfield 22, 3) := by decide +kernel
theorem dX2_takeWord_130 : decode cX2_takeWord 130 = .ok (.aload_n 0, 1) := by decide +kernel
theorem dX2_takeWord_131 : decode cX2_takeWord 131 = .ok (.aload_n 0, 1) := by decide +kernel
theorem dX2_takeWord_132 : decode cX2_takeWord 132 = .ok (.getfield 28, 3) := by decide +kernel
theorem dX2_takeWord_135 : decode cX2_takeWord 135 = .ok (.ldc2_w 154, 3) := by decide +kernel
theorem dX2_takeWord_138 : decode cX2_takeWord 138 = .ok (.lsub, 1) := by decide +kernel
theorem dX2_takeWord_139 : decode cX2_takeWord 139 = .ok (.l2i, 1) := by decide +kernel
theorem dX2_takeWord_140 : decode cX2_takeWord 140 = .ok (.putfield 32, 3) := by decide +kernel
theorem dX2_takeWord_143 : decode cX2_takeWord 143 = .ok (.goto 55, 3) := by decide +kernel
theorem dX2_takeWord_146 : decode cX2_takeWord 146 = .ok (.aload_n 0, 1) := by decide +kernel
theorem dX2_takeWord_147 : decode cX2_takeWord 147 = .ok (.aload_n 0, 1) := by decide +kernel
theorem dX2_takeWord_148 : decode cX2_takeWord 148 = .ok (.getfield 28, 3) := by decide +kernel
theorem dX2_takeWord_151 : decode cX2_takeWord 151 = .ok (.ldc2_w 158, 3) := by decide +kernel
theorem dX2_takeWord_154 : decode cX2_takeWord 154 = .ok (.lcmp, 1) := by decide +kernel
theorem dX2_takeWord_155 : decode cX2_takeWord 155 = .ok (.ifCond .ne 7, 3) := by decide +kernel
theorem dX2_takeWord_158 : decode cX2_takeWord 158 = .ok (.iconst 5, 1) := by decide +kernel
theorem dX2_takeWord_159 : decode cX2_takeWord 159 = .ok (.goto 36, 3) := by decide +kernel
theorem dX2_takeWord_162 : decode cX2_takeWord 162 = .ok (.aload_n 0, 1) := by decide +kernel
theorem dX2_takeWord_163 : decode cX2_takeWord 163 = .ok (.getfield 28, 3) := by decide +kernel
theorem dX2_takeWord_166 : decode cX2_takeWord 166 = .ok (.ldc2_w 160, 3) := by decide +kernel
theorem dX2_takeWord_169 : decode cX2_takeWord 169 = .ok (.lcmp, 1) := by decide +kernel
theorem dX2_takeWord_170 : decode cX2_takeWord 170 = .ok (.ifCond .ne 8, 3) := by decide +kernel
theorem dX2_takeWord_173 : decode cX2_takeWord 173 = .ok (.bipush 6, 2) := by decide +kernel
theorem dX2_takeWord_175 : decode cX2_takeWord 175 = .ok (.goto 20, 3) := by decide +kernel
theorem dX2_takeWord_178 : decode cX2_takeWord 178 = .ok (.aload_n 0, 1) := by decide +kernel
theorem dX2_takeWord_179 : decode cX2_takeWord 179 = .ok (.getfield 28, 3) := by decide +kernel
theorem dX2_takeWord_182 : decode cX2_takeWord 182 = .ok (.ldc2_w 162, 3) := by decide +kernel
theorem dX2_takeWord_185 : decode cX2_takeWord 185 = .ok (.lcmp, 1) := by decide +kernel
theorem dX2_takeWord_186 : decode cX2_takeWord 186 = .ok (.ifCond .ne 8, 3) := by decide +kernel
theorem dX2_takeWord_189 : decode cX2_takeWord 189 = .ok (.bipush 7, 2) := by decide +kernel
theorem dX2_takeWord_191 : decode cX2_takeWord 191 = .ok (.goto 4, 3) := by decide +kernel
theorem dX2_takeWord_194 : decode cX2_takeWord 194 = .ok (.iconst 2, 1) := by decide +kernel
theorem dX2_takeWord_195 : decode cX2_takeWord 195 = .ok (.putfield 22, 3) := by decide +kernel
theorem dX2_takeWord_198 : decode cX2_takeWord 198 = .ok (.return_, 1) := by decide +kernel
abbrev VX2_takeWord_5 (E : En) (d : Nat) (g : Ga) (P : Hp → Prop) (h : Hp) : Prop := V E MX2_takeWord (RM (d + 1) 0) g (QQ E g (QV E P) 0 0) 0 0 h 5 [(0, .ref (eA E 1))] []
set_option maxRecDepth 20000 in
theorem wp_X2_takeWord (E : En) (d : Nat) (h : Hp) (P : Hp → Prop) (t : ∀ g : Ga, VX2_takeWord_5 E d g P (sL h 1 5 (0 : Int64))) : SpV E (d + 1) MX2_takeWord [.ref (eA E 1)] h P := by
  refine SpV.of (lv0 := [(0, .ref (eA E 1))]) (by decide) (Nat.le_of_ble_eq_true rfl) rfl (fun g => ?_)
  have t := t g
  refine r_aload_n (q := 0) dX2_takeWord_0 rfl rfl ?_
  refine r_lconst (v := (0 : Int64)) dX2_takeWord_1 rfl ?_
  refine r_putL (c := 1) dX2_takeWord_2 flX2_28 lay_1 rfl ?_
  exact t
set_option maxRecDepth 20000 in
theorem sg_X2_takeWord_5 (E : En) (d : Nat) (g : Ga) (h : Hp) (P : Hp → Prop) (t : ((h.1 1 0) ≤ (h.1 1 2) → ((((h.1 1 2) - (h.1 1 4)) ≤ (8 : Int32) → (((lg_cmp (h.2 1 5) (29232 : Int64)) < 0 → ((¬ (lg_cmp (h.2 1 5) (28528 : Int64)) = 0 → ((¬ (lg_cmp (h.2 1 5) (1970170228 : Int64)) = 0 → ((¬ (lg_cmp (h.2 1 5) (452824626290 : Int64)) = 0 → (P (sI h 1 3 (2 : Int32)))) ∧ ((lg_cmp (h.2 1 5) (452824626290 : Int64)) = 0 → (P (sI h 1 3 (7 : Int32)))))) ∧ ((lg_cmp (h.2 1 5) (1970170228 : Int64)) = 0 → (P (sI h 1 3 (6 : Int32)))))) ∧ ((lg_cmp (h.2 1 5) (28528 : Int64)) = 0 → (P (sI h 1 3 (5 : Int32)))))) ∧ (¬ (lg_cmp (h.2 1 5) (29232 : Int64)) < 0 → ((0 ≤ (lg_cmp (h.2 1 5) (29240 : Int64)) → ((¬ (lg_cmp (h.2 1 5) (28528 : Int64)) = 0 → ((¬ (lg_cmp (h.2 1 5) (1970170228 : Int64)) = 0 → ((¬ (lg_cmp (h.2 1 5) (452824626290 : Int64)) = 0 → (P (sI h 1 3 (2 : Int32)))) ∧ ((lg_cmp (h.2 1 5) (452824626290 : Int64)) = 0 → (P (sI h 1 3 (7 : Int32)))))) ∧ ((lg_cmp (h.2 1 5) (1970170228 : Int64)) = 0 → (P (sI h 1 3 (6 : Int32)))))) ∧ ((lg_cmp (h.2 1 5) (28528 : Int64)) = 0 → (P (sI h 1 3 (5 : Int32)))))) ∧ (¬ 0 ≤ (lg_cmp (h.2 1 5) (29240 : Int64)) → (P (sI (sI h 1 3 (3 : Int32)) 1 6 (((h.2 1 5) - (29232 : Int64)).toInt32)))))))) ∧ (¬ ((h.1 1 2) - (h.1 1 4)) ≤ (8 : Int32) → (P (sI h 1 3 (1 : Int32)))))) ∧ (¬ (h.1 1 0) ≤ (h.1 1 2) → (vp_in (h.1 1 2) 1200 ∧ (SpI E d MX2_isLetter [.int (h.1 2 ((h.1 1 2).toNatClampNeg))] h (fun v12 h12 => (¬ v12 = 0 → (vp_in (h12.1 1 2) 1200 ∧ (VX2_takeWord_5 E d g P (sI (sL h12 1 5 (((h12.2 1 5) <<< ((8 : Int32).toInt64 &&& 63)) ||| ((h12.1 2 ((h12.1 1 2).toNatClampNeg)).toInt64))) 1 2 ((h12.1 1 2) + (1 : Int32)))))) ∧ (v12 = 0 → (vp_in (h12.1 1 2) 1200 ∧ (SpI E d MX2_isDigit [.int (h12.1 2 ((h12.1 1 2).toNatClampNeg))] h12 (fun v16 h16 => (v16 = 0 → ((((h16.1 1 2) - (h16.1 1 4)) ≤ (8 : Int32) → (((lg_cmp (h16.2 1 5) (29232 : Int64)) < 0 → ((¬ (lg_cmp (h16.2 1 5) (28528 : Int64)) = 0 → ((¬ (lg_cmp (h16.2 1 5) (1970170228 : Int64)) = 0 → ((¬ (lg_cmp (h16.2 1 5) (452824626290 : Int64)) = 0 → (P (sI h16 1 3 (2 : Int32)))) ∧ ((lg_cmp (h16.2 1 5) (452824626290 : Int64)) = 0 → (P (sI h16 1 3 (7 : Int32)))))) ∧ ((lg_cmp (h16.2 1 5) (1970170228 : Int64)) = 0 → (P (sI h16 1 3 (6 : Int32)))))) ∧ ((lg_cmp (h16.2 1 5) (28528 : Int64)) = 0 → (P (sI h16 1 3 (5 : Int32)))))) ∧ (¬ (lg_cmp (h16.2 1 5) (29232 : Int64)) < 0 → ((0 ≤ (lg_cmp (h16.2 1 5) (29240 : Int64)) → ((¬ (lg_cmp (h16.2 1 5) (28528 : Int64)) = 0 → ((¬ (lg_cmp (h16.2 1 5) (1970170228 : Int64)) = 0 → ((¬ (lg_cmp (h16.2 1 5) (452824626290 : Int64)) = 0 → (P (sI h16 1 3 (2 : Int32)))) ∧ ((lg_cmp (h16.2 1 5) (452824626290 : Int64)) = 0 → (P (sI h16 1 3 (7 : Int32)))))) ∧ ((lg_cmp (h16.2 1 5) (1970170228 : Int64)) = 0 → (P (sI h16 1 3 (6 : Int32)))))) ∧ ((lg_cmp (h16.2 1 5) (28528 : Int64)) = 0 → (P (sI h16 1 3 (5 : Int32)))))) ∧ (¬ 0 ≤ (lg_cmp (h16.2 1 5) (29240 : Int64)) → (P (sI (sI h16 1 3 (3 : Int32)) 1 6 (((h16.2 1 5) - (29232 : Int64)).toInt32)))))))) ∧ (¬ ((h16.1 1 2) - (h16.1 1 4)) ≤ (8 : Int32) → (P (sI h16 1 3 (1 : Int32)))))) ∧ (¬ v16 = 0 → (vp_in (h16.1 1 2) 1200 ∧ (VX2_takeWord_5 E d g P (sI (sL h16 1 5 (((h16.2 1 5) <<< ((8 : Int32).toInt64 &&& 63)) ||| ((h16.1 2 ((h16.1 1 2).toNatClampNeg)).toInt64))) 1 2 ((h16.1 1 2) + (1 : Int32))))))))))))))) : VX2_takeWord_5 E d g P h := by
  refine r_aload_n (q := 0) dX2_takeWord_5 rfl rfl ?_
  refine r_getI (c := 1) dX2_takeWord_6 flX2_19 lay_1 rfl ?_
  refine r_aload_n (q := 0) dX2_takeWord_9 rfl rfl ?_
  refine r_getI (c := 1) dX2_takeWord_10 flX2_9 lay_1 rfl ?_
  refine r_icmp_ge (tgt := 81) dX2_takeWord_13 (by decide) (fun q1 => ?_) (fun q1 => ?_)
  · have t := t.1 q1
    refine r_aload_n (q := 0) dX2_takeWord_81 rfl rfl ?_
    refine r_getI (c := 1) dX2_takeWord_82 flX2_19 lay_1 rfl ?_
    refine r_aload_n (q := 0) dX2_takeWord_85 rfl rfl ?_
    refine r_getI (c := 1) dX2_takeWord_86 flX2_25 lay_1 rfl ?_
    refine r_isub dX2_takeWord_89 ?_
    refine r_bipush (v := (8 : Int32)) dX2_takeWord_90 rfl ?_
    refine r_icmp_le (tgt := 103) dX2_takeWord_92 (by decide) (fun q2 => ?_) (fun q2 => ?_)
    · have t := t.1 q2
      refine r_aload_n (q := 0) dX2_takeWord_103 rfl rfl ?_
      refine r_getL (c := 1) dX2_takeWord_104 flX2_28 lay_1 rfl ?_
      refine r_ldc2 (v := (29232 : Int64)) dX2_takeWord_107 clX2_154 ?_
      refine r_lcmp dX2_takeWord_110 ?_
      refine r_if_lt (tgt := 146) dX2_takeWord_111 (by decide) (fun q3 => ?_) (fun q3 => ?_)
      · have t := t.1 q3
        refine r_aload_n (q := 0) dX2_takeWord_146 rfl rfl ?_
        refine r_aload_n (q := 0) dX2_takeWord_147 rfl rfl ?_
        refine r_getL (c := 1) dX2_takeWord_148 flX2_28 lay_1 rfl ?_
        refine r_ldc2 (v := (28528 : Int64)) dX2_takeWord_151 clX2_158 ?_
        refine r_lcmp dX2_takeWord_154 ?_
        refine r_if_ne (tgt := 162) dX2_takeWord_155 (by decide) (fun q4 => ?_) (fun q4 => ?_)
        · have t := t.1 q4
          refine r_aload_n (q := 0) dX2_takeWord_162 rfl rfl ?_
          refine r_getL (c := 1) dX2_takeWord_163 flX2_28 lay_1 rfl ?_
          refine r_ldc2 (v := (1970170228 : Int64)) dX2_takeWord_166 clX2_160 ?_
          refine r_lcmp dX2_takeWord_169 ?_
          refine r_if_ne (tgt := 178) dX2_takeWord_170 (by decide) (fun q5 => ?_) (fun q5 => ?_)
          · have t := t.1 q5
            refine r_aload_n (q := 0) dX2_takeWord_178 rfl rfl ?_
            refine r_getL (c := 1) dX2_takeWord_179 flX2_28 lay_1 rfl ?_
            refine r_ldc2 (v := (452824626290 : Int64)) dX2_takeWord_182 clX2_162 ?_
            refine r_lcmp dX2_takeWord_185 ?_
            refine r_if_ne (tgt := 194) dX2_takeWord_186 (by decide) (fun q6 => ?_) (fun q6 => ?_)
            · have t := t.1 q6
              refine r_iconst (v := (2 : Int32)) dX2_takeWord_194 rfl ?_
              refine r_putI (c := 1) dX2_takeWord_195 flX2_22 lay_1 rfl ?_
              exact r_vret dX2_takeWord_198 rfl t
            · have t := t.2 q6
              refine r_bipush (v := (7 : Int32)) dX2_takeWord_189 rfl ?_
              refine r_goto (tgt := 195) dX2_takeWord_191 (by decide) ?_
              refine r_putI (c := 1) dX2_takeWord_195 flX2_22 lay_1 rfl ?_
              exact r_vret dX2_takeWord_198 rfl t
          · have t := t.2 q5
            refine r_bipush (v := (6 : Int32)) dX2_takeWord_173 rfl ?_
            refine r_goto (tgt := 195) dX2_takeWord_175 (by decide) ?_
            refine r_putI (c := 1) dX2_takeWord_195 flX2_22 lay_1 rfl ?_
            exact r_vret dX2_takeWord_198 rfl t
        · have t := t.2 q4
          refine r_iconst (v := (5 : Int32)) dX2_takeWord_158 rfl ?_
          refine r_goto (tgt := 195) dX2_takeWord_159 (by decide) ?_
          refine r_putI (c := 1) dX2_takeWord_195 flX2_22 lay_1 rfl ?_
          exact r_vret dX2_takeWord_198 rfl t
      · have t := t.2 q3
        refine r_aload_n (q := 0) dX2_takeWord_114 rfl rfl ?_
        refine r_getL (c := 1) dX2_takeWord_115 flX2_28 lay_1 rfl ?_
        refine r_ldc2 (v := (29240 : Int64)) dX2_takeWord_118 clX2_156 ?_
        refine r_lcmp dX2_takeWord_121 ?_
        refine r_if_ge (tgt := 146) dX2_takeWord_122 (by decide) (fun q7 => ?_) (fun q7 => ?_)
        · have t := t.1 q7
          refine r_aload_n (q := 0) dX2_takeWord_146 rfl rfl ?_
          refine r_aload_n (q := 0) dX2_takeWord_147 rfl rfl ?_
          refine r_getL (c := 1) dX2_takeWord_148 flX2_28 lay_1 rfl ?_
          refine r_ldc2 (v := (28528 : Int64)) dX2_takeWord_151 clX2_158 ?_
          refine r_lcmp dX2_takeWord_154 ?_
          refine r_if_ne (tgt := 162) dX2_takeWord_155 (by decide) (fun q8 => ?_) (fun q8 => ?_)
          · have t := t.1 q8
            refine r_aload_n (q := 0) dX2_takeWord_162 rfl rfl ?_
            refine r_getL (c := 1) dX2_takeWord_163 flX2_28 lay_1 rfl ?_
            refine r_ldc2 (v := (1970170228 : Int64)) dX2_takeWord_166 clX2_160 ?_
            refine r_lcmp dX2_takeWord_169 ?_
            refine r_if_ne (tgt := 178) dX2_takeWord_170 (by decide) (fun q9 => ?_) (fun q9 => ?_)
            · have t := t.1 q9
              refine r_aload_n (q := 0) dX2_takeWord_178 rfl rfl ?_
              refine r_getL (c := 1) dX2_takeWord_179 flX2_28 lay_1 rfl ?_
              refine r_ldc2 (v := (452824626290 : Int64)) dX2_takeWord_182 clX2_162 ?_
              refine r_lcmp dX2_takeWord_185 ?_
              refine r_if_ne (tgt := 194) dX2_takeWord_186 (by decide) (fun q10 => ?_) (fun q10 => ?_)
              · have t := t.1 q10
                refine r_iconst (v := (2 : Int32)) dX2_takeWord_194 rfl ?_
                refine r_putI (c := 1) dX2_takeWord_195 flX2_22 lay_1 rfl ?_
                exact r_vret dX2_takeWord_198 rfl t
              · have t := t.2 q10
                refine r_bipush (v := (7 : Int32)) dX2_takeWord_189 rfl ?_
                refine r_goto (tgt := 195) dX2_takeWord_191 (by decide) ?_
                refine r_putI (c := 1) dX2_takeWord_195 flX2_22 lay_1 rfl ?_
                exact r_vret dX2_takeWord_198 rfl t
            · have t := t.2 q9
              refine r_bipush (v := (6 : Int32)) dX2_takeWord_173 rfl ?_
              refine r_goto (tgt := 195) dX2_takeWord_175 (by decide) ?_
              refine r_putI (c := 1) dX2_takeWord_195 flX2_22 lay_1 rfl ?_
              exact r_vret dX2_takeWord_198 rfl t
          · have t := t.2 q8
            refine r_iconst (v := (5 : Int32)) dX2_takeWord_158 rfl ?_
            refine r_goto (tgt := 195) dX2_takeWord_159 (by decide) ?_
            refine r_putI (c := 1) dX2_takeWord_195 flX2_22 lay_1 rfl ?_
            exact r_vret dX2_takeWord_198 rfl t
        · have t := t.2 q7
          refine r_aload_n (q := 0) dX2_takeWord_125 rfl rfl ?_
          refine r_iconst (v := (3 : Int32)) dX2_takeWord_126 rfl ?_
          refine r_putI (c := 1) dX2_takeWord_127 flX2_22 lay_1 rfl ?_
          refine r_aload_n (q := 0) dX2_takeWord_130 rfl rfl ?_
          refine r_aload_n (q := 0) dX2_takeWord_131 rfl rfl ?_
          refine r_getLv (c := 1) (v := h.2 1 5) dX2_takeWord_132 flX2_28 lay_1 rfl rfl ?_
          refine r_ldc2 (v := (29232 : Int64)) dX2_takeWord_135 clX2_154 ?_
          refine r_lsub dX2_takeWord_138 ?_
          refine r_l2i dX2_takeWord_139 ?_
          refine r_putI (c := 1) dX2_takeWord_140 flX2_32 lay_1 rfl ?_
          refine r_goto (tgt := 198) dX2_takeWord_143 (by decide) ?_
          exact r_vret dX2_takeWord_198 rfl t
    · have t := t.2 q2
      refine r_aload_n (q := 0) dX2_takeWord_95 rfl rfl ?_
      refine r_iconst (v := (1 : Int32)) dX2_takeWord_96 rfl ?_
      refine r_putI (c := 1) dX2_takeWord_97 flX2_22 lay_1 rfl ?_
      refine r_goto (tgt := 198) dX2_takeWord_100 (by decide) ?_
      exact r_vret dX2_takeWord_198 rfl t
  · have t := t.2 q1
    refine r_aload_n (q := 0) dX2_takeWord_16 rfl rfl ?_
    refine r_getR (c := 1) (c2 := 2) dX2_takeWord_17 flX2_15 lay_1 rfl ?_
    refine r_aload_n (q := 0) dX2_takeWord_20 rfl rfl ?_
    refine r_getI (c := 1) dX2_takeWord_21 flX2_19 lay_1 rfl ?_
    obtain ⟨c11, t⟩ := t
    refine r_bald (c := 2) dX2_takeWord_24 lay_2 c11 ?_
    refine r_cSI (As := [.int (h.1 2 ((h.1 1 2).toNatClampNeg))]) dX2_takeWord_25 mkX2_isLetter lkX2_38 rfl (by decide) rfl (Nat.le_of_ble_eq_true rfl) z00 t ?_
    intro v12 h12 t
    refine r_if_ne (tgt := 46) dX2_takeWord_28 (by decide) (fun q13 => ?_) (fun q13 => ?_)
    · have t := t.1 q13
      refine r_aload_n (q := 0) dX2_takeWord_46 rfl rfl ?_
      refine r_aload_n (q := 0) dX2_takeWord_47 rfl rfl ?_
      refine r_getL (c := 1) dX2_takeWord_48 flX2_28 lay_1 rfl ?_
      refine r_bipush (v := (8 : Int32)) dX2_takeWord_51 rfl ?_
      refine r_lshl dX2_takeWord_53 ?_
      refine r_aload_n (q := 0) dX2_takeWord_54 rfl rfl ?_
      refine r_getR (c := 1) (c2 := 2) dX2_takeWord_55 flX2_15 lay_1 rfl ?_
      refine r_aload_n (q := 0) dX2_takeWord_58 rfl rfl ?_
      refine r_getI (c := 1) dX2_takeWord_59 flX2_19 lay_1 rfl ?_
      obtain ⟨c14, t⟩ := t
      refine r_bald (c := 2) dX2_takeWord_62 lay_2 c14 ?_
      refine r_i2l dX2_takeWord_63 ?_
      refine r_lor dX2_takeWord_64 ?_
      refine r_putL (c := 1) dX2_takeWord_65 flX2_28 lay_1 rfl ?_
      refine r_aload_n (q := 0) dX2_takeWord_68 rfl rfl ?_
      refine r_dup dX2_takeWord_69 rfl ?_
      refine r_getIv (c := 1) (v := h12.1 1 2) dX2_takeWord_70 flX2_19 lay_1 rfl rfl ?_
      refine r_iconst (v := (1 : Int32)) dX2_takeWord_73 rfl ?_
      refine r_iadd dX2_takeWord_74 ?_
      refine r_putI (c := 1) dX2_takeWord_75 flX2_19 lay_1 rfl ?_
      refine r_goto (tgt := 5) dX2_takeWord_78 (by decide) ?_
      exact t
    · have t := t.2 q13
      refine r_aload_n (q := 0) dX2_takeWord_31 rfl rfl ?_
      refine r_getR (c := 1) (c2 := 2) dX2_takeWord_32 flX2_15 lay_1 rfl ?_
      refine r_aload_n (q := 0) dX2_takeWord_35 rfl rfl ?_
      refine r_getI (c := 1) dX2_takeWord_36 flX2_19 lay_1 rfl ?_
      obtain ⟨c15, t⟩ := t
      refine r_bald (c := 2) dX2_takeWord_39 lay_2 c15 ?_
      refine r_cSI (As := [.int (h12.1 2 ((h12.1 1 2).toNatClampNeg))]) dX2_takeWord_40 mkX2_isDigit lkX2_42 rfl (by decide) rfl (Nat.le_of_ble_eq_true rfl) z00 t ?_
      intro v16 h16 t
      refine r_if_eq (tgt := 81) dX2_takeWord_43 (by decide) (fun q17 => ?_) (fun q17 => ?_)
      · have t := t.1 q17
        refine r_aload_n (q := 0) dX2_takeWord_81 rfl rfl ?_
        refine r_getI (c := 1) dX2_takeWord_82 flX2_19 lay_1 rfl ?_
        refine r_aload_n (q := 0) dX2_takeWord_85 rfl rfl ?_
        refine r_getI (c := 1) dX2_takeWord_86 flX2_25 lay_1 rfl ?_
        refine r_isub dX2_takeWord_89 ?_
        refine r_bipush (v := (8 : Int32)) dX2_takeWord_90 rfl ?_
        refine r_icmp_le (tgt := 103) dX2_takeWord_92 (by decide) (fun q18 => ?_) (fun q18 => ?_)
        · have t := t.1 q18
          refine r_aload_n (q := 0) dX2_takeWord_103 rfl rfl ?_
          refine r_getL (c := 1) dX2_takeWord_104 flX2_28 lay_1 rfl ?_
          refine r_ldc2 (v := (29232 : Int64)) dX2_takeWord_107 clX2_154 ?_
          refine r_lcmp dX2_takeWord_110 ?_
          refine r_if_lt (tgt := 146) dX2_takeWord_111 (by decide) (fun q19 => ?_) (fun q19 => ?_)
          · have t := t.1 q19
            refine r_aload_n (q := 0) dX2_takeWord_146 rfl rfl ?_
            refine r_aload_n (q := 0) dX2_takeWord_147 rfl rfl ?_
            refine r_getL (c := 1) dX2_takeWord_148 flX2_28 lay_1 rfl ?_
            refine r_ldc2 (v := (28528 : Int64)) dX2_takeWord_151 clX2_158 ?_
            refine r_lcmp dX2_takeWord_154 ?_
            refine r_if_ne (tgt := 162) dX2_takeWord_155 (by decide) (fun q20 => ?_) (fun q20 => ?_)
            · have t := t.1 q20
              refine r_aload_n (q := 0) dX2_takeWord_162 rfl rfl ?_
              refine r_getL (c := 1) dX2_takeWord_163 flX2_28 lay_1 rfl ?_
              refine r_ldc2 (v := (1970170228 : Int64)) dX2_takeWord_166 clX2_160 ?_
              refine r_lcmp dX2_takeWord_169 ?_
              refine r_if_ne (tgt := 178) dX2_takeWord_170 (by decide) (fun q21 => ?_) (fun q21 => ?_)
              · have t := t.1 q21
                refine r_aload_n (q := 0) dX2_takeWord_178 rfl rfl ?_
                refine r_getL (c := 1) dX2_takeWord_179 flX2_28 lay_1 rfl ?_
                refine r_ldc2 (v := (452824626290 : Int64)) dX2_takeWord_182 clX2_162 ?_
                refine r_lcmp dX2_takeWord_185 ?_
                refine r_if_ne (tgt := 194) dX2_takeWord_186 (by decide) (fun q22 => ?_) (fun q22 => ?_)
                · have t := t.1 q22
                  refine r_iconst (v := (2 : Int32)) dX2_takeWord_194 rfl ?_
                  refine r_putI (c := 1) dX2_takeWord_195 flX2_22 lay_1 rfl ?_
                  exact r_vret dX2_takeWord_198 rfl t
                · have t := t.2 q22
                  refine r_bipush (v := (7 : Int32)) dX2_takeWord_189 rfl ?_
                  refine r_goto (tgt := 195) dX2_takeWord_191 (by decide) ?_
                  refine r_putI (c := 1) dX2_takeWord_195 flX2_22 lay_1 rfl ?_
                  exact r_vret dX2_takeWord_198 rfl t
              · have t := t.2 q21
                refine r_bipush (v := (6 : Int32)) dX2_takeWord_173 rfl ?_
                refine r_goto (tgt := 195) dX2_takeWord_175 (by decide) ?_
                refine r_putI (c := 1) dX2_takeWord_195 flX2_22 lay_1 rfl ?_
                exact r_vret dX2_takeWord_198 rfl t
            · have t := t.2 q20
              refine r_iconst (v := (5 : Int32)) dX2_takeWord_158 rfl ?_
              refine r_goto (tgt := 195) dX2_takeWord_159 (by decide) ?_
              refine r_putI (c := 1) dX2_takeWord_195 flX2_22 lay_1 rfl ?_
              exact r_vret dX2_takeWord_198 rfl t
          · have t := t.2 q19
            refine r_aload_n (q := 0) dX2_takeWord_114 rfl rfl ?_
            refine r_getL (c := 1) dX2_takeWord_115 flX2_28 lay_1 rfl ?_
            refine r_ldc2 (v := (29240 : Int64)) dX2_takeWord_118 clX2_156 ?_
            refine r_lcmp dX2_takeWord_121 ?_
            refine r_if_ge (tgt := 146) dX2_takeWord_122 (by decide) (fun q23 => ?_) (fun q23 => ?_)
            · have t := t.1 q23
              refine r_aload_n (q := 0) dX2_takeWord_146 rfl rfl ?_
              refine r_aload_n (q := 0) dX2_takeWord_147 rfl rfl ?_
              refine r_getL (c := 1) dX2_takeWord_148 flX2_28 lay_1 rfl ?_
              refine r_ldc2 (v := (28528 : Int64)) dX2_takeWord_151 clX2_158 ?_
              refine r_lcmp dX2_takeWord_154 ?_
              refine r_if_ne (tgt := 162) dX2_takeWord_155 (by decide) (fun q24 => ?_) (fun q24 => ?_)
              · have t := t.1 q24
                refine r_aload_n (q := 0) dX2_takeWord_162 rfl rfl ?_
                refine r_getL (c := 1) dX2_takeWord_163 flX2_28 lay_1 rfl ?_
                refine r_ldc2 (v := (1970170228 : Int64)) dX2_takeWord_166 clX2_160 ?_
                refine r_lcmp dX2_takeWord_169 ?_
                refine r_if_ne (tgt := 178) dX2_takeWord_170 (by decide) (fun q25 => ?_) (fun q25 => ?_)
                · have t := t.1 q25
                  refine r_aload_n (q := 0) dX2_takeWord_178 rfl rfl ?_
                  refine r_getL (c := 1) dX2_takeWord_179 flX2_28 lay_1 rfl ?_
                  refine r_ldc2 (v := (452824626290 : Int64)) dX2_takeWord_182 clX2_162 ?_
                  refine r_lcmp dX2_takeWord_185 ?_
                  refine r_if_ne (tgt := 194) dX2_takeWord_186 (by decide) (fun q26 => ?_) (fun q26 => ?_)
                  · have t := t.1 q26
                    refine r_iconst (v := (2 : Int32)) dX2_takeWord_194 rfl ?_
                    refine r_putI (c := 1) dX2_takeWord_195 flX2_22 lay_1 rfl ?_
                    exact r_vret dX2_takeWord_198 rfl t
                  · have t := t.2 q26
                    refine r_bipush (v := (7 : Int32)) dX2_takeWord_189 rfl ?_
                    refine r_goto (tgt := 195) dX2_takeWord_191 (by decide) ?_
                    refine r_putI (c := 1) dX2_takeWord_195 flX2_22 lay_1 rfl ?_
                    exact r_vret dX2_takeWord_198 rfl t
                · have t := t.2 q25
                  refine r_bipush (v := (6 : Int32)) dX2_takeWord_173 rfl ?_
                  refine r_goto (tgt := 195) dX2_takeWord_175 (by decide) ?_
                  refine r_putI (c := 1) dX2_takeWord_195 flX2_22 lay_1 rfl ?_
                  exact r_vret dX2_takeWord_198 rfl t
              · have t := t.2 q24
                refine r_iconst (v := (5 : Int32)) dX2_takeWord_158 rfl ?_
                refine r_goto (tgt := 195) dX2_takeWord_159 (by decide) ?_
                refine r_putI (c := 1) dX2_takeWord_195 flX2_22 lay_1 rfl ?_
                exact r_vret dX2_takeWord_198 rfl t
            · have t := t.2 q23
              refine r_aload_n (q := 0) dX2_takeWord_125 rfl rfl ?_
              refine r_iconst (v := (3 : Int32)) dX2_takeWord_126 rfl ?_
              refine r_putI (c := 1) dX2_takeWord_127 flX2_22 lay_1 rfl ?_
              refine r_aload_n (q := 0) dX2_takeWord_130 rfl rfl ?_
              refine r_aload_n (q := 0) dX2_takeWord_131 rfl rfl ?_
              refine r_getLv (c := 1) (v := h16.2 1 5) dX2_takeWord_132 flX2_28 lay_1 rfl rfl ?_
              refine r_ldc2 (v := (29232 : Int64)) dX2_takeWord_135 clX2_154 ?_
              refine r_lsub dX2_takeWord_138 ?_
              refine r_l2i dX2_takeWord_139 ?_
              refine r_putI (c := 1) dX2_takeWord_140 flX2_32 lay_1 rfl ?_
              refine r_goto (tgt := 198) dX2_takeWord_143 (by decide) ?_
              exact r_vret dX2_takeWord_198 rfl t
        · have t := t.2 q18
          refine r_aload_n (q := 0) dX2_takeWord_95 rfl rfl ?_
          refine r_iconst (v := (1 : Int32)) dX2_takeWord_96 rfl ?_
          refine r_putI (c := 1) dX2_takeWord_97 flX2_22 lay_1 rfl ?_
          refine r_goto (tgt := 198) dX2_takeWord_100 (by decide) ?_
          exact r_vret dX2_takeWord_198 rfl t
      · have t := t.2 q17
        refine r_aload_n (q := 0) dX2_takeWord_46 rfl rfl ?_
        refine r_aload_n (q := 0) dX2_takeWord_47 rfl rfl ?_
        refine r_getL (c := 1) dX2_takeWord_48 flX2_28 lay_1 rfl ?_
        refine r_bipush (v := (8 : Int32)) dX2_takeWord_51 rfl ?_
        refine r_lshl dX2_takeWord_53 ?_
        refine r_aload_n (q := 0) dX2_takeWord_54 rfl rfl ?_
        refine r_getR (c := 1) (c2 := 2) dX2_takeWord_55 flX2_15 lay_1 rfl ?_
        refine r_aload_n (q := 0) dX2_takeWord_58 rfl rfl ?_
        refine r_getI (c := 1) dX2_takeWord_59 flX2_19 lay_1 rfl ?_
        obtain ⟨c27, t⟩ := t
        refine r_bald (c := 2) dX2_takeWord_62 lay_2 c27 ?_
        refine r_i2l dX2_takeWord_63 ?_
        refine r_lor dX2_takeWord_64 ?_
        refine r_putL (c := 1) dX2_takeWord_65 flX2_28 lay_1 rfl ?_
        refine r_aload_n (q := 0) dX2_takeWord_68 rfl rfl ?_
        refine r_dup dX2_takeWord_69 rfl ?_
        refine r_getIv (c := 1) (v := h16.1 1 2) dX2_takeWord_70 flX2_19 lay_1 rfl rfl ?_
        refine r_iconst (v := (1 : Int32)) dX2_takeWord_73 rfl ?_
        refine r_iadd dX2_takeWord_74 ?_
        refine r_putI (c := 1) dX2_takeWord_75 flX2_19 lay_1 rfl ?_
        refine r_goto (tgt := 5) dX2_takeWord_78 (by decide) ?_
        exact t
theorem dX2_advance_0 : decode cX2_advance 0 = .ok (.aload_n 0, 1) := by decide +kernel
theorem dX2_advance_1 : decode cX2_advance 1 = .ok (.getfield 19, 3) := by decide +kernel
theorem dX2_advance_4 : decode cX2_advance 4 = .ok (.aload_n 0, 1) := by decide +kernel
theorem dX2_advance_5 : decode cX2_advance 5 = .ok (.getfield 9, 3) := by decide +kernel
theorem dX2_advance_8 : decode cX2_advance 8 = .ok (.if_icmp .ge 44, 3) := by decide +kernel
theorem dX2_advance_11 : decode cX2_advance 11 = .ok (.aload_n 0, 1) := by decide +kernel
theorem dX2_advance_12 : decode cX2_advance 12 = .ok (.getfield 15, 3) := by decide +kernel
theorem dX2_advance_15 : decode cX2_advance 15 = .ok (.aload_n 0, 1) := by decide +kernel
theorem dX2_advance_16 : decode cX2_advance 16 = .ok (.getfield 19, 3) := by decide +kernel
theorem dX2_advance_19 : decode cX2_advance 19 = .ok (.baload, 1) := by decide +kernel
theorem dX2_advance_20 : decode cX2_advance 20 = .ok (.bipush 32, 2) := by decide +kernel
theorem dX2_advance_22 : decode cX2_advance 22 = .ok (.if_icmp .eq 17, 3) := by decide +kernel
theorem dX2_advance_25 : decode cX2_advance 25 = .ok (.aload_n 0, 1) := by decide +kernel
theorem dX2_advance_26 : decode cX2_advance 26 = .ok (.getfield 15, 3) := by decide +kernel
theorem dX2_advance_29 : decode cX2_advance 29 = .ok (.aload_n 0, 1) := by decide +kernel
theorem dX2_advance_30 : decode cX2_advance 30 = .ok (.getfield 19, 3) := by decide +kernel
theorem dX2_advance_33 : decode cX2_advance 33 = .ok (.baload, 1) := by decide +kernel
theorem dX2_advance_34 : decode cX2_advance 34 = .ok (.bipush 10, 2) := by decide +kernel
theorem dX2_advance_36 : decode cX2_advance 36 = .ok (.if_icmp .ne 16, 3) := by decide +kernel
theorem dX2_advance_39 : decode cX2_advance 39 = .ok (.aload_n 0, 1) := by decide +kernel
theorem dX2_advance_40 : decode cX2_advance 40 = .ok (.dup, 1) := by decide +kernel
theorem dX2_advance_41 : decode cX2_advance 41 = .ok (.getfield 19, 3) := by decide +kernel
theorem dX2_advance_44 : decode cX2_advance 44 = .ok (.iconst 1, 1) := by decide +kernel
theorem dX2_advance_45 : decode cX2_advance 45 = .ok (.iadd, 1) := by decide +kernel
theorem dX2_advance_46 : decode cX2_advance 46 = .ok (.putfield 19, 3) := by decide +kernel
theorem dX2_advance_49 : decode cX2_advance 49 = .ok (.goto (-49), 3) := by decide +kernel
theorem dX2_advance_52 : decode cX2_advance 52 = .ok (.aload_n 0, 1) := by decide +kernel
theorem dX2_advance_53 : decode cX2_advance 53 = .ok (.aload_n 0, 1) := by decide +kernel
theorem dX2_advance_54 : decode cX2_advance 54 = .ok (.getfield 19, 3) := by decide +kernel
theorem dX2_advance_57 : decode cX2_advance 57 = .ok (.putfield 25, 3) := by decide +kernel
theorem dX2_advance_60 : decode cX2_advance 60 = .ok (.aload_n 0, 1) := by decide +kernel
theorem dX2_advance_61 : decode cX2_advance 61 = .ok (.getfield 19, 3) := by decide +kernel
theorem dX2_advance_64 : decode cX2_advance 64 = .ok (.aload_n 0, 1) := by decide +kernel
theorem dX2_advance_65 : decode cX2_advance 65 = .ok (.getfield 9, 3) := by decide +kernel
theorem dX2_advance_68 : decode cX2_advance 68 = .ok (.if_icmp .lt 11, 3) := by decide +kernel
theorem dX2_advance_71 : decode cX2_advance 71 = .ok (.aload_n 0, 1) := by decide +kernel
theorem dX2_advance_72 : decode cX2_advance 72 = .ok (.iconst 0, 1) := by decide +kernel
theorem dX2_advance_73 : decode cX2_advance 73 = .ok (.putfield 22, 3) := by decide +kernel
theorem dX2_advance_76 : decode cX2_advance 76 = .ok (.goto 106, 3) := by decide +kernel
theorem dX2_advance_79 : decode cX2_advance 79 = .ok (.aload_n 0, 1) := by decide +kernel
theorem dX2_advance_80 : decode cX2_advance 80 = .ok (.getfield 15, 3) := by decide +kernel
theorem dX2_advance_83 : decode cX2_advance 83 = .ok (.aload_n 0, 1) := by decide +kernel
theorem dX2_advance_84 : decode cX2_advance 84 = .ok (.getfield 19, 3) := by decide +kernel
theorem dX2_advance_87 : decode cX2_advance 87 = .ok (.baload, 1) := by decide +kernel
theorem dX2_advance_88 : decode cX2_advance 88 = .ok (.invokestatic 38, 3) := by decide +kernel
theorem dX2_advance_91 : decode cX2_advance 91 = .ok (.ifCond .eq 10, 3) := by decide +kernel
theorem dX2_advance_94 : decode cX2_advance 94 = .ok (.aload_n 0, 1) := by decide +kernel
theorem dX2_advance_95 : decode cX2_advance 95 = .ok (.invokevirtual 146, 3) := by decide +kernel
theorem dX2_advance_98 : decode cX2_advance 98 = .ok (.goto 84, 3) := by decide +kernel
theorem dX2_advance_101 : decode cX2_advance 101 = .ok (.aload_n 0, 1) := by decide +kernel
theorem dX2_advance_102 : decode cX2_advance 102 = .ok (.getfield 15, 3) := by decide +kernel
theorem dX2_advance_105 : decode cX2_advance 105 = .ok (.aload_n 0, 1) := by decide +kernel
theorem dX2_advance_106 : decode cX2_advance 106 = .ok (.getfield 19, 3) := by decide +kernel
theorem dX2_advance_109 : decode cX2_advance 109 = .ok (.baload, 1) := by decide +kernel
theorem dX2_advance_110 : decode cX2_advance 110 = .ok (.invokestatic 42, 3) := by decide +kernel
theorem dX2_advance_113 : decode cX2_advance 113 = .ok (.ifCond .eq 10, 3) := by decide +kernel
theorem dX2_advance_116 : decode cX2_advance 116 = .ok (.aload_n 0, 1) := by decide +kernel
theorem dX2_advance_117 : decode cX2_advance 117 = .ok (.invokevirtual 149, 3) := by decide +kernel
theorem dX2_advance_120 : decode cX2_advance 120 = .ok (.goto 62, 3) := by decide +kernel
theorem dX2_advance_123 : decode cX2_advance 123 = .ok (.aload_n 0, 1) := by decide +kernel
theorem dX2_advance_124 : decode cX2_advance 124 = .ok (.aload_n 0, 1) := by decide +kernel
theorem dX2_advance_125 : decode cX2_advance 125 = .ok (.getfield 15, 3) := by decide +kernel
theorem dX2_advance_128 : decode cX2_advance 128 = .ok (.aload_n 0, 1) := by decide +kernel
theorem dX2_advance_129 : decode cX2_advance 129 = .ok (.getfield 19, 3) := by decide +kernel
theorem dX2_advance_132 : decode cX2_advance 132 = .ok (.baload, 1) := by decide +kernel
theorem dX2_advance_133 : decode cX2_advance 133 = .ok (.bipush 32, 2) := by decide +kernel
theorem dX2_advance_135 : decode cX2_advance 135 = .ok (.if_icmp .le 33, 3) := by decide +kernel
theorem dX2_advance_138 : decode cX2_advance 138 = .ok (.ldc 152, 2) := by decide +kernel
theorem dX2_advance_140 : decode cX2_advance 140 = .ok (.aload_n 0, 1) := by decide +kernel
theorem dX2_advance_141 : decode cX2_advance 141 = .ok (.getfield 15, 3) := by decide +kernel
theorem dX2_advance_144 : decode cX2_advance 144 = .ok (.aload_n 0, 1) := by decide +kernel
theorem dX2_advance_145 : decode cX2_advance 145 = .ok (.getfield 19, 3) := by decide +kernel
theorem dX2_advance_148 : decode cX2_advance 148 = .ok (.baload, 1) := by decide +kernel
theorem dX2_advance_149 : decode cX2_advance 149 = .ok (.i2c, 1) := by decide +kernel
theorem dX2_advance_150 : decode cX2_advance 150 = .ok (.invokevirtual 121, 3) := by decide +kernel
theorem dX2_advance_153 : decode cX2_advance 153 = .ok (.ifCond .lt 15, 3) := by decide +kernel
theorem dX2_advance_156 : decode cX2_advance 156 = .ok (.aload_n 0, 1) := by decide +kernel
theorem dX2_advance_157 : decode cX2_advance 157 = .ok (.getfield 15, 3) := by decide +kernel
theorem dX2_advance_160 : decode cX2_advance 160 = .ok (.aload_n 0, 1) := by decide +kernel
theorem dX2_advance_161 : decode cX2_advance 161 = .ok (.getfield 19, 3) := by decide +kernel
theorem dX2_advance_164 : decode cX2_advance 164 = .ok (.baload, 1) := by decide +kernel
theorem dX2_advance_165 : decode cX2_advance 165 = .ok (.goto 4, 3) := by decide +kernel
theorem dX2_advance_168 : decode cX2_advance 168 = .ok (.iconst 1, 1) := by decide +kernel
theorem dX2_advance_169 : decode cX2_advance 169 = .ok (.putfield 22, 3) := by decide +kernel
theorem dX2_advance_172 : decode cX2_advance 172 = .ok (.aload_n 0, 1) := by decide +kernel
theorem dX2_advance_173 : decode cX2_advance 173 = .ok (.dup, 1) := by decide +kernel
theorem dX2_advance_174 : decode cX2_advance 174 = .ok (.getfield 19, 3) := by decide +kernel
theorem dX2_advance_177 : decode cX2_advance 177 = .ok (.iconst 1, 1) := by decide +kernel
theorem dX2_advance_178 : decode cX2_advance 178 = .ok (.iadd, 1) := by decide +kernel
theorem dX2_advance_179 : decode cX2_advance 179 = .ok (.putfield 19, 3) := by decide +kernel
theorem dX2_advance_182 : decode cX2_advance 182 = .ok (.return_, 1) := by decide +kernel
abbrev VX2_advance_0 (E : En) (d : Nat) (g : Ga) (P : Hp → Prop) (h : Hp) : Prop := V E MX2_advance (RM (d + 1) 0) g (QQ E g (QV E P) 0 0) 0 0 h 0 [(0, .ref (eA E 1))] []
set_option maxRecDepth 20000 in
theorem wp_X2_advance (E : En) (d : Nat) (h : Hp) (P : Hp → Prop) (t : ∀ g : Ga, VX2_advance_0 E d g P h) : SpV E (d + 1) MX2_advance [.ref (eA E 1)] h P := by
  refine SpV.of (lv0 := [(0, .ref (eA E 1))]) (by decide) (Nat.le_of_ble_eq_true rfl) rfl (fun g => ?_)
  have t := t g
  exact t
set_option maxRecDepth 20000 in
theorem sg_X2_advance_0 (E : En) (d : Nat) (g : Ga) (h : Hp) (P : Hp → Prop) (t : ((h.1 1 0) ≤ (h.1 1 2) → (((h.1 1 2) < (h.1 1 0) → (vp_in (h.1 1 2) 1200 ∧ (SpI E d MX2_isLetter [.int (h.1 2 ((h.1 1 2).toNatClampNeg))] (sI h 1 4 (h.1 1 2)) (fun v4 h4 => (v4 = 0 → (vp_in (h4.1 1 2) 1200 ∧ (SpI E d MX2_isDigit [.int (h4.1 2 ((h4.1 1 2).toNatClampNeg))] h4 (fun v7 h7 => (v7 = 0 → (vp_in (h7.1 1 2) 1200 ∧ (((h7.1 2 ((h7.1 1 2).toNatClampNeg)) ≤ (32 : Int32) → (P (sI (sI h7 1 3 (1 : Int32)) 1 2 ((h7.1 1 2) + (1 : Int32))))) ∧ (¬ (h7.1 2 ((h7.1 1 2).toNatClampNeg)) ≤ (32 : Int32) → (vp_in (h7.1 1 2) 1200 ∧ (SpI E d MJ0_indexOf_0f7a4 [.ref (eK E 0), .int (((h7.1 2 ((h7.1 1 2).toNatClampNeg)).toUInt32 % 65536).toInt32)] h7 (fun v12 h12 => (v12 < 0 → (P (sI (sI h12 1 3 (1 : Int32)) 1 2 ((h12.1 1 2) + (1 : Int32))))) ∧ (¬ v12 < 0 → (vp_in (h12.1 1 2) 1200 ∧ (P (sI (sI h12 1 3 (h12.1 2 ((h12.1 1 2).toNatClampNeg))) 1 2 ((h12.1 1 2) + (1 : Int32))))))))))))) ∧ (¬ v7 = 0 → (SpV E d MX2_takeNumber [.ref (eA E 1)] h7 (fun h15 => P h15))))))) ∧ (¬ v4 = 0 → (SpV E d MX2_takeWord [.ref (eA E 1)] h4 (fun h16 => P h16))))))) ∧ (¬ (h.1 1 2) < (h.1 1 0) → (P (sI (sI h 1 4 (h.1 1 2)) 1 3 (0 : Int32)))))) ∧ (¬ (h.1 1 0) ≤ (h.1 1 2) → (vp_in (h.1 1 2) 1200 ∧ (((h.1 2 ((h.1 1 2).toNatClampNeg)) = (32 : Int32) → (VX2_advance_0 E d g P (sI h 1 2 ((h.1 1 2) + (1 : Int32))))) ∧ (¬ (h.1 2 ((h.1 1 2).toNatClampNeg)) = (32 : Int32) → (vp_in (h.1 1 2) 1200 ∧ ((¬ (h.1 2 ((h.1 1 2).toNatClampNeg)) = (10 : Int32) → (((h.1 1 2) < (h.1 1 0) → (vp_in (h.1 1 2) 1200 ∧ (SpI E d MX2_isLetter [.int (h.1 2 ((h.1 1 2).toNatClampNeg))] (sI h 1 4 (h.1 1 2)) (fun v23 h23 => (v23 = 0 → (vp_in (h23.1 1 2) 1200 ∧ (SpI E d MX2_isDigit [.int (h23.1 2 ((h23.1 1 2).toNatClampNeg))] h23 (fun v26 h26 => (v26 = 0 → (vp_in (h26.1 1 2) 1200 ∧ (((h26.1 2 ((h26.1 1 2).toNatClampNeg)) ≤ (32 : Int32) → (P (sI (sI h26 1 3 (1 : Int32)) 1 2 ((h26.1 1 2) + (1 : Int32))))) ∧ (¬ (h26.1 2 ((h26.1 1 2).toNatClampNeg)) ≤ (32 : Int32) → (vp_in (h26.1 1 2) 1200 ∧ (SpI E d MJ0_indexOf_0f7a4 [.ref (eK E 0), .int (((h26.1 2 ((h26.1 1 2).toNatClampNeg)).toUInt32 % 65536).toInt32)] h26 (fun v31 h31 => (v31 < 0 → (P (sI (sI h31 1 3 (1 : Int32)) 1 2 ((h31.1 1 2) + (1 : Int32))))) ∧ (¬ v31 < 0 → (vp_in (h31.1 1 2) 1200 ∧ (P (sI (sI h31 1 3 (h31.1 2 ((h31.1 1 2).toNatClampNeg))) 1 2 ((h31.1 1 2) + (1 : Int32))))))))))))) ∧ (¬ v26 = 0 → (SpV E d MX2_takeNumber [.ref (eA E 1)] h26 (fun h34 => P h34))))))) ∧ (¬ v23 = 0 → (SpV E d MX2_takeWord [.ref (eA E 1)] h23 (fun h35 => P h35))))))) ∧ (¬ (h.1 1 2) < (h.1 1 0) → (P (sI (sI h 1 4 (h.1 1 2)) 1 3 (0 : Int32)))))) ∧ ((h.1 2 ((h.1 1 2).toNatClampNeg)) = (10 : Int32) → (VX2_advance_0 E d g P (sI h 1 2 ((h.1 1 2) + (1 : Int32)))))))))))) : VX2_advance_0 E d g P h := by
  refine r_aload_n (q := 0) dX2_advance_0 rfl rfl ?_
  refine r_getI (c := 1) dX2_advance_1 flX2_19 lay_1 rfl ?_
  refine r_aload_n (q := 0) dX2_advance_4 rfl rfl ?_
  refine r_getI (c := 1) dX2_advance_5 flX2_9 lay_1 rfl ?_
  refine r_icmp_ge (tgt := 52) dX2_advance_8 (by decide) (fun q1 => ?_) (fun q1 => ?_)
  · have t := t.1 q1
    refine r_aload_n (q := 0) dX2_advance_52 rfl rfl ?_
    refine r_aload_n (q := 0) dX2_advance_53 rfl rfl ?_
    refine r_getI (c := 1) dX2_advance_54 flX2_19 lay_1 rfl ?_
    refine r_putI (c := 1) dX2_advance_57 flX2_25 lay_1 rfl ?_
    refine r_aload_n (q := 0) dX2_advance_60 rfl rfl ?_
    refine r_getIv (c := 1) (v := h.1 1 2) dX2_advance_61 flX2_19 lay_1 rfl rfl ?_
    refine r_aload_n (q := 0) dX2_advance_64 rfl rfl ?_
    refine r_getIv (c := 1) (v := h.1 1 0) dX2_advance_65 flX2_9 lay_1 rfl rfl ?_
    refine r_icmp_lt (tgt := 79) dX2_advance_68 (by decide) (fun q2 => ?_) (fun q2 => ?_)
    · have t := t.1 q2
      refine r_aload_n (q := 0) dX2_advance_79 rfl rfl ?_
      refine r_getR (c := 1) (c2 := 2) dX2_advance_80 flX2_15 lay_1 rfl ?_
      refine r_aload_n (q := 0) dX2_advance_83 rfl rfl ?_
      refine r_getIv (c := 1) (v := h.1 1 2) dX2_advance_84 flX2_19 lay_1 rfl rfl ?_
      obtain ⟨c3, t⟩ := t
      refine r_baldv (c := 2) (v := h.1 2 ((h.1 1 2).toNatClampNeg)) dX2_advance_87 lay_2 c3 rfl ?_
      refine r_cSI (As := [.int (h.1 2 ((h.1 1 2).toNatClampNeg))]) dX2_advance_88 mkX2_isLetter lkX2_38 rfl (by decide) rfl (Nat.le_of_ble_eq_true rfl) z00 t ?_
      intro v4 h4 t
      refine r_if_eq (tgt := 101) dX2_advance_91 (by decide) (fun q5 => ?_) (fun q5 => ?_)
      · have t := t.1 q5
        refine r_aload_n (q := 0) dX2_advance_101 rfl rfl ?_
        refine r_getR (c := 1) (c2 := 2) dX2_advance_102 flX2_15 lay_1 rfl ?_
        refine r_aload_n (q := 0) dX2_advance_105 rfl rfl ?_
        refine r_getI (c := 1) dX2_advance_106 flX2_19 lay_1 rfl ?_
        obtain ⟨c6, t⟩ := t
        refine r_bald (c := 2) dX2_advance_109 lay_2 c6 ?_
        refine r_cSI (As := [.int (h4.1 2 ((h4.1 1 2).toNatClampNeg))]) dX2_advance_110 mkX2_isDigit lkX2_42 rfl (by decide) rfl (Nat.le_of_ble_eq_true rfl) z00 t ?_
        intro v7 h7 t
        refine r_if_eq (tgt := 123) dX2_advance_113 (by decide) (fun q8 => ?_) (fun q8 => ?_)
        · have t := t.1 q8
          refine r_aload_n (q := 0) dX2_advance_123 rfl rfl ?_
          refine r_aload_n (q := 0) dX2_advance_124 rfl rfl ?_
          refine r_getR (c := 1) (c2 := 2) dX2_advance_125 flX2_15 lay_1 rfl ?_
          refine r_aload_n (q := 0) dX2_advance_128 rfl rfl ?_
          refine r_getI (c := 1) dX2_advance_129 flX2_19 lay_1 rfl ?_
          obtain ⟨c9, t⟩ := t
          refine r_bald (c := 2) dX2_advance_132 lay_2 c9 ?_
          refine r_bipush (v := (32 : Int32)) dX2_advance_133 rfl ?_
          refine r_icmp_le (tgt := 168) dX2_advance_135 (by decide) (fun q10 => ?_) (fun q10 => ?_)
          · have t := t.1 q10
            refine r_iconst (v := (1 : Int32)) dX2_advance_168 rfl ?_
            refine r_putI (c := 1) dX2_advance_169 flX2_22 lay_1 rfl ?_
            refine r_aload_n (q := 0) dX2_advance_172 rfl rfl ?_
            refine r_dup dX2_advance_173 rfl ?_
            refine r_getIv (c := 1) (v := h7.1 1 2) dX2_advance_174 flX2_19 lay_1 rfl rfl ?_
            refine r_iconst (v := (1 : Int32)) dX2_advance_177 rfl ?_
            refine r_iadd dX2_advance_178 ?_
            refine r_putI (c := 1) dX2_advance_179 flX2_19 lay_1 rfl ?_
            exact r_vret dX2_advance_182 rfl t
          · have t := t.2 q10
            refine r_ldcS (i := 0) (tx := "=;:,!+-*&|^") dX2_advance_138 (by decide) ?_
            refine r_aload_n (q := 0) dX2_advance_140 rfl rfl ?_
            refine r_getR (c := 1) (c2 := 2) dX2_advance_141 flX2_15 lay_1 rfl ?_
            refine r_aload_n (q := 0) dX2_advance_144 rfl rfl ?_
            refine r_getI (c := 1) dX2_advance_145 flX2_19 lay_1 rfl ?_
            obtain ⟨c11, t⟩ := t
            refine r_bald (c := 2) dX2_advance_148 lay_2 c11 ?_
            refine r_i2c dX2_advance_149 ?_
            refine r_kVI (i := 0) (As := [.int (((h7.1 2 ((h7.1 1 2).toNatClampNeg)).toUInt32 % 65536).toInt32)]) dX2_advance_150 mkJ0_indexOf_0f7a4 lkX2_121 (by decide) rfl (by decide) rfl (Nat.le_of_ble_eq_true rfl) z00 rfl t ?_
            intro v12 h12 t
            refine r_if_lt (tgt := 168) dX2_advance_153 (by decide) (fun q13 => ?_) (fun q13 => ?_)
            · have t := t.1 q13
              refine r_iconst (v := (1 : Int32)) dX2_advance_168 rfl ?_
              refine r_putI (c := 1) dX2_advance_169 flX2_22 lay_1 rfl ?_
              refine r_aload_n (q := 0) dX2_advance_172 rfl rfl ?_
              refine r_dup dX2_advance_173 rfl ?_
              refine r_getIv (c := 1) (v := h12.1 1 2) dX2_advance_174 flX2_19 lay_1 rfl rfl ?_
              refine r_iconst (v := (1 : Int32)) dX2_advance_177 rfl ?_
              refine r_iadd dX2_advance_178 ?_
              refine r_putI (c := 1) dX2_advance_179 flX2_19 lay_1 rfl ?_
              exact r_vret dX2_advance_182 rfl t
            · have t := t.2 q13
              refine r_aload_n (q := 0) dX2_advance_156 rfl rfl ?_
              refine r_getR (c := 1) (c2 := 2) dX2_advance_157 flX2_15 lay_1 rfl ?_
              refine r_aload_n (q := 0) dX2_advance_160 rfl rfl ?_
              refine r_getI (c := 1) dX2_advance_161 flX2_19 lay_1 rfl ?_
              obtain ⟨c14, t⟩ := t
              refine r_bald (c := 2) dX2_advance_164 lay_2 c14 ?_
              refine r_goto (tgt := 169) dX2_advance_165 (by decide) ?_
              refine r_putI (c := 1) dX2_advance_169 flX2_22 lay_1 rfl ?_
              refine r_aload_n (q := 0) dX2_advance_172 rfl rfl ?_
              refine r_dup dX2_advance_173 rfl ?_
              refine r_getIv (c := 1) (v := h12.1 1 2) dX2_advance_174 flX2_19 lay_1 rfl rfl ?_
              refine r_iconst (v := (1 : Int32)) dX2_advance_177 rfl ?_
              refine r_iadd dX2_advance_178 ?_
              refine r_putI (c := 1) dX2_advance_179 flX2_19 lay_1 rfl ?_
              exact r_vret dX2_advance_182 rfl t
        · have t := t.2 q8
          refine r_aload_n (q := 0) dX2_advance_116 rfl rfl ?_
          refine r_cVV (c := 1) (As := []) dX2_advance_117 mkX2_takeNumber lkX2_149 lay_1 rfl rfl rfl (by decide) rfl (Nat.le_of_ble_eq_true rfl) z00 t ?_
          intro h15 t
          refine r_goto (tgt := 182) dX2_advance_120 (by decide) ?_
          exact r_vret dX2_advance_182 rfl t
      · have t := t.2 q5
        refine r_aload_n (q := 0) dX2_advance_94 rfl rfl ?_
        refine r_cVV (c := 1) (As := []) dX2_advance_95 mkX2_takeWord lkX2_146 lay_1 rfl rfl rfl (by decide) rfl (Nat.le_of_ble_eq_true rfl) z00 t ?_
        intro h16 t
        refine r_goto (tgt := 182) dX2_advance_98 (by decide) ?_
        exact r_vret dX2_advance_182 rfl t
    · have t := t.2 q2
      refine r_aload_n (q := 0) dX2_advance_71 rfl rfl ?_
      refine r_iconst (v := (0 : Int32)) dX2_advance_72 rfl ?_
      refine r_putI (c := 1) dX2_advance_73 flX2_22 lay_1 rfl ?_
      refine r_goto (tgt := 182) dX2_advance_76 (by decide) ?_
      exact r_vret dX2_advance_182 rfl t
  · have t := t.2 q1
    refine r_aload_n (q := 0) dX2_advance_11 rfl rfl ?_
    refine r_getR (c := 1) (c2 := 2) dX2_advance_12 flX2_15 lay_1 rfl ?_
    refine r_aload_n (q := 0) dX2_advance_15 rfl rfl ?_
    refine r_getI (c := 1) dX2_advance_16 flX2_19 lay_1 rfl ?_
    obtain ⟨c17, t⟩ := t
    refine r_bald (c := 2) dX2_advance_19 lay_2 c17 ?_
    refine r_bipush (v := (32 : Int32)) dX2_advance_20 rfl ?_
    refine r_icmp_eq (tgt := 39) dX2_advance_22 (by decide) (fun q18 => ?_) (fun q18 => ?_)
    · have t := t.1 q18
      refine r_aload_n (q := 0) dX2_advance_39 rfl rfl ?_
      refine r_dup dX2_advance_40 rfl ?_
      refine r_getI (c := 1) dX2_advance_41 flX2_19 lay_1 rfl ?_
      refine r_iconst (v := (1 : Int32)) dX2_advance_44 rfl ?_
      refine r_iadd dX2_advance_45 ?_
      refine r_putI (c := 1) dX2_advance_46 flX2_19 lay_1 rfl ?_
      refine r_goto (tgt := 0) dX2_advance_49 (by decide) ?_
      exact t
    · have t := t.2 q18
      refine r_aload_n (q := 0) dX2_advance_25 rfl rfl ?_
      refine r_getR (c := 1) (c2 := 2) dX2_advance_26 flX2_15 lay_1 rfl ?_
      refine r_aload_n (q := 0) dX2_advance_29 rfl rfl ?_
      refine r_getI (c := 1) dX2_advance_30 flX2_19 lay_1 rfl ?_
      obtain ⟨c19, t⟩ := t
      refine r_bald (c := 2) dX2_advance_33 lay_2 c19 ?_
      refine r_bipush (v := (10 : Int32)) dX2_advance_34 rfl ?_
      refine r_icmp_ne (tgt := 52) dX2_advance_36 (by decide) (fun q20 => ?_) (fun q20 => ?_)
      · have t := t.1 q20
        refine r_aload_n (q := 0) dX2_advance_52 rfl rfl ?_
        refine r_aload_n (q := 0) dX2_advance_53 rfl rfl ?_
        refine r_getI (c := 1) dX2_advance_54 flX2_19 lay_1 rfl ?_
        refine r_putI (c := 1) dX2_advance_57 flX2_25 lay_1 rfl ?_
        refine r_aload_n (q := 0) dX2_advance_60 rfl rfl ?_
        refine r_getIv (c := 1) (v := h.1 1 2) dX2_advance_61 flX2_19 lay_1 rfl rfl ?_
        refine r_aload_n (q := 0) dX2_advance_64 rfl rfl ?_
        refine r_getIv (c := 1) (v := h.1 1 0) dX2_advance_65 flX2_9 lay_1 rfl rfl ?_
        refine r_icmp_lt (tgt := 79) dX2_advance_68 (by decide) (fun q21 => ?_) (fun q21 => ?_)
        · have t := t.1 q21
          refine r_aload_n (q := 0) dX2_advance_79 rfl rfl ?_
          refine r_getR (c := 1) (c2 := 2) dX2_advance_80 flX2_15 lay_1 rfl ?_
          refine r_aload_n (q := 0) dX2_advance_83 rfl rfl ?_
          refine r_getIv (c := 1) (v := h.1 1 2) dX2_advance_84 flX2_19 lay_1 rfl rfl ?_
          obtain ⟨c22, t⟩ := t
          refine r_baldv (c := 2) (v := h.1 2 ((h.1 1 2).toNatClampNeg)) dX2_advance_87 lay_2 c22 rfl ?_
          refine r_cSI (As := [.int (h.1 2 ((h.1 1 2).toNatClampNeg))]) dX2_advance_88 mkX2_isLetter lkX2_38 rfl (by decide) rfl (Nat.le_of_ble_eq_true rfl) z00 t ?_
          intro v23 h23 t
          refine r_if_eq (tgt := 101) dX2_advance_91 (by decide) (fun q24 => ?_) (fun q24 => ?_)
          · have t := t.1 q24
            refine r_aload_n (q := 0) dX2_advance_101 rfl rfl ?_
            refine r_getR (c := 1) (c2 := 2) dX2_advance_102 flX2_15 lay_1 rfl ?_
            refine r_aload_n (q := 0) dX2_advance_105 rfl rfl ?_
            refine r_getI (c := 1) dX2_advance_106 flX2_19 lay_1 rfl ?_
            obtain ⟨c25, t⟩ := t
            refine r_bald (c := 2) dX2_advance_109 lay_2 c25 ?_
            refine r_cSI (As := [.int (h23.1 2 ((h23.1 1 2).toNatClampNeg))]) dX2_advance_110 mkX2_isDigit lkX2_42 rfl (by decide) rfl (Nat.le_of_ble_eq_true rfl) z00 t ?_
            intro v26 h26 t
            refine r_if_eq (tgt := 123) dX2_advance_113 (by decide) (fun q27 => ?_) (fun q27 => ?_)
            · have t := t.1 q27
              refine r_aload_n (q := 0) dX2_advance_123 rfl rfl ?_
              refine r_aload_n (q := 0) dX2_advance_124 rfl rfl ?_
              refine r_getR (c := 1) (c2 := 2) dX2_advance_125 flX2_15 lay_1 rfl ?_
              refine r_aload_n (q := 0) dX2_advance_128 rfl rfl ?_
              refine r_getI (c := 1) dX2_advance_129 flX2_19 lay_1 rfl ?_
              obtain ⟨c28, t⟩ := t
              refine r_bald (c := 2) dX2_advance_132 lay_2 c28 ?_
              refine r_bipush (v := (32 : Int32)) dX2_advance_133 rfl ?_
              refine r_icmp_le (tgt := 168) dX2_advance_135 (by decide) (fun q29 => ?_) (fun q29 => ?_)
              · have t := t.1 q29
                refine r_iconst (v := (1 : Int32)) dX2_advance_168 rfl ?_
                refine r_putI (c := 1) dX2_advance_169 flX2_22 lay_1 rfl ?_
                refine r_aload_n (q := 0) dX2_advance_172 rfl rfl ?_
                refine r_dup dX2_advance_173 rfl ?_
                refine r_getIv (c := 1) (v := h26.1 1 2) dX2_advance_174 flX2_19 lay_1 rfl rfl ?_
                refine r_iconst (v := (1 : Int32)) dX2_advance_177 rfl ?_
                refine r_iadd dX2_advance_178 ?_
                refine r_putI (c := 1) dX2_advance_179 flX2_19 lay_1 rfl ?_
                exact r_vret dX2_advance_182 rfl t
              · have t := t.2 q29
                refine r_ldcS (i := 0) (tx := "=;:,!+-*&|^") dX2_advance_138 (by decide) ?_
                refine r_aload_n (q := 0) dX2_advance_140 rfl rfl ?_
                refine r_getR (c := 1) (c2 := 2) dX2_advance_141 flX2_15 lay_1 rfl ?_
                refine r_aload_n (q := 0) dX2_advance_144 rfl rfl ?_
                refine r_getI (c := 1) dX2_advance_145 flX2_19 lay_1 rfl ?_
                obtain ⟨c30, t⟩ := t
                refine r_bald (c := 2) dX2_advance_148 lay_2 c30 ?_
                refine r_i2c dX2_advance_149 ?_
                refine r_kVI (i := 0) (As := [.int (((h26.1 2 ((h26.1 1 2).toNatClampNeg)).toUInt32 % 65536).toInt32)]) dX2_advance_150 mkJ0_indexOf_0f7a4 lkX2_121 (by decide) rfl (by decide) rfl (Nat.le_of_ble_eq_true rfl) z00 rfl t ?_
                intro v31 h31 t
                refine r_if_lt (tgt := 168) dX2_advance_153 (by decide) (fun q32 => ?_) (fun q32 => ?_)
                · have t := t.1 q32
                  refine r_iconst (v := (1 : Int32)) dX2_advance_168 rfl ?_
                  refine r_putI (c := 1) dX2_advance_169 flX2_22 lay_1 rfl ?_
                  refine r_aload_n (q := 0) dX2_advance_172 rfl rfl ?_
                  refine r_dup dX2_advance_173 rfl ?_
                  refine r_getIv (c := 1) (v := h31.1 1 2) dX2_advance_174 flX2_19 lay_1 rfl rfl ?_
                  refine r_iconst (v := (1 : Int32)) dX2_advance_177 rfl ?_
                  refine r_iadd dX2_advance_178 ?_
                  refine r_putI (c := 1) dX2_advance_179 flX2_19 lay_1 rfl ?_
                  exact r_vret dX2_advance_182 rfl t
                · have t := t.2 q32
                  refine r_aload_n (q := 0) dX2_advance_156 rfl rfl ?_
                  refine r_getR (c := 1) (c2 := 2) dX2_advance_157 flX2_15 lay_1 rfl ?_
                  refine r_aload_n (q := 0) dX2_advance_160 rfl rfl ?_
                  refine r_getI (c := 1) dX2_advance_161 flX2_19 lay_1 rfl ?_
                  obtain ⟨c33, t⟩ := t
                  refine r_bald (c := 2) dX2_advance_164 lay_2 c33 ?_
                  refine r_goto (tgt := 169) dX2_advance_165 (by decide) ?_
                  refine r_putI (c := 1) dX2_advance_169 flX2_22 lay_1 rfl ?_
                  refine r_aload_n (q := 0) dX2_advance_172 rfl rfl ?_
                  refine r_dup dX2_advance_173 rfl ?_
                  refine r_getIv (c := 1) (v := h31.1 1 2) dX2_advance_174 flX2_19 lay_1 rfl rfl ?_
                  refine r_iconst (v := (1 : Int32)) dX2_advance_177 rfl ?_
                  refine r_iadd dX2_advance_178 ?_
                  refine r_putI (c := 1) dX2_advance_179 flX2_19 lay_1 rfl ?_
                  exact r_vret dX2_advance_182 rfl t
            · have t := t.2 q27
              refine r_aload_n (q := 0) dX2_advance_116 rfl rfl ?_
              refine r_cVV (c := 1) (As := []) dX2_advance_117 mkX2_takeNumber lkX2_149 lay_1 rfl rfl rfl (by decide) rfl (Nat.le_of_ble_eq_true rfl) z00 t ?_
              intro h34 t
              refine r_goto (tgt := 182) dX2_advance_120 (by decide) ?_
              exact r_vret dX2_advance_182 rfl t
          · have t := t.2 q24
            refine r_aload_n (q := 0) dX2_advance_94 rfl rfl ?_
            refine r_cVV (c := 1) (As := []) dX2_advance_95 mkX2_takeWord lkX2_146 lay_1 rfl rfl rfl (by decide) rfl (Nat.le_of_ble_eq_true rfl) z00 t ?_
            intro h35 t
            refine r_goto (tgt := 182) dX2_advance_98 (by decide) ?_
            exact r_vret dX2_advance_182 rfl t
        · have t := t.2 q21
          refine r_aload_n (q := 0) dX2_advance_71 rfl rfl ?_
          refine r_iconst (v := (0 : Int32)) dX2_advance_72 rfl ?_
          refine r_putI (c := 1) dX2_advance_73 flX2_22 lay_1 rfl ?_
          refine r_goto (tgt := 182) dX2_advance_76 (by decide) ?_
          exact r_vret dX2_advance_182 rfl t
      · have t := t.2 q20
        refine r_aload_n (q := 0) dX2_advance_39 rfl rfl ?_
        refine r_dup dX2_advance_40 rfl ?_
        refine r_getI (c := 1) dX2_advance_41 flX2_19 lay_1 rfl ?_
        refine r_iconst (v := (1 : Int32)) dX2_advance_44 rfl ?_
        refine r_iadd dX2_advance_45 ?_
        refine r_putI (c := 1) dX2_advance_46 flX2_19 lay_1 rfl ?_
        refine r_goto (tgt := 0) dX2_advance_49 (by decide) ?_
        exact t
theorem dX2_take_0 : decode cX2_take 0 = .ok (.aload_n 0, 1) := by decide +kernel
theorem dX2_take_1 : decode cX2_take 1 = .ok (.getfield 22, 3) := by decide +kernel
theorem dX2_take_4 : decode cX2_take 4 = .ok (.iload_n 1, 1) := by decide +kernel
theorem dX2_take_5 : decode cX2_take 5 = .ok (.if_icmp .eq 9, 3) := by decide +kernel
theorem dX2_take_8 : decode cX2_take 8 = .ok (.aload_n 0, 1) := by decide +kernel
theorem dX2_take_9 : decode cX2_take 9 = .ok (.iconst 1, 1) := by decide +kernel
theorem dX2_take_10 : decode cX2_take 10 = .ok (.invokevirtual 63, 3) := by decide +kernel
theorem dX2_take_13 : decode cX2_take 13 = .ok (.ireturn, 1) := by decide +kernel
theorem dX2_take_14 : decode cX2_take 14 = .ok (.aload_n 0, 1) := by decide +kernel
theorem dX2_take_15 : decode cX2_take 15 = .ok (.invokevirtual 53, 3) := by decide +kernel
theorem dX2_take_18 : decode cX2_take 18 = .ok (.iconst 1, 1) := by decide +kernel
theorem dX2_take_19 : decode cX2_take 19 = .ok (.ireturn, 1) := by decide +kernel
set_option maxRecDepth 20000 in
theorem wp_X2_take (E : En) (d : Nat) (a1 : Int32) (h : Hp) (P : Int32 → Hp → Prop) (t : ((h.1 1 3) = a1 → (SpV E d MX2_advance [.ref (eA E 1)] h (fun h2 => P (1 : Int32) h2))) ∧ (¬ (h.1 1 3) = a1 → (SpI E d MX2_fail [.ref (eA E 1), .int (1 : Int32)] h (fun v3 h3 => (v3 = 0 ∨ v3 = 1) ∧ P v3 h3)))) : SpI E (d + 1) MX2_take [.ref (eA E 1), .int a1] h P := by
  refine SpI.of (lv0 := [(0, .ref (eA E 1)), (1, .int a1)]) (by decide) (Nat.le_of_ble_eq_true rfl) rfl (fun g => ?_)
  refine r_aload_n (q := 0) dX2_take_0 rfl rfl ?_
  refine r_getI (c := 1) dX2_take_1 flX2_22 lay_1 rfl ?_
  refine r_iload_n (q := 1) dX2_take_4 rfl rfl ?_
  refine r_icmp_eq (tgt := 14) dX2_take_5 (by decide) (fun q1 => ?_) (fun q1 => ?_)
  · have t := t.1 q1
    refine r_aload_n (q := 0) dX2_take_14 rfl rfl ?_
    refine r_cVV (c := 1) (As := []) dX2_take_15 mkX2_advance lkX2_53 lay_1 rfl rfl rfl (by decide) rfl (Nat.le_of_ble_eq_true rfl) z00 t ?_
    intro h2 t
    refine r_iconst (v := (1 : Int32)) dX2_take_18 rfl ?_
    exact r_zret dX2_take_19 rfl (Or.inr rfl) t
  · have t := t.2 q1
    refine r_aload_n (q := 0) dX2_take_8 rfl rfl ?_
    refine r_iconst (v := (1 : Int32)) dX2_take_9 rfl ?_
    refine r_cVI (c := 1) (As := [.int (1 : Int32)]) dX2_take_10 mkX2_fail lkX2_63 lay_1 rfl rfl rfl (by decide) rfl (Nat.le_of_ble_eq_true rfl) z00 t ?_
    intro v3 h3 t
    exact r_zret dX2_take_13 rfl t.1 t.2
theorem dX2_isNewName_0 : decode cX2_isNewName 0 = .ok (.aload_n 0, 1) := by decide +kernel
theorem dX2_isNewName_1 : decode cX2_isNewName 1 = .ok (.getfield 22, 3) := by decide +kernel
theorem dX2_isNewName_4 : decode cX2_isNewName 4 = .ok (.iconst 2, 1) := by decide +kernel
theorem dX2_isNewName_5 : decode cX2_isNewName 5 = .ok (.if_icmp .eq 9, 3) := by decide +kernel
theorem dX2_isNewName_8 : decode cX2_isNewName 8 = .ok (.aload_n 0, 1) := by decide +kernel
theorem dX2_isNewName_9 : decode cX2_isNewName 9 = .ok (.iconst 1, 1) := by decide +kernel
theorem dX2_isNewName_10 : decode cX2_isNewName 10 = .ok (.invokevirtual 63, 3) := by decide +kernel
theorem dX2_isNewName_13 : decode cX2_isNewName 13 = .ok (.ireturn, 1) := by decide +kernel
theorem dX2_isNewName_14 : decode cX2_isNewName 14 = .ok (.aload_n 1, 1) := by decide +kernel
theorem dX2_isNewName_15 : decode cX2_isNewName 15 = .ok (.aload_n 0, 1) := by decide +kernel
theorem dX2_isNewName_16 : decode cX2_isNewName 16 = .ok (.getfield 28, 3) := by decide +kernel
theorem dX2_isNewName_19 : decode cX2_isNewName 19 = .ok (.invokevirtual 85, 3) := by decide +kernel
theorem dX2_isNewName_22 : decode cX2_isNewName 22 = .ok (.iconst (-1), 1) := by decide +kernel
theorem dX2_isNewName_23 : decode cX2_isNewName 23 = .ok (.if_icmp .ne 15, 3) := by decide +kernel
theorem dX2_isNewName_26 : decode cX2_isNewName 26 = .ok (.aload_n 1, 1) := by decide +kernel
theorem dX2_isNewName_27 : decode cX2_isNewName 27 = .ok (.aload_n 0, 1) := by decide +kernel
theorem dX2_isNewName_28 : decode cX2_isNewName 28 = .ok (.getfield 28, 3) := by decide +kernel
theorem dX2_isNewName_31 : decode cX2_isNewName 31 = .ok (.invokevirtual 89, 3) := by decide +kernel
theorem dX2_isNewName_34 : decode cX2_isNewName 34 = .ok (.iconst (-1), 1) := by decide +kernel
theorem dX2_isNewName_35 : decode cX2_isNewName 35 = .ok (.if_icmp .eq 9, 3) := by decide +kernel
theorem dX2_isNewName_38 : decode cX2_isNewName 38 = .ok (.aload_n 0, 1) := by decide +kernel
theorem dX2_isNewName_39 : decode cX2_isNewName 39 = .ok (.iconst 3, 1) := by decide +kernel
theorem dX2_isNewName_40 : decode cX2_isNewName 40 = .ok (.invokevirtual 63, 3) := by decide +kernel
theorem dX2_isNewName_43 : decode cX2_isNewName 43 = .ok (.ireturn, 1) := by decide +kernel
theorem dX2_isNewName_44 : decode cX2_isNewName 44 = .ok (.iconst 1, 1) := by decide +kernel
theorem dX2_isNewName_45 : decode cX2_isNewName 45 = .ok (.ireturn, 1) := by decide +kernel
set_option maxRecDepth 20000 in
theorem wp_X2_isNewName (E : En) (d : Nat) (h : Hp) (P : Int32 → Hp → Prop) (t : ((h.1 1 3) = (2 : Int32) → (SpI E d MX6_operationNamed [.ref (eA E 17), .long (h.2 1 5)] h (fun v2 h2 => (¬ v2 = (-1 : Int32) → (SpI E d MX2_fail [.ref (eA E 1), .int (3 : Int32)] h2 (fun v4 h4 => (v4 = 0 ∨ v4 = 1) ∧ P v4 h4))) ∧ (v2 = (-1 : Int32) → (SpI E d MX6_instructionNamed [.ref (eA E 17), .long (h2.2 1 5)] h2 (fun v5 h5 => (v5 = (-1 : Int32) → (P (1 : Int32) h5)) ∧ (¬ v5 = (-1 : Int32) → (SpI E d MX2_fail [.ref (eA E 1), .int (3 : Int32)] h5 (fun v7 h7 => (v7 = 0 ∨ v7 = 1) ∧ P v7 h7))))))))) ∧ (¬ (h.1 1 3) = (2 : Int32) → (SpI E d MX2_fail [.ref (eA E 1), .int (1 : Int32)] h (fun v8 h8 => (v8 = 0 ∨ v8 = 1) ∧ P v8 h8)))) : SpI E (d + 1) MX2_isNewName [.ref (eA E 1), .ref (eA E 17)] h P := by
  refine SpI.of (lv0 := [(0, .ref (eA E 1)), (1, .ref (eA E 17))]) (by decide) (Nat.le_of_ble_eq_true rfl) rfl (fun g => ?_)
  refine r_aload_n (q := 0) dX2_isNewName_0 rfl rfl ?_
  refine r_getI (c := 1) dX2_isNewName_1 flX2_22 lay_1 rfl ?_
  refine r_iconst (v := (2 : Int32)) dX2_isNewName_4 rfl ?_
  refine r_icmp_eq (tgt := 14) dX2_isNewName_5 (by decide) (fun q1 => ?_) (fun q1 => ?_)
  · have t := t.1 q1
    refine r_aload_n (q := 1) dX2_isNewName_14 rfl rfl ?_
    refine r_aload_n (q := 0) dX2_isNewName_15 rfl rfl ?_
    refine r_getL (c := 1) dX2_isNewName_16 flX2_28 lay_1 rfl ?_
    refine r_cVI (c := 17) (As := [.long (h.2 1 5)]) dX2_isNewName_19 mkX6_operationNamed lkX2_85 lay_17 rfl rfl rfl (by decide) rfl (Nat.le_of_ble_eq_true rfl) z00 t ?_
    intro v2 h2 t
    refine r_iconst (v := (-1 : Int32)) dX2_isNewName_22 rfl ?_
    refine r_icmp_ne (tgt := 38) dX2_isNewName_23 (by decide) (fun q3 => ?_) (fun q3 => ?_)
    · have t := t.1 q3
      refine r_aload_n (q := 0) dX2_isNewName_38 rfl rfl ?_
      refine r_iconst (v := (3 : Int32)) dX2_isNewName_39 rfl ?_
      refine r_cVI (c := 1) (As := [.int (3 : Int32)]) dX2_isNewName_40 mkX2_fail lkX2_63 lay_1 rfl rfl rfl (by decide) rfl (Nat.le_of_ble_eq_true rfl) z00 t ?_
      intro v4 h4 t
      exact r_zret dX2_isNewName_43 rfl t.1 t.2
    · have t := t.2 q3
      refine r_aload_n (q := 1) dX2_isNewName_26 rfl rfl ?_
      refine r_aload_n (q := 0) dX2_isNewName_27 rfl rfl ?_
      refine r_getL (c := 1) dX2_isNewName_28 flX2_28 lay_1 rfl ?_
      refine r_cVI (c := 17) (As := [.long (h2.2 1 5)]) dX2_isNewName_31 mkX6_instructionNamed lkX2_89 lay_17 rfl rfl rfl (by decide) rfl (Nat.le_of_ble_eq_true rfl) z00 t ?_
      intro v5 h5 t
      refine r_iconst (v := (-1 : Int32)) dX2_isNewName_34 rfl ?_
      refine r_icmp_eq (tgt := 44) dX2_isNewName_35 (by decide) (fun q6 => ?_) (fun q6 => ?_)
      · have t := t.1 q6
        refine r_iconst (v := (1 : Int32)) dX2_isNewName_44 rfl ?_
        exact r_zret dX2_isNewName_45 rfl (Or.inr rfl) t
      · have t := t.2 q6
        refine r_aload_n (q := 0) dX2_isNewName_38 rfl rfl ?_
        refine r_iconst (v := (3 : Int32)) dX2_isNewName_39 rfl ?_
        refine r_cVI (c := 1) (As := [.int (3 : Int32)]) dX2_isNewName_40 mkX2_fail lkX2_63 lay_1 rfl rfl rfl (by decide) rfl (Nat.le_of_ble_eq_true rfl) z00 t ?_
        intro v7 h7 t
        exact r_zret dX2_isNewName_43 rfl t.1 t.2
  · have t := t.2 q1
    refine r_aload_n (q := 0) dX2_isNewName_8 rfl rfl ?_
    refine r_iconst (v := (1 : Int32)) dX2_isNewName_9 rfl ?_
    refine r_cVI (c := 1) (As := [.int (1 : Int32)]) dX2_isNewName_10 mkX2_fail lkX2_63 lay_1 rfl rfl rfl (by decide) rfl (Nat.le_of_ble_eq_true rfl) z00 t ?_
    intro v8 h8 t
    exact r_zret dX2_isNewName_13 rfl t.1 t.2
theorem dX2_readUnit_0 : decode cX2_readUnit 0 = .ok (.aload_n 0, 1) := by decide +kernel
theorem dX2_readUnit_1 : decode cX2_readUnit 1 = .ok (.getfield 22, 3) := by decide +kernel
theorem dX2_readUnit_4 : decode cX2_readUnit 4 = .ok (.iconst 4, 1) := by decide +kernel
theorem dX2_readUnit_5 : decode cX2_readUnit 5 = .ok (.if_icmp .eq 9, 3) := by decide +kernel
theorem dX2_readUnit_8 : decode cX2_readUnit 8 = .ok (.aload_n 0, 1) := by decide +kernel
theorem dX2_readUnit_9 : decode cX2_readUnit 9 = .ok (.iconst 1, 1) := by decide +kernel
theorem dX2_readUnit_10 : decode cX2_readUnit 10 = .ok (.invokevirtual 63, 3) := by decide +kernel
theorem dX2_readUnit_13 : decode cX2_readUnit 13 = .ok (.ireturn, 1) := by decide +kernel
theorem dX2_readUnit_14 : decode cX2_readUnit 14 = .ok (.aload_n 0, 1) := by decide +kernel
theorem dX2_readUnit_15 : decode cX2_readUnit 15 = .ok (.getfield 32, 3) := by decide +kernel
theorem dX2_readUnit_18 : decode cX2_readUnit 18 = .ok (.bipush 6, 2) := by decide +kernel
theorem dX2_readUnit_20 : decode cX2_readUnit 20 = .ok (.if_icmp .lt 9, 3) := by decide +kernel
theorem dX2_readUnit_23 : decode cX2_readUnit 23 = .ok (.aload_n 0, 1) := by decide +kernel
theorem dX2_readUnit_24 : decode cX2_readUnit 24 = .ok (.iconst 2, 1) := by decide +kernel
theorem dX2_readUnit_25 : decode cX2_readUnit 25 = .ok (.invokevirtual 63, 3) := by decide +kernel
theorem dX2_readUnit_28 : decode cX2_readUnit 28 = .ok (.ireturn, 1) := by decide +kernel
theorem dX2_readUnit_29 : decode cX2_readUnit 29 = .ok (.aload_n 1, 1) := by decide +kernel
theorem dX2_readUnit_30 : decode cX2_readUnit 30 = .ok (.getfield 92, 3) := by decide +kernel
theorem dX2_readUnit_33 : decode cX2_readUnit 33 = .ok (.aload_n 1, 1) := by decide +kernel
theorem dX2_readUnit_34 : decode cX2_readUnit 34 = .ok (.getfield 45, 3) := by decide +kernel
theorem dX2_readUnit_37 : decode cX2_readUnit 37 = .ok (.aload_n 0, 1) := by decide +kernel
theorem dX2_readUnit_38 : decode cX2_readUnit 38 = .ok (.getfield 32, 3) := by decide +kernel
theorem dX2_readUnit_41 : decode cX2_readUnit 41 = .ok (.iastore, 1) := by decide +kernel
theorem dX2_readUnit_42 : decode cX2_readUnit 42 = .ok (.aload_n 0, 1) := by decide +kernel
theorem dX2_readUnit_43 : decode cX2_readUnit 43 = .ok (.invokevirtual 53, 3) := by decide +kernel
theorem dX2_readUnit_46 : decode cX2_readUnit 46 = .ok (.iconst 1, 1) := by decide +kernel
theorem dX2_readUnit_47 : decode cX2_readUnit 47 = .ok (.ireturn, 1) := by decide +kernel
set_option maxRecDepth 20000 in
theorem wp_X2_readUnit (E : En) (d : Nat) (h : Hp) (P : Int32 → Hp → Prop) (t : ((h.1 1 3) = (4 : Int32) → (((h.1 1 6) < (6 : Int32) → (vp_in (h.1 17 0) 12 ∧ (SpV E d MX2_advance [.ref (eA E 1)] (sI h 19 ((h.1 17 0).toNatClampNeg) (h.1 1 6)) (fun h4 => P (1 : Int32) h4)))) ∧ (¬ (h.1 1 6) < (6 : Int32) → (SpI E d MX2_fail [.ref (eA E 1), .int (2 : Int32)] h (fun v5 h5 => (v5 = 0 ∨ v5 = 1) ∧ P v5 h5))))) ∧ (¬ (h.1 1 3) = (4 : Int32) → (SpI E d MX2_fail [.ref (eA E 1), .int (1 : Int32)] h (fun v6 h6 => (v6 = 0 ∨ v6 = 1) ∧ P v6 h6)))) : SpI E (d + 1) MX2_readUnit [.ref (eA E 1), .ref (eA E 17)] h P := by
  refine SpI.of (lv0 := [(0, .ref (eA E 1)), (1, .ref (eA E 17))]) (by decide) (Nat.le_of_ble_eq_true rfl) rfl (fun g => ?_)
  refine r_aload_n (q := 0) dX2_readUnit_0 rfl rfl ?_
  refine r_getI (c := 1) dX2_readUnit_1 flX2_22 lay_1 rfl ?_
  refine r_iconst (v := (4 : Int32)) dX2_readUnit_4 rfl ?_
  refine r_icmp_eq (tgt := 14) dX2_readUnit_5 (by decide) (fun q1 => ?_) (fun q1 => ?_)
  · have t := t.1 q1
    refine r_aload_n (q := 0) dX2_readUnit_14 rfl rfl ?_
    refine r_getI (c := 1) dX2_readUnit_15 flX2_32 lay_1 rfl ?_
    refine r_bipush (v := (6 : Int32)) dX2_readUnit_18 rfl ?_
    refine r_icmp_lt (tgt := 29) dX2_readUnit_20 (by decide) (fun q2 => ?_) (fun q2 => ?_)
    · have t := t.1 q2
      refine r_aload_n (q := 1) dX2_readUnit_29 rfl rfl ?_
      refine r_getR (c := 17) (c2 := 19) dX2_readUnit_30 flX2_92 lay_17 rfl ?_
      refine r_aload_n (q := 1) dX2_readUnit_33 rfl rfl ?_
      refine r_getI (c := 17) dX2_readUnit_34 flX2_45 lay_17 rfl ?_
      refine r_aload_n (q := 0) dX2_readUnit_37 rfl rfl ?_
      refine r_getI (c := 1) dX2_readUnit_38 flX2_32 lay_1 rfl ?_
      obtain ⟨c3, t⟩ := t
      refine r_iast (c := 19) dX2_readUnit_41 lay_19 c3 ?_
      refine r_aload_n (q := 0) dX2_readUnit_42 rfl rfl ?_
      refine r_cVV (c := 1) (As := []) dX2_readUnit_43 mkX2_advance lkX2_53 lay_1 rfl rfl rfl (by decide) rfl (Nat.le_of_ble_eq_true rfl) z00 t ?_
      intro h4 t
      refine r_iconst (v := (1 : Int32)) dX2_readUnit_46 rfl ?_
      exact r_zret dX2_readUnit_47 rfl (Or.inr rfl) t
    · have t := t.2 q2
      refine r_aload_n (q := 0) dX2_readUnit_23 rfl rfl ?_
      refine r_iconst (v := (2 : Int32)) dX2_readUnit_24 rfl ?_
      refine r_cVI (c := 1) (As := [.int (2 : Int32)]) dX2_readUnit_25 mkX2_fail lkX2_63 lay_1 rfl rfl rfl (by decide) rfl (Nat.le_of_ble_eq_true rfl) z00 t ?_
      intro v5 h5 t
      exact r_zret dX2_readUnit_28 rfl t.1 t.2
  · have t := t.2 q1
    refine r_aload_n (q := 0) dX2_readUnit_8 rfl rfl ?_
    refine r_iconst (v := (1 : Int32)) dX2_readUnit_9 rfl ?_
    refine r_cVI (c := 1) (As := [.int (1 : Int32)]) dX2_readUnit_10 mkX2_fail lkX2_63 lay_1 rfl rfl rfl (by decide) rfl (Nat.le_of_ble_eq_true rfl) z00 t ?_
    intro v6 h6 t
    exact r_zret dX2_readUnit_13 rfl t.1 t.2
theorem dX2_readTarget_0 : decode cX2_readTarget 0 = .ok (.aload_n 0, 1) := by decide +kernel
theorem dX2_readTarget_1 : decode cX2_readTarget 1 = .ok (.getfield 22, 3) := by decide +kernel
theorem dX2_readTarget_4 : decode cX2_readTarget 4 = .ok (.iconst 3, 1) := by decide +kernel
theorem dX2_readTarget_5 : decode cX2_readTarget 5 = .ok (.if_icmp .eq 9, 3) := by decide +kernel
theorem dX2_readTarget_8 : decode cX2_readTarget 8 = .ok (.aload_n 0, 1) := by decide +kernel
theorem dX2_readTarget_9 : decode cX2_readTarget 9 = .ok (.iconst 1, 1) := by decide +kernel
theorem dX2_readTarget_10 : decode cX2_readTarget 10 = .ok (.invokevirtual 63, 3) := by decide +kernel
theorem dX2_readTarget_13 : decode cX2_readTarget 13 = .ok (.ireturn, 1) := by decide +kernel
theorem dX2_readTarget_14 : decode cX2_readTarget 14 = .ok (.aload_n 1, 1) := by decide +kernel
theorem dX2_readTarget_15 : decode cX2_readTarget 15 = .ok (.getfield 96, 3) := by decide +kernel
theorem dX2_readTarget_18 : decode cX2_readTarget 18 = .ok (.aload_n 1, 1) := by decide +kernel
theorem dX2_readTarget_19 : decode cX2_readTarget 19 = .ok (.getfield 45, 3) := by decide +kernel
theorem dX2_readTarget_22 : decode cX2_readTarget 22 = .ok (.aload_n 0, 1) := by decide +kernel
theorem dX2_readTarget_23 : decode cX2_readTarget 23 = .ok (.getfield 32, 3) := by decide +kernel
theorem dX2_readTarget_26 : decode cX2_readTarget 26 = .ok (.iastore, 1) := by decide +kernel
theorem dX2_readTarget_27 : decode cX2_readTarget 27 = .ok (.aload_n 0, 1) := by decide +kernel
theorem dX2_readTarget_28 : decode cX2_readTarget 28 = .ok (.invokevirtual 53, 3) := by decide +kernel
theorem dX2_readTarget_31 : decode cX2_readTarget 31 = .ok (.iconst 1, 1) := by decide +kernel
theorem dX2_readTarget_32 : decode cX2_readTarget 32 = .ok (.ireturn, 1) := by decide +kernel
set_option maxRecDepth 20000 in
theorem wp_X2_readTarget (E : En) (d : Nat) (h : Hp) (P : Int32 → Hp → Prop) (t : ((h.1 1 3) = (3 : Int32) → (vp_in (h.1 17 0) 12 ∧ (SpV E d MX2_advance [.ref (eA E 1)] (sI h 20 ((h.1 17 0).toNatClampNeg) (h.1 1 6)) (fun h3 => P (1 : Int32) h3)))) ∧ (¬ (h.1 1 3) = (3 : Int32) → (SpI E d MX2_fail [.ref (eA E 1), .int (1 : Int32)] h (fun v4 h4 => (v4 = 0 ∨ v4 = 1) ∧ P v4 h4)))) : SpI E (d + 1) MX2_readTarget [.ref (eA E 1), .ref (eA E 17)] h P := by
  refine SpI.of (lv0 := [(0, .ref (eA E 1)), (1, .ref (eA E 17))]) (by decide) (Nat.le_of_ble_eq_true rfl) rfl (fun g => ?_)
  refine r_aload_n (q := 0) dX2_readTarget_0 rfl rfl ?_
  refine r_getI (c := 1) dX2_readTarget_1 flX2_22 lay_1 rfl ?_
  refine r_iconst (v := (3 : Int32)) dX2_readTarget_4 rfl ?_
  refine r_icmp_eq (tgt := 14) dX2_readTarget_5 (by decide) (fun q1 => ?_) (fun q1 => ?_)
  · have t := t.1 q1
    refine r_aload_n (q := 1) dX2_readTarget_14 rfl rfl ?_
    refine r_getR (c := 17) (c2 := 20) dX2_readTarget_15 flX2_96 lay_17 rfl ?_
    refine r_aload_n (q := 1) dX2_readTarget_18 rfl rfl ?_
    refine r_getI (c := 17) dX2_readTarget_19 flX2_45 lay_17 rfl ?_
    refine r_aload_n (q := 0) dX2_readTarget_22 rfl rfl ?_
    refine r_getI (c := 1) dX2_readTarget_23 flX2_32 lay_1 rfl ?_
    obtain ⟨c2, t⟩ := t
    refine r_iast (c := 20) dX2_readTarget_26 lay_20 c2 ?_
    refine r_aload_n (q := 0) dX2_readTarget_27 rfl rfl ?_
    refine r_cVV (c := 1) (As := []) dX2_readTarget_28 mkX2_advance lkX2_53 lay_1 rfl rfl rfl (by decide) rfl (Nat.le_of_ble_eq_true rfl) z00 t ?_
    intro h3 t
    refine r_iconst (v := (1 : Int32)) dX2_readTarget_31 rfl ?_
    exact r_zret dX2_readTarget_32 rfl (Or.inr rfl) t
  · have t := t.2 q1
    refine r_aload_n (q := 0) dX2_readTarget_8 rfl rfl ?_
    refine r_iconst (v := (1 : Int32)) dX2_readTarget_9 rfl ?_
    refine r_cVI (c := 1) (As := [.int (1 : Int32)]) dX2_readTarget_10 mkX2_fail lkX2_63 lay_1 rfl rfl rfl (by decide) rfl (Nat.le_of_ble_eq_true rfl) z00 t ?_
    intro v4 h4 t
    exact r_zret dX2_readTarget_13 rfl t.1 t.2
theorem dX2_readValue_0 : decode cX2_readValue 0 = .ok (.aload_n 1, 1) := by decide +kernel
theorem dX2_readValue_1 : decode cX2_readValue 1 = .ok (.getfield 45, 3) := by decide +kernel
theorem dX2_readValue_4 : decode cX2_readValue 4 = .ok (.istore_n 2, 1) := by decide +kernel
theorem dX2_readValue_5 : decode cX2_readValue 5 = .ok (.aload_n 0, 1) := by decide +kernel
theorem dX2_readValue_6 : decode cX2_readValue 6 = .ok (.invokevirtual 99, 3) := by decide +kernel
theorem dX2_readValue_9 : decode cX2_readValue 9 = .ok (.ifCond .ne 9, 3) := by decide +kernel
theorem dX2_readValue_12 : decode cX2_readValue 12 = .ok (.aload_n 0, 1) := by decide +kernel
theorem dX2_readValue_13 : decode cX2_readValue 13 = .ok (.iconst 1, 1) := by decide +kernel
theorem dX2_readValue_14 : decode cX2_readValue 14 = .ok (.invokevirtual 63, 3) := by decide +kernel
theorem dX2_readValue_17 : decode cX2_readValue 17 = .ok (.ireturn, 1) := by decide +kernel
theorem dX2_readValue_18 : decode cX2_readValue 18 = .ok (.aload_n 1, 1) := by decide +kernel
theorem dX2_readValue_19 : decode cX2_readValue 19 = .ok (.getfield 103, 3) := by decide +kernel
theorem dX2_readValue_22 : decode cX2_readValue 22 = .ok (.iload_n 2, 1) := by decide +kernel
theorem dX2_readValue_23 : decode cX2_readValue 23 = .ok (.aload_n 0, 1) := by decide +kernel
theorem dX2_readValue_24 : decode cX2_readValue 24 = .ok (.invokevirtual 106, 3) := by decide +kernel
theorem dX2_readValue_27 : decode cX2_readValue 27 = .ok (.iastore, 1) := by decide +kernel
theorem dX2_readValue_28 : decode cX2_readValue 28 = .ok (.aload_n 1, 1) := by decide +kernel
theorem dX2_readValue_29 : decode cX2_readValue 29 = .ok (.getfield 110, 3) := by decide +kernel
theorem dX2_readValue_32 : decode cX2_readValue 32 = .ok (.iload_n 2, 1) := by decide +kernel
theorem dX2_readValue_33 : decode cX2_readValue 33 = .ok (.aload_n 0, 1) := by decide +kernel
theorem dX2_readValue_34 : decode cX2_readValue 34 = .ok (.invokevirtual 113, 3) := by decide +kernel
theorem dX2_readValue_37 : decode cX2_readValue 37 = .ok (.iastore, 1) := by decide +kernel
theorem dX2_readValue_38 : decode cX2_readValue 38 = .ok (.aload_n 1, 1) := by decide +kernel
theorem dX2_readValue_39 : decode cX2_readValue 39 = .ok (.getfield 116, 3) := by decide +kernel
theorem dX2_readValue_42 : decode cX2_readValue 42 = .ok (.iload_n 2, 1) := by decide +kernel
theorem dX2_readValue_43 : decode cX2_readValue 43 = .ok (.iconst 0, 1) := by decide +kernel
theorem dX2_readValue_44 : decode cX2_readValue 44 = .ok (.iastore, 1) := by decide +kernel
theorem dX2_readValue_45 : decode cX2_readValue 45 = .ok (.aload_n 0, 1) := by decide +kernel
theorem dX2_readValue_46 : decode cX2_readValue 46 = .ok (.invokevirtual 53, 3) := by decide +kernel
theorem dX2_readValue_49 : decode cX2_readValue 49 = .ok (.aload_n 0, 1) := by decide +kernel
theorem dX2_readValue_50 : decode cX2_readValue 50 = .ok (.getfield 22, 3) := by decide +kernel
theorem dX2_readValue_53 : decode cX2_readValue 53 = .ok (.bipush 32, 2) := by decide +kernel
theorem dX2_readValue_55 : decode cX2_readValue 55 = .ok (.if_icmp .le 18, 3) := by decide +kernel
theorem dX2_readValue_58 : decode cX2_readValue 58 = .ok (.ldc 119, 2) := by decide +kernel
theorem dX2_readValue_60 : decode cX2_readValue 60 = .ok (.aload_n 0, 1) := by decide +kernel
theorem dX2_readValue_61 : decode cX2_readValue 61 = .ok (.getfield 22, 3) := by decide +kernel
theorem dX2_readValue_64 : decode cX2_readValue 64 = .ok (.i2c, 1) := by decide +kernel
theorem dX2_readValue_65 : decode cX2_readValue 65 = .ok (.invokevirtual 121, 3) := by decide +kernel
theorem dX2_readValue_68 : decode cX2_readValue 68 = .ok (.iconst 1, 1) := by decide +kernel
theorem dX2_readValue_69 : decode cX2_readValue 69 = .ok (.iadd, 1) := by decide +kernel
theorem dX2_readValue_70 : decode cX2_readValue 70 = .ok (.goto 4, 3) := by decide +kernel
theorem dX2_readValue_73 : decode cX2_readValue 73 = .ok (.iconst 0, 1) := by decide +kernel
theorem dX2_readValue_74 : decode cX2_readValue 74 = .ok (.istore_n 3, 1) := by decide +kernel
theorem dX2_readValue_75 : decode cX2_readValue 75 = .ok (.aload_n 1, 1) := by decide +kernel
theorem dX2_readValue_76 : decode cX2_readValue 76 = .ok (.getfield 127, 3) := by decide +kernel
theorem dX2_readValue_79 : decode cX2_readValue 79 = .ok (.iload_n 2, 1) := by decide +kernel
theorem dX2_readValue_80 : decode cX2_readValue 80 = .ok (.iload_n 3, 1) := by decide +kernel
theorem dX2_readValue_81 : decode cX2_readValue 81 = .ok (.iastore, 1) := by decide +kernel
theorem dX2_readValue_82 : decode cX2_readValue 82 = .ok (.iload_n 3, 1) := by decide +kernel
theorem dX2_readValue_83 : decode cX2_readValue 83 = .ok (.ifCond .ne 5, 3) := by decide +kernel
theorem dX2_readValue_86 : decode cX2_readValue 86 = .ok (.iconst 1, 1) := by decide +kernel
theorem dX2_readValue_87 : decode cX2_readValue 87 = .ok (.ireturn, 1) := by decide +kernel
theorem dX2_readValue_88 : decode cX2_readValue 88 = .ok (.aload_n 0, 1) := by decide +kernel
theorem dX2_readValue_89 : decode cX2_readValue 89 = .ok (.invokevirtual 53, 3) := by decide +kernel
theorem dX2_readValue_92 : decode cX2_readValue 92 = .ok (.aload_n 0, 1) := by decide +kernel
theorem dX2_readValue_93 : decode cX2_readValue 93 = .ok (.invokevirtual 99, 3) := by decide +kernel
theorem dX2_readValue_96 : decode cX2_readValue 96 = .ok (.ifCond .ne 9, 3) := by decide +kernel
theorem dX2_readValue_99 : decode cX2_readValue 99 = .ok (.aload_n 0, 1) := by decide +kernel
theorem dX2_readValue_100 : decode cX2_readValue 100 = .ok (.iconst 1, 1) := by decide +kernel
theorem dX2_readValue_101 : decode cX2_readValue 101 = .ok (.invokevirtual 63, 3) := by decide +kernel
theorem dX2_readValue_104 : decode cX2_readValue 104 = .ok (.ireturn, 1) := by decide +kernel
theorem dX2_readValue_105 : decode cX2_readValue 105 = .ok (.aload_n 1, 1) := by decide +kernel
theorem dX2_readValue_106 : decode cX2_readValue 106 = .ok (.getfield 116, 3) := by decide +kernel
theorem dX2_readValue_109 : decode cX2_readValue 109 = .ok (.iload_n 2, 1) := by decide +kernel
theorem dX2_readValue_110 : decode cX2_readValue 110 = .ok (.aload_n 0, 1) := by decide +kernel
theorem dX2_readValue_111 : decode cX2_readValue 111 = .ok (.invokevirtual 106, 3) := by decide +kernel
theorem dX2_readValue_114 : decode cX2_readValue 114 = .ok (.iastore, 1) := by decide +kernel
theorem dX2_readValue_115 : decode cX2_readValue 115 = .ok (.aload_n 1, 1) := by decide +kernel
theorem dX2_readValue_116 : decode cX2_readValue 116 = .ok (.getfield 110, 3) := by decide +kernel
theorem dX2_readValue_119 : decode cX2_readValue 119 = .ok (.iload_n 2, 1) := by decide +kernel
theorem dX2_readValue_120 : decode cX2_readValue 120 = .ok (.dup2, 1) := by decide +kernel
theorem dX2_readValue_121 : decode cX2_readValue 121 = .ok (.iaload, 1) := by decide +kernel
theorem dX2_readValue_122 : decode cX2_readValue 122 = .ok (.aload_n 0, 1) := by decide +kernel
theorem dX2_readValue_123 : decode cX2_readValue 123 = .ok (.invokevirtual 113, 3) := by decide +kernel
theorem dX2_readValue_126 : decode cX2_readValue 126 = .ok (.ior, 1) := by decide +kernel
theorem dX2_readValue_127 : decode cX2_readValue 127 = .ok (.iastore, 1) := by decide +kernel
theorem dX2_readValue_128 : decode cX2_readValue 128 = .ok (.aload_n 0, 1) := by decide +kernel
theorem dX2_readValue_129 : decode cX2_readValue 129 = .ok (.invokevirtual 53, 3) := by decide +kernel
theorem dX2_readValue_132 : decode cX2_readValue 132 = .ok (.iconst 1, 1) := by decide +kernel
theorem dX2_readValue_133 : decode cX2_readValue 133 = .ok (.ireturn, 1) := by decide +kernel
set_option maxRecDepth 20000 in
theorem wp_X2_readValue (E : En) (d : Nat) (h : Hp) (P : Int32 → Hp → Prop) (t : SpI E d MX2_isOperand [.ref (eA E 1)] h (fun v1 h1 => (¬ v1 = 0 → (SpI E d MX2_operand [.ref (eA E 1)] h1 (fun v3 h3 => vp_in (h.1 17 0) 12 ∧ (SpI E d MX2_operandReads [.ref (eA E 1)] (sI h3 22 ((h.1 17 0).toNatClampNeg) v3) (fun v5 h5 => vp_in (h.1 17 0) 12 ∧ (vp_in (h.1 17 0) 12 ∧ (SpV E d MX2_advance [.ref (eA E 1)] (sI (sI h5 24 ((h.1 17 0).toNatClampNeg) v5) 23 ((h.1 17 0).toNatClampNeg) (0 : Int32)) (fun h8 => ((h8.1 1 3) ≤ (32 : Int32) → (vp_in (h.1 17 0) 12 ∧ ((¬ (0 : Int32) = 0 → (SpV E d MX2_advance [.ref (eA E 1)] (sI h8 21 ((h.1 17 0).toNatClampNeg) (0 : Int32)) (fun h12 => SpI E d MX2_isOperand [.ref (eA E 1)] h12 (fun v13 h13 => (¬ v13 = 0 → (SpI E d MX2_operand [.ref (eA E 1)] h13 (fun v15 h15 => vp_in (h.1 17 0) 12 ∧ (vp_in (h.1 17 0) 12 ∧ (SpI E d MX2_operandReads [.ref (eA E 1)] (sI h15 23 ((h.1 17 0).toNatClampNeg) v15) (fun v18 h18 => vp_in (h.1 17 0) 12 ∧ (SpV E d MX2_advance [.ref (eA E 1)] (sI h18 24 ((h.1 17 0).toNatClampNeg) ((h15.1 24 ((h.1 17 0).toNatClampNeg)) ||| v18)) (fun h20 => P (1 : Int32) h20)))))))) ∧ (v13 = 0 → (SpI E d MX2_fail [.ref (eA E 1), .int (1 : Int32)] h13 (fun v21 h21 => (v21 = 0 ∨ v21 = 1) ∧ P v21 h21))))))) ∧ ((0 : Int32) = 0 → (P (1 : Int32) (sI h8 21 ((h.1 17 0).toNatClampNeg) (0 : Int32))))))) ∧ (¬ (h8.1 1 3) ≤ (32 : Int32) → (SpI E d MJ0_indexOf_0f7a4 [.ref (eK E 1), .int (((h8.1 1 3).toUInt32 % 65536).toInt32)] h8 (fun v22 h22 => vp_in (h.1 17 0) 12 ∧ ((¬ (v22 + (1 : Int32)) = 0 → (SpV E d MX2_advance [.ref (eA E 1)] (sI h22 21 ((h.1 17 0).toNatClampNeg) (v22 + (1 : Int32))) (fun h25 => SpI E d MX2_isOperand [.ref (eA E 1)] h25 (fun v26 h26 => (¬ v26 = 0 → (SpI E d MX2_operand [.ref (eA E 1)] h26 (fun v28 h28 => vp_in (h.1 17 0) 12 ∧ (vp_in (h.1 17 0) 12 ∧ (SpI E d MX2_operandReads [.ref (eA E 1)] (sI h28 23 ((h.1 17 0).toNatClampNeg) v28) (fun v31 h31 => vp_in (h.1 17 0) 12 ∧ (SpV E d MX2_advance [.ref (eA E 1)] (sI h31 24 ((h.1 17 0).toNatClampNeg) ((h28.1 24 ((h.1 17 0).toNatClampNeg)) ||| v31)) (fun h33 => P (1 : Int32) h33)))))))) ∧ (v26 = 0 → (SpI E d MX2_fail [.ref (eA E 1), .int (1 : Int32)] h26 (fun v34 h34 => (v34 = 0 ∨ v34 = 1) ∧ P v34 h34))))))) ∧ ((v22 + (1 : Int32)) = 0 → (P (1 : Int32) (sI h22 21 ((h.1 17 0).toNatClampNeg) (v22 + (1 : Int32))))))))))))))))) ∧ (v1 = 0 → (SpI E d MX2_fail [.ref (eA E 1), .int (1 : Int32)] h1 (fun v35 h35 => (v35 = 0 ∨ v35 = 1) ∧ P v35 h35))))) : SpI E (d + 1) MX2_readValue [.ref (eA E 1), .ref (eA E 17)] h P := by
  refine SpI.of (lv0 := [(0, .ref (eA E 1)), (1, .ref (eA E 17))]) (by decide) (Nat.le_of_ble_eq_true rfl) rfl (fun g => ?_)
  refine r_aload_n (q := 1) dX2_readValue_0 rfl rfl ?_
  refine r_getI (c := 17) dX2_readValue_1 flX2_45 lay_17 rfl ?_
  refine r_istore_n (lv' := [(2, .int (h.1 17 0)), (0, .ref (eA E 1)), (1, .ref (eA E 17))]) dX2_readValue_4 rfl (by decide) rfl ?_
  refine r_aload_n (q := 1) dX2_readValue_5 rfl rfl ?_
  refine r_cVI (c := 1) (As := []) dX2_readValue_6 mkX2_isOperand lkX2_99 lay_1 rfl rfl rfl (by decide) rfl (Nat.le_of_ble_eq_true rfl) z00 t ?_
  intro v1 h1 t
  refine r_if_ne (tgt := 18) dX2_readValue_9 (by decide) (fun q2 => ?_) (fun q2 => ?_)
  · have t := t.1 q2
    refine r_aload_n (q := 2) dX2_readValue_18 rfl rfl ?_
    refine r_getR (c := 17) (c2 := 22) dX2_readValue_19 flX2_103 lay_17 rfl ?_
    refine r_iload_n (q := 0) dX2_readValue_22 rfl rfl ?_
    refine r_aload_n (q := 1) dX2_readValue_23 rfl rfl ?_
    refine r_cVI (c := 1) (As := []) dX2_readValue_24 mkX2_operand lkX2_106 lay_1 rfl rfl rfl (by decide) rfl (Nat.le_of_ble_eq_true rfl) z00 t ?_
    intro v3 h3 t
    obtain ⟨c4, t⟩ := t
    refine r_iast (c := 22) dX2_readValue_27 lay_22 c4 ?_
    refine r_aload_n (q := 2) dX2_readValue_28 rfl rfl ?_
    refine r_getR (c := 17) (c2 := 24) dX2_readValue_29 flX2_110 lay_17 rfl ?_
    refine r_iload_n (q := 0) dX2_readValue_32 rfl rfl ?_
    refine r_aload_n (q := 1) dX2_readValue_33 rfl rfl ?_
    refine r_cVI (c := 1) (As := []) dX2_readValue_34 mkX2_operandReads lkX2_113 lay_1 rfl rfl rfl (by decide) rfl (Nat.le_of_ble_eq_true rfl) z00 t ?_
    intro v5 h5 t
    obtain ⟨c6, t⟩ := t
    refine r_iast (c := 24) dX2_readValue_37 lay_24 c6 ?_
    refine r_aload_n (q := 2) dX2_readValue_38 rfl rfl ?_
    refine r_getR (c := 17) (c2 := 23) dX2_readValue_39 flX2_116 lay_17 rfl ?_
    refine r_iload_n (q := 0) dX2_readValue_42 rfl rfl ?_
    refine r_iconst (v := (0 : Int32)) dX2_readValue_43 rfl ?_
    obtain ⟨c7, t⟩ := t
    refine r_iast (c := 23) dX2_readValue_44 lay_23 c7 ?_
    refine r_aload_n (q := 1) dX2_readValue_45 rfl rfl ?_
    refine r_cVV (c := 1) (As := []) dX2_readValue_46 mkX2_advance lkX2_53 lay_1 rfl rfl rfl (by decide) rfl (Nat.le_of_ble_eq_true rfl) z00 t ?_
    intro h8 t
    refine r_aload_n (q := 1) dX2_readValue_49 rfl rfl ?_
    refine r_getI (c := 1) dX2_readValue_50 flX2_22 lay_1 rfl ?_
    refine r_bipush (v := (32 : Int32)) dX2_readValue_53 rfl ?_
    refine r_icmp_le (tgt := 73) dX2_readValue_55 (by decide) (fun q9 => ?_) (fun q9 => ?_)
    · have t := t.1 q9
      refine r_iconst (v := (0 : Int32)) dX2_readValue_73 rfl ?_
      refine r_istore_n (lv' := [(3, .int (0 : Int32)), (2, .int (h.1 17 0)), (0, .ref (eA E 1)), (1, .ref (eA E 17))]) dX2_readValue_74 rfl (by decide) rfl ?_
      refine r_aload_n (q := 3) dX2_readValue_75 rfl rfl ?_
      refine r_getR (c := 17) (c2 := 21) dX2_readValue_76 flX2_127 lay_17 rfl ?_
      refine r_iload_n (q := 1) dX2_readValue_79 rfl rfl ?_
      refine r_iload_n (q := 0) dX2_readValue_80 rfl rfl ?_
      obtain ⟨c10, t⟩ := t
      refine r_iast (c := 21) dX2_readValue_81 lay_21 c10 ?_
      refine r_iload_n (q := 0) dX2_readValue_82 rfl rfl ?_
      refine r_if_ne (tgt := 88) dX2_readValue_83 (by decide) (fun q11 => ?_) (fun q11 => ?_)
      · have t := t.1 q11
        refine r_aload_n (q := 2) dX2_readValue_88 rfl rfl ?_
        refine r_cVV (c := 1) (As := []) dX2_readValue_89 mkX2_advance lkX2_53 lay_1 rfl rfl rfl (by decide) rfl (Nat.le_of_ble_eq_true rfl) z00 t ?_
        intro h12 t
        refine r_aload_n (q := 2) dX2_readValue_92 rfl rfl ?_
        refine r_cVI (c := 1) (As := []) dX2_readValue_93 mkX2_isOperand lkX2_99 lay_1 rfl rfl rfl (by decide) rfl (Nat.le_of_ble_eq_true rfl) z00 t ?_
        intro v13 h13 t
        refine r_if_ne (tgt := 105) dX2_readValue_96 (by decide) (fun q14 => ?_) (fun q14 => ?_)
        · have t := t.1 q14
          refine r_aload_n (q := 3) dX2_readValue_105 rfl rfl ?_
          refine r_getR (c := 17) (c2 := 23) dX2_readValue_106 flX2_116 lay_17 rfl ?_
          refine r_iload_n (q := 1) dX2_readValue_109 rfl rfl ?_
          refine r_aload_n (q := 2) dX2_readValue_110 rfl rfl ?_
          refine r_cVI (c := 1) (As := []) dX2_readValue_111 mkX2_operand lkX2_106 lay_1 rfl rfl rfl (by decide) rfl (Nat.le_of_ble_eq_true rfl) z00 t ?_
          intro v15 h15 t
          obtain ⟨c16, t⟩ := t
          refine r_iast (c := 23) dX2_readValue_114 lay_23 c16 ?_
          refine r_aload_n (q := 3) dX2_readValue_115 rfl rfl ?_
          refine r_getR (c := 17) (c2 := 24) dX2_readValue_116 flX2_110 lay_17 rfl ?_
          refine r_iload_n (q := 1) dX2_readValue_119 rfl rfl ?_
          refine r_dup2 dX2_readValue_120 rfl rfl ?_
          obtain ⟨c17, t⟩ := t
          refine r_ialdv (c := 24) (v := h15.1 24 ((h.1 17 0).toNatClampNeg)) dX2_readValue_121 lay_24 c17 rfl ?_
          refine r_aload_n (q := 2) dX2_readValue_122 rfl rfl ?_
          refine r_cVI (c := 1) (As := []) dX2_readValue_123 mkX2_operandReads lkX2_113 lay_1 rfl rfl rfl (by decide) rfl (Nat.le_of_ble_eq_true rfl) z00 t ?_
          intro v18 h18 t
          refine r_ior dX2_readValue_126 ?_
          obtain ⟨c19, t⟩ := t
          refine r_iast (c := 24) dX2_readValue_127 lay_24 c19 ?_
          refine r_aload_n (q := 2) dX2_readValue_128 rfl rfl ?_
          refine r_cVV (c := 1) (As := []) dX2_readValue_129 mkX2_advance lkX2_53 lay_1 rfl rfl rfl (by decide) rfl (Nat.le_of_ble_eq_true rfl) z00 t ?_
          intro h20 t
          refine r_iconst (v := (1 : Int32)) dX2_readValue_132 rfl ?_
          exact r_zret dX2_readValue_133 rfl (Or.inr rfl) t
        · have t := t.2 q14
          refine r_aload_n (q := 2) dX2_readValue_99 rfl rfl ?_
          refine r_iconst (v := (1 : Int32)) dX2_readValue_100 rfl ?_
          refine r_cVI (c := 1) (As := [.int (1 : Int32)]) dX2_readValue_101 mkX2_fail lkX2_63 lay_1 rfl rfl rfl (by decide) rfl (Nat.le_of_ble_eq_true rfl) z00 t ?_
          intro v21 h21 t
          exact r_zret dX2_readValue_104 rfl t.1 t.2
      · have t := t.2 q11
        refine r_iconst (v := (1 : Int32)) dX2_readValue_86 rfl ?_
        exact r_zret dX2_readValue_87 rfl (Or.inr rfl) t
    · have t := t.2 q9
      refine r_ldcS (i := 1) (tx := "+-*&|^") dX2_readValue_58 (by decide) ?_
      refine r_aload_n (q := 1) dX2_readValue_60 rfl rfl ?_
      refine r_getI (c := 1) dX2_readValue_61 flX2_22 lay_1 rfl ?_
      refine r_i2c dX2_readValue_64 ?_
      refine r_kVI (i := 1) (As := [.int (((h8.1 1 3).toUInt32 % 65536).toInt32)]) dX2_readValue_65 mkJ0_indexOf_0f7a4 lkX2_121 (by decide) rfl (by decide) rfl (Nat.le_of_ble_eq_true rfl) z00 rfl t ?_
      intro v22 h22 t
      refine r_iconst (v := (1 : Int32)) dX2_readValue_68 rfl ?_
      refine r_iadd dX2_readValue_69 ?_
      refine r_goto (tgt := 74) dX2_readValue_70 (by decide) ?_
      refine r_istore_n (lv' := [(3, .int (v22 + (1 : Int32))), (2, .int (h.1 17 0)), (0, .ref (eA E 1)), (1, .ref (eA E 17))]) dX2_readValue_74 rfl (by decide) rfl ?_
      refine r_aload_n (q := 3) dX2_readValue_75 rfl rfl ?_
      refine r_getR (c := 17) (c2 := 21) dX2_readValue_76 flX2_127 lay_17 rfl ?_
      refine r_iload_n (q := 1) dX2_readValue_79 rfl rfl ?_
      refine r_iload_n (q := 0) dX2_readValue_80 rfl rfl ?_
      obtain ⟨c23, t⟩ := t
      refine r_iast (c := 21) dX2_readValue_81 lay_21 c23 ?_
      refine r_iload_n (q := 0) dX2_readValue_82 rfl rfl ?_
      refine r_if_ne (tgt := 88) dX2_readValue_83 (by decide) (fun q24 => ?_) (fun q24 => ?_)
      · have t := t.1 q24
        refine r_aload_n (q := 2) dX2_readValue_88 rfl rfl ?_
        refine r_cVV (c := 1) (As := []) dX2_readValue_89 mkX2_advance lkX2_53 lay_1 rfl rfl rfl (by decide) rfl (Nat.le_of_ble_eq_true rfl) z00 t ?_
        intro h25 t
        refine r_aload_n (q := 2) dX2_readValue_92 rfl rfl ?_
        refine r_cVI (c := 1) (As := []) dX2_readValue_93 mkX2_isOperand lkX2_99 lay_1 rfl rfl rfl (by decide) rfl (Nat.le_of_ble_eq_true rfl) z00 t ?_
        intro v26 h26 t
        refine r_if_ne (tgt := 105) dX2_readValue_96 (by decide) (fun q27 => ?_) (fun q27 => ?_)
        · have t := t.1 q27
          refine r_aload_n (q := 3) dX2_readValue_105 rfl rfl ?_
          refine r_getR (c := 17) (c2 := 23) dX2_readValue_106 flX2_116 lay_17 rfl ?_
          refine r_iload_n (q := 1) dX2_readValue_109 rfl rfl ?_
          refine r_aload_n (q := 2) dX2_readValue_110 rfl rfl ?_
          refine r_cVI (c := 1) (As := []) dX2_readValue_111 mkX2_operand lkX2_106 lay_1 rfl rfl rfl (by decide) rfl (Nat.le_of_ble_eq_true rfl) z00 t ?_
          intro v28 h28 t
          obtain ⟨c29, t⟩ := t
          refine r_iast (c := 23) dX2_readValue_114 lay_23 c29 ?_
          refine r_aload_n (q := 3) dX2_readValue_115 rfl rfl ?_
          refine r_getR (c := 17) (c2 := 24) dX2_readValue_116 flX2_110 lay_17 rfl ?_
          refine r_iload_n (q := 1) dX2_readValue_119 rfl rfl ?_
          refine r_dup2 dX2_readValue_120 rfl rfl ?_
          obtain ⟨c30, t⟩ := t
          refine r_ialdv (c := 24) (v := h28.1 24 ((h.1 17 0).toNatClampNeg)) dX2_readValue_121 lay_24 c30 rfl ?_
          refine r_aload_n (q := 2) dX2_readValue_122 rfl rfl ?_
          refine r_cVI (c := 1) (As := []) dX2_readValue_123 mkX2_operandReads lkX2_113 lay_1 rfl rfl rfl (by decide) rfl (Nat.le_of_ble_eq_true rfl) z00 t ?_
          intro v31 h31 t
          refine r_ior dX2_readValue_126 ?_
          obtain ⟨c32, t⟩ := t
          refine r_iast (c := 24) dX2_readValue_127 lay_24 c32 ?_
          refine r_aload_n (q := 2) dX2_readValue_128 rfl rfl ?_
          refine r_cVV (c := 1) (As := []) dX2_readValue_129 mkX2_advance lkX2_53 lay_1 rfl rfl rfl (by decide) rfl (Nat.le_of_ble_eq_true rfl) z00 t ?_
          intro h33 t
          refine r_iconst (v := (1 : Int32)) dX2_readValue_132 rfl ?_
          exact r_zret dX2_readValue_133 rfl (Or.inr rfl) t
        · have t := t.2 q27
          refine r_aload_n (q := 2) dX2_readValue_99 rfl rfl ?_
          refine r_iconst (v := (1 : Int32)) dX2_readValue_100 rfl ?_
          refine r_cVI (c := 1) (As := [.int (1 : Int32)]) dX2_readValue_101 mkX2_fail lkX2_63 lay_1 rfl rfl rfl (by decide) rfl (Nat.le_of_ble_eq_true rfl) z00 t ?_
          intro v34 h34 t
          exact r_zret dX2_readValue_104 rfl t.1 t.2
      · have t := t.2 q24
        refine r_iconst (v := (1 : Int32)) dX2_readValue_86 rfl ?_
        exact r_zret dX2_readValue_87 rfl (Or.inr rfl) t
  · have t := t.2 q2
    refine r_aload_n (q := 1) dX2_readValue_12 rfl rfl ?_
    refine r_iconst (v := (1 : Int32)) dX2_readValue_13 rfl ?_
    refine r_cVI (c := 1) (As := [.int (1 : Int32)]) dX2_readValue_14 mkX2_fail lkX2_63 lay_1 rfl rfl rfl (by decide) rfl (Nat.le_of_ble_eq_true rfl) z00 t ?_
    intro v35 h35 t
    exact r_zret dX2_readValue_17 rfl t.1 t.2
theorem dX2_readOperation_0 : decode cX2_readOperation 0 = .ok (.aload_n 1, 1) := by decide +kernel
theorem dX2_readOperation_1 : decode cX2_readOperation 1 = .ok (.getfield 45, 3) := by decide +kernel
theorem dX2_readOperation_4 : decode cX2_readOperation 4 = .ok (.istore_n 2, 1) := by decide +kernel
theorem dX2_readOperation_5 : decode cX2_readOperation 5 = .ok (.iload_n 2, 1) := by decide +kernel
theorem dX2_readOperation_6 : decode cX2_readOperation 6 = .ok (.bipush 12, 2) := by decide +kernel
theorem dX2_readOperation_8 : decode cX2_readOperation 8 = .ok (.if_icmp .lt 9, 3) := by decide +kernel
theorem dX2_readOperation_11 : decode cX2_readOperation 11 = .ok (.aload_n 0, 1) := by decide +kernel
theorem dX2_readOperation_12 : decode cX2_readOperation 12 = .ok (.iconst 5, 1) := by decide +kernel
theorem dX2_readOperation_13 : decode cX2_readOperation 13 = .ok (.invokevirtual 63, 3) := by decide +kernel
theorem dX2_readOperation_16 : decode cX2_readOperation 16 = .ok (.ireturn, 1) := by decide +kernel
theorem dX2_readOperation_17 : decode cX2_readOperation 17 = .ok (.aload_n 0, 1) := by decide +kernel
theorem dX2_readOperation_18 : decode cX2_readOperation 18 = .ok (.invokevirtual 53, 3) := by decide +kernel
theorem dX2_readOperation_21 : decode cX2_readOperation 21 = .ok (.aload_n 0, 1) := by decide +kernel
theorem dX2_readOperation_22 : decode cX2_readOperation 22 = .ok (.aload_n 1, 1) := by decide +kernel
theorem dX2_readOperation_23 : decode cX2_readOperation 23 = .ok (.invokevirtual 66, 3) := by decide +kernel
theorem dX2_readOperation_26 : decode cX2_readOperation 26 = .ok (.ifCond .ne 5, 3) := by decide +kernel
theorem dX2_readOperation_29 : decode cX2_readOperation 29 = .ok (.iconst 0, 1) := by decide +kernel
theorem dX2_readOperation_30 : decode cX2_readOperation 30 = .ok (.ireturn, 1) := by decide +kernel
theorem dX2_readOperation_31 : decode cX2_readOperation 31 = .ok (.aload_n 1, 1) := by decide +kernel
theorem dX2_readOperation_32 : decode cX2_readOperation 32 = .ok (.getfield 69, 3) := by decide +kernel
theorem dX2_readOperation_35 : decode cX2_readOperation 35 = .ok (.iload_n 2, 1) := by decide +kernel
theorem dX2_readOperation_36 : decode cX2_readOperation 36 = .ok (.aload_n 0, 1) := by decide +kernel
theorem dX2_readOperation_37 : decode cX2_readOperation 37 = .ok (.getfield 28, 3) := by decide +kernel
theorem dX2_readOperation_40 : decode cX2_readOperation 40 = .ok (.lastore, 1) := by decide +kernel
theorem dX2_readOperation_41 : decode cX2_readOperation 41 = .ok (.aload_n 0, 1) := by decide +kernel
theorem dX2_readOperation_42 : decode cX2_readOperation 42 = .ok (.invokevirtual 53, 3) := by decide +kernel
theorem dX2_readOperation_45 : decode cX2_readOperation 45 = .ok (.aload_n 0, 1) := by decide +kernel
theorem dX2_readOperation_46 : decode cX2_readOperation 46 = .ok (.bipush 6, 2) := by decide +kernel
theorem dX2_readOperation_48 : decode cX2_readOperation 48 = .ok (.invokevirtual 73, 3) := by decide +kernel
theorem dX2_readOperation_51 : decode cX2_readOperation 51 = .ok (.ifCond .eq 45, 3) := by decide +kernel
theorem dX2_readOperation_54 : decode cX2_readOperation 54 = .ok (.aload_n 0, 1) := by decide +kernel
theorem dX2_readOperation_55 : decode cX2_readOperation 55 = .ok (.aload_n 1, 1) := by decide +kernel
theorem dX2_readOperation_56 : decode cX2_readOperation 56 = .ok (.invokevirtual 76, 3) := by decide +kernel
theorem dX2_readOperation_59 : decode cX2_readOperation 59 = .ok (.ifCond .eq 37, 3) := by decide +kernel
theorem dX2_readOperation_62 : decode cX2_readOperation 62 = .ok (.aload_n 0, 1) := by decide +kernel
theorem dX2_readOperation_63 : decode cX2_readOperation 63 = .ok (.aload_n 1, 1) := by decide +kernel
theorem dX2_readOperation_64 : decode cX2_readOperation 64 = .ok (.invokevirtual 79, 3) := by decide +kernel
theorem dX2_readOperation_67 : decode cX2_readOperation 67 = .ok (.ifCond .eq 29, 3) := by decide +kernel
theorem dX2_readOperation_70 : decode cX2_readOperation 70 = .ok (.aload_n 0, 1) := by decide +kernel
theorem dX2_readOperation_71 : decode cX2_readOperation 71 = .ok (.bipush 61, 2) := by decide +kernel
theorem dX2_readOperation_73 : decode cX2_readOperation 73 = .ok (.invokevirtual 73, 3) := by decide +kernel
theorem dX2_readOperation_76 : decode cX2_readOperation 76 = .ok (.ifCond .eq 20, 3) := by decide +kernel
theorem dX2_readOperation_79 : decode cX2_readOperation 79 = .ok (.aload_n 0, 1) := by decide +kernel
theorem dX2_readOperation_80 : decode cX2_readOperation 80 = .ok (.aload_n 1, 1) := by decide +kernel
theorem dX2_readOperation_81 : decode cX2_readOperation 81 = .ok (.invokevirtual 82, 3) := by decide +kernel
theorem dX2_readOperation_84 : decode cX2_readOperation 84 = .ok (.ifCond .eq 12, 3) := by decide +kernel
theorem dX2_readOperation_87 : decode cX2_readOperation 87 = .ok (.aload_n 0, 1) := by decide +kernel
theorem dX2_readOperation_88 : decode cX2_readOperation 88 = .ok (.bipush 59, 2) := by decide +kernel
theorem dX2_readOperation_90 : decode cX2_readOperation 90 = .ok (.invokevirtual 73, 3) := by decide +kernel
theorem dX2_readOperation_93 : decode cX2_readOperation 93 = .ok (.ifCond .ne 5, 3) := by decide +kernel
theorem dX2_readOperation_96 : decode cX2_readOperation 96 = .ok (.iconst 0, 1) := by decide +kernel
theorem dX2_readOperation_97 : decode cX2_readOperation 97 = .ok (.ireturn, 1) := by decide +kernel
theorem dX2_readOperation_98 : decode cX2_readOperation 98 = .ok (.aload_n 1, 1) := by decide +kernel
theorem dX2_readOperation_99 : decode cX2_readOperation 99 = .ok (.iload_n 2, 1) := by decide +kernel
theorem dX2_readOperation_100 : decode cX2_readOperation 100 = .ok (.iconst 1, 1) := by decide +kernel
theorem dX2_readOperation_101 : decode cX2_readOperation 101 = .ok (.iadd, 1) := by decide +kernel
theorem dX2_readOperation_102 : decode cX2_readOperation 102 = .ok (.putfield 45, 3) := by decide +kernel
theorem dX2_readOperation_105 : decode cX2_readOperation 105 = .ok (.iconst 1, 1) := by decide +kernel
theorem dX2_readOperation_106 : decode cX2_readOperation 106 = .ok (.ireturn, 1) := by decide +kernel
set_option maxRecDepth 20000 in
theorem wp_X2_readOperation (E : En) (d : Nat) (h : Hp) (P : Int32 → Hp → Prop) (t : ((h.1 17 0) < (12 : Int32) → (SpV E d MX2_advance [.ref (eA E 1)] h (fun h2 => SpI E d MX2_isNewName [.ref (eA E 1), .ref (eA E 17)] h2 (fun v3 h3 => (¬ v3 = 0 → (vp_in (h.1 17 0) 12 ∧ (SpV E d MX2_advance [.ref (eA E 1)] (sL h3 18 ((h.1 17 0).toNatClampNeg) (h3.2 1 5)) (fun h6 => SpI E d MX2_take [.ref (eA E 1), .int (6 : Int32)] h6 (fun v7 h7 => (v7 = 0 → (P (0 : Int32) h7)) ∧ (¬ v7 = 0 → (SpI E d MX2_readUnit [.ref (eA E 1), .ref (eA E 17)] h7 (fun v9 h9 => (v9 = 0 → (P (0 : Int32) h9)) ∧ (¬ v9 = 0 → (SpI E d MX2_readTarget [.ref (eA E 1), .ref (eA E 17)] h9 (fun v11 h11 => (v11 = 0 → (P (0 : Int32) h11)) ∧ (¬ v11 = 0 → (SpI E d MX2_take [.ref (eA E 1), .int (61 : Int32)] h11 (fun v13 h13 => (v13 = 0 → (P (0 : Int32) h13)) ∧ (¬ v13 = 0 → (SpI E d MX2_readValue [.ref (eA E 1), .ref (eA E 17)] h13 (fun v15 h15 => (v15 = 0 → (P (0 : Int32) h15)) ∧ (¬ v15 = 0 → (SpI E d MX2_take [.ref (eA E 1), .int (59 : Int32)] h15 (fun v17 h17 => (¬ v17 = 0 → (P (1 : Int32) (sI h17 17 0 ((h.1 17 0) + (1 : Int32))))) ∧ (v17 = 0 → (P (0 : Int32) h17)))))))))))))))))))))) ∧ (v3 = 0 → (P (0 : Int32) h3)))))) ∧ (¬ (h.1 17 0) < (12 : Int32) → (SpI E d MX2_fail [.ref (eA E 1), .int (5 : Int32)] h (fun v19 h19 => (v19 = 0 ∨ v19 = 1) ∧ P v19 h19)))) : SpI E (d + 1) MX2_readOperation [.ref (eA E 1), .ref (eA E 17)] h P := by
  refine SpI.of (lv0 := [(0, .ref (eA E 1)), (1, .ref (eA E 17))]) (by decide) (Nat.le_of_ble_eq_true rfl) rfl (fun g => ?_)
  refine r_aload_n (q := 1) dX2_readOperation_0 rfl rfl ?_
  refine r_getI (c := 17) dX2_readOperation_1 flX2_45 lay_17 rfl ?_
  refine r_istore_n (lv' := [(2, .int (h.1 17 0)), (0, .ref (eA E 1)), (1, .ref (eA E 17))]) dX2_readOperation_4 rfl (by decide) rfl ?_
  refine r_iload_n (q := 0) dX2_readOperation_5 rfl rfl ?_
  refine r_bipush (v := (12 : Int32)) dX2_readOperation_6 rfl ?_
  refine r_icmp_lt (tgt := 17) dX2_readOperation_8 (by decide) (fun q1 => ?_) (fun q1 => ?_)
  · have t := t.1 q1
    refine r_aload_n (q := 1) dX2_readOperation_17 rfl rfl ?_
    refine r_cVV (c := 1) (As := []) dX2_readOperation_18 mkX2_advance lkX2_53 lay_1 rfl rfl rfl (by decide) rfl (Nat.le_of_ble_eq_true rfl) z00 t ?_
    intro h2 t
    refine r_aload_n (q := 1) dX2_readOperation_21 rfl rfl ?_
    refine r_aload_n (q := 2) dX2_readOperation_22 rfl rfl ?_
    refine r_cVI (c := 1) (As := [.ref (eA E 17)]) dX2_readOperation_23 mkX2_isNewName lkX2_66 lay_1 rfl rfl rfl (by decide) rfl (Nat.le_of_ble_eq_true rfl) z00 t ?_
    intro v3 h3 t
    refine r_if_ne (tgt := 31) dX2_readOperation_26 (by decide) (fun q4 => ?_) (fun q4 => ?_)
    · have t := t.1 q4
      refine r_aload_n (q := 2) dX2_readOperation_31 rfl rfl ?_
      refine r_getR (c := 17) (c2 := 18) dX2_readOperation_32 flX2_69 lay_17 rfl ?_
      refine r_iload_n (q := 0) dX2_readOperation_35 rfl rfl ?_
      refine r_aload_n (q := 1) dX2_readOperation_36 rfl rfl ?_
      refine r_getL (c := 1) dX2_readOperation_37 flX2_28 lay_1 rfl ?_
      obtain ⟨c5, t⟩ := t
      refine r_last (c := 18) dX2_readOperation_40 lay_18 c5 ?_
      refine r_aload_n (q := 1) dX2_readOperation_41 rfl rfl ?_
      refine r_cVV (c := 1) (As := []) dX2_readOperation_42 mkX2_advance lkX2_53 lay_1 rfl rfl rfl (by decide) rfl (Nat.le_of_ble_eq_true rfl) z00 t ?_
      intro h6 t
      refine r_aload_n (q := 1) dX2_readOperation_45 rfl rfl ?_
      refine r_bipush (v := (6 : Int32)) dX2_readOperation_46 rfl ?_
      refine r_cVI (c := 1) (As := [.int (6 : Int32)]) dX2_readOperation_48 mkX2_take lkX2_73 lay_1 rfl rfl rfl (by decide) rfl (Nat.le_of_ble_eq_true rfl) z00 t ?_
      intro v7 h7 t
      refine r_if_eq (tgt := 96) dX2_readOperation_51 (by decide) (fun q8 => ?_) (fun q8 => ?_)
      · have t := t.1 q8
        refine r_iconst (v := (0 : Int32)) dX2_readOperation_96 rfl ?_
        exact r_zret dX2_readOperation_97 rfl (Or.inl rfl) t
      · have t := t.2 q8
        refine r_aload_n (q := 1) dX2_readOperation_54 rfl rfl ?_
        refine r_aload_n (q := 2) dX2_readOperation_55 rfl rfl ?_
        refine r_cVI (c := 1) (As := [.ref (eA E 17)]) dX2_readOperation_56 mkX2_readUnit lkX2_76 lay_1 rfl rfl rfl (by decide) rfl (Nat.le_of_ble_eq_true rfl) z00 t ?_
        intro v9 h9 t
        refine r_if_eq (tgt := 96) dX2_readOperation_59 (by decide) (fun q10 => ?_) (fun q10 => ?_)
        · have t := t.1 q10
          refine r_iconst (v := (0 : Int32)) dX2_readOperation_96 rfl ?_
          exact r_zret dX2_readOperation_97 rfl (Or.inl rfl) t
        · have t := t.2 q10
          refine r_aload_n (q := 1) dX2_readOperation_62 rfl rfl ?_
          refine r_aload_n (q := 2) dX2_readOperation_63 rfl rfl ?_
          refine r_cVI (c := 1) (As := [.ref (eA E 17)]) dX2_readOperation_64 mkX2_readTarget lkX2_79 lay_1 rfl rfl rfl (by decide) rfl (Nat.le_of_ble_eq_true rfl) z00 t ?_
          intro v11 h11 t
          refine r_if_eq (tgt := 96) dX2_readOperation_67 (by decide) (fun q12 => ?_) (fun q12 => ?_)
          · have t := t.1 q12
            refine r_iconst (v := (0 : Int32)) dX2_readOperation_96 rfl ?_
            exact r_zret dX2_readOperation_97 rfl (Or.inl rfl) t
          · have t := t.2 q12
            refine r_aload_n (q := 1) dX2_readOperation_70 rfl rfl ?_
            refine r_bipush (v := (61 : Int32)) dX2_readOperation_71 rfl ?_
            refine r_cVI (c := 1) (As := [.int (61 : Int32)]) dX2_readOperation_73 mkX2_take lkX2_73 lay_1 rfl rfl rfl (by decide) rfl (Nat.le_of_ble_eq_true rfl) z00 t ?_
            intro v13 h13 t
            refine r_if_eq (tgt := 96) dX2_readOperation_76 (by decide) (fun q14 => ?_) (fun q14 => ?_)
            · have t := t.1 q14
              refine r_iconst (v := (0 : Int32)) dX2_readOperation_96 rfl ?_
              exact r_zret dX2_readOperation_97 rfl (Or.inl rfl) t
            · have t := t.2 q14
              refine r_aload_n (q := 1) dX2_readOperation_79 rfl rfl ?_
              refine r_aload_n (q := 2) dX2_readOperation_80 rfl rfl ?_
              refine r_cVI (c := 1) (As := [.ref (eA E 17)]) dX2_readOperation_81 mkX2_readValue lkX2_82 lay_1 rfl rfl rfl (by decide) rfl (Nat.le_of_ble_eq_true rfl) z00 t ?_
              intro v15 h15 t
              refine r_if_eq (tgt := 96) dX2_readOperation_84 (by decide) (fun q16 => ?_) (fun q16 => ?_)
              · have t := t.1 q16
                refine r_iconst (v := (0 : Int32)) dX2_readOperation_96 rfl ?_
                exact r_zret dX2_readOperation_97 rfl (Or.inl rfl) t
              · have t := t.2 q16
                refine r_aload_n (q := 1) dX2_readOperation_87 rfl rfl ?_
                refine r_bipush (v := (59 : Int32)) dX2_readOperation_88 rfl ?_
                refine r_cVI (c := 1) (As := [.int (59 : Int32)]) dX2_readOperation_90 mkX2_take lkX2_73 lay_1 rfl rfl rfl (by decide) rfl (Nat.le_of_ble_eq_true rfl) z00 t ?_
                intro v17 h17 t
                refine r_if_ne (tgt := 98) dX2_readOperation_93 (by decide) (fun q18 => ?_) (fun q18 => ?_)
                · have t := t.1 q18
                  refine r_aload_n (q := 2) dX2_readOperation_98 rfl rfl ?_
                  refine r_iload_n (q := 0) dX2_readOperation_99 rfl rfl ?_
                  refine r_iconst (v := (1 : Int32)) dX2_readOperation_100 rfl ?_
                  refine r_iadd dX2_readOperation_101 ?_
                  refine r_putI (c := 17) dX2_readOperation_102 flX2_45 lay_17 rfl ?_
                  refine r_iconst (v := (1 : Int32)) dX2_readOperation_105 rfl ?_
                  exact r_zret dX2_readOperation_106 rfl (Or.inr rfl) t
                · have t := t.2 q18
                  refine r_iconst (v := (0 : Int32)) dX2_readOperation_96 rfl ?_
                  exact r_zret dX2_readOperation_97 rfl (Or.inl rfl) t
    · have t := t.2 q4
      refine r_iconst (v := (0 : Int32)) dX2_readOperation_29 rfl ?_
      exact r_zret dX2_readOperation_30 rfl (Or.inl rfl) t
  · have t := t.2 q1
    refine r_aload_n (q := 1) dX2_readOperation_11 rfl rfl ?_
    refine r_iconst (v := (5 : Int32)) dX2_readOperation_12 rfl ?_
    refine r_cVI (c := 1) (As := [.int (5 : Int32)]) dX2_readOperation_13 mkX2_fail lkX2_63 lay_1 rfl rfl rfl (by decide) rfl (Nat.le_of_ble_eq_true rfl) z00 t ?_
    intro v19 h19 t
    exact r_zret dX2_readOperation_16 rfl t.1 t.2
theorem dX2_readSequence_0 : decode cX2_readSequence 0 = .ok (.aload_n 1, 1) := by decide +kernel
theorem dX2_readSequence_1 : decode cX2_readSequence 1 = .ok (.getfield 50, 3) := by decide +kernel
theorem dX2_readSequence_4 : decode cX2_readSequence 4 = .ok (.bipush 24, 2) := by decide +kernel
theorem dX2_readSequence_6 : decode cX2_readSequence 6 = .ok (.imul, 1) := by decide +kernel
theorem dX2_readSequence_7 : decode cX2_readSequence 7 = .ok (.istore_n 2, 1) := by decide +kernel
theorem dX2_readSequence_8 : decode cX2_readSequence 8 = .ok (.iconst 0, 1) := by decide +kernel
theorem dX2_readSequence_9 : decode cX2_readSequence 9 = .ok (.istore_n 3, 1) := by decide +kernel
theorem dX2_readSequence_10 : decode cX2_readSequence 10 = .ok (.iconst 0, 1) := by decide +kernel
theorem dX2_readSequence_11 : decode cX2_readSequence 11 = .ok (.istore 4, 2) := by decide +kernel
theorem dX2_readSequence_13 : decode cX2_readSequence 13 = .ok (.iload 4, 2) := by decide +kernel
theorem dX2_readSequence_15 : decode cX2_readSequence 15 = .ok (.bipush 24, 2) := by decide +kernel
theorem dX2_readSequence_17 : decode cX2_readSequence 17 = .ok (.if_icmp .gt 156, 3) := by decide +kernel
theorem dX2_readSequence_20 : decode cX2_readSequence 20 = .ok (.aload_n 0, 1) := by decide +kernel
theorem dX2_readSequence_21 : decode cX2_readSequence 21 = .ok (.getfield 22, 3) := by decide +kernel
theorem dX2_readSequence_24 : decode cX2_readSequence 24 = .ok (.iconst 2, 1) := by decide +kernel
theorem dX2_readSequence_25 : decode cX2_readSequence 25 = .ok (.if_icmp .eq 9, 3) := by decide +kernel
theorem dX2_readSequence_28 : decode cX2_readSequence 28 = .ok (.aload_n 0, 1) := by decide +kernel
theorem dX2_readSequence_29 : decode cX2_readSequence 29 = .ok (.iconst 1, 1) := by decide +kernel
theorem dX2_readSequence_30 : decode cX2_readSequence 30 = .ok (.invokevirtual 63, 3) := by decide +kernel
theorem dX2_readSequence_33 : decode cX2_readSequence 33 = .ok (.ireturn, 1) := by decide +kernel
theorem dX2_readSequence_34 : decode cX2_readSequence 34 = .ok (.aload_n 1, 1) := by decide +kernel
theorem dX2_readSequence_35 : decode cX2_readSequence 35 = .ok (.aload_n 0, 1) := by decide +kernel
theorem dX2_readSequence_36 : decode cX2_readSequence 36 = .ok (.getfield 28, 3) := by decide +kernel
theorem dX2_readSequence_39 : decode cX2_readSequence 39 = .ok (.invokevirtual 85, 3) := by decide +kernel
theorem dX2_readSequence_42 : decode cX2_readSequence 42 = .ok (.istore 5, 2) := by decide +kernel
theorem dX2_readSequence_44 : decode cX2_readSequence 44 = .ok (.iload 5, 2) := by decide +kernel
theorem dX2_readSequence_46 : decode cX2_readSequence 46 = .ok (.iconst (-1), 1) := by decide +kernel
theorem dX2_readSequence_47 : decode cX2_readSequence 47 = .ok (.if_icmp .ne 9, 3) := by decide +kernel
theorem dX2_readSequence_50 : decode cX2_readSequence 50 = .ok (.aload_n 0, 1) := by decide +kernel
theorem dX2_readSequence_51 : decode cX2_readSequence 51 = .ok (.iconst 4, 1) := by decide +kernel
theorem dX2_readSequence_52 : decode cX2_readSequence 52 = .ok (.invokevirtual 63, 3) := by decide +kernel
theorem dX2_readSequence_55 : decode cX2_readSequence 55 = .ok (.ireturn, 1) := by decide +kernel
theorem dX2_readSequence_56 : decode cX2_readSequence 56 = .ok (.iload 4, 2) := by decide +kernel
theorem dX2_readSequence_58 : decode cX2_readSequence 58 = .ok (.bipush 24, 2) := by decide +kernel
theorem dX2_readSequence_60 : decode cX2_readSequence 60 = .ok (.if_icmp .eq 9, 3) := by decide +kernel
theorem dX2_readSequence_63 : decode cX2_readSequence 63 = .ok (.iload_n 3, 1) := by decide +kernel
theorem dX2_readSequence_64 : decode cX2_readSequence 64 = .ok (.bipush 10, 2) := by decide +kernel
theorem dX2_readSequence_66 : decode cX2_readSequence 66 = .ok (.if_icmp .ne 9, 3) := by decide +kernel
theorem dX2_readSequence_69 : decode cX2_readSequence 69 = .ok (.aload_n 0, 1) := by decide +kernel
theorem dX2_readSequence_70 : decode cX2_readSequence 70 = .ok (.iconst 5, 1) := by decide +kernel
theorem dX2_readSequence_71 : decode cX2_readSequence 71 = .ok (.invokevirtual 63, 3) := by decide +kernel
theorem dX2_readSequence_74 : decode cX2_readSequence 74 = .ok (.ireturn, 1) := by decide +kernel
theorem dX2_readSequence_75 : decode cX2_readSequence 75 = .ok (.aload_n 0, 1) := by decide +kernel
theorem dX2_readSequence_76 : decode cX2_readSequence 76 = .ok (.invokevirtual 53, 3) := by decide +kernel
theorem dX2_readSequence_79 : decode cX2_readSequence 79 = .ok (.aload_n 1, 1) := by decide +kernel
theorem dX2_readSequence_80 : decode cX2_readSequence 80 = .ok (.getfield 136, 3) := by decide +kernel
theorem dX2_readSequence_83 : decode cX2_readSequence 83 = .ok (.iload_n 2, 1) := by decide +kernel
theorem dX2_readSequence_84 : decode cX2_readSequence 84 = .ok (.iload 4, 2) := by decide +kernel
theorem dX2_readSequence_86 : decode cX2_readSequence 86 = .ok (.iadd, 1) := by decide +kernel
theorem dX2_readSequence_87 : decode cX2_readSequence 87 = .ok (.iload 5, 2) := by decide +kernel
theorem dX2_readSequence_89 : decode cX2_readSequence 89 = .ok (.iastore, 1) := by decide +kernel
theorem dX2_readSequence_90 : decode cX2_readSequence 90 = .ok (.aload_n 1, 1) := by decide +kernel
theorem dX2_readSequence_91 : decode cX2_readSequence 91 = .ok (.getfield 139, 3) := by decide +kernel
theorem dX2_readSequence_94 : decode cX2_readSequence 94 = .ok (.iload_n 2, 1) := by decide +kernel
theorem dX2_readSequence_95 : decode cX2_readSequence 95 = .ok (.iload 4, 2) := by decide +kernel
theorem dX2_readSequence_97 : decode cX2_readSequence 97 = .ok (.iadd, 1) := by decide +kernel
theorem dX2_readSequence_98 : decode cX2_readSequence 98 = .ok (.aload_n 0, 1) := by decide +kernel
theorem dX2_readSequence_99 : decode cX2_readSequence 99 = .ok (.getfield 22, 3) := by decide +kernel
theorem dX2_readSequence_102 : decode cX2_readSequence 102 = .ok (.bipush 33, 2) := by decide +kernel
theorem dX2_readSequence_104 : decode cX2_readSequence 104 = .ok (.if_icmp .ne 7, 3) := by decide +kernel
theorem dX2_readSequence_107 : decode cX2_readSequence 107 = .ok (.iconst 1, 1) := by decide +kernel
theorem dX2_readSequence_108 : decode cX2_readSequence 108 = .ok (.goto 4, 3) := by decide +kernel
theorem dX2_readSequence_111 : decode cX2_readSequence 111 = .ok (.iconst 0, 1) := by decide +kernel
theorem dX2_readSequence_112 : decode cX2_readSequence 112 = .ok (.bastore, 1) := by decide +kernel
theorem dX2_readSequence_113 : decode cX2_readSequence 113 = .ok (.aload_n 1, 1) := by decide +kernel
theorem dX2_readSequence_114 : decode cX2_readSequence 114 = .ok (.getfield 143, 3) := by decide +kernel
theorem dX2_readSequence_117 : decode cX2_readSequence 117 = .ok (.aload_n 1, 1) := by decide +kernel
theorem dX2_readSequence_118 : decode cX2_readSequence 118 = .ok (.getfield 50, 3) := by decide +kernel
theorem dX2_readSequence_121 : decode cX2_readSequence 121 = .ok (.iload 4, 2) := by decide +kernel
theorem dX2_readSequence_123 : decode cX2_readSequence 123 = .ok (.iconst 1, 1) := by decide +kernel
theorem dX2_readSequence_124 : decode cX2_readSequence 124 = .ok (.iadd, 1) := by decide +kernel
theorem dX2_readSequence_125 : decode cX2_readSequence 125 = .ok (.iastore, 1) := by decide +kernel
theorem dX2_readSequence_126 : decode cX2_readSequence 126 = .ok (.aload_n 0, 1) := by decide +kernel
theorem dX2_readSequence_127 : decode cX2_readSequence 127 = .ok (.getfield 22, 3) := by decide +kernel
theorem dX2_readSequence_130 : decode cX2_readSequence 130 = .ok (.bipush 33, 2) := by decide +kernel
theorem dX2_readSequence_132 : decode cX2_readSequence 132 = .ok (.if_icmp .ne 7, 3) := by decide +kernel
theorem dX2_readSequence_135 : decode cX2_readSequence 135 = .ok (.iconst 0, 1) := by decide +kernel
theorem dX2_readSequence_136 : decode cX2_readSequence 136 = .ok (.goto 6, 3) := by decide +kernel
theorem dX2_readSequence_139 : decode cX2_readSequence 139 = .ok (.iload_n 3, 1) := by decide +kernel
theorem dX2_readSequence_140 : decode cX2_readSequence 140 = .ok (.iconst 1, 1) := by decide +kernel
theorem dX2_readSequence_141 : decode cX2_readSequence 141 = .ok (.iadd, 1) := by decide +kernel
theorem dX2_readSequence_142 : decode cX2_readSequence 142 = .ok (.istore_n 3, 1) := by decide +kernel
theorem dX2_readSequence_143 : decode cX2_readSequence 143 = .ok (.aload_n 0, 1) := by decide +kernel
theorem dX2_readSequence_144 : decode cX2_readSequence 144 = .ok (.getfield 22, 3) := by decide +kernel
theorem dX2_readSequence_147 : decode cX2_readSequence 147 = .ok (.bipush 33, 2) := by decide +kernel
theorem dX2_readSequence_149 : decode cX2_readSequence 149 = .ok (.if_icmp .eq 14, 3) := by decide +kernel
theorem dX2_readSequence_152 : decode cX2_readSequence 152 = .ok (.aload_n 0, 1) := by decide +kernel
theorem dX2_readSequence_153 : decode cX2_readSequence 153 = .ok (.getfield 22, 3) := by decide +kernel
theorem dX2_readSequence_156 : decode cX2_readSequence 156 = .ok (.bipush 44, 2) := by decide +kernel
theorem dX2_readSequence_158 : decode cX2_readSequence 158 = .ok (.if_icmp .eq 5, 3) := by decide +kernel
theorem dX2_readSequence_161 : decode cX2_readSequence 161 = .ok (.iconst 1, 1) := by decide +kernel
theorem dX2_readSequence_162 : decode cX2_readSequence 162 = .ok (.ireturn, 1) := by decide +kernel
theorem dX2_readSequence_163 : decode cX2_readSequence 163 = .ok (.aload_n 0, 1) := by decide +kernel
theorem dX2_readSequence_164 : decode cX2_readSequence 164 = .ok (.invokevirtual 53, 3) := by decide +kernel
theorem dX2_readSequence_167 : decode cX2_readSequence 167 = .ok (.iinc 4 1, 3) := by decide +kernel
theorem dX2_readSequence_170 : decode cX2_readSequence 170 = .ok (.goto (-157), 3) := by decide +kernel
theorem dX2_readSequence_173 : decode cX2_readSequence 173 = .ok (.iconst 1, 1) := by decide +kernel
theorem dX2_readSequence_174 : decode cX2_readSequence 174 = .ok (.ireturn, 1) := by decide +kernel
abbrev VX2_readSequence_13 (E : En) (d : Nat) (g : Ga) (P : Int32 → Hp → Prop) (x2 : Int32) (x3 : Int32) (x4 : Int32) (h : Hp) : Prop := V E MX2_readSequence (RM (d + 1) 0) g (QQ E g (QI E P) 0 0) 0 0 h 13 [(0, .ref (eA E 1)), (1, .ref (eA E 17)), (2, .int x2), (3, .int x3), (4, .int x4)] []
set_option maxRecDepth 20000 in
theorem wp_X2_readSequence (E : En) (d : Nat) (h : Hp) (P : Int32 → Hp → Prop) (t : ∀ g : Ga, VX2_readSequence_13 E d g P ((h.1 17 8) * (24 : Int32)) (0 : Int32) (0 : Int32) h) : SpI E (d + 1) MX2_readSequence [.ref (eA E 1), .ref (eA E 17)] h P := by
  refine SpI.of (lv0 := [(0, .ref (eA E 1)), (1, .ref (eA E 17))]) (by decide) (Nat.le_of_ble_eq_true rfl) rfl (fun g => ?_)
  have t := t g
  refine r_aload_n (q := 1) dX2_readSequence_0 rfl rfl ?_
  refine r_getI (c := 17) dX2_readSequence_1 flX2_50 lay_17 rfl ?_
  refine r_bipush (v := (24 : Int32)) dX2_readSequence_4 rfl ?_
  refine r_imul dX2_readSequence_6 ?_
  refine r_istore_n (lv' := [(2, .int ((h.1 17 8) * (24 : Int32))), (0, .ref (eA E 1)), (1, .ref (eA E 17))]) dX2_readSequence_7 rfl (by decide) rfl ?_
  refine r_iconst (v := (0 : Int32)) dX2_readSequence_8 rfl ?_
  refine r_istore_n (lv' := [(3, .int (0 : Int32)), (2, .int ((h.1 17 8) * (24 : Int32))), (0, .ref (eA E 1)), (1, .ref (eA E 17))]) dX2_readSequence_9 rfl (by decide) rfl ?_
  refine r_iconst (v := (0 : Int32)) dX2_readSequence_10 rfl ?_
  refine r_istore (lv' := [(4, .int (0 : Int32)), (3, .int (0 : Int32)), (2, .int ((h.1 17 8) * (24 : Int32))), (0, .ref (eA E 1)), (1, .ref (eA E 17))]) dX2_readSequence_11 (by decide) rfl ?_
  refine r_sub [3, 4, 2, 1, 0] rfl ?_
  exact t
set_option maxRecDepth 20000 in
theorem sg_X2_readSequence_13 (E : En) (d : Nat) (g : Ga) (x2 : Int32) (x3 : Int32) (x4 : Int32) (h : Hp) (P : Int32 → Hp → Prop) (t : ((24 : Int32) < x4 → (P (1 : Int32) h)) ∧ (¬ (24 : Int32) < x4 → (((h.1 1 3) = (2 : Int32) → (SpI E d MX6_operationNamed [.ref (eA E 17), .long (h.2 1 5)] h (fun v3 h3 => (¬ v3 = (-1 : Int32) → ((x4 = (24 : Int32) → (SpI E d MX2_fail [.ref (eA E 1), .int (5 : Int32)] h3 (fun v6 h6 => (v6 = 0 ∨ v6 = 1) ∧ P v6 h6))) ∧ (¬ x4 = (24 : Int32) → ((¬ x3 = (10 : Int32) → (SpV E d MX2_advance [.ref (eA E 1)] h3 (fun h8 => vp_in (x2 + x4) 192 ∧ ((¬ (h8.1 1 3) = (33 : Int32) → (vp_in (x2 + x4) 192 ∧ (vp_in (h8.1 17 8) 8 ∧ ((¬ (h8.1 1 3) = (33 : Int32) → (((h8.1 1 3) = (33 : Int32) → (SpV E d MX2_advance [.ref (eA E 1)] (sI (sI (sI h8 27 ((x2 + x4).toNatClampNeg) v3) 28 ((x2 + x4).toNatClampNeg) (vp_nar .boolean (0 : Int32))) 26 ((h8.1 17 8).toNatClampNeg) (x4 + (1 : Int32))) (fun h15 => VX2_readSequence_13 E d g P x2 (x3 + (1 : Int32)) (x4 + (1 : Int32)) h15))) ∧ (¬ (h8.1 1 3) = (33 : Int32) → (((h8.1 1 3) = (44 : Int32) → (SpV E d MX2_advance [.ref (eA E 1)] (sI (sI (sI h8 27 ((x2 + x4).toNatClampNeg) v3) 28 ((x2 + x4).toNatClampNeg) (vp_nar .boolean (0 : Int32))) 26 ((h8.1 17 8).toNatClampNeg) (x4 + (1 : Int32))) (fun h17 => VX2_readSequence_13 E d g P x2 (x3 + (1 : Int32)) (x4 + (1 : Int32)) h17))) ∧ (¬ (h8.1 1 3) = (44 : Int32) → (P (1 : Int32) (sI (sI (sI h8 27 ((x2 + x4).toNatClampNeg) v3) 28 ((x2 + x4).toNatClampNeg) (vp_nar .boolean (0 : Int32))) 26 ((h8.1 17 8).toNatClampNeg) (x4 + (1 : Int32))))))))) ∧ ((h8.1 1 3) = (33 : Int32) → (((h8.1 1 3) = (33 : Int32) → (SpV E d MX2_advance [.ref (eA E 1)] (sI (sI (sI h8 27 ((x2 + x4).toNatClampNeg) v3) 28 ((x2 + x4).toNatClampNeg) (vp_nar .boolean (0 : Int32))) 26 ((h8.1 17 8).toNatClampNeg) (x4 + (1 : Int32))) (fun h19 => VX2_readSequence_13 E d g P x2 (0 : Int32) (x4 + (1 : Int32)) h19))) ∧ (¬ (h8.1 1 3) = (33 : Int32) → (((h8.1 1 3) = (44 : Int32) → (SpV E d MX2_advance [.ref (eA E 1)] (sI (sI (sI h8 27 ((x2 + x4).toNatClampNeg) v3) 28 ((x2 + x4).toNatClampNeg) (vp_nar .boolean (0 : Int32))) 26 ((h8.1 17 8).toNatClampNeg) (x4 + (1 : Int32))) (fun h21 => VX2_readSequence_13 E d g P x2 (0 : Int32) (x4 + (1 : Int32)) h21))) ∧ (¬ (h8.1 1 3) = (44 : Int32) → (P (1 : Int32) (sI (sI (sI h8 27 ((x2 + x4).toNatClampNeg) v3) 28 ((x2 + x4).toNatClampNeg) (vp_nar .boolean (0 : Int32))) 26 ((h8.1 17 8).toNatClampNeg) (x4 + (1 : Int32))))))))))))) ∧ ((h8.1 1 3) = (33 : Int32) → (vp_in (x2 + x4) 192 ∧ (vp_in (h8.1 17 8) 8 ∧ ((¬ (h8.1 1 3) = (33 : Int32) → (((h8.1 1 3) = (33 : Int32) → (SpV E d MX2_advance [.ref (eA E 1)] (sI (sI (sI h8 27 ((x2 + x4).toNatClampNeg) v3) 28 ((x2 + x4).toNatClampNeg) (vp_nar .boolean (1 : Int32))) 26 ((h8.1 17 8).toNatClampNeg) (x4 + (1 : Int32))) (fun h26 => VX2_readSequence_13 E d g P x2 (x3 + (1 : Int32)) (x4 + (1 : Int32)) h26))) ∧ (¬ (h8.1 1 3) = (33 : Int32) → (((h8.1 1 3) = (44 : Int32) → (SpV E d MX2_advance [.ref (eA E 1)] (sI (sI (sI h8 27 ((x2 + x4).toNatClampNeg) v3) 28 ((x2 + x4).toNatClampNeg) (vp_nar .boolean (1 : Int32))) 26 ((h8.1 17 8).toNatClampNeg) (x4 + (1 : Int32))) (fun h28 => VX2_readSequence_13 E d g P x2 (x3 + (1 : Int32)) (x4 + (1 : Int32)) h28))) ∧ (¬ (h8.1 1 3) = (44 : Int32) → (P (1 : Int32) (sI (sI (sI h8 27 ((x2 + x4).toNatClampNeg) v3) 28 ((x2 + x4).toNatClampNeg) (vp_nar .boolean (1 : Int32))) 26 ((h8.1 17 8).toNatClampNeg) (x4 + (1 : Int32))))))))) ∧ ((h8.1 1 3) = (33 : Int32) → (((h8.1 1 3) = (33 : Int32) → (SpV E d MX2_advance [.ref (eA E 1)] (sI (sI (sI h8 27 ((x2 + x4).toNatClampNeg) v3) 28 ((x2 + x4).toNatClampNeg) (vp_nar .boolean (1 : Int32))) 26 ((h8.1 17 8).toNatClampNeg) (x4 + (1 : Int32))) (fun h30 => VX2_readSequence_13 E d g P x2 (0 : Int32) (x4 + (1 : Int32)) h30))) ∧ (¬ (h8.1 1 3) = (33 : Int32) → (((h8.1 1 3) = (44 : Int32) → (SpV E d MX2_advance [.ref (eA E 1)] (sI (sI (sI h8 27 ((x2 + x4).toNatClampNeg) v3) 28 ((x2 + x4).toNatClampNeg) (vp_nar .boolean (1 : Int32))) 26 ((h8.1 17 8).toNatClampNeg) (x4 + (1 : Int32))) (fun h32 => VX2_readSequence_13 E d g P x2 (0 : Int32) (x4 + (1 : Int32)) h32))) ∧ (¬ (h8.1 1 3) = (44 : Int32) → (P (1 : Int32) (sI (sI (sI h8 27 ((x2 + x4).toNatClampNeg) v3) 28 ((x2 + x4).toNatClampNeg) (vp_nar .boolean (1 : Int32))) 26 ((h8.1 17 8).toNatClampNeg) (x4 + (1 : Int32))))))))))))))))) ∧ (x3 = (10 : Int32) → (SpI E d MX2_fail [.ref (eA E 1), .int (5 : Int32)] h3 (fun v33 h33 => (v33 = 0 ∨ v33 = 1) ∧ P v33 h33))))))) ∧ (v3 = (-1 : Int32) → (SpI E d MX2_fail [.ref (eA E 1), .int (4 : Int32)] h3 (fun v34 h34 => (v34 = 0 ∨ v34 = 1) ∧ P v34 h34)))))) ∧ (¬ (h.1 1 3) = (2 : Int32) → (SpI E d MX2_fail [.ref (eA E 1), .int (1 : Int32)] h (fun v35 h35 => (v35 = 0 ∨ v35 = 1) ∧ P v35 h35)))))) : VX2_readSequence_13 E d g P x2 x3 x4 h := by
  refine r_iload (q := 4) dX2_readSequence_13 rfl ?_
  refine r_bipush (v := (24 : Int32)) dX2_readSequence_15 rfl ?_
  refine r_icmp_gt (tgt := 173) dX2_readSequence_17 (by decide) (fun q1 => ?_) (fun q1 => ?_)
  · have t := t.1 q1
    refine r_iconst (v := (1 : Int32)) dX2_readSequence_173 rfl ?_
    exact r_zret dX2_readSequence_174 rfl (Or.inr rfl) t
  · have t := t.2 q1
    refine r_aload_n (q := 0) dX2_readSequence_20 rfl rfl ?_
    refine r_getI (c := 1) dX2_readSequence_21 flX2_22 lay_1 rfl ?_
    refine r_iconst (v := (2 : Int32)) dX2_readSequence_24 rfl ?_
    refine r_icmp_eq (tgt := 34) dX2_readSequence_25 (by decide) (fun q2 => ?_) (fun q2 => ?_)
    · have t := t.1 q2
      refine r_aload_n (q := 1) dX2_readSequence_34 rfl rfl ?_
      refine r_aload_n (q := 0) dX2_readSequence_35 rfl rfl ?_
      refine r_getL (c := 1) dX2_readSequence_36 flX2_28 lay_1 rfl ?_
      refine r_cVI (c := 17) (As := [.long (h.2 1 5)]) dX2_readSequence_39 mkX6_operationNamed lkX2_85 lay_17 rfl rfl rfl (by decide) rfl (Nat.le_of_ble_eq_true rfl) z00 t ?_
      intro v3 h3 t
      refine r_istore (lv' := [(5, .int v3), (0, .ref (eA E 1)), (1, .ref (eA E 17)), (2, .int x2), (3, .int x3), (4, .int x4)]) dX2_readSequence_42 (by decide) rfl ?_
      refine r_iload (q := 0) dX2_readSequence_44 rfl ?_
      refine r_iconst (v := (-1 : Int32)) dX2_readSequence_46 rfl ?_
      refine r_icmp_ne (tgt := 56) dX2_readSequence_47 (by decide) (fun q4 => ?_) (fun q4 => ?_)
      · have t := t.1 q4
        refine r_iload (q := 5) dX2_readSequence_56 rfl ?_
        refine r_bipush (v := (24 : Int32)) dX2_readSequence_58 rfl ?_
        refine r_icmp_eq (tgt := 69) dX2_readSequence_60 (by decide) (fun q5 => ?_) (fun q5 => ?_)
        · have t := t.1 q5
          refine r_aload_n (q := 1) dX2_readSequence_69 rfl rfl ?_
          refine r_iconst (v := (5 : Int32)) dX2_readSequence_70 rfl ?_
          refine r_cVI (c := 1) (As := [.int (5 : Int32)]) dX2_readSequence_71 mkX2_fail lkX2_63 lay_1 rfl rfl rfl (by decide) rfl (Nat.le_of_ble_eq_true rfl) z00 t ?_
          intro v6 h6 t
          exact r_zret dX2_readSequence_74 rfl t.1 t.2
        · have t := t.2 q5
          refine r_iload_n (q := 4) dX2_readSequence_63 rfl rfl ?_
          refine r_bipush (v := (10 : Int32)) dX2_readSequence_64 rfl ?_
          refine r_icmp_ne (tgt := 75) dX2_readSequence_66 (by decide) (fun q7 => ?_) (fun q7 => ?_)
          · have t := t.1 q7
            refine r_aload_n (q := 1) dX2_readSequence_75 rfl rfl ?_
            refine r_cVV (c := 1) (As := []) dX2_readSequence_76 mkX2_advance lkX2_53 lay_1 rfl rfl rfl (by decide) rfl (Nat.le_of_ble_eq_true rfl) z00 t ?_
            intro h8 t
            refine r_aload_n (q := 2) dX2_readSequence_79 rfl rfl ?_
            refine r_getR (c := 17) (c2 := 27) dX2_readSequence_80 flX2_136 lay_17 rfl ?_
            refine r_iload_n (q := 3) dX2_readSequence_83 rfl rfl ?_
            refine r_iload (q := 5) dX2_readSequence_84 rfl ?_
            refine r_iadd dX2_readSequence_86 ?_
            refine r_iload (q := 0) dX2_readSequence_87 rfl ?_
            obtain ⟨c9, t⟩ := t
            refine r_iast (c := 27) dX2_readSequence_89 lay_27 c9 ?_
            refine r_aload_n (q := 2) dX2_readSequence_90 rfl rfl ?_
            refine r_getR (c := 17) (c2 := 28) dX2_readSequence_91 flX2_139 lay_17 rfl ?_
            refine r_iload_n (q := 3) dX2_readSequence_94 rfl rfl ?_
            refine r_iload (q := 5) dX2_readSequence_95 rfl ?_
            refine r_iadd dX2_readSequence_97 ?_
            refine r_aload_n (q := 1) dX2_readSequence_98 rfl rfl ?_
            refine r_getIv (c := 1) (v := h8.1 1 3) dX2_readSequence_99 flX2_22 lay_1 rfl rfl ?_
            refine r_bipush (v := (33 : Int32)) dX2_readSequence_102 rfl ?_
            refine r_icmp_ne (tgt := 111) dX2_readSequence_104 (by decide) (fun q10 => ?_) (fun q10 => ?_)
            · have t := t.1 q10
              refine r_iconst (v := (0 : Int32)) dX2_readSequence_111 rfl ?_
              obtain ⟨c11, t⟩ := t
              refine r_zast (c := 28) dX2_readSequence_112 lay_28 c11 ?_
              refine r_aload_n (q := 2) dX2_readSequence_113 rfl rfl ?_
              refine r_getR (c := 17) (c2 := 26) dX2_readSequence_114 flX2_143 lay_17 rfl ?_
              refine r_aload_n (q := 2) dX2_readSequence_117 rfl rfl ?_
              refine r_getIv (c := 17) (v := h8.1 17 8) dX2_readSequence_118 flX2_50 lay_17 rfl rfl ?_
              refine r_iload (q := 5) dX2_readSequence_121 rfl ?_
              refine r_iconst (v := (1 : Int32)) dX2_readSequence_123 rfl ?_
              refine r_iadd dX2_readSequence_124 ?_
              obtain ⟨c12, t⟩ := t
              refine r_iast (c := 26) dX2_readSequence_125 lay_26 c12 ?_
              refine r_aload_n (q := 1) dX2_readSequence_126 rfl rfl ?_
              refine r_getIv (c := 1) (v := h8.1 1 3) dX2_readSequence_127 flX2_22 lay_1 rfl rfl ?_
              refine r_bipush (v := (33 : Int32)) dX2_readSequence_130 rfl ?_
              refine r_icmp_ne (tgt := 139) dX2_readSequence_132 (by decide) (fun q13 => ?_) (fun q13 => ?_)
              · have t := t.1 q13
                refine r_iload_n (q := 4) dX2_readSequence_139 rfl rfl ?_
                refine r_iconst (v := (1 : Int32)) dX2_readSequence_140 rfl ?_
                refine r_iadd dX2_readSequence_141 ?_
                refine r_istore_n (lv' := [(3, .int (x3 + (1 : Int32))), (5, .int v3), (0, .ref (eA E 1)), (1, .ref (eA E 17)), (2, .int x2), (4, .int x4)]) dX2_readSequence_142 rfl (by decide) rfl ?_
                refine r_aload_n (q := 2) dX2_readSequence_143 rfl rfl ?_
                refine r_getIv (c := 1) (v := h8.1 1 3) dX2_readSequence_144 flX2_22 lay_1 rfl rfl ?_
                refine r_bipush (v := (33 : Int32)) dX2_readSequence_147 rfl ?_
                refine r_icmp_eq (tgt := 163) dX2_readSequence_149 (by decide) (fun q14 => ?_) (fun q14 => ?_)
                · have t := t.1 q14
                  refine r_aload_n (q := 2) dX2_readSequence_163 rfl rfl ?_
                  refine r_cVV (c := 1) (As := []) dX2_readSequence_164 mkX2_advance lkX2_53 lay_1 rfl rfl rfl (by decide) rfl (Nat.le_of_ble_eq_true rfl) z00 t ?_
                  intro h15 t
                  refine r_iinc (k := 5) (v := x4 + (1 : Int32)) (lv' := [(4, .int (x4 + (1 : Int32))), (3, .int (x3 + (1 : Int32))), (5, .int v3), (0, .ref (eA E 1)), (1, .ref (eA E 17)), (2, .int x2)]) dX2_readSequence_167 rfl rfl (by decide) rfl ?_
                  refine r_goto (tgt := 13) dX2_readSequence_170 (by decide) ?_
                  refine r_sub [3, 4, 5, 1, 0] rfl ?_
                  exact t
                · have t := t.2 q14
                  refine r_aload_n (q := 2) dX2_readSequence_152 rfl rfl ?_
                  refine r_getIv (c := 1) (v := h8.1 1 3) dX2_readSequence_153 flX2_22 lay_1 rfl rfl ?_
                  refine r_bipush (v := (44 : Int32)) dX2_readSequence_156 rfl ?_
                  refine r_icmp_eq (tgt := 163) dX2_readSequence_158 (by decide) (fun q16 => ?_) (fun q16 => ?_)
                  · have t := t.1 q16
                    refine r_aload_n (q := 2) dX2_readSequence_163 rfl rfl ?_
                    refine r_cVV (c := 1) (As := []) dX2_readSequence_164 mkX2_advance lkX2_53 lay_1 rfl rfl rfl (by decide) rfl (Nat.le_of_ble_eq_true rfl) z00 t ?_
                    intro h17 t
                    refine r_iinc (k := 5) (v := x4 + (1 : Int32)) (lv' := [(4, .int (x4 + (1 : Int32))), (3, .int (x3 + (1 : Int32))), (5, .int v3), (0, .ref (eA E 1)), (1, .ref (eA E 17)), (2, .int x2)]) dX2_readSequence_167 rfl rfl (by decide) rfl ?_
                    refine r_goto (tgt := 13) dX2_readSequence_170 (by decide) ?_
                    refine r_sub [3, 4, 5, 1, 0] rfl ?_
                    exact t
                  · have t := t.2 q16
                    refine r_iconst (v := (1 : Int32)) dX2_readSequence_161 rfl ?_
                    exact r_zret dX2_readSequence_162 rfl (Or.inr rfl) t
              · have t := t.2 q13
                refine r_iconst (v := (0 : Int32)) dX2_readSequence_135 rfl ?_
                refine r_goto (tgt := 142) dX2_readSequence_136 (by decide) ?_
                refine r_istore_n (lv' := [(3, .int (0 : Int32)), (5, .int v3), (0, .ref (eA E 1)), (1, .ref (eA E 17)), (2, .int x2), (4, .int x4)]) dX2_readSequence_142 rfl (by decide) rfl ?_
                refine r_aload_n (q := 2) dX2_readSequence_143 rfl rfl ?_
                refine r_getIv (c := 1) (v := h8.1 1 3) dX2_readSequence_144 flX2_22 lay_1 rfl rfl ?_
                refine r_bipush (v := (33 : Int32)) dX2_readSequence_147 rfl ?_
                refine r_icmp_eq (tgt := 163) dX2_readSequence_149 (by decide) (fun q18 => ?_) (fun q18 => ?_)
                · have t := t.1 q18
                  refine r_aload_n (q := 2) dX2_readSequence_163 rfl rfl ?_
                  refine r_cVV (c := 1) (As := []) dX2_readSequence_164 mkX2_advance lkX2_53 lay_1 rfl rfl rfl (by decide) rfl (Nat.le_of_ble_eq_true rfl) z00 t ?_
                  intro h19 t
                  refine r_iinc (k := 5) (v := x4 + (1 : Int32)) (lv' := [(4, .int (x4 + (1 : Int32))), (3, .int (0 : Int32)), (5, .int v3), (0, .ref (eA E 1)), (1, .ref (eA E 17)), (2, .int x2)]) dX2_readSequence_167 rfl rfl (by decide) rfl ?_
                  refine r_goto (tgt := 13) dX2_readSequence_170 (by decide) ?_
                  refine r_sub [3, 4, 5, 1, 0] rfl ?_
                  exact t
                · have t := t.2 q18
                  refine r_aload_n (q := 2) dX2_readSequence_152 rfl rfl ?_
                  refine r_getIv (c := 1) (v := h8.1 1 3) dX2_readSequence_153 flX2_22 lay_1 rfl rfl ?_
                  refine r_bipush (v := (44 : Int32)) dX2_readSequence_156 rfl ?_
                  refine r_icmp_eq (tgt := 163) dX2_readSequence_158 (by decide) (fun q20 => ?_) (fun q20 => ?_)
                  · have t := t.1 q20
                    refine r_aload_n (q := 2) dX2_readSequence_163 rfl rfl ?_
                    refine r_cVV (c := 1) (As := []) dX2_readSequence_164 mkX2_advance lkX2_53 lay_1 rfl rfl rfl (by decide) rfl (Nat.le_of_ble_eq_true rfl) z00 t ?_
                    intro h21 t
                    refine r_iinc (k := 5) (v := x4 + (1 : Int32)) (lv' := [(4, .int (x4 + (1 : Int32))), (3, .int (0 : Int32)), (5, .int v3), (0, .ref (eA E 1)), (1, .ref (eA E 17)), (2, .int x2)]) dX2_readSequence_167 rfl rfl (by decide) rfl ?_
                    refine r_goto (tgt := 13) dX2_readSequence_170 (by decide) ?_
                    refine r_sub [3, 4, 5, 1, 0] rfl ?_
                    exact t
                  · have t := t.2 q20
                    refine r_iconst (v := (1 : Int32)) dX2_readSequence_161 rfl ?_
                    exact r_zret dX2_readSequence_162 rfl (Or.inr rfl) t
            · have t := t.2 q10
              refine r_iconst (v := (1 : Int32)) dX2_readSequence_107 rfl ?_
              refine r_goto (tgt := 112) dX2_readSequence_108 (by decide) ?_
              obtain ⟨c22, t⟩ := t
              refine r_zast (c := 28) dX2_readSequence_112 lay_28 c22 ?_
              refine r_aload_n (q := 2) dX2_readSequence_113 rfl rfl ?_
              refine r_getR (c := 17) (c2 := 26) dX2_readSequence_114 flX2_143 lay_17 rfl ?_
              refine r_aload_n (q := 2) dX2_readSequence_117 rfl rfl ?_
              refine r_getIv (c := 17) (v := h8.1 17 8) dX2_readSequence_118 flX2_50 lay_17 rfl rfl ?_
              refine r_iload (q := 5) dX2_readSequence_121 rfl ?_
              refine r_iconst (v := (1 : Int32)) dX2_readSequence_123 rfl ?_
              refine r_iadd dX2_readSequence_124 ?_
              obtain ⟨c23, t⟩ := t
              refine r_iast (c := 26) dX2_readSequence_125 lay_26 c23 ?_
              refine r_aload_n (q := 1) dX2_readSequence_126 rfl rfl ?_
              refine r_getIv (c := 1) (v := h8.1 1 3) dX2_readSequence_127 flX2_22 lay_1 rfl rfl ?_
              refine r_bipush (v := (33 : Int32)) dX2_readSequence_130 rfl ?_
              refine r_icmp_ne (tgt := 139) dX2_readSequence_132 (by decide) (fun q24 => ?_) (fun q24 => ?_)
              · have t := t.1 q24
                refine r_iload_n (q := 4) dX2_readSequence_139 rfl rfl ?_
                refine r_iconst (v := (1 : Int32)) dX2_readSequence_140 rfl ?_
                refine r_iadd dX2_readSequence_141 ?_
                refine r_istore_n (lv' := [(3, .int (x3 + (1 : Int32))), (5, .int v3), (0, .ref (eA E 1)), (1, .ref (eA E 17)), (2, .int x2), (4, .int x4)]) dX2_readSequence_142 rfl (by decide) rfl ?_
                refine r_aload_n (q := 2) dX2_readSequence_143 rfl rfl ?_
                refine r_getIv (c := 1) (v := h8.1 1 3) dX2_readSequence_144 flX2_22 lay_1 rfl rfl ?_
                refine r_bipush (v := (33 : Int32)) dX2_readSequence_147 rfl ?_
                refine r_icmp_eq (tgt := 163) dX2_readSequence_149 (by decide) (fun q25 => ?_) (fun q25 => ?_)
                · have t := t.1 q25
                  refine r_aload_n (q := 2) dX2_readSequence_163 rfl rfl ?_
                  refine r_cVV (c := 1) (As := []) dX2_readSequence_164 mkX2_advance lkX2_53 lay_1 rfl rfl rfl (by decide) rfl (Nat.le_of_ble_eq_true rfl) z00 t ?_
                  intro h26 t
                  refine r_iinc (k := 5) (v := x4 + (1 : Int32)) (lv' := [(4, .int (x4 + (1 : Int32))), (3, .int (x3 + (1 : Int32))), (5, .int v3), (0, .ref (eA E 1)), (1, .ref (eA E 17)), (2, .int x2)]) dX2_readSequence_167 rfl rfl (by decide) rfl ?_
                  refine r_goto (tgt := 13) dX2_readSequence_170 (by decide) ?_
                  refine r_sub [3, 4, 5, 1, 0] rfl ?_
                  exact t
                · have t := t.2 q25
                  refine r_aload_n (q := 2) dX2_readSequence_152 rfl rfl ?_
                  refine r_getIv (c := 1) (v := h8.1 1 3) dX2_readSequence_153 flX2_22 lay_1 rfl rfl ?_
                  refine r_bipush (v := (44 : Int32)) dX2_readSequence_156 rfl ?_
                  refine r_icmp_eq (tgt := 163) dX2_readSequence_158 (by decide) (fun q27 => ?_) (fun q27 => ?_)
                  · have t := t.1 q27
                    refine r_aload_n (q := 2) dX2_readSequence_163 rfl rfl ?_
                    refine r_cVV (c := 1) (As := []) dX2_readSequence_164 mkX2_advance lkX2_53 lay_1 rfl rfl rfl (by decide) rfl (Nat.le_of_ble_eq_true rfl) z00 t ?_
                    intro h28 t
                    refine r_iinc (k := 5) (v := x4 + (1 : Int32)) (lv' := [(4, .int (x4 + (1 : Int32))), (3, .int (x3 + (1 : Int32))), (5, .int v3), (0, .ref (eA E 1)), (1, .ref (eA E 17)), (2, .int x2)]) dX2_readSequence_167 rfl rfl (by decide) rfl ?_
                    refine r_goto (tgt := 13) dX2_readSequence_170 (by decide) ?_
                    refine r_sub [3, 4, 5, 1, 0] rfl ?_
                    exact t
                  · have t := t.2 q27
                    refine r_iconst (v := (1 : Int32)) dX2_readSequence_161 rfl ?_
                    exact r_zret dX2_readSequence_162 rfl (Or.inr rfl) t
              · have t := t.2 q24
                refine r_iconst (v := (0 : Int32)) dX2_readSequence_135 rfl ?_
                refine r_goto (tgt := 142) dX2_readSequence_136 (by decide) ?_
                refine r_istore_n (lv' := [(3, .int (0 : Int32)), (5, .int v3), (0, .ref (eA E 1)), (1, .ref (eA E 17)), (2, .int x2), (4, .int x4)]) dX2_readSequence_142 rfl (by decide) rfl ?_
                refine r_aload_n (q := 2) dX2_readSequence_143 rfl rfl ?_
                refine r_getIv (c := 1) (v := h8.1 1 3) dX2_readSequence_144 flX2_22 lay_1 rfl rfl ?_
                refine r_bipush (v := (33 : Int32)) dX2_readSequence_147 rfl ?_
                refine r_icmp_eq (tgt := 163) dX2_readSequence_149 (by decide) (fun q29 => ?_) (fun q29 => ?_)
                · have t := t.1 q29
                  refine r_aload_n (q := 2) dX2_readSequence_163 rfl rfl ?_
                  refine r_cVV (c := 1) (As := []) dX2_readSequence_164 mkX2_advance lkX2_53 lay_1 rfl rfl rfl (by decide) rfl (Nat.le_of_ble_eq_true rfl) z00 t ?_
                  intro h30 t
                  refine r_iinc (k := 5) (v := x4 + (1 : Int32)) (lv' := [(4, .int (x4 + (1 : Int32))), (3, .int (0 : Int32)), (5, .int v3), (0, .ref (eA E 1)), (1, .ref (eA E 17)), (2, .int x2)]) dX2_readSequence_167 rfl rfl (by decide) rfl ?_
                  refine r_goto (tgt := 13) dX2_readSequence_170 (by decide) ?_
                  refine r_sub [3, 4, 5, 1, 0] rfl ?_
                  exact t
                · have t := t.2 q29
                  refine r_aload_n (q := 2) dX2_readSequence_152 rfl rfl ?_
                  refine r_getIv (c := 1) (v := h8.1 1 3) dX2_readSequence_153 flX2_22 lay_1 rfl rfl ?_
                  refine r_bipush (v := (44 : Int32)) dX2_readSequence_156 rfl ?_
                  refine r_icmp_eq (tgt := 163) dX2_readSequence_158 (by decide) (fun q31 => ?_) (fun q31 => ?_)
                  · have t := t.1 q31
                    refine r_aload_n (q := 2) dX2_readSequence_163 rfl rfl ?_
                    refine r_cVV (c := 1) (As := []) dX2_readSequence_164 mkX2_advance lkX2_53 lay_1 rfl rfl rfl (by decide) rfl (Nat.le_of_ble_eq_true rfl) z00 t ?_
                    intro h32 t
                    refine r_iinc (k := 5) (v := x4 + (1 : Int32)) (lv' := [(4, .int (x4 + (1 : Int32))), (3, .int (0 : Int32)), (5, .int v3), (0, .ref (eA E 1)), (1, .ref (eA E 17)), (2, .int x2)]) dX2_readSequence_167 rfl rfl (by decide) rfl ?_
                    refine r_goto (tgt := 13) dX2_readSequence_170 (by decide) ?_
                    refine r_sub [3, 4, 5, 1, 0] rfl ?_
                    exact t
                  · have t := t.2 q31
                    refine r_iconst (v := (1 : Int32)) dX2_readSequence_161 rfl ?_
                    exact r_zret dX2_readSequence_162 rfl (Or.inr rfl) t
          · have t := t.2 q7
            refine r_aload_n (q := 1) dX2_readSequence_69 rfl rfl ?_
            refine r_iconst (v := (5 : Int32)) dX2_readSequence_70 rfl ?_
            refine r_cVI (c := 1) (As := [.int (5 : Int32)]) dX2_readSequence_71 mkX2_fail lkX2_63 lay_1 rfl rfl rfl (by decide) rfl (Nat.le_of_ble_eq_true rfl) z00 t ?_
            intro v33 h33 t
            exact r_zret dX2_readSequence_74 rfl t.1 t.2
      · have t := t.2 q4
        refine r_aload_n (q := 1) dX2_readSequence_50 rfl rfl ?_
        refine r_iconst (v := (4 : Int32)) dX2_readSequence_51 rfl ?_
        refine r_cVI (c := 1) (As := [.int (4 : Int32)]) dX2_readSequence_52 mkX2_fail lkX2_63 lay_1 rfl rfl rfl (by decide) rfl (Nat.le_of_ble_eq_true rfl) z00 t ?_
        intro v34 h34 t
        exact r_zret dX2_readSequence_55 rfl t.1 t.2
    · have t := t.2 q2
      refine r_aload_n (q := 0) dX2_readSequence_28 rfl rfl ?_
      refine r_iconst (v := (1 : Int32)) dX2_readSequence_29 rfl ?_
      refine r_cVI (c := 1) (As := [.int (1 : Int32)]) dX2_readSequence_30 mkX2_fail lkX2_63 lay_1 rfl rfl rfl (by decide) rfl (Nat.le_of_ble_eq_true rfl) z00 t ?_
      intro v35 h35 t
      exact r_zret dX2_readSequence_33 rfl t.1 t.2
theorem dX2_readInstruction_0 : decode cX2_readInstruction 0 = .ok (.aload_n 1, 1) := by decide +kernel
theorem dX2_readInstruction_1 : decode cX2_readInstruction 1 = .ok (.getfield 50, 3) := by decide +kernel
theorem dX2_readInstruction_4 : decode cX2_readInstruction 4 = .ok (.istore_n 2, 1) := by decide +kernel
theorem dX2_readInstruction_5 : decode cX2_readInstruction 5 = .ok (.iload_n 2, 1) := by decide +kernel
theorem dX2_readInstruction_6 : decode cX2_readInstruction 6 = .ok (.bipush 8, 2) := by decide +kernel
theorem dX2_readInstruction_8 : decode cX2_readInstruction 8 = .ok (.if_icmp .lt 9, 3) := by decide +kernel
theorem dX2_readInstruction_11 : decode cX2_readInstruction 11 = .ok (.aload_n 0, 1) := by decide +kernel
theorem dX2_readInstruction_12 : decode cX2_readInstruction 12 = .ok (.iconst 5, 1) := by decide +kernel
theorem dX2_readInstruction_13 : decode cX2_readInstruction 13 = .ok (.invokevirtual 63, 3) := by decide +kernel
theorem dX2_readInstruction_16 : decode cX2_readInstruction 16 = .ok (.ireturn, 1) := by decide +kernel
theorem dX2_readInstruction_17 : decode cX2_readInstruction 17 = .ok (.aload_n 0, 1) := by decide +kernel
theorem dX2_readInstruction_18 : decode cX2_readInstruction 18 = .ok (.invokevirtual 53, 3) := by decide +kernel
theorem dX2_readInstruction_21 : decode cX2_readInstruction 21 = .ok (.aload_n 0, 1) := by decide +kernel
theorem dX2_readInstruction_22 : decode cX2_readInstruction 22 = .ok (.aload_n 1, 1) := by decide +kernel
theorem dX2_readInstruction_23 : decode cX2_readInstruction 23 = .ok (.invokevirtual 66, 3) := by decide +kernel
theorem dX2_readInstruction_26 : decode cX2_readInstruction 26 = .ok (.ifCond .ne 5, 3) := by decide +kernel
theorem dX2_readInstruction_29 : decode cX2_readInstruction 29 = .ok (.iconst 0, 1) := by decide +kernel
theorem dX2_readInstruction_30 : decode cX2_readInstruction 30 = .ok (.ireturn, 1) := by decide +kernel
theorem dX2_readInstruction_31 : decode cX2_readInstruction 31 = .ok (.aload_n 1, 1) := by decide +kernel
theorem dX2_readInstruction_32 : decode cX2_readInstruction 32 = .ok (.getfield 130, 3) := by decide +kernel
theorem dX2_readInstruction_35 : decode cX2_readInstruction 35 = .ok (.iload_n 2, 1) := by decide +kernel
theorem dX2_readInstruction_36 : decode cX2_readInstruction 36 = .ok (.aload_n 0, 1) := by decide +kernel
theorem dX2_readInstruction_37 : decode cX2_readInstruction 37 = .ok (.getfield 28, 3) := by decide +kernel
theorem dX2_readInstruction_40 : decode cX2_readInstruction 40 = .ok (.lastore, 1) := by decide +kernel
theorem dX2_readInstruction_41 : decode cX2_readInstruction 41 = .ok (.aload_n 0, 1) := by decide +kernel
theorem dX2_readInstruction_42 : decode cX2_readInstruction 42 = .ok (.invokevirtual 53, 3) := by decide +kernel
theorem dX2_readInstruction_45 : decode cX2_readInstruction 45 = .ok (.aload_n 0, 1) := by decide +kernel
theorem dX2_readInstruction_46 : decode cX2_readInstruction 46 = .ok (.bipush 58, 2) := by decide +kernel
theorem dX2_readInstruction_48 : decode cX2_readInstruction 48 = .ok (.invokevirtual 73, 3) := by decide +kernel
theorem dX2_readInstruction_51 : decode cX2_readInstruction 51 = .ok (.ifCond .eq 20, 3) := by decide +kernel
theorem dX2_readInstruction_54 : decode cX2_readInstruction 54 = .ok (.aload_n 0, 1) := by decide +kernel
theorem dX2_readInstruction_55 : decode cX2_readInstruction 55 = .ok (.aload_n 1, 1) := by decide +kernel
theorem dX2_readInstruction_56 : decode cX2_readInstruction 56 = .ok (.invokevirtual 133, 3) := by decide +kernel
theorem dX2_readInstruction_59 : decode cX2_readInstruction 59 = .ok (.ifCond .eq 12, 3) := by decide +kernel
theorem dX2_readInstruction_62 : decode cX2_readInstruction 62 = .ok (.aload_n 0, 1) := by decide +kernel
theorem dX2_readInstruction_63 : decode cX2_readInstruction 63 = .ok (.bipush 59, 2) := by decide +kernel
theorem dX2_readInstruction_65 : decode cX2_readInstruction 65 = .ok (.invokevirtual 73, 3) := by decide +kernel
theorem dX2_readInstruction_68 : decode cX2_readInstruction 68 = .ok (.ifCond .ne 5, 3) := by decide +kernel
theorem dX2_readInstruction_71 : decode cX2_readInstruction 71 = .ok (.iconst 0, 1) := by decide +kernel
theorem dX2_readInstruction_72 : decode cX2_readInstruction 72 = .ok (.ireturn, 1) := by decide +kernel
theorem dX2_readInstruction_73 : decode cX2_readInstruction 73 = .ok (.aload_n 1, 1) := by decide +kernel
theorem dX2_readInstruction_74 : decode cX2_readInstruction 74 = .ok (.iload_n 2, 1) := by decide +kernel
theorem dX2_readInstruction_75 : decode cX2_readInstruction 75 = .ok (.iconst 1, 1) := by decide +kernel
theorem dX2_readInstruction_76 : decode cX2_readInstruction 76 = .ok (.iadd, 1) := by decide +kernel
theorem dX2_readInstruction_77 : decode cX2_readInstruction 77 = .ok (.putfield 50, 3) := by decide +kernel
theorem dX2_readInstruction_80 : decode cX2_readInstruction 80 = .ok (.iconst 1, 1) := by decide +kernel
theorem dX2_readInstruction_81 : decode cX2_readInstruction 81 = .ok (.ireturn, 1) := by decide +kernel
set_option maxRecDepth 20000 in
theorem wp_X2_readInstruction (E : En) (d : Nat) (h : Hp) (P : Int32 → Hp → Prop) (t : ((h.1 17 8) < (8 : Int32) → (SpV E d MX2_advance [.ref (eA E 1)] h (fun h2 => SpI E d MX2_isNewName [.ref (eA E 1), .ref (eA E 17)] h2 (fun v3 h3 => (¬ v3 = 0 → (vp_in (h.1 17 8) 8 ∧ (SpV E d MX2_advance [.ref (eA E 1)] (sL h3 25 ((h.1 17 8).toNatClampNeg) (h3.2 1 5)) (fun h6 => SpI E d MX2_take [.ref (eA E 1), .int (58 : Int32)] h6 (fun v7 h7 => (v7 = 0 → (P (0 : Int32) h7)) ∧ (¬ v7 = 0 → (SpI E d MX2_readSequence [.ref (eA E 1), .ref (eA E 17)] h7 (fun v9 h9 => (v9 = 0 → (P (0 : Int32) h9)) ∧ (¬ v9 = 0 → (SpI E d MX2_take [.ref (eA E 1), .int (59 : Int32)] h9 (fun v11 h11 => (¬ v11 = 0 → (P (1 : Int32) (sI h11 17 8 ((h.1 17 8) + (1 : Int32))))) ∧ (v11 = 0 → (P (0 : Int32) h11))))))))))))) ∧ (v3 = 0 → (P (0 : Int32) h3)))))) ∧ (¬ (h.1 17 8) < (8 : Int32) → (SpI E d MX2_fail [.ref (eA E 1), .int (5 : Int32)] h (fun v13 h13 => (v13 = 0 ∨ v13 = 1) ∧ P v13 h13)))) : SpI E (d + 1) MX2_readInstruction [.ref (eA E 1), .ref (eA E 17)] h P := by
  refine SpI.of (lv0 := [(0, .ref (eA E 1)), (1, .ref (eA E 17))]) (by decide) (Nat.le_of_ble_eq_true rfl) rfl (fun g => ?_)
  refine r_aload_n (q := 1) dX2_readInstruction_0 rfl rfl ?_
  refine r_getI (c := 17) dX2_readInstruction_1 flX2_50 lay_17 rfl ?_
  refine r_istore_n (lv' := [(2, .int (h.1 17 8)), (0, .ref (eA E 1)), (1, .ref (eA E 17))]) dX2_readInstruction_4 rfl (by decide) rfl ?_
  refine r_iload_n (q := 0) dX2_readInstruction_5 rfl rfl ?_
  refine r_bipush (v := (8 : Int32)) dX2_readInstruction_6 rfl ?_
  refine r_icmp_lt (tgt := 17) dX2_readInstruction_8 (by decide) (fun q1 => ?_) (fun q1 => ?_)
  · have t := t.1 q1
    refine r_aload_n (q := 1) dX2_readInstruction_17 rfl rfl ?_
    refine r_cVV (c := 1) (As := []) dX2_readInstruction_18 mkX2_advance lkX2_53 lay_1 rfl rfl rfl (by decide) rfl (Nat.le_of_ble_eq_true rfl) z00 t ?_
    intro h2 t
    refine r_aload_n (q := 1) dX2_readInstruction_21 rfl rfl ?_
    refine r_aload_n (q := 2) dX2_readInstruction_22 rfl rfl ?_
    refine r_cVI (c := 1) (As := [.ref (eA E 17)]) dX2_readInstruction_23 mkX2_isNewName lkX2_66 lay_1 rfl rfl rfl (by decide) rfl (Nat.le_of_ble_eq_true rfl) z00 t ?_
    intro v3 h3 t
    refine r_if_ne (tgt := 31) dX2_readInstruction_26 (by decide) (fun q4 => ?_) (fun q4 => ?_)
    · have t := t.1 q4
      refine r_aload_n (q := 2) dX2_readInstruction_31 rfl rfl ?_
      refine r_getR (c := 17) (c2 := 25) dX2_readInstruction_32 flX2_130 lay_17 rfl ?_
      refine r_iload_n (q := 0) dX2_readInstruction_35 rfl rfl ?_
      refine r_aload_n (q := 1) dX2_readInstruction_36 rfl rfl ?_
      refine r_getL (c := 1) dX2_readInstruction_37 flX2_28 lay_1 rfl ?_
      obtain ⟨c5, t⟩ := t
      refine r_last (c := 25) dX2_readInstruction_40 lay_25 c5 ?_
      refine r_aload_n (q := 1) dX2_readInstruction_41 rfl rfl ?_
      refine r_cVV (c := 1) (As := []) dX2_readInstruction_42 mkX2_advance lkX2_53 lay_1 rfl rfl rfl (by decide) rfl (Nat.le_of_ble_eq_true rfl) z00 t ?_
      intro h6 t
      refine r_aload_n (q := 1) dX2_readInstruction_45 rfl rfl ?_
      refine r_bipush (v := (58 : Int32)) dX2_readInstruction_46 rfl ?_
      refine r_cVI (c := 1) (As := [.int (58 : Int32)]) dX2_readInstruction_48 mkX2_take lkX2_73 lay_1 rfl rfl rfl (by decide) rfl (Nat.le_of_ble_eq_true rfl) z00 t ?_
      intro v7 h7 t
      refine r_if_eq (tgt := 71) dX2_readInstruction_51 (by decide) (fun q8 => ?_) (fun q8 => ?_)
      · have t := t.1 q8
        refine r_iconst (v := (0 : Int32)) dX2_readInstruction_71 rfl ?_
        exact r_zret dX2_readInstruction_72 rfl (Or.inl rfl) t
      · have t := t.2 q8
        refine r_aload_n (q := 1) dX2_readInstruction_54 rfl rfl ?_
        refine r_aload_n (q := 2) dX2_readInstruction_55 rfl rfl ?_
        refine r_cVI (c := 1) (As := [.ref (eA E 17)]) dX2_readInstruction_56 mkX2_readSequence lkX2_133 lay_1 rfl rfl rfl (by decide) rfl (Nat.le_of_ble_eq_true rfl) z00 t ?_
        intro v9 h9 t
        refine r_if_eq (tgt := 71) dX2_readInstruction_59 (by decide) (fun q10 => ?_) (fun q10 => ?_)
        · have t := t.1 q10
          refine r_iconst (v := (0 : Int32)) dX2_readInstruction_71 rfl ?_
          exact r_zret dX2_readInstruction_72 rfl (Or.inl rfl) t
        · have t := t.2 q10
          refine r_aload_n (q := 1) dX2_readInstruction_62 rfl rfl ?_
          refine r_bipush (v := (59 : Int32)) dX2_readInstruction_63 rfl ?_
          refine r_cVI (c := 1) (As := [.int (59 : Int32)]) dX2_readInstruction_65 mkX2_take lkX2_73 lay_1 rfl rfl rfl (by decide) rfl (Nat.le_of_ble_eq_true rfl) z00 t ?_
          intro v11 h11 t
          refine r_if_ne (tgt := 73) dX2_readInstruction_68 (by decide) (fun q12 => ?_) (fun q12 => ?_)
          · have t := t.1 q12
            refine r_aload_n (q := 2) dX2_readInstruction_73 rfl rfl ?_
            refine r_iload_n (q := 0) dX2_readInstruction_74 rfl rfl ?_
            refine r_iconst (v := (1 : Int32)) dX2_readInstruction_75 rfl ?_
            refine r_iadd dX2_readInstruction_76 ?_
            refine r_putI (c := 17) dX2_readInstruction_77 flX2_50 lay_17 rfl ?_
            refine r_iconst (v := (1 : Int32)) dX2_readInstruction_80 rfl ?_
            exact r_zret dX2_readInstruction_81 rfl (Or.inr rfl) t
          · have t := t.2 q12
            refine r_iconst (v := (0 : Int32)) dX2_readInstruction_71 rfl ?_
            exact r_zret dX2_readInstruction_72 rfl (Or.inl rfl) t
    · have t := t.2 q4
      refine r_iconst (v := (0 : Int32)) dX2_readInstruction_29 rfl ?_
      exact r_zret dX2_readInstruction_30 rfl (Or.inl rfl) t
  · have t := t.2 q1
    refine r_aload_n (q := 1) dX2_readInstruction_11 rfl rfl ?_
    refine r_iconst (v := (5 : Int32)) dX2_readInstruction_12 rfl ?_
    refine r_cVI (c := 1) (As := [.int (5 : Int32)]) dX2_readInstruction_13 mkX2_fail lkX2_63 lay_1 rfl rfl rfl (by decide) rfl (Nat.le_of_ble_eq_true rfl) z00 t ?_
    intro v13 h13 t
    exact r_zret dX2_readInstruction_16 rfl t.1 t.2
theorem dX2_read_0 : decode cX2_read 0 = .ok (.aload_n 0, 1) := by decide +kernel
theorem dX2_read_1 : decode cX2_read 1 = .ok (.iconst 0, 1) := by decide +kernel
theorem dX2_read_2 : decode cX2_read 2 = .ok (.putfield 19, 3) := by decide +kernel
theorem dX2_read_5 : decode cX2_read 5 = .ok (.aload_n 0, 1) := by decide +kernel
theorem dX2_read_6 : decode cX2_read 6 = .ok (.iconst 0, 1) := by decide +kernel
theorem dX2_read_7 : decode cX2_read 7 = .ok (.putfield 35, 3) := by decide +kernel
theorem dX2_read_10 : decode cX2_read 10 = .ok (.aload_n 1, 1) := by decide +kernel
theorem dX2_read_11 : decode cX2_read 11 = .ok (.iconst 0, 1) := by decide +kernel
theorem dX2_read_12 : decode cX2_read 12 = .ok (.putfield 45, 3) := by decide +kernel
theorem dX2_read_15 : decode cX2_read 15 = .ok (.aload_n 1, 1) := by decide +kernel
theorem dX2_read_16 : decode cX2_read 16 = .ok (.iconst 0, 1) := by decide +kernel
theorem dX2_read_17 : decode cX2_read 17 = .ok (.putfield 50, 3) := by decide +kernel
theorem dX2_read_20 : decode cX2_read 20 = .ok (.aload_n 0, 1) := by decide +kernel
theorem dX2_read_21 : decode cX2_read 21 = .ok (.invokevirtual 53, 3) := by decide +kernel
theorem dX2_read_24 : decode cX2_read 24 = .ok (.iconst 1, 1) := by decide +kernel
theorem dX2_read_25 : decode cX2_read 25 = .ok (.istore_n 2, 1) := by decide +kernel
theorem dX2_read_26 : decode cX2_read 26 = .ok (.iconst 0, 1) := by decide +kernel
theorem dX2_read_27 : decode cX2_read 27 = .ok (.istore_n 3, 1) := by decide +kernel
theorem dX2_read_28 : decode cX2_read 28 = .ok (.iload_n 3, 1) := by decide +kernel
theorem dX2_read_29 : decode cX2_read 29 = .ok (.bipush 12, 2) := by decide +kernel
theorem dX2_read_31 : decode cX2_read 31 = .ok (.if_icmp .gt 27, 3) := by decide +kernel
theorem dX2_read_34 : decode cX2_read 34 = .ok (.iload_n 2, 1) := by decide +kernel
theorem dX2_read_35 : decode cX2_read 35 = .ok (.ifCond .eq 23, 3) := by decide +kernel
theorem dX2_read_38 : decode cX2_read 38 = .ok (.aload_n 0, 1) := by decide +kernel
theorem dX2_read_39 : decode cX2_read 39 = .ok (.getfield 22, 3) := by decide +kernel
theorem dX2_read_42 : decode cX2_read 42 = .ok (.iconst 5, 1) := by decide +kernel
theorem dX2_read_43 : decode cX2_read 43 = .ok (.if_icmp .ne 15, 3) := by decide +kernel
theorem dX2_read_46 : decode cX2_read 46 = .ok (.aload_n 0, 1) := by decide +kernel
theorem dX2_read_47 : decode cX2_read 47 = .ok (.aload_n 1, 1) := by decide +kernel
theorem dX2_read_48 : decode cX2_read 48 = .ok (.invokevirtual 56, 3) := by decide +kernel
theorem dX2_read_51 : decode cX2_read 51 = .ok (.istore_n 2, 1) := by decide +kernel
theorem dX2_read_52 : decode cX2_read 52 = .ok (.iinc 3 1, 3) := by decide +kernel
theorem dX2_read_55 : decode cX2_read 55 = .ok (.goto (-27), 3) := by decide +kernel
theorem dX2_read_58 : decode cX2_read 58 = .ok (.iconst 0, 1) := by decide +kernel
theorem dX2_read_59 : decode cX2_read 59 = .ok (.istore_n 3, 1) := by decide +kernel
theorem dX2_read_60 : decode cX2_read 60 = .ok (.iload_n 3, 1) := by decide +kernel
theorem dX2_read_61 : decode cX2_read 61 = .ok (.bipush 8, 2) := by decide +kernel
theorem dX2_read_63 : decode cX2_read 63 = .ok (.if_icmp .gt 28, 3) := by decide +kernel
theorem dX2_read_66 : decode cX2_read 66 = .ok (.iload_n 2, 1) := by decide +kernel
theorem dX2_read_67 : decode cX2_read 67 = .ok (.ifCond .eq 24, 3) := by decide +kernel
theorem dX2_read_70 : decode cX2_read 70 = .ok (.aload_n 0, 1) := by decide +kernel
theorem dX2_read_71 : decode cX2_read 71 = .ok (.getfield 22, 3) := by decide +kernel
theorem dX2_read_74 : decode cX2_read 74 = .ok (.bipush 7, 2) := by decide +kernel
theorem dX2_read_76 : decode cX2_read 76 = .ok (.if_icmp .ne 15, 3) := by decide +kernel
theorem dX2_read_79 : decode cX2_read 79 = .ok (.aload_n 0, 1) := by decide +kernel
theorem dX2_read_80 : decode cX2_read 80 = .ok (.aload_n 1, 1) := by decide +kernel
theorem dX2_read_81 : decode cX2_read 81 = .ok (.invokevirtual 60, 3) := by decide +kernel
theorem dX2_read_84 : decode cX2_read 84 = .ok (.istore_n 2, 1) := by decide +kernel
theorem dX2_read_85 : decode cX2_read 85 = .ok (.iinc 3 1, 3) := by decide +kernel
theorem dX2_read_88 : decode cX2_read 88 = .ok (.goto (-28), 3) := by decide +kernel
theorem dX2_read_91 : decode cX2_read 91 = .ok (.iload_n 2, 1) := by decide +kernel
theorem dX2_read_92 : decode cX2_read 92 = .ok (.ifCond .eq 16, 3) := by decide +kernel
theorem dX2_read_95 : decode cX2_read 95 = .ok (.aload_n 0, 1) := by decide +kernel
theorem dX2_read_96 : decode cX2_read 96 = .ok (.getfield 22, 3) := by decide +kernel
theorem dX2_read_99 : decode cX2_read 99 = .ok (.ifCond .eq 9, 3) := by decide +kernel
theorem dX2_read_102 : decode cX2_read 102 = .ok (.aload_n 0, 1) := by decide +kernel
theorem dX2_read_103 : decode cX2_read 103 = .ok (.iconst 1, 1) := by decide +kernel
theorem dX2_read_104 : decode cX2_read 104 = .ok (.invokevirtual 63, 3) := by decide +kernel
theorem dX2_read_107 : decode cX2_read 107 = .ok (.pop, 1) := by decide +kernel
theorem dX2_read_108 : decode cX2_read 108 = .ok (.aload_n 0, 1) := by decide +kernel
theorem dX2_read_109 : decode cX2_read 109 = .ok (.getfield 35, 3) := by decide +kernel
theorem dX2_read_112 : decode cX2_read 112 = .ok (.ireturn, 1) := by decide +kernel
abbrev VX2_read_28 (E : En) (d : Nat) (g : Ga) (P : Int32 → Hp → Prop) (x2 : Int32) (x3 : Int32) (h : Hp) : Prop := V E MX2_read (RM (d + 1) 0) g (QQ E g (QI E P) 0 0) 0 0 h 28 [(0, .ref (eA E 1)), (1, .ref (eA E 17)), (2, .int x2), (3, .int x3)] []
abbrev VX2_read_60 (E : En) (d : Nat) (g : Ga) (P : Int32 → Hp → Prop) (x2 : Int32) (x3 : Int32) (h : Hp) : Prop := V E MX2_read (RM (d + 1) 0) g (QQ E g (QI E P) 0 0) 0 0 h 60 [(0, .ref (eA E 1)), (1, .ref (eA E 17)), (2, .int x2), (3, .int x3)] []
set_option maxRecDepth 20000 in
theorem wp_X2_read (E : En) (d : Nat) (h : Hp) (P : Int32 → Hp → Prop) (t : ∀ g : Ga, SpV E d MX2_advance [.ref (eA E 1)] (sI (sI (sI (sI h 1 2 (0 : Int32)) 1 7 (0 : Int32)) 17 0 (0 : Int32)) 17 8 (0 : Int32)) (fun h1 => VX2_read_28 E d g P (1 : Int32) (0 : Int32) h1)) : SpI E (d + 1) MX2_read [.ref (eA E 1), .ref (eA E 17)] h P := by
  refine SpI.of (lv0 := [(0, .ref (eA E 1)), (1, .ref (eA E 17))]) (by decide) (Nat.le_of_ble_eq_true rfl) rfl (fun g => ?_)
  have t := t g
  refine r_aload_n (q := 0) dX2_read_0 rfl rfl ?_
  refine r_iconst (v := (0 : Int32)) dX2_read_1 rfl ?_
  refine r_putI (c := 1) dX2_read_2 flX2_19 lay_1 rfl ?_
  refine r_aload_n (q := 0) dX2_read_5 rfl rfl ?_
  refine r_iconst (v := (0 : Int32)) dX2_read_6 rfl ?_
  refine r_putI (c := 1) dX2_read_7 flX2_35 lay_1 rfl ?_
  refine r_aload_n (q := 1) dX2_read_10 rfl rfl ?_
  refine r_iconst (v := (0 : Int32)) dX2_read_11 rfl ?_
  refine r_putI (c := 17) dX2_read_12 flX2_45 lay_17 rfl ?_
  refine r_aload_n (q := 1) dX2_read_15 rfl rfl ?_
  refine r_iconst (v := (0 : Int32)) dX2_read_16 rfl ?_
  refine r_putI (c := 17) dX2_read_17 flX2_50 lay_17 rfl ?_
  refine r_aload_n (q := 0) dX2_read_20 rfl rfl ?_
  refine r_cVV (c := 1) (As := []) dX2_read_21 mkX2_advance lkX2_53 lay_1 rfl rfl rfl (by decide) rfl (Nat.le_of_ble_eq_true rfl) z00 t ?_
  intro h1 t
  refine r_iconst (v := (1 : Int32)) dX2_read_24 rfl ?_
  refine r_istore_n (lv' := [(2, .int (1 : Int32)), (0, .ref (eA E 1)), (1, .ref (eA E 17))]) dX2_read_25 rfl (by decide) rfl ?_
  refine r_iconst (v := (0 : Int32)) dX2_read_26 rfl ?_
  refine r_istore_n (lv' := [(3, .int (0 : Int32)), (2, .int (1 : Int32)), (0, .ref (eA E 1)), (1, .ref (eA E 17))]) dX2_read_27 rfl (by decide) rfl ?_
  refine r_sub [2, 3, 1, 0] rfl ?_
  exact t
set_option maxRecDepth 20000 in
theorem sg_X2_read_28 (E : En) (d : Nat) (g : Ga) (x2 : Int32) (x3 : Int32) (h : Hp) (P : Int32 → Hp → Prop) (t : ((12 : Int32) < x3 → (VX2_read_60 E d g P x2 (0 : Int32) h)) ∧ (¬ (12 : Int32) < x3 → ((x2 = 0 → (VX2_read_60 E d g P x2 (0 : Int32) h)) ∧ (¬ x2 = 0 → ((¬ (h.1 1 3) = (5 : Int32) → (VX2_read_60 E d g P x2 (0 : Int32) h)) ∧ ((h.1 1 3) = (5 : Int32) → (SpI E d MX2_readOperation [.ref (eA E 1), .ref (eA E 17)] h (fun v4 h4 => VX2_read_28 E d g P v4 (x3 + (1 : Int32)) h4)))))))) : VX2_read_28 E d g P x2 x3 h := by
  refine r_iload_n (q := 3) dX2_read_28 rfl rfl ?_
  refine r_bipush (v := (12 : Int32)) dX2_read_29 rfl ?_
  refine r_icmp_gt (tgt := 58) dX2_read_31 (by decide) (fun q1 => ?_) (fun q1 => ?_)
  · have t := t.1 q1
    refine r_iconst (v := (0 : Int32)) dX2_read_58 rfl ?_
    refine r_istore_n (lv' := [(3, .int (0 : Int32)), (0, .ref (eA E 1)), (1, .ref (eA E 17)), (2, .int x2)]) dX2_read_59 rfl (by decide) rfl ?_
    refine r_sub [1, 2, 3, 0] rfl ?_
    exact t
  · have t := t.2 q1
    refine r_iload_n (q := 2) dX2_read_34 rfl rfl ?_
    refine r_if_eq (tgt := 58) dX2_read_35 (by decide) (fun q2 => ?_) (fun q2 => ?_)
    · have t := t.1 q2
      refine r_iconst (v := (0 : Int32)) dX2_read_58 rfl ?_
      refine r_istore_n (lv' := [(3, .int (0 : Int32)), (0, .ref (eA E 1)), (1, .ref (eA E 17)), (2, .int x2)]) dX2_read_59 rfl (by decide) rfl ?_
      refine r_sub [1, 2, 3, 0] rfl ?_
      exact t
    · have t := t.2 q2
      refine r_aload_n (q := 0) dX2_read_38 rfl rfl ?_
      refine r_getI (c := 1) dX2_read_39 flX2_22 lay_1 rfl ?_
      refine r_iconst (v := (5 : Int32)) dX2_read_42 rfl ?_
      refine r_icmp_ne (tgt := 58) dX2_read_43 (by decide) (fun q3 => ?_) (fun q3 => ?_)
      · have t := t.1 q3
        refine r_iconst (v := (0 : Int32)) dX2_read_58 rfl ?_
        refine r_istore_n (lv' := [(3, .int (0 : Int32)), (0, .ref (eA E 1)), (1, .ref (eA E 17)), (2, .int x2)]) dX2_read_59 rfl (by decide) rfl ?_
        refine r_sub [1, 2, 3, 0] rfl ?_
        exact t
      · have t := t.2 q3
        refine r_aload_n (q := 0) dX2_read_46 rfl rfl ?_
        refine r_aload_n (q := 1) dX2_read_47 rfl rfl ?_
        refine r_cVI (c := 1) (As := [.ref (eA E 17)]) dX2_read_48 mkX2_readOperation lkX2_56 lay_1 rfl rfl rfl (by decide) rfl (Nat.le_of_ble_eq_true rfl) z00 t ?_
        intro v4 h4 t
        refine r_istore_n (lv' := [(2, .int v4), (0, .ref (eA E 1)), (1, .ref (eA E 17)), (3, .int x3)]) dX2_read_51 rfl (by decide) rfl ?_
        refine r_iinc (k := 3) (v := x3 + (1 : Int32)) (lv' := [(3, .int (x3 + (1 : Int32))), (2, .int v4), (0, .ref (eA E 1)), (1, .ref (eA E 17))]) dX2_read_52 rfl rfl (by decide) rfl ?_
        refine r_goto (tgt := 28) dX2_read_55 (by decide) ?_
        refine r_sub [2, 3, 1, 0] rfl ?_
        exact t
set_option maxRecDepth 20000 in
theorem sg_X2_read_60 (E : En) (d : Nat) (g : Ga) (x2 : Int32) (x3 : Int32) (h : Hp) (P : Int32 → Hp → Prop) (t : ((8 : Int32) < x3 → ((x2 = 0 → (P (h.1 1 7) h)) ∧ (¬ x2 = 0 → (((h.1 1 3) = 0 → (P (h.1 1 7) h)) ∧ (¬ (h.1 1 3) = 0 → (SpI E d MX2_fail [.ref (eA E 1), .int (1 : Int32)] h (fun v4 h4 => P (h4.1 1 7) h4))))))) ∧ (¬ (8 : Int32) < x3 → ((x2 = 0 → ((x2 = 0 → (P (h.1 1 7) h)) ∧ (¬ x2 = 0 → (((h.1 1 3) = 0 → (P (h.1 1 7) h)) ∧ (¬ (h.1 1 3) = 0 → (SpI E d MX2_fail [.ref (eA E 1), .int (1 : Int32)] h (fun v8 h8 => P (h8.1 1 7) h8))))))) ∧ (¬ x2 = 0 → ((¬ (h.1 1 3) = (7 : Int32) → ((x2 = 0 → (P (h.1 1 7) h)) ∧ (¬ x2 = 0 → (((h.1 1 3) = 0 → (P (h.1 1 7) h)) ∧ (¬ (h.1 1 3) = 0 → (SpI E d MX2_fail [.ref (eA E 1), .int (1 : Int32)] h (fun v12 h12 => P (h12.1 1 7) h12))))))) ∧ ((h.1 1 3) = (7 : Int32) → (SpI E d MX2_readInstruction [.ref (eA E 1), .ref (eA E 17)] h (fun v13 h13 => VX2_read_60 E d g P v13 (x3 + (1 : Int32)) h13)))))))) : VX2_read_60 E d g P x2 x3 h := by
  refine r_iload_n (q := 3) dX2_read_60 rfl rfl ?_
  refine r_bipush (v := (8 : Int32)) dX2_read_61 rfl ?_
  refine r_icmp_gt (tgt := 91) dX2_read_63 (by decide) (fun q1 => ?_) (fun q1 => ?_)
  · have t := t.1 q1
    refine r_iload_n (q := 2) dX2_read_91 rfl rfl ?_
    refine r_if_eq (tgt := 108) dX2_read_92 (by decide) (fun q2 => ?_) (fun q2 => ?_)
    · have t := t.1 q2
      refine r_aload_n (q := 0) dX2_read_108 rfl rfl ?_
      refine r_getI (c := 1) dX2_read_109 flX2_35 lay_1 rfl ?_
      exact r_iret dX2_read_112 rfl t
    · have t := t.2 q2
      refine r_aload_n (q := 0) dX2_read_95 rfl rfl ?_
      refine r_getI (c := 1) dX2_read_96 flX2_22 lay_1 rfl ?_
      refine r_if_eq (tgt := 108) dX2_read_99 (by decide) (fun q3 => ?_) (fun q3 => ?_)
      · have t := t.1 q3
        refine r_aload_n (q := 0) dX2_read_108 rfl rfl ?_
        refine r_getI (c := 1) dX2_read_109 flX2_35 lay_1 rfl ?_
        exact r_iret dX2_read_112 rfl t
      · have t := t.2 q3
        refine r_aload_n (q := 0) dX2_read_102 rfl rfl ?_
        refine r_iconst (v := (1 : Int32)) dX2_read_103 rfl ?_
        refine r_cVI (c := 1) (As := [.int (1 : Int32)]) dX2_read_104 mkX2_fail lkX2_63 lay_1 rfl rfl rfl (by decide) rfl (Nat.le_of_ble_eq_true rfl) z00 t ?_
        intro v4 h4 t
        refine r_pop dX2_read_107 rfl ?_
        refine r_aload_n (q := 0) dX2_read_108 rfl rfl ?_
        refine r_getI (c := 1) dX2_read_109 flX2_35 lay_1 rfl ?_
        exact r_iret dX2_read_112 rfl t
  · have t := t.2 q1
    refine r_iload_n (q := 2) dX2_read_66 rfl rfl ?_
    refine r_if_eq (tgt := 91) dX2_read_67 (by decide) (fun q5 => ?_) (fun q5 => ?_)
    · have t := t.1 q5
      refine r_iload_n (q := 2) dX2_read_91 rfl rfl ?_
      refine r_if_eq (tgt := 108) dX2_read_92 (by decide) (fun q6 => ?_) (fun q6 => ?_)
      · have t := t.1 q6
        refine r_aload_n (q := 0) dX2_read_108 rfl rfl ?_
        refine r_getI (c := 1) dX2_read_109 flX2_35 lay_1 rfl ?_
        exact r_iret dX2_read_112 rfl t
      · have t := t.2 q6
        refine r_aload_n (q := 0) dX2_read_95 rfl rfl ?_
        refine r_getI (c := 1) dX2_read_96 flX2_22 lay_1 rfl ?_
        refine r_if_eq (tgt := 108) dX2_read_99 (by decide) (fun q7 => ?_) (fun q7 => ?_)
        · have t := t.1 q7
          refine r_aload_n (q := 0) dX2_read_108 rfl rfl ?_
          refine r_getI (c := 1) dX2_read_109 flX2_35 lay_1 rfl ?_
          exact r_iret dX2_read_112 rfl t
        · have t := t.2 q7
          refine r_aload_n (q := 0) dX2_read_102 rfl rfl ?_
          refine r_iconst (v := (1 : Int32)) dX2_read_103 rfl ?_
          refine r_cVI (c := 1) (As := [.int (1 : Int32)]) dX2_read_104 mkX2_fail lkX2_63 lay_1 rfl rfl rfl (by decide) rfl (Nat.le_of_ble_eq_true rfl) z00 t ?_
          intro v8 h8 t
          refine r_pop dX2_read_107 rfl ?_
          refine r_aload_n (q := 0) dX2_read_108 rfl rfl ?_
          refine r_getI (c := 1) dX2_read_109 flX2_35 lay_1 rfl ?_
          exact r_iret dX2_read_112 rfl t
    · have t := t.2 q5
      refine r_aload_n (q := 0) dX2_read_70 rfl rfl ?_
      refine r_getI (c := 1) dX2_read_71 flX2_22 lay_1 rfl ?_
      refine r_bipush (v := (7 : Int32)) dX2_read_74 rfl ?_
      refine r_icmp_ne (tgt := 91) dX2_read_76 (by decide) (fun q9 => ?_) (fun q9 => ?_)
      · have t := t.1 q9
        refine r_iload_n (q := 2) dX2_read_91 rfl rfl ?_
        refine r_if_eq (tgt := 108) dX2_read_92 (by decide) (fun q10 => ?_) (fun q10 => ?_)
        · have t := t.1 q10
          refine r_aload_n (q := 0) dX2_read_108 rfl rfl ?_
          refine r_getI (c := 1) dX2_read_109 flX2_35 lay_1 rfl ?_
          exact r_iret dX2_read_112 rfl t
        · have t := t.2 q10
          refine r_aload_n (q := 0) dX2_read_95 rfl rfl ?_
          refine r_getI (c := 1) dX2_read_96 flX2_22 lay_1 rfl ?_
          refine r_if_eq (tgt := 108) dX2_read_99 (by decide) (fun q11 => ?_) (fun q11 => ?_)
          · have t := t.1 q11
            refine r_aload_n (q := 0) dX2_read_108 rfl rfl ?_
            refine r_getI (c := 1) dX2_read_109 flX2_35 lay_1 rfl ?_
            exact r_iret dX2_read_112 rfl t
          · have t := t.2 q11
            refine r_aload_n (q := 0) dX2_read_102 rfl rfl ?_
            refine r_iconst (v := (1 : Int32)) dX2_read_103 rfl ?_
            refine r_cVI (c := 1) (As := [.int (1 : Int32)]) dX2_read_104 mkX2_fail lkX2_63 lay_1 rfl rfl rfl (by decide) rfl (Nat.le_of_ble_eq_true rfl) z00 t ?_
            intro v12 h12 t
            refine r_pop dX2_read_107 rfl ?_
            refine r_aload_n (q := 0) dX2_read_108 rfl rfl ?_
            refine r_getI (c := 1) dX2_read_109 flX2_35 lay_1 rfl ?_
            exact r_iret dX2_read_112 rfl t
      · have t := t.2 q9
        refine r_aload_n (q := 0) dX2_read_79 rfl rfl ?_
        refine r_aload_n (q := 1) dX2_read_80 rfl rfl ?_
        refine r_cVI (c := 1) (As := [.ref (eA E 17)]) dX2_read_81 mkX2_readInstruction lkX2_60 lay_1 rfl rfl rfl (by decide) rfl (Nat.le_of_ble_eq_true rfl) z00 t ?_
        intro v13 h13 t
        refine r_istore_n (lv' := [(2, .int v13), (0, .ref (eA E 1)), (1, .ref (eA E 17)), (3, .int x3)]) dX2_read_84 rfl (by decide) rfl ?_
        refine r_iinc (k := 3) (v := x3 + (1 : Int32)) (lv' := [(3, .int (x3 + (1 : Int32))), (2, .int v13), (0, .ref (eA E 1)), (1, .ref (eA E 17))]) dX2_read_85 rfl rfl (by decide) rfl ?_
        refine r_goto (tgt := 60) dX2_read_88 (by decide) ?_
        refine r_sub [2, 3, 1, 0] rfl ?_
        exact t
