theorem dX3_putText_0 : decode cX3_putText 0 = .ok (.iconst 0, 1) := by decide +kernel
theorem dX3_putText_1 : decode cX3_putText 1 = .ok (.istore_n 2, 1) := by decide +kernel
theorem dX3_putText_2 : decode cX3_putText 2 = .ok (.iload_n 2, 1) := by decide +kernel
theorem dX3_putText_3 : decode cX3_putText 3 = .ok (.aload_n 1, 1) := by decide +kernel
theorem dX3_putText_4 : decode cX3_putText 4 = .ok (.invokevirtual 99, 3) := by decide +kernel
theorem dX3_putText_7 : decode cX3_putText 7 = .ok (.if_icmp .ge 18, 3) := by decide +kernel
theorem dX3_putText_10 : decode cX3_putText 10 = .ok (.aload_n 0, 1) := by decide +kernel
theorem dX3_putText_11 : decode cX3_putText 11 = .ok (.aload_n 1, 1) := by decide +kernel
theorem dX3_putText_12 : decode cX3_putText 12 = .ok (.iload_n 2, 1) := by decide +kernel
theorem dX3_putText_13 : decode cX3_putText 13 = .ok (.invokevirtual 75, 3) := by decide +kernel
theorem dX3_putText_16 : decode cX3_putText 16 = .ok (.invokevirtual 58, 3) := by decide +kernel
theorem dX3_putText_19 : decode cX3_putText 19 = .ok (.iinc 2 1, 3) := by decide +kernel
theorem dX3_putText_22 : decode cX3_putText 22 = .ok (.goto (-20), 3) := by decide +kernel
theorem dX3_putText_25 : decode cX3_putText 25 = .ok (.return_, 1) := by decide +kernel
abbrev VX3_putText_2 (E : En) (d : Nat) (g : Ga) (P : Hp → Prop) (i : Nat) (x2 : Int32) (h : Hp) : Prop := V E MX3_putText (RM (d + 1) 0) g (QQ E g (QV E P) 0 0) 0 0 h 2 [(0, .ref (eA E 3)), (1, .ref (eK E i)), (2, .int x2)] []
set_option maxRecDepth 20000 in
theorem wp_X3_putText (E : En) (d : Nat) (i : Nat) (hi : i < 8) (h : Hp) (P : Hp → Prop) (t : ∀ g : Ga, VX3_putText_2 E d g P i (0 : Int32) h) : SpV E (d + 1) MX3_putText [.ref (eA E 3), .ref (eK E i)] h P := by
  refine SpV.of (lv0 := [(0, .ref (eA E 3)), (1, .ref (eK E i))]) (by decide) (Nat.le_of_ble_eq_true rfl) rfl (fun g => ?_)
  have t := t g
  refine r_iconst (v := (0 : Int32)) dX3_putText_0 rfl ?_
  refine r_istore_n (lv' := [(2, .int (0 : Int32)), (0, .ref (eA E 3)), (1, .ref (eK E i))]) dX3_putText_1 rfl (by decide) rfl ?_
  refine r_sub [1, 2, 0] rfl ?_
  exact t
set_option maxRecDepth 20000 in
theorem sg_X3_putText_2 (E : En) (d : Nat) (g : Ga) (i : Nat) (hi : i < 8) (x2 : Int32) (h : Hp) (P : Hp → Prop) (t : SpI E d MJ0_length_8abf5 [.ref (eK E i)] h (fun v1 h1 => (v1 ≤ x2 → (P h1)) ∧ (¬ v1 ≤ x2 → (SpI E d MJ0_charAt_5068e [.ref (eK E i), .int x2] h1 (fun v3 h3 => SpV E d MX3_put [.ref (eA E 3), .int v3] h3 (fun h4 => VX3_putText_2 E d g P i (x2 + (1 : Int32)) h4)))))) : VX3_putText_2 E d g P i x2 h := by
  refine r_iload_n (q := 2) dX3_putText_2 rfl rfl ?_
  refine r_aload_n (q := 1) dX3_putText_3 rfl rfl ?_
  refine r_kVI (i := i) (As := []) dX3_putText_4 mkJ0_length_8abf5 lkX3_99 hi rfl (by decide) rfl (Nat.le_of_ble_eq_true rfl) z00 rfl t ?_
  intro v1 h1 t
  refine r_icmp_ge (tgt := 25) dX3_putText_7 (by decide) (fun q2 => ?_) (fun q2 => ?_)
  · have t := t.1 q2
    exact r_vret dX3_putText_25 rfl t
  · have t := t.2 q2
    refine r_aload_n (q := 0) dX3_putText_10 rfl rfl ?_
    refine r_aload_n (q := 1) dX3_putText_11 rfl rfl ?_
    refine r_iload_n (q := 2) dX3_putText_12 rfl rfl ?_
    refine r_kVI (i := i) (As := [.int x2]) dX3_putText_13 mkJ0_charAt_5068e lkX3_75 hi rfl (by decide) rfl (Nat.le_of_ble_eq_true rfl) z00 rfl t ?_
    intro v3 h3 t
    refine r_cVV (c := 3) (As := [.int v3]) dX3_putText_16 mkX3_put lkX3_58 lay_3 rfl rfl rfl (by decide) rfl (Nat.le_of_ble_eq_true rfl) z00 t ?_
    intro h4 t
    refine r_iinc (k := 2) (v := x2 + (1 : Int32)) (lv' := [(2, .int (x2 + (1 : Int32))), (0, .ref (eA E 3)), (1, .ref (eK E i))]) dX3_putText_19 rfl rfl (by decide) rfl ?_
    refine r_goto (tgt := 2) dX3_putText_22 (by decide) ?_
    refine r_sub [1, 2, 0] rfl ?_
    exact t
theorem dX3_put_0 : decode cX3_put 0 = .ok (.aload_n 0, 1) := by decide +kernel
theorem dX3_put_1 : decode cX3_put 1 = .ok (.getfield 15, 3) := by decide +kernel
theorem dX3_put_4 : decode cX3_put 4 = .ok (.aload_n 0, 1) := by decide +kernel
theorem dX3_put_5 : decode cX3_put 5 = .ok (.getfield 11, 3) := by decide +kernel
theorem dX3_put_8 : decode cX3_put 8 = .ok (.arraylength, 1) := by decide +kernel
theorem dX3_put_9 : decode cX3_put 9 = .ok (.if_icmp .ge 24, 3) := by decide +kernel
theorem dX3_put_12 : decode cX3_put 12 = .ok (.aload_n 0, 1) := by decide +kernel
theorem dX3_put_13 : decode cX3_put 13 = .ok (.getfield 11, 3) := by decide +kernel
theorem dX3_put_16 : decode cX3_put 16 = .ok (.aload_n 0, 1) := by decide +kernel
theorem dX3_put_17 : decode cX3_put 17 = .ok (.getfield 15, 3) := by decide +kernel
theorem dX3_put_20 : decode cX3_put 20 = .ok (.iload_n 1, 1) := by decide +kernel
theorem dX3_put_21 : decode cX3_put 21 = .ok (.i2b, 1) := by decide +kernel
theorem dX3_put_22 : decode cX3_put 22 = .ok (.bastore, 1) := by decide +kernel
theorem dX3_put_23 : decode cX3_put 23 = .ok (.aload_n 0, 1) := by decide +kernel
theorem dX3_put_24 : decode cX3_put 24 = .ok (.dup, 1) := by decide +kernel
theorem dX3_put_25 : decode cX3_put 25 = .ok (.getfield 15, 3) := by decide +kernel
theorem dX3_put_28 : decode cX3_put 28 = .ok (.iconst 1, 1) := by decide +kernel
theorem dX3_put_29 : decode cX3_put 29 = .ok (.iadd, 1) := by decide +kernel
theorem dX3_put_30 : decode cX3_put 30 = .ok (.putfield 15, 3) := by decide +kernel
theorem dX3_put_33 : decode cX3_put 33 = .ok (.return_, 1) := by decide +kernel
set_option maxRecDepth 20000 in
theorem wp_X3_put (E : En) (d : Nat) (a1 : Int32) (h : Hp) (P : Hp → Prop) (t : ((2232 : Int32) ≤ (h.1 3 1) → (P h)) ∧ (¬ (2232 : Int32) ≤ (h.1 3 1) → (vp_in (h.1 3 1) 2232 ∧ (P (sI (sI h 4 ((h.1 3 1).toNatClampNeg) (vp_nar .byte a1.toInt8.toInt32)) 3 1 ((h.1 3 1) + (1 : Int32))))))) : SpV E d MX3_put [.ref (eA E 3), .int a1] h P := by
  refine SpV.of (lv0 := [(0, .ref (eA E 3)), (1, .int a1)]) (by decide) (Nat.le_of_ble_eq_true rfl) rfl (fun g => ?_)
  refine r_aload_n (q := 0) dX3_put_0 rfl rfl ?_
  refine r_getI (c := 3) dX3_put_1 flX3_15 lay_3 rfl ?_
  refine r_aload_n (q := 0) dX3_put_4 rfl rfl ?_
  refine r_getR (c := 3) (c2 := 4) dX3_put_5 flX3_11 lay_3 rfl ?_
  refine r_alen (c := 4) (v := (2232 : Int32)) dX3_put_8 lay_4 (by decide) rfl ?_
  refine r_icmp_ge (tgt := 33) dX3_put_9 (by decide) (fun q1 => ?_) (fun q1 => ?_)
  · have t := t.1 q1
    exact r_vret dX3_put_33 rfl t
  · have t := t.2 q1
    refine r_aload_n (q := 0) dX3_put_12 rfl rfl ?_
    refine r_getR (c := 3) (c2 := 4) dX3_put_13 flX3_11 lay_3 rfl ?_
    refine r_aload_n (q := 0) dX3_put_16 rfl rfl ?_
    refine r_getI (c := 3) dX3_put_17 flX3_15 lay_3 rfl ?_
    refine r_iload_n (q := 1) dX3_put_20 rfl rfl ?_
    refine r_i2b dX3_put_21 ?_
    obtain ⟨c2, t⟩ := t
    refine r_bast (c := 4) dX3_put_22 lay_4 c2 ?_
    refine r_aload_n (q := 0) dX3_put_23 rfl rfl ?_
    refine r_dup dX3_put_24 rfl ?_
    refine r_getIv (c := 3) (v := h.1 3 1) dX3_put_25 flX3_15 lay_3 rfl rfl ?_
    refine r_iconst (v := (1 : Int32)) dX3_put_28 rfl ?_
    refine r_iadd dX3_put_29 ?_
    refine r_putI (c := 3) dX3_put_30 flX3_15 lay_3 rfl ?_
    exact r_vret dX3_put_33 rfl t
theorem dX3_putName_0 : decode cX3_putName 0 = .ok (.bipush 56, 2) := by decide +kernel
theorem dX3_putName_2 : decode cX3_putName 2 = .ok (.istore_n 3, 1) := by decide +kernel
theorem dX3_putName_3 : decode cX3_putName 3 = .ok (.iload_n 3, 1) := by decide +kernel
theorem dX3_putName_4 : decode cX3_putName 4 = .ok (.ifCond .lt 30, 3) := by decide +kernel
theorem dX3_putName_7 : decode cX3_putName 7 = .ok (.lload_n 1, 1) := by decide +kernel
theorem dX3_putName_8 : decode cX3_putName 8 = .ok (.iload_n 3, 1) := by decide +kernel
theorem dX3_putName_9 : decode cX3_putName 9 = .ok (.lushr, 1) := by decide +kernel
theorem dX3_putName_10 : decode cX3_putName 10 = .ok (.l2i, 1) := by decide +kernel
theorem dX3_putName_11 : decode cX3_putName 11 = .ok (.sipush 255, 3) := by decide +kernel
theorem dX3_putName_14 : decode cX3_putName 14 = .ok (.iand, 1) := by decide +kernel
theorem dX3_putName_15 : decode cX3_putName 15 = .ok (.istore 4, 2) := by decide +kernel
theorem dX3_putName_17 : decode cX3_putName 17 = .ok (.iload 4, 2) := by decide +kernel
theorem dX3_putName_19 : decode cX3_putName 19 = .ok (.ifCond .eq 9, 3) := by decide +kernel
theorem dX3_putName_22 : decode cX3_putName 22 = .ok (.aload_n 0, 1) := by decide +kernel
theorem dX3_putName_23 : decode cX3_putName 23 = .ok (.iload 4, 2) := by decide +kernel
theorem dX3_putName_25 : decode cX3_putName 25 = .ok (.invokevirtual 58, 3) := by decide +kernel
theorem dX3_putName_28 : decode cX3_putName 28 = .ok (.iinc 3 (-8), 3) := by decide +kernel
theorem dX3_putName_31 : decode cX3_putName 31 = .ok (.goto (-28), 3) := by decide +kernel
theorem dX3_putName_34 : decode cX3_putName 34 = .ok (.return_, 1) := by decide +kernel
abbrev VX3_putName_3 (E : En) (d : Nat) (g : Ga) (P : Hp → Prop) (x1 : Int64) (x3 : Int32) (h : Hp) : Prop := V E MX3_putName (RM (d + 1) 0) g (QQ E g (QV E P) 0 0) 0 0 h 3 [(0, .ref (eA E 3)), (1, .long x1), (3, .int x3)] []
set_option maxRecDepth 20000 in
theorem wp_X3_putName (E : En) (d : Nat) (a1 : Int64) (h : Hp) (P : Hp → Prop) (t : ∀ g : Ga, VX3_putName_3 E d g P a1 (56 : Int32) h) : SpV E (d + 1) MX3_putName [.ref (eA E 3), .long a1] h P := by
  refine SpV.of (lv0 := [(0, .ref (eA E 3)), (1, .long a1)]) (by decide) (Nat.le_of_ble_eq_true rfl) rfl (fun g => ?_)
  have t := t g
  refine r_bipush (v := (56 : Int32)) dX3_putName_0 rfl ?_
  refine r_istore_n (lv' := [(3, .int (56 : Int32)), (0, .ref (eA E 3)), (1, .long a1)]) dX3_putName_2 rfl (by decide) rfl ?_
  refine r_sub [1, 2, 0] rfl ?_
  exact t
set_option maxRecDepth 20000 in
theorem sg_X3_putName_3 (E : En) (d : Nat) (g : Ga) (x1 : Int64) (x3 : Int32) (h : Hp) (P : Hp → Prop) (t : (x3 < 0 → (P h)) ∧ (¬ x3 < 0 → ((((((x1.toUInt64 >>> (x3.toInt64.toUInt64 &&& Int64.toUInt64 63)).toInt64).toInt32) &&& (255 : Int32)) = 0 → (VX3_putName_3 E d g P x1 (x3 + (-8 : Int32)) h)) ∧ (¬ ((((x1.toUInt64 >>> (x3.toInt64.toUInt64 &&& Int64.toUInt64 63)).toInt64).toInt32) &&& (255 : Int32)) = 0 → (SpV E d MX3_put [.ref (eA E 3), .int ((((x1.toUInt64 >>> (x3.toInt64.toUInt64 &&& Int64.toUInt64 63)).toInt64).toInt32) &&& (255 : Int32))] h (fun h3 => VX3_putName_3 E d g P x1 (x3 + (-8 : Int32)) h3)))))) : VX3_putName_3 E d g P x1 x3 h := by
  refine r_iload_n (q := 2) dX3_putName_3 rfl rfl ?_
  refine r_if_lt (tgt := 34) dX3_putName_4 (by decide) (fun q1 => ?_) (fun q1 => ?_)
  · have t := t.1 q1
    exact r_vret dX3_putName_34 rfl t
  · have t := t.2 q1
    refine r_lload_n (q := 1) dX3_putName_7 rfl rfl ?_
    refine r_iload_n (q := 2) dX3_putName_8 rfl rfl ?_
    refine r_lushr dX3_putName_9 ?_
    refine r_l2i dX3_putName_10 ?_
    refine r_sipush (v := (255 : Int32)) dX3_putName_11 rfl ?_
    refine r_iand dX3_putName_14 ?_
    refine r_istore (lv' := [(4, .int ((((x1.toUInt64 >>> (x3.toInt64.toUInt64 &&& Int64.toUInt64 63)).toInt64).toInt32) &&& (255 : Int32))), (0, .ref (eA E 3)), (1, .long x1), (3, .int x3)]) dX3_putName_15 (by decide) rfl ?_
    refine r_iload (q := 0) dX3_putName_17 rfl ?_
    refine r_if_eq (tgt := 28) dX3_putName_19 (by decide) (fun q2 => ?_) (fun q2 => ?_)
    · have t := t.1 q2
      refine r_iinc (k := 3) (v := x3 + (-8 : Int32)) (lv' := [(3, .int (x3 + (-8 : Int32))), (4, .int ((((x1.toUInt64 >>> (x3.toInt64.toUInt64 &&& Int64.toUInt64 63)).toInt64).toInt32) &&& (255 : Int32))), (0, .ref (eA E 3)), (1, .long x1)]) dX3_putName_28 rfl rfl (by decide) rfl ?_
      refine r_goto (tgt := 3) dX3_putName_31 (by decide) ?_
      refine r_sub [2, 3, 0] rfl ?_
      exact t
    · have t := t.2 q2
      refine r_aload_n (q := 1) dX3_putName_22 rfl rfl ?_
      refine r_iload (q := 0) dX3_putName_23 rfl ?_
      refine r_cVV (c := 3) (As := [.int ((((x1.toUInt64 >>> (x3.toInt64.toUInt64 &&& Int64.toUInt64 63)).toInt64).toInt32) &&& (255 : Int32))]) dX3_putName_25 mkX3_put lkX3_58 lay_3 rfl rfl rfl (by decide) rfl (Nat.le_of_ble_eq_true rfl) z00 t ?_
      intro h3 t
      refine r_iinc (k := 3) (v := x3 + (-8 : Int32)) (lv' := [(3, .int (x3 + (-8 : Int32))), (4, .int ((((x1.toUInt64 >>> (x3.toInt64.toUInt64 &&& Int64.toUInt64 63)).toInt64).toInt32) &&& (255 : Int32))), (0, .ref (eA E 3)), (1, .long x1)]) dX3_putName_28 rfl rfl (by decide) rfl ?_
      refine r_goto (tgt := 3) dX3_putName_31 (by decide) ?_
      refine r_sub [2, 3, 0] rfl ?_
      exact t
theorem dX3_putNumber_0 : decode cX3_putNumber 0 = .ok (.sipush 1000, 3) := by decide +kernel
theorem dX3_putNumber_3 : decode cX3_putNumber 3 = .ok (.istore_n 2, 1) := by decide +kernel
theorem dX3_putNumber_4 : decode cX3_putNumber 4 = .ok (.iload_n 2, 1) := by decide +kernel
theorem dX3_putNumber_5 : decode cX3_putNumber 5 = .ok (.ifCond .le 34, 3) := by decide +kernel
theorem dX3_putNumber_8 : decode cX3_putNumber 8 = .ok (.iload_n 1, 1) := by decide +kernel
theorem dX3_putNumber_9 : decode cX3_putNumber 9 = .ok (.iload_n 2, 1) := by decide +kernel
theorem dX3_putNumber_10 : decode cX3_putNumber 10 = .ok (.if_icmp .ge 8, 3) := by decide +kernel
theorem dX3_putNumber_13 : decode cX3_putNumber 13 = .ok (.iload_n 2, 1) := by decide +kernel
theorem dX3_putNumber_14 : decode cX3_putNumber 14 = .ok (.iconst 1, 1) := by decide +kernel
theorem dX3_putNumber_15 : decode cX3_putNumber 15 = .ok (.if_icmp .ne 16, 3) := by decide +kernel
theorem dX3_putNumber_18 : decode cX3_putNumber 18 = .ok (.aload_n 0, 1) := by decide +kernel
theorem dX3_putNumber_19 : decode cX3_putNumber 19 = .ok (.bipush 48, 2) := by decide +kernel
theorem dX3_putNumber_21 : decode cX3_putNumber 21 = .ok (.iload_n 1, 1) := by decide +kernel
theorem dX3_putNumber_22 : decode cX3_putNumber 22 = .ok (.iload_n 2, 1) := by decide +kernel
theorem dX3_putNumber_23 : decode cX3_putNumber 23 = .ok (.idiv, 1) := by decide +kernel
theorem dX3_putNumber_24 : decode cX3_putNumber 24 = .ok (.bipush 10, 2) := by decide +kernel
theorem dX3_putNumber_26 : decode cX3_putNumber 26 = .ok (.irem, 1) := by decide +kernel
theorem dX3_putNumber_27 : decode cX3_putNumber 27 = .ok (.iadd, 1) := by decide +kernel
theorem dX3_putNumber_28 : decode cX3_putNumber 28 = .ok (.invokevirtual 58, 3) := by decide +kernel
theorem dX3_putNumber_31 : decode cX3_putNumber 31 = .ok (.iload_n 2, 1) := by decide +kernel
theorem dX3_putNumber_32 : decode cX3_putNumber 32 = .ok (.bipush 10, 2) := by decide +kernel
theorem dX3_putNumber_34 : decode cX3_putNumber 34 = .ok (.idiv, 1) := by decide +kernel
theorem dX3_putNumber_35 : decode cX3_putNumber 35 = .ok (.istore_n 2, 1) := by decide +kernel
theorem dX3_putNumber_36 : decode cX3_putNumber 36 = .ok (.goto (-32), 3) := by decide +kernel
theorem dX3_putNumber_39 : decode cX3_putNumber 39 = .ok (.return_, 1) := by decide +kernel
abbrev VX3_putNumber_4 (E : En) (d : Nat) (g : Ga) (P : Hp → Prop) (x1 : Int32) (x2 : Int32) (h : Hp) : Prop := V E MX3_putNumber (RM (d + 1) 0) g (QQ E g (QV E P) 0 0) 0 0 h 4 [(0, .ref (eA E 3)), (1, .int x1), (2, .int x2)] []
set_option maxRecDepth 20000 in
theorem wp_X3_putNumber (E : En) (d : Nat) (a1 : Int32) (h : Hp) (P : Hp → Prop) (t : ∀ g : Ga, VX3_putNumber_4 E d g P a1 (1000 : Int32) h) : SpV E (d + 1) MX3_putNumber [.ref (eA E 3), .int a1] h P := by
  refine SpV.of (lv0 := [(0, .ref (eA E 3)), (1, .int a1)]) (by decide) (Nat.le_of_ble_eq_true rfl) rfl (fun g => ?_)
  have t := t g
  refine r_sipush (v := (1000 : Int32)) dX3_putNumber_0 rfl ?_
  refine r_istore_n (lv' := [(2, .int (1000 : Int32)), (0, .ref (eA E 3)), (1, .int a1)]) dX3_putNumber_3 rfl (by decide) rfl ?_
  refine r_sub [1, 2, 0] rfl ?_
  exact t
set_option maxRecDepth 20000 in
theorem sg_X3_putNumber_4 (E : En) (d : Nat) (g : Ga) (x1 : Int32) (x2 : Int32) (h : Hp) (P : Hp → Prop) (t : (x2 ≤ 0 → (P h)) ∧ (¬ x2 ≤ 0 → ((x2 ≤ x1 → (¬ x2 = 0 ∧ (SpV E d MX3_put [.ref (eA E 3), .int ((48 : Int32) + ((x1 / x2) - (x1 / x2) / (10 : Int32) * (10 : Int32)))] h (fun h3 => VX3_putNumber_4 E d g P x1 (x2 / (10 : Int32)) h3)))) ∧ (¬ x2 ≤ x1 → ((¬ x2 = (1 : Int32) → (VX3_putNumber_4 E d g P x1 (x2 / (10 : Int32)) h)) ∧ (x2 = (1 : Int32) → (¬ x2 = 0 ∧ (SpV E d MX3_put [.ref (eA E 3), .int ((48 : Int32) + ((x1 / x2) - (x1 / x2) / (10 : Int32) * (10 : Int32)))] h (fun h5 => VX3_putNumber_4 E d g P x1 (x2 / (10 : Int32)) h5))))))))) : VX3_putNumber_4 E d g P x1 x2 h := by
  refine r_iload_n (q := 2) dX3_putNumber_4 rfl rfl ?_
  refine r_if_le (tgt := 39) dX3_putNumber_5 (by decide) (fun q1 => ?_) (fun q1 => ?_)
  · have t := t.1 q1
    exact r_vret dX3_putNumber_39 rfl t
  · have t := t.2 q1
    refine r_iload_n (q := 1) dX3_putNumber_8 rfl rfl ?_
    refine r_iload_n (q := 2) dX3_putNumber_9 rfl rfl ?_
    refine r_icmp_ge (tgt := 18) dX3_putNumber_10 (by decide) (fun q2 => ?_) (fun q2 => ?_)
    · have t := t.1 q2
      refine r_aload_n (q := 0) dX3_putNumber_18 rfl rfl ?_
      refine r_bipush (v := (48 : Int32)) dX3_putNumber_19 rfl ?_
      refine r_iload_n (q := 1) dX3_putNumber_21 rfl rfl ?_
      refine r_iload_n (q := 2) dX3_putNumber_22 rfl rfl ?_
      obtain ⟨c0, t⟩ := t
      refine r_idiv dX3_putNumber_23 c0 ?_
      refine r_bipush (v := (10 : Int32)) dX3_putNumber_24 rfl ?_
      refine r_irem dX3_putNumber_26 (by decide) ?_
      refine r_iadd dX3_putNumber_27 ?_
      refine r_cVV (c := 3) (As := [.int ((48 : Int32) + ((x1 / x2) - (x1 / x2) / (10 : Int32) * (10 : Int32)))]) dX3_putNumber_28 mkX3_put lkX3_58 lay_3 rfl rfl rfl (by decide) rfl (Nat.le_of_ble_eq_true rfl) z00 t ?_
      intro h3 t
      refine r_iload_n (q := 2) dX3_putNumber_31 rfl rfl ?_
      refine r_bipush (v := (10 : Int32)) dX3_putNumber_32 rfl ?_
      refine r_idiv dX3_putNumber_34 (by decide) ?_
      refine r_istore_n (lv' := [(2, .int (x2 / (10 : Int32))), (0, .ref (eA E 3)), (1, .int x1)]) dX3_putNumber_35 rfl (by decide) rfl ?_
      refine r_goto (tgt := 4) dX3_putNumber_36 (by decide) ?_
      refine r_sub [1, 2, 0] rfl ?_
      exact t
    · have t := t.2 q2
      refine r_iload_n (q := 2) dX3_putNumber_13 rfl rfl ?_
      refine r_iconst (v := (1 : Int32)) dX3_putNumber_14 rfl ?_
      refine r_icmp_ne (tgt := 31) dX3_putNumber_15 (by decide) (fun q4 => ?_) (fun q4 => ?_)
      · have t := t.1 q4
        refine r_iload_n (q := 2) dX3_putNumber_31 rfl rfl ?_
        refine r_bipush (v := (10 : Int32)) dX3_putNumber_32 rfl ?_
        refine r_idiv dX3_putNumber_34 (by decide) ?_
        refine r_istore_n (lv' := [(2, .int (x2 / (10 : Int32))), (0, .ref (eA E 3)), (1, .int x1)]) dX3_putNumber_35 rfl (by decide) rfl ?_
        refine r_goto (tgt := 4) dX3_putNumber_36 (by decide) ?_
        refine r_sub [1, 2, 0] rfl ?_
        exact t
      · have t := t.2 q4
        refine r_aload_n (q := 0) dX3_putNumber_18 rfl rfl ?_
        refine r_bipush (v := (48 : Int32)) dX3_putNumber_19 rfl ?_
        refine r_iload_n (q := 1) dX3_putNumber_21 rfl rfl ?_
        refine r_iload_n (q := 2) dX3_putNumber_22 rfl rfl ?_
        obtain ⟨c0, t⟩ := t
        refine r_idiv dX3_putNumber_23 c0 ?_
        refine r_bipush (v := (10 : Int32)) dX3_putNumber_24 rfl ?_
        refine r_irem dX3_putNumber_26 (by decide) ?_
        refine r_iadd dX3_putNumber_27 ?_
        refine r_cVV (c := 3) (As := [.int ((48 : Int32) + ((x1 / x2) - (x1 / x2) / (10 : Int32) * (10 : Int32)))]) dX3_putNumber_28 mkX3_put lkX3_58 lay_3 rfl rfl rfl (by decide) rfl (Nat.le_of_ble_eq_true rfl) z00 t ?_
        intro h5 t
        refine r_iload_n (q := 2) dX3_putNumber_31 rfl rfl ?_
        refine r_bipush (v := (10 : Int32)) dX3_putNumber_32 rfl ?_
        refine r_idiv dX3_putNumber_34 (by decide) ?_
        refine r_istore_n (lv' := [(2, .int (x2 / (10 : Int32))), (0, .ref (eA E 3)), (1, .int x1)]) dX3_putNumber_35 rfl (by decide) rfl ?_
        refine r_goto (tgt := 4) dX3_putNumber_36 (by decide) ?_
        refine r_sub [1, 2, 0] rfl ?_
        exact t
theorem dX3_putOperand_0 : decode cX3_putOperand 0 = .ok (.iload_n 1, 1) := by decide +kernel
theorem dX3_putOperand_1 : decode cX3_putOperand 1 = .ok (.ifCond .ge 19, 3) := by decide +kernel
theorem dX3_putOperand_4 : decode cX3_putOperand 4 = .ok (.aload_n 0, 1) := by decide +kernel
theorem dX3_putOperand_5 : decode cX3_putOperand 5 = .ok (.bipush 114, 2) := by decide +kernel
theorem dX3_putOperand_7 : decode cX3_putOperand 7 = .ok (.invokevirtual 58, 3) := by decide +kernel
theorem dX3_putOperand_10 : decode cX3_putOperand 10 = .ok (.aload_n 0, 1) := by decide +kernel
theorem dX3_putOperand_11 : decode cX3_putOperand 11 = .ok (.iload_n 1, 1) := by decide +kernel
theorem dX3_putOperand_12 : decode cX3_putOperand 12 = .ok (.iconst (-1), 1) := by decide +kernel
theorem dX3_putOperand_13 : decode cX3_putOperand 13 = .ok (.ixor, 1) := by decide +kernel
theorem dX3_putOperand_14 : decode cX3_putOperand 14 = .ok (.invokevirtual 54, 3) := by decide +kernel
theorem dX3_putOperand_17 : decode cX3_putOperand 17 = .ok (.goto 8, 3) := by decide +kernel
theorem dX3_putOperand_20 : decode cX3_putOperand 20 = .ok (.aload_n 0, 1) := by decide +kernel
theorem dX3_putOperand_21 : decode cX3_putOperand 21 = .ok (.iload_n 1, 1) := by decide +kernel
theorem dX3_putOperand_22 : decode cX3_putOperand 22 = .ok (.invokevirtual 54, 3) := by decide +kernel
theorem dX3_putOperand_25 : decode cX3_putOperand 25 = .ok (.return_, 1) := by decide +kernel
set_option maxRecDepth 20000 in
theorem wp_X3_putOperand (E : En) (d : Nat) (a1 : Int32) (h : Hp) (P : Hp → Prop) (t : (0 ≤ a1 → (SpV E d MX3_putNumber [.ref (eA E 3), .int a1] h (fun h2 => P h2))) ∧ (¬ 0 ≤ a1 → (SpV E d MX3_put [.ref (eA E 3), .int (114 : Int32)] h (fun h3 => SpV E d MX3_putNumber [.ref (eA E 3), .int (a1 ^^^ (-1 : Int32))] h3 (fun h4 => P h4))))) : SpV E (d + 1) MX3_putOperand [.ref (eA E 3), .int a1] h P := by
  refine SpV.of (lv0 := [(0, .ref (eA E 3)), (1, .int a1)]) (by decide) (Nat.le_of_ble_eq_true rfl) rfl (fun g => ?_)
  refine r_iload_n (q := 1) dX3_putOperand_0 rfl rfl ?_
  refine r_if_ge (tgt := 20) dX3_putOperand_1 (by decide) (fun q1 => ?_) (fun q1 => ?_)
  · have t := t.1 q1
    refine r_aload_n (q := 0) dX3_putOperand_20 rfl rfl ?_
    refine r_iload_n (q := 1) dX3_putOperand_21 rfl rfl ?_
    refine r_cVV (c := 3) (As := [.int a1]) dX3_putOperand_22 mkX3_putNumber lkX3_54 lay_3 rfl rfl rfl (by decide) rfl (Nat.le_of_ble_eq_true rfl) z00 t ?_
    intro h2 t
    exact r_vret dX3_putOperand_25 rfl t
  · have t := t.2 q1
    refine r_aload_n (q := 0) dX3_putOperand_4 rfl rfl ?_
    refine r_bipush (v := (114 : Int32)) dX3_putOperand_5 rfl ?_
    refine r_cVV (c := 3) (As := [.int (114 : Int32)]) dX3_putOperand_7 mkX3_put lkX3_58 lay_3 rfl rfl rfl (by decide) rfl (Nat.le_of_ble_eq_true rfl) z00 t ?_
    intro h3 t
    refine r_aload_n (q := 0) dX3_putOperand_10 rfl rfl ?_
    refine r_iload_n (q := 1) dX3_putOperand_11 rfl rfl ?_
    refine r_iconst (v := (-1 : Int32)) dX3_putOperand_12 rfl ?_
    refine r_ixor dX3_putOperand_13 ?_
    refine r_cVV (c := 3) (As := [.int (a1 ^^^ (-1 : Int32))]) dX3_putOperand_14 mkX3_putNumber lkX3_54 lay_3 rfl rfl rfl (by decide) rfl (Nat.le_of_ble_eq_true rfl) z00 t ?_
    intro h4 t
    refine r_goto (tgt := 25) dX3_putOperand_17 (by decide) ?_
    exact r_vret dX3_putOperand_25 rfl t
theorem dX3_putOperation_0 : decode cX3_putOperation 0 = .ok (.aload_n 0, 1) := by decide +kernel
theorem dX3_putOperation_1 : decode cX3_putOperation 1 = .ok (.ldc 34, 2) := by decide +kernel
theorem dX3_putOperation_3 : decode cX3_putOperation 3 = .ok (.invokevirtual 36, 3) := by decide +kernel
theorem dX3_putOperation_6 : decode cX3_putOperation 6 = .ok (.aload_n 0, 1) := by decide +kernel
theorem dX3_putOperation_7 : decode cX3_putOperation 7 = .ok (.aload_n 1, 1) := by decide +kernel
theorem dX3_putOperation_8 : decode cX3_putOperation 8 = .ok (.getfield 40, 3) := by decide +kernel
theorem dX3_putOperation_11 : decode cX3_putOperation 11 = .ok (.iload_n 2, 1) := by decide +kernel
theorem dX3_putOperation_12 : decode cX3_putOperation 12 = .ok (.laload, 1) := by decide +kernel
theorem dX3_putOperation_13 : decode cX3_putOperation 13 = .ok (.invokevirtual 44, 3) := by decide +kernel
theorem dX3_putOperation_16 : decode cX3_putOperation 16 = .ok (.aload_n 0, 1) := by decide +kernel
theorem dX3_putOperation_17 : decode cX3_putOperation 17 = .ok (.ldc 48, 2) := by decide +kernel
theorem dX3_putOperation_19 : decode cX3_putOperation 19 = .ok (.invokevirtual 36, 3) := by decide +kernel
theorem dX3_putOperation_22 : decode cX3_putOperation 22 = .ok (.aload_n 0, 1) := by decide +kernel
theorem dX3_putOperation_23 : decode cX3_putOperation 23 = .ok (.aload_n 1, 1) := by decide +kernel
theorem dX3_putOperation_24 : decode cX3_putOperation 24 = .ok (.getfield 50, 3) := by decide +kernel
theorem dX3_putOperation_27 : decode cX3_putOperation 27 = .ok (.iload_n 2, 1) := by decide +kernel
theorem dX3_putOperation_28 : decode cX3_putOperation 28 = .ok (.iaload, 1) := by decide +kernel
theorem dX3_putOperation_29 : decode cX3_putOperation 29 = .ok (.invokevirtual 54, 3) := by decide +kernel
theorem dX3_putOperation_32 : decode cX3_putOperation 32 = .ok (.aload_n 0, 1) := by decide +kernel
theorem dX3_putOperation_33 : decode cX3_putOperation 33 = .ok (.bipush 32, 2) := by decide +kernel
theorem dX3_putOperation_35 : decode cX3_putOperation 35 = .ok (.invokevirtual 58, 3) := by decide +kernel
theorem dX3_putOperation_38 : decode cX3_putOperation 38 = .ok (.aload_n 0, 1) := by decide +kernel
theorem dX3_putOperation_39 : decode cX3_putOperation 39 = .ok (.aload_n 1, 1) := by decide +kernel
theorem dX3_putOperation_40 : decode cX3_putOperation 40 = .ok (.getfield 61, 3) := by decide +kernel
theorem dX3_putOperation_43 : decode cX3_putOperation 43 = .ok (.iload_n 2, 1) := by decide +kernel
theorem dX3_putOperation_44 : decode cX3_putOperation 44 = .ok (.iaload, 1) := by decide +kernel
theorem dX3_putOperation_45 : decode cX3_putOperation 45 = .ok (.iconst (-1), 1) := by decide +kernel
theorem dX3_putOperation_46 : decode cX3_putOperation 46 = .ok (.ixor, 1) := by decide +kernel
theorem dX3_putOperation_47 : decode cX3_putOperation 47 = .ok (.invokevirtual 64, 3) := by decide +kernel
theorem dX3_putOperation_50 : decode cX3_putOperation 50 = .ok (.aload_n 0, 1) := by decide +kernel
theorem dX3_putOperation_51 : decode cX3_putOperation 51 = .ok (.bipush 61, 2) := by decide +kernel
theorem dX3_putOperation_53 : decode cX3_putOperation 53 = .ok (.invokevirtual 58, 3) := by decide +kernel
theorem dX3_putOperation_56 : decode cX3_putOperation 56 = .ok (.aload_n 0, 1) := by decide +kernel
theorem dX3_putOperation_57 : decode cX3_putOperation 57 = .ok (.aload_n 1, 1) := by decide +kernel
theorem dX3_putOperation_58 : decode cX3_putOperation 58 = .ok (.getfield 67, 3) := by decide +kernel
theorem dX3_putOperation_61 : decode cX3_putOperation 61 = .ok (.iload_n 2, 1) := by decide +kernel
theorem dX3_putOperation_62 : decode cX3_putOperation 62 = .ok (.iaload, 1) := by decide +kernel
theorem dX3_putOperation_63 : decode cX3_putOperation 63 = .ok (.invokevirtual 64, 3) := by decide +kernel
theorem dX3_putOperation_66 : decode cX3_putOperation 66 = .ok (.aload_n 1, 1) := by decide +kernel
theorem dX3_putOperation_67 : decode cX3_putOperation 67 = .ok (.getfield 70, 3) := by decide +kernel
theorem dX3_putOperation_70 : decode cX3_putOperation 70 = .ok (.iload_n 2, 1) := by decide +kernel
theorem dX3_putOperation_71 : decode cX3_putOperation 71 = .ok (.iaload, 1) := by decide +kernel
theorem dX3_putOperation_72 : decode cX3_putOperation 72 = .ok (.istore_n 3, 1) := by decide +kernel
theorem dX3_putOperation_73 : decode cX3_putOperation 73 = .ok (.iload_n 3, 1) := by decide +kernel
theorem dX3_putOperation_74 : decode cX3_putOperation 74 = .ok (.ifCond .le 25, 3) := by decide +kernel
theorem dX3_putOperation_77 : decode cX3_putOperation 77 = .ok (.aload_n 0, 1) := by decide +kernel
theorem dX3_putOperation_78 : decode cX3_putOperation 78 = .ok (.ldc 73, 2) := by decide +kernel
theorem dX3_putOperation_80 : decode cX3_putOperation 80 = .ok (.iload_n 3, 1) := by decide +kernel
theorem dX3_putOperation_81 : decode cX3_putOperation 81 = .ok (.iconst 1, 1) := by decide +kernel
theorem dX3_putOperation_82 : decode cX3_putOperation 82 = .ok (.isub, 1) := by decide +kernel
theorem dX3_putOperation_83 : decode cX3_putOperation 83 = .ok (.invokevirtual 75, 3) := by decide +kernel
theorem dX3_putOperation_86 : decode cX3_putOperation 86 = .ok (.invokevirtual 58, 3) := by decide +kernel
theorem dX3_putOperation_89 : decode cX3_putOperation 89 = .ok (.aload_n 0, 1) := by decide +kernel
theorem dX3_putOperation_90 : decode cX3_putOperation 90 = .ok (.aload_n 1, 1) := by decide +kernel
theorem dX3_putOperation_91 : decode cX3_putOperation 91 = .ok (.getfield 81, 3) := by decide +kernel
theorem dX3_putOperation_94 : decode cX3_putOperation 94 = .ok (.iload_n 2, 1) := by decide +kernel
theorem dX3_putOperation_95 : decode cX3_putOperation 95 = .ok (.iaload, 1) := by decide +kernel
theorem dX3_putOperation_96 : decode cX3_putOperation 96 = .ok (.invokevirtual 64, 3) := by decide +kernel
theorem dX3_putOperation_99 : decode cX3_putOperation 99 = .ok (.aload_n 0, 1) := by decide +kernel
theorem dX3_putOperation_100 : decode cX3_putOperation 100 = .ok (.bipush 59, 2) := by decide +kernel
theorem dX3_putOperation_102 : decode cX3_putOperation 102 = .ok (.invokevirtual 58, 3) := by decide +kernel
theorem dX3_putOperation_105 : decode cX3_putOperation 105 = .ok (.return_, 1) := by decide +kernel
set_option maxRecDepth 20000 in
theorem wp_X3_putOperation (E : En) (d : Nat) (a2 : Int32) (h : Hp) (P : Hp → Prop) (t : SpV E d MX3_putText [.ref (eA E 3), .ref (eK E 2)] h (fun h1 => vp_in a2 12 ∧ (SpV E d MX3_putName [.ref (eA E 3), .long (h1.2 6 a2.toNatClampNeg)] h1 (fun h3 => SpV E d MX3_putText [.ref (eA E 3), .ref (eK E 3)] h3 (fun h4 => vp_in a2 12 ∧ (SpV E d MX3_putNumber [.ref (eA E 3), .int (h4.1 7 a2.toNatClampNeg)] h4 (fun h6 => SpV E d MX3_put [.ref (eA E 3), .int (32 : Int32)] h6 (fun h7 => vp_in a2 12 ∧ (SpV E d MX3_putOperand [.ref (eA E 3), .int ((h7.1 8 a2.toNatClampNeg) ^^^ (-1 : Int32))] h7 (fun h9 => SpV E d MX3_put [.ref (eA E 3), .int (61 : Int32)] h9 (fun h10 => vp_in a2 12 ∧ (SpV E d MX3_putOperand [.ref (eA E 3), .int (h10.1 10 a2.toNatClampNeg)] h10 (fun h12 => vp_in a2 12 ∧ (((h12.1 9 a2.toNatClampNeg) ≤ 0 → (SpV E d MX3_put [.ref (eA E 3), .int (59 : Int32)] h12 (fun h15 => P h15))) ∧ (¬ (h12.1 9 a2.toNatClampNeg) ≤ 0 → (SpI E d MJ0_charAt_5068e [.ref (eK E 1), .int ((h12.1 9 a2.toNatClampNeg) - (1 : Int32))] h12 (fun v16 h16 => SpV E d MX3_put [.ref (eA E 3), .int v16] h16 (fun h17 => vp_in a2 12 ∧ (SpV E d MX3_putOperand [.ref (eA E 3), .int (h17.1 11 a2.toNatClampNeg)] h17 (fun h19 => SpV E d MX3_put [.ref (eA E 3), .int (59 : Int32)] h19 (fun h20 => P h20))))))))))))))))))))) : SpV E (d + 1) MX3_putOperation [.ref (eA E 3), .ref (eA E 5), .int a2] h P := by
  refine SpV.of (lv0 := [(0, .ref (eA E 3)), (1, .ref (eA E 5)), (2, .int a2)]) (by decide) (Nat.le_of_ble_eq_true rfl) rfl (fun g => ?_)
  refine r_aload_n (q := 0) dX3_putOperation_0 rfl rfl ?_
  refine r_ldcS (i := 2) (tx := "op ") dX3_putOperation_1 (by decide) ?_
  refine r_cVV (c := 3) (As := [.ref (eK E 2)]) dX3_putOperation_3 mkX3_putText lkX3_36 lay_3 rfl rfl rfl (by decide) rfl (Nat.le_of_ble_eq_true rfl) z00 t ?_
  intro h1 t
  refine r_aload_n (q := 0) dX3_putOperation_6 rfl rfl ?_
  refine r_aload_n (q := 1) dX3_putOperation_7 rfl rfl ?_
  refine r_getR (c := 5) (c2 := 6) dX3_putOperation_8 flX3_40 lay_5 rfl ?_
  refine r_iload_n (q := 2) dX3_putOperation_11 rfl rfl ?_
  obtain ⟨c2, t⟩ := t
  refine r_lald (c := 6) dX3_putOperation_12 lay_6 c2 ?_
  refine r_cVV (c := 3) (As := [.long (h1.2 6 a2.toNatClampNeg)]) dX3_putOperation_13 mkX3_putName lkX3_44 lay_3 rfl rfl rfl (by decide) rfl (Nat.le_of_ble_eq_true rfl) z00 t ?_
  intro h3 t
  refine r_aload_n (q := 0) dX3_putOperation_16 rfl rfl ?_
  refine r_ldcS (i := 3) (tx := " unit ") dX3_putOperation_17 (by decide) ?_
  refine r_cVV (c := 3) (As := [.ref (eK E 3)]) dX3_putOperation_19 mkX3_putText lkX3_36 lay_3 rfl rfl rfl (by decide) rfl (Nat.le_of_ble_eq_true rfl) z00 t ?_
  intro h4 t
  refine r_aload_n (q := 0) dX3_putOperation_22 rfl rfl ?_
  refine r_aload_n (q := 1) dX3_putOperation_23 rfl rfl ?_
  refine r_getR (c := 5) (c2 := 7) dX3_putOperation_24 flX3_50 lay_5 rfl ?_
  refine r_iload_n (q := 2) dX3_putOperation_27 rfl rfl ?_
  obtain ⟨c5, t⟩ := t
  refine r_iald (c := 7) dX3_putOperation_28 lay_7 c5 ?_
  refine r_cVV (c := 3) (As := [.int (h4.1 7 a2.toNatClampNeg)]) dX3_putOperation_29 mkX3_putNumber lkX3_54 lay_3 rfl rfl rfl (by decide) rfl (Nat.le_of_ble_eq_true rfl) z00 t ?_
  intro h6 t
  refine r_aload_n (q := 0) dX3_putOperation_32 rfl rfl ?_
  refine r_bipush (v := (32 : Int32)) dX3_putOperation_33 rfl ?_
  refine r_cVV (c := 3) (As := [.int (32 : Int32)]) dX3_putOperation_35 mkX3_put lkX3_58 lay_3 rfl rfl rfl (by decide) rfl (Nat.le_of_ble_eq_true rfl) z00 t ?_
  intro h7 t
  refine r_aload_n (q := 0) dX3_putOperation_38 rfl rfl ?_
  refine r_aload_n (q := 1) dX3_putOperation_39 rfl rfl ?_
  refine r_getR (c := 5) (c2 := 8) dX3_putOperation_40 flX3_61 lay_5 rfl ?_
  refine r_iload_n (q := 2) dX3_putOperation_43 rfl rfl ?_
  obtain ⟨c8, t⟩ := t
  refine r_iald (c := 8) dX3_putOperation_44 lay_8 c8 ?_
  refine r_iconst (v := (-1 : Int32)) dX3_putOperation_45 rfl ?_
  refine r_ixor dX3_putOperation_46 ?_
  refine r_cVV (c := 3) (As := [.int ((h7.1 8 a2.toNatClampNeg) ^^^ (-1 : Int32))]) dX3_putOperation_47 mkX3_putOperand lkX3_64 lay_3 rfl rfl rfl (by decide) rfl (Nat.le_of_ble_eq_true rfl) z00 t ?_
  intro h9 t
  refine r_aload_n (q := 0) dX3_putOperation_50 rfl rfl ?_
  refine r_bipush (v := (61 : Int32)) dX3_putOperation_51 rfl ?_
  refine r_cVV (c := 3) (As := [.int (61 : Int32)]) dX3_putOperation_53 mkX3_put lkX3_58 lay_3 rfl rfl rfl (by decide) rfl (Nat.le_of_ble_eq_true rfl) z00 t ?_
  intro h10 t
  refine r_aload_n (q := 0) dX3_putOperation_56 rfl rfl ?_
  refine r_aload_n (q := 1) dX3_putOperation_57 rfl rfl ?_
  refine r_getR (c := 5) (c2 := 10) dX3_putOperation_58 flX3_67 lay_5 rfl ?_
  refine r_iload_n (q := 2) dX3_putOperation_61 rfl rfl ?_
  obtain ⟨c11, t⟩ := t
  refine r_iald (c := 10) dX3_putOperation_62 lay_10 c11 ?_
  refine r_cVV (c := 3) (As := [.int (h10.1 10 a2.toNatClampNeg)]) dX3_putOperation_63 mkX3_putOperand lkX3_64 lay_3 rfl rfl rfl (by decide) rfl (Nat.le_of_ble_eq_true rfl) z00 t ?_
  intro h12 t
  refine r_aload_n (q := 1) dX3_putOperation_66 rfl rfl ?_
  refine r_getR (c := 5) (c2 := 9) dX3_putOperation_67 flX3_70 lay_5 rfl ?_
  refine r_iload_n (q := 2) dX3_putOperation_70 rfl rfl ?_
  obtain ⟨c13, t⟩ := t
  refine r_iald (c := 9) dX3_putOperation_71 lay_9 c13 ?_
  refine r_istore_n (lv' := [(3, .int (h12.1 9 a2.toNatClampNeg)), (0, .ref (eA E 3)), (1, .ref (eA E 5)), (2, .int a2)]) dX3_putOperation_72 rfl (by decide) rfl ?_
  refine r_iload_n (q := 0) dX3_putOperation_73 rfl rfl ?_
  refine r_if_le (tgt := 99) dX3_putOperation_74 (by decide) (fun q14 => ?_) (fun q14 => ?_)
  · have t := t.1 q14
    refine r_aload_n (q := 1) dX3_putOperation_99 rfl rfl ?_
    refine r_bipush (v := (59 : Int32)) dX3_putOperation_100 rfl ?_
    refine r_cVV (c := 3) (As := [.int (59 : Int32)]) dX3_putOperation_102 mkX3_put lkX3_58 lay_3 rfl rfl rfl (by decide) rfl (Nat.le_of_ble_eq_true rfl) z00 t ?_
    intro h15 t
    exact r_vret dX3_putOperation_105 rfl t
  · have t := t.2 q14
    refine r_aload_n (q := 1) dX3_putOperation_77 rfl rfl ?_
    refine r_ldcS (i := 1) (tx := "+-*&|^") dX3_putOperation_78 (by decide) ?_
    refine r_iload_n (q := 0) dX3_putOperation_80 rfl rfl ?_
    refine r_iconst (v := (1 : Int32)) dX3_putOperation_81 rfl ?_
    refine r_isub dX3_putOperation_82 ?_
    refine r_kVI (i := 1) (As := [.int ((h12.1 9 a2.toNatClampNeg) - (1 : Int32))]) dX3_putOperation_83 mkJ0_charAt_5068e lkX3_75 (by decide) rfl (by decide) rfl (Nat.le_of_ble_eq_true rfl) z00 rfl t ?_
    intro v16 h16 t
    refine r_cVV (c := 3) (As := [.int v16]) dX3_putOperation_86 mkX3_put lkX3_58 lay_3 rfl rfl rfl (by decide) rfl (Nat.le_of_ble_eq_true rfl) z00 t ?_
    intro h17 t
    refine r_aload_n (q := 1) dX3_putOperation_89 rfl rfl ?_
    refine r_aload_n (q := 2) dX3_putOperation_90 rfl rfl ?_
    refine r_getR (c := 5) (c2 := 11) dX3_putOperation_91 flX3_81 lay_5 rfl ?_
    refine r_iload_n (q := 3) dX3_putOperation_94 rfl rfl ?_
    obtain ⟨c18, t⟩ := t
    refine r_iald (c := 11) dX3_putOperation_95 lay_11 c18 ?_
    refine r_cVV (c := 3) (As := [.int (h17.1 11 a2.toNatClampNeg)]) dX3_putOperation_96 mkX3_putOperand lkX3_64 lay_3 rfl rfl rfl (by decide) rfl (Nat.le_of_ble_eq_true rfl) z00 t ?_
    intro h19 t
    refine r_aload_n (q := 1) dX3_putOperation_99 rfl rfl ?_
    refine r_bipush (v := (59 : Int32)) dX3_putOperation_100 rfl ?_
    refine r_cVV (c := 3) (As := [.int (59 : Int32)]) dX3_putOperation_102 mkX3_put lkX3_58 lay_3 rfl rfl rfl (by decide) rfl (Nat.le_of_ble_eq_true rfl) z00 t ?_
    intro h20 t
    exact r_vret dX3_putOperation_105 rfl t
theorem dX3_putInstruction_0 : decode cX3_putInstruction 0 = .ok (.aload_n 0, 1) := by decide +kernel
theorem dX3_putInstruction_1 : decode cX3_putInstruction 1 = .ok (.ldc 84, 2) := by decide +kernel
theorem dX3_putInstruction_3 : decode cX3_putInstruction 3 = .ok (.invokevirtual 36, 3) := by decide +kernel
theorem dX3_putInstruction_6 : decode cX3_putInstruction 6 = .ok (.aload_n 0, 1) := by decide +kernel
theorem dX3_putInstruction_7 : decode cX3_putInstruction 7 = .ok (.aload_n 1, 1) := by decide +kernel
theorem dX3_putInstruction_8 : decode cX3_putInstruction 8 = .ok (.getfield 86, 3) := by decide +kernel
theorem dX3_putInstruction_11 : decode cX3_putInstruction 11 = .ok (.iload_n 2, 1) := by decide +kernel
theorem dX3_putInstruction_12 : decode cX3_putInstruction 12 = .ok (.laload, 1) := by decide +kernel
theorem dX3_putInstruction_13 : decode cX3_putInstruction 13 = .ok (.invokevirtual 44, 3) := by decide +kernel
theorem dX3_putInstruction_16 : decode cX3_putInstruction 16 = .ok (.iload_n 2, 1) := by decide +kernel
theorem dX3_putInstruction_17 : decode cX3_putInstruction 17 = .ok (.bipush 24, 2) := by decide +kernel
theorem dX3_putInstruction_19 : decode cX3_putInstruction 19 = .ok (.imul, 1) := by decide +kernel
theorem dX3_putInstruction_20 : decode cX3_putInstruction 20 = .ok (.istore_n 3, 1) := by decide +kernel
theorem dX3_putInstruction_21 : decode cX3_putInstruction 21 = .ok (.iconst 0, 1) := by decide +kernel
theorem dX3_putInstruction_22 : decode cX3_putInstruction 22 = .ok (.istore 4, 2) := by decide +kernel
theorem dX3_putInstruction_24 : decode cX3_putInstruction 24 = .ok (.iload 4, 2) := by decide +kernel
theorem dX3_putInstruction_26 : decode cX3_putInstruction 26 = .ok (.aload_n 1, 1) := by decide +kernel
theorem dX3_putInstruction_27 : decode cX3_putInstruction 27 = .ok (.getfield 89, 3) := by decide +kernel
theorem dX3_putInstruction_30 : decode cX3_putInstruction 30 = .ok (.iload_n 2, 1) := by decide +kernel
theorem dX3_putInstruction_31 : decode cX3_putInstruction 31 = .ok (.iaload, 1) := by decide +kernel
theorem dX3_putInstruction_32 : decode cX3_putInstruction 32 = .ok (.if_icmp .ge 62, 3) := by decide +kernel
theorem dX3_putInstruction_35 : decode cX3_putInstruction 35 = .ok (.aload_n 0, 1) := by decide +kernel
theorem dX3_putInstruction_36 : decode cX3_putInstruction 36 = .ok (.iload 4, 2) := by decide +kernel
theorem dX3_putInstruction_38 : decode cX3_putInstruction 38 = .ok (.ifCond .ne 8, 3) := by decide +kernel
theorem dX3_putInstruction_41 : decode cX3_putInstruction 41 = .ok (.bipush 58, 2) := by decide +kernel
theorem dX3_putInstruction_43 : decode cX3_putInstruction 43 = .ok (.goto 24, 3) := by decide +kernel
theorem dX3_putInstruction_46 : decode cX3_putInstruction 46 = .ok (.aload_n 1, 1) := by decide +kernel
theorem dX3_putInstruction_47 : decode cX3_putInstruction 47 = .ok (.getfield 92, 3) := by decide +kernel
theorem dX3_putInstruction_50 : decode cX3_putInstruction 50 = .ok (.iload_n 3, 1) := by decide +kernel
theorem dX3_putInstruction_51 : decode cX3_putInstruction 51 = .ok (.iload 4, 2) := by decide +kernel
theorem dX3_putInstruction_53 : decode cX3_putInstruction 53 = .ok (.iadd, 1) := by decide +kernel
theorem dX3_putInstruction_54 : decode cX3_putInstruction 54 = .ok (.iconst 1, 1) := by decide +kernel
theorem dX3_putInstruction_55 : decode cX3_putInstruction 55 = .ok (.isub, 1) := by decide +kernel
theorem dX3_putInstruction_56 : decode cX3_putInstruction 56 = .ok (.baload, 1) := by decide +kernel
theorem dX3_putInstruction_57 : decode cX3_putInstruction 57 = .ok (.ifCond .eq 8, 3) := by decide +kernel
theorem dX3_putInstruction_60 : decode cX3_putInstruction 60 = .ok (.bipush 33, 2) := by decide +kernel
theorem dX3_putInstruction_62 : decode cX3_putInstruction 62 = .ok (.goto 5, 3) := by decide +kernel
theorem dX3_putInstruction_65 : decode cX3_putInstruction 65 = .ok (.bipush 44, 2) := by decide +kernel
theorem dX3_putInstruction_67 : decode cX3_putInstruction 67 = .ok (.invokevirtual 58, 3) := by decide +kernel
theorem dX3_putInstruction_70 : decode cX3_putInstruction 70 = .ok (.aload_n 0, 1) := by decide +kernel
theorem dX3_putInstruction_71 : decode cX3_putInstruction 71 = .ok (.aload_n 1, 1) := by decide +kernel
theorem dX3_putInstruction_72 : decode cX3_putInstruction 72 = .ok (.getfield 40, 3) := by decide +kernel
theorem dX3_putInstruction_75 : decode cX3_putInstruction 75 = .ok (.aload_n 1, 1) := by decide +kernel
theorem dX3_putInstruction_76 : decode cX3_putInstruction 76 = .ok (.getfield 96, 3) := by decide +kernel
theorem dX3_putInstruction_79 : decode cX3_putInstruction 79 = .ok (.iload_n 3, 1) := by decide +kernel
theorem dX3_putInstruction_80 : decode cX3_putInstruction 80 = .ok (.iload 4, 2) := by decide +kernel
theorem dX3_putInstruction_82 : decode cX3_putInstruction 82 = .ok (.iadd, 1) := by decide +kernel
theorem dX3_putInstruction_83 : decode cX3_putInstruction 83 = .ok (.iaload, 1) := by decide +kernel
theorem dX3_putInstruction_84 : decode cX3_putInstruction 84 = .ok (.laload, 1) := by decide +kernel
theorem dX3_putInstruction_85 : decode cX3_putInstruction 85 = .ok (.invokevirtual 44, 3) := by decide +kernel
theorem dX3_putInstruction_88 : decode cX3_putInstruction 88 = .ok (.iinc 4 1, 3) := by decide +kernel
theorem dX3_putInstruction_91 : decode cX3_putInstruction 91 = .ok (.goto (-67), 3) := by decide +kernel
theorem dX3_putInstruction_94 : decode cX3_putInstruction 94 = .ok (.aload_n 0, 1) := by decide +kernel
theorem dX3_putInstruction_95 : decode cX3_putInstruction 95 = .ok (.bipush 59, 2) := by decide +kernel
theorem dX3_putInstruction_97 : decode cX3_putInstruction 97 = .ok (.invokevirtual 58, 3) := by decide +kernel
theorem dX3_putInstruction_100 : decode cX3_putInstruction 100 = .ok (.return_, 1) := by decide +kernel
abbrev VX3_putInstruction_24 (E : En) (d : Nat) (g : Ga) (P : Hp → Prop) (x2 : Int32) (x3 : Int32) (x4 : Int32) (h : Hp) : Prop := V E MX3_putInstruction (RM (d + 1) 0) g (QQ E g (QV E P) 0 0) 0 0 h 24 [(0, .ref (eA E 3)), (1, .ref (eA E 5)), (2, .int x2), (3, .int x3), (4, .int x4)] []
set_option maxRecDepth 20000 in
theorem wp_X3_putInstruction (E : En) (d : Nat) (a2 : Int32) (h : Hp) (P : Hp → Prop) (t : ∀ g : Ga, SpV E d MX3_putText [.ref (eA E 3), .ref (eK E 4)] h (fun h1 => vp_in a2 8 ∧ (SpV E d MX3_putName [.ref (eA E 3), .long (h1.2 13 a2.toNatClampNeg)] h1 (fun h3 => VX3_putInstruction_24 E d g P a2 (a2 * (24 : Int32)) (0 : Int32) h3)))) : SpV E (d + 1) MX3_putInstruction [.ref (eA E 3), .ref (eA E 5), .int a2] h P := by
  refine SpV.of (lv0 := [(0, .ref (eA E 3)), (1, .ref (eA E 5)), (2, .int a2)]) (by decide) (Nat.le_of_ble_eq_true rfl) rfl (fun g => ?_)
  have t := t g
  refine r_aload_n (q := 0) dX3_putInstruction_0 rfl rfl ?_
  refine r_ldcS (i := 4) (tx := "instr ") dX3_putInstruction_1 (by decide) ?_
  refine r_cVV (c := 3) (As := [.ref (eK E 4)]) dX3_putInstruction_3 mkX3_putText lkX3_36 lay_3 rfl rfl rfl (by decide) rfl (Nat.le_of_ble_eq_true rfl) z00 t ?_
  intro h1 t
  refine r_aload_n (q := 0) dX3_putInstruction_6 rfl rfl ?_
  refine r_aload_n (q := 1) dX3_putInstruction_7 rfl rfl ?_
  refine r_getR (c := 5) (c2 := 13) dX3_putInstruction_8 flX3_86 lay_5 rfl ?_
  refine r_iload_n (q := 2) dX3_putInstruction_11 rfl rfl ?_
  obtain ⟨c2, t⟩ := t
  refine r_lald (c := 13) dX3_putInstruction_12 lay_13 c2 ?_
  refine r_cVV (c := 3) (As := [.long (h1.2 13 a2.toNatClampNeg)]) dX3_putInstruction_13 mkX3_putName lkX3_44 lay_3 rfl rfl rfl (by decide) rfl (Nat.le_of_ble_eq_true rfl) z00 t ?_
  intro h3 t
  refine r_iload_n (q := 2) dX3_putInstruction_16 rfl rfl ?_
  refine r_bipush (v := (24 : Int32)) dX3_putInstruction_17 rfl ?_
  refine r_imul dX3_putInstruction_19 ?_
  refine r_istore_n (lv' := [(3, .int (a2 * (24 : Int32))), (0, .ref (eA E 3)), (1, .ref (eA E 5)), (2, .int a2)]) dX3_putInstruction_20 rfl (by decide) rfl ?_
  refine r_iconst (v := (0 : Int32)) dX3_putInstruction_21 rfl ?_
  refine r_istore (lv' := [(4, .int (0 : Int32)), (3, .int (a2 * (24 : Int32))), (0, .ref (eA E 3)), (1, .ref (eA E 5)), (2, .int a2)]) dX3_putInstruction_22 (by decide) rfl ?_
  refine r_sub [2, 3, 4, 1, 0] rfl ?_
  exact t
set_option maxRecDepth 20000 in
theorem sg_X3_putInstruction_24 (E : En) (d : Nat) (g : Ga) (x2 : Int32) (x3 : Int32) (x4 : Int32) (h : Hp) (P : Hp → Prop) (t : vp_in x2 8 ∧ (((h.1 14 x2.toNatClampNeg) ≤ x4 → (SpV E d MX3_put [.ref (eA E 3), .int (59 : Int32)] h (fun h3 => P h3))) ∧ (¬ (h.1 14 x2.toNatClampNeg) ≤ x4 → ((¬ x4 = 0 → (vp_in ((x3 + x4) - (1 : Int32)) 192 ∧ (((h.1 16 (((x3 + x4) - (1 : Int32)).toNatClampNeg)) = 0 → (SpV E d MX3_put [.ref (eA E 3), .int (44 : Int32)] h (fun h7 => vp_in (x3 + x4) 192 ∧ (vp_in (h7.1 15 ((x3 + x4).toNatClampNeg)) 12 ∧ (SpV E d MX3_putName [.ref (eA E 3), .long (h7.2 6 ((h7.1 15 ((x3 + x4).toNatClampNeg)).toNatClampNeg))] h7 (fun h10 => VX3_putInstruction_24 E d g P x2 x3 (x4 + (1 : Int32)) h10)))))) ∧ (¬ (h.1 16 (((x3 + x4) - (1 : Int32)).toNatClampNeg)) = 0 → (SpV E d MX3_put [.ref (eA E 3), .int (33 : Int32)] h (fun h11 => vp_in (x3 + x4) 192 ∧ (vp_in (h11.1 15 ((x3 + x4).toNatClampNeg)) 12 ∧ (SpV E d MX3_putName [.ref (eA E 3), .long (h11.2 6 ((h11.1 15 ((x3 + x4).toNatClampNeg)).toNatClampNeg))] h11 (fun h14 => VX3_putInstruction_24 E d g P x2 x3 (x4 + (1 : Int32)) h14))))))))) ∧ (x4 = 0 → (SpV E d MX3_put [.ref (eA E 3), .int (58 : Int32)] h (fun h15 => vp_in (x3 + x4) 192 ∧ (vp_in (h15.1 15 ((x3 + x4).toNatClampNeg)) 12 ∧ (SpV E d MX3_putName [.ref (eA E 3), .long (h15.2 6 ((h15.1 15 ((x3 + x4).toNatClampNeg)).toNatClampNeg))] h15 (fun h18 => VX3_putInstruction_24 E d g P x2 x3 (x4 + (1 : Int32)) h18)))))))))) : VX3_putInstruction_24 E d g P x2 x3 x4 h := by
  refine r_iload (q := 4) dX3_putInstruction_24 rfl ?_
  refine r_aload_n (q := 1) dX3_putInstruction_26 rfl rfl ?_
  refine r_getR (c := 5) (c2 := 14) dX3_putInstruction_27 flX3_89 lay_5 rfl ?_
  refine r_iload_n (q := 2) dX3_putInstruction_30 rfl rfl ?_
  obtain ⟨c1, t⟩ := t
  refine r_iald (c := 14) dX3_putInstruction_31 lay_14 c1 ?_
  refine r_icmp_ge (tgt := 94) dX3_putInstruction_32 (by decide) (fun q2 => ?_) (fun q2 => ?_)
  · have t := t.1 q2
    refine r_aload_n (q := 0) dX3_putInstruction_94 rfl rfl ?_
    refine r_bipush (v := (59 : Int32)) dX3_putInstruction_95 rfl ?_
    refine r_cVV (c := 3) (As := [.int (59 : Int32)]) dX3_putInstruction_97 mkX3_put lkX3_58 lay_3 rfl rfl rfl (by decide) rfl (Nat.le_of_ble_eq_true rfl) z00 t ?_
    intro h3 t
    exact r_vret dX3_putInstruction_100 rfl t
  · have t := t.2 q2
    refine r_aload_n (q := 0) dX3_putInstruction_35 rfl rfl ?_
    refine r_iload (q := 4) dX3_putInstruction_36 rfl ?_
    refine r_if_ne (tgt := 46) dX3_putInstruction_38 (by decide) (fun q4 => ?_) (fun q4 => ?_)
    · have t := t.1 q4
      refine r_aload_n (q := 1) dX3_putInstruction_46 rfl rfl ?_
      refine r_getR (c := 5) (c2 := 16) dX3_putInstruction_47 flX3_92 lay_5 rfl ?_
      refine r_iload_n (q := 3) dX3_putInstruction_50 rfl rfl ?_
      refine r_iload (q := 4) dX3_putInstruction_51 rfl ?_
      refine r_iadd dX3_putInstruction_53 ?_
      refine r_iconst (v := (1 : Int32)) dX3_putInstruction_54 rfl ?_
      refine r_isub dX3_putInstruction_55 ?_
      obtain ⟨c5, t⟩ := t
      refine r_zald (c := 16) dX3_putInstruction_56 lay_16 c5 ?_
      refine r_if_eq (tgt := 65) dX3_putInstruction_57 (by decide) (fun q6 => ?_) (fun q6 => ?_)
      · have t := t.1 q6
        refine r_bipush (v := (44 : Int32)) dX3_putInstruction_65 rfl ?_
        refine r_cVV (c := 3) (As := [.int (44 : Int32)]) dX3_putInstruction_67 mkX3_put lkX3_58 lay_3 rfl rfl rfl (by decide) rfl (Nat.le_of_ble_eq_true rfl) z00 t ?_
        intro h7 t
        refine r_aload_n (q := 0) dX3_putInstruction_70 rfl rfl ?_
        refine r_aload_n (q := 1) dX3_putInstruction_71 rfl rfl ?_
        refine r_getR (c := 5) (c2 := 6) dX3_putInstruction_72 flX3_40 lay_5 rfl ?_
        refine r_aload_n (q := 1) dX3_putInstruction_75 rfl rfl ?_
        refine r_getR (c := 5) (c2 := 15) dX3_putInstruction_76 flX3_96 lay_5 rfl ?_
        refine r_iload_n (q := 3) dX3_putInstruction_79 rfl rfl ?_
        refine r_iload (q := 4) dX3_putInstruction_80 rfl ?_
        refine r_iadd dX3_putInstruction_82 ?_
        obtain ⟨c8, t⟩ := t
        refine r_iald (c := 15) dX3_putInstruction_83 lay_15 c8 ?_
        obtain ⟨c9, t⟩ := t
        refine r_lald (c := 6) dX3_putInstruction_84 lay_6 c9 ?_
        refine r_cVV (c := 3) (As := [.long (h7.2 6 ((h7.1 15 ((x3 + x4).toNatClampNeg)).toNatClampNeg))]) dX3_putInstruction_85 mkX3_putName lkX3_44 lay_3 rfl rfl rfl (by decide) rfl (Nat.le_of_ble_eq_true rfl) z00 t ?_
        intro h10 t
        refine r_iinc (k := 4) (v := x4 + (1 : Int32)) (lv' := [(4, .int (x4 + (1 : Int32))), (0, .ref (eA E 3)), (1, .ref (eA E 5)), (2, .int x2), (3, .int x3)]) dX3_putInstruction_88 rfl rfl (by decide) rfl ?_
        refine r_goto (tgt := 24) dX3_putInstruction_91 (by decide) ?_
        refine r_sub [1, 2, 3, 4, 0] rfl ?_
        exact t
      · have t := t.2 q6
        refine r_bipush (v := (33 : Int32)) dX3_putInstruction_60 rfl ?_
        refine r_goto (tgt := 67) dX3_putInstruction_62 (by decide) ?_
        refine r_cVV (c := 3) (As := [.int (33 : Int32)]) dX3_putInstruction_67 mkX3_put lkX3_58 lay_3 rfl rfl rfl (by decide) rfl (Nat.le_of_ble_eq_true rfl) z00 t ?_
        intro h11 t
        refine r_aload_n (q := 0) dX3_putInstruction_70 rfl rfl ?_
        refine r_aload_n (q := 1) dX3_putInstruction_71 rfl rfl ?_
        refine r_getR (c := 5) (c2 := 6) dX3_putInstruction_72 flX3_40 lay_5 rfl ?_
        refine r_aload_n (q := 1) dX3_putInstruction_75 rfl rfl ?_
        refine r_getR (c := 5) (c2 := 15) dX3_putInstruction_76 flX3_96 lay_5 rfl ?_
        refine r_iload_n (q := 3) dX3_putInstruction_79 rfl rfl ?_
        refine r_iload (q := 4) dX3_putInstruction_80 rfl ?_
        refine r_iadd dX3_putInstruction_82 ?_
        obtain ⟨c12, t⟩ := t
        refine r_iald (c := 15) dX3_putInstruction_83 lay_15 c12 ?_
        obtain ⟨c13, t⟩ := t
        refine r_lald (c := 6) dX3_putInstruction_84 lay_6 c13 ?_
        refine r_cVV (c := 3) (As := [.long (h11.2 6 ((h11.1 15 ((x3 + x4).toNatClampNeg)).toNatClampNeg))]) dX3_putInstruction_85 mkX3_putName lkX3_44 lay_3 rfl rfl rfl (by decide) rfl (Nat.le_of_ble_eq_true rfl) z00 t ?_
        intro h14 t
        refine r_iinc (k := 4) (v := x4 + (1 : Int32)) (lv' := [(4, .int (x4 + (1 : Int32))), (0, .ref (eA E 3)), (1, .ref (eA E 5)), (2, .int x2), (3, .int x3)]) dX3_putInstruction_88 rfl rfl (by decide) rfl ?_
        refine r_goto (tgt := 24) dX3_putInstruction_91 (by decide) ?_
        refine r_sub [1, 2, 3, 4, 0] rfl ?_
        exact t
    · have t := t.2 q4
      refine r_bipush (v := (58 : Int32)) dX3_putInstruction_41 rfl ?_
      refine r_goto (tgt := 67) dX3_putInstruction_43 (by decide) ?_
      refine r_cVV (c := 3) (As := [.int (58 : Int32)]) dX3_putInstruction_67 mkX3_put lkX3_58 lay_3 rfl rfl rfl (by decide) rfl (Nat.le_of_ble_eq_true rfl) z00 t ?_
      intro h15 t
      refine r_aload_n (q := 0) dX3_putInstruction_70 rfl rfl ?_
      refine r_aload_n (q := 1) dX3_putInstruction_71 rfl rfl ?_
      refine r_getR (c := 5) (c2 := 6) dX3_putInstruction_72 flX3_40 lay_5 rfl ?_
      refine r_aload_n (q := 1) dX3_putInstruction_75 rfl rfl ?_
      refine r_getR (c := 5) (c2 := 15) dX3_putInstruction_76 flX3_96 lay_5 rfl ?_
      refine r_iload_n (q := 3) dX3_putInstruction_79 rfl rfl ?_
      refine r_iload (q := 4) dX3_putInstruction_80 rfl ?_
      refine r_iadd dX3_putInstruction_82 ?_
      obtain ⟨c16, t⟩ := t
      refine r_iald (c := 15) dX3_putInstruction_83 lay_15 c16 ?_
      obtain ⟨c17, t⟩ := t
      refine r_lald (c := 6) dX3_putInstruction_84 lay_6 c17 ?_
      refine r_cVV (c := 3) (As := [.long (h15.2 6 ((h15.1 15 ((x3 + x4).toNatClampNeg)).toNatClampNeg))]) dX3_putInstruction_85 mkX3_putName lkX3_44 lay_3 rfl rfl rfl (by decide) rfl (Nat.le_of_ble_eq_true rfl) z00 t ?_
      intro h18 t
      refine r_iinc (k := 4) (v := x4 + (1 : Int32)) (lv' := [(4, .int (x4 + (1 : Int32))), (0, .ref (eA E 3)), (1, .ref (eA E 5)), (2, .int x2), (3, .int x3)]) dX3_putInstruction_88 rfl rfl (by decide) rfl ?_
      refine r_goto (tgt := 24) dX3_putInstruction_91 (by decide) ?_
      refine r_sub [1, 2, 3, 4, 0] rfl ?_
      exact t
theorem dX3_putSource_0 : decode cX3_putSource 0 = .ok (.aload_n 0, 1) := by decide +kernel
theorem dX3_putSource_1 : decode cX3_putSource 1 = .ok (.iconst 0, 1) := by decide +kernel
theorem dX3_putSource_2 : decode cX3_putSource 2 = .ok (.putfield 15, 3) := by decide +kernel
theorem dX3_putSource_5 : decode cX3_putSource 5 = .ok (.iconst 0, 1) := by decide +kernel
theorem dX3_putSource_6 : decode cX3_putSource 6 = .ok (.istore_n 2, 1) := by decide +kernel
theorem dX3_putSource_7 : decode cX3_putSource 7 = .ok (.iload_n 2, 1) := by decide +kernel
theorem dX3_putSource_8 : decode cX3_putSource 8 = .ok (.aload_n 1, 1) := by decide +kernel
theorem dX3_putSource_9 : decode cX3_putSource 9 = .ok (.getfield 19, 3) := by decide +kernel
theorem dX3_putSource_12 : decode cX3_putSource 12 = .ok (.if_icmp .ge 15, 3) := by decide +kernel
theorem dX3_putSource_15 : decode cX3_putSource 15 = .ok (.aload_n 0, 1) := by decide +kernel
theorem dX3_putSource_16 : decode cX3_putSource 16 = .ok (.aload_n 1, 1) := by decide +kernel
theorem dX3_putSource_17 : decode cX3_putSource 17 = .ok (.iload_n 2, 1) := by decide +kernel
theorem dX3_putSource_18 : decode cX3_putSource 18 = .ok (.invokevirtual 24, 3) := by decide +kernel
theorem dX3_putSource_21 : decode cX3_putSource 21 = .ok (.iinc 2 1, 3) := by decide +kernel
theorem dX3_putSource_24 : decode cX3_putSource 24 = .ok (.goto (-17), 3) := by decide +kernel
theorem dX3_putSource_27 : decode cX3_putSource 27 = .ok (.iconst 0, 1) := by decide +kernel
theorem dX3_putSource_28 : decode cX3_putSource 28 = .ok (.istore_n 2, 1) := by decide +kernel
theorem dX3_putSource_29 : decode cX3_putSource 29 = .ok (.iload_n 2, 1) := by decide +kernel
theorem dX3_putSource_30 : decode cX3_putSource 30 = .ok (.aload_n 1, 1) := by decide +kernel
theorem dX3_putSource_31 : decode cX3_putSource 31 = .ok (.getfield 28, 3) := by decide +kernel
theorem dX3_putSource_34 : decode cX3_putSource 34 = .ok (.if_icmp .ge 15, 3) := by decide +kernel
theorem dX3_putSource_37 : decode cX3_putSource 37 = .ok (.aload_n 0, 1) := by decide +kernel
theorem dX3_putSource_38 : decode cX3_putSource 38 = .ok (.aload_n 1, 1) := by decide +kernel
theorem dX3_putSource_39 : decode cX3_putSource 39 = .ok (.iload_n 2, 1) := by decide +kernel
theorem dX3_putSource_40 : decode cX3_putSource 40 = .ok (.invokevirtual 31, 3) := by decide +kernel
theorem dX3_putSource_43 : decode cX3_putSource 43 = .ok (.iinc 2 1, 3) := by decide +kernel
theorem dX3_putSource_46 : decode cX3_putSource 46 = .ok (.goto (-17), 3) := by decide +kernel
theorem dX3_putSource_49 : decode cX3_putSource 49 = .ok (.return_, 1) := by decide +kernel
abbrev VX3_putSource_7 (E : En) (d : Nat) (g : Ga) (P : Hp → Prop) (x2 : Int32) (h : Hp) : Prop := V E MX3_putSource (RM (d + 1) 0) g (QQ E g (QV E P) 0 0) 0 0 h 7 [(0, .ref (eA E 3)), (1, .ref (eA E 5)), (2, .int x2)] []
abbrev VX3_putSource_29 (E : En) (d : Nat) (g : Ga) (P : Hp → Prop) (x2 : Int32) (h : Hp) : Prop := V E MX3_putSource (RM (d + 1) 0) g (QQ E g (QV E P) 0 0) 0 0 h 29 [(0, .ref (eA E 3)), (1, .ref (eA E 5)), (2, .int x2)] []
set_option maxRecDepth 20000 in
theorem wp_X3_putSource (E : En) (d : Nat) (h : Hp) (P : Hp → Prop) (t : ∀ g : Ga, VX3_putSource_7 E d g P (0 : Int32) (sI h 3 1 (0 : Int32))) : SpV E (d + 1) MX3_putSource [.ref (eA E 3), .ref (eA E 5)] h P := by
  refine SpV.of (lv0 := [(0, .ref (eA E 3)), (1, .ref (eA E 5))]) (by decide) (Nat.le_of_ble_eq_true rfl) rfl (fun g => ?_)
  have t := t g
  refine r_aload_n (q := 0) dX3_putSource_0 rfl rfl ?_
  refine r_iconst (v := (0 : Int32)) dX3_putSource_1 rfl ?_
  refine r_putI (c := 3) dX3_putSource_2 flX3_15 lay_3 rfl ?_
  refine r_iconst (v := (0 : Int32)) dX3_putSource_5 rfl ?_
  refine r_istore_n (lv' := [(2, .int (0 : Int32)), (0, .ref (eA E 3)), (1, .ref (eA E 5))]) dX3_putSource_6 rfl (by decide) rfl ?_
  refine r_sub [1, 2, 0] rfl ?_
  exact t
set_option maxRecDepth 20000 in
theorem sg_X3_putSource_7 (E : En) (d : Nat) (g : Ga) (x2 : Int32) (h : Hp) (P : Hp → Prop) (t : ((h.1 5 0) ≤ x2 → (VX3_putSource_29 E d g P (0 : Int32) h)) ∧ (¬ (h.1 5 0) ≤ x2 → (SpV E d MX3_putOperation [.ref (eA E 3), .ref (eA E 5), .int x2] h (fun h2 => VX3_putSource_7 E d g P (x2 + (1 : Int32)) h2)))) : VX3_putSource_7 E d g P x2 h := by
  refine r_iload_n (q := 2) dX3_putSource_7 rfl rfl ?_
  refine r_aload_n (q := 1) dX3_putSource_8 rfl rfl ?_
  refine r_getI (c := 5) dX3_putSource_9 flX3_19 lay_5 rfl ?_
  refine r_icmp_ge (tgt := 27) dX3_putSource_12 (by decide) (fun q1 => ?_) (fun q1 => ?_)
  · have t := t.1 q1
    refine r_iconst (v := (0 : Int32)) dX3_putSource_27 rfl ?_
    refine r_istore_n (lv' := [(2, .int (0 : Int32)), (0, .ref (eA E 3)), (1, .ref (eA E 5))]) dX3_putSource_28 rfl (by decide) rfl ?_
    refine r_sub [1, 2, 0] rfl ?_
    exact t
  · have t := t.2 q1
    refine r_aload_n (q := 0) dX3_putSource_15 rfl rfl ?_
    refine r_aload_n (q := 1) dX3_putSource_16 rfl rfl ?_
    refine r_iload_n (q := 2) dX3_putSource_17 rfl rfl ?_
    refine r_cVV (c := 3) (As := [.ref (eA E 5), .int x2]) dX3_putSource_18 mkX3_putOperation lkX3_24 lay_3 rfl rfl rfl (by decide) rfl (Nat.le_of_ble_eq_true rfl) z00 t ?_
    intro h2 t
    refine r_iinc (k := 2) (v := x2 + (1 : Int32)) (lv' := [(2, .int (x2 + (1 : Int32))), (0, .ref (eA E 3)), (1, .ref (eA E 5))]) dX3_putSource_21 rfl rfl (by decide) rfl ?_
    refine r_goto (tgt := 7) dX3_putSource_24 (by decide) ?_
    refine r_sub [1, 2, 0] rfl ?_
    exact t
set_option maxRecDepth 20000 in
theorem sg_X3_putSource_29 (E : En) (d : Nat) (g : Ga) (x2 : Int32) (h : Hp) (P : Hp → Prop) (t : ((h.1 5 8) ≤ x2 → (P h)) ∧ (¬ (h.1 5 8) ≤ x2 → (SpV E d MX3_putInstruction [.ref (eA E 3), .ref (eA E 5), .int x2] h (fun h2 => VX3_putSource_29 E d g P (x2 + (1 : Int32)) h2)))) : VX3_putSource_29 E d g P x2 h := by
  refine r_iload_n (q := 2) dX3_putSource_29 rfl rfl ?_
  refine r_aload_n (q := 1) dX3_putSource_30 rfl rfl ?_
  refine r_getI (c := 5) dX3_putSource_31 flX3_28 lay_5 rfl ?_
  refine r_icmp_ge (tgt := 49) dX3_putSource_34 (by decide) (fun q1 => ?_) (fun q1 => ?_)
  · have t := t.1 q1
    exact r_vret dX3_putSource_49 rfl t
  · have t := t.2 q1
    refine r_aload_n (q := 0) dX3_putSource_37 rfl rfl ?_
    refine r_aload_n (q := 1) dX3_putSource_38 rfl rfl ?_
    refine r_iload_n (q := 2) dX3_putSource_39 rfl rfl ?_
    refine r_cVV (c := 3) (As := [.ref (eA E 5), .int x2]) dX3_putSource_40 mkX3_putInstruction lkX3_31 lay_3 rfl rfl rfl (by decide) rfl (Nat.le_of_ble_eq_true rfl) z00 t ?_
    intro h2 t
    refine r_iinc (k := 2) (v := x2 + (1 : Int32)) (lv' := [(2, .int (x2 + (1 : Int32))), (0, .ref (eA E 3)), (1, .ref (eA E 5))]) dX3_putSource_43 rfl rfl (by decide) rfl ?_
    refine r_goto (tgt := 29) dX3_putSource_46 (by decide) ?_
    refine r_sub [1, 2, 0] rfl ?_
    exact t
