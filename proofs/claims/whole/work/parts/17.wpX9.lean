theorem dX9_append_0 : decode cX9_append 0 = .ok (.aload_n 0, 1) := by decide +kernel
theorem dX9_append_1 : decode cX9_append 1 = .ok (.getfield 12, 3) := by decide +kernel
theorem dX9_append_4 : decode cX9_append 4 = .ok (.getfield 79, 3) := by decide +kernel
theorem dX9_append_7 : decode cX9_append 7 = .ok (.bipush 20, 2) := by decide +kernel
theorem dX9_append_9 : decode cX9_append 9 = .ok (.iadd, 1) := by decide +kernel
theorem dX9_append_10 : decode cX9_append 10 = .ok (.sipush 1200, 3) := by decide +kernel
theorem dX9_append_13 : decode cX9_append 13 = .ok (.if_icmp .le 5, 3) := by decide +kernel
theorem dX9_append_16 : decode cX9_append 16 = .ok (.iconst (-1), 1) := by decide +kernel
theorem dX9_append_17 : decode cX9_append 17 = .ok (.ireturn, 1) := by decide +kernel
theorem dX9_append_18 : decode cX9_append 18 = .ok (.aload_n 0, 1) := by decide +kernel
theorem dX9_append_19 : decode cX9_append 19 = .ok (.getfield 12, 3) := by decide +kernel
theorem dX9_append_22 : decode cX9_append 22 = .ok (.iload_n 1, 1) := by decide +kernel
theorem dX9_append_23 : decode cX9_append 23 = .ok (.invokevirtual 82, 3) := by decide +kernel
theorem dX9_append_26 : decode cX9_append 26 = .ok (.aload_n 0, 1) := by decide +kernel
theorem dX9_append_27 : decode cX9_append 27 = .ok (.getfield 12, 3) := by decide +kernel
theorem dX9_append_30 : decode cX9_append 30 = .ok (.iload_n 2, 1) := by decide +kernel
theorem dX9_append_31 : decode cX9_append 31 = .ok (.invokevirtual 82, 3) := by decide +kernel
theorem dX9_append_34 : decode cX9_append 34 = .ok (.aload_n 0, 1) := by decide +kernel
theorem dX9_append_35 : decode cX9_append 35 = .ok (.getfield 12, 3) := by decide +kernel
theorem dX9_append_38 : decode cX9_append 38 = .ok (.iload_n 3, 1) := by decide +kernel
theorem dX9_append_39 : decode cX9_append 39 = .ok (.invokevirtual 82, 3) := by decide +kernel
theorem dX9_append_42 : decode cX9_append 42 = .ok (.aload_n 0, 1) := by decide +kernel
theorem dX9_append_43 : decode cX9_append 43 = .ok (.getfield 12, 3) := by decide +kernel
theorem dX9_append_46 : decode cX9_append 46 = .ok (.iload 4, 2) := by decide +kernel
theorem dX9_append_48 : decode cX9_append 48 = .ok (.invokevirtual 82, 3) := by decide +kernel
theorem dX9_append_51 : decode cX9_append 51 = .ok (.aload_n 0, 1) := by decide +kernel
theorem dX9_append_52 : decode cX9_append 52 = .ok (.getfield 12, 3) := by decide +kernel
theorem dX9_append_55 : decode cX9_append 55 = .ok (.iload 5, 2) := by decide +kernel
theorem dX9_append_57 : decode cX9_append 57 = .ok (.invokevirtual 82, 3) := by decide +kernel
theorem dX9_append_60 : decode cX9_append 60 = .ok (.aload_n 0, 1) := by decide +kernel
theorem dX9_append_61 : decode cX9_append 61 = .ok (.getfield 12, 3) := by decide +kernel
theorem dX9_append_64 : decode cX9_append 64 = .ok (.getfield 79, 3) := by decide +kernel
theorem dX9_append_67 : decode cX9_append 67 = .ok (.ireturn, 1) := by decide +kernel
set_option maxRecDepth 20000 in
theorem wp_X9_append (E : En) (d : Nat) (a1 : Int32) (a2 : Int32) (a3 : Int32) (a4 : Int32) (a5 : Int32) (h : Hp) (P : Int32 → Hp → Prop) (t : (((h.1 1 0) + (20 : Int32)) ≤ (1200 : Int32) → (SpV E d MX2_put [.ref (eA E 1), .int a1] h (fun h2 => SpV E d MX2_put [.ref (eA E 1), .int a2] h2 (fun h3 => SpV E d MX2_put [.ref (eA E 1), .int a3] h3 (fun h4 => SpV E d MX2_put [.ref (eA E 1), .int a4] h4 (fun h5 => SpV E d MX2_put [.ref (eA E 1), .int a5] h5 (fun h6 => P (h6.1 1 0) h6))))))) ∧ (¬ ((h.1 1 0) + (20 : Int32)) ≤ (1200 : Int32) → (P (-1 : Int32) h))) : SpI E (d + 1) MX9_append [.ref (eA E 0), .int a1, .int a2, .int a3, .int a4, .int a5] h P := by
  refine SpI.of (lv0 := [(0, .ref (eA E 0)), (1, .int a1), (2, .int a2), (3, .int a3), (4, .int a4), (5, .int a5)]) (by decide) (Nat.le_of_ble_eq_true rfl) rfl (fun g => ?_)
  refine r_aload_n (q := 0) dX9_append_0 rfl rfl ?_
  refine r_getR (c := 0) (c2 := 1) dX9_append_1 flX9_12 lay_0 rfl ?_
  refine r_getI (c := 1) dX9_append_4 flX9_79 lay_1 rfl ?_
  refine r_bipush (v := (20 : Int32)) dX9_append_7 rfl ?_
  refine r_iadd dX9_append_9 ?_
  refine r_sipush (v := (1200 : Int32)) dX9_append_10 rfl ?_
  refine r_icmp_le (tgt := 18) dX9_append_13 (by decide) (fun q1 => ?_) (fun q1 => ?_)
  · have t := t.1 q1
    refine r_aload_n (q := 0) dX9_append_18 rfl rfl ?_
    refine r_getR (c := 0) (c2 := 1) dX9_append_19 flX9_12 lay_0 rfl ?_
    refine r_iload_n (q := 1) dX9_append_22 rfl rfl ?_
    refine r_cVV (c := 1) (As := [.int a1]) dX9_append_23 mkX2_put lkX9_82 lay_1 rfl rfl rfl (by decide) rfl (Nat.le_of_ble_eq_true rfl) z00 t ?_
    intro h2 t
    refine r_aload_n (q := 0) dX9_append_26 rfl rfl ?_
    refine r_getR (c := 0) (c2 := 1) dX9_append_27 flX9_12 lay_0 rfl ?_
    refine r_iload_n (q := 2) dX9_append_30 rfl rfl ?_
    refine r_cVV (c := 1) (As := [.int a2]) dX9_append_31 mkX2_put lkX9_82 lay_1 rfl rfl rfl (by decide) rfl (Nat.le_of_ble_eq_true rfl) z00 t ?_
    intro h3 t
    refine r_aload_n (q := 0) dX9_append_34 rfl rfl ?_
    refine r_getR (c := 0) (c2 := 1) dX9_append_35 flX9_12 lay_0 rfl ?_
    refine r_iload_n (q := 3) dX9_append_38 rfl rfl ?_
    refine r_cVV (c := 1) (As := [.int a3]) dX9_append_39 mkX2_put lkX9_82 lay_1 rfl rfl rfl (by decide) rfl (Nat.le_of_ble_eq_true rfl) z00 t ?_
    intro h4 t
    refine r_aload_n (q := 0) dX9_append_42 rfl rfl ?_
    refine r_getR (c := 0) (c2 := 1) dX9_append_43 flX9_12 lay_0 rfl ?_
    refine r_iload (q := 4) dX9_append_46 rfl ?_
    refine r_cVV (c := 1) (As := [.int a4]) dX9_append_48 mkX2_put lkX9_82 lay_1 rfl rfl rfl (by decide) rfl (Nat.le_of_ble_eq_true rfl) z00 t ?_
    intro h5 t
    refine r_aload_n (q := 0) dX9_append_51 rfl rfl ?_
    refine r_getR (c := 0) (c2 := 1) dX9_append_52 flX9_12 lay_0 rfl ?_
    refine r_iload (q := 5) dX9_append_55 rfl ?_
    refine r_cVV (c := 1) (As := [.int a5]) dX9_append_57 mkX2_put lkX9_82 lay_1 rfl rfl rfl (by decide) rfl (Nat.le_of_ble_eq_true rfl) z00 t ?_
    intro h6 t
    refine r_aload_n (q := 0) dX9_append_60 rfl rfl ?_
    refine r_getR (c := 0) (c2 := 1) dX9_append_61 flX9_12 lay_0 rfl ?_
    refine r_getI (c := 1) dX9_append_64 flX9_79 lay_1 rfl ?_
    exact r_iret dX9_append_67 rfl t
  · have t := t.2 q1
    refine r_iconst (v := (-1 : Int32)) dX9_append_16 rfl ?_
    exact r_iret dX9_append_17 rfl t
theorem dX9_truncate_0 : decode cX9_truncate 0 = .ok (.iload_n 1, 1) := by decide +kernel
theorem dX9_truncate_1 : decode cX9_truncate 1 = .ok (.ifCond .lt 14, 3) := by decide +kernel
theorem dX9_truncate_4 : decode cX9_truncate 4 = .ok (.iload_n 1, 1) := by decide +kernel
theorem dX9_truncate_5 : decode cX9_truncate 5 = .ok (.aload_n 0, 1) := by decide +kernel
theorem dX9_truncate_6 : decode cX9_truncate 6 = .ok (.getfield 12, 3) := by decide +kernel
theorem dX9_truncate_9 : decode cX9_truncate 9 = .ok (.getfield 79, 3) := by decide +kernel
theorem dX9_truncate_12 : decode cX9_truncate 12 = .ok (.if_icmp .le 5, 3) := by decide +kernel
theorem dX9_truncate_15 : decode cX9_truncate 15 = .ok (.iconst 0, 1) := by decide +kernel
theorem dX9_truncate_16 : decode cX9_truncate 16 = .ok (.ireturn, 1) := by decide +kernel
theorem dX9_truncate_17 : decode cX9_truncate 17 = .ok (.aload_n 0, 1) := by decide +kernel
theorem dX9_truncate_18 : decode cX9_truncate 18 = .ok (.getfield 12, 3) := by decide +kernel
theorem dX9_truncate_21 : decode cX9_truncate 21 = .ok (.iload_n 1, 1) := by decide +kernel
theorem dX9_truncate_22 : decode cX9_truncate 22 = .ok (.putfield 79, 3) := by decide +kernel
theorem dX9_truncate_25 : decode cX9_truncate 25 = .ok (.iconst 1, 1) := by decide +kernel
theorem dX9_truncate_26 : decode cX9_truncate 26 = .ok (.ireturn, 1) := by decide +kernel
set_option maxRecDepth 20000 in
theorem wp_X9_truncate (E : En) (d : Nat) (a1 : Int32) (h : Hp) (P : Int32 → Hp → Prop) (t : (a1 < 0 → (P (0 : Int32) h)) ∧ (¬ a1 < 0 → ((a1 ≤ (h.1 1 0) → (P (1 : Int32) (sI h 1 0 a1))) ∧ (¬ a1 ≤ (h.1 1 0) → (P (0 : Int32) h))))) : SpI E d MX9_truncate [.ref (eA E 0), .int a1] h P := by
  refine SpI.of (lv0 := [(0, .ref (eA E 0)), (1, .int a1)]) (by decide) (Nat.le_of_ble_eq_true rfl) rfl (fun g => ?_)
  refine r_iload_n (q := 1) dX9_truncate_0 rfl rfl ?_
  refine r_if_lt (tgt := 15) dX9_truncate_1 (by decide) (fun q1 => ?_) (fun q1 => ?_)
  · have t := t.1 q1
    refine r_iconst (v := (0 : Int32)) dX9_truncate_15 rfl ?_
    exact r_zret dX9_truncate_16 rfl (Or.inl rfl) t
  · have t := t.2 q1
    refine r_iload_n (q := 1) dX9_truncate_4 rfl rfl ?_
    refine r_aload_n (q := 0) dX9_truncate_5 rfl rfl ?_
    refine r_getR (c := 0) (c2 := 1) dX9_truncate_6 flX9_12 lay_0 rfl ?_
    refine r_getI (c := 1) dX9_truncate_9 flX9_79 lay_1 rfl ?_
    refine r_icmp_le (tgt := 17) dX9_truncate_12 (by decide) (fun q2 => ?_) (fun q2 => ?_)
    · have t := t.1 q2
      refine r_aload_n (q := 0) dX9_truncate_17 rfl rfl ?_
      refine r_getR (c := 0) (c2 := 1) dX9_truncate_18 flX9_12 lay_0 rfl ?_
      refine r_iload_n (q := 1) dX9_truncate_21 rfl rfl ?_
      refine r_putI (c := 1) dX9_truncate_22 flX9_79 lay_1 rfl ?_
      refine r_iconst (v := (1 : Int32)) dX9_truncate_25 rfl ?_
      exact r_zret dX9_truncate_26 rfl (Or.inr rfl) t
    · have t := t.2 q2
      refine r_iconst (v := (0 : Int32)) dX9_truncate_15 rfl ?_
      exact r_zret dX9_truncate_16 rfl (Or.inl rfl) t
theorem dX9_bufferLength_0 : decode cX9_bufferLength 0 = .ok (.aload_n 0, 1) := by decide +kernel
theorem dX9_bufferLength_1 : decode cX9_bufferLength 1 = .ok (.getfield 12, 3) := by decide +kernel
theorem dX9_bufferLength_4 : decode cX9_bufferLength 4 = .ok (.getfield 79, 3) := by decide +kernel
theorem dX9_bufferLength_7 : decode cX9_bufferLength 7 = .ok (.ireturn, 1) := by decide +kernel
set_option maxRecDepth 20000 in
theorem wp_X9_bufferLength (E : En) (d : Nat) (h : Hp) (P : Int32 → Hp → Prop) (t : P (h.1 1 0) h) : SpI E d MX9_bufferLength [.ref (eA E 0)] h P := by
  refine SpI.of (lv0 := [(0, .ref (eA E 0))]) (by decide) (Nat.le_of_ble_eq_true rfl) rfl (fun g => ?_)
  refine r_aload_n (q := 0) dX9_bufferLength_0 rfl rfl ?_
  refine r_getR (c := 0) (c2 := 1) dX9_bufferLength_1 flX9_12 lay_0 rfl ?_
  refine r_getI (c := 1) dX9_bufferLength_4 flX9_79 lay_1 rfl ?_
  exact r_iret dX9_bufferLength_7 rfl t
theorem dX9_find_0 : decode cX9_find 0 = .ok (.aload_n 0, 1) := by decide +kernel
theorem dX9_find_1 : decode cX9_find 1 = .ok (.getfield 12, 3) := by decide +kernel
theorem dX9_find_4 : decode cX9_find 4 = .ok (.invokevirtual 99, 3) := by decide +kernel
theorem dX9_find_7 : decode cX9_find 7 = .ok (.lstore_n 1, 1) := by decide +kernel
theorem dX9_find_8 : decode cX9_find 8 = .ok (.aload_n 0, 1) := by decide +kernel
theorem dX9_find_9 : decode cX9_find 9 = .ok (.getfield 12, 3) := by decide +kernel
theorem dX9_find_12 : decode cX9_find 12 = .ok (.iconst 0, 1) := by decide +kernel
theorem dX9_find_13 : decode cX9_find 13 = .ok (.putfield 79, 3) := by decide +kernel
theorem dX9_find_16 : decode cX9_find 16 = .ok (.aload_n 0, 1) := by decide +kernel
theorem dX9_find_17 : decode cX9_find 17 = .ok (.getfield 26, 3) := by decide +kernel
theorem dX9_find_20 : decode cX9_find 20 = .ok (.lload_n 1, 1) := by decide +kernel
theorem dX9_find_21 : decode cX9_find 21 = .ok (.invokevirtual 103, 3) := by decide +kernel
theorem dX9_find_24 : decode cX9_find 24 = .ok (.istore_n 3, 1) := by decide +kernel
theorem dX9_find_25 : decode cX9_find 25 = .ok (.iload_n 3, 1) := by decide +kernel
theorem dX9_find_26 : decode cX9_find 26 = .ok (.iconst (-1), 1) := by decide +kernel
theorem dX9_find_27 : decode cX9_find 27 = .ok (.if_icmp .eq 5, 3) := by decide +kernel
theorem dX9_find_30 : decode cX9_find 30 = .ok (.iload_n 3, 1) := by decide +kernel
theorem dX9_find_31 : decode cX9_find 31 = .ok (.ireturn, 1) := by decide +kernel
theorem dX9_find_32 : decode cX9_find 32 = .ok (.aload_n 0, 1) := by decide +kernel
theorem dX9_find_33 : decode cX9_find 33 = .ok (.getfield 26, 3) := by decide +kernel
theorem dX9_find_36 : decode cX9_find 36 = .ok (.lload_n 1, 1) := by decide +kernel
theorem dX9_find_37 : decode cX9_find 37 = .ok (.invokevirtual 107, 3) := by decide +kernel
theorem dX9_find_40 : decode cX9_find 40 = .ok (.istore 4, 2) := by decide +kernel
theorem dX9_find_42 : decode cX9_find 42 = .ok (.iload 4, 2) := by decide +kernel
theorem dX9_find_44 : decode cX9_find 44 = .ok (.iconst (-1), 1) := by decide +kernel
theorem dX9_find_45 : decode cX9_find 45 = .ok (.if_icmp .ne 7, 3) := by decide +kernel
theorem dX9_find_48 : decode cX9_find 48 = .ok (.iconst (-1), 1) := by decide +kernel
theorem dX9_find_49 : decode cX9_find 49 = .ok (.goto 8, 3) := by decide +kernel
theorem dX9_find_52 : decode cX9_find 52 = .ok (.bipush 100, 2) := by decide +kernel
theorem dX9_find_54 : decode cX9_find 54 = .ok (.iload 4, 2) := by decide +kernel
theorem dX9_find_56 : decode cX9_find 56 = .ok (.iadd, 1) := by decide +kernel
theorem dX9_find_57 : decode cX9_find 57 = .ok (.ireturn, 1) := by decide +kernel
set_option maxRecDepth 20000 in
theorem wp_X9_find (E : En) (d : Nat) (h : Hp) (P : Int32 → Hp → Prop) (t : SpL E d MX2_wholeName [.ref (eA E 1)] h (fun v1 h1 => SpI E d MX6_operationNamed [.ref (eA E 5), .long v1] (sI h1 1 0 (0 : Int32)) (fun v2 h2 => (v2 = (-1 : Int32) → (SpI E d MX6_instructionNamed [.ref (eA E 5), .long v1] h2 (fun v4 h4 => (¬ v4 = (-1 : Int32) → (P ((100 : Int32) + v4) h4)) ∧ (v4 = (-1 : Int32) → (P (-1 : Int32) h4))))) ∧ (¬ v2 = (-1 : Int32) → (P v2 h2))))) : SpI E (d + 1) MX9_find [.ref (eA E 0)] h P := by
  refine SpI.of (lv0 := [(0, .ref (eA E 0))]) (by decide) (Nat.le_of_ble_eq_true rfl) rfl (fun g => ?_)
  refine r_aload_n (q := 0) dX9_find_0 rfl rfl ?_
  refine r_getR (c := 0) (c2 := 1) dX9_find_1 flX9_12 lay_0 rfl ?_
  refine r_cVL (c := 1) (As := []) dX9_find_4 mkX2_wholeName lkX9_99 lay_1 rfl rfl rfl (by decide) rfl (Nat.le_of_ble_eq_true rfl) z00 t ?_
  intro v1 h1 t
  refine r_lstore_n (lv' := [(1, .long v1), (0, .ref (eA E 0))]) dX9_find_7 rfl (by decide) rfl ?_
  refine r_aload_n (q := 1) dX9_find_8 rfl rfl ?_
  refine r_getR (c := 0) (c2 := 1) dX9_find_9 flX9_12 lay_0 rfl ?_
  refine r_iconst (v := (0 : Int32)) dX9_find_12 rfl ?_
  refine r_putI (c := 1) dX9_find_13 flX9_79 lay_1 rfl ?_
  refine r_aload_n (q := 1) dX9_find_16 rfl rfl ?_
  refine r_getR (c := 0) (c2 := 5) dX9_find_17 flX9_26 lay_0 rfl ?_
  refine r_lload_n (q := 0) dX9_find_20 rfl rfl ?_
  refine r_cVI (c := 5) (As := [.long v1]) dX9_find_21 mkX6_operationNamed lkX9_103 lay_5 rfl rfl rfl (by decide) rfl (Nat.le_of_ble_eq_true rfl) z00 t ?_
  intro v2 h2 t
  refine r_istore_n (lv' := [(3, .int v2), (1, .long v1), (0, .ref (eA E 0))]) dX9_find_24 rfl (by decide) rfl ?_
  refine r_iload_n (q := 0) dX9_find_25 rfl rfl ?_
  refine r_iconst (v := (-1 : Int32)) dX9_find_26 rfl ?_
  refine r_icmp_eq (tgt := 32) dX9_find_27 (by decide) (fun q3 => ?_) (fun q3 => ?_)
  · have t := t.1 q3
    refine r_aload_n (q := 2) dX9_find_32 rfl rfl ?_
    refine r_getR (c := 0) (c2 := 5) dX9_find_33 flX9_26 lay_0 rfl ?_
    refine r_lload_n (q := 1) dX9_find_36 rfl rfl ?_
    refine r_cVI (c := 5) (As := [.long v1]) dX9_find_37 mkX6_instructionNamed lkX9_107 lay_5 rfl rfl rfl (by decide) rfl (Nat.le_of_ble_eq_true rfl) z00 t ?_
    intro v4 h4 t
    refine r_istore (lv' := [(4, .int v4), (3, .int v2), (1, .long v1), (0, .ref (eA E 0))]) dX9_find_40 (by decide) rfl ?_
    refine r_iload (q := 0) dX9_find_42 rfl ?_
    refine r_iconst (v := (-1 : Int32)) dX9_find_44 rfl ?_
    refine r_icmp_ne (tgt := 52) dX9_find_45 (by decide) (fun q5 => ?_) (fun q5 => ?_)
    · have t := t.1 q5
      refine r_bipush (v := (100 : Int32)) dX9_find_52 rfl ?_
      refine r_iload (q := 0) dX9_find_54 rfl ?_
      refine r_iadd dX9_find_56 ?_
      exact r_iret dX9_find_57 rfl t
    · have t := t.2 q5
      refine r_iconst (v := (-1 : Int32)) dX9_find_48 rfl ?_
      refine r_goto (tgt := 57) dX9_find_49 (by decide) ?_
      exact r_iret dX9_find_57 rfl t
  · have t := t.2 q3
    refine r_iload_n (q := 0) dX9_find_30 rfl rfl ?_
    exact r_iret dX9_find_31 rfl t
theorem dX9_write_0 : decode cX9_write 0 = .ok (.aload_n 0, 1) := by decide +kernel
theorem dX9_write_1 : decode cX9_write 1 = .ok (.getfield 19, 3) := by decide +kernel
theorem dX9_write_4 : decode cX9_write 4 = .ok (.aload_n 0, 1) := by decide +kernel
theorem dX9_write_5 : decode cX9_write 5 = .ok (.getfield 26, 3) := by decide +kernel
theorem dX9_write_8 : decode cX9_write 8 = .ok (.invokevirtual 110, 3) := by decide +kernel
theorem dX9_write_11 : decode cX9_write 11 = .ok (.aload_n 0, 1) := by decide +kernel
theorem dX9_write_12 : decode cX9_write 12 = .ok (.getfield 19, 3) := by decide +kernel
theorem dX9_write_15 : decode cX9_write 15 = .ok (.getfield 114, 3) := by decide +kernel
theorem dX9_write_18 : decode cX9_write 18 = .ok (.ireturn, 1) := by decide +kernel
set_option maxRecDepth 20000 in
theorem wp_X9_write (E : En) (d : Nat) (h : Hp) (P : Int32 → Hp → Prop) (t : SpV E d MX3_putSource [.ref (eA E 3), .ref (eA E 5)] h (fun h1 => P (h1.1 3 1) h1)) : SpI E (d + 1) MX9_write [.ref (eA E 0)] h P := by
  refine SpI.of (lv0 := [(0, .ref (eA E 0))]) (by decide) (Nat.le_of_ble_eq_true rfl) rfl (fun g => ?_)
  refine r_aload_n (q := 0) dX9_write_0 rfl rfl ?_
  refine r_getR (c := 0) (c2 := 3) dX9_write_1 flX9_19 lay_0 rfl ?_
  refine r_aload_n (q := 0) dX9_write_4 rfl rfl ?_
  refine r_getR (c := 0) (c2 := 5) dX9_write_5 flX9_26 lay_0 rfl ?_
  refine r_cVV (c := 3) (As := [.ref (eA E 5)]) dX9_write_8 mkX3_putSource lkX9_110 lay_3 rfl rfl rfl (by decide) rfl (Nat.le_of_ble_eq_true rfl) z00 t ?_
  intro h1 t
  refine r_aload_n (q := 0) dX9_write_11 rfl rfl ?_
  refine r_getR (c := 0) (c2 := 3) dX9_write_12 flX9_19 lay_0 rfl ?_
  refine r_getI (c := 3) dX9_write_15 flX9_114 lay_3 rfl ?_
  exact r_iret dX9_write_18 rfl t
theorem dX9_operationCount_0 : decode cX9_operationCount 0 = .ok (.aload_n 0, 1) := by decide +kernel
theorem dX9_operationCount_1 : decode cX9_operationCount 1 = .ok (.getfield 26, 3) := by decide +kernel
theorem dX9_operationCount_4 : decode cX9_operationCount 4 = .ok (.getfield 126, 3) := by decide +kernel
theorem dX9_operationCount_7 : decode cX9_operationCount 7 = .ok (.ireturn, 1) := by decide +kernel
set_option maxRecDepth 20000 in
theorem wp_X9_operationCount (E : En) (d : Nat) (h : Hp) (P : Int32 → Hp → Prop) (t : P (h.1 5 0) h) : SpI E d MX9_operationCount [.ref (eA E 0)] h P := by
  refine SpI.of (lv0 := [(0, .ref (eA E 0))]) (by decide) (Nat.le_of_ble_eq_true rfl) rfl (fun g => ?_)
  refine r_aload_n (q := 0) dX9_operationCount_0 rfl rfl ?_
  refine r_getR (c := 0) (c2 := 5) dX9_operationCount_1 flX9_26 lay_0 rfl ?_
  refine r_getI (c := 5) dX9_operationCount_4 flX9_126 lay_5 rfl ?_
  exact r_iret dX9_operationCount_7 rfl t
theorem dX9_instructionCount_0 : decode cX9_instructionCount 0 = .ok (.aload_n 0, 1) := by decide +kernel
theorem dX9_instructionCount_1 : decode cX9_instructionCount 1 = .ok (.getfield 26, 3) := by decide +kernel
theorem dX9_instructionCount_4 : decode cX9_instructionCount 4 = .ok (.getfield 96, 3) := by decide +kernel
theorem dX9_instructionCount_7 : decode cX9_instructionCount 7 = .ok (.ireturn, 1) := by decide +kernel
set_option maxRecDepth 20000 in
theorem wp_X9_instructionCount (E : En) (d : Nat) (h : Hp) (P : Int32 → Hp → Prop) (t : P (h.1 5 8) h) : SpI E d MX9_instructionCount [.ref (eA E 0)] h P := by
  refine SpI.of (lv0 := [(0, .ref (eA E 0))]) (by decide) (Nat.le_of_ble_eq_true rfl) rfl (fun g => ?_)
  refine r_aload_n (q := 0) dX9_instructionCount_0 rfl rfl ?_
  refine r_getR (c := 0) (c2 := 5) dX9_instructionCount_1 flX9_26 lay_0 rfl ?_
  refine r_getI (c := 5) dX9_instructionCount_4 flX9_96 lay_5 rfl ?_
  exact r_iret dX9_instructionCount_7 rfl t
theorem dX9_mode_0 : decode cX9_mode 0 = .ok (.aload_n 0, 1) := by decide +kernel
theorem dX9_mode_1 : decode cX9_mode 1 = .ok (.getfield 75, 3) := by decide +kernel
theorem dX9_mode_4 : decode cX9_mode 4 = .ok (.ireturn, 1) := by decide +kernel
set_option maxRecDepth 20000 in
theorem wp_X9_mode (E : En) (d : Nat) (h : Hp) (P : Int32 → Hp → Prop) (t : P (h.1 0 10) h) : SpI E d MX9_mode [.ref (eA E 0)] h P := by
  refine SpI.of (lv0 := [(0, .ref (eA E 0))]) (by decide) (Nat.le_of_ble_eq_true rfl) rfl (fun g => ?_)
  refine r_aload_n (q := 0) dX9_mode_0 rfl rfl ?_
  refine r_getI (c := 0) dX9_mode_1 flX9_75 lay_0 rfl ?_
  exact r_iret dX9_mode_4 rfl t
theorem dX9_undo_0 : decode cX9_undo 0 = .ok (.aload_n 0, 1) := by decide +kernel
theorem dX9_undo_1 : decode cX9_undo 1 = .ok (.getfield 36, 3) := by decide +kernel
theorem dX9_undo_4 : decode cX9_undo 4 = .ok (.getfield 207, 3) := by decide +kernel
theorem dX9_undo_7 : decode cX9_undo 7 = .ok (.ifCond .ne 5, 3) := by decide +kernel
theorem dX9_undo_10 : decode cX9_undo 10 = .ok (.iconst (-1), 1) := by decide +kernel
theorem dX9_undo_11 : decode cX9_undo 11 = .ok (.ireturn, 1) := by decide +kernel
theorem dX9_undo_12 : decode cX9_undo 12 = .ok (.aload_n 0, 1) := by decide +kernel
theorem dX9_undo_13 : decode cX9_undo 13 = .ok (.getfield 36, 3) := by decide +kernel
theorem dX9_undo_16 : decode cX9_undo 16 = .ok (.getfield 207, 3) := by decide +kernel
theorem dX9_undo_19 : decode cX9_undo 19 = .ok (.iconst 1, 1) := by decide +kernel
theorem dX9_undo_20 : decode cX9_undo 20 = .ok (.isub, 1) := by decide +kernel
theorem dX9_undo_21 : decode cX9_undo 21 = .ok (.istore_n 1, 1) := by decide +kernel
theorem dX9_undo_22 : decode cX9_undo 22 = .ok (.aload_n 0, 1) := by decide +kernel
theorem dX9_undo_23 : decode cX9_undo 23 = .ok (.getfield 36, 3) := by decide +kernel
theorem dX9_undo_26 : decode cX9_undo 26 = .ok (.getfield 208, 3) := by decide +kernel
theorem dX9_undo_29 : decode cX9_undo 29 = .ok (.iload_n 1, 1) := by decide +kernel
theorem dX9_undo_30 : decode cX9_undo 30 = .ok (.iaload, 1) := by decide +kernel
theorem dX9_undo_31 : decode cX9_undo 31 = .ok (.istore_n 2, 1) := by decide +kernel
theorem dX9_undo_32 : decode cX9_undo 32 = .ok (.aload_n 0, 1) := by decide +kernel
theorem dX9_undo_33 : decode cX9_undo 33 = .ok (.getfield 36, 3) := by decide +kernel
theorem dX9_undo_36 : decode cX9_undo 36 = .ok (.getfield 211, 3) := by decide +kernel
theorem dX9_undo_39 : decode cX9_undo 39 = .ok (.iload_n 1, 1) := by decide +kernel
theorem dX9_undo_40 : decode cX9_undo 40 = .ok (.iaload, 1) := by decide +kernel
theorem dX9_undo_41 : decode cX9_undo 41 = .ok (.istore_n 3, 1) := by decide +kernel
theorem dX9_undo_42 : decode cX9_undo 42 = .ok (.aload_n 0, 1) := by decide +kernel
theorem dX9_undo_43 : decode cX9_undo 43 = .ok (.getfield 36, 3) := by decide +kernel
theorem dX9_undo_46 : decode cX9_undo 46 = .ok (.iload_n 1, 1) := by decide +kernel
theorem dX9_undo_47 : decode cX9_undo 47 = .ok (.putfield 207, 3) := by decide +kernel
theorem dX9_undo_50 : decode cX9_undo 50 = .ok (.iload_n 2, 1) := by decide +kernel
theorem dX9_undo_51 : decode cX9_undo 51 = .ok (.iconst (-1), 1) := by decide +kernel
theorem dX9_undo_52 : decode cX9_undo 52 = .ok (.if_icmp .ne 15, 3) := by decide +kernel
theorem dX9_undo_55 : decode cX9_undo 55 = .ok (.aload_n 0, 1) := by decide +kernel
theorem dX9_undo_56 : decode cX9_undo 56 = .ok (.iload_n 3, 1) := by decide +kernel
theorem dX9_undo_57 : decode cX9_undo 57 = .ok (.putfield 75, 3) := by decide +kernel
theorem dX9_undo_60 : decode cX9_undo 60 = .ok (.aload_n 0, 1) := by decide +kernel
theorem dX9_undo_61 : decode cX9_undo 61 = .ok (.invokevirtual 93, 3) := by decide +kernel
theorem dX9_undo_64 : decode cX9_undo 64 = .ok (.goto 18, 3) := by decide +kernel
theorem dX9_undo_67 : decode cX9_undo 67 = .ok (.aload_n 0, 1) := by decide +kernel
theorem dX9_undo_68 : decode cX9_undo 68 = .ok (.iload_n 2, 1) := by decide +kernel
theorem dX9_undo_69 : decode cX9_undo 69 = .ok (.iload_n 3, 1) := by decide +kernel
theorem dX9_undo_70 : decode cX9_undo 70 = .ok (.iconst 1, 1) := by decide +kernel
theorem dX9_undo_71 : decode cX9_undo 71 = .ok (.if_icmp .ne 7, 3) := by decide +kernel
theorem dX9_undo_74 : decode cX9_undo 74 = .ok (.iconst 1, 1) := by decide +kernel
theorem dX9_undo_75 : decode cX9_undo 75 = .ok (.goto 4, 3) := by decide +kernel
theorem dX9_undo_78 : decode cX9_undo 78 = .ok (.iconst 0, 1) := by decide +kernel
theorem dX9_undo_79 : decode cX9_undo 79 = .ok (.invokevirtual 203, 3) := by decide +kernel
theorem dX9_undo_82 : decode cX9_undo 82 = .ok (.aload_n 0, 1) := by decide +kernel
theorem dX9_undo_83 : decode cX9_undo 83 = .ok (.getfield 36, 3) := by decide +kernel
theorem dX9_undo_86 : decode cX9_undo 86 = .ok (.getfield 207, 3) := by decide +kernel
theorem dX9_undo_89 : decode cX9_undo 89 = .ok (.ireturn, 1) := by decide +kernel
set_option maxRecDepth 20000 in
theorem wp_X9_undo (E : En) (d : Nat) (h : Hp) (P : Int32 → Hp → Prop) (t : (¬ (h.1 29 2) = 0 → (vp_in ((h.1 29 2) - (1 : Int32)) 8 ∧ (vp_in ((h.1 29 2) - (1 : Int32)) 8 ∧ ((¬ (h.1 30 (((h.1 29 2) - (1 : Int32)).toNatClampNeg)) = (-1 : Int32) → ((¬ (h.1 31 (((h.1 29 2) - (1 : Int32)).toNatClampNeg)) = (1 : Int32) → (SpV E d MX9_changeMark [.ref (eA E 0), .int (h.1 30 (((h.1 29 2) - (1 : Int32)).toNatClampNeg)), .int (0 : Int32)] (sI h 29 2 ((h.1 29 2) - (1 : Int32))) (fun h6 => P (h6.1 29 2) h6))) ∧ ((h.1 31 (((h.1 29 2) - (1 : Int32)).toNatClampNeg)) = (1 : Int32) → (SpV E d MX9_changeMark [.ref (eA E 0), .int (h.1 30 (((h.1 29 2) - (1 : Int32)).toNatClampNeg)), .int (1 : Int32)] (sI h 29 2 ((h.1 29 2) - (1 : Int32))) (fun h7 => P (h7.1 29 2) h7))))) ∧ ((h.1 30 (((h.1 29 2) - (1 : Int32)).toNatClampNeg)) = (-1 : Int32) → (SpV E d MX9_packAll [.ref (eA E 0)] (sI (sI h 29 2 ((h.1 29 2) - (1 : Int32))) 0 10 (h.1 31 (((h.1 29 2) - (1 : Int32)).toNatClampNeg))) (fun h8 => P (h8.1 29 2) h8))))))) ∧ ((h.1 29 2) = 0 → (P (-1 : Int32) h))) : SpI E (d + 1) MX9_undo [.ref (eA E 0)] h P := by
  refine SpI.of (lv0 := [(0, .ref (eA E 0))]) (by decide) (Nat.le_of_ble_eq_true rfl) rfl (fun g => ?_)
  refine r_aload_n (q := 0) dX9_undo_0 rfl rfl ?_
  refine r_getR (c := 0) (c2 := 29) dX9_undo_1 flX9_36 lay_0 rfl ?_
  refine r_getI (c := 29) dX9_undo_4 flX9_207 lay_29 rfl ?_
  refine r_if_ne (tgt := 12) dX9_undo_7 (by decide) (fun q1 => ?_) (fun q1 => ?_)
  · have t := t.1 q1
    refine r_aload_n (q := 0) dX9_undo_12 rfl rfl ?_
    refine r_getR (c := 0) (c2 := 29) dX9_undo_13 flX9_36 lay_0 rfl ?_
    refine r_getI (c := 29) dX9_undo_16 flX9_207 lay_29 rfl ?_
    refine r_iconst (v := (1 : Int32)) dX9_undo_19 rfl ?_
    refine r_isub dX9_undo_20 ?_
    refine r_istore_n (lv' := [(1, .int ((h.1 29 2) - (1 : Int32))), (0, .ref (eA E 0))]) dX9_undo_21 rfl (by decide) rfl ?_
    refine r_aload_n (q := 1) dX9_undo_22 rfl rfl ?_
    refine r_getR (c := 0) (c2 := 29) dX9_undo_23 flX9_36 lay_0 rfl ?_
    refine r_getR (c := 29) (c2 := 30) dX9_undo_26 flX9_208 lay_29 rfl ?_
    refine r_iload_n (q := 0) dX9_undo_29 rfl rfl ?_
    obtain ⟨c2, t⟩ := t
    refine r_iald (c := 30) dX9_undo_30 lay_30 c2 ?_
    refine r_istore_n (lv' := [(2, .int (h.1 30 (((h.1 29 2) - (1 : Int32)).toNatClampNeg))), (1, .int ((h.1 29 2) - (1 : Int32))), (0, .ref (eA E 0))]) dX9_undo_31 rfl (by decide) rfl ?_
    refine r_aload_n (q := 2) dX9_undo_32 rfl rfl ?_
    refine r_getR (c := 0) (c2 := 29) dX9_undo_33 flX9_36 lay_0 rfl ?_
    refine r_getR (c := 29) (c2 := 31) dX9_undo_36 flX9_211 lay_29 rfl ?_
    refine r_iload_n (q := 1) dX9_undo_39 rfl rfl ?_
    obtain ⟨c3, t⟩ := t
    refine r_iald (c := 31) dX9_undo_40 lay_31 c3 ?_
    refine r_istore_n (lv' := [(3, .int (h.1 31 (((h.1 29 2) - (1 : Int32)).toNatClampNeg))), (2, .int (h.1 30 (((h.1 29 2) - (1 : Int32)).toNatClampNeg))), (1, .int ((h.1 29 2) - (1 : Int32))), (0, .ref (eA E 0))]) dX9_undo_41 rfl (by decide) rfl ?_
    refine r_aload_n (q := 3) dX9_undo_42 rfl rfl ?_
    refine r_getR (c := 0) (c2 := 29) dX9_undo_43 flX9_36 lay_0 rfl ?_
    refine r_iload_n (q := 2) dX9_undo_46 rfl rfl ?_
    refine r_putI (c := 29) dX9_undo_47 flX9_207 lay_29 rfl ?_
    refine r_iload_n (q := 1) dX9_undo_50 rfl rfl ?_
    refine r_iconst (v := (-1 : Int32)) dX9_undo_51 rfl ?_
    refine r_icmp_ne (tgt := 67) dX9_undo_52 (by decide) (fun q4 => ?_) (fun q4 => ?_)
    · have t := t.1 q4
      refine r_aload_n (q := 3) dX9_undo_67 rfl rfl ?_
      refine r_iload_n (q := 1) dX9_undo_68 rfl rfl ?_
      refine r_iload_n (q := 0) dX9_undo_69 rfl rfl ?_
      refine r_iconst (v := (1 : Int32)) dX9_undo_70 rfl ?_
      refine r_icmp_ne (tgt := 78) dX9_undo_71 (by decide) (fun q5 => ?_) (fun q5 => ?_)
      · have t := t.1 q5
        refine r_iconst (v := (0 : Int32)) dX9_undo_78 rfl ?_
        refine r_cVV (c := 0) (As := [.int (h.1 30 (((h.1 29 2) - (1 : Int32)).toNatClampNeg)), .int (0 : Int32)]) dX9_undo_79 mkX9_changeMark lkX9_203 lay_0 rfl rfl rfl (by decide) rfl (Nat.le_of_ble_eq_true rfl) z00 t ?_
        intro h6 t
        refine r_aload_n (q := 3) dX9_undo_82 rfl rfl ?_
        refine r_getR (c := 0) (c2 := 29) dX9_undo_83 flX9_36 lay_0 rfl ?_
        refine r_getI (c := 29) dX9_undo_86 flX9_207 lay_29 rfl ?_
        exact r_iret dX9_undo_89 rfl t
      · have t := t.2 q5
        refine r_iconst (v := (1 : Int32)) dX9_undo_74 rfl ?_
        refine r_goto (tgt := 79) dX9_undo_75 (by decide) ?_
        refine r_cVV (c := 0) (As := [.int (h.1 30 (((h.1 29 2) - (1 : Int32)).toNatClampNeg)), .int (1 : Int32)]) dX9_undo_79 mkX9_changeMark lkX9_203 lay_0 rfl rfl rfl (by decide) rfl (Nat.le_of_ble_eq_true rfl) z00 t ?_
        intro h7 t
        refine r_aload_n (q := 3) dX9_undo_82 rfl rfl ?_
        refine r_getR (c := 0) (c2 := 29) dX9_undo_83 flX9_36 lay_0 rfl ?_
        refine r_getI (c := 29) dX9_undo_86 flX9_207 lay_29 rfl ?_
        exact r_iret dX9_undo_89 rfl t
    · have t := t.2 q4
      refine r_aload_n (q := 3) dX9_undo_55 rfl rfl ?_
      refine r_iload_n (q := 0) dX9_undo_56 rfl rfl ?_
      refine r_putI (c := 0) dX9_undo_57 flX9_75 lay_0 rfl ?_
      refine r_aload_n (q := 3) dX9_undo_60 rfl rfl ?_
      refine r_cVV (c := 0) (As := []) dX9_undo_61 mkX9_packAll lkX9_93 lay_0 rfl rfl rfl (by decide) rfl (Nat.le_of_ble_eq_true rfl) z00 t ?_
      intro h8 t
      refine r_goto (tgt := 82) dX9_undo_64 (by decide) ?_
      refine r_aload_n (q := 3) dX9_undo_82 rfl rfl ?_
      refine r_getR (c := 0) (c2 := 29) dX9_undo_83 flX9_36 lay_0 rfl ?_
      refine r_getI (c := 29) dX9_undo_86 flX9_207 lay_29 rfl ?_
      exact r_iret dX9_undo_89 rfl t
  · have t := t.2 q1
    refine r_iconst (v := (-1 : Int32)) dX9_undo_10 rfl ?_
    exact r_iret dX9_undo_11 rfl t
theorem dX9_changeMark_0 : decode cX9_changeMark 0 = .ok (.aload_n 0, 1) := by decide +kernel
theorem dX9_changeMark_1 : decode cX9_changeMark 1 = .ok (.getfield 26, 3) := by decide +kernel
theorem dX9_changeMark_4 : decode cX9_changeMark 4 = .ok (.getfield 167, 3) := by decide +kernel
theorem dX9_changeMark_7 : decode cX9_changeMark 7 = .ok (.iload_n 1, 1) := by decide +kernel
theorem dX9_changeMark_8 : decode cX9_changeMark 8 = .ok (.iload_n 2, 1) := by decide +kernel
theorem dX9_changeMark_9 : decode cX9_changeMark 9 = .ok (.bastore, 1) := by decide +kernel
theorem dX9_changeMark_10 : decode cX9_changeMark 10 = .ok (.aload_n 0, 1) := by decide +kernel
theorem dX9_changeMark_11 : decode cX9_changeMark 11 = .ok (.getfield 50, 3) := by decide +kernel
theorem dX9_changeMark_14 : decode cX9_changeMark 14 = .ok (.aload_n 0, 1) := by decide +kernel
theorem dX9_changeMark_15 : decode cX9_changeMark 15 = .ok (.getfield 26, 3) := by decide +kernel
theorem dX9_changeMark_18 : decode cX9_changeMark 18 = .ok (.iload_n 1, 1) := by decide +kernel
theorem dX9_changeMark_19 : decode cX9_changeMark 19 = .ok (.bipush 24, 2) := by decide +kernel
theorem dX9_changeMark_21 : decode cX9_changeMark 21 = .ok (.idiv, 1) := by decide +kernel
theorem dX9_changeMark_22 : decode cX9_changeMark 22 = .ok (.aload_n 0, 1) := by decide +kernel
theorem dX9_changeMark_23 : decode cX9_changeMark 23 = .ok (.getfield 75, 3) := by decide +kernel
theorem dX9_changeMark_26 : decode cX9_changeMark 26 = .ok (.aload_n 0, 1) := by decide +kernel
theorem dX9_changeMark_27 : decode cX9_changeMark 27 = .ok (.getfield 43, 3) := by decide +kernel
theorem dX9_changeMark_30 : decode cX9_changeMark 30 = .ok (.invokevirtual 214, 3) := by decide +kernel
theorem dX9_changeMark_33 : decode cX9_changeMark 33 = .ok (.aload_n 0, 1) := by decide +kernel
theorem dX9_changeMark_34 : decode cX9_changeMark 34 = .ok (.invokevirtual 218, 3) := by decide +kernel
theorem dX9_changeMark_37 : decode cX9_changeMark 37 = .ok (.return_, 1) := by decide +kernel
set_option maxRecDepth 20000 in
theorem wp_X9_changeMark (E : En) (d : Nat) (a1 : Int32) (a2 : Int32) (h : Hp) (P : Hp → Prop) (t : vp_in a1 192 ∧ (SpV E d MX8_pack [.ref (eA E 40), .ref (eA E 5), .int (a1 / (24 : Int32)), .int (h.1 0 10), .ref (eA E 32)] (sI h 16 a1.toNatClampNeg (vp_nar .boolean a2)) (fun h2 => SpV E d MX9_fillStore [.ref (eA E 0)] h2 (fun h3 => P h3)))) : SpV E (d + 1) MX9_changeMark [.ref (eA E 0), .int a1, .int a2] h P := by
  refine SpV.of (lv0 := [(0, .ref (eA E 0)), (1, .int a1), (2, .int a2)]) (by decide) (Nat.le_of_ble_eq_true rfl) rfl (fun g => ?_)
  refine r_aload_n (q := 0) dX9_changeMark_0 rfl rfl ?_
  refine r_getR (c := 0) (c2 := 5) dX9_changeMark_1 flX9_26 lay_0 rfl ?_
  refine r_getR (c := 5) (c2 := 16) dX9_changeMark_4 flX9_167 lay_5 rfl ?_
  refine r_iload_n (q := 1) dX9_changeMark_7 rfl rfl ?_
  refine r_iload_n (q := 2) dX9_changeMark_8 rfl rfl ?_
  obtain ⟨c1, t⟩ := t
  refine r_zast (c := 16) dX9_changeMark_9 lay_16 c1 ?_
  refine r_aload_n (q := 0) dX9_changeMark_10 rfl rfl ?_
  refine r_getR (c := 0) (c2 := 40) dX9_changeMark_11 flX9_50 lay_0 rfl ?_
  refine r_aload_n (q := 0) dX9_changeMark_14 rfl rfl ?_
  refine r_getR (c := 0) (c2 := 5) dX9_changeMark_15 flX9_26 lay_0 rfl ?_
  refine r_iload_n (q := 1) dX9_changeMark_18 rfl rfl ?_
  refine r_bipush (v := (24 : Int32)) dX9_changeMark_19 rfl ?_
  refine r_idiv dX9_changeMark_21 (by decide) ?_
  refine r_aload_n (q := 0) dX9_changeMark_22 rfl rfl ?_
  refine r_getIv (c := 0) (v := h.1 0 10) dX9_changeMark_23 flX9_75 lay_0 rfl rfl ?_
  refine r_aload_n (q := 0) dX9_changeMark_26 rfl rfl ?_
  refine r_getR (c := 0) (c2 := 32) dX9_changeMark_27 flX9_43 lay_0 rfl ?_
  refine r_cVV (c := 40) (As := [.ref (eA E 5), .int (a1 / (24 : Int32)), .int (h.1 0 10), .ref (eA E 32)]) dX9_changeMark_30 mkX8_pack lkX9_214 lay_40 rfl rfl rfl (by decide) rfl (Nat.le_of_ble_eq_true rfl) z00 t ?_
  intro h2 t
  refine r_aload_n (q := 0) dX9_changeMark_33 rfl rfl ?_
  refine r_cVV (c := 0) (As := []) dX9_changeMark_34 mkX9_fillStore lkX9_218 lay_0 rfl rfl rfl (by decide) rfl (Nat.le_of_ble_eq_true rfl) z00 t ?_
  intro h3 t
  exact r_vret dX9_changeMark_37 rfl t
theorem dX9_packAll_0 : decode cX9_packAll 0 = .ok (.iconst 0, 1) := by decide +kernel
theorem dX9_packAll_1 : decode cX9_packAll 1 = .ok (.istore_n 1, 1) := by decide +kernel
theorem dX9_packAll_2 : decode cX9_packAll 2 = .ok (.iload_n 1, 1) := by decide +kernel
theorem dX9_packAll_3 : decode cX9_packAll 3 = .ok (.aload_n 0, 1) := by decide +kernel
theorem dX9_packAll_4 : decode cX9_packAll 4 = .ok (.getfield 26, 3) := by decide +kernel
theorem dX9_packAll_7 : decode cX9_packAll 7 = .ok (.getfield 96, 3) := by decide +kernel
theorem dX9_packAll_10 : decode cX9_packAll 10 = .ok (.if_icmp .ge 29, 3) := by decide +kernel
theorem dX9_packAll_13 : decode cX9_packAll 13 = .ok (.aload_n 0, 1) := by decide +kernel
theorem dX9_packAll_14 : decode cX9_packAll 14 = .ok (.getfield 50, 3) := by decide +kernel
theorem dX9_packAll_17 : decode cX9_packAll 17 = .ok (.aload_n 0, 1) := by decide +kernel
theorem dX9_packAll_18 : decode cX9_packAll 18 = .ok (.getfield 26, 3) := by decide +kernel
theorem dX9_packAll_21 : decode cX9_packAll 21 = .ok (.iload_n 1, 1) := by decide +kernel
theorem dX9_packAll_22 : decode cX9_packAll 22 = .ok (.aload_n 0, 1) := by decide +kernel
theorem dX9_packAll_23 : decode cX9_packAll 23 = .ok (.getfield 75, 3) := by decide +kernel
theorem dX9_packAll_26 : decode cX9_packAll 26 = .ok (.aload_n 0, 1) := by decide +kernel
theorem dX9_packAll_27 : decode cX9_packAll 27 = .ok (.getfield 43, 3) := by decide +kernel
theorem dX9_packAll_30 : decode cX9_packAll 30 = .ok (.invokevirtual 214, 3) := by decide +kernel
theorem dX9_packAll_33 : decode cX9_packAll 33 = .ok (.iinc 1 1, 3) := by decide +kernel
theorem dX9_packAll_36 : decode cX9_packAll 36 = .ok (.goto (-34), 3) := by decide +kernel
theorem dX9_packAll_39 : decode cX9_packAll 39 = .ok (.aload_n 0, 1) := by decide +kernel
theorem dX9_packAll_40 : decode cX9_packAll 40 = .ok (.invokevirtual 218, 3) := by decide +kernel
theorem dX9_packAll_43 : decode cX9_packAll 43 = .ok (.return_, 1) := by decide +kernel
abbrev VX9_packAll_2 (E : En) (d : Nat) (g : Ga) (P : Hp → Prop) (x1 : Int32) (h : Hp) : Prop := V E MX9_packAll (RM (d + 1) 0) g (QQ E g (QV E P) 0 0) 0 0 h 2 [(0, .ref (eA E 0)), (1, .int x1)] []
set_option maxRecDepth 20000 in
theorem wp_X9_packAll (E : En) (d : Nat) (h : Hp) (P : Hp → Prop) (t : ∀ g : Ga, VX9_packAll_2 E d g P (0 : Int32) h) : SpV E (d + 1) MX9_packAll [.ref (eA E 0)] h P := by
  refine SpV.of (lv0 := [(0, .ref (eA E 0))]) (by decide) (Nat.le_of_ble_eq_true rfl) rfl (fun g => ?_)
  have t := t g
  refine r_iconst (v := (0 : Int32)) dX9_packAll_0 rfl ?_
  refine r_istore_n (lv' := [(1, .int (0 : Int32)), (0, .ref (eA E 0))]) dX9_packAll_1 rfl (by decide) rfl ?_
  refine r_sub [1, 0] rfl ?_
  exact t
set_option maxRecDepth 20000 in
theorem sg_X9_packAll_2 (E : En) (d : Nat) (g : Ga) (x1 : Int32) (h : Hp) (P : Hp → Prop) (t : ((h.1 5 8) ≤ x1 → (SpV E d MX9_fillStore [.ref (eA E 0)] h (fun h2 => P h2))) ∧ (¬ (h.1 5 8) ≤ x1 → (SpV E d MX8_pack [.ref (eA E 40), .ref (eA E 5), .int x1, .int (h.1 0 10), .ref (eA E 32)] h (fun h3 => VX9_packAll_2 E d g P (x1 + (1 : Int32)) h3)))) : VX9_packAll_2 E d g P x1 h := by
  refine r_iload_n (q := 1) dX9_packAll_2 rfl rfl ?_
  refine r_aload_n (q := 0) dX9_packAll_3 rfl rfl ?_
  refine r_getR (c := 0) (c2 := 5) dX9_packAll_4 flX9_26 lay_0 rfl ?_
  refine r_getI (c := 5) dX9_packAll_7 flX9_96 lay_5 rfl ?_
  refine r_icmp_ge (tgt := 39) dX9_packAll_10 (by decide) (fun q1 => ?_) (fun q1 => ?_)
  · have t := t.1 q1
    refine r_aload_n (q := 0) dX9_packAll_39 rfl rfl ?_
    refine r_cVV (c := 0) (As := []) dX9_packAll_40 mkX9_fillStore lkX9_218 lay_0 rfl rfl rfl (by decide) rfl (Nat.le_of_ble_eq_true rfl) z00 t ?_
    intro h2 t
    exact r_vret dX9_packAll_43 rfl t
  · have t := t.2 q1
    refine r_aload_n (q := 0) dX9_packAll_13 rfl rfl ?_
    refine r_getR (c := 0) (c2 := 40) dX9_packAll_14 flX9_50 lay_0 rfl ?_
    refine r_aload_n (q := 0) dX9_packAll_17 rfl rfl ?_
    refine r_getR (c := 0) (c2 := 5) dX9_packAll_18 flX9_26 lay_0 rfl ?_
    refine r_iload_n (q := 1) dX9_packAll_21 rfl rfl ?_
    refine r_aload_n (q := 0) dX9_packAll_22 rfl rfl ?_
    refine r_getI (c := 0) dX9_packAll_23 flX9_75 lay_0 rfl ?_
    refine r_aload_n (q := 0) dX9_packAll_26 rfl rfl ?_
    refine r_getR (c := 0) (c2 := 32) dX9_packAll_27 flX9_43 lay_0 rfl ?_
    refine r_cVV (c := 40) (As := [.ref (eA E 5), .int x1, .int (h.1 0 10), .ref (eA E 32)]) dX9_packAll_30 mkX8_pack lkX9_214 lay_40 rfl rfl rfl (by decide) rfl (Nat.le_of_ble_eq_true rfl) z00 t ?_
    intro h3 t
    refine r_iinc (k := 1) (v := x1 + (1 : Int32)) (lv' := [(1, .int (x1 + (1 : Int32))), (0, .ref (eA E 0))]) dX9_packAll_33 rfl rfl (by decide) rfl ?_
    refine r_goto (tgt := 2) dX9_packAll_36 (by decide) ?_
    refine r_sub [1, 0] rfl ?_
    exact t
theorem dX9_fillStore_0 : decode cX9_fillStore 0 = .ok (.aload_n 0, 1) := by decide +kernel
theorem dX9_fillStore_1 : decode cX9_fillStore 1 = .ok (.getfield 57, 3) := by decide +kernel
theorem dX9_fillStore_4 : decode cX9_fillStore 4 = .ok (.iconst 0, 1) := by decide +kernel
theorem dX9_fillStore_5 : decode cX9_fillStore 5 = .ok (.putfield 192, 3) := by decide +kernel
theorem dX9_fillStore_8 : decode cX9_fillStore 8 = .ok (.iconst 0, 1) := by decide +kernel
theorem dX9_fillStore_9 : decode cX9_fillStore 9 = .ok (.istore_n 1, 1) := by decide +kernel
theorem dX9_fillStore_10 : decode cX9_fillStore 10 = .ok (.iload_n 1, 1) := by decide +kernel
theorem dX9_fillStore_11 : decode cX9_fillStore 11 = .ok (.aload_n 0, 1) := by decide +kernel
theorem dX9_fillStore_12 : decode cX9_fillStore 12 = .ok (.getfield 26, 3) := by decide +kernel
theorem dX9_fillStore_15 : decode cX9_fillStore 15 = .ok (.getfield 96, 3) := by decide +kernel
theorem dX9_fillStore_18 : decode cX9_fillStore 18 = .ok (.if_icmp .ge 21, 3) := by decide +kernel
theorem dX9_fillStore_21 : decode cX9_fillStore 21 = .ok (.aload_n 0, 1) := by decide +kernel
theorem dX9_fillStore_22 : decode cX9_fillStore 22 = .ok (.getfield 57, 3) := by decide +kernel
theorem dX9_fillStore_25 : decode cX9_fillStore 25 = .ok (.iload_n 1, 1) := by decide +kernel
theorem dX9_fillStore_26 : decode cX9_fillStore 26 = .ok (.aload_n 0, 1) := by decide +kernel
theorem dX9_fillStore_27 : decode cX9_fillStore 27 = .ok (.getfield 50, 3) := by decide +kernel
theorem dX9_fillStore_30 : decode cX9_fillStore 30 = .ok (.invokevirtual 221, 3) := by decide +kernel
theorem dX9_fillStore_33 : decode cX9_fillStore 33 = .ok (.iinc 1 1, 3) := by decide +kernel
theorem dX9_fillStore_36 : decode cX9_fillStore 36 = .ok (.goto (-26), 3) := by decide +kernel
theorem dX9_fillStore_39 : decode cX9_fillStore 39 = .ok (.aload_n 0, 1) := by decide +kernel
theorem dX9_fillStore_40 : decode cX9_fillStore 40 = .ok (.getfield 64, 3) := by decide +kernel
theorem dX9_fillStore_43 : decode cX9_fillStore 43 = .ok (.iconst 0, 1) := by decide +kernel
theorem dX9_fillStore_44 : decode cX9_fillStore 44 = .ok (.putfield 225, 3) := by decide +kernel
theorem dX9_fillStore_47 : decode cX9_fillStore 47 = .ok (.aload_n 0, 1) := by decide +kernel
theorem dX9_fillStore_48 : decode cX9_fillStore 48 = .ok (.getfield 71, 3) := by decide +kernel
theorem dX9_fillStore_51 : decode cX9_fillStore 51 = .ok (.iconst (-1), 1) := by decide +kernel
theorem dX9_fillStore_52 : decode cX9_fillStore 52 = .ok (.putfield 229, 3) := by decide +kernel
theorem dX9_fillStore_55 : decode cX9_fillStore 55 = .ok (.return_, 1) := by decide +kernel
abbrev VX9_fillStore_10 (E : En) (d : Nat) (g : Ga) (P : Hp → Prop) (x1 : Int32) (h : Hp) : Prop := V E MX9_fillStore (RM (d + 1) 0) g (QQ E g (QV E P) 0 0) 0 0 h 10 [(0, .ref (eA E 0)), (1, .int x1)] []
set_option maxRecDepth 20000 in
theorem wp_X9_fillStore (E : En) (d : Nat) (h : Hp) (P : Hp → Prop) (t : ∀ g : Ga, VX9_fillStore_10 E d g P (0 : Int32) (sI h 46 4 (0 : Int32))) : SpV E (d + 1) MX9_fillStore [.ref (eA E 0)] h P := by
  refine SpV.of (lv0 := [(0, .ref (eA E 0))]) (by decide) (Nat.le_of_ble_eq_true rfl) rfl (fun g => ?_)
  have t := t g
  refine r_aload_n (q := 0) dX9_fillStore_0 rfl rfl ?_
  refine r_getR (c := 0) (c2 := 46) dX9_fillStore_1 flX9_57 lay_0 rfl ?_
  refine r_iconst (v := (0 : Int32)) dX9_fillStore_4 rfl ?_
  refine r_putI (c := 46) dX9_fillStore_5 flX9_192 lay_46 rfl ?_
  refine r_iconst (v := (0 : Int32)) dX9_fillStore_8 rfl ?_
  refine r_istore_n (lv' := [(1, .int (0 : Int32)), (0, .ref (eA E 0))]) dX9_fillStore_9 rfl (by decide) rfl ?_
  refine r_sub [1, 0] rfl ?_
  exact t
set_option maxRecDepth 20000 in
theorem sg_X9_fillStore_10 (E : En) (d : Nat) (g : Ga) (x1 : Int32) (h : Hp) (P : Hp → Prop) (t : ((h.1 5 8) ≤ x1 → (P (sI (sI h 51 0 (0 : Int32)) 58 1 (-1 : Int32)))) ∧ (¬ (h.1 5 8) ≤ x1 → (SpV E d MX7_place [.ref (eA E 46), .int x1, .ref (eA E 40)] h (fun h2 => VX9_fillStore_10 E d g P (x1 + (1 : Int32)) h2)))) : VX9_fillStore_10 E d g P x1 h := by
  refine r_iload_n (q := 1) dX9_fillStore_10 rfl rfl ?_
  refine r_aload_n (q := 0) dX9_fillStore_11 rfl rfl ?_
  refine r_getR (c := 0) (c2 := 5) dX9_fillStore_12 flX9_26 lay_0 rfl ?_
  refine r_getI (c := 5) dX9_fillStore_15 flX9_96 lay_5 rfl ?_
  refine r_icmp_ge (tgt := 39) dX9_fillStore_18 (by decide) (fun q1 => ?_) (fun q1 => ?_)
  · have t := t.1 q1
    refine r_aload_n (q := 0) dX9_fillStore_39 rfl rfl ?_
    refine r_getR (c := 0) (c2 := 51) dX9_fillStore_40 flX9_64 lay_0 rfl ?_
    refine r_iconst (v := (0 : Int32)) dX9_fillStore_43 rfl ?_
    refine r_putZ (c := 51) dX9_fillStore_44 flX9_225 lay_51 rfl (Or.inl rfl) ?_
    refine r_aload_n (q := 0) dX9_fillStore_47 rfl rfl ?_
    refine r_getR (c := 0) (c2 := 58) dX9_fillStore_48 flX9_71 lay_0 rfl ?_
    refine r_iconst (v := (-1 : Int32)) dX9_fillStore_51 rfl ?_
    refine r_putI (c := 58) dX9_fillStore_52 flX9_229 lay_58 rfl ?_
    exact r_vret dX9_fillStore_55 rfl t
  · have t := t.2 q1
    refine r_aload_n (q := 0) dX9_fillStore_21 rfl rfl ?_
    refine r_getR (c := 0) (c2 := 46) dX9_fillStore_22 flX9_57 lay_0 rfl ?_
    refine r_iload_n (q := 1) dX9_fillStore_25 rfl rfl ?_
    refine r_aload_n (q := 0) dX9_fillStore_26 rfl rfl ?_
    refine r_getR (c := 0) (c2 := 40) dX9_fillStore_27 flX9_50 lay_0 rfl ?_
    refine r_cVV (c := 46) (As := [.int x1, .ref (eA E 40)]) dX9_fillStore_30 mkX7_place lkX9_221 lay_46 rfl rfl rfl (by decide) rfl (Nat.le_of_ble_eq_true rfl) z00 t ?_
    intro h2 t
    refine r_iinc (k := 1) (v := x1 + (1 : Int32)) (lv' := [(1, .int (x1 + (1 : Int32))), (0, .ref (eA E 0))]) dX9_fillStore_33 rfl rfl (by decide) rfl ?_
    refine r_goto (tgt := 10) dX9_fillStore_36 (by decide) ?_
    refine r_sub [1, 0] rfl ?_
    exact t
theorem dX9_storeSize_0 : decode cX9_storeSize 0 = .ok (.aload_n 0, 1) := by decide +kernel
theorem dX9_storeSize_1 : decode cX9_storeSize 1 = .ok (.getfield 57, 3) := by decide +kernel
theorem dX9_storeSize_4 : decode cX9_storeSize 4 = .ok (.getfield 192, 3) := by decide +kernel
theorem dX9_storeSize_7 : decode cX9_storeSize 7 = .ok (.ireturn, 1) := by decide +kernel
set_option maxRecDepth 20000 in
theorem wp_X9_storeSize (E : En) (d : Nat) (h : Hp) (P : Int32 → Hp → Prop) (t : P (h.1 46 4) h) : SpI E d MX9_storeSize [.ref (eA E 0)] h P := by
  refine SpI.of (lv0 := [(0, .ref (eA E 0))]) (by decide) (Nat.le_of_ble_eq_true rfl) rfl (fun g => ?_)
  refine r_aload_n (q := 0) dX9_storeSize_0 rfl rfl ?_
  refine r_getR (c := 0) (c2 := 46) dX9_storeSize_1 flX9_57 lay_0 rfl ?_
  refine r_getI (c := 46) dX9_storeSize_4 flX9_192 lay_46 rfl ?_
  exact r_iret dX9_storeSize_7 rfl t
theorem dX9_fieldCount_0 : decode cX9_fieldCount 0 = .ok (.aload_n 0, 1) := by decide +kernel
theorem dX9_fieldCount_1 : decode cX9_fieldCount 1 = .ok (.getfield 64, 3) := by decide +kernel
theorem dX9_fieldCount_4 : decode cX9_fieldCount 4 = .ok (.aload_n 0, 1) := by decide +kernel
theorem dX9_fieldCount_5 : decode cX9_fieldCount 5 = .ok (.getfield 57, 3) := by decide +kernel
theorem dX9_fieldCount_8 : decode cX9_fieldCount 8 = .ok (.invokevirtual 266, 3) := by decide +kernel
theorem dX9_fieldCount_11 : decode cX9_fieldCount 11 = .ok (.aload_n 0, 1) := by decide +kernel
theorem dX9_fieldCount_12 : decode cX9_fieldCount 12 = .ok (.getfield 64, 3) := by decide +kernel
theorem dX9_fieldCount_15 : decode cX9_fieldCount 15 = .ok (.getfield 270, 3) := by decide +kernel
theorem dX9_fieldCount_18 : decode cX9_fieldCount 18 = .ok (.ireturn, 1) := by decide +kernel
set_option maxRecDepth 20000 in
theorem wp_X9_fieldCount (E : En) (d : Nat) (h : Hp) (P : Int32 → Hp → Prop) (t : SpV E d MX0_know [.ref (eA E 51), .ref (eA E 46)] h (fun h1 => P (h1.1 51 1) h1)) : SpI E (d + 1) MX9_fieldCount [.ref (eA E 0)] h P := by
  refine SpI.of (lv0 := [(0, .ref (eA E 0))]) (by decide) (Nat.le_of_ble_eq_true rfl) rfl (fun g => ?_)
  refine r_aload_n (q := 0) dX9_fieldCount_0 rfl rfl ?_
  refine r_getR (c := 0) (c2 := 51) dX9_fieldCount_1 flX9_64 lay_0 rfl ?_
  refine r_aload_n (q := 0) dX9_fieldCount_4 rfl rfl ?_
  refine r_getR (c := 0) (c2 := 46) dX9_fieldCount_5 flX9_57 lay_0 rfl ?_
  refine r_cVV (c := 51) (As := [.ref (eA E 46)]) dX9_fieldCount_8 mkX0_know lkX9_266 lay_51 rfl rfl rfl (by decide) rfl (Nat.le_of_ble_eq_true rfl) z00 t ?_
  intro h1 t
  refine r_aload_n (q := 0) dX9_fieldCount_11 rfl rfl ?_
  refine r_getR (c := 0) (c2 := 51) dX9_fieldCount_12 flX9_64 lay_0 rfl ?_
  refine r_getI (c := 51) dX9_fieldCount_15 flX9_270 lay_51 rfl ?_
  exact r_iret dX9_fieldCount_18 rfl t
theorem dX9_fieldBits_0 : decode cX9_fieldBits 0 = .ok (.aload_n 0, 1) := by decide +kernel
theorem dX9_fieldBits_1 : decode cX9_fieldBits 1 = .ok (.getfield 64, 3) := by decide +kernel
theorem dX9_fieldBits_4 : decode cX9_fieldBits 4 = .ok (.aload_n 0, 1) := by decide +kernel
theorem dX9_fieldBits_5 : decode cX9_fieldBits 5 = .ok (.getfield 57, 3) := by decide +kernel
theorem dX9_fieldBits_8 : decode cX9_fieldBits 8 = .ok (.invokevirtual 266, 3) := by decide +kernel
theorem dX9_fieldBits_11 : decode cX9_fieldBits 11 = .ok (.aload_n 0, 1) := by decide +kernel
theorem dX9_fieldBits_12 : decode cX9_fieldBits 12 = .ok (.getfield 64, 3) := by decide +kernel
theorem dX9_fieldBits_15 : decode cX9_fieldBits 15 = .ok (.getfield 273, 3) := by decide +kernel
theorem dX9_fieldBits_18 : decode cX9_fieldBits 18 = .ok (.ireturn, 1) := by decide +kernel
set_option maxRecDepth 20000 in
theorem wp_X9_fieldBits (E : En) (d : Nat) (h : Hp) (P : Int32 → Hp → Prop) (t : SpV E d MX0_know [.ref (eA E 51), .ref (eA E 46)] h (fun h1 => P (h1.1 51 2) h1)) : SpI E (d + 1) MX9_fieldBits [.ref (eA E 0)] h P := by
  refine SpI.of (lv0 := [(0, .ref (eA E 0))]) (by decide) (Nat.le_of_ble_eq_true rfl) rfl (fun g => ?_)
  refine r_aload_n (q := 0) dX9_fieldBits_0 rfl rfl ?_
  refine r_getR (c := 0) (c2 := 51) dX9_fieldBits_1 flX9_64 lay_0 rfl ?_
  refine r_aload_n (q := 0) dX9_fieldBits_4 rfl rfl ?_
  refine r_getR (c := 0) (c2 := 46) dX9_fieldBits_5 flX9_57 lay_0 rfl ?_
  refine r_cVV (c := 51) (As := [.ref (eA E 46)]) dX9_fieldBits_8 mkX0_know lkX9_266 lay_51 rfl rfl rfl (by decide) rfl (Nat.le_of_ble_eq_true rfl) z00 t ?_
  intro h1 t
  refine r_aload_n (q := 0) dX9_fieldBits_11 rfl rfl ?_
  refine r_getR (c := 0) (c2 := 51) dX9_fieldBits_12 flX9_64 lay_0 rfl ?_
  refine r_getI (c := 51) dX9_fieldBits_15 flX9_273 lay_51 rfl ?_
  exact r_iret dX9_fieldBits_18 rfl t
theorem dX9_address_0 : decode cX9_address 0 = .ok (.aload_n 0, 1) := by decide +kernel
theorem dX9_address_1 : decode cX9_address 1 = .ok (.getfield 71, 3) := by decide +kernel
theorem dX9_address_4 : decode cX9_address 4 = .ok (.getfield 229, 3) := by decide +kernel
theorem dX9_address_7 : decode cX9_address 7 = .ok (.ireturn, 1) := by decide +kernel
set_option maxRecDepth 20000 in
theorem wp_X9_address (E : En) (d : Nat) (h : Hp) (P : Int32 → Hp → Prop) (t : P (h.1 58 1) h) : SpI E d MX9_address [.ref (eA E 0)] h P := by
  refine SpI.of (lv0 := [(0, .ref (eA E 0))]) (by decide) (Nat.le_of_ble_eq_true rfl) rfl (fun g => ?_)
  refine r_aload_n (q := 0) dX9_address_0 rfl rfl ?_
  refine r_getR (c := 0) (c2 := 58) dX9_address_1 flX9_71 lay_0 rfl ?_
  refine r_getI (c := 58) dX9_address_4 flX9_229 lay_58 rfl ?_
  exact r_iret dX9_address_7 rfl t
