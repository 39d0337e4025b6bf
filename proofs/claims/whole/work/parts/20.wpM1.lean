theorem dX10_isWord_0 : decode cX10_isWord 0 = .ok (.aload_n 0, 1) := by decide +kernel
theorem dX10_isWord_1 : decode cX10_isWord 1 = .ok (.getfield 312, 3) := by decide +kernel
theorem dX10_isWord_4 : decode cX10_isWord 4 = .ok (.iconst 1, 1) := by decide +kernel
theorem dX10_isWord_5 : decode cX10_isWord 5 = .ok (.if_icmp .ne 19, 3) := by decide +kernel
theorem dX10_isWord_8 : decode cX10_isWord 8 = .ok (.aload_n 1, 1) := by decide +kernel
theorem dX10_isWord_9 : decode cX10_isWord 9 = .ok (.invokevirtual 342, 3) := by decide +kernel
theorem dX10_isWord_12 : decode cX10_isWord 12 = .ok (.aload_n 0, 1) := by decide +kernel
theorem dX10_isWord_13 : decode cX10_isWord 13 = .ok (.getfield 303, 3) := by decide +kernel
theorem dX10_isWord_16 : decode cX10_isWord 16 = .ok (.aload_n 0, 1) := by decide +kernel
theorem dX10_isWord_17 : decode cX10_isWord 17 = .ok (.getfield 309, 3) := by decide +kernel
theorem dX10_isWord_20 : decode cX10_isWord 20 = .ok (.isub, 1) := by decide +kernel
theorem dX10_isWord_21 : decode cX10_isWord 21 = .ok (.if_icmp .eq 5, 3) := by decide +kernel
theorem dX10_isWord_24 : decode cX10_isWord 24 = .ok (.iconst 0, 1) := by decide +kernel
theorem dX10_isWord_25 : decode cX10_isWord 25 = .ok (.ireturn, 1) := by decide +kernel
theorem dX10_isWord_26 : decode cX10_isWord 26 = .ok (.iconst 0, 1) := by decide +kernel
theorem dX10_isWord_27 : decode cX10_isWord 27 = .ok (.istore_n 2, 1) := by decide +kernel
theorem dX10_isWord_28 : decode cX10_isWord 28 = .ok (.iload_n 2, 1) := by decide +kernel
theorem dX10_isWord_29 : decode cX10_isWord 29 = .ok (.aload_n 1, 1) := by decide +kernel
theorem dX10_isWord_30 : decode cX10_isWord 30 = .ok (.invokevirtual 342, 3) := by decide +kernel
theorem dX10_isWord_33 : decode cX10_isWord 33 = .ok (.if_icmp .ge 29, 3) := by decide +kernel
theorem dX10_isWord_36 : decode cX10_isWord 36 = .ok (.aload_n 1, 1) := by decide +kernel
theorem dX10_isWord_37 : decode cX10_isWord 37 = .ok (.iload_n 2, 1) := by decide +kernel
theorem dX10_isWord_38 : decode cX10_isWord 38 = .ok (.invokevirtual 346, 3) := by decide +kernel
theorem dX10_isWord_41 : decode cX10_isWord 41 = .ok (.aload_n 0, 1) := by decide +kernel
theorem dX10_isWord_42 : decode cX10_isWord 42 = .ok (.aload_n 0, 1) := by decide +kernel
theorem dX10_isWord_43 : decode cX10_isWord 43 = .ok (.getfield 309, 3) := by decide +kernel
theorem dX10_isWord_46 : decode cX10_isWord 46 = .ok (.iload_n 2, 1) := by decide +kernel
theorem dX10_isWord_47 : decode cX10_isWord 47 = .ok (.iadd, 1) := by decide +kernel
theorem dX10_isWord_48 : decode cX10_isWord 48 = .ok (.invokevirtual 306, 3) := by decide +kernel
theorem dX10_isWord_51 : decode cX10_isWord 51 = .ok (.if_icmp .eq 5, 3) := by decide +kernel
theorem dX10_isWord_54 : decode cX10_isWord 54 = .ok (.iconst 0, 1) := by decide +kernel
theorem dX10_isWord_55 : decode cX10_isWord 55 = .ok (.ireturn, 1) := by decide +kernel
theorem dX10_isWord_56 : decode cX10_isWord 56 = .ok (.iinc 2 1, 3) := by decide +kernel
theorem dX10_isWord_59 : decode cX10_isWord 59 = .ok (.goto (-31), 3) := by decide +kernel
theorem dX10_isWord_62 : decode cX10_isWord 62 = .ok (.iconst 1, 1) := by decide +kernel
theorem dX10_isWord_63 : decode cX10_isWord 63 = .ok (.ireturn, 1) := by decide +kernel
abbrev VX10_isWord_28 (E : En) (d : Nat) (g : Ga) (P : Int32 → Hp → Prop) (i : Nat) (x2 : Int32) (h : Hp) : Prop := V E MX10_isWord (RM (d + 1) 0) g (QQ E g (QI E P) 0 0) 0 0 h 28 [(0, .ref (eA E 63)), (1, .ref (eK E i)), (2, .int x2)] []
set_option maxRecDepth 20000 in
theorem wp_X10_isWord (E : En) (d : Nat) (i : Nat) (hi : i < 8) (h : Hp) (P : Int32 → Hp → Prop) (t : ∀ g : Ga, (¬ (h.1 63 46) = (1 : Int32) → (P (0 : Int32) h)) ∧ ((h.1 63 46) = (1 : Int32) → (SpI E d MJ0_length_8abf5 [.ref (eK E i)] h (fun v2 h2 => (v2 = ((h2.1 63 45) - (h2.1 63 44)) → (VX10_isWord_28 E d g P i (0 : Int32) h2)) ∧ (¬ v2 = ((h2.1 63 45) - (h2.1 63 44)) → (P (0 : Int32) h2)))))) : SpI E (d + 1) MX10_isWord [.ref (eA E 63), .ref (eK E i)] h P := by
  refine SpI.of (lv0 := [(0, .ref (eA E 63)), (1, .ref (eK E i))]) (by decide) (Nat.le_of_ble_eq_true rfl) rfl (fun g => ?_)
  have t := t g
  refine r_aload_n (q := 0) dX10_isWord_0 rfl rfl ?_
  refine r_getI (c := 63) dX10_isWord_1 flX10_312 lay_63 rfl ?_
  refine r_iconst (v := (1 : Int32)) dX10_isWord_4 rfl ?_
  refine r_icmp_ne (tgt := 24) dX10_isWord_5 (by decide) (fun q1 => ?_) (fun q1 => ?_)
  · have t := t.1 q1
    refine r_iconst (v := (0 : Int32)) dX10_isWord_24 rfl ?_
    exact r_zret dX10_isWord_25 rfl (Or.inl rfl) t
  · have t := t.2 q1
    refine r_aload_n (q := 1) dX10_isWord_8 rfl rfl ?_
    refine r_kVI (i := i) (As := []) dX10_isWord_9 mkJ0_length_8abf5 lkX10_342 hi rfl (by decide) rfl (Nat.le_of_ble_eq_true rfl) z00 rfl t ?_
    intro v2 h2 t
    refine r_aload_n (q := 0) dX10_isWord_12 rfl rfl ?_
    refine r_getI (c := 63) dX10_isWord_13 flX10_303 lay_63 rfl ?_
    refine r_aload_n (q := 0) dX10_isWord_16 rfl rfl ?_
    refine r_getI (c := 63) dX10_isWord_17 flX10_309 lay_63 rfl ?_
    refine r_isub dX10_isWord_20 ?_
    refine r_icmp_eq (tgt := 26) dX10_isWord_21 (by decide) (fun q3 => ?_) (fun q3 => ?_)
    · have t := t.1 q3
      refine r_iconst (v := (0 : Int32)) dX10_isWord_26 rfl ?_
      refine r_istore_n (lv' := [(2, .int (0 : Int32)), (0, .ref (eA E 63)), (1, .ref (eK E i))]) dX10_isWord_27 rfl (by decide) rfl ?_
      refine r_sub [1, 2, 0] rfl ?_
      exact t
    · have t := t.2 q3
      refine r_iconst (v := (0 : Int32)) dX10_isWord_24 rfl ?_
      exact r_zret dX10_isWord_25 rfl (Or.inl rfl) t
set_option maxRecDepth 20000 in
theorem sg_X10_isWord_28 (E : En) (d : Nat) (g : Ga) (i : Nat) (hi : i < 8) (x2 : Int32) (h : Hp) (P : Int32 → Hp → Prop) (t : SpI E d MJ0_length_8abf5 [.ref (eK E i)] h (fun v1 h1 => (v1 ≤ x2 → (P (1 : Int32) h1)) ∧ (¬ v1 ≤ x2 → (SpI E d MJ0_charAt_5068e [.ref (eK E i), .int x2] h1 (fun v3 h3 => SpI E d MX10_byteAt [.ref (eA E 63), .int ((h3.1 63 44) + x2)] h3 (fun v4 h4 => (v3 = v4 → (VX10_isWord_28 E d g P i (x2 + (1 : Int32)) h4)) ∧ (¬ v3 = v4 → (P (0 : Int32) h4)))))))) : VX10_isWord_28 E d g P i x2 h := by
  refine r_iload_n (q := 2) dX10_isWord_28 rfl rfl ?_
  refine r_aload_n (q := 1) dX10_isWord_29 rfl rfl ?_
  refine r_kVI (i := i) (As := []) dX10_isWord_30 mkJ0_length_8abf5 lkX10_342 hi rfl (by decide) rfl (Nat.le_of_ble_eq_true rfl) z00 rfl t ?_
  intro v1 h1 t
  refine r_icmp_ge (tgt := 62) dX10_isWord_33 (by decide) (fun q2 => ?_) (fun q2 => ?_)
  · have t := t.1 q2
    refine r_iconst (v := (1 : Int32)) dX10_isWord_62 rfl ?_
    exact r_zret dX10_isWord_63 rfl (Or.inr rfl) t
  · have t := t.2 q2
    refine r_aload_n (q := 1) dX10_isWord_36 rfl rfl ?_
    refine r_iload_n (q := 2) dX10_isWord_37 rfl rfl ?_
    refine r_kVI (i := i) (As := [.int x2]) dX10_isWord_38 mkJ0_charAt_5068e lkX10_346 hi rfl (by decide) rfl (Nat.le_of_ble_eq_true rfl) z00 rfl t ?_
    intro v3 h3 t
    refine r_aload_n (q := 0) dX10_isWord_41 rfl rfl ?_
    refine r_aload_n (q := 0) dX10_isWord_42 rfl rfl ?_
    refine r_getI (c := 63) dX10_isWord_43 flX10_309 lay_63 rfl ?_
    refine r_iload_n (q := 2) dX10_isWord_46 rfl rfl ?_
    refine r_iadd dX10_isWord_47 ?_
    refine r_cVI (c := 63) (As := [.int ((h3.1 63 44) + x2)]) dX10_isWord_48 mkX10_byteAt lkX10_306 lay_63 rfl rfl rfl (by decide) rfl (Nat.le_of_ble_eq_true rfl) z00 t ?_
    intro v4 h4 t
    refine r_icmp_eq (tgt := 56) dX10_isWord_51 (by decide) (fun q5 => ?_) (fun q5 => ?_)
    · have t := t.1 q5
      refine r_iinc (k := 2) (v := x2 + (1 : Int32)) (lv' := [(2, .int (x2 + (1 : Int32))), (0, .ref (eA E 63)), (1, .ref (eK E i))]) dX10_isWord_56 rfl rfl (by decide) rfl ?_
      refine r_goto (tgt := 28) dX10_isWord_59 (by decide) ?_
      refine r_sub [1, 2, 0] rfl ?_
      exact t
    · have t := t.2 q5
      refine r_iconst (v := (0 : Int32)) dX10_isWord_54 rfl ?_
      exact r_zret dX10_isWord_55 rfl (Or.inl rfl) t
theorem dX10_saysWord_0 : decode cX10_saysWord 0 = .ok (.iconst 0, 1) := by decide +kernel
theorem dX10_saysWord_1 : decode cX10_saysWord 1 = .ok (.istore_n 2, 1) := by decide +kernel
theorem dX10_saysWord_2 : decode cX10_saysWord 2 = .ok (.iload_n 2, 1) := by decide +kernel
theorem dX10_saysWord_3 : decode cX10_saysWord 3 = .ok (.aload_n 1, 1) := by decide +kernel
theorem dX10_saysWord_4 : decode cX10_saysWord 4 = .ok (.invokevirtual 342, 3) := by decide +kernel
theorem dX10_saysWord_7 : decode cX10_saysWord 7 = .ok (.if_icmp .ge 18, 3) := by decide +kernel
theorem dX10_saysWord_10 : decode cX10_saysWord 10 = .ok (.aload_n 0, 1) := by decide +kernel
theorem dX10_saysWord_11 : decode cX10_saysWord 11 = .ok (.aload_n 1, 1) := by decide +kernel
theorem dX10_saysWord_12 : decode cX10_saysWord 12 = .ok (.iload_n 2, 1) := by decide +kernel
theorem dX10_saysWord_13 : decode cX10_saysWord 13 = .ok (.invokevirtual 346, 3) := by decide +kernel
theorem dX10_saysWord_16 : decode cX10_saysWord 16 = .ok (.invokevirtual 397, 3) := by decide +kernel
theorem dX10_saysWord_19 : decode cX10_saysWord 19 = .ok (.iinc 2 1, 3) := by decide +kernel
theorem dX10_saysWord_22 : decode cX10_saysWord 22 = .ok (.goto (-20), 3) := by decide +kernel
theorem dX10_saysWord_25 : decode cX10_saysWord 25 = .ok (.return_, 1) := by decide +kernel
abbrev VX10_saysWord_2 (E : En) (d : Nat) (g : Ga) (P : Hp → Prop) (i : Nat) (x2 : Int32) (h : Hp) : Prop := V E MX10_saysWord (RM (d + 1) 0) g (QQ E g (QV E P) 0 0) 0 0 h 2 [(0, .ref (eA E 63)), (1, .ref (eK E i)), (2, .int x2)] []
set_option maxRecDepth 20000 in
theorem wp_X10_saysWord (E : En) (d : Nat) (i : Nat) (hi : i < 8) (h : Hp) (P : Hp → Prop) (t : ∀ g : Ga, VX10_saysWord_2 E d g P i (0 : Int32) h) : SpV E (d + 1) MX10_saysWord [.ref (eA E 63), .ref (eK E i)] h P := by
  refine SpV.of (lv0 := [(0, .ref (eA E 63)), (1, .ref (eK E i))]) (by decide) (Nat.le_of_ble_eq_true rfl) rfl (fun g => ?_)
  have t := t g
  refine r_iconst (v := (0 : Int32)) dX10_saysWord_0 rfl ?_
  refine r_istore_n (lv' := [(2, .int (0 : Int32)), (0, .ref (eA E 63)), (1, .ref (eK E i))]) dX10_saysWord_1 rfl (by decide) rfl ?_
  refine r_sub [1, 2, 0] rfl ?_
  exact t
set_option maxRecDepth 20000 in
theorem sg_X10_saysWord_2 (E : En) (d : Nat) (g : Ga) (i : Nat) (hi : i < 8) (x2 : Int32) (h : Hp) (P : Hp → Prop) (t : SpI E d MJ0_length_8abf5 [.ref (eK E i)] h (fun v1 h1 => (v1 ≤ x2 → (P h1)) ∧ (¬ v1 ≤ x2 → (SpI E d MJ0_charAt_5068e [.ref (eK E i), .int x2] h1 (fun v3 h3 => SpV E d MX10_says [.ref (eA E 63), .int v3] h3 (fun h4 => VX10_saysWord_2 E d g P i (x2 + (1 : Int32)) h4)))))) : VX10_saysWord_2 E d g P i x2 h := by
  refine r_iload_n (q := 2) dX10_saysWord_2 rfl rfl ?_
  refine r_aload_n (q := 1) dX10_saysWord_3 rfl rfl ?_
  refine r_kVI (i := i) (As := []) dX10_saysWord_4 mkJ0_length_8abf5 lkX10_342 hi rfl (by decide) rfl (Nat.le_of_ble_eq_true rfl) z00 rfl t ?_
  intro v1 h1 t
  refine r_icmp_ge (tgt := 25) dX10_saysWord_7 (by decide) (fun q2 => ?_) (fun q2 => ?_)
  · have t := t.1 q2
    exact r_vret dX10_saysWord_25 rfl t
  · have t := t.2 q2
    refine r_aload_n (q := 0) dX10_saysWord_10 rfl rfl ?_
    refine r_aload_n (q := 1) dX10_saysWord_11 rfl rfl ?_
    refine r_iload_n (q := 2) dX10_saysWord_12 rfl rfl ?_
    refine r_kVI (i := i) (As := [.int x2]) dX10_saysWord_13 mkJ0_charAt_5068e lkX10_346 hi rfl (by decide) rfl (Nat.le_of_ble_eq_true rfl) z00 rfl t ?_
    intro v3 h3 t
    refine r_cVV (c := 63) (As := [.int v3]) dX10_saysWord_16 mkX10_says lkX10_397 lay_63 rfl rfl rfl (by decide) rfl (Nat.le_of_ble_eq_true rfl) z00 t ?_
    intro h4 t
    refine r_iinc (k := 2) (v := x2 + (1 : Int32)) (lv' := [(2, .int (x2 + (1 : Int32))), (0, .ref (eA E 63)), (1, .ref (eK E i))]) dX10_saysWord_19 rfl rfl (by decide) rfl ?_
    refine r_goto (tgt := 2) dX10_saysWord_22 (by decide) ?_
    refine r_sub [1, 2, 0] rfl ?_
    exact t
theorem dX10_thrown_0 : decode cX10_thrown 0 = .ok (.aload_n 0, 1) := by decide +kernel
theorem dX10_thrown_1 : decode cX10_thrown 1 = .ok (.getfield 118, 3) := by decide +kernel
theorem dX10_thrown_4 : decode cX10_thrown 4 = .ok (.ireturn, 1) := by decide +kernel
set_option maxRecDepth 20000 in
theorem wp_X10_thrown (E : En) (d : Nat) (h : Hp) (P : Int32 → Hp → Prop) (t : P (h.1 63 0) h) : SpI E d MX10_thrown [.ref (eA E 63)] h P := by
  refine SpI.of (lv0 := [(0, .ref (eA E 63))]) (by decide) (Nat.le_of_ble_eq_true rfl) rfl (fun g => ?_)
  refine r_aload_n (q := 0) dX10_thrown_0 rfl rfl ?_
  refine r_getI (c := 63) dX10_thrown_1 flX10_118 lay_63 rfl ?_
  exact r_iret dX10_thrown_4 rfl t
theorem dX10_throwsAs_0 : decode cX10_throwsAs 0 = .ok (.aload_n 0, 1) := by decide +kernel
theorem dX10_throwsAs_1 : decode cX10_throwsAs 1 = .ok (.iload_n 1, 1) := by decide +kernel
theorem dX10_throwsAs_2 : decode cX10_throwsAs 2 = .ok (.putfield 118, 3) := by decide +kernel
theorem dX10_throwsAs_5 : decode cX10_throwsAs 5 = .ok (.iload_n 1, 1) := by decide +kernel
theorem dX10_throwsAs_6 : decode cX10_throwsAs 6 = .ok (.ifCond .le 7, 3) := by decide +kernel
theorem dX10_throwsAs_9 : decode cX10_throwsAs 9 = .ok (.iconst 1, 1) := by decide +kernel
theorem dX10_throwsAs_10 : decode cX10_throwsAs 10 = .ok (.goto 4, 3) := by decide +kernel
theorem dX10_throwsAs_13 : decode cX10_throwsAs 13 = .ok (.iconst 0, 1) := by decide +kernel
theorem dX10_throwsAs_14 : decode cX10_throwsAs 14 = .ok (.ireturn, 1) := by decide +kernel
set_option maxRecDepth 20000 in
theorem wp_X10_throwsAs (E : En) (d : Nat) (a1 : Int32) (h : Hp) (P : Int32 → Hp → Prop) (t : (a1 ≤ 0 → (P (0 : Int32) (sI h 63 0 a1))) ∧ (¬ a1 ≤ 0 → (P (1 : Int32) (sI h 63 0 a1)))) : SpI E d MX10_throwsAs [.ref (eA E 63), .int a1] h P := by
  refine SpI.of (lv0 := [(0, .ref (eA E 63)), (1, .int a1)]) (by decide) (Nat.le_of_ble_eq_true rfl) rfl (fun g => ?_)
  refine r_aload_n (q := 0) dX10_throwsAs_0 rfl rfl ?_
  refine r_iload_n (q := 1) dX10_throwsAs_1 rfl rfl ?_
  refine r_putI (c := 63) dX10_throwsAs_2 flX10_118 lay_63 rfl ?_
  refine r_iload_n (q := 1) dX10_throwsAs_5 rfl rfl ?_
  refine r_if_le (tgt := 13) dX10_throwsAs_6 (by decide) (fun q1 => ?_) (fun q1 => ?_)
  · have t := t.1 q1
    refine r_iconst (v := (0 : Int32)) dX10_throwsAs_13 rfl ?_
    exact r_zret dX10_throwsAs_14 rfl (Or.inl rfl) t
  · have t := t.2 q1
    refine r_iconst (v := (1 : Int32)) dX10_throwsAs_9 rfl ?_
    refine r_goto (tgt := 14) dX10_throwsAs_10 (by decide) ?_
    exact r_zret dX10_throwsAs_14 rfl (Or.inr rfl) t
theorem dX10_isIn_0 : decode cX10_isIn 0 = .ok (.iload_n 0, 1) := by decide +kernel
theorem dX10_isIn_1 : decode cX10_isIn 1 = .ok (.iload_n 1, 1) := by decide +kernel
theorem dX10_isIn_2 : decode cX10_isIn 2 = .ok (.if_icmp .lt 12, 3) := by decide +kernel
theorem dX10_isIn_5 : decode cX10_isIn 5 = .ok (.iload_n 0, 1) := by decide +kernel
theorem dX10_isIn_6 : decode cX10_isIn 6 = .ok (.iload_n 2, 1) := by decide +kernel
theorem dX10_isIn_7 : decode cX10_isIn 7 = .ok (.if_icmp .gt 7, 3) := by decide +kernel
theorem dX10_isIn_10 : decode cX10_isIn 10 = .ok (.iconst 1, 1) := by decide +kernel
theorem dX10_isIn_11 : decode cX10_isIn 11 = .ok (.goto 4, 3) := by decide +kernel
theorem dX10_isIn_14 : decode cX10_isIn 14 = .ok (.iconst 0, 1) := by decide +kernel
theorem dX10_isIn_15 : decode cX10_isIn 15 = .ok (.ireturn, 1) := by decide +kernel
set_option maxRecDepth 20000 in
theorem wp_X10_isIn (E : En) (d : Nat) (a1 : Int32) (a2 : Int32) (a3 : Int32) (h : Hp) (P : Int32 → Hp → Prop) (t : (a1 < a2 → (P (0 : Int32) h)) ∧ (¬ a1 < a2 → ((a3 < a1 → (P (0 : Int32) h)) ∧ (¬ a3 < a1 → (P (1 : Int32) h))))) : SpI E d MX10_isIn [.int a1, .int a2, .int a3] h P := by
  refine SpI.of (lv0 := [(0, .int a1), (1, .int a2), (2, .int a3)]) (by decide) (Nat.le_of_ble_eq_true rfl) rfl (fun g => ?_)
  refine r_iload_n (q := 0) dX10_isIn_0 rfl rfl ?_
  refine r_iload_n (q := 1) dX10_isIn_1 rfl rfl ?_
  refine r_icmp_lt (tgt := 14) dX10_isIn_2 (by decide) (fun q1 => ?_) (fun q1 => ?_)
  · have t := t.1 q1
    refine r_iconst (v := (0 : Int32)) dX10_isIn_14 rfl ?_
    exact r_zret dX10_isIn_15 rfl (Or.inl rfl) t
  · have t := t.2 q1
    refine r_iload_n (q := 0) dX10_isIn_5 rfl rfl ?_
    refine r_iload_n (q := 2) dX10_isIn_6 rfl rfl ?_
    refine r_icmp_gt (tgt := 14) dX10_isIn_7 (by decide) (fun q2 => ?_) (fun q2 => ?_)
    · have t := t.1 q2
      refine r_iconst (v := (0 : Int32)) dX10_isIn_14 rfl ?_
      exact r_zret dX10_isIn_15 rfl (Or.inl rfl) t
    · have t := t.2 q2
      refine r_iconst (v := (1 : Int32)) dX10_isIn_10 rfl ?_
      refine r_goto (tgt := 15) dX10_isIn_11 (by decide) ?_
      exact r_zret dX10_isIn_15 rfl (Or.inr rfl) t
theorem dX10_of_0 : decode cX10_of 0 = .ok (.aload_n 0, 1) := by decide +kernel
theorem dX10_of_1 : decode cX10_of 1 = .ok (.getfield 7, 3) := by decide +kernel
theorem dX10_of_4 : decode cX10_of 4 = .ok (.iconst 5, 1) := by decide +kernel
theorem dX10_of_5 : decode cX10_of 5 = .ok (.iload_n 1, 1) := by decide +kernel
theorem dX10_of_6 : decode cX10_of 6 = .ok (.imul, 1) := by decide +kernel
theorem dX10_of_7 : decode cX10_of 7 = .ok (.iload_n 2, 1) := by decide +kernel
theorem dX10_of_8 : decode cX10_of 8 = .ok (.iadd, 1) := by decide +kernel
theorem dX10_of_9 : decode cX10_of 9 = .ok (.iaload, 1) := by decide +kernel
theorem dX10_of_10 : decode cX10_of 10 = .ok (.ireturn, 1) := by decide +kernel
set_option maxRecDepth 20000 in
theorem wp_X10_of (E : En) (d : Nat) (a1 : Int32) (a2 : Int32) (h : Hp) (P : Int32 → Hp → Prop) (t : vp_in (((5 : Int32) * a1) + a2) 60 ∧ (P (h.1 64 ((((5 : Int32) * a1) + a2).toNatClampNeg)) h)) : SpI E d MX10_of [.ref (eA E 63), .int a1, .int a2] h P := by
  refine SpI.of (lv0 := [(0, .ref (eA E 63)), (1, .int a1), (2, .int a2)]) (by decide) (Nat.le_of_ble_eq_true rfl) rfl (fun g => ?_)
  refine r_aload_n (q := 0) dX10_of_0 rfl rfl ?_
  refine r_getR (c := 63) (c2 := 64) dX10_of_1 flX10_7 lay_63 rfl ?_
  refine r_iconst (v := (5 : Int32)) dX10_of_4 rfl ?_
  refine r_iload_n (q := 1) dX10_of_5 rfl rfl ?_
  refine r_imul dX10_of_6 ?_
  refine r_iload_n (q := 2) dX10_of_7 rfl rfl ?_
  refine r_iadd dX10_of_8 ?_
  obtain ⟨c1, t⟩ := t
  refine r_iald (c := 64) dX10_of_9 lay_64 c1 ?_
  exact r_iret dX10_of_10 rfl t
theorem dX10_at_0 : decode cX10_at 0 = .ok (.aload_n 0, 1) := by decide +kernel
theorem dX10_at_1 : decode cX10_at 1 = .ok (.getfield 19, 3) := by decide +kernel
theorem dX10_at_4 : decode cX10_at 4 = .ok (.bipush 24, 2) := by decide +kernel
theorem dX10_at_6 : decode cX10_at 6 = .ok (.iload_n 1, 1) := by decide +kernel
theorem dX10_at_7 : decode cX10_at 7 = .ok (.imul, 1) := by decide +kernel
theorem dX10_at_8 : decode cX10_at 8 = .ok (.iload_n 2, 1) := by decide +kernel
theorem dX10_at_9 : decode cX10_at 9 = .ok (.iadd, 1) := by decide +kernel
theorem dX10_at_10 : decode cX10_at 10 = .ok (.iaload, 1) := by decide +kernel
theorem dX10_at_11 : decode cX10_at 11 = .ok (.ireturn, 1) := by decide +kernel
set_option maxRecDepth 20000 in
theorem wp_X10_at (E : En) (d : Nat) (a1 : Int32) (a2 : Int32) (h : Hp) (P : Int32 → Hp → Prop) (t : vp_in (((24 : Int32) * a1) + a2) 192 ∧ (P (h.1 67 ((((24 : Int32) * a1) + a2).toNatClampNeg)) h)) : SpI E d MX10_at [.ref (eA E 63), .int a1, .int a2] h P := by
  refine SpI.of (lv0 := [(0, .ref (eA E 63)), (1, .int a1), (2, .int a2)]) (by decide) (Nat.le_of_ble_eq_true rfl) rfl (fun g => ?_)
  refine r_aload_n (q := 0) dX10_at_0 rfl rfl ?_
  refine r_getR (c := 63) (c2 := 67) dX10_at_1 flX10_19 lay_63 rfl ?_
  refine r_bipush (v := (24 : Int32)) dX10_at_4 rfl ?_
  refine r_iload_n (q := 1) dX10_at_6 rfl rfl ?_
  refine r_imul dX10_at_7 ?_
  refine r_iload_n (q := 2) dX10_at_8 rfl rfl ?_
  refine r_iadd dX10_at_9 ?_
  obtain ⟨c1, t⟩ := t
  refine r_iald (c := 67) dX10_at_10 lay_67 c1 ?_
  exact r_iret dX10_at_11 rfl t
theorem dX10_isMarked_0 : decode cX10_isMarked 0 = .ok (.aload_n 0, 1) := by decide +kernel
theorem dX10_isMarked_1 : decode cX10_isMarked 1 = .ok (.getfield 22, 3) := by decide +kernel
theorem dX10_isMarked_4 : decode cX10_isMarked 4 = .ok (.iconst 1, 1) := by decide +kernel
theorem dX10_isMarked_5 : decode cX10_isMarked 5 = .ok (.iload_n 1, 1) := by decide +kernel
theorem dX10_isMarked_6 : decode cX10_isMarked 6 = .ok (.iadd, 1) := by decide +kernel
theorem dX10_isMarked_7 : decode cX10_isMarked 7 = .ok (.iaload, 1) := by decide +kernel
theorem dX10_isMarked_8 : decode cX10_isMarked 8 = .ok (.iload_n 2, 1) := by decide +kernel
theorem dX10_isMarked_9 : decode cX10_isMarked 9 = .ok (.ishr, 1) := by decide +kernel
theorem dX10_isMarked_10 : decode cX10_isMarked 10 = .ok (.iconst 1, 1) := by decide +kernel
theorem dX10_isMarked_11 : decode cX10_isMarked 11 = .ok (.iand, 1) := by decide +kernel
theorem dX10_isMarked_12 : decode cX10_isMarked 12 = .ok (.iconst 1, 1) := by decide +kernel
theorem dX10_isMarked_13 : decode cX10_isMarked 13 = .ok (.if_icmp .ne 7, 3) := by decide +kernel
theorem dX10_isMarked_16 : decode cX10_isMarked 16 = .ok (.iconst 1, 1) := by decide +kernel
theorem dX10_isMarked_17 : decode cX10_isMarked 17 = .ok (.goto 4, 3) := by decide +kernel
theorem dX10_isMarked_20 : decode cX10_isMarked 20 = .ok (.iconst 0, 1) := by decide +kernel
theorem dX10_isMarked_21 : decode cX10_isMarked 21 = .ok (.ireturn, 1) := by decide +kernel
set_option maxRecDepth 20000 in
theorem wp_X10_isMarked (E : En) (d : Nat) (a1 : Int32) (a2 : Int32) (h : Hp) (P : Int32 → Hp → Prop) (t : vp_in ((1 : Int32) + a1) 9 ∧ ((¬ (((h.1 68 (((1 : Int32) + a1).toNatClampNeg)) >>> (a2 &&& 31)) &&& (1 : Int32)) = (1 : Int32) → (P (0 : Int32) h)) ∧ ((((h.1 68 (((1 : Int32) + a1).toNatClampNeg)) >>> (a2 &&& 31)) &&& (1 : Int32)) = (1 : Int32) → (P (1 : Int32) h)))) : SpI E d MX10_isMarked [.ref (eA E 63), .int a1, .int a2] h P := by
  refine SpI.of (lv0 := [(0, .ref (eA E 63)), (1, .int a1), (2, .int a2)]) (by decide) (Nat.le_of_ble_eq_true rfl) rfl (fun g => ?_)
  refine r_aload_n (q := 0) dX10_isMarked_0 rfl rfl ?_
  refine r_getR (c := 63) (c2 := 68) dX10_isMarked_1 flX10_22 lay_63 rfl ?_
  refine r_iconst (v := (1 : Int32)) dX10_isMarked_4 rfl ?_
  refine r_iload_n (q := 1) dX10_isMarked_5 rfl rfl ?_
  refine r_iadd dX10_isMarked_6 ?_
  obtain ⟨c1, t⟩ := t
  refine r_iald (c := 68) dX10_isMarked_7 lay_68 c1 ?_
  refine r_iload_n (q := 2) dX10_isMarked_8 rfl rfl ?_
  refine r_ishr dX10_isMarked_9 ?_
  refine r_iconst (v := (1 : Int32)) dX10_isMarked_10 rfl ?_
  refine r_iand dX10_isMarked_11 ?_
  refine r_iconst (v := (1 : Int32)) dX10_isMarked_12 rfl ?_
  refine r_icmp_ne (tgt := 20) dX10_isMarked_13 (by decide) (fun q2 => ?_) (fun q2 => ?_)
  · have t := t.1 q2
    refine r_iconst (v := (0 : Int32)) dX10_isMarked_20 rfl ?_
    exact r_zret dX10_isMarked_21 rfl (Or.inl rfl) t
  · have t := t.2 q2
    refine r_iconst (v := (1 : Int32)) dX10_isMarked_16 rfl ?_
    refine r_goto (tgt := 21) dX10_isMarked_17 (by decide) ?_
    exact r_zret dX10_isMarked_21 rfl (Or.inr rfl) t
theorem dX10_isInstruction_0 : decode cX10_isInstruction 0 = .ok (.iload_n 1, 1) := by decide +kernel
theorem dX10_isInstruction_1 : decode cX10_isInstruction 1 = .ok (.iconst 0, 1) := by decide +kernel
theorem dX10_isInstruction_2 : decode cX10_isInstruction 2 = .ok (.aload_n 0, 1) := by decide +kernel
theorem dX10_isInstruction_3 : decode cX10_isInstruction 3 = .ok (.getfield 121, 3) := by decide +kernel
theorem dX10_isInstruction_6 : decode cX10_isInstruction 6 = .ok (.iconst 1, 1) := by decide +kernel
theorem dX10_isInstruction_7 : decode cX10_isInstruction 7 = .ok (.isub, 1) := by decide +kernel
theorem dX10_isInstruction_8 : decode cX10_isInstruction 8 = .ok (.invokestatic 124, 3) := by decide +kernel
theorem dX10_isInstruction_11 : decode cX10_isInstruction 11 = .ok (.ireturn, 1) := by decide +kernel
set_option maxRecDepth 20000 in
theorem wp_X10_isInstruction (E : En) (d : Nat) (a1 : Int32) (h : Hp) (P : Int32 → Hp → Prop) (t : SpI E d MX10_isIn [.int a1, .int (0 : Int32), .int ((h.1 63 2) - (1 : Int32))] h (fun v1 h1 => (v1 = 0 ∨ v1 = 1) ∧ P v1 h1)) : SpI E (d + 1) MX10_isInstruction [.ref (eA E 63), .int a1] h P := by
  refine SpI.of (lv0 := [(0, .ref (eA E 63)), (1, .int a1)]) (by decide) (Nat.le_of_ble_eq_true rfl) rfl (fun g => ?_)
  refine r_iload_n (q := 1) dX10_isInstruction_0 rfl rfl ?_
  refine r_iconst (v := (0 : Int32)) dX10_isInstruction_1 rfl ?_
  refine r_aload_n (q := 0) dX10_isInstruction_2 rfl rfl ?_
  refine r_getI (c := 63) dX10_isInstruction_3 flX10_121 lay_63 rfl ?_
  refine r_iconst (v := (1 : Int32)) dX10_isInstruction_6 rfl ?_
  refine r_isub dX10_isInstruction_7 ?_
  refine r_cSI (As := [.int a1, .int (0 : Int32), .int ((h.1 63 2) - (1 : Int32))]) dX10_isInstruction_8 mkX10_isIn lkX10_124 rfl (by decide) rfl (Nat.le_of_ble_eq_true rfl) z00 t ?_
  intro v1 h1 t
  exact r_zret dX10_isInstruction_11 rfl t.1 t.2
theorem dX10_isAt_0 : decode cX10_isAt 0 = .ok (.aload_n 0, 1) := by decide +kernel
theorem dX10_isAt_1 : decode cX10_isAt 1 = .ok (.iload_n 1, 1) := by decide +kernel
theorem dX10_isAt_2 : decode cX10_isAt 2 = .ok (.invokevirtual 128, 3) := by decide +kernel
theorem dX10_isAt_5 : decode cX10_isAt 5 = .ok (.ifCond .eq 23, 3) := by decide +kernel
theorem dX10_isAt_8 : decode cX10_isAt 8 = .ok (.iload_n 2, 1) := by decide +kernel
theorem dX10_isAt_9 : decode cX10_isAt 9 = .ok (.iconst 0, 1) := by decide +kernel
theorem dX10_isAt_10 : decode cX10_isAt 10 = .ok (.aload_n 0, 1) := by decide +kernel
theorem dX10_isAt_11 : decode cX10_isAt 11 = .ok (.getfield 16, 3) := by decide +kernel
theorem dX10_isAt_14 : decode cX10_isAt 14 = .ok (.iload_n 1, 1) := by decide +kernel
theorem dX10_isAt_15 : decode cX10_isAt 15 = .ok (.iaload, 1) := by decide +kernel
theorem dX10_isAt_16 : decode cX10_isAt 16 = .ok (.iconst 1, 1) := by decide +kernel
theorem dX10_isAt_17 : decode cX10_isAt 17 = .ok (.isub, 1) := by decide +kernel
theorem dX10_isAt_18 : decode cX10_isAt 18 = .ok (.invokestatic 124, 3) := by decide +kernel
theorem dX10_isAt_21 : decode cX10_isAt 21 = .ok (.ifCond .eq 7, 3) := by decide +kernel
theorem dX10_isAt_24 : decode cX10_isAt 24 = .ok (.iconst 1, 1) := by decide +kernel
theorem dX10_isAt_25 : decode cX10_isAt 25 = .ok (.goto 4, 3) := by decide +kernel
theorem dX10_isAt_28 : decode cX10_isAt 28 = .ok (.iconst 0, 1) := by decide +kernel
theorem dX10_isAt_29 : decode cX10_isAt 29 = .ok (.ireturn, 1) := by decide +kernel
set_option maxRecDepth 20000 in
theorem wp_X10_isAt (E : En) (d : Nat) (a1 : Int32) (a2 : Int32) (h : Hp) (P : Int32 → Hp → Prop) (t : SpI E d MX10_isInstruction [.ref (eA E 63), .int a1] h (fun v1 h1 => (v1 = 0 → (P (0 : Int32) h1)) ∧ (¬ v1 = 0 → (vp_in a1 8 ∧ (SpI E d MX10_isIn [.int a2, .int (0 : Int32), .int ((h1.1 66 a1.toNatClampNeg) - (1 : Int32))] h1 (fun v4 h4 => (v4 = 0 → (P (0 : Int32) h4)) ∧ (¬ v4 = 0 → (P (1 : Int32) h4)))))))) : SpI E (d + 1) MX10_isAt [.ref (eA E 63), .int a1, .int a2] h P := by
  refine SpI.of (lv0 := [(0, .ref (eA E 63)), (1, .int a1), (2, .int a2)]) (by decide) (Nat.le_of_ble_eq_true rfl) rfl (fun g => ?_)
  refine r_aload_n (q := 0) dX10_isAt_0 rfl rfl ?_
  refine r_iload_n (q := 1) dX10_isAt_1 rfl rfl ?_
  refine r_cVI (c := 63) (As := [.int a1]) dX10_isAt_2 mkX10_isInstruction lkX10_128 lay_63 rfl rfl rfl (by decide) rfl (Nat.le_of_ble_eq_true rfl) z00 t ?_
  intro v1 h1 t
  refine r_if_eq (tgt := 28) dX10_isAt_5 (by decide) (fun q2 => ?_) (fun q2 => ?_)
  · have t := t.1 q2
    refine r_iconst (v := (0 : Int32)) dX10_isAt_28 rfl ?_
    exact r_zret dX10_isAt_29 rfl (Or.inl rfl) t
  · have t := t.2 q2
    refine r_iload_n (q := 2) dX10_isAt_8 rfl rfl ?_
    refine r_iconst (v := (0 : Int32)) dX10_isAt_9 rfl ?_
    refine r_aload_n (q := 0) dX10_isAt_10 rfl rfl ?_
    refine r_getR (c := 63) (c2 := 66) dX10_isAt_11 flX10_16 lay_63 rfl ?_
    refine r_iload_n (q := 1) dX10_isAt_14 rfl rfl ?_
    obtain ⟨c3, t⟩ := t
    refine r_iald (c := 66) dX10_isAt_15 lay_66 c3 ?_
    refine r_iconst (v := (1 : Int32)) dX10_isAt_16 rfl ?_
    refine r_isub dX10_isAt_17 ?_
    refine r_cSI (As := [.int a2, .int (0 : Int32), .int ((h1.1 66 a1.toNatClampNeg) - (1 : Int32))]) dX10_isAt_18 mkX10_isIn lkX10_124 rfl (by decide) rfl (Nat.le_of_ble_eq_true rfl) z00 t ?_
    intro v4 h4 t
    refine r_if_eq (tgt := 28) dX10_isAt_21 (by decide) (fun q5 => ?_) (fun q5 => ?_)
    · have t := t.1 q5
      refine r_iconst (v := (0 : Int32)) dX10_isAt_28 rfl ?_
      exact r_zret dX10_isAt_29 rfl (Or.inl rfl) t
    · have t := t.2 q5
      refine r_iconst (v := (1 : Int32)) dX10_isAt_24 rfl ?_
      refine r_goto (tgt := 29) dX10_isAt_25 (by decide) ?_
      exact r_zret dX10_isAt_29 rfl (Or.inr rfl) t
theorem dX10_reads_0 : decode cX10_reads 0 = .ok (.aload_n 0, 1) := by decide +kernel
theorem dX10_reads_1 : decode cX10_reads 1 = .ok (.iload_n 1, 1) := by decide +kernel
theorem dX10_reads_2 : decode cX10_reads 2 = .ok (.iconst 3, 1) := by decide +kernel
theorem dX10_reads_3 : decode cX10_reads 3 = .ok (.invokevirtual 132, 3) := by decide +kernel
theorem dX10_reads_6 : decode cX10_reads 6 = .ok (.bipush 8, 2) := by decide +kernel
theorem dX10_reads_8 : decode cX10_reads 8 = .ok (.if_icmp .ge 14, 3) := by decide +kernel
theorem dX10_reads_11 : decode cX10_reads 11 = .ok (.iconst 1, 1) := by decide +kernel
theorem dX10_reads_12 : decode cX10_reads 12 = .ok (.aload_n 0, 1) := by decide +kernel
theorem dX10_reads_13 : decode cX10_reads 13 = .ok (.iload_n 1, 1) := by decide +kernel
theorem dX10_reads_14 : decode cX10_reads 14 = .ok (.iconst 3, 1) := by decide +kernel
theorem dX10_reads_15 : decode cX10_reads 15 = .ok (.invokevirtual 132, 3) := by decide +kernel
theorem dX10_reads_18 : decode cX10_reads 18 = .ok (.ishl, 1) := by decide +kernel
theorem dX10_reads_19 : decode cX10_reads 19 = .ok (.goto 4, 3) := by decide +kernel
theorem dX10_reads_22 : decode cX10_reads 22 = .ok (.iconst 0, 1) := by decide +kernel
theorem dX10_reads_23 : decode cX10_reads 23 = .ok (.istore_n 2, 1) := by decide +kernel
theorem dX10_reads_24 : decode cX10_reads 24 = .ok (.aload_n 0, 1) := by decide +kernel
theorem dX10_reads_25 : decode cX10_reads 25 = .ok (.iload_n 1, 1) := by decide +kernel
theorem dX10_reads_26 : decode cX10_reads 26 = .ok (.iconst 2, 1) := by decide +kernel
theorem dX10_reads_27 : decode cX10_reads 27 = .ok (.invokevirtual 132, 3) := by decide +kernel
theorem dX10_reads_30 : decode cX10_reads 30 = .ok (.ifCond .le 27, 3) := by decide +kernel
theorem dX10_reads_33 : decode cX10_reads 33 = .ok (.aload_n 0, 1) := by decide +kernel
theorem dX10_reads_34 : decode cX10_reads 34 = .ok (.iload_n 1, 1) := by decide +kernel
theorem dX10_reads_35 : decode cX10_reads 35 = .ok (.iconst 4, 1) := by decide +kernel
theorem dX10_reads_36 : decode cX10_reads 36 = .ok (.invokevirtual 132, 3) := by decide +kernel
theorem dX10_reads_39 : decode cX10_reads 39 = .ok (.bipush 8, 2) := by decide +kernel
theorem dX10_reads_41 : decode cX10_reads 41 = .ok (.if_icmp .ge 16, 3) := by decide +kernel
theorem dX10_reads_44 : decode cX10_reads 44 = .ok (.iload_n 2, 1) := by decide +kernel
theorem dX10_reads_45 : decode cX10_reads 45 = .ok (.iconst 1, 1) := by decide +kernel
theorem dX10_reads_46 : decode cX10_reads 46 = .ok (.aload_n 0, 1) := by decide +kernel
theorem dX10_reads_47 : decode cX10_reads 47 = .ok (.iload_n 1, 1) := by decide +kernel
theorem dX10_reads_48 : decode cX10_reads 48 = .ok (.iconst 4, 1) := by decide +kernel
theorem dX10_reads_49 : decode cX10_reads 49 = .ok (.invokevirtual 132, 3) := by decide +kernel
theorem dX10_reads_52 : decode cX10_reads 52 = .ok (.ishl, 1) := by decide +kernel
theorem dX10_reads_53 : decode cX10_reads 53 = .ok (.ior, 1) := by decide +kernel
theorem dX10_reads_54 : decode cX10_reads 54 = .ok (.goto 4, 3) := by decide +kernel
theorem dX10_reads_57 : decode cX10_reads 57 = .ok (.iload_n 2, 1) := by decide +kernel
theorem dX10_reads_58 : decode cX10_reads 58 = .ok (.ireturn, 1) := by decide +kernel
set_option maxRecDepth 20000 in
theorem wp_X10_reads (E : En) (d : Nat) (a1 : Int32) (h : Hp) (P : Int32 → Hp → Prop) (t : SpI E d MX10_of [.ref (eA E 63), .int a1, .int (3 : Int32)] h (fun v1 h1 => ((8 : Int32) ≤ v1 → (SpI E d MX10_of [.ref (eA E 63), .int a1, .int (2 : Int32)] h1 (fun v3 h3 => (v3 ≤ 0 → (P (0 : Int32) h3)) ∧ (¬ v3 ≤ 0 → (SpI E d MX10_of [.ref (eA E 63), .int a1, .int (4 : Int32)] h3 (fun v5 h5 => ((8 : Int32) ≤ v5 → (P (0 : Int32) h5)) ∧ (¬ (8 : Int32) ≤ v5 → (SpI E d MX10_of [.ref (eA E 63), .int a1, .int (4 : Int32)] h5 (fun v7 h7 => P ((0 : Int32) ||| ((1 : Int32) <<< (v7 &&& 31))) h7))))))))) ∧ (¬ (8 : Int32) ≤ v1 → (SpI E d MX10_of [.ref (eA E 63), .int a1, .int (3 : Int32)] h1 (fun v8 h8 => SpI E d MX10_of [.ref (eA E 63), .int a1, .int (2 : Int32)] h8 (fun v9 h9 => (v9 ≤ 0 → (P ((1 : Int32) <<< (v8 &&& 31)) h9)) ∧ (¬ v9 ≤ 0 → (SpI E d MX10_of [.ref (eA E 63), .int a1, .int (4 : Int32)] h9 (fun v11 h11 => ((8 : Int32) ≤ v11 → (P ((1 : Int32) <<< (v8 &&& 31)) h11)) ∧ (¬ (8 : Int32) ≤ v11 → (SpI E d MX10_of [.ref (eA E 63), .int a1, .int (4 : Int32)] h11 (fun v13 h13 => P (((1 : Int32) <<< (v8 &&& 31)) ||| ((1 : Int32) <<< (v13 &&& 31))) h13)))))))))))) : SpI E (d + 1) MX10_reads [.ref (eA E 63), .int a1] h P := by
  refine SpI.of (lv0 := [(0, .ref (eA E 63)), (1, .int a1)]) (by decide) (Nat.le_of_ble_eq_true rfl) rfl (fun g => ?_)
  refine r_aload_n (q := 0) dX10_reads_0 rfl rfl ?_
  refine r_iload_n (q := 1) dX10_reads_1 rfl rfl ?_
  refine r_iconst (v := (3 : Int32)) dX10_reads_2 rfl ?_
  refine r_cVI (c := 63) (As := [.int a1, .int (3 : Int32)]) dX10_reads_3 mkX10_of lkX10_132 lay_63 rfl rfl rfl (by decide) rfl (Nat.le_of_ble_eq_true rfl) z00 t ?_
  intro v1 h1 t
  refine r_bipush (v := (8 : Int32)) dX10_reads_6 rfl ?_
  refine r_icmp_ge (tgt := 22) dX10_reads_8 (by decide) (fun q2 => ?_) (fun q2 => ?_)
  · have t := t.1 q2
    refine r_iconst (v := (0 : Int32)) dX10_reads_22 rfl ?_
    refine r_istore_n (lv' := [(2, .int (0 : Int32)), (0, .ref (eA E 63)), (1, .int a1)]) dX10_reads_23 rfl (by decide) rfl ?_
    refine r_aload_n (q := 1) dX10_reads_24 rfl rfl ?_
    refine r_iload_n (q := 2) dX10_reads_25 rfl rfl ?_
    refine r_iconst (v := (2 : Int32)) dX10_reads_26 rfl ?_
    refine r_cVI (c := 63) (As := [.int a1, .int (2 : Int32)]) dX10_reads_27 mkX10_of lkX10_132 lay_63 rfl rfl rfl (by decide) rfl (Nat.le_of_ble_eq_true rfl) z00 t ?_
    intro v3 h3 t
    refine r_if_le (tgt := 57) dX10_reads_30 (by decide) (fun q4 => ?_) (fun q4 => ?_)
    · have t := t.1 q4
      refine r_iload_n (q := 0) dX10_reads_57 rfl rfl ?_
      exact r_iret dX10_reads_58 rfl t
    · have t := t.2 q4
      refine r_aload_n (q := 1) dX10_reads_33 rfl rfl ?_
      refine r_iload_n (q := 2) dX10_reads_34 rfl rfl ?_
      refine r_iconst (v := (4 : Int32)) dX10_reads_35 rfl ?_
      refine r_cVI (c := 63) (As := [.int a1, .int (4 : Int32)]) dX10_reads_36 mkX10_of lkX10_132 lay_63 rfl rfl rfl (by decide) rfl (Nat.le_of_ble_eq_true rfl) z00 t ?_
      intro v5 h5 t
      refine r_bipush (v := (8 : Int32)) dX10_reads_39 rfl ?_
      refine r_icmp_ge (tgt := 57) dX10_reads_41 (by decide) (fun q6 => ?_) (fun q6 => ?_)
      · have t := t.1 q6
        refine r_iload_n (q := 0) dX10_reads_57 rfl rfl ?_
        exact r_iret dX10_reads_58 rfl t
      · have t := t.2 q6
        refine r_iload_n (q := 0) dX10_reads_44 rfl rfl ?_
        refine r_iconst (v := (1 : Int32)) dX10_reads_45 rfl ?_
        refine r_aload_n (q := 1) dX10_reads_46 rfl rfl ?_
        refine r_iload_n (q := 2) dX10_reads_47 rfl rfl ?_
        refine r_iconst (v := (4 : Int32)) dX10_reads_48 rfl ?_
        refine r_cVI (c := 63) (As := [.int a1, .int (4 : Int32)]) dX10_reads_49 mkX10_of lkX10_132 lay_63 rfl rfl rfl (by decide) rfl (Nat.le_of_ble_eq_true rfl) z00 t ?_
        intro v7 h7 t
        refine r_ishl dX10_reads_52 ?_
        refine r_ior dX10_reads_53 ?_
        refine r_goto (tgt := 58) dX10_reads_54 (by decide) ?_
        exact r_iret dX10_reads_58 rfl t
  · have t := t.2 q2
    refine r_iconst (v := (1 : Int32)) dX10_reads_11 rfl ?_
    refine r_aload_n (q := 0) dX10_reads_12 rfl rfl ?_
    refine r_iload_n (q := 1) dX10_reads_13 rfl rfl ?_
    refine r_iconst (v := (3 : Int32)) dX10_reads_14 rfl ?_
    refine r_cVI (c := 63) (As := [.int a1, .int (3 : Int32)]) dX10_reads_15 mkX10_of lkX10_132 lay_63 rfl rfl rfl (by decide) rfl (Nat.le_of_ble_eq_true rfl) z00 t ?_
    intro v8 h8 t
    refine r_ishl dX10_reads_18 ?_
    refine r_goto (tgt := 23) dX10_reads_19 (by decide) ?_
    refine r_istore_n (lv' := [(2, .int ((1 : Int32) <<< (v8 &&& 31))), (0, .ref (eA E 63)), (1, .int a1)]) dX10_reads_23 rfl (by decide) rfl ?_
    refine r_aload_n (q := 1) dX10_reads_24 rfl rfl ?_
    refine r_iload_n (q := 2) dX10_reads_25 rfl rfl ?_
    refine r_iconst (v := (2 : Int32)) dX10_reads_26 rfl ?_
    refine r_cVI (c := 63) (As := [.int a1, .int (2 : Int32)]) dX10_reads_27 mkX10_of lkX10_132 lay_63 rfl rfl rfl (by decide) rfl (Nat.le_of_ble_eq_true rfl) z00 t ?_
    intro v9 h9 t
    refine r_if_le (tgt := 57) dX10_reads_30 (by decide) (fun q10 => ?_) (fun q10 => ?_)
    · have t := t.1 q10
      refine r_iload_n (q := 0) dX10_reads_57 rfl rfl ?_
      exact r_iret dX10_reads_58 rfl t
    · have t := t.2 q10
      refine r_aload_n (q := 1) dX10_reads_33 rfl rfl ?_
      refine r_iload_n (q := 2) dX10_reads_34 rfl rfl ?_
      refine r_iconst (v := (4 : Int32)) dX10_reads_35 rfl ?_
      refine r_cVI (c := 63) (As := [.int a1, .int (4 : Int32)]) dX10_reads_36 mkX10_of lkX10_132 lay_63 rfl rfl rfl (by decide) rfl (Nat.le_of_ble_eq_true rfl) z00 t ?_
      intro v11 h11 t
      refine r_bipush (v := (8 : Int32)) dX10_reads_39 rfl ?_
      refine r_icmp_ge (tgt := 57) dX10_reads_41 (by decide) (fun q12 => ?_) (fun q12 => ?_)
      · have t := t.1 q12
        refine r_iload_n (q := 0) dX10_reads_57 rfl rfl ?_
        exact r_iret dX10_reads_58 rfl t
      · have t := t.2 q12
        refine r_iload_n (q := 0) dX10_reads_44 rfl rfl ?_
        refine r_iconst (v := (1 : Int32)) dX10_reads_45 rfl ?_
        refine r_aload_n (q := 1) dX10_reads_46 rfl rfl ?_
        refine r_iload_n (q := 2) dX10_reads_47 rfl rfl ?_
        refine r_iconst (v := (4 : Int32)) dX10_reads_48 rfl ?_
        refine r_cVI (c := 63) (As := [.int a1, .int (4 : Int32)]) dX10_reads_49 mkX10_of lkX10_132 lay_63 rfl rfl rfl (by decide) rfl (Nat.le_of_ble_eq_true rfl) z00 t ?_
        intro v13 h13 t
        refine r_ishl dX10_reads_52 ?_
        refine r_ior dX10_reads_53 ?_
        refine r_goto (tgt := 58) dX10_reads_54 (by decide) ?_
        exact r_iret dX10_reads_58 rfl t
theorem dX10_isStrict_0 : decode cX10_isStrict 0 = .ok (.aload_n 0, 1) := by decide +kernel
theorem dX10_isStrict_1 : decode cX10_isStrict 1 = .ok (.iload_n 2, 1) := by decide +kernel
theorem dX10_isStrict_2 : decode cX10_isStrict 2 = .ok (.invokevirtual 136, 3) := by decide +kernel
theorem dX10_isStrict_5 : decode cX10_isStrict 5 = .ok (.aload_n 0, 1) := by decide +kernel
theorem dX10_isStrict_6 : decode cX10_isStrict 6 = .ok (.iload_n 1, 1) := by decide +kernel
theorem dX10_isStrict_7 : decode cX10_isStrict 7 = .ok (.iconst 1, 1) := by decide +kernel
theorem dX10_isStrict_8 : decode cX10_isStrict 8 = .ok (.invokevirtual 132, 3) := by decide +kernel
theorem dX10_isStrict_11 : decode cX10_isStrict 11 = .ok (.ishr, 1) := by decide +kernel
theorem dX10_isStrict_12 : decode cX10_isStrict 12 = .ok (.iconst 1, 1) := by decide +kernel
theorem dX10_isStrict_13 : decode cX10_isStrict 13 = .ok (.iand, 1) := by decide +kernel
theorem dX10_isStrict_14 : decode cX10_isStrict 14 = .ok (.iconst 1, 1) := by decide +kernel
theorem dX10_isStrict_15 : decode cX10_isStrict 15 = .ok (.if_icmp .eq 18, 3) := by decide +kernel
theorem dX10_isStrict_18 : decode cX10_isStrict 18 = .ok (.aload_n 0, 1) := by decide +kernel
theorem dX10_isStrict_19 : decode cX10_isStrict 19 = .ok (.iload_n 1, 1) := by decide +kernel
theorem dX10_isStrict_20 : decode cX10_isStrict 20 = .ok (.iconst 1, 1) := by decide +kernel
theorem dX10_isStrict_21 : decode cX10_isStrict 21 = .ok (.invokevirtual 132, 3) := by decide +kernel
theorem dX10_isStrict_24 : decode cX10_isStrict 24 = .ok (.aload_n 0, 1) := by decide +kernel
theorem dX10_isStrict_25 : decode cX10_isStrict 25 = .ok (.iload_n 2, 1) := by decide +kernel
theorem dX10_isStrict_26 : decode cX10_isStrict 26 = .ok (.iconst 1, 1) := by decide +kernel
theorem dX10_isStrict_27 : decode cX10_isStrict 27 = .ok (.invokevirtual 132, 3) := by decide +kernel
theorem dX10_isStrict_30 : decode cX10_isStrict 30 = .ok (.if_icmp .ne 7, 3) := by decide +kernel
theorem dX10_isStrict_33 : decode cX10_isStrict 33 = .ok (.iconst 1, 1) := by decide +kernel
theorem dX10_isStrict_34 : decode cX10_isStrict 34 = .ok (.goto 4, 3) := by decide +kernel
theorem dX10_isStrict_37 : decode cX10_isStrict 37 = .ok (.iconst 0, 1) := by decide +kernel
theorem dX10_isStrict_38 : decode cX10_isStrict 38 = .ok (.ireturn, 1) := by decide +kernel
set_option maxRecDepth 20000 in
theorem wp_X10_isStrict (E : En) (d : Nat) (a1 : Int32) (a2 : Int32) (h : Hp) (P : Int32 → Hp → Prop) (t : SpI E d MX10_reads [.ref (eA E 63), .int a2] h (fun v1 h1 => SpI E d MX10_of [.ref (eA E 63), .int a1, .int (1 : Int32)] h1 (fun v2 h2 => (((v1 >>> (v2 &&& 31)) &&& (1 : Int32)) = (1 : Int32) → (P (1 : Int32) h2)) ∧ (¬ ((v1 >>> (v2 &&& 31)) &&& (1 : Int32)) = (1 : Int32) → (SpI E d MX10_of [.ref (eA E 63), .int a1, .int (1 : Int32)] h2 (fun v4 h4 => SpI E d MX10_of [.ref (eA E 63), .int a2, .int (1 : Int32)] h4 (fun v5 h5 => (¬ v4 = v5 → (P (0 : Int32) h5)) ∧ (v4 = v5 → (P (1 : Int32) h5))))))))) : SpI E (d + 1) MX10_isStrict [.ref (eA E 63), .int a1, .int a2] h P := by
  refine SpI.of (lv0 := [(0, .ref (eA E 63)), (1, .int a1), (2, .int a2)]) (by decide) (Nat.le_of_ble_eq_true rfl) rfl (fun g => ?_)
  refine r_aload_n (q := 0) dX10_isStrict_0 rfl rfl ?_
  refine r_iload_n (q := 2) dX10_isStrict_1 rfl rfl ?_
  refine r_cVI (c := 63) (As := [.int a2]) dX10_isStrict_2 mkX10_reads lkX10_136 lay_63 rfl rfl rfl (by decide) rfl (Nat.le_of_ble_eq_true rfl) z00 t ?_
  intro v1 h1 t
  refine r_aload_n (q := 0) dX10_isStrict_5 rfl rfl ?_
  refine r_iload_n (q := 1) dX10_isStrict_6 rfl rfl ?_
  refine r_iconst (v := (1 : Int32)) dX10_isStrict_7 rfl ?_
  refine r_cVI (c := 63) (As := [.int a1, .int (1 : Int32)]) dX10_isStrict_8 mkX10_of lkX10_132 lay_63 rfl rfl rfl (by decide) rfl (Nat.le_of_ble_eq_true rfl) z00 t ?_
  intro v2 h2 t
  refine r_ishr dX10_isStrict_11 ?_
  refine r_iconst (v := (1 : Int32)) dX10_isStrict_12 rfl ?_
  refine r_iand dX10_isStrict_13 ?_
  refine r_iconst (v := (1 : Int32)) dX10_isStrict_14 rfl ?_
  refine r_icmp_eq (tgt := 33) dX10_isStrict_15 (by decide) (fun q3 => ?_) (fun q3 => ?_)
  · have t := t.1 q3
    refine r_iconst (v := (1 : Int32)) dX10_isStrict_33 rfl ?_
    refine r_goto (tgt := 38) dX10_isStrict_34 (by decide) ?_
    exact r_zret dX10_isStrict_38 rfl (Or.inr rfl) t
  · have t := t.2 q3
    refine r_aload_n (q := 0) dX10_isStrict_18 rfl rfl ?_
    refine r_iload_n (q := 1) dX10_isStrict_19 rfl rfl ?_
    refine r_iconst (v := (1 : Int32)) dX10_isStrict_20 rfl ?_
    refine r_cVI (c := 63) (As := [.int a1, .int (1 : Int32)]) dX10_isStrict_21 mkX10_of lkX10_132 lay_63 rfl rfl rfl (by decide) rfl (Nat.le_of_ble_eq_true rfl) z00 t ?_
    intro v4 h4 t
    refine r_aload_n (q := 0) dX10_isStrict_24 rfl rfl ?_
    refine r_iload_n (q := 2) dX10_isStrict_25 rfl rfl ?_
    refine r_iconst (v := (1 : Int32)) dX10_isStrict_26 rfl ?_
    refine r_cVI (c := 63) (As := [.int a2, .int (1 : Int32)]) dX10_isStrict_27 mkX10_of lkX10_132 lay_63 rfl rfl rfl (by decide) rfl (Nat.le_of_ble_eq_true rfl) z00 t ?_
    intro v5 h5 t
    refine r_icmp_ne (tgt := 37) dX10_isStrict_30 (by decide) (fun q6 => ?_) (fun q6 => ?_)
    · have t := t.1 q6
      refine r_iconst (v := (0 : Int32)) dX10_isStrict_37 rfl ?_
      exact r_zret dX10_isStrict_38 rfl (Or.inl rfl) t
    · have t := t.2 q6
      refine r_iconst (v := (1 : Int32)) dX10_isStrict_33 rfl ?_
      refine r_goto (tgt := 38) dX10_isStrict_34 (by decide) ?_
      exact r_zret dX10_isStrict_38 rfl (Or.inr rfl) t
theorem dX10_isWeak_0 : decode cX10_isWeak 0 = .ok (.aload_n 0, 1) := by decide +kernel
theorem dX10_isWeak_1 : decode cX10_isWeak 1 = .ok (.iload_n 1, 1) := by decide +kernel
theorem dX10_isWeak_2 : decode cX10_isWeak 2 = .ok (.iload_n 2, 1) := by decide +kernel
theorem dX10_isWeak_3 : decode cX10_isWeak 3 = .ok (.invokevirtual 140, 3) := by decide +kernel
theorem dX10_isWeak_6 : decode cX10_isWeak 6 = .ok (.ifCond .ne 25, 3) := by decide +kernel
theorem dX10_isWeak_9 : decode cX10_isWeak 9 = .ok (.aload_n 0, 1) := by decide +kernel
theorem dX10_isWeak_10 : decode cX10_isWeak 10 = .ok (.iload_n 1, 1) := by decide +kernel
theorem dX10_isWeak_11 : decode cX10_isWeak 11 = .ok (.invokevirtual 136, 3) := by decide +kernel
theorem dX10_isWeak_14 : decode cX10_isWeak 14 = .ok (.aload_n 0, 1) := by decide +kernel
theorem dX10_isWeak_15 : decode cX10_isWeak 15 = .ok (.iload_n 2, 1) := by decide +kernel
theorem dX10_isWeak_16 : decode cX10_isWeak 16 = .ok (.iconst 1, 1) := by decide +kernel
theorem dX10_isWeak_17 : decode cX10_isWeak 17 = .ok (.invokevirtual 132, 3) := by decide +kernel
theorem dX10_isWeak_20 : decode cX10_isWeak 20 = .ok (.ishr, 1) := by decide +kernel
theorem dX10_isWeak_21 : decode cX10_isWeak 21 = .ok (.iconst 1, 1) := by decide +kernel
theorem dX10_isWeak_22 : decode cX10_isWeak 22 = .ok (.iand, 1) := by decide +kernel
theorem dX10_isWeak_23 : decode cX10_isWeak 23 = .ok (.iconst 1, 1) := by decide +kernel
theorem dX10_isWeak_24 : decode cX10_isWeak 24 = .ok (.if_icmp .ne 7, 3) := by decide +kernel
theorem dX10_isWeak_27 : decode cX10_isWeak 27 = .ok (.iconst 1, 1) := by decide +kernel
theorem dX10_isWeak_28 : decode cX10_isWeak 28 = .ok (.goto 4, 3) := by decide +kernel
theorem dX10_isWeak_31 : decode cX10_isWeak 31 = .ok (.iconst 0, 1) := by decide +kernel
theorem dX10_isWeak_32 : decode cX10_isWeak 32 = .ok (.ireturn, 1) := by decide +kernel
set_option maxRecDepth 20000 in
theorem wp_X10_isWeak (E : En) (d : Nat) (a1 : Int32) (a2 : Int32) (h : Hp) (P : Int32 → Hp → Prop) (t : SpI E d MX10_isStrict [.ref (eA E 63), .int a1, .int a2] h (fun v1 h1 => (¬ v1 = 0 → (P (0 : Int32) h1)) ∧ (v1 = 0 → (SpI E d MX10_reads [.ref (eA E 63), .int a1] h1 (fun v3 h3 => SpI E d MX10_of [.ref (eA E 63), .int a2, .int (1 : Int32)] h3 (fun v4 h4 => (¬ ((v3 >>> (v4 &&& 31)) &&& (1 : Int32)) = (1 : Int32) → (P (0 : Int32) h4)) ∧ (((v3 >>> (v4 &&& 31)) &&& (1 : Int32)) = (1 : Int32) → (P (1 : Int32) h4)))))))) : SpI E (d + 1) MX10_isWeak [.ref (eA E 63), .int a1, .int a2] h P := by
  refine SpI.of (lv0 := [(0, .ref (eA E 63)), (1, .int a1), (2, .int a2)]) (by decide) (Nat.le_of_ble_eq_true rfl) rfl (fun g => ?_)
  refine r_aload_n (q := 0) dX10_isWeak_0 rfl rfl ?_
  refine r_iload_n (q := 1) dX10_isWeak_1 rfl rfl ?_
  refine r_iload_n (q := 2) dX10_isWeak_2 rfl rfl ?_
  refine r_cVI (c := 63) (As := [.int a1, .int a2]) dX10_isWeak_3 mkX10_isStrict lkX10_140 lay_63 rfl rfl rfl (by decide) rfl (Nat.le_of_ble_eq_true rfl) z00 t ?_
  intro v1 h1 t
  refine r_if_ne (tgt := 31) dX10_isWeak_6 (by decide) (fun q2 => ?_) (fun q2 => ?_)
  · have t := t.1 q2
    refine r_iconst (v := (0 : Int32)) dX10_isWeak_31 rfl ?_
    exact r_zret dX10_isWeak_32 rfl (Or.inl rfl) t
  · have t := t.2 q2
    refine r_aload_n (q := 0) dX10_isWeak_9 rfl rfl ?_
    refine r_iload_n (q := 1) dX10_isWeak_10 rfl rfl ?_
    refine r_cVI (c := 63) (As := [.int a1]) dX10_isWeak_11 mkX10_reads lkX10_136 lay_63 rfl rfl rfl (by decide) rfl (Nat.le_of_ble_eq_true rfl) z00 t ?_
    intro v3 h3 t
    refine r_aload_n (q := 0) dX10_isWeak_14 rfl rfl ?_
    refine r_iload_n (q := 2) dX10_isWeak_15 rfl rfl ?_
    refine r_iconst (v := (1 : Int32)) dX10_isWeak_16 rfl ?_
    refine r_cVI (c := 63) (As := [.int a2, .int (1 : Int32)]) dX10_isWeak_17 mkX10_of lkX10_132 lay_63 rfl rfl rfl (by decide) rfl (Nat.le_of_ble_eq_true rfl) z00 t ?_
    intro v4 h4 t
    refine r_ishr dX10_isWeak_20 ?_
    refine r_iconst (v := (1 : Int32)) dX10_isWeak_21 rfl ?_
    refine r_iand dX10_isWeak_22 ?_
    refine r_iconst (v := (1 : Int32)) dX10_isWeak_23 rfl ?_
    refine r_icmp_ne (tgt := 31) dX10_isWeak_24 (by decide) (fun q5 => ?_) (fun q5 => ?_)
    · have t := t.1 q5
      refine r_iconst (v := (0 : Int32)) dX10_isWeak_31 rfl ?_
      exact r_zret dX10_isWeak_32 rfl (Or.inl rfl) t
    · have t := t.2 q5
      refine r_iconst (v := (1 : Int32)) dX10_isWeak_27 rfl ?_
      refine r_goto (tgt := 32) dX10_isWeak_28 (by decide) ?_
      exact r_zret dX10_isWeak_32 rfl (Or.inr rfl) t
theorem dX10_operationCount_0 : decode cX10_operationCount 0 = .ok (.aload_n 0, 1) := by decide +kernel
theorem dX10_operationCount_1 : decode cX10_operationCount 1 = .ok (.iconst 0, 1) := by decide +kernel
theorem dX10_operationCount_2 : decode cX10_operationCount 2 = .ok (.putfield 118, 3) := by decide +kernel
theorem dX10_operationCount_5 : decode cX10_operationCount 5 = .ok (.aload_n 0, 1) := by decide +kernel
theorem dX10_operationCount_6 : decode cX10_operationCount 6 = .ok (.getfield 144, 3) := by decide +kernel
theorem dX10_operationCount_9 : decode cX10_operationCount 9 = .ok (.ireturn, 1) := by decide +kernel
set_option maxRecDepth 20000 in
theorem wp_X10_operationCount (E : En) (d : Nat) (h : Hp) (P : Int32 → Hp → Prop) (t : P (h.1 63 1) (sI h 63 0 (0 : Int32))) : SpI E d MX10_operationCount [.ref (eA E 63)] h P := by
  refine SpI.of (lv0 := [(0, .ref (eA E 63))]) (by decide) (Nat.le_of_ble_eq_true rfl) rfl (fun g => ?_)
  refine r_aload_n (q := 0) dX10_operationCount_0 rfl rfl ?_
  refine r_iconst (v := (0 : Int32)) dX10_operationCount_1 rfl ?_
  refine r_putI (c := 63) dX10_operationCount_2 flX10_118 lay_63 rfl ?_
  refine r_aload_n (q := 0) dX10_operationCount_5 rfl rfl ?_
  refine r_getIv (c := 63) (v := h.1 63 1) dX10_operationCount_6 flX10_144 lay_63 rfl rfl ?_
  exact r_iret dX10_operationCount_9 rfl t
theorem dX10_instructionCount_0 : decode cX10_instructionCount 0 = .ok (.aload_n 0, 1) := by decide +kernel
theorem dX10_instructionCount_1 : decode cX10_instructionCount 1 = .ok (.iconst 0, 1) := by decide +kernel
theorem dX10_instructionCount_2 : decode cX10_instructionCount 2 = .ok (.putfield 118, 3) := by decide +kernel
theorem dX10_instructionCount_5 : decode cX10_instructionCount 5 = .ok (.aload_n 0, 1) := by decide +kernel
theorem dX10_instructionCount_6 : decode cX10_instructionCount 6 = .ok (.getfield 121, 3) := by decide +kernel
theorem dX10_instructionCount_9 : decode cX10_instructionCount 9 = .ok (.ireturn, 1) := by decide +kernel
set_option maxRecDepth 20000 in
theorem wp_X10_instructionCount (E : En) (d : Nat) (h : Hp) (P : Int32 → Hp → Prop) (t : P (h.1 63 2) (sI h 63 0 (0 : Int32))) : SpI E d MX10_instructionCount [.ref (eA E 63)] h P := by
  refine SpI.of (lv0 := [(0, .ref (eA E 63))]) (by decide) (Nat.le_of_ble_eq_true rfl) rfl (fun g => ?_)
  refine r_aload_n (q := 0) dX10_instructionCount_0 rfl rfl ?_
  refine r_iconst (v := (0 : Int32)) dX10_instructionCount_1 rfl ?_
  refine r_putI (c := 63) dX10_instructionCount_2 flX10_118 lay_63 rfl ?_
  refine r_aload_n (q := 0) dX10_instructionCount_5 rfl rfl ?_
  refine r_getIv (c := 63) (v := h.1 63 2) dX10_instructionCount_6 flX10_121 lay_63 rfl rfl ?_
  exact r_iret dX10_instructionCount_9 rfl t
theorem dX10_operation_0 : decode cX10_operation 0 = .ok (.aload_n 0, 1) := by decide +kernel
theorem dX10_operation_1 : decode cX10_operation 1 = .ok (.iload_n 1, 1) := by decide +kernel
theorem dX10_operation_2 : decode cX10_operation 2 = .ok (.iconst 0, 1) := by decide +kernel
theorem dX10_operation_3 : decode cX10_operation 3 = .ok (.aload_n 0, 1) := by decide +kernel
theorem dX10_operation_4 : decode cX10_operation 4 = .ok (.getfield 144, 3) := by decide +kernel
theorem dX10_operation_7 : decode cX10_operation 7 = .ok (.iconst 1, 1) := by decide +kernel
theorem dX10_operation_8 : decode cX10_operation 8 = .ok (.isub, 1) := by decide +kernel
theorem dX10_operation_9 : decode cX10_operation 9 = .ok (.invokestatic 124, 3) := by decide +kernel
theorem dX10_operation_12 : decode cX10_operation 12 = .ok (.ifCond .ne 7, 3) := by decide +kernel
theorem dX10_operation_15 : decode cX10_operation 15 = .ok (.iconst 1, 1) := by decide +kernel
theorem dX10_operation_16 : decode cX10_operation 16 = .ok (.goto 17, 3) := by decide +kernel
theorem dX10_operation_19 : decode cX10_operation 19 = .ok (.iload_n 2, 1) := by decide +kernel
theorem dX10_operation_20 : decode cX10_operation 20 = .ok (.iconst 0, 1) := by decide +kernel
theorem dX10_operation_21 : decode cX10_operation 21 = .ok (.iconst 4, 1) := by decide +kernel
theorem dX10_operation_22 : decode cX10_operation 22 = .ok (.invokestatic 124, 3) := by decide +kernel
theorem dX10_operation_25 : decode cX10_operation 25 = .ok (.ifCond .ne 7, 3) := by decide +kernel
theorem dX10_operation_28 : decode cX10_operation 28 = .ok (.iconst 2, 1) := by decide +kernel
theorem dX10_operation_29 : decode cX10_operation 29 = .ok (.goto 4, 3) := by decide +kernel
theorem dX10_operation_32 : decode cX10_operation 32 = .ok (.iconst 0, 1) := by decide +kernel
theorem dX10_operation_33 : decode cX10_operation 33 = .ok (.invokevirtual 147, 3) := by decide +kernel
theorem dX10_operation_36 : decode cX10_operation 36 = .ok (.ifCond .eq 5, 3) := by decide +kernel
theorem dX10_operation_39 : decode cX10_operation 39 = .ok (.iconst 0, 1) := by decide +kernel
theorem dX10_operation_40 : decode cX10_operation 40 = .ok (.ireturn, 1) := by decide +kernel
theorem dX10_operation_41 : decode cX10_operation 41 = .ok (.iload_n 2, 1) := by decide +kernel
theorem dX10_operation_42 : decode cX10_operation 42 = .ok (.iconst 3, 1) := by decide +kernel
theorem dX10_operation_43 : decode cX10_operation 43 = .ok (.if_icmp .ge 10, 3) := by decide +kernel
theorem dX10_operation_46 : decode cX10_operation 46 = .ok (.aload_n 0, 1) := by decide +kernel
theorem dX10_operation_47 : decode cX10_operation 47 = .ok (.iload_n 1, 1) := by decide +kernel
theorem dX10_operation_48 : decode cX10_operation 48 = .ok (.iload_n 2, 1) := by decide +kernel
theorem dX10_operation_49 : decode cX10_operation 49 = .ok (.invokevirtual 132, 3) := by decide +kernel
theorem dX10_operation_52 : decode cX10_operation 52 = .ok (.ireturn, 1) := by decide +kernel
theorem dX10_operation_53 : decode cX10_operation 53 = .ok (.iload_n 2, 1) := by decide +kernel
theorem dX10_operation_54 : decode cX10_operation 54 = .ok (.iconst 3, 1) := by decide +kernel
theorem dX10_operation_55 : decode cX10_operation 55 = .ok (.if_icmp .ne 9, 3) := by decide +kernel
theorem dX10_operation_58 : decode cX10_operation 58 = .ok (.aload_n 0, 1) := by decide +kernel
theorem dX10_operation_59 : decode cX10_operation 59 = .ok (.iload_n 1, 1) := by decide +kernel
theorem dX10_operation_60 : decode cX10_operation 60 = .ok (.invokevirtual 136, 3) := by decide +kernel
theorem dX10_operation_63 : decode cX10_operation 63 = .ok (.ireturn, 1) := by decide +kernel
theorem dX10_operation_64 : decode cX10_operation 64 = .ok (.iconst 0, 1) := by decide +kernel
theorem dX10_operation_65 : decode cX10_operation 65 = .ok (.istore_n 3, 1) := by decide +kernel
theorem dX10_operation_66 : decode cX10_operation 66 = .ok (.iconst 0, 1) := by decide +kernel
theorem dX10_operation_67 : decode cX10_operation 67 = .ok (.istore 4, 2) := by decide +kernel
theorem dX10_operation_69 : decode cX10_operation 69 = .ok (.iload 4, 2) := by decide +kernel
theorem dX10_operation_71 : decode cX10_operation 71 = .ok (.aload_n 0, 1) := by decide +kernel
theorem dX10_operation_72 : decode cX10_operation 72 = .ok (.getfield 121, 3) := by decide +kernel
theorem dX10_operation_75 : decode cX10_operation 75 = .ok (.if_icmp .ge 50, 3) := by decide +kernel
theorem dX10_operation_78 : decode cX10_operation 78 = .ok (.iconst 0, 1) := by decide +kernel
theorem dX10_operation_79 : decode cX10_operation 79 = .ok (.istore 5, 2) := by decide +kernel
theorem dX10_operation_81 : decode cX10_operation 81 = .ok (.iload 5, 2) := by decide +kernel
theorem dX10_operation_83 : decode cX10_operation 83 = .ok (.aload_n 0, 1) := by decide +kernel
theorem dX10_operation_84 : decode cX10_operation 84 = .ok (.getfield 16, 3) := by decide +kernel
theorem dX10_operation_87 : decode cX10_operation 87 = .ok (.iload 4, 2) := by decide +kernel
theorem dX10_operation_89 : decode cX10_operation 89 = .ok (.iaload, 1) := by decide +kernel
theorem dX10_operation_90 : decode cX10_operation 90 = .ok (.if_icmp .ge 29, 3) := by decide +kernel
theorem dX10_operation_93 : decode cX10_operation 93 = .ok (.iload_n 3, 1) := by decide +kernel
theorem dX10_operation_94 : decode cX10_operation 94 = .ok (.aload_n 0, 1) := by decide +kernel
theorem dX10_operation_95 : decode cX10_operation 95 = .ok (.iload 4, 2) := by decide +kernel
theorem dX10_operation_97 : decode cX10_operation 97 = .ok (.iload 5, 2) := by decide +kernel
theorem dX10_operation_99 : decode cX10_operation 99 = .ok (.invokevirtual 150, 3) := by decide +kernel
theorem dX10_operation_102 : decode cX10_operation 102 = .ok (.iload_n 1, 1) := by decide +kernel
theorem dX10_operation_103 : decode cX10_operation 103 = .ok (.if_icmp .ne 7, 3) := by decide +kernel
theorem dX10_operation_106 : decode cX10_operation 106 = .ok (.iconst 1, 1) := by decide +kernel
theorem dX10_operation_107 : decode cX10_operation 107 = .ok (.goto 4, 3) := by decide +kernel
theorem dX10_operation_110 : decode cX10_operation 110 = .ok (.iconst 0, 1) := by decide +kernel
theorem dX10_operation_111 : decode cX10_operation 111 = .ok (.iadd, 1) := by decide +kernel
theorem dX10_operation_112 : decode cX10_operation 112 = .ok (.istore_n 3, 1) := by decide +kernel
theorem dX10_operation_113 : decode cX10_operation 113 = .ok (.iinc 5 1, 3) := by decide +kernel
theorem dX10_operation_116 : decode cX10_operation 116 = .ok (.goto (-35), 3) := by decide +kernel
theorem dX10_operation_119 : decode cX10_operation 119 = .ok (.iinc 4 1, 3) := by decide +kernel
theorem dX10_operation_122 : decode cX10_operation 122 = .ok (.goto (-53), 3) := by decide +kernel
theorem dX10_operation_125 : decode cX10_operation 125 = .ok (.iload_n 3, 1) := by decide +kernel
theorem dX10_operation_126 : decode cX10_operation 126 = .ok (.ireturn, 1) := by decide +kernel
abbrev VX10_operation_69 (E : En) (d : Nat) (g : Ga) (P : Int32 → Hp → Prop) (x1 : Int32) (x2 : Int32) (x3 : Int32) (x4 : Int32) (h : Hp) : Prop := V E MX10_operation (RM (d + 1) 0) g (QQ E g (QI E P) 0 0) 0 0 h 69 [(0, .ref (eA E 63)), (1, .int x1), (2, .int x2), (3, .int x3), (4, .int x4)] []
abbrev VX10_operation_81 (E : En) (d : Nat) (g : Ga) (P : Int32 → Hp → Prop) (x1 : Int32) (x2 : Int32) (x3 : Int32) (x4 : Int32) (x5 : Int32) (h : Hp) : Prop := V E MX10_operation (RM (d + 1) 0) g (QQ E g (QI E P) 0 0) 0 0 h 81 [(0, .ref (eA E 63)), (1, .int x1), (2, .int x2), (3, .int x3), (4, .int x4), (5, .int x5)] []
set_option maxRecDepth 20000 in
theorem wp_X10_operation (E : En) (d : Nat) (a1 : Int32) (a2 : Int32) (h : Hp) (P : Int32 → Hp → Prop) (t : ∀ g : Ga, SpI E d MX10_isIn [.int a1, .int (0 : Int32), .int ((h.1 63 1) - (1 : Int32))] h (fun v1 h1 => (¬ v1 = 0 → (SpI E d MX10_isIn [.int a2, .int (0 : Int32), .int (4 : Int32)] h1 (fun v3 h3 => (¬ v3 = 0 → (SpI E d MX10_throwsAs [.ref (eA E 63), .int (0 : Int32)] h3 (fun v5 h5 => (v5 = 0 → (((3 : Int32) ≤ a2 → ((¬ a2 = (3 : Int32) → (VX10_operation_69 E d g P a1 a2 (0 : Int32) (0 : Int32) h5)) ∧ (a2 = (3 : Int32) → (SpI E d MX10_reads [.ref (eA E 63), .int a1] h5 (fun v9 h9 => P v9 h9))))) ∧ (¬ (3 : Int32) ≤ a2 → (SpI E d MX10_of [.ref (eA E 63), .int a1, .int a2] h5 (fun v10 h10 => P v10 h10))))) ∧ (¬ v5 = 0 → (P (0 : Int32) h5))))) ∧ (v3 = 0 → (SpI E d MX10_throwsAs [.ref (eA E 63), .int (2 : Int32)] h3 (fun v11 h11 => (v11 = 0 → (((3 : Int32) ≤ a2 → ((¬ a2 = (3 : Int32) → (VX10_operation_69 E d g P a1 a2 (0 : Int32) (0 : Int32) h11)) ∧ (a2 = (3 : Int32) → (SpI E d MX10_reads [.ref (eA E 63), .int a1] h11 (fun v15 h15 => P v15 h15))))) ∧ (¬ (3 : Int32) ≤ a2 → (SpI E d MX10_of [.ref (eA E 63), .int a1, .int a2] h11 (fun v16 h16 => P v16 h16))))) ∧ (¬ v11 = 0 → (P (0 : Int32) h11)))))))) ∧ (v1 = 0 → (SpI E d MX10_throwsAs [.ref (eA E 63), .int (1 : Int32)] h1 (fun v17 h17 => (v17 = 0 → (((3 : Int32) ≤ a2 → ((¬ a2 = (3 : Int32) → (VX10_operation_69 E d g P a1 a2 (0 : Int32) (0 : Int32) h17)) ∧ (a2 = (3 : Int32) → (SpI E d MX10_reads [.ref (eA E 63), .int a1] h17 (fun v21 h21 => P v21 h21))))) ∧ (¬ (3 : Int32) ≤ a2 → (SpI E d MX10_of [.ref (eA E 63), .int a1, .int a2] h17 (fun v22 h22 => P v22 h22))))) ∧ (¬ v17 = 0 → (P (0 : Int32) h17))))))) : SpI E (d + 1) MX10_operation [.ref (eA E 63), .int a1, .int a2] h P := by
  refine SpI.of (lv0 := [(0, .ref (eA E 63)), (1, .int a1), (2, .int a2)]) (by decide) (Nat.le_of_ble_eq_true rfl) rfl (fun g => ?_)
  have t := t g
  refine r_aload_n (q := 0) dX10_operation_0 rfl rfl ?_
  refine r_iload_n (q := 1) dX10_operation_1 rfl rfl ?_
  refine r_iconst (v := (0 : Int32)) dX10_operation_2 rfl ?_
  refine r_aload_n (q := 0) dX10_operation_3 rfl rfl ?_
  refine r_getI (c := 63) dX10_operation_4 flX10_144 lay_63 rfl ?_
  refine r_iconst (v := (1 : Int32)) dX10_operation_7 rfl ?_
  refine r_isub dX10_operation_8 ?_
  refine r_cSI (As := [.int a1, .int (0 : Int32), .int ((h.1 63 1) - (1 : Int32))]) dX10_operation_9 mkX10_isIn lkX10_124 rfl (by decide) rfl (Nat.le_of_ble_eq_true rfl) z00 t ?_
  intro v1 h1 t
  refine r_if_ne (tgt := 19) dX10_operation_12 (by decide) (fun q2 => ?_) (fun q2 => ?_)
  · have t := t.1 q2
    refine r_iload_n (q := 2) dX10_operation_19 rfl rfl ?_
    refine r_iconst (v := (0 : Int32)) dX10_operation_20 rfl ?_
    refine r_iconst (v := (4 : Int32)) dX10_operation_21 rfl ?_
    refine r_cSI (As := [.int a2, .int (0 : Int32), .int (4 : Int32)]) dX10_operation_22 mkX10_isIn lkX10_124 rfl (by decide) rfl (Nat.le_of_ble_eq_true rfl) z00 t ?_
    intro v3 h3 t
    refine r_if_ne (tgt := 32) dX10_operation_25 (by decide) (fun q4 => ?_) (fun q4 => ?_)
    · have t := t.1 q4
      refine r_iconst (v := (0 : Int32)) dX10_operation_32 rfl ?_
      refine r_cVI (c := 63) (As := [.int (0 : Int32)]) dX10_operation_33 mkX10_throwsAs lkX10_147 lay_63 rfl rfl rfl (by decide) rfl (Nat.le_of_ble_eq_true rfl) z00 t ?_
      intro v5 h5 t
      refine r_if_eq (tgt := 41) dX10_operation_36 (by decide) (fun q6 => ?_) (fun q6 => ?_)
      · have t := t.1 q6
        refine r_iload_n (q := 2) dX10_operation_41 rfl rfl ?_
        refine r_iconst (v := (3 : Int32)) dX10_operation_42 rfl ?_
        refine r_icmp_ge (tgt := 53) dX10_operation_43 (by decide) (fun q7 => ?_) (fun q7 => ?_)
        · have t := t.1 q7
          refine r_iload_n (q := 2) dX10_operation_53 rfl rfl ?_
          refine r_iconst (v := (3 : Int32)) dX10_operation_54 rfl ?_
          refine r_icmp_ne (tgt := 64) dX10_operation_55 (by decide) (fun q8 => ?_) (fun q8 => ?_)
          · have t := t.1 q8
            refine r_iconst (v := (0 : Int32)) dX10_operation_64 rfl ?_
            refine r_istore_n (lv' := [(3, .int (0 : Int32)), (0, .ref (eA E 63)), (1, .int a1), (2, .int a2)]) dX10_operation_65 rfl (by decide) rfl ?_
            refine r_iconst (v := (0 : Int32)) dX10_operation_66 rfl ?_
            refine r_istore (lv' := [(4, .int (0 : Int32)), (3, .int (0 : Int32)), (0, .ref (eA E 63)), (1, .int a1), (2, .int a2)]) dX10_operation_67 (by decide) rfl ?_
            refine r_sub [2, 3, 4, 1, 0] rfl ?_
            exact t
          · have t := t.2 q8
            refine r_aload_n (q := 0) dX10_operation_58 rfl rfl ?_
            refine r_iload_n (q := 1) dX10_operation_59 rfl rfl ?_
            refine r_cVI (c := 63) (As := [.int a1]) dX10_operation_60 mkX10_reads lkX10_136 lay_63 rfl rfl rfl (by decide) rfl (Nat.le_of_ble_eq_true rfl) z00 t ?_
            intro v9 h9 t
            exact r_iret dX10_operation_63 rfl t
        · have t := t.2 q7
          refine r_aload_n (q := 0) dX10_operation_46 rfl rfl ?_
          refine r_iload_n (q := 1) dX10_operation_47 rfl rfl ?_
          refine r_iload_n (q := 2) dX10_operation_48 rfl rfl ?_
          refine r_cVI (c := 63) (As := [.int a1, .int a2]) dX10_operation_49 mkX10_of lkX10_132 lay_63 rfl rfl rfl (by decide) rfl (Nat.le_of_ble_eq_true rfl) z00 t ?_
          intro v10 h10 t
          exact r_iret dX10_operation_52 rfl t
      · have t := t.2 q6
        refine r_iconst (v := (0 : Int32)) dX10_operation_39 rfl ?_
        exact r_iret dX10_operation_40 rfl t
    · have t := t.2 q4
      refine r_iconst (v := (2 : Int32)) dX10_operation_28 rfl ?_
      refine r_goto (tgt := 33) dX10_operation_29 (by decide) ?_
      refine r_cVI (c := 63) (As := [.int (2 : Int32)]) dX10_operation_33 mkX10_throwsAs lkX10_147 lay_63 rfl rfl rfl (by decide) rfl (Nat.le_of_ble_eq_true rfl) z00 t ?_
      intro v11 h11 t
      refine r_if_eq (tgt := 41) dX10_operation_36 (by decide) (fun q12 => ?_) (fun q12 => ?_)
      · have t := t.1 q12
        refine r_iload_n (q := 2) dX10_operation_41 rfl rfl ?_
        refine r_iconst (v := (3 : Int32)) dX10_operation_42 rfl ?_
        refine r_icmp_ge (tgt := 53) dX10_operation_43 (by decide) (fun q13 => ?_) (fun q13 => ?_)
        · have t := t.1 q13
          refine r_iload_n (q := 2) dX10_operation_53 rfl rfl ?_
          refine r_iconst (v := (3 : Int32)) dX10_operation_54 rfl ?_
          refine r_icmp_ne (tgt := 64) dX10_operation_55 (by decide) (fun q14 => ?_) (fun q14 => ?_)
          · have t := t.1 q14
            refine r_iconst (v := (0 : Int32)) dX10_operation_64 rfl ?_
            refine r_istore_n (lv' := [(3, .int (0 : Int32)), (0, .ref (eA E 63)), (1, .int a1), (2, .int a2)]) dX10_operation_65 rfl (by decide) rfl ?_
            refine r_iconst (v := (0 : Int32)) dX10_operation_66 rfl ?_
            refine r_istore (lv' := [(4, .int (0 : Int32)), (3, .int (0 : Int32)), (0, .ref (eA E 63)), (1, .int a1), (2, .int a2)]) dX10_operation_67 (by decide) rfl ?_
            refine r_sub [2, 3, 4, 1, 0] rfl ?_
            exact t
          · have t := t.2 q14
            refine r_aload_n (q := 0) dX10_operation_58 rfl rfl ?_
            refine r_iload_n (q := 1) dX10_operation_59 rfl rfl ?_
            refine r_cVI (c := 63) (As := [.int a1]) dX10_operation_60 mkX10_reads lkX10_136 lay_63 rfl rfl rfl (by decide) rfl (Nat.le_of_ble_eq_true rfl) z00 t ?_
            intro v15 h15 t
            exact r_iret dX10_operation_63 rfl t
        · have t := t.2 q13
          refine r_aload_n (q := 0) dX10_operation_46 rfl rfl ?_
          refine r_iload_n (q := 1) dX10_operation_47 rfl rfl ?_
          refine r_iload_n (q := 2) dX10_operation_48 rfl rfl ?_
          refine r_cVI (c := 63) (As := [.int a1, .int a2]) dX10_operation_49 mkX10_of lkX10_132 lay_63 rfl rfl rfl (by decide) rfl (Nat.le_of_ble_eq_true rfl) z00 t ?_
          intro v16 h16 t
          exact r_iret dX10_operation_52 rfl t
      · have t := t.2 q12
        refine r_iconst (v := (0 : Int32)) dX10_operation_39 rfl ?_
        exact r_iret dX10_operation_40 rfl t
  · have t := t.2 q2
    refine r_iconst (v := (1 : Int32)) dX10_operation_15 rfl ?_
    refine r_goto (tgt := 33) dX10_operation_16 (by decide) ?_
    refine r_cVI (c := 63) (As := [.int (1 : Int32)]) dX10_operation_33 mkX10_throwsAs lkX10_147 lay_63 rfl rfl rfl (by decide) rfl (Nat.le_of_ble_eq_true rfl) z00 t ?_
    intro v17 h17 t
    refine r_if_eq (tgt := 41) dX10_operation_36 (by decide) (fun q18 => ?_) (fun q18 => ?_)
    · have t := t.1 q18
      refine r_iload_n (q := 2) dX10_operation_41 rfl rfl ?_
      refine r_iconst (v := (3 : Int32)) dX10_operation_42 rfl ?_
      refine r_icmp_ge (tgt := 53) dX10_operation_43 (by decide) (fun q19 => ?_) (fun q19 => ?_)
      · have t := t.1 q19
        refine r_iload_n (q := 2) dX10_operation_53 rfl rfl ?_
        refine r_iconst (v := (3 : Int32)) dX10_operation_54 rfl ?_
        refine r_icmp_ne (tgt := 64) dX10_operation_55 (by decide) (fun q20 => ?_) (fun q20 => ?_)
        · have t := t.1 q20
          refine r_iconst (v := (0 : Int32)) dX10_operation_64 rfl ?_
          refine r_istore_n (lv' := [(3, .int (0 : Int32)), (0, .ref (eA E 63)), (1, .int a1), (2, .int a2)]) dX10_operation_65 rfl (by decide) rfl ?_
          refine r_iconst (v := (0 : Int32)) dX10_operation_66 rfl ?_
          refine r_istore (lv' := [(4, .int (0 : Int32)), (3, .int (0 : Int32)), (0, .ref (eA E 63)), (1, .int a1), (2, .int a2)]) dX10_operation_67 (by decide) rfl ?_
          refine r_sub [2, 3, 4, 1, 0] rfl ?_
          exact t
        · have t := t.2 q20
          refine r_aload_n (q := 0) dX10_operation_58 rfl rfl ?_
          refine r_iload_n (q := 1) dX10_operation_59 rfl rfl ?_
          refine r_cVI (c := 63) (As := [.int a1]) dX10_operation_60 mkX10_reads lkX10_136 lay_63 rfl rfl rfl (by decide) rfl (Nat.le_of_ble_eq_true rfl) z00 t ?_
          intro v21 h21 t
          exact r_iret dX10_operation_63 rfl t
      · have t := t.2 q19
        refine r_aload_n (q := 0) dX10_operation_46 rfl rfl ?_
        refine r_iload_n (q := 1) dX10_operation_47 rfl rfl ?_
        refine r_iload_n (q := 2) dX10_operation_48 rfl rfl ?_
        refine r_cVI (c := 63) (As := [.int a1, .int a2]) dX10_operation_49 mkX10_of lkX10_132 lay_63 rfl rfl rfl (by decide) rfl (Nat.le_of_ble_eq_true rfl) z00 t ?_
        intro v22 h22 t
        exact r_iret dX10_operation_52 rfl t
    · have t := t.2 q18
      refine r_iconst (v := (0 : Int32)) dX10_operation_39 rfl ?_
      exact r_iret dX10_operation_40 rfl t
set_option maxRecDepth 20000 in
theorem sg_X10_operation_69 (E : En) (d : Nat) (g : Ga) (x1 : Int32) (x2 : Int32) (x3 : Int32) (x4 : Int32) (h : Hp) (P : Int32 → Hp → Prop) (t : ((h.1 63 2) ≤ x4 → (P x3 h)) ∧ (¬ (h.1 63 2) ≤ x4 → (VX10_operation_81 E d g P x1 x2 x3 x4 (0 : Int32) h))) : VX10_operation_69 E d g P x1 x2 x3 x4 h := by
  refine r_iload (q := 4) dX10_operation_69 rfl ?_
  refine r_aload_n (q := 0) dX10_operation_71 rfl rfl ?_
  refine r_getI (c := 63) dX10_operation_72 flX10_121 lay_63 rfl ?_
  refine r_icmp_ge (tgt := 125) dX10_operation_75 (by decide) (fun q1 => ?_) (fun q1 => ?_)
  · have t := t.1 q1
    refine r_iload_n (q := 3) dX10_operation_125 rfl rfl ?_
    exact r_iret dX10_operation_126 rfl t
  · have t := t.2 q1
    refine r_iconst (v := (0 : Int32)) dX10_operation_78 rfl ?_
    refine r_istore (lv' := [(5, .int (0 : Int32)), (0, .ref (eA E 63)), (1, .int x1), (2, .int x2), (3, .int x3), (4, .int x4)]) dX10_operation_79 (by decide) rfl ?_
    refine r_sub [1, 2, 3, 4, 5, 0] rfl ?_
    exact t
set_option maxRecDepth 20000 in
theorem sg_X10_operation_81 (E : En) (d : Nat) (g : Ga) (x1 : Int32) (x2 : Int32) (x3 : Int32) (x4 : Int32) (x5 : Int32) (h : Hp) (P : Int32 → Hp → Prop) (t : vp_in x4 8 ∧ (((h.1 66 x4.toNatClampNeg) ≤ x5 → (VX10_operation_69 E d g P x1 x2 x3 (x4 + (1 : Int32)) h)) ∧ (¬ (h.1 66 x4.toNatClampNeg) ≤ x5 → (SpI E d MX10_at [.ref (eA E 63), .int x4, .int x5] h (fun v3 h3 => (¬ v3 = x1 → (VX10_operation_81 E d g P x1 x2 (x3 + (0 : Int32)) x4 (x5 + (1 : Int32)) h3)) ∧ (v3 = x1 → (VX10_operation_81 E d g P x1 x2 (x3 + (1 : Int32)) x4 (x5 + (1 : Int32)) h3))))))) : VX10_operation_81 E d g P x1 x2 x3 x4 x5 h := by
  refine r_iload (q := 5) dX10_operation_81 rfl ?_
  refine r_aload_n (q := 0) dX10_operation_83 rfl rfl ?_
  refine r_getR (c := 63) (c2 := 66) dX10_operation_84 flX10_16 lay_63 rfl ?_
  refine r_iload (q := 4) dX10_operation_87 rfl ?_
  obtain ⟨c1, t⟩ := t
  refine r_iald (c := 66) dX10_operation_89 lay_66 c1 ?_
  refine r_icmp_ge (tgt := 119) dX10_operation_90 (by decide) (fun q2 => ?_) (fun q2 => ?_)
  · have t := t.1 q2
    refine r_iinc (k := 4) (v := x4 + (1 : Int32)) (lv' := [(4, .int (x4 + (1 : Int32))), (0, .ref (eA E 63)), (1, .int x1), (2, .int x2), (3, .int x3), (5, .int x5)]) dX10_operation_119 rfl rfl (by decide) rfl ?_
    refine r_goto (tgt := 69) dX10_operation_122 (by decide) ?_
    refine r_sub [1, 2, 3, 4, 0] rfl ?_
    exact t
  · have t := t.2 q2
    refine r_iload_n (q := 3) dX10_operation_93 rfl rfl ?_
    refine r_aload_n (q := 0) dX10_operation_94 rfl rfl ?_
    refine r_iload (q := 4) dX10_operation_95 rfl ?_
    refine r_iload (q := 5) dX10_operation_97 rfl ?_
    refine r_cVI (c := 63) (As := [.int x4, .int x5]) dX10_operation_99 mkX10_at lkX10_150 lay_63 rfl rfl rfl (by decide) rfl (Nat.le_of_ble_eq_true rfl) z00 t ?_
    intro v3 h3 t
    refine r_iload_n (q := 1) dX10_operation_102 rfl rfl ?_
    refine r_icmp_ne (tgt := 110) dX10_operation_103 (by decide) (fun q4 => ?_) (fun q4 => ?_)
    · have t := t.1 q4
      refine r_iconst (v := (0 : Int32)) dX10_operation_110 rfl ?_
      refine r_iadd dX10_operation_111 ?_
      refine r_istore_n (lv' := [(3, .int (x3 + (0 : Int32))), (0, .ref (eA E 63)), (1, .int x1), (2, .int x2), (4, .int x4), (5, .int x5)]) dX10_operation_112 rfl (by decide) rfl ?_
      refine r_iinc (k := 5) (v := x5 + (1 : Int32)) (lv' := [(5, .int (x5 + (1 : Int32))), (3, .int (x3 + (0 : Int32))), (0, .ref (eA E 63)), (1, .int x1), (2, .int x2), (4, .int x4)]) dX10_operation_113 rfl rfl (by decide) rfl ?_
      refine r_goto (tgt := 81) dX10_operation_116 (by decide) ?_
      refine r_sub [2, 3, 4, 1, 5, 0] rfl ?_
      exact t
    · have t := t.2 q4
      refine r_iconst (v := (1 : Int32)) dX10_operation_106 rfl ?_
      refine r_goto (tgt := 111) dX10_operation_107 (by decide) ?_
      refine r_iadd dX10_operation_111 ?_
      refine r_istore_n (lv' := [(3, .int (x3 + (1 : Int32))), (0, .ref (eA E 63)), (1, .int x1), (2, .int x2), (4, .int x4), (5, .int x5)]) dX10_operation_112 rfl (by decide) rfl ?_
      refine r_iinc (k := 5) (v := x5 + (1 : Int32)) (lv' := [(5, .int (x5 + (1 : Int32))), (3, .int (x3 + (1 : Int32))), (0, .ref (eA E 63)), (1, .int x1), (2, .int x2), (4, .int x4)]) dX10_operation_113 rfl rfl (by decide) rfl ?_
      refine r_goto (tgt := 81) dX10_operation_116 (by decide) ?_
      refine r_sub [2, 3, 4, 1, 5, 0] rfl ?_
      exact t
theorem dX10_length_0 : decode cX10_length 0 = .ok (.aload_n 0, 1) := by decide +kernel
theorem dX10_length_1 : decode cX10_length 1 = .ok (.aload_n 0, 1) := by decide +kernel
theorem dX10_length_2 : decode cX10_length 2 = .ok (.iload_n 1, 1) := by decide +kernel
theorem dX10_length_3 : decode cX10_length 3 = .ok (.invokevirtual 128, 3) := by decide +kernel
theorem dX10_length_6 : decode cX10_length 6 = .ok (.ifCond .eq 7, 3) := by decide +kernel
theorem dX10_length_9 : decode cX10_length 9 = .ok (.iconst 0, 1) := by decide +kernel
theorem dX10_length_10 : decode cX10_length 10 = .ok (.goto 4, 3) := by decide +kernel
theorem dX10_length_13 : decode cX10_length 13 = .ok (.iconst 1, 1) := by decide +kernel
theorem dX10_length_14 : decode cX10_length 14 = .ok (.invokevirtual 147, 3) := by decide +kernel
theorem dX10_length_17 : decode cX10_length 17 = .ok (.ifCond .eq 7, 3) := by decide +kernel
theorem dX10_length_20 : decode cX10_length 20 = .ok (.iconst 0, 1) := by decide +kernel
theorem dX10_length_21 : decode cX10_length 21 = .ok (.goto 9, 3) := by decide +kernel
theorem dX10_length_24 : decode cX10_length 24 = .ok (.aload_n 0, 1) := by decide +kernel
theorem dX10_length_25 : decode cX10_length 25 = .ok (.getfield 16, 3) := by decide +kernel
theorem dX10_length_28 : decode cX10_length 28 = .ok (.iload_n 1, 1) := by decide +kernel
theorem dX10_length_29 : decode cX10_length 29 = .ok (.iaload, 1) := by decide +kernel
theorem dX10_length_30 : decode cX10_length 30 = .ok (.ireturn, 1) := by decide +kernel
set_option maxRecDepth 20000 in
theorem wp_X10_length (E : En) (d : Nat) (a1 : Int32) (h : Hp) (P : Int32 → Hp → Prop) (t : SpI E d MX10_isInstruction [.ref (eA E 63), .int a1] h (fun v1 h1 => (v1 = 0 → (SpI E d MX10_throwsAs [.ref (eA E 63), .int (1 : Int32)] h1 (fun v3 h3 => (v3 = 0 → (vp_in a1 8 ∧ (P (h3.1 66 a1.toNatClampNeg) h3))) ∧ (¬ v3 = 0 → (P (0 : Int32) h3))))) ∧ (¬ v1 = 0 → (SpI E d MX10_throwsAs [.ref (eA E 63), .int (0 : Int32)] h1 (fun v6 h6 => (v6 = 0 → (vp_in a1 8 ∧ (P (h6.1 66 a1.toNatClampNeg) h6))) ∧ (¬ v6 = 0 → (P (0 : Int32) h6))))))) : SpI E (d + 1) MX10_length [.ref (eA E 63), .int a1] h P := by
  refine SpI.of (lv0 := [(0, .ref (eA E 63)), (1, .int a1)]) (by decide) (Nat.le_of_ble_eq_true rfl) rfl (fun g => ?_)
  refine r_aload_n (q := 0) dX10_length_0 rfl rfl ?_
  refine r_aload_n (q := 0) dX10_length_1 rfl rfl ?_
  refine r_iload_n (q := 1) dX10_length_2 rfl rfl ?_
  refine r_cVI (c := 63) (As := [.int a1]) dX10_length_3 mkX10_isInstruction lkX10_128 lay_63 rfl rfl rfl (by decide) rfl (Nat.le_of_ble_eq_true rfl) z00 t ?_
  intro v1 h1 t
  refine r_if_eq (tgt := 13) dX10_length_6 (by decide) (fun q2 => ?_) (fun q2 => ?_)
  · have t := t.1 q2
    refine r_iconst (v := (1 : Int32)) dX10_length_13 rfl ?_
    refine r_cVI (c := 63) (As := [.int (1 : Int32)]) dX10_length_14 mkX10_throwsAs lkX10_147 lay_63 rfl rfl rfl (by decide) rfl (Nat.le_of_ble_eq_true rfl) z00 t ?_
    intro v3 h3 t
    refine r_if_eq (tgt := 24) dX10_length_17 (by decide) (fun q4 => ?_) (fun q4 => ?_)
    · have t := t.1 q4
      refine r_aload_n (q := 0) dX10_length_24 rfl rfl ?_
      refine r_getR (c := 63) (c2 := 66) dX10_length_25 flX10_16 lay_63 rfl ?_
      refine r_iload_n (q := 1) dX10_length_28 rfl rfl ?_
      obtain ⟨c5, t⟩ := t
      refine r_iald (c := 66) dX10_length_29 lay_66 c5 ?_
      exact r_iret dX10_length_30 rfl t
    · have t := t.2 q4
      refine r_iconst (v := (0 : Int32)) dX10_length_20 rfl ?_
      refine r_goto (tgt := 30) dX10_length_21 (by decide) ?_
      exact r_iret dX10_length_30 rfl t
  · have t := t.2 q2
    refine r_iconst (v := (0 : Int32)) dX10_length_9 rfl ?_
    refine r_goto (tgt := 14) dX10_length_10 (by decide) ?_
    refine r_cVI (c := 63) (As := [.int (0 : Int32)]) dX10_length_14 mkX10_throwsAs lkX10_147 lay_63 rfl rfl rfl (by decide) rfl (Nat.le_of_ble_eq_true rfl) z00 t ?_
    intro v6 h6 t
    refine r_if_eq (tgt := 24) dX10_length_17 (by decide) (fun q7 => ?_) (fun q7 => ?_)
    · have t := t.1 q7
      refine r_aload_n (q := 0) dX10_length_24 rfl rfl ?_
      refine r_getR (c := 63) (c2 := 66) dX10_length_25 flX10_16 lay_63 rfl ?_
      refine r_iload_n (q := 1) dX10_length_28 rfl rfl ?_
      obtain ⟨c8, t⟩ := t
      refine r_iald (c := 66) dX10_length_29 lay_66 c8 ?_
      exact r_iret dX10_length_30 rfl t
    · have t := t.2 q7
      refine r_iconst (v := (0 : Int32)) dX10_length_20 rfl ?_
      refine r_goto (tgt := 30) dX10_length_21 (by decide) ?_
      exact r_iret dX10_length_30 rfl t
theorem dX10_operationAt_0 : decode cX10_operationAt 0 = .ok (.aload_n 0, 1) := by decide +kernel
theorem dX10_operationAt_1 : decode cX10_operationAt 1 = .ok (.aload_n 0, 1) := by decide +kernel
theorem dX10_operationAt_2 : decode cX10_operationAt 2 = .ok (.iload_n 1, 1) := by decide +kernel
theorem dX10_operationAt_3 : decode cX10_operationAt 3 = .ok (.iload_n 2, 1) := by decide +kernel
theorem dX10_operationAt_4 : decode cX10_operationAt 4 = .ok (.invokevirtual 153, 3) := by decide +kernel
theorem dX10_operationAt_7 : decode cX10_operationAt 7 = .ok (.ifCond .eq 7, 3) := by decide +kernel
theorem dX10_operationAt_10 : decode cX10_operationAt 10 = .ok (.iconst 0, 1) := by decide +kernel
theorem dX10_operationAt_11 : decode cX10_operationAt 11 = .ok (.goto 4, 3) := by decide +kernel
theorem dX10_operationAt_14 : decode cX10_operationAt 14 = .ok (.iconst 1, 1) := by decide +kernel
theorem dX10_operationAt_15 : decode cX10_operationAt 15 = .ok (.invokevirtual 147, 3) := by decide +kernel
theorem dX10_operationAt_18 : decode cX10_operationAt 18 = .ok (.ifCond .eq 7, 3) := by decide +kernel
theorem dX10_operationAt_21 : decode cX10_operationAt 21 = .ok (.iconst 0, 1) := by decide +kernel
theorem dX10_operationAt_22 : decode cX10_operationAt 22 = .ok (.goto 9, 3) := by decide +kernel
theorem dX10_operationAt_25 : decode cX10_operationAt 25 = .ok (.aload_n 0, 1) := by decide +kernel
theorem dX10_operationAt_26 : decode cX10_operationAt 26 = .ok (.iload_n 1, 1) := by decide +kernel
theorem dX10_operationAt_27 : decode cX10_operationAt 27 = .ok (.iload_n 2, 1) := by decide +kernel
theorem dX10_operationAt_28 : decode cX10_operationAt 28 = .ok (.invokevirtual 150, 3) := by decide +kernel
theorem dX10_operationAt_31 : decode cX10_operationAt 31 = .ok (.ireturn, 1) := by decide +kernel
set_option maxRecDepth 20000 in
theorem wp_X10_operationAt (E : En) (d : Nat) (a1 : Int32) (a2 : Int32) (h : Hp) (P : Int32 → Hp → Prop) (t : SpI E d MX10_isAt [.ref (eA E 63), .int a1, .int a2] h (fun v1 h1 => (v1 = 0 → (SpI E d MX10_throwsAs [.ref (eA E 63), .int (1 : Int32)] h1 (fun v3 h3 => (v3 = 0 → (SpI E d MX10_at [.ref (eA E 63), .int a1, .int a2] h3 (fun v5 h5 => P v5 h5))) ∧ (¬ v3 = 0 → (P (0 : Int32) h3))))) ∧ (¬ v1 = 0 → (SpI E d MX10_throwsAs [.ref (eA E 63), .int (0 : Int32)] h1 (fun v6 h6 => (v6 = 0 → (SpI E d MX10_at [.ref (eA E 63), .int a1, .int a2] h6 (fun v8 h8 => P v8 h8))) ∧ (¬ v6 = 0 → (P (0 : Int32) h6))))))) : SpI E (d + 1) MX10_operationAt [.ref (eA E 63), .int a1, .int a2] h P := by
  refine SpI.of (lv0 := [(0, .ref (eA E 63)), (1, .int a1), (2, .int a2)]) (by decide) (Nat.le_of_ble_eq_true rfl) rfl (fun g => ?_)
  refine r_aload_n (q := 0) dX10_operationAt_0 rfl rfl ?_
  refine r_aload_n (q := 0) dX10_operationAt_1 rfl rfl ?_
  refine r_iload_n (q := 1) dX10_operationAt_2 rfl rfl ?_
  refine r_iload_n (q := 2) dX10_operationAt_3 rfl rfl ?_
  refine r_cVI (c := 63) (As := [.int a1, .int a2]) dX10_operationAt_4 mkX10_isAt lkX10_153 lay_63 rfl rfl rfl (by decide) rfl (Nat.le_of_ble_eq_true rfl) z00 t ?_
  intro v1 h1 t
  refine r_if_eq (tgt := 14) dX10_operationAt_7 (by decide) (fun q2 => ?_) (fun q2 => ?_)
  · have t := t.1 q2
    refine r_iconst (v := (1 : Int32)) dX10_operationAt_14 rfl ?_
    refine r_cVI (c := 63) (As := [.int (1 : Int32)]) dX10_operationAt_15 mkX10_throwsAs lkX10_147 lay_63 rfl rfl rfl (by decide) rfl (Nat.le_of_ble_eq_true rfl) z00 t ?_
    intro v3 h3 t
    refine r_if_eq (tgt := 25) dX10_operationAt_18 (by decide) (fun q4 => ?_) (fun q4 => ?_)
    · have t := t.1 q4
      refine r_aload_n (q := 0) dX10_operationAt_25 rfl rfl ?_
      refine r_iload_n (q := 1) dX10_operationAt_26 rfl rfl ?_
      refine r_iload_n (q := 2) dX10_operationAt_27 rfl rfl ?_
      refine r_cVI (c := 63) (As := [.int a1, .int a2]) dX10_operationAt_28 mkX10_at lkX10_150 lay_63 rfl rfl rfl (by decide) rfl (Nat.le_of_ble_eq_true rfl) z00 t ?_
      intro v5 h5 t
      exact r_iret dX10_operationAt_31 rfl t
    · have t := t.2 q4
      refine r_iconst (v := (0 : Int32)) dX10_operationAt_21 rfl ?_
      refine r_goto (tgt := 31) dX10_operationAt_22 (by decide) ?_
      exact r_iret dX10_operationAt_31 rfl t
  · have t := t.2 q2
    refine r_iconst (v := (0 : Int32)) dX10_operationAt_10 rfl ?_
    refine r_goto (tgt := 15) dX10_operationAt_11 (by decide) ?_
    refine r_cVI (c := 63) (As := [.int (0 : Int32)]) dX10_operationAt_15 mkX10_throwsAs lkX10_147 lay_63 rfl rfl rfl (by decide) rfl (Nat.le_of_ble_eq_true rfl) z00 t ?_
    intro v6 h6 t
    refine r_if_eq (tgt := 25) dX10_operationAt_18 (by decide) (fun q7 => ?_) (fun q7 => ?_)
    · have t := t.1 q7
      refine r_aload_n (q := 0) dX10_operationAt_25 rfl rfl ?_
      refine r_iload_n (q := 1) dX10_operationAt_26 rfl rfl ?_
      refine r_iload_n (q := 2) dX10_operationAt_27 rfl rfl ?_
      refine r_cVI (c := 63) (As := [.int a1, .int a2]) dX10_operationAt_28 mkX10_at lkX10_150 lay_63 rfl rfl rfl (by decide) rfl (Nat.le_of_ble_eq_true rfl) z00 t ?_
      intro v8 h8 t
      exact r_iret dX10_operationAt_31 rfl t
    · have t := t.2 q7
      refine r_iconst (v := (0 : Int32)) dX10_operationAt_21 rfl ?_
      refine r_goto (tgt := 31) dX10_operationAt_22 (by decide) ?_
      exact r_iret dX10_operationAt_31 rfl t
theorem dX10_hasMark_0 : decode cX10_hasMark 0 = .ok (.aload_n 0, 1) := by decide +kernel
theorem dX10_hasMark_1 : decode cX10_hasMark 1 = .ok (.aload_n 0, 1) := by decide +kernel
theorem dX10_hasMark_2 : decode cX10_hasMark 2 = .ok (.iload_n 1, 1) := by decide +kernel
theorem dX10_hasMark_3 : decode cX10_hasMark 3 = .ok (.iload_n 2, 1) := by decide +kernel
theorem dX10_hasMark_4 : decode cX10_hasMark 4 = .ok (.invokevirtual 153, 3) := by decide +kernel
theorem dX10_hasMark_7 : decode cX10_hasMark 7 = .ok (.ifCond .eq 7, 3) := by decide +kernel
theorem dX10_hasMark_10 : decode cX10_hasMark 10 = .ok (.iconst 0, 1) := by decide +kernel
theorem dX10_hasMark_11 : decode cX10_hasMark 11 = .ok (.goto 4, 3) := by decide +kernel
theorem dX10_hasMark_14 : decode cX10_hasMark 14 = .ok (.iconst 1, 1) := by decide +kernel
theorem dX10_hasMark_15 : decode cX10_hasMark 15 = .ok (.invokevirtual 147, 3) := by decide +kernel
theorem dX10_hasMark_18 : decode cX10_hasMark 18 = .ok (.ifCond .ne 16, 3) := by decide +kernel
theorem dX10_hasMark_21 : decode cX10_hasMark 21 = .ok (.aload_n 0, 1) := by decide +kernel
theorem dX10_hasMark_22 : decode cX10_hasMark 22 = .ok (.iload_n 1, 1) := by decide +kernel
theorem dX10_hasMark_23 : decode cX10_hasMark 23 = .ok (.iload_n 2, 1) := by decide +kernel
theorem dX10_hasMark_24 : decode cX10_hasMark 24 = .ok (.invokevirtual 156, 3) := by decide +kernel
theorem dX10_hasMark_27 : decode cX10_hasMark 27 = .ok (.ifCond .eq 7, 3) := by decide +kernel
theorem dX10_hasMark_30 : decode cX10_hasMark 30 = .ok (.iconst 1, 1) := by decide +kernel
theorem dX10_hasMark_31 : decode cX10_hasMark 31 = .ok (.goto 4, 3) := by decide +kernel
theorem dX10_hasMark_34 : decode cX10_hasMark 34 = .ok (.iconst 0, 1) := by decide +kernel
theorem dX10_hasMark_35 : decode cX10_hasMark 35 = .ok (.ireturn, 1) := by decide +kernel
set_option maxRecDepth 20000 in
theorem wp_X10_hasMark (E : En) (d : Nat) (a1 : Int32) (a2 : Int32) (h : Hp) (P : Int32 → Hp → Prop) (t : SpI E d MX10_isAt [.ref (eA E 63), .int a1, .int a2] h (fun v1 h1 => (v1 = 0 → (SpI E d MX10_throwsAs [.ref (eA E 63), .int (1 : Int32)] h1 (fun v3 h3 => (¬ v3 = 0 → (P (0 : Int32) h3)) ∧ (v3 = 0 → (SpI E d MX10_isMarked [.ref (eA E 63), .int a1, .int a2] h3 (fun v5 h5 => (v5 = 0 → (P (0 : Int32) h5)) ∧ (¬ v5 = 0 → (P (1 : Int32) h5)))))))) ∧ (¬ v1 = 0 → (SpI E d MX10_throwsAs [.ref (eA E 63), .int (0 : Int32)] h1 (fun v7 h7 => (¬ v7 = 0 → (P (0 : Int32) h7)) ∧ (v7 = 0 → (SpI E d MX10_isMarked [.ref (eA E 63), .int a1, .int a2] h7 (fun v9 h9 => (v9 = 0 → (P (0 : Int32) h9)) ∧ (¬ v9 = 0 → (P (1 : Int32) h9)))))))))) : SpI E (d + 1) MX10_hasMark [.ref (eA E 63), .int a1, .int a2] h P := by
  refine SpI.of (lv0 := [(0, .ref (eA E 63)), (1, .int a1), (2, .int a2)]) (by decide) (Nat.le_of_ble_eq_true rfl) rfl (fun g => ?_)
  refine r_aload_n (q := 0) dX10_hasMark_0 rfl rfl ?_
  refine r_aload_n (q := 0) dX10_hasMark_1 rfl rfl ?_
  refine r_iload_n (q := 1) dX10_hasMark_2 rfl rfl ?_
  refine r_iload_n (q := 2) dX10_hasMark_3 rfl rfl ?_
  refine r_cVI (c := 63) (As := [.int a1, .int a2]) dX10_hasMark_4 mkX10_isAt lkX10_153 lay_63 rfl rfl rfl (by decide) rfl (Nat.le_of_ble_eq_true rfl) z00 t ?_
  intro v1 h1 t
  refine r_if_eq (tgt := 14) dX10_hasMark_7 (by decide) (fun q2 => ?_) (fun q2 => ?_)
  · have t := t.1 q2
    refine r_iconst (v := (1 : Int32)) dX10_hasMark_14 rfl ?_
    refine r_cVI (c := 63) (As := [.int (1 : Int32)]) dX10_hasMark_15 mkX10_throwsAs lkX10_147 lay_63 rfl rfl rfl (by decide) rfl (Nat.le_of_ble_eq_true rfl) z00 t ?_
    intro v3 h3 t
    refine r_if_ne (tgt := 34) dX10_hasMark_18 (by decide) (fun q4 => ?_) (fun q4 => ?_)
    · have t := t.1 q4
      refine r_iconst (v := (0 : Int32)) dX10_hasMark_34 rfl ?_
      exact r_zret dX10_hasMark_35 rfl (Or.inl rfl) t
    · have t := t.2 q4
      refine r_aload_n (q := 0) dX10_hasMark_21 rfl rfl ?_
      refine r_iload_n (q := 1) dX10_hasMark_22 rfl rfl ?_
      refine r_iload_n (q := 2) dX10_hasMark_23 rfl rfl ?_
      refine r_cVI (c := 63) (As := [.int a1, .int a2]) dX10_hasMark_24 mkX10_isMarked lkX10_156 lay_63 rfl rfl rfl (by decide) rfl (Nat.le_of_ble_eq_true rfl) z00 t ?_
      intro v5 h5 t
      refine r_if_eq (tgt := 34) dX10_hasMark_27 (by decide) (fun q6 => ?_) (fun q6 => ?_)
      · have t := t.1 q6
        refine r_iconst (v := (0 : Int32)) dX10_hasMark_34 rfl ?_
        exact r_zret dX10_hasMark_35 rfl (Or.inl rfl) t
      · have t := t.2 q6
        refine r_iconst (v := (1 : Int32)) dX10_hasMark_30 rfl ?_
        refine r_goto (tgt := 35) dX10_hasMark_31 (by decide) ?_
        exact r_zret dX10_hasMark_35 rfl (Or.inr rfl) t
  · have t := t.2 q2
    refine r_iconst (v := (0 : Int32)) dX10_hasMark_10 rfl ?_
    refine r_goto (tgt := 15) dX10_hasMark_11 (by decide) ?_
    refine r_cVI (c := 63) (As := [.int (0 : Int32)]) dX10_hasMark_15 mkX10_throwsAs lkX10_147 lay_63 rfl rfl rfl (by decide) rfl (Nat.le_of_ble_eq_true rfl) z00 t ?_
    intro v7 h7 t
    refine r_if_ne (tgt := 34) dX10_hasMark_18 (by decide) (fun q8 => ?_) (fun q8 => ?_)
    · have t := t.1 q8
      refine r_iconst (v := (0 : Int32)) dX10_hasMark_34 rfl ?_
      exact r_zret dX10_hasMark_35 rfl (Or.inl rfl) t
    · have t := t.2 q8
      refine r_aload_n (q := 0) dX10_hasMark_21 rfl rfl ?_
      refine r_iload_n (q := 1) dX10_hasMark_22 rfl rfl ?_
      refine r_iload_n (q := 2) dX10_hasMark_23 rfl rfl ?_
      refine r_cVI (c := 63) (As := [.int a1, .int a2]) dX10_hasMark_24 mkX10_isMarked lkX10_156 lay_63 rfl rfl rfl (by decide) rfl (Nat.le_of_ble_eq_true rfl) z00 t ?_
      intro v9 h9 t
      refine r_if_eq (tgt := 34) dX10_hasMark_27 (by decide) (fun q10 => ?_) (fun q10 => ?_)
      · have t := t.1 q10
        refine r_iconst (v := (0 : Int32)) dX10_hasMark_34 rfl ?_
        exact r_zret dX10_hasMark_35 rfl (Or.inl rfl) t
      · have t := t.2 q10
        refine r_iconst (v := (1 : Int32)) dX10_hasMark_30 rfl ?_
        refine r_goto (tgt := 35) dX10_hasMark_31 (by decide) ?_
        exact r_zret dX10_hasMark_35 rfl (Or.inr rfl) t
theorem dX10_dependence_0 : decode cX10_dependence 0 = .ok (.aload_n 0, 1) := by decide +kernel
theorem dX10_dependence_1 : decode cX10_dependence 1 = .ok (.aload_n 0, 1) := by decide +kernel
theorem dX10_dependence_2 : decode cX10_dependence 2 = .ok (.iload_n 1, 1) := by decide +kernel
theorem dX10_dependence_3 : decode cX10_dependence 3 = .ok (.iload_n 2, 1) := by decide +kernel
theorem dX10_dependence_4 : decode cX10_dependence 4 = .ok (.invokevirtual 153, 3) := by decide +kernel
theorem dX10_dependence_7 : decode cX10_dependence 7 = .ok (.ifCond .eq 16, 3) := by decide +kernel
theorem dX10_dependence_10 : decode cX10_dependence 10 = .ok (.aload_n 0, 1) := by decide +kernel
theorem dX10_dependence_11 : decode cX10_dependence 11 = .ok (.iload_n 1, 1) := by decide +kernel
theorem dX10_dependence_12 : decode cX10_dependence 12 = .ok (.iload_n 3, 1) := by decide +kernel
theorem dX10_dependence_13 : decode cX10_dependence 13 = .ok (.invokevirtual 153, 3) := by decide +kernel
theorem dX10_dependence_16 : decode cX10_dependence 16 = .ok (.ifCond .eq 7, 3) := by decide +kernel
theorem dX10_dependence_19 : decode cX10_dependence 19 = .ok (.iconst 0, 1) := by decide +kernel
theorem dX10_dependence_20 : decode cX10_dependence 20 = .ok (.goto 4, 3) := by decide +kernel
theorem dX10_dependence_23 : decode cX10_dependence 23 = .ok (.iconst 1, 1) := by decide +kernel
theorem dX10_dependence_24 : decode cX10_dependence 24 = .ok (.invokevirtual 147, 3) := by decide +kernel
theorem dX10_dependence_27 : decode cX10_dependence 27 = .ok (.ifCond .eq 5, 3) := by decide +kernel
theorem dX10_dependence_30 : decode cX10_dependence 30 = .ok (.iconst 0, 1) := by decide +kernel
theorem dX10_dependence_31 : decode cX10_dependence 31 = .ok (.ireturn, 1) := by decide +kernel
theorem dX10_dependence_32 : decode cX10_dependence 32 = .ok (.iload_n 2, 1) := by decide +kernel
theorem dX10_dependence_33 : decode cX10_dependence 33 = .ok (.iload_n 3, 1) := by decide +kernel
theorem dX10_dependence_34 : decode cX10_dependence 34 = .ok (.if_icmp .lt 5, 3) := by decide +kernel
theorem dX10_dependence_37 : decode cX10_dependence 37 = .ok (.iconst 0, 1) := by decide +kernel
theorem dX10_dependence_38 : decode cX10_dependence 38 = .ok (.ireturn, 1) := by decide +kernel
theorem dX10_dependence_39 : decode cX10_dependence 39 = .ok (.iload_n 2, 1) := by decide +kernel
theorem dX10_dependence_40 : decode cX10_dependence 40 = .ok (.istore 4, 2) := by decide +kernel
theorem dX10_dependence_42 : decode cX10_dependence 42 = .ok (.iload 4, 2) := by decide +kernel
theorem dX10_dependence_44 : decode cX10_dependence 44 = .ok (.iload_n 3, 1) := by decide +kernel
theorem dX10_dependence_45 : decode cX10_dependence 45 = .ok (.if_icmp .ge 21, 3) := by decide +kernel
theorem dX10_dependence_48 : decode cX10_dependence 48 = .ok (.aload_n 0, 1) := by decide +kernel
theorem dX10_dependence_49 : decode cX10_dependence 49 = .ok (.iload_n 1, 1) := by decide +kernel
theorem dX10_dependence_50 : decode cX10_dependence 50 = .ok (.iload 4, 2) := by decide +kernel
theorem dX10_dependence_52 : decode cX10_dependence 52 = .ok (.invokevirtual 156, 3) := by decide +kernel
theorem dX10_dependence_55 : decode cX10_dependence 55 = .ok (.ifCond .eq 5, 3) := by decide +kernel
theorem dX10_dependence_58 : decode cX10_dependence 58 = .ok (.iconst 3, 1) := by decide +kernel
theorem dX10_dependence_59 : decode cX10_dependence 59 = .ok (.ireturn, 1) := by decide +kernel
theorem dX10_dependence_60 : decode cX10_dependence 60 = .ok (.iinc 4 1, 3) := by decide +kernel
theorem dX10_dependence_63 : decode cX10_dependence 63 = .ok (.goto (-21), 3) := by decide +kernel
theorem dX10_dependence_66 : decode cX10_dependence 66 = .ok (.aload_n 0, 1) := by decide +kernel
theorem dX10_dependence_67 : decode cX10_dependence 67 = .ok (.aload_n 0, 1) := by decide +kernel
theorem dX10_dependence_68 : decode cX10_dependence 68 = .ok (.iload_n 1, 1) := by decide +kernel
theorem dX10_dependence_69 : decode cX10_dependence 69 = .ok (.iload_n 2, 1) := by decide +kernel
theorem dX10_dependence_70 : decode cX10_dependence 70 = .ok (.invokevirtual 150, 3) := by decide +kernel
theorem dX10_dependence_73 : decode cX10_dependence 73 = .ok (.aload_n 0, 1) := by decide +kernel
theorem dX10_dependence_74 : decode cX10_dependence 74 = .ok (.iload_n 1, 1) := by decide +kernel
theorem dX10_dependence_75 : decode cX10_dependence 75 = .ok (.iload_n 3, 1) := by decide +kernel
theorem dX10_dependence_76 : decode cX10_dependence 76 = .ok (.invokevirtual 150, 3) := by decide +kernel
theorem dX10_dependence_79 : decode cX10_dependence 79 = .ok (.invokevirtual 140, 3) := by decide +kernel
theorem dX10_dependence_82 : decode cX10_dependence 82 = .ok (.ifCond .eq 7, 3) := by decide +kernel
theorem dX10_dependence_85 : decode cX10_dependence 85 = .ok (.iconst 2, 1) := by decide +kernel
theorem dX10_dependence_86 : decode cX10_dependence 86 = .ok (.goto 27, 3) := by decide +kernel
theorem dX10_dependence_89 : decode cX10_dependence 89 = .ok (.aload_n 0, 1) := by decide +kernel
theorem dX10_dependence_90 : decode cX10_dependence 90 = .ok (.aload_n 0, 1) := by decide +kernel
theorem dX10_dependence_91 : decode cX10_dependence 91 = .ok (.iload_n 1, 1) := by decide +kernel
theorem dX10_dependence_92 : decode cX10_dependence 92 = .ok (.iload_n 2, 1) := by decide +kernel
theorem dX10_dependence_93 : decode cX10_dependence 93 = .ok (.invokevirtual 150, 3) := by decide +kernel
theorem dX10_dependence_96 : decode cX10_dependence 96 = .ok (.aload_n 0, 1) := by decide +kernel
theorem dX10_dependence_97 : decode cX10_dependence 97 = .ok (.iload_n 1, 1) := by decide +kernel
theorem dX10_dependence_98 : decode cX10_dependence 98 = .ok (.iload_n 3, 1) := by decide +kernel
theorem dX10_dependence_99 : decode cX10_dependence 99 = .ok (.invokevirtual 150, 3) := by decide +kernel
theorem dX10_dependence_102 : decode cX10_dependence 102 = .ok (.invokevirtual 159, 3) := by decide +kernel
theorem dX10_dependence_105 : decode cX10_dependence 105 = .ok (.ifCond .eq 7, 3) := by decide +kernel
theorem dX10_dependence_108 : decode cX10_dependence 108 = .ok (.iconst 1, 1) := by decide +kernel
theorem dX10_dependence_109 : decode cX10_dependence 109 = .ok (.goto 4, 3) := by decide +kernel
theorem dX10_dependence_112 : decode cX10_dependence 112 = .ok (.iconst 0, 1) := by decide +kernel
theorem dX10_dependence_113 : decode cX10_dependence 113 = .ok (.ireturn, 1) := by decide +kernel
abbrev VX10_dependence_42 (E : En) (d : Nat) (g : Ga) (P : Int32 → Hp → Prop) (x1 : Int32) (x2 : Int32) (x3 : Int32) (x4 : Int32) (h : Hp) : Prop := V E MX10_dependence (RM (d + 1) 0) g (QQ E g (QI E P) 0 0) 0 0 h 42 [(0, .ref (eA E 63)), (1, .int x1), (2, .int x2), (3, .int x3), (4, .int x4)] []
set_option maxRecDepth 20000 in
theorem wp_X10_dependence (E : En) (d : Nat) (a1 : Int32) (a2 : Int32) (a3 : Int32) (h : Hp) (P : Int32 → Hp → Prop) (t : ∀ g : Ga, SpI E d MX10_isAt [.ref (eA E 63), .int a1, .int a2] h (fun v1 h1 => (v1 = 0 → (SpI E d MX10_throwsAs [.ref (eA E 63), .int (1 : Int32)] h1 (fun v3 h3 => (v3 = 0 → ((a2 < a3 → (VX10_dependence_42 E d g P a1 a2 a3 a2 h3)) ∧ (¬ a2 < a3 → (P (0 : Int32) h3)))) ∧ (¬ v3 = 0 → (P (0 : Int32) h3))))) ∧ (¬ v1 = 0 → (SpI E d MX10_isAt [.ref (eA E 63), .int a1, .int a3] h1 (fun v6 h6 => (v6 = 0 → (SpI E d MX10_throwsAs [.ref (eA E 63), .int (1 : Int32)] h6 (fun v8 h8 => (v8 = 0 → ((a2 < a3 → (VX10_dependence_42 E d g P a1 a2 a3 a2 h8)) ∧ (¬ a2 < a3 → (P (0 : Int32) h8)))) ∧ (¬ v8 = 0 → (P (0 : Int32) h8))))) ∧ (¬ v6 = 0 → (SpI E d MX10_throwsAs [.ref (eA E 63), .int (0 : Int32)] h6 (fun v11 h11 => (v11 = 0 → ((a2 < a3 → (VX10_dependence_42 E d g P a1 a2 a3 a2 h11)) ∧ (¬ a2 < a3 → (P (0 : Int32) h11)))) ∧ (¬ v11 = 0 → (P (0 : Int32) h11)))))))))) : SpI E (d + 1) MX10_dependence [.ref (eA E 63), .int a1, .int a2, .int a3] h P := by
  refine SpI.of (lv0 := [(0, .ref (eA E 63)), (1, .int a1), (2, .int a2), (3, .int a3)]) (by decide) (Nat.le_of_ble_eq_true rfl) rfl (fun g => ?_)
  have t := t g
  refine r_aload_n (q := 0) dX10_dependence_0 rfl rfl ?_
  refine r_aload_n (q := 0) dX10_dependence_1 rfl rfl ?_
  refine r_iload_n (q := 1) dX10_dependence_2 rfl rfl ?_
  refine r_iload_n (q := 2) dX10_dependence_3 rfl rfl ?_
  refine r_cVI (c := 63) (As := [.int a1, .int a2]) dX10_dependence_4 mkX10_isAt lkX10_153 lay_63 rfl rfl rfl (by decide) rfl (Nat.le_of_ble_eq_true rfl) z00 t ?_
  intro v1 h1 t
  refine r_if_eq (tgt := 23) dX10_dependence_7 (by decide) (fun q2 => ?_) (fun q2 => ?_)
  · have t := t.1 q2
    refine r_iconst (v := (1 : Int32)) dX10_dependence_23 rfl ?_
    refine r_cVI (c := 63) (As := [.int (1 : Int32)]) dX10_dependence_24 mkX10_throwsAs lkX10_147 lay_63 rfl rfl rfl (by decide) rfl (Nat.le_of_ble_eq_true rfl) z00 t ?_
    intro v3 h3 t
    refine r_if_eq (tgt := 32) dX10_dependence_27 (by decide) (fun q4 => ?_) (fun q4 => ?_)
    · have t := t.1 q4
      refine r_iload_n (q := 2) dX10_dependence_32 rfl rfl ?_
      refine r_iload_n (q := 3) dX10_dependence_33 rfl rfl ?_
      refine r_icmp_lt (tgt := 39) dX10_dependence_34 (by decide) (fun q5 => ?_) (fun q5 => ?_)
      · have t := t.1 q5
        refine r_iload_n (q := 2) dX10_dependence_39 rfl rfl ?_
        refine r_istore (lv' := [(4, .int a2), (0, .ref (eA E 63)), (1, .int a1), (2, .int a2), (3, .int a3)]) dX10_dependence_40 (by decide) rfl ?_
        refine r_sub [1, 2, 3, 4, 0] rfl ?_
        exact t
      · have t := t.2 q5
        refine r_iconst (v := (0 : Int32)) dX10_dependence_37 rfl ?_
        exact r_iret dX10_dependence_38 rfl t
    · have t := t.2 q4
      refine r_iconst (v := (0 : Int32)) dX10_dependence_30 rfl ?_
      exact r_iret dX10_dependence_31 rfl t
  · have t := t.2 q2
    refine r_aload_n (q := 0) dX10_dependence_10 rfl rfl ?_
    refine r_iload_n (q := 1) dX10_dependence_11 rfl rfl ?_
    refine r_iload_n (q := 3) dX10_dependence_12 rfl rfl ?_
    refine r_cVI (c := 63) (As := [.int a1, .int a3]) dX10_dependence_13 mkX10_isAt lkX10_153 lay_63 rfl rfl rfl (by decide) rfl (Nat.le_of_ble_eq_true rfl) z00 t ?_
    intro v6 h6 t
    refine r_if_eq (tgt := 23) dX10_dependence_16 (by decide) (fun q7 => ?_) (fun q7 => ?_)
    · have t := t.1 q7
      refine r_iconst (v := (1 : Int32)) dX10_dependence_23 rfl ?_
      refine r_cVI (c := 63) (As := [.int (1 : Int32)]) dX10_dependence_24 mkX10_throwsAs lkX10_147 lay_63 rfl rfl rfl (by decide) rfl (Nat.le_of_ble_eq_true rfl) z00 t ?_
      intro v8 h8 t
      refine r_if_eq (tgt := 32) dX10_dependence_27 (by decide) (fun q9 => ?_) (fun q9 => ?_)
      · have t := t.1 q9
        refine r_iload_n (q := 2) dX10_dependence_32 rfl rfl ?_
        refine r_iload_n (q := 3) dX10_dependence_33 rfl rfl ?_
        refine r_icmp_lt (tgt := 39) dX10_dependence_34 (by decide) (fun q10 => ?_) (fun q10 => ?_)
        · have t := t.1 q10
          refine r_iload_n (q := 2) dX10_dependence_39 rfl rfl ?_
          refine r_istore (lv' := [(4, .int a2), (0, .ref (eA E 63)), (1, .int a1), (2, .int a2), (3, .int a3)]) dX10_dependence_40 (by decide) rfl ?_
          refine r_sub [1, 2, 3, 4, 0] rfl ?_
          exact t
        · have t := t.2 q10
          refine r_iconst (v := (0 : Int32)) dX10_dependence_37 rfl ?_
          exact r_iret dX10_dependence_38 rfl t
      · have t := t.2 q9
        refine r_iconst (v := (0 : Int32)) dX10_dependence_30 rfl ?_
        exact r_iret dX10_dependence_31 rfl t
    · have t := t.2 q7
      refine r_iconst (v := (0 : Int32)) dX10_dependence_19 rfl ?_
      refine r_goto (tgt := 24) dX10_dependence_20 (by decide) ?_
      refine r_cVI (c := 63) (As := [.int (0 : Int32)]) dX10_dependence_24 mkX10_throwsAs lkX10_147 lay_63 rfl rfl rfl (by decide) rfl (Nat.le_of_ble_eq_true rfl) z00 t ?_
      intro v11 h11 t
      refine r_if_eq (tgt := 32) dX10_dependence_27 (by decide) (fun q12 => ?_) (fun q12 => ?_)
      · have t := t.1 q12
        refine r_iload_n (q := 2) dX10_dependence_32 rfl rfl ?_
        refine r_iload_n (q := 3) dX10_dependence_33 rfl rfl ?_
        refine r_icmp_lt (tgt := 39) dX10_dependence_34 (by decide) (fun q13 => ?_) (fun q13 => ?_)
        · have t := t.1 q13
          refine r_iload_n (q := 2) dX10_dependence_39 rfl rfl ?_
          refine r_istore (lv' := [(4, .int a2), (0, .ref (eA E 63)), (1, .int a1), (2, .int a2), (3, .int a3)]) dX10_dependence_40 (by decide) rfl ?_
          refine r_sub [1, 2, 3, 4, 0] rfl ?_
          exact t
        · have t := t.2 q13
          refine r_iconst (v := (0 : Int32)) dX10_dependence_37 rfl ?_
          exact r_iret dX10_dependence_38 rfl t
      · have t := t.2 q12
        refine r_iconst (v := (0 : Int32)) dX10_dependence_30 rfl ?_
        exact r_iret dX10_dependence_31 rfl t
set_option maxRecDepth 20000 in
theorem sg_X10_dependence_42 (E : En) (d : Nat) (g : Ga) (x1 : Int32) (x2 : Int32) (x3 : Int32) (x4 : Int32) (h : Hp) (P : Int32 → Hp → Prop) (t : (x3 ≤ x4 → (SpI E d MX10_at [.ref (eA E 63), .int x1, .int x2] h (fun v2 h2 => SpI E d MX10_at [.ref (eA E 63), .int x1, .int x3] h2 (fun v3 h3 => SpI E d MX10_isStrict [.ref (eA E 63), .int v2, .int v3] h3 (fun v4 h4 => (v4 = 0 → (SpI E d MX10_at [.ref (eA E 63), .int x1, .int x2] h4 (fun v6 h6 => SpI E d MX10_at [.ref (eA E 63), .int x1, .int x3] h6 (fun v7 h7 => SpI E d MX10_isWeak [.ref (eA E 63), .int v6, .int v7] h7 (fun v8 h8 => (v8 = 0 → (P (0 : Int32) h8)) ∧ (¬ v8 = 0 → (P (1 : Int32) h8))))))) ∧ (¬ v4 = 0 → (P (2 : Int32) h4))))))) ∧ (¬ x3 ≤ x4 → (SpI E d MX10_isMarked [.ref (eA E 63), .int x1, .int x4] h (fun v10 h10 => (v10 = 0 → (VX10_dependence_42 E d g P x1 x2 x3 (x4 + (1 : Int32)) h10)) ∧ (¬ v10 = 0 → (P (3 : Int32) h10)))))) : VX10_dependence_42 E d g P x1 x2 x3 x4 h := by
  refine r_iload (q := 4) dX10_dependence_42 rfl ?_
  refine r_iload_n (q := 3) dX10_dependence_44 rfl rfl ?_
  refine r_icmp_ge (tgt := 66) dX10_dependence_45 (by decide) (fun q1 => ?_) (fun q1 => ?_)
  · have t := t.1 q1
    refine r_aload_n (q := 0) dX10_dependence_66 rfl rfl ?_
    refine r_aload_n (q := 0) dX10_dependence_67 rfl rfl ?_
    refine r_iload_n (q := 1) dX10_dependence_68 rfl rfl ?_
    refine r_iload_n (q := 2) dX10_dependence_69 rfl rfl ?_
    refine r_cVI (c := 63) (As := [.int x1, .int x2]) dX10_dependence_70 mkX10_at lkX10_150 lay_63 rfl rfl rfl (by decide) rfl (Nat.le_of_ble_eq_true rfl) z00 t ?_
    intro v2 h2 t
    refine r_aload_n (q := 0) dX10_dependence_73 rfl rfl ?_
    refine r_iload_n (q := 1) dX10_dependence_74 rfl rfl ?_
    refine r_iload_n (q := 3) dX10_dependence_75 rfl rfl ?_
    refine r_cVI (c := 63) (As := [.int x1, .int x3]) dX10_dependence_76 mkX10_at lkX10_150 lay_63 rfl rfl rfl (by decide) rfl (Nat.le_of_ble_eq_true rfl) z00 t ?_
    intro v3 h3 t
    refine r_cVI (c := 63) (As := [.int v2, .int v3]) dX10_dependence_79 mkX10_isStrict lkX10_140 lay_63 rfl rfl rfl (by decide) rfl (Nat.le_of_ble_eq_true rfl) z00 t ?_
    intro v4 h4 t
    refine r_if_eq (tgt := 89) dX10_dependence_82 (by decide) (fun q5 => ?_) (fun q5 => ?_)
    · have t := t.1 q5
      refine r_aload_n (q := 0) dX10_dependence_89 rfl rfl ?_
      refine r_aload_n (q := 0) dX10_dependence_90 rfl rfl ?_
      refine r_iload_n (q := 1) dX10_dependence_91 rfl rfl ?_
      refine r_iload_n (q := 2) dX10_dependence_92 rfl rfl ?_
      refine r_cVI (c := 63) (As := [.int x1, .int x2]) dX10_dependence_93 mkX10_at lkX10_150 lay_63 rfl rfl rfl (by decide) rfl (Nat.le_of_ble_eq_true rfl) z00 t ?_
      intro v6 h6 t
      refine r_aload_n (q := 0) dX10_dependence_96 rfl rfl ?_
      refine r_iload_n (q := 1) dX10_dependence_97 rfl rfl ?_
      refine r_iload_n (q := 3) dX10_dependence_98 rfl rfl ?_
      refine r_cVI (c := 63) (As := [.int x1, .int x3]) dX10_dependence_99 mkX10_at lkX10_150 lay_63 rfl rfl rfl (by decide) rfl (Nat.le_of_ble_eq_true rfl) z00 t ?_
      intro v7 h7 t
      refine r_cVI (c := 63) (As := [.int v6, .int v7]) dX10_dependence_102 mkX10_isWeak lkX10_159 lay_63 rfl rfl rfl (by decide) rfl (Nat.le_of_ble_eq_true rfl) z00 t ?_
      intro v8 h8 t
      refine r_if_eq (tgt := 112) dX10_dependence_105 (by decide) (fun q9 => ?_) (fun q9 => ?_)
      · have t := t.1 q9
        refine r_iconst (v := (0 : Int32)) dX10_dependence_112 rfl ?_
        exact r_iret dX10_dependence_113 rfl t
      · have t := t.2 q9
        refine r_iconst (v := (1 : Int32)) dX10_dependence_108 rfl ?_
        refine r_goto (tgt := 113) dX10_dependence_109 (by decide) ?_
        exact r_iret dX10_dependence_113 rfl t
    · have t := t.2 q5
      refine r_iconst (v := (2 : Int32)) dX10_dependence_85 rfl ?_
      refine r_goto (tgt := 113) dX10_dependence_86 (by decide) ?_
      exact r_iret dX10_dependence_113 rfl t
  · have t := t.2 q1
    refine r_aload_n (q := 0) dX10_dependence_48 rfl rfl ?_
    refine r_iload_n (q := 1) dX10_dependence_49 rfl rfl ?_
    refine r_iload (q := 4) dX10_dependence_50 rfl ?_
    refine r_cVI (c := 63) (As := [.int x1, .int x4]) dX10_dependence_52 mkX10_isMarked lkX10_156 lay_63 rfl rfl rfl (by decide) rfl (Nat.le_of_ble_eq_true rfl) z00 t ?_
    intro v10 h10 t
    refine r_if_eq (tgt := 60) dX10_dependence_55 (by decide) (fun q11 => ?_) (fun q11 => ?_)
    · have t := t.1 q11
      refine r_iinc (k := 4) (v := x4 + (1 : Int32)) (lv' := [(4, .int (x4 + (1 : Int32))), (0, .ref (eA E 63)), (1, .int x1), (2, .int x2), (3, .int x3)]) dX10_dependence_60 rfl rfl (by decide) rfl ?_
      refine r_goto (tgt := 42) dX10_dependence_63 (by decide) ?_
      refine r_sub [1, 2, 3, 4, 0] rfl ?_
      exact t
    · have t := t.2 q11
      refine r_iconst (v := (3 : Int32)) dX10_dependence_58 rfl ?_
      exact r_iret dX10_dependence_59 rfl t
theorem dX10_behind_0 : decode cX10_behind 0 = .ok (.iload_n 2, 1) := by decide +kernel
theorem dX10_behind_1 : decode cX10_behind 1 = .ok (.istore_n 3, 1) := by decide +kernel
theorem dX10_behind_2 : decode cX10_behind 2 = .ok (.iload_n 3, 1) := by decide +kernel
theorem dX10_behind_3 : decode cX10_behind 3 = .ok (.aload_n 0, 1) := by decide +kernel
theorem dX10_behind_4 : decode cX10_behind 4 = .ok (.getfield 16, 3) := by decide +kernel
theorem dX10_behind_7 : decode cX10_behind 7 = .ok (.iload_n 1, 1) := by decide +kernel
theorem dX10_behind_8 : decode cX10_behind 8 = .ok (.iaload, 1) := by decide +kernel
theorem dX10_behind_9 : decode cX10_behind 9 = .ok (.iconst 1, 1) := by decide +kernel
theorem dX10_behind_10 : decode cX10_behind 10 = .ok (.isub, 1) := by decide +kernel
theorem dX10_behind_11 : decode cX10_behind 11 = .ok (.if_icmp .ge 18, 3) := by decide +kernel
theorem dX10_behind_14 : decode cX10_behind 14 = .ok (.aload_n 0, 1) := by decide +kernel
theorem dX10_behind_15 : decode cX10_behind 15 = .ok (.iload_n 1, 1) := by decide +kernel
theorem dX10_behind_16 : decode cX10_behind 16 = .ok (.iload_n 3, 1) := by decide +kernel
theorem dX10_behind_17 : decode cX10_behind 17 = .ok (.invokevirtual 156, 3) := by decide +kernel
theorem dX10_behind_20 : decode cX10_behind 20 = .ok (.ifCond .ne 9, 3) := by decide +kernel
theorem dX10_behind_23 : decode cX10_behind 23 = .ok (.iinc 3 1, 3) := by decide +kernel
theorem dX10_behind_26 : decode cX10_behind 26 = .ok (.goto (-24), 3) := by decide +kernel
theorem dX10_behind_29 : decode cX10_behind 29 = .ok (.iload_n 3, 1) := by decide +kernel
theorem dX10_behind_30 : decode cX10_behind 30 = .ok (.iconst 1, 1) := by decide +kernel
theorem dX10_behind_31 : decode cX10_behind 31 = .ok (.iadd, 1) := by decide +kernel
theorem dX10_behind_32 : decode cX10_behind 32 = .ok (.ireturn, 1) := by decide +kernel
abbrev VX10_behind_2 (E : En) (d : Nat) (g : Ga) (P : Int32 → Hp → Prop) (x1 : Int32) (x2 : Int32) (x3 : Int32) (h : Hp) : Prop := V E MX10_behind (RM (d + 1) 0) g (QQ E g (QI E P) 0 0) 0 0 h 2 [(0, .ref (eA E 63)), (1, .int x1), (2, .int x2), (3, .int x3)] []
set_option maxRecDepth 20000 in
theorem wp_X10_behind (E : En) (d : Nat) (a1 : Int32) (a2 : Int32) (h : Hp) (P : Int32 → Hp → Prop) (t : ∀ g : Ga, VX10_behind_2 E d g P a1 a2 a2 h) : SpI E (d + 1) MX10_behind [.ref (eA E 63), .int a1, .int a2] h P := by
  refine SpI.of (lv0 := [(0, .ref (eA E 63)), (1, .int a1), (2, .int a2)]) (by decide) (Nat.le_of_ble_eq_true rfl) rfl (fun g => ?_)
  have t := t g
  refine r_iload_n (q := 2) dX10_behind_0 rfl rfl ?_
  refine r_istore_n (lv' := [(3, .int a2), (0, .ref (eA E 63)), (1, .int a1), (2, .int a2)]) dX10_behind_1 rfl (by decide) rfl ?_
  refine r_sub [1, 2, 3, 0] rfl ?_
  exact t
set_option maxRecDepth 20000 in
theorem sg_X10_behind_2 (E : En) (d : Nat) (g : Ga) (x1 : Int32) (x2 : Int32) (x3 : Int32) (h : Hp) (P : Int32 → Hp → Prop) (t : vp_in x1 8 ∧ ((((h.1 66 x1.toNatClampNeg) - (1 : Int32)) ≤ x3 → (P (x3 + (1 : Int32)) h)) ∧ (¬ ((h.1 66 x1.toNatClampNeg) - (1 : Int32)) ≤ x3 → (SpI E d MX10_isMarked [.ref (eA E 63), .int x1, .int x3] h (fun v3 h3 => (¬ v3 = 0 → (P (x3 + (1 : Int32)) h3)) ∧ (v3 = 0 → (VX10_behind_2 E d g P x1 x2 (x3 + (1 : Int32)) h3))))))) : VX10_behind_2 E d g P x1 x2 x3 h := by
  refine r_iload_n (q := 3) dX10_behind_2 rfl rfl ?_
  refine r_aload_n (q := 0) dX10_behind_3 rfl rfl ?_
  refine r_getR (c := 63) (c2 := 66) dX10_behind_4 flX10_16 lay_63 rfl ?_
  refine r_iload_n (q := 1) dX10_behind_7 rfl rfl ?_
  obtain ⟨c1, t⟩ := t
  refine r_iald (c := 66) dX10_behind_8 lay_66 c1 ?_
  refine r_iconst (v := (1 : Int32)) dX10_behind_9 rfl ?_
  refine r_isub dX10_behind_10 ?_
  refine r_icmp_ge (tgt := 29) dX10_behind_11 (by decide) (fun q2 => ?_) (fun q2 => ?_)
  · have t := t.1 q2
    refine r_iload_n (q := 3) dX10_behind_29 rfl rfl ?_
    refine r_iconst (v := (1 : Int32)) dX10_behind_30 rfl ?_
    refine r_iadd dX10_behind_31 ?_
    exact r_iret dX10_behind_32 rfl t
  · have t := t.2 q2
    refine r_aload_n (q := 0) dX10_behind_14 rfl rfl ?_
    refine r_iload_n (q := 1) dX10_behind_15 rfl rfl ?_
    refine r_iload_n (q := 3) dX10_behind_16 rfl rfl ?_
    refine r_cVI (c := 63) (As := [.int x1, .int x3]) dX10_behind_17 mkX10_isMarked lkX10_156 lay_63 rfl rfl rfl (by decide) rfl (Nat.le_of_ble_eq_true rfl) z00 t ?_
    intro v3 h3 t
    refine r_if_ne (tgt := 29) dX10_behind_20 (by decide) (fun q4 => ?_) (fun q4 => ?_)
    · have t := t.1 q4
      refine r_iload_n (q := 3) dX10_behind_29 rfl rfl ?_
      refine r_iconst (v := (1 : Int32)) dX10_behind_30 rfl ?_
      refine r_iadd dX10_behind_31 ?_
      exact r_iret dX10_behind_32 rfl t
    · have t := t.2 q4
      refine r_iinc (k := 3) (v := x3 + (1 : Int32)) (lv' := [(3, .int (x3 + (1 : Int32))), (0, .ref (eA E 63)), (1, .int x1), (2, .int x2)]) dX10_behind_23 rfl rfl (by decide) rfl ?_
      refine r_goto (tgt := 2) dX10_behind_26 (by decide) ?_
      refine r_sub [1, 2, 3, 0] rfl ?_
      exact t
theorem dX10_laysSegment_0 : decode cX10_laysSegment 0 = .ok (.aload_n 0, 1) := by decide +kernel
theorem dX10_laysSegment_1 : decode cX10_laysSegment 1 = .ok (.iload_n 1, 1) := by decide +kernel
theorem dX10_laysSegment_2 : decode cX10_laysSegment 2 = .ok (.putfield 162, 3) := by decide +kernel
theorem dX10_laysSegment_5 : decode cX10_laysSegment 5 = .ok (.aload_n 0, 1) := by decide +kernel
theorem dX10_laysSegment_6 : decode cX10_laysSegment 6 = .ok (.iload_n 2, 1) := by decide +kernel
theorem dX10_laysSegment_7 : decode cX10_laysSegment 7 = .ok (.putfield 165, 3) := by decide +kernel
theorem dX10_laysSegment_10 : decode cX10_laysSegment 10 = .ok (.aload_n 0, 1) := by decide +kernel
theorem dX10_laysSegment_11 : decode cX10_laysSegment 11 = .ok (.aload_n 0, 1) := by decide +kernel
theorem dX10_laysSegment_12 : decode cX10_laysSegment 12 = .ok (.iload_n 1, 1) := by decide +kernel
theorem dX10_laysSegment_13 : decode cX10_laysSegment 13 = .ok (.iload_n 2, 1) := by decide +kernel
theorem dX10_laysSegment_14 : decode cX10_laysSegment 14 = .ok (.invokevirtual 168, 3) := by decide +kernel
theorem dX10_laysSegment_17 : decode cX10_laysSegment 17 = .ok (.iload_n 2, 1) := by decide +kernel
theorem dX10_laysSegment_18 : decode cX10_laysSegment 18 = .ok (.isub, 1) := by decide +kernel
theorem dX10_laysSegment_19 : decode cX10_laysSegment 19 = .ok (.putfield 171, 3) := by decide +kernel
theorem dX10_laysSegment_22 : decode cX10_laysSegment 22 = .ok (.iconst 0, 1) := by decide +kernel
theorem dX10_laysSegment_23 : decode cX10_laysSegment 23 = .ok (.istore_n 3, 1) := by decide +kernel
theorem dX10_laysSegment_24 : decode cX10_laysSegment 24 = .ok (.iload_n 3, 1) := by decide +kernel
theorem dX10_laysSegment_25 : decode cX10_laysSegment 25 = .ok (.aload_n 0, 1) := by decide +kernel
theorem dX10_laysSegment_26 : decode cX10_laysSegment 26 = .ok (.getfield 171, 3) := by decide +kernel
theorem dX10_laysSegment_29 : decode cX10_laysSegment 29 = .ok (.if_icmp .ge 139, 3) := by decide +kernel
theorem dX10_laysSegment_32 : decode cX10_laysSegment 32 = .ok (.aload_n 0, 1) := by decide +kernel
theorem dX10_laysSegment_33 : decode cX10_laysSegment 33 = .ok (.getfield 25, 3) := by decide +kernel
theorem dX10_laysSegment_36 : decode cX10_laysSegment 36 = .ok (.iload_n 3, 1) := by decide +kernel
theorem dX10_laysSegment_37 : decode cX10_laysSegment 37 = .ok (.iconst 0, 1) := by decide +kernel
theorem dX10_laysSegment_38 : decode cX10_laysSegment 38 = .ok (.iastore, 1) := by decide +kernel
theorem dX10_laysSegment_39 : decode cX10_laysSegment 39 = .ok (.aload_n 0, 1) := by decide +kernel
theorem dX10_laysSegment_40 : decode cX10_laysSegment 40 = .ok (.getfield 28, 3) := by decide +kernel
theorem dX10_laysSegment_43 : decode cX10_laysSegment 43 = .ok (.iload_n 3, 1) := by decide +kernel
theorem dX10_laysSegment_44 : decode cX10_laysSegment 44 = .ok (.iconst 0, 1) := by decide +kernel
theorem dX10_laysSegment_45 : decode cX10_laysSegment 45 = .ok (.iastore, 1) := by decide +kernel
theorem dX10_laysSegment_46 : decode cX10_laysSegment 46 = .ok (.aload_n 0, 1) := by decide +kernel
theorem dX10_laysSegment_47 : decode cX10_laysSegment 47 = .ok (.getfield 31, 3) := by decide +kernel
theorem dX10_laysSegment_50 : decode cX10_laysSegment 50 = .ok (.iload_n 3, 1) := by decide +kernel
theorem dX10_laysSegment_51 : decode cX10_laysSegment 51 = .ok (.aload_n 0, 1) := by decide +kernel
theorem dX10_laysSegment_52 : decode cX10_laysSegment 52 = .ok (.aload_n 0, 1) := by decide +kernel
theorem dX10_laysSegment_53 : decode cX10_laysSegment 53 = .ok (.iload_n 1, 1) := by decide +kernel
theorem dX10_laysSegment_54 : decode cX10_laysSegment 54 = .ok (.iload_n 2, 1) := by decide +kernel
theorem dX10_laysSegment_55 : decode cX10_laysSegment 55 = .ok (.iload_n 3, 1) := by decide +kernel
theorem dX10_laysSegment_56 : decode cX10_laysSegment 56 = .ok (.iadd, 1) := by decide +kernel
theorem dX10_laysSegment_57 : decode cX10_laysSegment 57 = .ok (.invokevirtual 150, 3) := by decide +kernel
theorem dX10_laysSegment_60 : decode cX10_laysSegment 60 = .ok (.iconst 0, 1) := by decide +kernel
theorem dX10_laysSegment_61 : decode cX10_laysSegment 61 = .ok (.invokevirtual 132, 3) := by decide +kernel
theorem dX10_laysSegment_64 : decode cX10_laysSegment 64 = .ok (.iastore, 1) := by decide +kernel
theorem dX10_laysSegment_65 : decode cX10_laysSegment 65 = .ok (.iconst 0, 1) := by decide +kernel
theorem dX10_laysSegment_66 : decode cX10_laysSegment 66 = .ok (.istore 4, 2) := by decide +kernel
theorem dX10_laysSegment_68 : decode cX10_laysSegment 68 = .ok (.iload 4, 2) := by decide +kernel
theorem dX10_laysSegment_70 : decode cX10_laysSegment 70 = .ok (.iload_n 3, 1) := by decide +kernel
theorem dX10_laysSegment_71 : decode cX10_laysSegment 71 = .ok (.if_icmp .ge 91, 3) := by decide +kernel
theorem dX10_laysSegment_74 : decode cX10_laysSegment 74 = .ok (.aload_n 0, 1) := by decide +kernel
theorem dX10_laysSegment_75 : decode cX10_laysSegment 75 = .ok (.getfield 25, 3) := by decide +kernel
theorem dX10_laysSegment_78 : decode cX10_laysSegment 78 = .ok (.iload_n 3, 1) := by decide +kernel
theorem dX10_laysSegment_79 : decode cX10_laysSegment 79 = .ok (.dup2, 1) := by decide +kernel
theorem dX10_laysSegment_80 : decode cX10_laysSegment 80 = .ok (.iaload, 1) := by decide +kernel
theorem dX10_laysSegment_81 : decode cX10_laysSegment 81 = .ok (.aload_n 0, 1) := by decide +kernel
theorem dX10_laysSegment_82 : decode cX10_laysSegment 82 = .ok (.aload_n 0, 1) := by decide +kernel
theorem dX10_laysSegment_83 : decode cX10_laysSegment 83 = .ok (.iload_n 1, 1) := by decide +kernel
theorem dX10_laysSegment_84 : decode cX10_laysSegment 84 = .ok (.iload_n 2, 1) := by decide +kernel
theorem dX10_laysSegment_85 : decode cX10_laysSegment 85 = .ok (.iload 4, 2) := by decide +kernel
theorem dX10_laysSegment_87 : decode cX10_laysSegment 87 = .ok (.iadd, 1) := by decide +kernel
theorem dX10_laysSegment_88 : decode cX10_laysSegment 88 = .ok (.invokevirtual 150, 3) := by decide +kernel
theorem dX10_laysSegment_91 : decode cX10_laysSegment 91 = .ok (.aload_n 0, 1) := by decide +kernel
theorem dX10_laysSegment_92 : decode cX10_laysSegment 92 = .ok (.iload_n 1, 1) := by decide +kernel
theorem dX10_laysSegment_93 : decode cX10_laysSegment 93 = .ok (.iload_n 2, 1) := by decide +kernel
theorem dX10_laysSegment_94 : decode cX10_laysSegment 94 = .ok (.iload_n 3, 1) := by decide +kernel
theorem dX10_laysSegment_95 : decode cX10_laysSegment 95 = .ok (.iadd, 1) := by decide +kernel
theorem dX10_laysSegment_96 : decode cX10_laysSegment 96 = .ok (.invokevirtual 150, 3) := by decide +kernel
theorem dX10_laysSegment_99 : decode cX10_laysSegment 99 = .ok (.invokevirtual 140, 3) := by decide +kernel
theorem dX10_laysSegment_102 : decode cX10_laysSegment 102 = .ok (.ifCond .eq 10, 3) := by decide +kernel
theorem dX10_laysSegment_105 : decode cX10_laysSegment 105 = .ok (.iconst 1, 1) := by decide +kernel
theorem dX10_laysSegment_106 : decode cX10_laysSegment 106 = .ok (.iload 4, 2) := by decide +kernel
theorem dX10_laysSegment_108 : decode cX10_laysSegment 108 = .ok (.ishl, 1) := by decide +kernel
theorem dX10_laysSegment_109 : decode cX10_laysSegment 109 = .ok (.goto 4, 3) := by decide +kernel
theorem dX10_laysSegment_112 : decode cX10_laysSegment 112 = .ok (.iconst 0, 1) := by decide +kernel
theorem dX10_laysSegment_113 : decode cX10_laysSegment 113 = .ok (.ior, 1) := by decide +kernel
theorem dX10_laysSegment_114 : decode cX10_laysSegment 114 = .ok (.iastore, 1) := by decide +kernel
theorem dX10_laysSegment_115 : decode cX10_laysSegment 115 = .ok (.aload_n 0, 1) := by decide +kernel
theorem dX10_laysSegment_116 : decode cX10_laysSegment 116 = .ok (.getfield 28, 3) := by decide +kernel
theorem dX10_laysSegment_119 : decode cX10_laysSegment 119 = .ok (.iload_n 3, 1) := by decide +kernel
theorem dX10_laysSegment_120 : decode cX10_laysSegment 120 = .ok (.dup2, 1) := by decide +kernel
theorem dX10_laysSegment_121 : decode cX10_laysSegment 121 = .ok (.iaload, 1) := by decide +kernel
theorem dX10_laysSegment_122 : decode cX10_laysSegment 122 = .ok (.aload_n 0, 1) := by decide +kernel
theorem dX10_laysSegment_123 : decode cX10_laysSegment 123 = .ok (.aload_n 0, 1) := by decide +kernel
theorem dX10_laysSegment_124 : decode cX10_laysSegment 124 = .ok (.iload_n 1, 1) := by decide +kernel
theorem dX10_laysSegment_125 : decode cX10_laysSegment 125 = .ok (.iload_n 2, 1) := by decide +kernel
theorem dX10_laysSegment_126 : decode cX10_laysSegment 126 = .ok (.iload 4, 2) := by decide +kernel
theorem dX10_laysSegment_128 : decode cX10_laysSegment 128 = .ok (.iadd, 1) := by decide +kernel
theorem dX10_laysSegment_129 : decode cX10_laysSegment 129 = .ok (.invokevirtual 150, 3) := by decide +kernel
theorem dX10_laysSegment_132 : decode cX10_laysSegment 132 = .ok (.aload_n 0, 1) := by decide +kernel
theorem dX10_laysSegment_133 : decode cX10_laysSegment 133 = .ok (.iload_n 1, 1) := by decide +kernel
theorem dX10_laysSegment_134 : decode cX10_laysSegment 134 = .ok (.iload_n 2, 1) := by decide +kernel
theorem dX10_laysSegment_135 : decode cX10_laysSegment 135 = .ok (.iload_n 3, 1) := by decide +kernel
theorem dX10_laysSegment_136 : decode cX10_laysSegment 136 = .ok (.iadd, 1) := by decide +kernel
theorem dX10_laysSegment_137 : decode cX10_laysSegment 137 = .ok (.invokevirtual 150, 3) := by decide +kernel
theorem dX10_laysSegment_140 : decode cX10_laysSegment 140 = .ok (.invokevirtual 159, 3) := by decide +kernel
theorem dX10_laysSegment_143 : decode cX10_laysSegment 143 = .ok (.ifCond .eq 10, 3) := by decide +kernel
theorem dX10_laysSegment_146 : decode cX10_laysSegment 146 = .ok (.iconst 1, 1) := by decide +kernel
theorem dX10_laysSegment_147 : decode cX10_laysSegment 147 = .ok (.iload 4, 2) := by decide +kernel
theorem dX10_laysSegment_149 : decode cX10_laysSegment 149 = .ok (.ishl, 1) := by decide +kernel
theorem dX10_laysSegment_150 : decode cX10_laysSegment 150 = .ok (.goto 4, 3) := by decide +kernel
theorem dX10_laysSegment_153 : decode cX10_laysSegment 153 = .ok (.iconst 0, 1) := by decide +kernel
theorem dX10_laysSegment_154 : decode cX10_laysSegment 154 = .ok (.ior, 1) := by decide +kernel
theorem dX10_laysSegment_155 : decode cX10_laysSegment 155 = .ok (.iastore, 1) := by decide +kernel
theorem dX10_laysSegment_156 : decode cX10_laysSegment 156 = .ok (.iinc 4 1, 3) := by decide +kernel
theorem dX10_laysSegment_159 : decode cX10_laysSegment 159 = .ok (.goto (-91), 3) := by decide +kernel
theorem dX10_laysSegment_162 : decode cX10_laysSegment 162 = .ok (.iinc 3 1, 3) := by decide +kernel
theorem dX10_laysSegment_165 : decode cX10_laysSegment 165 = .ok (.goto (-141), 3) := by decide +kernel
theorem dX10_laysSegment_168 : decode cX10_laysSegment 168 = .ok (.return_, 1) := by decide +kernel
abbrev VX10_laysSegment_24 (E : En) (d : Nat) (g : Ga) (P : Hp → Prop) (x1 : Int32) (x2 : Int32) (x3 : Int32) (h : Hp) : Prop := V E MX10_laysSegment (RM (d + 1) 0) g (QQ E g (QV E P) 0 0) 0 0 h 24 [(0, .ref (eA E 63)), (1, .int x1), (2, .int x2), (3, .int x3)] []
abbrev VX10_laysSegment_68 (E : En) (d : Nat) (g : Ga) (P : Hp → Prop) (x1 : Int32) (x2 : Int32) (x3 : Int32) (x4 : Int32) (h : Hp) : Prop := V E MX10_laysSegment (RM (d + 1) 0) g (QQ E g (QV E P) 0 0) 0 0 h 68 [(0, .ref (eA E 63)), (1, .int x1), (2, .int x2), (3, .int x3), (4, .int x4)] []
set_option maxRecDepth 20000 in
theorem wp_X10_laysSegment (E : En) (d : Nat) (a1 : Int32) (a2 : Int32) (h : Hp) (P : Hp → Prop) (t : ∀ g : Ga, SpI E d MX10_behind [.ref (eA E 63), .int a1, .int a2] (sI (sI h 63 8 a1) 63 9 a2) (fun v1 h1 => VX10_laysSegment_24 E d g P a1 a2 (0 : Int32) (sI h1 63 10 (v1 - a2)))) : SpV E (d + 1) MX10_laysSegment [.ref (eA E 63), .int a1, .int a2] h P := by
  refine SpV.of (lv0 := [(0, .ref (eA E 63)), (1, .int a1), (2, .int a2)]) (by decide) (Nat.le_of_ble_eq_true rfl) rfl (fun g => ?_)
  have t := t g
  refine r_aload_n (q := 0) dX10_laysSegment_0 rfl rfl ?_
  refine r_iload_n (q := 1) dX10_laysSegment_1 rfl rfl ?_
  refine r_putI (c := 63) dX10_laysSegment_2 flX10_162 lay_63 rfl ?_
  refine r_aload_n (q := 0) dX10_laysSegment_5 rfl rfl ?_
  refine r_iload_n (q := 2) dX10_laysSegment_6 rfl rfl ?_
  refine r_putI (c := 63) dX10_laysSegment_7 flX10_165 lay_63 rfl ?_
  refine r_aload_n (q := 0) dX10_laysSegment_10 rfl rfl ?_
  refine r_aload_n (q := 0) dX10_laysSegment_11 rfl rfl ?_
  refine r_iload_n (q := 1) dX10_laysSegment_12 rfl rfl ?_
  refine r_iload_n (q := 2) dX10_laysSegment_13 rfl rfl ?_
  refine r_cVI (c := 63) (As := [.int a1, .int a2]) dX10_laysSegment_14 mkX10_behind lkX10_168 lay_63 rfl rfl rfl (by decide) rfl (Nat.le_of_ble_eq_true rfl) z00 t ?_
  intro v1 h1 t
  refine r_iload_n (q := 2) dX10_laysSegment_17 rfl rfl ?_
  refine r_isub dX10_laysSegment_18 ?_
  refine r_putI (c := 63) dX10_laysSegment_19 flX10_171 lay_63 rfl ?_
  refine r_iconst (v := (0 : Int32)) dX10_laysSegment_22 rfl ?_
  refine r_istore_n (lv' := [(3, .int (0 : Int32)), (0, .ref (eA E 63)), (1, .int a1), (2, .int a2)]) dX10_laysSegment_23 rfl (by decide) rfl ?_
  refine r_sub [1, 2, 3, 0] rfl ?_
  exact t
set_option maxRecDepth 20000 in
theorem sg_X10_laysSegment_24 (E : En) (d : Nat) (g : Ga) (x1 : Int32) (x2 : Int32) (x3 : Int32) (h : Hp) (P : Hp → Prop) (t : ((h.1 63 10) ≤ x3 → (P h)) ∧ (¬ (h.1 63 10) ≤ x3 → (vp_in x3 10 ∧ (vp_in x3 10 ∧ (SpI E d MX10_at [.ref (eA E 63), .int x1, .int (x2 + x3)] (sI (sI h 69 x3.toNatClampNeg (0 : Int32)) 70 x3.toNatClampNeg (0 : Int32)) (fun v4 h4 => SpI E d MX10_of [.ref (eA E 63), .int v4, .int (0 : Int32)] h4 (fun v5 h5 => vp_in x3 10 ∧ (VX10_laysSegment_68 E d g P x1 x2 x3 (0 : Int32) (sI h5 71 x3.toNatClampNeg v5))))))))) : VX10_laysSegment_24 E d g P x1 x2 x3 h := by
  refine r_iload_n (q := 3) dX10_laysSegment_24 rfl rfl ?_
  refine r_aload_n (q := 0) dX10_laysSegment_25 rfl rfl ?_
  refine r_getI (c := 63) dX10_laysSegment_26 flX10_171 lay_63 rfl ?_
  refine r_icmp_ge (tgt := 168) dX10_laysSegment_29 (by decide) (fun q1 => ?_) (fun q1 => ?_)
  · have t := t.1 q1
    exact r_vret dX10_laysSegment_168 rfl t
  · have t := t.2 q1
    refine r_aload_n (q := 0) dX10_laysSegment_32 rfl rfl ?_
    refine r_getR (c := 63) (c2 := 69) dX10_laysSegment_33 flX10_25 lay_63 rfl ?_
    refine r_iload_n (q := 3) dX10_laysSegment_36 rfl rfl ?_
    refine r_iconst (v := (0 : Int32)) dX10_laysSegment_37 rfl ?_
    obtain ⟨c2, t⟩ := t
    refine r_iast (c := 69) dX10_laysSegment_38 lay_69 c2 ?_
    refine r_aload_n (q := 0) dX10_laysSegment_39 rfl rfl ?_
    refine r_getR (c := 63) (c2 := 70) dX10_laysSegment_40 flX10_28 lay_63 rfl ?_
    refine r_iload_n (q := 3) dX10_laysSegment_43 rfl rfl ?_
    refine r_iconst (v := (0 : Int32)) dX10_laysSegment_44 rfl ?_
    obtain ⟨c3, t⟩ := t
    refine r_iast (c := 70) dX10_laysSegment_45 lay_70 c3 ?_
    refine r_aload_n (q := 0) dX10_laysSegment_46 rfl rfl ?_
    refine r_getR (c := 63) (c2 := 71) dX10_laysSegment_47 flX10_31 lay_63 rfl ?_
    refine r_iload_n (q := 3) dX10_laysSegment_50 rfl rfl ?_
    refine r_aload_n (q := 0) dX10_laysSegment_51 rfl rfl ?_
    refine r_aload_n (q := 0) dX10_laysSegment_52 rfl rfl ?_
    refine r_iload_n (q := 1) dX10_laysSegment_53 rfl rfl ?_
    refine r_iload_n (q := 2) dX10_laysSegment_54 rfl rfl ?_
    refine r_iload_n (q := 3) dX10_laysSegment_55 rfl rfl ?_
    refine r_iadd dX10_laysSegment_56 ?_
    refine r_cVI (c := 63) (As := [.int x1, .int (x2 + x3)]) dX10_laysSegment_57 mkX10_at lkX10_150 lay_63 rfl rfl rfl (by decide) rfl (Nat.le_of_ble_eq_true rfl) z00 t ?_
    intro v4 h4 t
    refine r_iconst (v := (0 : Int32)) dX10_laysSegment_60 rfl ?_
    refine r_cVI (c := 63) (As := [.int v4, .int (0 : Int32)]) dX10_laysSegment_61 mkX10_of lkX10_132 lay_63 rfl rfl rfl (by decide) rfl (Nat.le_of_ble_eq_true rfl) z00 t ?_
    intro v5 h5 t
    obtain ⟨c6, t⟩ := t
    refine r_iast (c := 71) dX10_laysSegment_64 lay_71 c6 ?_
    refine r_iconst (v := (0 : Int32)) dX10_laysSegment_65 rfl ?_
    refine r_istore (lv' := [(4, .int (0 : Int32)), (0, .ref (eA E 63)), (1, .int x1), (2, .int x2), (3, .int x3)]) dX10_laysSegment_66 (by decide) rfl ?_
    refine r_sub [1, 2, 3, 4, 0] rfl ?_
    exact t
set_option maxRecDepth 20000 in
theorem sg_X10_laysSegment_68 (E : En) (d : Nat) (g : Ga) (x1 : Int32) (x2 : Int32) (x3 : Int32) (x4 : Int32) (h : Hp) (P : Hp → Prop) (t : (x3 ≤ x4 → (VX10_laysSegment_24 E d g P x1 x2 (x3 + (1 : Int32)) h)) ∧ (¬ x3 ≤ x4 → (vp_in x3 10 ∧ (SpI E d MX10_at [.ref (eA E 63), .int x1, .int (x2 + x4)] h (fun v3 h3 => SpI E d MX10_at [.ref (eA E 63), .int x1, .int (x2 + x3)] h3 (fun v4 h4 => SpI E d MX10_isStrict [.ref (eA E 63), .int v3, .int v4] h4 (fun v5 h5 => (v5 = 0 → (vp_in x3 10 ∧ (vp_in x3 10 ∧ (SpI E d MX10_at [.ref (eA E 63), .int x1, .int (x2 + x4)] (sI h5 69 x3.toNatClampNeg ((h.1 69 x3.toNatClampNeg) ||| (0 : Int32))) (fun v9 h9 => SpI E d MX10_at [.ref (eA E 63), .int x1, .int (x2 + x3)] h9 (fun v10 h10 => SpI E d MX10_isWeak [.ref (eA E 63), .int v9, .int v10] h10 (fun v11 h11 => (v11 = 0 → (vp_in x3 10 ∧ (VX10_laysSegment_68 E d g P x1 x2 x3 (x4 + (1 : Int32)) (sI h11 70 x3.toNatClampNeg ((h5.1 70 x3.toNatClampNeg) ||| (0 : Int32)))))) ∧ (¬ v11 = 0 → (vp_in x3 10 ∧ (VX10_laysSegment_68 E d g P x1 x2 x3 (x4 + (1 : Int32)) (sI h11 70 x3.toNatClampNeg ((h5.1 70 x3.toNatClampNeg) ||| ((1 : Int32) <<< (x4 &&& 31)))))))))))))) ∧ (¬ v5 = 0 → (vp_in x3 10 ∧ (vp_in x3 10 ∧ (SpI E d MX10_at [.ref (eA E 63), .int x1, .int (x2 + x4)] (sI h5 69 x3.toNatClampNeg ((h.1 69 x3.toNatClampNeg) ||| ((1 : Int32) <<< (x4 &&& 31)))) (fun v17 h17 => SpI E d MX10_at [.ref (eA E 63), .int x1, .int (x2 + x3)] h17 (fun v18 h18 => SpI E d MX10_isWeak [.ref (eA E 63), .int v17, .int v18] h18 (fun v19 h19 => (v19 = 0 → (vp_in x3 10 ∧ (VX10_laysSegment_68 E d g P x1 x2 x3 (x4 + (1 : Int32)) (sI h19 70 x3.toNatClampNeg ((h5.1 70 x3.toNatClampNeg) ||| (0 : Int32)))))) ∧ (¬ v19 = 0 → (vp_in x3 10 ∧ (VX10_laysSegment_68 E d g P x1 x2 x3 (x4 + (1 : Int32)) (sI h19 70 x3.toNatClampNeg ((h5.1 70 x3.toNatClampNeg) ||| ((1 : Int32) <<< (x4 &&& 31))))))))))))))))))))) : VX10_laysSegment_68 E d g P x1 x2 x3 x4 h := by
  refine r_iload (q := 4) dX10_laysSegment_68 rfl ?_
  refine r_iload_n (q := 3) dX10_laysSegment_70 rfl rfl ?_
  refine r_icmp_ge (tgt := 162) dX10_laysSegment_71 (by decide) (fun q1 => ?_) (fun q1 => ?_)
  · have t := t.1 q1
    refine r_iinc (k := 3) (v := x3 + (1 : Int32)) (lv' := [(3, .int (x3 + (1 : Int32))), (0, .ref (eA E 63)), (1, .int x1), (2, .int x2), (4, .int x4)]) dX10_laysSegment_162 rfl rfl (by decide) rfl ?_
    refine r_goto (tgt := 24) dX10_laysSegment_165 (by decide) ?_
    refine r_sub [1, 2, 3, 0] rfl ?_
    exact t
  · have t := t.2 q1
    refine r_aload_n (q := 0) dX10_laysSegment_74 rfl rfl ?_
    refine r_getR (c := 63) (c2 := 69) dX10_laysSegment_75 flX10_25 lay_63 rfl ?_
    refine r_iload_n (q := 3) dX10_laysSegment_78 rfl rfl ?_
    refine r_dup2 dX10_laysSegment_79 rfl rfl ?_
    obtain ⟨c2, t⟩ := t
    refine r_iald (c := 69) dX10_laysSegment_80 lay_69 c2 ?_
    refine r_aload_n (q := 0) dX10_laysSegment_81 rfl rfl ?_
    refine r_aload_n (q := 0) dX10_laysSegment_82 rfl rfl ?_
    refine r_iload_n (q := 1) dX10_laysSegment_83 rfl rfl ?_
    refine r_iload_n (q := 2) dX10_laysSegment_84 rfl rfl ?_
    refine r_iload (q := 4) dX10_laysSegment_85 rfl ?_
    refine r_iadd dX10_laysSegment_87 ?_
    refine r_cVI (c := 63) (As := [.int x1, .int (x2 + x4)]) dX10_laysSegment_88 mkX10_at lkX10_150 lay_63 rfl rfl rfl (by decide) rfl (Nat.le_of_ble_eq_true rfl) z00 t ?_
    intro v3 h3 t
    refine r_aload_n (q := 0) dX10_laysSegment_91 rfl rfl ?_
    refine r_iload_n (q := 1) dX10_laysSegment_92 rfl rfl ?_
    refine r_iload_n (q := 2) dX10_laysSegment_93 rfl rfl ?_
    refine r_iload_n (q := 3) dX10_laysSegment_94 rfl rfl ?_
    refine r_iadd dX10_laysSegment_95 ?_
    refine r_cVI (c := 63) (As := [.int x1, .int (x2 + x3)]) dX10_laysSegment_96 mkX10_at lkX10_150 lay_63 rfl rfl rfl (by decide) rfl (Nat.le_of_ble_eq_true rfl) z00 t ?_
    intro v4 h4 t
    refine r_cVI (c := 63) (As := [.int v3, .int v4]) dX10_laysSegment_99 mkX10_isStrict lkX10_140 lay_63 rfl rfl rfl (by decide) rfl (Nat.le_of_ble_eq_true rfl) z00 t ?_
    intro v5 h5 t
    refine r_if_eq (tgt := 112) dX10_laysSegment_102 (by decide) (fun q6 => ?_) (fun q6 => ?_)
    · have t := t.1 q6
      refine r_iconst (v := (0 : Int32)) dX10_laysSegment_112 rfl ?_
      refine r_ior dX10_laysSegment_113 ?_
      obtain ⟨c7, t⟩ := t
      refine r_iast (c := 69) dX10_laysSegment_114 lay_69 c7 ?_
      refine r_aload_n (q := 0) dX10_laysSegment_115 rfl rfl ?_
      refine r_getR (c := 63) (c2 := 70) dX10_laysSegment_116 flX10_28 lay_63 rfl ?_
      refine r_iload_n (q := 3) dX10_laysSegment_119 rfl rfl ?_
      refine r_dup2 dX10_laysSegment_120 rfl rfl ?_
      obtain ⟨c8, t⟩ := t
      refine r_ialdv (c := 70) (v := h5.1 70 x3.toNatClampNeg) dX10_laysSegment_121 lay_70 c8 rfl ?_
      refine r_aload_n (q := 0) dX10_laysSegment_122 rfl rfl ?_
      refine r_aload_n (q := 0) dX10_laysSegment_123 rfl rfl ?_
      refine r_iload_n (q := 1) dX10_laysSegment_124 rfl rfl ?_
      refine r_iload_n (q := 2) dX10_laysSegment_125 rfl rfl ?_
      refine r_iload (q := 4) dX10_laysSegment_126 rfl ?_
      refine r_iadd dX10_laysSegment_128 ?_
      refine r_cVI (c := 63) (As := [.int x1, .int (x2 + x4)]) dX10_laysSegment_129 mkX10_at lkX10_150 lay_63 rfl rfl rfl (by decide) rfl (Nat.le_of_ble_eq_true rfl) z00 t ?_
      intro v9 h9 t
      refine r_aload_n (q := 0) dX10_laysSegment_132 rfl rfl ?_
      refine r_iload_n (q := 1) dX10_laysSegment_133 rfl rfl ?_
      refine r_iload_n (q := 2) dX10_laysSegment_134 rfl rfl ?_
      refine r_iload_n (q := 3) dX10_laysSegment_135 rfl rfl ?_
      refine r_iadd dX10_laysSegment_136 ?_
      refine r_cVI (c := 63) (As := [.int x1, .int (x2 + x3)]) dX10_laysSegment_137 mkX10_at lkX10_150 lay_63 rfl rfl rfl (by decide) rfl (Nat.le_of_ble_eq_true rfl) z00 t ?_
      intro v10 h10 t
      refine r_cVI (c := 63) (As := [.int v9, .int v10]) dX10_laysSegment_140 mkX10_isWeak lkX10_159 lay_63 rfl rfl rfl (by decide) rfl (Nat.le_of_ble_eq_true rfl) z00 t ?_
      intro v11 h11 t
      refine r_if_eq (tgt := 153) dX10_laysSegment_143 (by decide) (fun q12 => ?_) (fun q12 => ?_)
      · have t := t.1 q12
        refine r_iconst (v := (0 : Int32)) dX10_laysSegment_153 rfl ?_
        refine r_ior dX10_laysSegment_154 ?_
        obtain ⟨c13, t⟩ := t
        refine r_iast (c := 70) dX10_laysSegment_155 lay_70 c13 ?_
        refine r_iinc (k := 4) (v := x4 + (1 : Int32)) (lv' := [(4, .int (x4 + (1 : Int32))), (0, .ref (eA E 63)), (1, .int x1), (2, .int x2), (3, .int x3)]) dX10_laysSegment_156 rfl rfl (by decide) rfl ?_
        refine r_goto (tgt := 68) dX10_laysSegment_159 (by decide) ?_
        refine r_sub [1, 2, 3, 4, 0] rfl ?_
        exact t
      · have t := t.2 q12
        refine r_iconst (v := (1 : Int32)) dX10_laysSegment_146 rfl ?_
        refine r_iload (q := 4) dX10_laysSegment_147 rfl ?_
        refine r_ishl dX10_laysSegment_149 ?_
        refine r_goto (tgt := 154) dX10_laysSegment_150 (by decide) ?_
        refine r_ior dX10_laysSegment_154 ?_
        obtain ⟨c14, t⟩ := t
        refine r_iast (c := 70) dX10_laysSegment_155 lay_70 c14 ?_
        refine r_iinc (k := 4) (v := x4 + (1 : Int32)) (lv' := [(4, .int (x4 + (1 : Int32))), (0, .ref (eA E 63)), (1, .int x1), (2, .int x2), (3, .int x3)]) dX10_laysSegment_156 rfl rfl (by decide) rfl ?_
        refine r_goto (tgt := 68) dX10_laysSegment_159 (by decide) ?_
        refine r_sub [1, 2, 3, 4, 0] rfl ?_
        exact t
    · have t := t.2 q6
      refine r_iconst (v := (1 : Int32)) dX10_laysSegment_105 rfl ?_
      refine r_iload (q := 4) dX10_laysSegment_106 rfl ?_
      refine r_ishl dX10_laysSegment_108 ?_
      refine r_goto (tgt := 113) dX10_laysSegment_109 (by decide) ?_
      refine r_ior dX10_laysSegment_113 ?_
      obtain ⟨c15, t⟩ := t
      refine r_iast (c := 69) dX10_laysSegment_114 lay_69 c15 ?_
      refine r_aload_n (q := 0) dX10_laysSegment_115 rfl rfl ?_
      refine r_getR (c := 63) (c2 := 70) dX10_laysSegment_116 flX10_28 lay_63 rfl ?_
      refine r_iload_n (q := 3) dX10_laysSegment_119 rfl rfl ?_
      refine r_dup2 dX10_laysSegment_120 rfl rfl ?_
      obtain ⟨c16, t⟩ := t
      refine r_ialdv (c := 70) (v := h5.1 70 x3.toNatClampNeg) dX10_laysSegment_121 lay_70 c16 rfl ?_
      refine r_aload_n (q := 0) dX10_laysSegment_122 rfl rfl ?_
      refine r_aload_n (q := 0) dX10_laysSegment_123 rfl rfl ?_
      refine r_iload_n (q := 1) dX10_laysSegment_124 rfl rfl ?_
      refine r_iload_n (q := 2) dX10_laysSegment_125 rfl rfl ?_
      refine r_iload (q := 4) dX10_laysSegment_126 rfl ?_
      refine r_iadd dX10_laysSegment_128 ?_
      refine r_cVI (c := 63) (As := [.int x1, .int (x2 + x4)]) dX10_laysSegment_129 mkX10_at lkX10_150 lay_63 rfl rfl rfl (by decide) rfl (Nat.le_of_ble_eq_true rfl) z00 t ?_
      intro v17 h17 t
      refine r_aload_n (q := 0) dX10_laysSegment_132 rfl rfl ?_
      refine r_iload_n (q := 1) dX10_laysSegment_133 rfl rfl ?_
      refine r_iload_n (q := 2) dX10_laysSegment_134 rfl rfl ?_
      refine r_iload_n (q := 3) dX10_laysSegment_135 rfl rfl ?_
      refine r_iadd dX10_laysSegment_136 ?_
      refine r_cVI (c := 63) (As := [.int x1, .int (x2 + x3)]) dX10_laysSegment_137 mkX10_at lkX10_150 lay_63 rfl rfl rfl (by decide) rfl (Nat.le_of_ble_eq_true rfl) z00 t ?_
      intro v18 h18 t
      refine r_cVI (c := 63) (As := [.int v17, .int v18]) dX10_laysSegment_140 mkX10_isWeak lkX10_159 lay_63 rfl rfl rfl (by decide) rfl (Nat.le_of_ble_eq_true rfl) z00 t ?_
      intro v19 h19 t
      refine r_if_eq (tgt := 153) dX10_laysSegment_143 (by decide) (fun q20 => ?_) (fun q20 => ?_)
      · have t := t.1 q20
        refine r_iconst (v := (0 : Int32)) dX10_laysSegment_153 rfl ?_
        refine r_ior dX10_laysSegment_154 ?_
        obtain ⟨c21, t⟩ := t
        refine r_iast (c := 70) dX10_laysSegment_155 lay_70 c21 ?_
        refine r_iinc (k := 4) (v := x4 + (1 : Int32)) (lv' := [(4, .int (x4 + (1 : Int32))), (0, .ref (eA E 63)), (1, .int x1), (2, .int x2), (3, .int x3)]) dX10_laysSegment_156 rfl rfl (by decide) rfl ?_
        refine r_goto (tgt := 68) dX10_laysSegment_159 (by decide) ?_
        refine r_sub [1, 2, 3, 4, 0] rfl ?_
        exact t
      · have t := t.2 q20
        refine r_iconst (v := (1 : Int32)) dX10_laysSegment_146 rfl ?_
        refine r_iload (q := 4) dX10_laysSegment_147 rfl ?_
        refine r_ishl dX10_laysSegment_149 ?_
        refine r_goto (tgt := 154) dX10_laysSegment_150 (by decide) ?_
        refine r_ior dX10_laysSegment_154 ?_
        obtain ⟨c22, t⟩ := t
        refine r_iast (c := 70) dX10_laysSegment_155 lay_70 c22 ?_
        refine r_iinc (k := 4) (v := x4 + (1 : Int32)) (lv' := [(4, .int (x4 + (1 : Int32))), (0, .ref (eA E 63)), (1, .int x1), (2, .int x2), (3, .int x3)]) dX10_laysSegment_156 rfl rfl (by decide) rfl ?_
        refine r_goto (tgt := 68) dX10_laysSegment_159 (by decide) ?_
        refine r_sub [1, 2, 3, 4, 0] rfl ?_
        exact t
theorem dX10_laysWord_0 : decode cX10_laysWord 0 = .ok (.iconst 0, 1) := by decide +kernel
theorem dX10_laysWord_1 : decode cX10_laysWord 1 = .ok (.istore_n 2, 1) := by decide +kernel
theorem dX10_laysWord_2 : decode cX10_laysWord 2 = .ok (.iconst 0, 1) := by decide +kernel
theorem dX10_laysWord_3 : decode cX10_laysWord 3 = .ok (.istore_n 3, 1) := by decide +kernel
theorem dX10_laysWord_4 : decode cX10_laysWord 4 = .ok (.iload_n 3, 1) := by decide +kernel
theorem dX10_laysWord_5 : decode cX10_laysWord 5 = .ok (.aload_n 0, 1) := by decide +kernel
theorem dX10_laysWord_6 : decode cX10_laysWord 6 = .ok (.getfield 171, 3) := by decide +kernel
theorem dX10_laysWord_9 : decode cX10_laysWord 9 = .ok (.if_icmp .ge 41, 3) := by decide +kernel
theorem dX10_laysWord_12 : decode cX10_laysWord 12 = .ok (.iload_n 2, 1) := by decide +kernel
theorem dX10_laysWord_13 : decode cX10_laysWord 13 = .ok (.iload_n 1, 1) := by decide +kernel
theorem dX10_laysWord_14 : decode cX10_laysWord 14 = .ok (.iload_n 3, 1) := by decide +kernel
theorem dX10_laysWord_15 : decode cX10_laysWord 15 = .ok (.ishr, 1) := by decide +kernel
theorem dX10_laysWord_16 : decode cX10_laysWord 16 = .ok (.iconst 1, 1) := by decide +kernel
theorem dX10_laysWord_17 : decode cX10_laysWord 17 = .ok (.iand, 1) := by decide +kernel
theorem dX10_laysWord_18 : decode cX10_laysWord 18 = .ok (.iconst 1, 1) := by decide +kernel
theorem dX10_laysWord_19 : decode cX10_laysWord 19 = .ok (.if_icmp .ne 22, 3) := by decide +kernel
theorem dX10_laysWord_22 : decode cX10_laysWord 22 = .ok (.iconst 1, 1) := by decide +kernel
theorem dX10_laysWord_23 : decode cX10_laysWord 23 = .ok (.aload_n 0, 1) := by decide +kernel
theorem dX10_laysWord_24 : decode cX10_laysWord 24 = .ok (.aload_n 0, 1) := by decide +kernel
theorem dX10_laysWord_25 : decode cX10_laysWord 25 = .ok (.getfield 162, 3) := by decide +kernel
theorem dX10_laysWord_28 : decode cX10_laysWord 28 = .ok (.aload_n 0, 1) := by decide +kernel
theorem dX10_laysWord_29 : decode cX10_laysWord 29 = .ok (.getfield 165, 3) := by decide +kernel
theorem dX10_laysWord_32 : decode cX10_laysWord 32 = .ok (.iload_n 3, 1) := by decide +kernel
theorem dX10_laysWord_33 : decode cX10_laysWord 33 = .ok (.iadd, 1) := by decide +kernel
theorem dX10_laysWord_34 : decode cX10_laysWord 34 = .ok (.invokevirtual 150, 3) := by decide +kernel
theorem dX10_laysWord_37 : decode cX10_laysWord 37 = .ok (.ishl, 1) := by decide +kernel
theorem dX10_laysWord_38 : decode cX10_laysWord 38 = .ok (.goto 4, 3) := by decide +kernel
theorem dX10_laysWord_41 : decode cX10_laysWord 41 = .ok (.iconst 0, 1) := by decide +kernel
theorem dX10_laysWord_42 : decode cX10_laysWord 42 = .ok (.ior, 1) := by decide +kernel
theorem dX10_laysWord_43 : decode cX10_laysWord 43 = .ok (.istore_n 2, 1) := by decide +kernel
theorem dX10_laysWord_44 : decode cX10_laysWord 44 = .ok (.iinc 3 1, 3) := by decide +kernel
theorem dX10_laysWord_47 : decode cX10_laysWord 47 = .ok (.goto (-43), 3) := by decide +kernel
theorem dX10_laysWord_50 : decode cX10_laysWord 50 = .ok (.aload_n 0, 1) := by decide +kernel
theorem dX10_laysWord_51 : decode cX10_laysWord 51 = .ok (.getfield 40, 3) := by decide +kernel
theorem dX10_laysWord_54 : decode cX10_laysWord 54 = .ok (.aload_n 0, 1) := by decide +kernel
theorem dX10_laysWord_55 : decode cX10_laysWord 55 = .ok (.getfield 174, 3) := by decide +kernel
theorem dX10_laysWord_58 : decode cX10_laysWord 58 = .ok (.iload_n 2, 1) := by decide +kernel
theorem dX10_laysWord_59 : decode cX10_laysWord 59 = .ok (.iastore, 1) := by decide +kernel
theorem dX10_laysWord_60 : decode cX10_laysWord 60 = .ok (.aload_n 0, 1) := by decide +kernel
theorem dX10_laysWord_61 : decode cX10_laysWord 61 = .ok (.getfield 43, 3) := by decide +kernel
theorem dX10_laysWord_64 : decode cX10_laysWord 64 = .ok (.aload_n 0, 1) := by decide +kernel
theorem dX10_laysWord_65 : decode cX10_laysWord 65 = .ok (.getfield 174, 3) := by decide +kernel
theorem dX10_laysWord_68 : decode cX10_laysWord 68 = .ok (.iconst 0, 1) := by decide +kernel
theorem dX10_laysWord_69 : decode cX10_laysWord 69 = .ok (.iastore, 1) := by decide +kernel
theorem dX10_laysWord_70 : decode cX10_laysWord 70 = .ok (.aload_n 0, 1) := by decide +kernel
theorem dX10_laysWord_71 : decode cX10_laysWord 71 = .ok (.dup, 1) := by decide +kernel
theorem dX10_laysWord_72 : decode cX10_laysWord 72 = .ok (.getfield 174, 3) := by decide +kernel
theorem dX10_laysWord_75 : decode cX10_laysWord 75 = .ok (.iconst 1, 1) := by decide +kernel
theorem dX10_laysWord_76 : decode cX10_laysWord 76 = .ok (.iadd, 1) := by decide +kernel
theorem dX10_laysWord_77 : decode cX10_laysWord 77 = .ok (.putfield 174, 3) := by decide +kernel
theorem dX10_laysWord_80 : decode cX10_laysWord 80 = .ok (.return_, 1) := by decide +kernel
abbrev VX10_laysWord_4 (E : En) (d : Nat) (g : Ga) (P : Hp → Prop) (x1 : Int32) (x2 : Int32) (x3 : Int32) (h : Hp) : Prop := V E MX10_laysWord (RM (d + 1) 0) g (QQ E g (QV E P) 0 0) 0 0 h 4 [(0, .ref (eA E 63)), (1, .int x1), (2, .int x2), (3, .int x3)] []
set_option maxRecDepth 20000 in
theorem wp_X10_laysWord (E : En) (d : Nat) (a1 : Int32) (h : Hp) (P : Hp → Prop) (t : ∀ g : Ga, VX10_laysWord_4 E d g P a1 (0 : Int32) (0 : Int32) h) : SpV E (d + 1) MX10_laysWord [.ref (eA E 63), .int a1] h P := by
  refine SpV.of (lv0 := [(0, .ref (eA E 63)), (1, .int a1)]) (by decide) (Nat.le_of_ble_eq_true rfl) rfl (fun g => ?_)
  have t := t g
  refine r_iconst (v := (0 : Int32)) dX10_laysWord_0 rfl ?_
  refine r_istore_n (lv' := [(2, .int (0 : Int32)), (0, .ref (eA E 63)), (1, .int a1)]) dX10_laysWord_1 rfl (by decide) rfl ?_
  refine r_iconst (v := (0 : Int32)) dX10_laysWord_2 rfl ?_
  refine r_istore_n (lv' := [(3, .int (0 : Int32)), (2, .int (0 : Int32)), (0, .ref (eA E 63)), (1, .int a1)]) dX10_laysWord_3 rfl (by decide) rfl ?_
  refine r_sub [2, 3, 1, 0] rfl ?_
  exact t
set_option maxRecDepth 20000 in
theorem sg_X10_laysWord_4 (E : En) (d : Nat) (g : Ga) (x1 : Int32) (x2 : Int32) (x3 : Int32) (h : Hp) (P : Hp → Prop) (t : ((h.1 63 10) ≤ x3 → (vp_in (h.1 63 21) 192 ∧ (vp_in (h.1 63 21) 192 ∧ (P (sI (sI (sI h 74 ((h.1 63 21).toNatClampNeg) x2) 75 ((h.1 63 21).toNatClampNeg) (0 : Int32)) 63 21 ((h.1 63 21) + (1 : Int32))))))) ∧ (¬ (h.1 63 10) ≤ x3 → ((¬ ((x1 >>> (x3 &&& 31)) &&& (1 : Int32)) = (1 : Int32) → (VX10_laysWord_4 E d g P x1 (x2 ||| (0 : Int32)) (x3 + (1 : Int32)) h)) ∧ (((x1 >>> (x3 &&& 31)) &&& (1 : Int32)) = (1 : Int32) → (SpI E d MX10_at [.ref (eA E 63), .int (h.1 63 8), .int ((h.1 63 9) + x3)] h (fun v5 h5 => VX10_laysWord_4 E d g P x1 (x2 ||| ((1 : Int32) <<< (v5 &&& 31))) (x3 + (1 : Int32)) h5)))))) : VX10_laysWord_4 E d g P x1 x2 x3 h := by
  refine r_iload_n (q := 3) dX10_laysWord_4 rfl rfl ?_
  refine r_aload_n (q := 0) dX10_laysWord_5 rfl rfl ?_
  refine r_getI (c := 63) dX10_laysWord_6 flX10_171 lay_63 rfl ?_
  refine r_icmp_ge (tgt := 50) dX10_laysWord_9 (by decide) (fun q1 => ?_) (fun q1 => ?_)
  · have t := t.1 q1
    refine r_aload_n (q := 0) dX10_laysWord_50 rfl rfl ?_
    refine r_getR (c := 63) (c2 := 74) dX10_laysWord_51 flX10_40 lay_63 rfl ?_
    refine r_aload_n (q := 0) dX10_laysWord_54 rfl rfl ?_
    refine r_getI (c := 63) dX10_laysWord_55 flX10_174 lay_63 rfl ?_
    refine r_iload_n (q := 2) dX10_laysWord_58 rfl rfl ?_
    obtain ⟨c2, t⟩ := t
    refine r_iast (c := 74) dX10_laysWord_59 lay_74 c2 ?_
    refine r_aload_n (q := 0) dX10_laysWord_60 rfl rfl ?_
    refine r_getR (c := 63) (c2 := 75) dX10_laysWord_61 flX10_43 lay_63 rfl ?_
    refine r_aload_n (q := 0) dX10_laysWord_64 rfl rfl ?_
    refine r_getIv (c := 63) (v := h.1 63 21) dX10_laysWord_65 flX10_174 lay_63 rfl rfl ?_
    refine r_iconst (v := (0 : Int32)) dX10_laysWord_68 rfl ?_
    obtain ⟨c3, t⟩ := t
    refine r_iast (c := 75) dX10_laysWord_69 lay_75 c3 ?_
    refine r_aload_n (q := 0) dX10_laysWord_70 rfl rfl ?_
    refine r_dup dX10_laysWord_71 rfl ?_
    refine r_getIv (c := 63) (v := h.1 63 21) dX10_laysWord_72 flX10_174 lay_63 rfl rfl ?_
    refine r_iconst (v := (1 : Int32)) dX10_laysWord_75 rfl ?_
    refine r_iadd dX10_laysWord_76 ?_
    refine r_putI (c := 63) dX10_laysWord_77 flX10_174 lay_63 rfl ?_
    exact r_vret dX10_laysWord_80 rfl t
  · have t := t.2 q1
    refine r_iload_n (q := 2) dX10_laysWord_12 rfl rfl ?_
    refine r_iload_n (q := 1) dX10_laysWord_13 rfl rfl ?_
    refine r_iload_n (q := 3) dX10_laysWord_14 rfl rfl ?_
    refine r_ishr dX10_laysWord_15 ?_
    refine r_iconst (v := (1 : Int32)) dX10_laysWord_16 rfl ?_
    refine r_iand dX10_laysWord_17 ?_
    refine r_iconst (v := (1 : Int32)) dX10_laysWord_18 rfl ?_
    refine r_icmp_ne (tgt := 41) dX10_laysWord_19 (by decide) (fun q4 => ?_) (fun q4 => ?_)
    · have t := t.1 q4
      refine r_iconst (v := (0 : Int32)) dX10_laysWord_41 rfl ?_
      refine r_ior dX10_laysWord_42 ?_
      refine r_istore_n (lv' := [(2, .int (x2 ||| (0 : Int32))), (0, .ref (eA E 63)), (1, .int x1), (3, .int x3)]) dX10_laysWord_43 rfl (by decide) rfl ?_
      refine r_iinc (k := 3) (v := x3 + (1 : Int32)) (lv' := [(3, .int (x3 + (1 : Int32))), (2, .int (x2 ||| (0 : Int32))), (0, .ref (eA E 63)), (1, .int x1)]) dX10_laysWord_44 rfl rfl (by decide) rfl ?_
      refine r_goto (tgt := 4) dX10_laysWord_47 (by decide) ?_
      refine r_sub [2, 3, 1, 0] rfl ?_
      exact t
    · have t := t.2 q4
      refine r_iconst (v := (1 : Int32)) dX10_laysWord_22 rfl ?_
      refine r_aload_n (q := 0) dX10_laysWord_23 rfl rfl ?_
      refine r_aload_n (q := 0) dX10_laysWord_24 rfl rfl ?_
      refine r_getI (c := 63) dX10_laysWord_25 flX10_162 lay_63 rfl ?_
      refine r_aload_n (q := 0) dX10_laysWord_28 rfl rfl ?_
      refine r_getI (c := 63) dX10_laysWord_29 flX10_165 lay_63 rfl ?_
      refine r_iload_n (q := 3) dX10_laysWord_32 rfl rfl ?_
      refine r_iadd dX10_laysWord_33 ?_
      refine r_cVI (c := 63) (As := [.int (h.1 63 8), .int ((h.1 63 9) + x3)]) dX10_laysWord_34 mkX10_at lkX10_150 lay_63 rfl rfl rfl (by decide) rfl (Nat.le_of_ble_eq_true rfl) z00 t ?_
      intro v5 h5 t
      refine r_ishl dX10_laysWord_37 ?_
      refine r_goto (tgt := 42) dX10_laysWord_38 (by decide) ?_
      refine r_ior dX10_laysWord_42 ?_
      refine r_istore_n (lv' := [(2, .int (x2 ||| ((1 : Int32) <<< (v5 &&& 31)))), (0, .ref (eA E 63)), (1, .int x1), (3, .int x3)]) dX10_laysWord_43 rfl (by decide) rfl ?_
      refine r_iinc (k := 3) (v := x3 + (1 : Int32)) (lv' := [(3, .int (x3 + (1 : Int32))), (2, .int (x2 ||| ((1 : Int32) <<< (v5 &&& 31)))), (0, .ref (eA E 63)), (1, .int x1)]) dX10_laysWord_44 rfl rfl (by decide) rfl ?_
      refine r_goto (tgt := 4) dX10_laysWord_47 (by decide) ?_
      refine r_sub [2, 3, 1, 0] rfl ?_
      exact t
theorem dX10_packsByList_0 : decode cX10_packsByList 0 = .ok (.iconst 0, 1) := by decide +kernel
theorem dX10_packsByList_1 : decode cX10_packsByList 1 = .ok (.istore_n 1, 1) := by decide +kernel
theorem dX10_packsByList_2 : decode cX10_packsByList 2 = .ok (.iload_n 1, 1) := by decide +kernel
theorem dX10_packsByList_3 : decode cX10_packsByList 3 = .ok (.iconst 1, 1) := by decide +kernel
theorem dX10_packsByList_4 : decode cX10_packsByList 4 = .ok (.aload_n 0, 1) := by decide +kernel
theorem dX10_packsByList_5 : decode cX10_packsByList 5 = .ok (.getfield 171, 3) := by decide +kernel
theorem dX10_packsByList_8 : decode cX10_packsByList 8 = .ok (.ishl, 1) := by decide +kernel
theorem dX10_packsByList_9 : decode cX10_packsByList 9 = .ok (.iconst 1, 1) := by decide +kernel
theorem dX10_packsByList_10 : decode cX10_packsByList 10 = .ok (.isub, 1) := by decide +kernel
theorem dX10_packsByList_11 : decode cX10_packsByList 11 = .ok (.if_icmp .eq 124, 3) := by decide +kernel
theorem dX10_packsByList_14 : decode cX10_packsByList 14 = .ok (.iconst 0, 1) := by decide +kernel
theorem dX10_packsByList_15 : decode cX10_packsByList 15 = .ok (.istore_n 2, 1) := by decide +kernel
theorem dX10_packsByList_16 : decode cX10_packsByList 16 = .ok (.iconst 0, 1) := by decide +kernel
theorem dX10_packsByList_17 : decode cX10_packsByList 17 = .ok (.istore_n 3, 1) := by decide +kernel
theorem dX10_packsByList_18 : decode cX10_packsByList 18 = .ok (.iconst 0, 1) := by decide +kernel
theorem dX10_packsByList_19 : decode cX10_packsByList 19 = .ok (.istore 4, 2) := by decide +kernel
theorem dX10_packsByList_21 : decode cX10_packsByList 21 = .ok (.iload 4, 2) := by decide +kernel
theorem dX10_packsByList_23 : decode cX10_packsByList 23 = .ok (.aload_n 0, 1) := by decide +kernel
theorem dX10_packsByList_24 : decode cX10_packsByList 24 = .ok (.getfield 171, 3) := by decide +kernel
theorem dX10_packsByList_27 : decode cX10_packsByList 27 = .ok (.if_icmp .ge 96, 3) := by decide +kernel
theorem dX10_packsByList_30 : decode cX10_packsByList 30 = .ok (.iload_n 1, 1) := by decide +kernel
theorem dX10_packsByList_31 : decode cX10_packsByList 31 = .ok (.iload 4, 2) := by decide +kernel
theorem dX10_packsByList_33 : decode cX10_packsByList 33 = .ok (.ishr, 1) := by decide +kernel
theorem dX10_packsByList_34 : decode cX10_packsByList 34 = .ok (.iconst 1, 1) := by decide +kernel
theorem dX10_packsByList_35 : decode cX10_packsByList 35 = .ok (.iand, 1) := by decide +kernel
theorem dX10_packsByList_36 : decode cX10_packsByList 36 = .ok (.ifCond .ne 51, 3) := by decide +kernel
theorem dX10_packsByList_39 : decode cX10_packsByList 39 = .ok (.aload_n 0, 1) := by decide +kernel
theorem dX10_packsByList_40 : decode cX10_packsByList 40 = .ok (.getfield 25, 3) := by decide +kernel
theorem dX10_packsByList_43 : decode cX10_packsByList 43 = .ok (.iload 4, 2) := by decide +kernel
theorem dX10_packsByList_45 : decode cX10_packsByList 45 = .ok (.iaload, 1) := by decide +kernel
theorem dX10_packsByList_46 : decode cX10_packsByList 46 = .ok (.iload_n 1, 1) := by decide +kernel
theorem dX10_packsByList_47 : decode cX10_packsByList 47 = .ok (.iconst (-1), 1) := by decide +kernel
theorem dX10_packsByList_48 : decode cX10_packsByList 48 = .ok (.ixor, 1) := by decide +kernel
theorem dX10_packsByList_49 : decode cX10_packsByList 49 = .ok (.iand, 1) := by decide +kernel
theorem dX10_packsByList_50 : decode cX10_packsByList 50 = .ok (.ifCond .ne 37, 3) := by decide +kernel
theorem dX10_packsByList_53 : decode cX10_packsByList 53 = .ok (.aload_n 0, 1) := by decide +kernel
theorem dX10_packsByList_54 : decode cX10_packsByList 54 = .ok (.getfield 28, 3) := by decide +kernel
theorem dX10_packsByList_57 : decode cX10_packsByList 57 = .ok (.iload 4, 2) := by decide +kernel
theorem dX10_packsByList_59 : decode cX10_packsByList 59 = .ok (.iaload, 1) := by decide +kernel
theorem dX10_packsByList_60 : decode cX10_packsByList 60 = .ok (.iload_n 1, 1) := by decide +kernel
theorem dX10_packsByList_61 : decode cX10_packsByList 61 = .ok (.iload_n 2, 1) := by decide +kernel
theorem dX10_packsByList_62 : decode cX10_packsByList 62 = .ok (.ior, 1) := by decide +kernel
theorem dX10_packsByList_63 : decode cX10_packsByList 63 = .ok (.iconst (-1), 1) := by decide +kernel
theorem dX10_packsByList_64 : decode cX10_packsByList 64 = .ok (.ixor, 1) := by decide +kernel
theorem dX10_packsByList_65 : decode cX10_packsByList 65 = .ok (.iand, 1) := by decide +kernel
theorem dX10_packsByList_66 : decode cX10_packsByList 66 = .ok (.ifCond .ne 21, 3) := by decide +kernel
theorem dX10_packsByList_69 : decode cX10_packsByList 69 = .ok (.iload_n 3, 1) := by decide +kernel
theorem dX10_packsByList_70 : decode cX10_packsByList 70 = .ok (.aload_n 0, 1) := by decide +kernel
theorem dX10_packsByList_71 : decode cX10_packsByList 71 = .ok (.getfield 31, 3) := by decide +kernel
theorem dX10_packsByList_74 : decode cX10_packsByList 74 = .ok (.iload 4, 2) := by decide +kernel
theorem dX10_packsByList_76 : decode cX10_packsByList 76 = .ok (.iaload, 1) := by decide +kernel
theorem dX10_packsByList_77 : decode cX10_packsByList 77 = .ok (.ishr, 1) := by decide +kernel
theorem dX10_packsByList_78 : decode cX10_packsByList 78 = .ok (.iconst 1, 1) := by decide +kernel
theorem dX10_packsByList_79 : decode cX10_packsByList 79 = .ok (.iand, 1) := by decide +kernel
theorem dX10_packsByList_80 : decode cX10_packsByList 80 = .ok (.ifCond .ne 7, 3) := by decide +kernel
theorem dX10_packsByList_83 : decode cX10_packsByList 83 = .ok (.iconst 1, 1) := by decide +kernel
theorem dX10_packsByList_84 : decode cX10_packsByList 84 = .ok (.goto 4, 3) := by decide +kernel
theorem dX10_packsByList_87 : decode cX10_packsByList 87 = .ok (.iconst 0, 1) := by decide +kernel
theorem dX10_packsByList_88 : decode cX10_packsByList 88 = .ok (.istore 5, 2) := by decide +kernel
theorem dX10_packsByList_90 : decode cX10_packsByList 90 = .ok (.iload 5, 2) := by decide +kernel
theorem dX10_packsByList_92 : decode cX10_packsByList 92 = .ok (.ifCond .ne 6, 3) := by decide +kernel
theorem dX10_packsByList_95 : decode cX10_packsByList 95 = .ok (.goto 22, 3) := by decide +kernel
theorem dX10_packsByList_98 : decode cX10_packsByList 98 = .ok (.iload_n 2, 1) := by decide +kernel
theorem dX10_packsByList_99 : decode cX10_packsByList 99 = .ok (.iconst 1, 1) := by decide +kernel
theorem dX10_packsByList_100 : decode cX10_packsByList 100 = .ok (.iload 4, 2) := by decide +kernel
theorem dX10_packsByList_102 : decode cX10_packsByList 102 = .ok (.ishl, 1) := by decide +kernel
theorem dX10_packsByList_103 : decode cX10_packsByList 103 = .ok (.ior, 1) := by decide +kernel
theorem dX10_packsByList_104 : decode cX10_packsByList 104 = .ok (.istore_n 2, 1) := by decide +kernel
theorem dX10_packsByList_105 : decode cX10_packsByList 105 = .ok (.iload_n 3, 1) := by decide +kernel
theorem dX10_packsByList_106 : decode cX10_packsByList 106 = .ok (.iconst 1, 1) := by decide +kernel
theorem dX10_packsByList_107 : decode cX10_packsByList 107 = .ok (.aload_n 0, 1) := by decide +kernel
theorem dX10_packsByList_108 : decode cX10_packsByList 108 = .ok (.getfield 31, 3) := by decide +kernel
theorem dX10_packsByList_111 : decode cX10_packsByList 111 = .ok (.iload 4, 2) := by decide +kernel
theorem dX10_packsByList_113 : decode cX10_packsByList 113 = .ok (.iaload, 1) := by decide +kernel
theorem dX10_packsByList_114 : decode cX10_packsByList 114 = .ok (.ishl, 1) := by decide +kernel
theorem dX10_packsByList_115 : decode cX10_packsByList 115 = .ok (.ior, 1) := by decide +kernel
theorem dX10_packsByList_116 : decode cX10_packsByList 116 = .ok (.istore_n 3, 1) := by decide +kernel
theorem dX10_packsByList_117 : decode cX10_packsByList 117 = .ok (.iinc 4 1, 3) := by decide +kernel
theorem dX10_packsByList_120 : decode cX10_packsByList 120 = .ok (.goto (-99), 3) := by decide +kernel
theorem dX10_packsByList_123 : decode cX10_packsByList 123 = .ok (.aload_n 0, 1) := by decide +kernel
theorem dX10_packsByList_124 : decode cX10_packsByList 124 = .ok (.iload_n 2, 1) := by decide +kernel
theorem dX10_packsByList_125 : decode cX10_packsByList 125 = .ok (.invokevirtual 177, 3) := by decide +kernel
theorem dX10_packsByList_128 : decode cX10_packsByList 128 = .ok (.iload_n 1, 1) := by decide +kernel
theorem dX10_packsByList_129 : decode cX10_packsByList 129 = .ok (.iload_n 2, 1) := by decide +kernel
theorem dX10_packsByList_130 : decode cX10_packsByList 130 = .ok (.ior, 1) := by decide +kernel
theorem dX10_packsByList_131 : decode cX10_packsByList 131 = .ok (.istore_n 1, 1) := by decide +kernel
theorem dX10_packsByList_132 : decode cX10_packsByList 132 = .ok (.goto (-130), 3) := by decide +kernel
theorem dX10_packsByList_135 : decode cX10_packsByList 135 = .ok (.return_, 1) := by decide +kernel
abbrev VX10_packsByList_2 (E : En) (d : Nat) (g : Ga) (P : Hp → Prop) (x1 : Int32) (h : Hp) : Prop := V E MX10_packsByList (RM (d + 1) 0) g (QQ E g (QV E P) 0 0) 0 0 h 2 [(0, .ref (eA E 63)), (1, .int x1)] []
abbrev VX10_packsByList_21 (E : En) (d : Nat) (g : Ga) (P : Hp → Prop) (x1 : Int32) (x2 : Int32) (x3 : Int32) (x4 : Int32) (h : Hp) : Prop := V E MX10_packsByList (RM (d + 1) 0) g (QQ E g (QV E P) 0 0) 0 0 h 21 [(0, .ref (eA E 63)), (1, .int x1), (2, .int x2), (3, .int x3), (4, .int x4)] []
set_option maxRecDepth 20000 in
theorem wp_X10_packsByList (E : En) (d : Nat) (h : Hp) (P : Hp → Prop) (t : ∀ g : Ga, VX10_packsByList_2 E d g P (0 : Int32) h) : SpV E (d + 1) MX10_packsByList [.ref (eA E 63)] h P := by
  refine SpV.of (lv0 := [(0, .ref (eA E 63))]) (by decide) (Nat.le_of_ble_eq_true rfl) rfl (fun g => ?_)
  have t := t g
  refine r_iconst (v := (0 : Int32)) dX10_packsByList_0 rfl ?_
  refine r_istore_n (lv' := [(1, .int (0 : Int32)), (0, .ref (eA E 63))]) dX10_packsByList_1 rfl (by decide) rfl ?_
  refine r_sub [1, 0] rfl ?_
  exact t
set_option maxRecDepth 20000 in
theorem sg_X10_packsByList_2 (E : En) (d : Nat) (g : Ga) (x1 : Int32) (h : Hp) (P : Hp → Prop) (t : (x1 = (((1 : Int32) <<< ((h.1 63 10) &&& 31)) - (1 : Int32)) → (P h)) ∧ (¬ x1 = (((1 : Int32) <<< ((h.1 63 10) &&& 31)) - (1 : Int32)) → (VX10_packsByList_21 E d g P x1 (0 : Int32) (0 : Int32) (0 : Int32) h))) : VX10_packsByList_2 E d g P x1 h := by
  refine r_iload_n (q := 1) dX10_packsByList_2 rfl rfl ?_
  refine r_iconst (v := (1 : Int32)) dX10_packsByList_3 rfl ?_
  refine r_aload_n (q := 0) dX10_packsByList_4 rfl rfl ?_
  refine r_getI (c := 63) dX10_packsByList_5 flX10_171 lay_63 rfl ?_
  refine r_ishl dX10_packsByList_8 ?_
  refine r_iconst (v := (1 : Int32)) dX10_packsByList_9 rfl ?_
  refine r_isub dX10_packsByList_10 ?_
  refine r_icmp_eq (tgt := 135) dX10_packsByList_11 (by decide) (fun q1 => ?_) (fun q1 => ?_)
  · have t := t.1 q1
    exact r_vret dX10_packsByList_135 rfl t
  · have t := t.2 q1
    refine r_iconst (v := (0 : Int32)) dX10_packsByList_14 rfl ?_
    refine r_istore_n (lv' := [(2, .int (0 : Int32)), (0, .ref (eA E 63)), (1, .int x1)]) dX10_packsByList_15 rfl (by decide) rfl ?_
    refine r_iconst (v := (0 : Int32)) dX10_packsByList_16 rfl ?_
    refine r_istore_n (lv' := [(3, .int (0 : Int32)), (2, .int (0 : Int32)), (0, .ref (eA E 63)), (1, .int x1)]) dX10_packsByList_17 rfl (by decide) rfl ?_
    refine r_iconst (v := (0 : Int32)) dX10_packsByList_18 rfl ?_
    refine r_istore (lv' := [(4, .int (0 : Int32)), (3, .int (0 : Int32)), (2, .int (0 : Int32)), (0, .ref (eA E 63)), (1, .int x1)]) dX10_packsByList_19 (by decide) rfl ?_
    refine r_sub [3, 4, 2, 1, 0] rfl ?_
    exact t
set_option maxRecDepth 20000 in
theorem sg_X10_packsByList_21 (E : En) (d : Nat) (g : Ga) (x1 : Int32) (x2 : Int32) (x3 : Int32) (x4 : Int32) (h : Hp) (P : Hp → Prop) (t : ((h.1 63 10) ≤ x4 → (SpV E d MX10_laysWord [.ref (eA E 63), .int x2] h (fun h2 => VX10_packsByList_2 E d g P (x1 ||| x2) h2))) ∧ (¬ (h.1 63 10) ≤ x4 → ((¬ ((x1 >>> (x4 &&& 31)) &&& (1 : Int32)) = 0 → ((¬ (0 : Int32) = 0 → (vp_in x4 10 ∧ (VX10_packsByList_21 E d g P x1 (x2 ||| ((1 : Int32) <<< (x4 &&& 31))) (x3 ||| ((1 : Int32) <<< ((h.1 71 x4.toNatClampNeg) &&& 31))) (x4 + (1 : Int32)) h))) ∧ ((0 : Int32) = 0 → (VX10_packsByList_21 E d g P x1 x2 x3 (x4 + (1 : Int32)) h)))) ∧ (((x1 >>> (x4 &&& 31)) &&& (1 : Int32)) = 0 → (vp_in x4 10 ∧ ((¬ ((h.1 69 x4.toNatClampNeg) &&& (x1 ^^^ (-1 : Int32))) = 0 → ((¬ (0 : Int32) = 0 → (vp_in x4 10 ∧ (VX10_packsByList_21 E d g P x1 (x2 ||| ((1 : Int32) <<< (x4 &&& 31))) (x3 ||| ((1 : Int32) <<< ((h.1 71 x4.toNatClampNeg) &&& 31))) (x4 + (1 : Int32)) h))) ∧ ((0 : Int32) = 0 → (VX10_packsByList_21 E d g P x1 x2 x3 (x4 + (1 : Int32)) h)))) ∧ (((h.1 69 x4.toNatClampNeg) &&& (x1 ^^^ (-1 : Int32))) = 0 → (vp_in x4 10 ∧ ((¬ ((h.1 70 x4.toNatClampNeg) &&& ((x1 ||| x2) ^^^ (-1 : Int32))) = 0 → ((¬ (0 : Int32) = 0 → (vp_in x4 10 ∧ (VX10_packsByList_21 E d g P x1 (x2 ||| ((1 : Int32) <<< (x4 &&& 31))) (x3 ||| ((1 : Int32) <<< ((h.1 71 x4.toNatClampNeg) &&& 31))) (x4 + (1 : Int32)) h))) ∧ ((0 : Int32) = 0 → (VX10_packsByList_21 E d g P x1 x2 x3 (x4 + (1 : Int32)) h)))) ∧ (((h.1 70 x4.toNatClampNeg) &&& ((x1 ||| x2) ^^^ (-1 : Int32))) = 0 → (vp_in x4 10 ∧ ((¬ ((x3 >>> ((h.1 71 x4.toNatClampNeg) &&& 31)) &&& (1 : Int32)) = 0 → ((¬ (0 : Int32) = 0 → (vp_in x4 10 ∧ (VX10_packsByList_21 E d g P x1 (x2 ||| ((1 : Int32) <<< (x4 &&& 31))) (x3 ||| ((1 : Int32) <<< ((h.1 71 x4.toNatClampNeg) &&& 31))) (x4 + (1 : Int32)) h))) ∧ ((0 : Int32) = 0 → (VX10_packsByList_21 E d g P x1 x2 x3 (x4 + (1 : Int32)) h)))) ∧ (((x3 >>> ((h.1 71 x4.toNatClampNeg) &&& 31)) &&& (1 : Int32)) = 0 → ((¬ (1 : Int32) = 0 → (vp_in x4 10 ∧ (VX10_packsByList_21 E d g P x1 (x2 ||| ((1 : Int32) <<< (x4 &&& 31))) (x3 ||| ((1 : Int32) <<< ((h.1 71 x4.toNatClampNeg) &&& 31))) (x4 + (1 : Int32)) h))) ∧ ((1 : Int32) = 0 → (VX10_packsByList_21 E d g P x1 x2 x3 (x4 + (1 : Int32)) h)))))))))))))))) : VX10_packsByList_21 E d g P x1 x2 x3 x4 h := by
  refine r_iload (q := 4) dX10_packsByList_21 rfl ?_
  refine r_aload_n (q := 0) dX10_packsByList_23 rfl rfl ?_
  refine r_getI (c := 63) dX10_packsByList_24 flX10_171 lay_63 rfl ?_
  refine r_icmp_ge (tgt := 123) dX10_packsByList_27 (by decide) (fun q1 => ?_) (fun q1 => ?_)
  · have t := t.1 q1
    refine r_aload_n (q := 0) dX10_packsByList_123 rfl rfl ?_
    refine r_iload_n (q := 2) dX10_packsByList_124 rfl rfl ?_
    refine r_cVV (c := 63) (As := [.int x2]) dX10_packsByList_125 mkX10_laysWord lkX10_177 lay_63 rfl rfl rfl (by decide) rfl (Nat.le_of_ble_eq_true rfl) z00 t ?_
    intro h2 t
    refine r_iload_n (q := 1) dX10_packsByList_128 rfl rfl ?_
    refine r_iload_n (q := 2) dX10_packsByList_129 rfl rfl ?_
    refine r_ior dX10_packsByList_130 ?_
    refine r_istore_n (lv' := [(1, .int (x1 ||| x2)), (0, .ref (eA E 63)), (2, .int x2), (3, .int x3), (4, .int x4)]) dX10_packsByList_131 rfl (by decide) rfl ?_
    refine r_goto (tgt := 2) dX10_packsByList_132 (by decide) ?_
    refine r_sub [1, 0] rfl ?_
    exact t
  · have t := t.2 q1
    refine r_iload_n (q := 1) dX10_packsByList_30 rfl rfl ?_
    refine r_iload (q := 4) dX10_packsByList_31 rfl ?_
    refine r_ishr dX10_packsByList_33 ?_
    refine r_iconst (v := (1 : Int32)) dX10_packsByList_34 rfl ?_
    refine r_iand dX10_packsByList_35 ?_
    refine r_if_ne (tgt := 87) dX10_packsByList_36 (by decide) (fun q3 => ?_) (fun q3 => ?_)
    · have t := t.1 q3
      refine r_iconst (v := (0 : Int32)) dX10_packsByList_87 rfl ?_
      refine r_istore (lv' := [(5, .int (0 : Int32)), (0, .ref (eA E 63)), (1, .int x1), (2, .int x2), (3, .int x3), (4, .int x4)]) dX10_packsByList_88 (by decide) rfl ?_
      refine r_iload (q := 0) dX10_packsByList_90 rfl ?_
      refine r_if_ne (tgt := 98) dX10_packsByList_92 (by decide) (fun q4 => ?_) (fun q4 => ?_)
      · have t := t.1 q4
        refine r_iload_n (q := 3) dX10_packsByList_98 rfl rfl ?_
        refine r_iconst (v := (1 : Int32)) dX10_packsByList_99 rfl ?_
        refine r_iload (q := 5) dX10_packsByList_100 rfl ?_
        refine r_ishl dX10_packsByList_102 ?_
        refine r_ior dX10_packsByList_103 ?_
        refine r_istore_n (lv' := [(2, .int (x2 ||| ((1 : Int32) <<< (x4 &&& 31)))), (5, .int (0 : Int32)), (0, .ref (eA E 63)), (1, .int x1), (3, .int x3), (4, .int x4)]) dX10_packsByList_104 rfl (by decide) rfl ?_
        refine r_iload_n (q := 4) dX10_packsByList_105 rfl rfl ?_
        refine r_iconst (v := (1 : Int32)) dX10_packsByList_106 rfl ?_
        refine r_aload_n (q := 2) dX10_packsByList_107 rfl rfl ?_
        refine r_getR (c := 63) (c2 := 71) dX10_packsByList_108 flX10_31 lay_63 rfl ?_
        refine r_iload (q := 5) dX10_packsByList_111 rfl ?_
        obtain ⟨c5, t⟩ := t
        refine r_iald (c := 71) dX10_packsByList_113 lay_71 c5 ?_
        refine r_ishl dX10_packsByList_114 ?_
        refine r_ior dX10_packsByList_115 ?_
        refine r_istore_n (lv' := [(3, .int (x3 ||| ((1 : Int32) <<< ((h.1 71 x4.toNatClampNeg) &&& 31)))), (2, .int (x2 ||| ((1 : Int32) <<< (x4 &&& 31)))), (5, .int (0 : Int32)), (0, .ref (eA E 63)), (1, .int x1), (4, .int x4)]) dX10_packsByList_116 rfl (by decide) rfl ?_
        refine r_iinc (k := 5) (v := x4 + (1 : Int32)) (lv' := [(4, .int (x4 + (1 : Int32))), (3, .int (x3 ||| ((1 : Int32) <<< ((h.1 71 x4.toNatClampNeg) &&& 31)))), (2, .int (x2 ||| ((1 : Int32) <<< (x4 &&& 31)))), (5, .int (0 : Int32)), (0, .ref (eA E 63)), (1, .int x1)]) dX10_packsByList_117 rfl rfl (by decide) rfl ?_
        refine r_goto (tgt := 21) dX10_packsByList_120 (by decide) ?_
        refine r_sub [4, 5, 2, 1, 0] rfl ?_
        exact t
      · have t := t.2 q4
        refine r_goto (tgt := 117) dX10_packsByList_95 (by decide) ?_
        refine r_iinc (k := 5) (v := x4 + (1 : Int32)) (lv' := [(4, .int (x4 + (1 : Int32))), (5, .int (0 : Int32)), (0, .ref (eA E 63)), (1, .int x1), (2, .int x2), (3, .int x3)]) dX10_packsByList_117 rfl rfl (by decide) rfl ?_
        refine r_goto (tgt := 21) dX10_packsByList_120 (by decide) ?_
        refine r_sub [2, 3, 4, 5, 0] rfl ?_
        exact t
    · have t := t.2 q3
      refine r_aload_n (q := 0) dX10_packsByList_39 rfl rfl ?_
      refine r_getR (c := 63) (c2 := 69) dX10_packsByList_40 flX10_25 lay_63 rfl ?_
      refine r_iload (q := 4) dX10_packsByList_43 rfl ?_
      obtain ⟨c6, t⟩ := t
      refine r_iald (c := 69) dX10_packsByList_45 lay_69 c6 ?_
      refine r_iload_n (q := 1) dX10_packsByList_46 rfl rfl ?_
      refine r_iconst (v := (-1 : Int32)) dX10_packsByList_47 rfl ?_
      refine r_ixor dX10_packsByList_48 ?_
      refine r_iand dX10_packsByList_49 ?_
      refine r_if_ne (tgt := 87) dX10_packsByList_50 (by decide) (fun q7 => ?_) (fun q7 => ?_)
      · have t := t.1 q7
        refine r_iconst (v := (0 : Int32)) dX10_packsByList_87 rfl ?_
        refine r_istore (lv' := [(5, .int (0 : Int32)), (0, .ref (eA E 63)), (1, .int x1), (2, .int x2), (3, .int x3), (4, .int x4)]) dX10_packsByList_88 (by decide) rfl ?_
        refine r_iload (q := 0) dX10_packsByList_90 rfl ?_
        refine r_if_ne (tgt := 98) dX10_packsByList_92 (by decide) (fun q8 => ?_) (fun q8 => ?_)
        · have t := t.1 q8
          refine r_iload_n (q := 3) dX10_packsByList_98 rfl rfl ?_
          refine r_iconst (v := (1 : Int32)) dX10_packsByList_99 rfl ?_
          refine r_iload (q := 5) dX10_packsByList_100 rfl ?_
          refine r_ishl dX10_packsByList_102 ?_
          refine r_ior dX10_packsByList_103 ?_
          refine r_istore_n (lv' := [(2, .int (x2 ||| ((1 : Int32) <<< (x4 &&& 31)))), (5, .int (0 : Int32)), (0, .ref (eA E 63)), (1, .int x1), (3, .int x3), (4, .int x4)]) dX10_packsByList_104 rfl (by decide) rfl ?_
          refine r_iload_n (q := 4) dX10_packsByList_105 rfl rfl ?_
          refine r_iconst (v := (1 : Int32)) dX10_packsByList_106 rfl ?_
          refine r_aload_n (q := 2) dX10_packsByList_107 rfl rfl ?_
          refine r_getR (c := 63) (c2 := 71) dX10_packsByList_108 flX10_31 lay_63 rfl ?_
          refine r_iload (q := 5) dX10_packsByList_111 rfl ?_
          obtain ⟨c9, t⟩ := t
          refine r_iald (c := 71) dX10_packsByList_113 lay_71 c9 ?_
          refine r_ishl dX10_packsByList_114 ?_
          refine r_ior dX10_packsByList_115 ?_
          refine r_istore_n (lv' := [(3, .int (x3 ||| ((1 : Int32) <<< ((h.1 71 x4.toNatClampNeg) &&& 31)))), (2, .int (x2 ||| ((1 : Int32) <<< (x4 &&& 31)))), (5, .int (0 : Int32)), (0, .ref (eA E 63)), (1, .int x1), (4, .int x4)]) dX10_packsByList_116 rfl (by decide) rfl ?_
          refine r_iinc (k := 5) (v := x4 + (1 : Int32)) (lv' := [(4, .int (x4 + (1 : Int32))), (3, .int (x3 ||| ((1 : Int32) <<< ((h.1 71 x4.toNatClampNeg) &&& 31)))), (2, .int (x2 ||| ((1 : Int32) <<< (x4 &&& 31)))), (5, .int (0 : Int32)), (0, .ref (eA E 63)), (1, .int x1)]) dX10_packsByList_117 rfl rfl (by decide) rfl ?_
          refine r_goto (tgt := 21) dX10_packsByList_120 (by decide) ?_
          refine r_sub [4, 5, 2, 1, 0] rfl ?_
          exact t
        · have t := t.2 q8
          refine r_goto (tgt := 117) dX10_packsByList_95 (by decide) ?_
          refine r_iinc (k := 5) (v := x4 + (1 : Int32)) (lv' := [(4, .int (x4 + (1 : Int32))), (5, .int (0 : Int32)), (0, .ref (eA E 63)), (1, .int x1), (2, .int x2), (3, .int x3)]) dX10_packsByList_117 rfl rfl (by decide) rfl ?_
          refine r_goto (tgt := 21) dX10_packsByList_120 (by decide) ?_
          refine r_sub [2, 3, 4, 5, 0] rfl ?_
          exact t
      · have t := t.2 q7
        refine r_aload_n (q := 0) dX10_packsByList_53 rfl rfl ?_
        refine r_getR (c := 63) (c2 := 70) dX10_packsByList_54 flX10_28 lay_63 rfl ?_
        refine r_iload (q := 4) dX10_packsByList_57 rfl ?_
        obtain ⟨c10, t⟩ := t
        refine r_iald (c := 70) dX10_packsByList_59 lay_70 c10 ?_
        refine r_iload_n (q := 1) dX10_packsByList_60 rfl rfl ?_
        refine r_iload_n (q := 2) dX10_packsByList_61 rfl rfl ?_
        refine r_ior dX10_packsByList_62 ?_
        refine r_iconst (v := (-1 : Int32)) dX10_packsByList_63 rfl ?_
        refine r_ixor dX10_packsByList_64 ?_
        refine r_iand dX10_packsByList_65 ?_
        refine r_if_ne (tgt := 87) dX10_packsByList_66 (by decide) (fun q11 => ?_) (fun q11 => ?_)
        · have t := t.1 q11
          refine r_iconst (v := (0 : Int32)) dX10_packsByList_87 rfl ?_
          refine r_istore (lv' := [(5, .int (0 : Int32)), (0, .ref (eA E 63)), (1, .int x1), (2, .int x2), (3, .int x3), (4, .int x4)]) dX10_packsByList_88 (by decide) rfl ?_
          refine r_iload (q := 0) dX10_packsByList_90 rfl ?_
          refine r_if_ne (tgt := 98) dX10_packsByList_92 (by decide) (fun q12 => ?_) (fun q12 => ?_)
          · have t := t.1 q12
            refine r_iload_n (q := 3) dX10_packsByList_98 rfl rfl ?_
            refine r_iconst (v := (1 : Int32)) dX10_packsByList_99 rfl ?_
            refine r_iload (q := 5) dX10_packsByList_100 rfl ?_
            refine r_ishl dX10_packsByList_102 ?_
            refine r_ior dX10_packsByList_103 ?_
            refine r_istore_n (lv' := [(2, .int (x2 ||| ((1 : Int32) <<< (x4 &&& 31)))), (5, .int (0 : Int32)), (0, .ref (eA E 63)), (1, .int x1), (3, .int x3), (4, .int x4)]) dX10_packsByList_104 rfl (by decide) rfl ?_
            refine r_iload_n (q := 4) dX10_packsByList_105 rfl rfl ?_
            refine r_iconst (v := (1 : Int32)) dX10_packsByList_106 rfl ?_
            refine r_aload_n (q := 2) dX10_packsByList_107 rfl rfl ?_
            refine r_getR (c := 63) (c2 := 71) dX10_packsByList_108 flX10_31 lay_63 rfl ?_
            refine r_iload (q := 5) dX10_packsByList_111 rfl ?_
            obtain ⟨c13, t⟩ := t
            refine r_iald (c := 71) dX10_packsByList_113 lay_71 c13 ?_
            refine r_ishl dX10_packsByList_114 ?_
            refine r_ior dX10_packsByList_115 ?_
            refine r_istore_n (lv' := [(3, .int (x3 ||| ((1 : Int32) <<< ((h.1 71 x4.toNatClampNeg) &&& 31)))), (2, .int (x2 ||| ((1 : Int32) <<< (x4 &&& 31)))), (5, .int (0 : Int32)), (0, .ref (eA E 63)), (1, .int x1), (4, .int x4)]) dX10_packsByList_116 rfl (by decide) rfl ?_
            refine r_iinc (k := 5) (v := x4 + (1 : Int32)) (lv' := [(4, .int (x4 + (1 : Int32))), (3, .int (x3 ||| ((1 : Int32) <<< ((h.1 71 x4.toNatClampNeg) &&& 31)))), (2, .int (x2 ||| ((1 : Int32) <<< (x4 &&& 31)))), (5, .int (0 : Int32)), (0, .ref (eA E 63)), (1, .int x1)]) dX10_packsByList_117 rfl rfl (by decide) rfl ?_
            refine r_goto (tgt := 21) dX10_packsByList_120 (by decide) ?_
            refine r_sub [4, 5, 2, 1, 0] rfl ?_
            exact t
          · have t := t.2 q12
            refine r_goto (tgt := 117) dX10_packsByList_95 (by decide) ?_
            refine r_iinc (k := 5) (v := x4 + (1 : Int32)) (lv' := [(4, .int (x4 + (1 : Int32))), (5, .int (0 : Int32)), (0, .ref (eA E 63)), (1, .int x1), (2, .int x2), (3, .int x3)]) dX10_packsByList_117 rfl rfl (by decide) rfl ?_
            refine r_goto (tgt := 21) dX10_packsByList_120 (by decide) ?_
            refine r_sub [2, 3, 4, 5, 0] rfl ?_
            exact t
        · have t := t.2 q11
          refine r_iload_n (q := 3) dX10_packsByList_69 rfl rfl ?_
          refine r_aload_n (q := 0) dX10_packsByList_70 rfl rfl ?_
          refine r_getR (c := 63) (c2 := 71) dX10_packsByList_71 flX10_31 lay_63 rfl ?_
          refine r_iload (q := 4) dX10_packsByList_74 rfl ?_
          obtain ⟨c14, t⟩ := t
          refine r_iald (c := 71) dX10_packsByList_76 lay_71 c14 ?_
          refine r_ishr dX10_packsByList_77 ?_
          refine r_iconst (v := (1 : Int32)) dX10_packsByList_78 rfl ?_
          refine r_iand dX10_packsByList_79 ?_
          refine r_if_ne (tgt := 87) dX10_packsByList_80 (by decide) (fun q15 => ?_) (fun q15 => ?_)
          · have t := t.1 q15
            refine r_iconst (v := (0 : Int32)) dX10_packsByList_87 rfl ?_
            refine r_istore (lv' := [(5, .int (0 : Int32)), (0, .ref (eA E 63)), (1, .int x1), (2, .int x2), (3, .int x3), (4, .int x4)]) dX10_packsByList_88 (by decide) rfl ?_
            refine r_iload (q := 0) dX10_packsByList_90 rfl ?_
            refine r_if_ne (tgt := 98) dX10_packsByList_92 (by decide) (fun q16 => ?_) (fun q16 => ?_)
            · have t := t.1 q16
              refine r_iload_n (q := 3) dX10_packsByList_98 rfl rfl ?_
              refine r_iconst (v := (1 : Int32)) dX10_packsByList_99 rfl ?_
              refine r_iload (q := 5) dX10_packsByList_100 rfl ?_
              refine r_ishl dX10_packsByList_102 ?_
              refine r_ior dX10_packsByList_103 ?_
              refine r_istore_n (lv' := [(2, .int (x2 ||| ((1 : Int32) <<< (x4 &&& 31)))), (5, .int (0 : Int32)), (0, .ref (eA E 63)), (1, .int x1), (3, .int x3), (4, .int x4)]) dX10_packsByList_104 rfl (by decide) rfl ?_
              refine r_iload_n (q := 4) dX10_packsByList_105 rfl rfl ?_
              refine r_iconst (v := (1 : Int32)) dX10_packsByList_106 rfl ?_
              refine r_aload_n (q := 2) dX10_packsByList_107 rfl rfl ?_
              refine r_getR (c := 63) (c2 := 71) dX10_packsByList_108 flX10_31 lay_63 rfl ?_
              refine r_iload (q := 5) dX10_packsByList_111 rfl ?_
              obtain ⟨c17, t⟩ := t
              refine r_iald (c := 71) dX10_packsByList_113 lay_71 c17 ?_
              refine r_ishl dX10_packsByList_114 ?_
              refine r_ior dX10_packsByList_115 ?_
              refine r_istore_n (lv' := [(3, .int (x3 ||| ((1 : Int32) <<< ((h.1 71 x4.toNatClampNeg) &&& 31)))), (2, .int (x2 ||| ((1 : Int32) <<< (x4 &&& 31)))), (5, .int (0 : Int32)), (0, .ref (eA E 63)), (1, .int x1), (4, .int x4)]) dX10_packsByList_116 rfl (by decide) rfl ?_
              refine r_iinc (k := 5) (v := x4 + (1 : Int32)) (lv' := [(4, .int (x4 + (1 : Int32))), (3, .int (x3 ||| ((1 : Int32) <<< ((h.1 71 x4.toNatClampNeg) &&& 31)))), (2, .int (x2 ||| ((1 : Int32) <<< (x4 &&& 31)))), (5, .int (0 : Int32)), (0, .ref (eA E 63)), (1, .int x1)]) dX10_packsByList_117 rfl rfl (by decide) rfl ?_
              refine r_goto (tgt := 21) dX10_packsByList_120 (by decide) ?_
              refine r_sub [4, 5, 2, 1, 0] rfl ?_
              exact t
            · have t := t.2 q16
              refine r_goto (tgt := 117) dX10_packsByList_95 (by decide) ?_
              refine r_iinc (k := 5) (v := x4 + (1 : Int32)) (lv' := [(4, .int (x4 + (1 : Int32))), (5, .int (0 : Int32)), (0, .ref (eA E 63)), (1, .int x1), (2, .int x2), (3, .int x3)]) dX10_packsByList_117 rfl rfl (by decide) rfl ?_
              refine r_goto (tgt := 21) dX10_packsByList_120 (by decide) ?_
              refine r_sub [2, 3, 4, 5, 0] rfl ?_
              exact t
          · have t := t.2 q15
            refine r_iconst (v := (1 : Int32)) dX10_packsByList_83 rfl ?_
            refine r_goto (tgt := 88) dX10_packsByList_84 (by decide) ?_
            refine r_istore (lv' := [(5, .int (1 : Int32)), (0, .ref (eA E 63)), (1, .int x1), (2, .int x2), (3, .int x3), (4, .int x4)]) dX10_packsByList_88 (by decide) rfl ?_
            refine r_iload (q := 0) dX10_packsByList_90 rfl ?_
            refine r_if_ne (tgt := 98) dX10_packsByList_92 (by decide) (fun q18 => ?_) (fun q18 => ?_)
            · have t := t.1 q18
              refine r_iload_n (q := 3) dX10_packsByList_98 rfl rfl ?_
              refine r_iconst (v := (1 : Int32)) dX10_packsByList_99 rfl ?_
              refine r_iload (q := 5) dX10_packsByList_100 rfl ?_
              refine r_ishl dX10_packsByList_102 ?_
              refine r_ior dX10_packsByList_103 ?_
              refine r_istore_n (lv' := [(2, .int (x2 ||| ((1 : Int32) <<< (x4 &&& 31)))), (5, .int (1 : Int32)), (0, .ref (eA E 63)), (1, .int x1), (3, .int x3), (4, .int x4)]) dX10_packsByList_104 rfl (by decide) rfl ?_
              refine r_iload_n (q := 4) dX10_packsByList_105 rfl rfl ?_
              refine r_iconst (v := (1 : Int32)) dX10_packsByList_106 rfl ?_
              refine r_aload_n (q := 2) dX10_packsByList_107 rfl rfl ?_
              refine r_getR (c := 63) (c2 := 71) dX10_packsByList_108 flX10_31 lay_63 rfl ?_
              refine r_iload (q := 5) dX10_packsByList_111 rfl ?_
              obtain ⟨c19, t⟩ := t
              refine r_iald (c := 71) dX10_packsByList_113 lay_71 c19 ?_
              refine r_ishl dX10_packsByList_114 ?_
              refine r_ior dX10_packsByList_115 ?_
              refine r_istore_n (lv' := [(3, .int (x3 ||| ((1 : Int32) <<< ((h.1 71 x4.toNatClampNeg) &&& 31)))), (2, .int (x2 ||| ((1 : Int32) <<< (x4 &&& 31)))), (5, .int (1 : Int32)), (0, .ref (eA E 63)), (1, .int x1), (4, .int x4)]) dX10_packsByList_116 rfl (by decide) rfl ?_
              refine r_iinc (k := 5) (v := x4 + (1 : Int32)) (lv' := [(4, .int (x4 + (1 : Int32))), (3, .int (x3 ||| ((1 : Int32) <<< ((h.1 71 x4.toNatClampNeg) &&& 31)))), (2, .int (x2 ||| ((1 : Int32) <<< (x4 &&& 31)))), (5, .int (1 : Int32)), (0, .ref (eA E 63)), (1, .int x1)]) dX10_packsByList_117 rfl rfl (by decide) rfl ?_
              refine r_goto (tgt := 21) dX10_packsByList_120 (by decide) ?_
              refine r_sub [4, 5, 2, 1, 0] rfl ?_
              exact t
            · have t := t.2 q18
              refine r_goto (tgt := 117) dX10_packsByList_95 (by decide) ?_
              refine r_iinc (k := 5) (v := x4 + (1 : Int32)) (lv' := [(4, .int (x4 + (1 : Int32))), (5, .int (1 : Int32)), (0, .ref (eA E 63)), (1, .int x1), (2, .int x2), (3, .int x3)]) dX10_packsByList_117 rfl rfl (by decide) rfl ?_
              refine r_goto (tgt := 21) dX10_packsByList_120 (by decide) ?_
              refine r_sub [2, 3, 4, 5, 0] rfl ?_
              exact t
theorem dX10_mayBe_0 : decode cX10_mayBe 0 = .ok (.iconst 0, 1) := by decide +kernel
theorem dX10_mayBe_1 : decode cX10_mayBe 1 = .ok (.istore_n 3, 1) := by decide +kernel
theorem dX10_mayBe_2 : decode cX10_mayBe 2 = .ok (.iconst 0, 1) := by decide +kernel
theorem dX10_mayBe_3 : decode cX10_mayBe 3 = .ok (.istore 4, 2) := by decide +kernel
theorem dX10_mayBe_5 : decode cX10_mayBe 5 = .ok (.iload 4, 2) := by decide +kernel
theorem dX10_mayBe_7 : decode cX10_mayBe 7 = .ok (.aload_n 0, 1) := by decide +kernel
theorem dX10_mayBe_8 : decode cX10_mayBe 8 = .ok (.getfield 171, 3) := by decide +kernel
theorem dX10_mayBe_11 : decode cX10_mayBe 11 = .ok (.if_icmp .ge 80, 3) := by decide +kernel
theorem dX10_mayBe_14 : decode cX10_mayBe 14 = .ok (.iload_n 1, 1) := by decide +kernel
theorem dX10_mayBe_15 : decode cX10_mayBe 15 = .ok (.iload 4, 2) := by decide +kernel
theorem dX10_mayBe_17 : decode cX10_mayBe 17 = .ok (.ishr, 1) := by decide +kernel
theorem dX10_mayBe_18 : decode cX10_mayBe 18 = .ok (.iconst 1, 1) := by decide +kernel
theorem dX10_mayBe_19 : decode cX10_mayBe 19 = .ok (.iand, 1) := by decide +kernel
theorem dX10_mayBe_20 : decode cX10_mayBe 20 = .ok (.ifCond .ne 6, 3) := by decide +kernel
theorem dX10_mayBe_23 : decode cX10_mayBe 23 = .ok (.goto 62, 3) := by decide +kernel
theorem dX10_mayBe_26 : decode cX10_mayBe 26 = .ok (.aload_n 0, 1) := by decide +kernel
theorem dX10_mayBe_27 : decode cX10_mayBe 27 = .ok (.getfield 25, 3) := by decide +kernel
theorem dX10_mayBe_30 : decode cX10_mayBe 30 = .ok (.iload 4, 2) := by decide +kernel
theorem dX10_mayBe_32 : decode cX10_mayBe 32 = .ok (.iaload, 1) := by decide +kernel
theorem dX10_mayBe_33 : decode cX10_mayBe 33 = .ok (.iload_n 2, 1) := by decide +kernel
theorem dX10_mayBe_34 : decode cX10_mayBe 34 = .ok (.iconst (-1), 1) := by decide +kernel
theorem dX10_mayBe_35 : decode cX10_mayBe 35 = .ok (.ixor, 1) := by decide +kernel
theorem dX10_mayBe_36 : decode cX10_mayBe 36 = .ok (.iand, 1) := by decide +kernel
theorem dX10_mayBe_37 : decode cX10_mayBe 37 = .ok (.ifCond .ne 34, 3) := by decide +kernel
theorem dX10_mayBe_40 : decode cX10_mayBe 40 = .ok (.aload_n 0, 1) := by decide +kernel
theorem dX10_mayBe_41 : decode cX10_mayBe 41 = .ok (.getfield 28, 3) := by decide +kernel
theorem dX10_mayBe_44 : decode cX10_mayBe 44 = .ok (.iload 4, 2) := by decide +kernel
theorem dX10_mayBe_46 : decode cX10_mayBe 46 = .ok (.iaload, 1) := by decide +kernel
theorem dX10_mayBe_47 : decode cX10_mayBe 47 = .ok (.iload_n 2, 1) := by decide +kernel
theorem dX10_mayBe_48 : decode cX10_mayBe 48 = .ok (.iload_n 1, 1) := by decide +kernel
theorem dX10_mayBe_49 : decode cX10_mayBe 49 = .ok (.ior, 1) := by decide +kernel
theorem dX10_mayBe_50 : decode cX10_mayBe 50 = .ok (.iconst (-1), 1) := by decide +kernel
theorem dX10_mayBe_51 : decode cX10_mayBe 51 = .ok (.ixor, 1) := by decide +kernel
theorem dX10_mayBe_52 : decode cX10_mayBe 52 = .ok (.iand, 1) := by decide +kernel
theorem dX10_mayBe_53 : decode cX10_mayBe 53 = .ok (.ifCond .ne 18, 3) := by decide +kernel
theorem dX10_mayBe_56 : decode cX10_mayBe 56 = .ok (.iload_n 3, 1) := by decide +kernel
theorem dX10_mayBe_57 : decode cX10_mayBe 57 = .ok (.aload_n 0, 1) := by decide +kernel
theorem dX10_mayBe_58 : decode cX10_mayBe 58 = .ok (.getfield 31, 3) := by decide +kernel
theorem dX10_mayBe_61 : decode cX10_mayBe 61 = .ok (.iload 4, 2) := by decide +kernel
theorem dX10_mayBe_63 : decode cX10_mayBe 63 = .ok (.iaload, 1) := by decide +kernel
theorem dX10_mayBe_64 : decode cX10_mayBe 64 = .ok (.ishr, 1) := by decide +kernel
theorem dX10_mayBe_65 : decode cX10_mayBe 65 = .ok (.iconst 1, 1) := by decide +kernel
theorem dX10_mayBe_66 : decode cX10_mayBe 66 = .ok (.iand, 1) := by decide +kernel
theorem dX10_mayBe_67 : decode cX10_mayBe 67 = .ok (.iconst 1, 1) := by decide +kernel
theorem dX10_mayBe_68 : decode cX10_mayBe 68 = .ok (.if_icmp .ne 5, 3) := by decide +kernel
theorem dX10_mayBe_71 : decode cX10_mayBe 71 = .ok (.iconst 0, 1) := by decide +kernel
theorem dX10_mayBe_72 : decode cX10_mayBe 72 = .ok (.ireturn, 1) := by decide +kernel
theorem dX10_mayBe_73 : decode cX10_mayBe 73 = .ok (.iload_n 3, 1) := by decide +kernel
theorem dX10_mayBe_74 : decode cX10_mayBe 74 = .ok (.iconst 1, 1) := by decide +kernel
theorem dX10_mayBe_75 : decode cX10_mayBe 75 = .ok (.aload_n 0, 1) := by decide +kernel
theorem dX10_mayBe_76 : decode cX10_mayBe 76 = .ok (.getfield 31, 3) := by decide +kernel
theorem dX10_mayBe_79 : decode cX10_mayBe 79 = .ok (.iload 4, 2) := by decide +kernel
theorem dX10_mayBe_81 : decode cX10_mayBe 81 = .ok (.iaload, 1) := by decide +kernel
theorem dX10_mayBe_82 : decode cX10_mayBe 82 = .ok (.ishl, 1) := by decide +kernel
theorem dX10_mayBe_83 : decode cX10_mayBe 83 = .ok (.ior, 1) := by decide +kernel
theorem dX10_mayBe_84 : decode cX10_mayBe 84 = .ok (.istore_n 3, 1) := by decide +kernel
theorem dX10_mayBe_85 : decode cX10_mayBe 85 = .ok (.iinc 4 1, 3) := by decide +kernel
theorem dX10_mayBe_88 : decode cX10_mayBe 88 = .ok (.goto (-83), 3) := by decide +kernel
theorem dX10_mayBe_91 : decode cX10_mayBe 91 = .ok (.iconst 1, 1) := by decide +kernel
theorem dX10_mayBe_92 : decode cX10_mayBe 92 = .ok (.ireturn, 1) := by decide +kernel
abbrev VX10_mayBe_5 (E : En) (d : Nat) (g : Ga) (P : Int32 → Hp → Prop) (x1 : Int32) (x2 : Int32) (x3 : Int32) (x4 : Int32) (h : Hp) : Prop := V E MX10_mayBe (RM d 0) g (QQ E g (QI E P) 0 0) 0 0 h 5 [(0, .ref (eA E 63)), (1, .int x1), (2, .int x2), (3, .int x3), (4, .int x4)] []
set_option maxRecDepth 20000 in
theorem wp_X10_mayBe (E : En) (d : Nat) (a1 : Int32) (a2 : Int32) (h : Hp) (P : Int32 → Hp → Prop) (t : ∀ g : Ga, VX10_mayBe_5 E d g P a1 a2 (0 : Int32) (0 : Int32) h) : SpI E d MX10_mayBe [.ref (eA E 63), .int a1, .int a2] h P := by
  refine SpI.of (lv0 := [(0, .ref (eA E 63)), (1, .int a1), (2, .int a2)]) (by decide) (Nat.le_of_ble_eq_true rfl) rfl (fun g => ?_)
  have t := t g
  refine r_iconst (v := (0 : Int32)) dX10_mayBe_0 rfl ?_
  refine r_istore_n (lv' := [(3, .int (0 : Int32)), (0, .ref (eA E 63)), (1, .int a1), (2, .int a2)]) dX10_mayBe_1 rfl (by decide) rfl ?_
  refine r_iconst (v := (0 : Int32)) dX10_mayBe_2 rfl ?_
  refine r_istore (lv' := [(4, .int (0 : Int32)), (3, .int (0 : Int32)), (0, .ref (eA E 63)), (1, .int a1), (2, .int a2)]) dX10_mayBe_3 (by decide) rfl ?_
  refine r_sub [2, 3, 4, 1, 0] rfl ?_
  exact t
set_option maxRecDepth 20000 in
theorem sg_X10_mayBe_5 (E : En) (d : Nat) (g : Ga) (x1 : Int32) (x2 : Int32) (x3 : Int32) (x4 : Int32) (h : Hp) (P : Int32 → Hp → Prop) (t : ((h.1 63 10) ≤ x4 → (P (1 : Int32) h)) ∧ (¬ (h.1 63 10) ≤ x4 → ((¬ ((x1 >>> (x4 &&& 31)) &&& (1 : Int32)) = 0 → (vp_in x4 10 ∧ ((¬ ((h.1 69 x4.toNatClampNeg) &&& (x2 ^^^ (-1 : Int32))) = 0 → (P (0 : Int32) h)) ∧ (((h.1 69 x4.toNatClampNeg) &&& (x2 ^^^ (-1 : Int32))) = 0 → (vp_in x4 10 ∧ ((¬ ((h.1 70 x4.toNatClampNeg) &&& ((x2 ||| x1) ^^^ (-1 : Int32))) = 0 → (P (0 : Int32) h)) ∧ (((h.1 70 x4.toNatClampNeg) &&& ((x2 ||| x1) ^^^ (-1 : Int32))) = 0 → (vp_in x4 10 ∧ ((¬ ((x3 >>> ((h.1 71 x4.toNatClampNeg) &&& 31)) &&& (1 : Int32)) = (1 : Int32) → (vp_in x4 10 ∧ (VX10_mayBe_5 E d g P x1 x2 (x3 ||| ((1 : Int32) <<< ((h.1 71 x4.toNatClampNeg) &&& 31))) (x4 + (1 : Int32)) h))) ∧ (((x3 >>> ((h.1 71 x4.toNatClampNeg) &&& 31)) &&& (1 : Int32)) = (1 : Int32) → (P (0 : Int32) h))))))))))) ∧ (((x1 >>> (x4 &&& 31)) &&& (1 : Int32)) = 0 → (VX10_mayBe_5 E d g P x1 x2 x3 (x4 + (1 : Int32)) h))))) : VX10_mayBe_5 E d g P x1 x2 x3 x4 h := by
  refine r_iload (q := 4) dX10_mayBe_5 rfl ?_
  refine r_aload_n (q := 0) dX10_mayBe_7 rfl rfl ?_
  refine r_getI (c := 63) dX10_mayBe_8 flX10_171 lay_63 rfl ?_
  refine r_icmp_ge (tgt := 91) dX10_mayBe_11 (by decide) (fun q1 => ?_) (fun q1 => ?_)
  · have t := t.1 q1
    refine r_iconst (v := (1 : Int32)) dX10_mayBe_91 rfl ?_
    exact r_zret dX10_mayBe_92 rfl (Or.inr rfl) t
  · have t := t.2 q1
    refine r_iload_n (q := 1) dX10_mayBe_14 rfl rfl ?_
    refine r_iload (q := 4) dX10_mayBe_15 rfl ?_
    refine r_ishr dX10_mayBe_17 ?_
    refine r_iconst (v := (1 : Int32)) dX10_mayBe_18 rfl ?_
    refine r_iand dX10_mayBe_19 ?_
    refine r_if_ne (tgt := 26) dX10_mayBe_20 (by decide) (fun q2 => ?_) (fun q2 => ?_)
    · have t := t.1 q2
      refine r_aload_n (q := 0) dX10_mayBe_26 rfl rfl ?_
      refine r_getR (c := 63) (c2 := 69) dX10_mayBe_27 flX10_25 lay_63 rfl ?_
      refine r_iload (q := 4) dX10_mayBe_30 rfl ?_
      obtain ⟨c3, t⟩ := t
      refine r_iald (c := 69) dX10_mayBe_32 lay_69 c3 ?_
      refine r_iload_n (q := 2) dX10_mayBe_33 rfl rfl ?_
      refine r_iconst (v := (-1 : Int32)) dX10_mayBe_34 rfl ?_
      refine r_ixor dX10_mayBe_35 ?_
      refine r_iand dX10_mayBe_36 ?_
      refine r_if_ne (tgt := 71) dX10_mayBe_37 (by decide) (fun q4 => ?_) (fun q4 => ?_)
      · have t := t.1 q4
        refine r_iconst (v := (0 : Int32)) dX10_mayBe_71 rfl ?_
        exact r_zret dX10_mayBe_72 rfl (Or.inl rfl) t
      · have t := t.2 q4
        refine r_aload_n (q := 0) dX10_mayBe_40 rfl rfl ?_
        refine r_getR (c := 63) (c2 := 70) dX10_mayBe_41 flX10_28 lay_63 rfl ?_
        refine r_iload (q := 4) dX10_mayBe_44 rfl ?_
        obtain ⟨c5, t⟩ := t
        refine r_iald (c := 70) dX10_mayBe_46 lay_70 c5 ?_
        refine r_iload_n (q := 2) dX10_mayBe_47 rfl rfl ?_
        refine r_iload_n (q := 1) dX10_mayBe_48 rfl rfl ?_
        refine r_ior dX10_mayBe_49 ?_
        refine r_iconst (v := (-1 : Int32)) dX10_mayBe_50 rfl ?_
        refine r_ixor dX10_mayBe_51 ?_
        refine r_iand dX10_mayBe_52 ?_
        refine r_if_ne (tgt := 71) dX10_mayBe_53 (by decide) (fun q6 => ?_) (fun q6 => ?_)
        · have t := t.1 q6
          refine r_iconst (v := (0 : Int32)) dX10_mayBe_71 rfl ?_
          exact r_zret dX10_mayBe_72 rfl (Or.inl rfl) t
        · have t := t.2 q6
          refine r_iload_n (q := 3) dX10_mayBe_56 rfl rfl ?_
          refine r_aload_n (q := 0) dX10_mayBe_57 rfl rfl ?_
          refine r_getR (c := 63) (c2 := 71) dX10_mayBe_58 flX10_31 lay_63 rfl ?_
          refine r_iload (q := 4) dX10_mayBe_61 rfl ?_
          obtain ⟨c7, t⟩ := t
          refine r_iald (c := 71) dX10_mayBe_63 lay_71 c7 ?_
          refine r_ishr dX10_mayBe_64 ?_
          refine r_iconst (v := (1 : Int32)) dX10_mayBe_65 rfl ?_
          refine r_iand dX10_mayBe_66 ?_
          refine r_iconst (v := (1 : Int32)) dX10_mayBe_67 rfl ?_
          refine r_icmp_ne (tgt := 73) dX10_mayBe_68 (by decide) (fun q8 => ?_) (fun q8 => ?_)
          · have t := t.1 q8
            refine r_iload_n (q := 3) dX10_mayBe_73 rfl rfl ?_
            refine r_iconst (v := (1 : Int32)) dX10_mayBe_74 rfl ?_
            refine r_aload_n (q := 0) dX10_mayBe_75 rfl rfl ?_
            refine r_getR (c := 63) (c2 := 71) dX10_mayBe_76 flX10_31 lay_63 rfl ?_
            refine r_iload (q := 4) dX10_mayBe_79 rfl ?_
            obtain ⟨c9, t⟩ := t
            refine r_iald (c := 71) dX10_mayBe_81 lay_71 c9 ?_
            refine r_ishl dX10_mayBe_82 ?_
            refine r_ior dX10_mayBe_83 ?_
            refine r_istore_n (lv' := [(3, .int (x3 ||| ((1 : Int32) <<< ((h.1 71 x4.toNatClampNeg) &&& 31)))), (0, .ref (eA E 63)), (1, .int x1), (2, .int x2), (4, .int x4)]) dX10_mayBe_84 rfl (by decide) rfl ?_
            refine r_iinc (k := 4) (v := x4 + (1 : Int32)) (lv' := [(4, .int (x4 + (1 : Int32))), (3, .int (x3 ||| ((1 : Int32) <<< ((h.1 71 x4.toNatClampNeg) &&& 31)))), (0, .ref (eA E 63)), (1, .int x1), (2, .int x2)]) dX10_mayBe_85 rfl rfl (by decide) rfl ?_
            refine r_goto (tgt := 5) dX10_mayBe_88 (by decide) ?_
            refine r_sub [2, 3, 4, 1, 0] rfl ?_
            exact t
          · have t := t.2 q8
            refine r_iconst (v := (0 : Int32)) dX10_mayBe_71 rfl ?_
            exact r_zret dX10_mayBe_72 rfl (Or.inl rfl) t
    · have t := t.2 q2
      refine r_goto (tgt := 85) dX10_mayBe_23 (by decide) ?_
      refine r_iinc (k := 4) (v := x4 + (1 : Int32)) (lv' := [(4, .int (x4 + (1 : Int32))), (0, .ref (eA E 63)), (1, .int x1), (2, .int x2), (3, .int x3)]) dX10_mayBe_85 rfl rfl (by decide) rfl ?_
      refine r_goto (tgt := 5) dX10_mayBe_88 (by decide) ?_
      refine r_sub [1, 2, 3, 4, 0] rfl ?_
      exact t
theorem dX10_bestWord_0 : decode cX10_bestWord 0 = .ok (.iconst 1, 1) := by decide +kernel
theorem dX10_bestWord_1 : decode cX10_bestWord 1 = .ok (.aload_n 0, 1) := by decide +kernel
theorem dX10_bestWord_2 : decode cX10_bestWord 2 = .ok (.getfield 171, 3) := by decide +kernel
theorem dX10_bestWord_5 : decode cX10_bestWord 5 = .ok (.ishl, 1) := by decide +kernel
theorem dX10_bestWord_6 : decode cX10_bestWord 6 = .ok (.iconst 1, 1) := by decide +kernel
theorem dX10_bestWord_7 : decode cX10_bestWord 7 = .ok (.isub, 1) := by decide +kernel
theorem dX10_bestWord_8 : decode cX10_bestWord 8 = .ok (.iload_n 1, 1) := by decide +kernel
theorem dX10_bestWord_9 : decode cX10_bestWord 9 = .ok (.iconst (-1), 1) := by decide +kernel
theorem dX10_bestWord_10 : decode cX10_bestWord 10 = .ok (.ixor, 1) := by decide +kernel
theorem dX10_bestWord_11 : decode cX10_bestWord 11 = .ok (.iand, 1) := by decide +kernel
theorem dX10_bestWord_12 : decode cX10_bestWord 12 = .ok (.istore_n 2, 1) := by decide +kernel
theorem dX10_bestWord_13 : decode cX10_bestWord 13 = .ok (.iconst 0, 1) := by decide +kernel
theorem dX10_bestWord_14 : decode cX10_bestWord 14 = .ok (.istore_n 3, 1) := by decide +kernel
theorem dX10_bestWord_15 : decode cX10_bestWord 15 = .ok (.iload_n 2, 1) := by decide +kernel
theorem dX10_bestWord_16 : decode cX10_bestWord 16 = .ok (.istore 4, 2) := by decide +kernel
theorem dX10_bestWord_18 : decode cX10_bestWord 18 = .ok (.iload 4, 2) := by decide +kernel
theorem dX10_bestWord_20 : decode cX10_bestWord 20 = .ok (.ifCond .le 54, 3) := by decide +kernel
theorem dX10_bestWord_23 : decode cX10_bestWord 23 = .ok (.iload_n 3, 1) := by decide +kernel
theorem dX10_bestWord_24 : decode cX10_bestWord 24 = .ok (.ifCond .le 23, 3) := by decide +kernel
theorem dX10_bestWord_27 : decode cX10_bestWord 27 = .ok (.aload_n 0, 1) := by decide +kernel
theorem dX10_bestWord_28 : decode cX10_bestWord 28 = .ok (.getfield 34, 3) := by decide +kernel
theorem dX10_bestWord_31 : decode cX10_bestWord 31 = .ok (.iload_n 1, 1) := by decide +kernel
theorem dX10_bestWord_32 : decode cX10_bestWord 32 = .ok (.iload 4, 2) := by decide +kernel
theorem dX10_bestWord_34 : decode cX10_bestWord 34 = .ok (.ior, 1) := by decide +kernel
theorem dX10_bestWord_35 : decode cX10_bestWord 35 = .ok (.iaload, 1) := by decide +kernel
theorem dX10_bestWord_36 : decode cX10_bestWord 36 = .ok (.aload_n 0, 1) := by decide +kernel
theorem dX10_bestWord_37 : decode cX10_bestWord 37 = .ok (.getfield 34, 3) := by decide +kernel
theorem dX10_bestWord_40 : decode cX10_bestWord 40 = .ok (.iload_n 1, 1) := by decide +kernel
theorem dX10_bestWord_41 : decode cX10_bestWord 41 = .ok (.iload_n 3, 1) := by decide +kernel
theorem dX10_bestWord_42 : decode cX10_bestWord 42 = .ok (.ior, 1) := by decide +kernel
theorem dX10_bestWord_43 : decode cX10_bestWord 43 = .ok (.iaload, 1) := by decide +kernel
theorem dX10_bestWord_44 : decode cX10_bestWord 44 = .ok (.if_icmp .ge 19, 3) := by decide +kernel
theorem dX10_bestWord_47 : decode cX10_bestWord 47 = .ok (.aload_n 0, 1) := by decide +kernel
theorem dX10_bestWord_48 : decode cX10_bestWord 48 = .ok (.iload 4, 2) := by decide +kernel
theorem dX10_bestWord_50 : decode cX10_bestWord 50 = .ok (.iload_n 1, 1) := by decide +kernel
theorem dX10_bestWord_51 : decode cX10_bestWord 51 = .ok (.invokevirtual 181, 3) := by decide +kernel
theorem dX10_bestWord_54 : decode cX10_bestWord 54 = .ok (.ifCond .ne 6, 3) := by decide +kernel
theorem dX10_bestWord_57 : decode cX10_bestWord 57 = .ok (.goto 6, 3) := by decide +kernel
theorem dX10_bestWord_60 : decode cX10_bestWord 60 = .ok (.iload 4, 2) := by decide +kernel
theorem dX10_bestWord_62 : decode cX10_bestWord 62 = .ok (.istore_n 3, 1) := by decide +kernel
theorem dX10_bestWord_63 : decode cX10_bestWord 63 = .ok (.iload 4, 2) := by decide +kernel
theorem dX10_bestWord_65 : decode cX10_bestWord 65 = .ok (.iconst 1, 1) := by decide +kernel
theorem dX10_bestWord_66 : decode cX10_bestWord 66 = .ok (.isub, 1) := by decide +kernel
theorem dX10_bestWord_67 : decode cX10_bestWord 67 = .ok (.iload_n 2, 1) := by decide +kernel
theorem dX10_bestWord_68 : decode cX10_bestWord 68 = .ok (.iand, 1) := by decide +kernel
theorem dX10_bestWord_69 : decode cX10_bestWord 69 = .ok (.istore 4, 2) := by decide +kernel
theorem dX10_bestWord_71 : decode cX10_bestWord 71 = .ok (.goto (-53), 3) := by decide +kernel
theorem dX10_bestWord_74 : decode cX10_bestWord 74 = .ok (.iload_n 3, 1) := by decide +kernel
theorem dX10_bestWord_75 : decode cX10_bestWord 75 = .ok (.ireturn, 1) := by decide +kernel
abbrev VX10_bestWord_18 (E : En) (d : Nat) (g : Ga) (P : Int32 → Hp → Prop) (x1 : Int32) (x2 : Int32) (x3 : Int32) (x4 : Int32) (h : Hp) : Prop := V E MX10_bestWord (RM (d + 1) 0) g (QQ E g (QI E P) 0 0) 0 0 h 18 [(0, .ref (eA E 63)), (1, .int x1), (2, .int x2), (3, .int x3), (4, .int x4)] []
set_option maxRecDepth 20000 in
theorem wp_X10_bestWord (E : En) (d : Nat) (a1 : Int32) (h : Hp) (P : Int32 → Hp → Prop) (t : ∀ g : Ga, VX10_bestWord_18 E d g P a1 ((((1 : Int32) <<< ((h.1 63 10) &&& 31)) - (1 : Int32)) &&& (a1 ^^^ (-1 : Int32))) (0 : Int32) ((((1 : Int32) <<< ((h.1 63 10) &&& 31)) - (1 : Int32)) &&& (a1 ^^^ (-1 : Int32))) h) : SpI E (d + 1) MX10_bestWord [.ref (eA E 63), .int a1] h P := by
  refine SpI.of (lv0 := [(0, .ref (eA E 63)), (1, .int a1)]) (by decide) (Nat.le_of_ble_eq_true rfl) rfl (fun g => ?_)
  have t := t g
  refine r_iconst (v := (1 : Int32)) dX10_bestWord_0 rfl ?_
  refine r_aload_n (q := 0) dX10_bestWord_1 rfl rfl ?_
  refine r_getI (c := 63) dX10_bestWord_2 flX10_171 lay_63 rfl ?_
  refine r_ishl dX10_bestWord_5 ?_
  refine r_iconst (v := (1 : Int32)) dX10_bestWord_6 rfl ?_
  refine r_isub dX10_bestWord_7 ?_
  refine r_iload_n (q := 1) dX10_bestWord_8 rfl rfl ?_
  refine r_iconst (v := (-1 : Int32)) dX10_bestWord_9 rfl ?_
  refine r_ixor dX10_bestWord_10 ?_
  refine r_iand dX10_bestWord_11 ?_
  refine r_istore_n (lv' := [(2, .int ((((1 : Int32) <<< ((h.1 63 10) &&& 31)) - (1 : Int32)) &&& (a1 ^^^ (-1 : Int32)))), (0, .ref (eA E 63)), (1, .int a1)]) dX10_bestWord_12 rfl (by decide) rfl ?_
  refine r_iconst (v := (0 : Int32)) dX10_bestWord_13 rfl ?_
  refine r_istore_n (lv' := [(3, .int (0 : Int32)), (2, .int ((((1 : Int32) <<< ((h.1 63 10) &&& 31)) - (1 : Int32)) &&& (a1 ^^^ (-1 : Int32)))), (0, .ref (eA E 63)), (1, .int a1)]) dX10_bestWord_14 rfl (by decide) rfl ?_
  refine r_iload_n (q := 1) dX10_bestWord_15 rfl rfl ?_
  refine r_istore (lv' := [(4, .int ((((1 : Int32) <<< ((h.1 63 10) &&& 31)) - (1 : Int32)) &&& (a1 ^^^ (-1 : Int32)))), (3, .int (0 : Int32)), (2, .int ((((1 : Int32) <<< ((h.1 63 10) &&& 31)) - (1 : Int32)) &&& (a1 ^^^ (-1 : Int32)))), (0, .ref (eA E 63)), (1, .int a1)]) dX10_bestWord_16 (by decide) rfl ?_
  refine r_sub [3, 4, 2, 1, 0] rfl ?_
  exact t
set_option maxRecDepth 20000 in
theorem sg_X10_bestWord_18 (E : En) (d : Nat) (g : Ga) (x1 : Int32) (x2 : Int32) (x3 : Int32) (x4 : Int32) (h : Hp) (P : Int32 → Hp → Prop) (t : (x4 ≤ 0 → (P x3 h)) ∧ (¬ x4 ≤ 0 → ((x3 ≤ 0 → (SpI E d MX10_mayBe [.ref (eA E 63), .int x4, .int x1] h (fun v3 h3 => (¬ v3 = 0 → (VX10_bestWord_18 E d g P x1 x2 x4 ((x4 - (1 : Int32)) &&& x2) h3)) ∧ (v3 = 0 → (VX10_bestWord_18 E d g P x1 x2 x3 ((x4 - (1 : Int32)) &&& x2) h3))))) ∧ (¬ x3 ≤ 0 → (vp_in (x1 ||| x4) 1024 ∧ (vp_in (x1 ||| x3) 1024 ∧ (((h.1 72 ((x1 ||| x3).toNatClampNeg)) ≤ (h.1 72 ((x1 ||| x4).toNatClampNeg)) → (VX10_bestWord_18 E d g P x1 x2 x3 ((x4 - (1 : Int32)) &&& x2) h)) ∧ (¬ (h.1 72 ((x1 ||| x3).toNatClampNeg)) ≤ (h.1 72 ((x1 ||| x4).toNatClampNeg)) → (SpI E d MX10_mayBe [.ref (eA E 63), .int x4, .int x1] h (fun v8 h8 => (¬ v8 = 0 → (VX10_bestWord_18 E d g P x1 x2 x4 ((x4 - (1 : Int32)) &&& x2) h8)) ∧ (v8 = 0 → (VX10_bestWord_18 E d g P x1 x2 x3 ((x4 - (1 : Int32)) &&& x2) h8)))))))))))) : VX10_bestWord_18 E d g P x1 x2 x3 x4 h := by
  refine r_iload (q := 4) dX10_bestWord_18 rfl ?_
  refine r_if_le (tgt := 74) dX10_bestWord_20 (by decide) (fun q1 => ?_) (fun q1 => ?_)
  · have t := t.1 q1
    refine r_iload_n (q := 3) dX10_bestWord_74 rfl rfl ?_
    exact r_iret dX10_bestWord_75 rfl t
  · have t := t.2 q1
    refine r_iload_n (q := 3) dX10_bestWord_23 rfl rfl ?_
    refine r_if_le (tgt := 47) dX10_bestWord_24 (by decide) (fun q2 => ?_) (fun q2 => ?_)
    · have t := t.1 q2
      refine r_aload_n (q := 0) dX10_bestWord_47 rfl rfl ?_
      refine r_iload (q := 4) dX10_bestWord_48 rfl ?_
      refine r_iload_n (q := 1) dX10_bestWord_50 rfl rfl ?_
      refine r_cVI (c := 63) (As := [.int x4, .int x1]) dX10_bestWord_51 mkX10_mayBe lkX10_181 lay_63 rfl rfl rfl (by decide) rfl (Nat.le_of_ble_eq_true rfl) z00 t ?_
      intro v3 h3 t
      refine r_if_ne (tgt := 60) dX10_bestWord_54 (by decide) (fun q4 => ?_) (fun q4 => ?_)
      · have t := t.1 q4
        refine r_iload (q := 4) dX10_bestWord_60 rfl ?_
        refine r_istore_n (lv' := [(3, .int x4), (0, .ref (eA E 63)), (1, .int x1), (2, .int x2), (4, .int x4)]) dX10_bestWord_62 rfl (by decide) rfl ?_
        refine r_iload (q := 4) dX10_bestWord_63 rfl ?_
        refine r_iconst (v := (1 : Int32)) dX10_bestWord_65 rfl ?_
        refine r_isub dX10_bestWord_66 ?_
        refine r_iload_n (q := 3) dX10_bestWord_67 rfl rfl ?_
        refine r_iand dX10_bestWord_68 ?_
        refine r_istore (lv' := [(4, .int ((x4 - (1 : Int32)) &&& x2)), (3, .int x4), (0, .ref (eA E 63)), (1, .int x1), (2, .int x2)]) dX10_bestWord_69 (by decide) rfl ?_
        refine r_goto (tgt := 18) dX10_bestWord_71 (by decide) ?_
        refine r_sub [2, 3, 4, 1, 0] rfl ?_
        exact t
      · have t := t.2 q4
        refine r_goto (tgt := 63) dX10_bestWord_57 (by decide) ?_
        refine r_iload (q := 4) dX10_bestWord_63 rfl ?_
        refine r_iconst (v := (1 : Int32)) dX10_bestWord_65 rfl ?_
        refine r_isub dX10_bestWord_66 ?_
        refine r_iload_n (q := 2) dX10_bestWord_67 rfl rfl ?_
        refine r_iand dX10_bestWord_68 ?_
        refine r_istore (lv' := [(4, .int ((x4 - (1 : Int32)) &&& x2)), (0, .ref (eA E 63)), (1, .int x1), (2, .int x2), (3, .int x3)]) dX10_bestWord_69 (by decide) rfl ?_
        refine r_goto (tgt := 18) dX10_bestWord_71 (by decide) ?_
        refine r_sub [1, 2, 3, 4, 0] rfl ?_
        exact t
    · have t := t.2 q2
      refine r_aload_n (q := 0) dX10_bestWord_27 rfl rfl ?_
      refine r_getR (c := 63) (c2 := 72) dX10_bestWord_28 flX10_34 lay_63 rfl ?_
      refine r_iload_n (q := 1) dX10_bestWord_31 rfl rfl ?_
      refine r_iload (q := 4) dX10_bestWord_32 rfl ?_
      refine r_ior dX10_bestWord_34 ?_
      obtain ⟨c5, t⟩ := t
      refine r_iald (c := 72) dX10_bestWord_35 lay_72 c5 ?_
      refine r_aload_n (q := 0) dX10_bestWord_36 rfl rfl ?_
      refine r_getR (c := 63) (c2 := 72) dX10_bestWord_37 flX10_34 lay_63 rfl ?_
      refine r_iload_n (q := 1) dX10_bestWord_40 rfl rfl ?_
      refine r_iload_n (q := 3) dX10_bestWord_41 rfl rfl ?_
      refine r_ior dX10_bestWord_42 ?_
      obtain ⟨c6, t⟩ := t
      refine r_iald (c := 72) dX10_bestWord_43 lay_72 c6 ?_
      refine r_icmp_ge (tgt := 63) dX10_bestWord_44 (by decide) (fun q7 => ?_) (fun q7 => ?_)
      · have t := t.1 q7
        refine r_iload (q := 4) dX10_bestWord_63 rfl ?_
        refine r_iconst (v := (1 : Int32)) dX10_bestWord_65 rfl ?_
        refine r_isub dX10_bestWord_66 ?_
        refine r_iload_n (q := 2) dX10_bestWord_67 rfl rfl ?_
        refine r_iand dX10_bestWord_68 ?_
        refine r_istore (lv' := [(4, .int ((x4 - (1 : Int32)) &&& x2)), (0, .ref (eA E 63)), (1, .int x1), (2, .int x2), (3, .int x3)]) dX10_bestWord_69 (by decide) rfl ?_
        refine r_goto (tgt := 18) dX10_bestWord_71 (by decide) ?_
        refine r_sub [1, 2, 3, 4, 0] rfl ?_
        exact t
      · have t := t.2 q7
        refine r_aload_n (q := 0) dX10_bestWord_47 rfl rfl ?_
        refine r_iload (q := 4) dX10_bestWord_48 rfl ?_
        refine r_iload_n (q := 1) dX10_bestWord_50 rfl rfl ?_
        refine r_cVI (c := 63) (As := [.int x4, .int x1]) dX10_bestWord_51 mkX10_mayBe lkX10_181 lay_63 rfl rfl rfl (by decide) rfl (Nat.le_of_ble_eq_true rfl) z00 t ?_
        intro v8 h8 t
        refine r_if_ne (tgt := 60) dX10_bestWord_54 (by decide) (fun q9 => ?_) (fun q9 => ?_)
        · have t := t.1 q9
          refine r_iload (q := 4) dX10_bestWord_60 rfl ?_
          refine r_istore_n (lv' := [(3, .int x4), (0, .ref (eA E 63)), (1, .int x1), (2, .int x2), (4, .int x4)]) dX10_bestWord_62 rfl (by decide) rfl ?_
          refine r_iload (q := 4) dX10_bestWord_63 rfl ?_
          refine r_iconst (v := (1 : Int32)) dX10_bestWord_65 rfl ?_
          refine r_isub dX10_bestWord_66 ?_
          refine r_iload_n (q := 3) dX10_bestWord_67 rfl rfl ?_
          refine r_iand dX10_bestWord_68 ?_
          refine r_istore (lv' := [(4, .int ((x4 - (1 : Int32)) &&& x2)), (3, .int x4), (0, .ref (eA E 63)), (1, .int x1), (2, .int x2)]) dX10_bestWord_69 (by decide) rfl ?_
          refine r_goto (tgt := 18) dX10_bestWord_71 (by decide) ?_
          refine r_sub [2, 3, 4, 1, 0] rfl ?_
          exact t
        · have t := t.2 q9
          refine r_goto (tgt := 63) dX10_bestWord_57 (by decide) ?_
          refine r_iload (q := 4) dX10_bestWord_63 rfl ?_
          refine r_iconst (v := (1 : Int32)) dX10_bestWord_65 rfl ?_
          refine r_isub dX10_bestWord_66 ?_
          refine r_iload_n (q := 2) dX10_bestWord_67 rfl rfl ?_
          refine r_iand dX10_bestWord_68 ?_
          refine r_istore (lv' := [(4, .int ((x4 - (1 : Int32)) &&& x2)), (0, .ref (eA E 63)), (1, .int x1), (2, .int x2), (3, .int x3)]) dX10_bestWord_69 (by decide) rfl ?_
          refine r_goto (tgt := 18) dX10_bestWord_71 (by decide) ?_
          refine r_sub [1, 2, 3, 4, 0] rfl ?_
          exact t
theorem dX10_packsBest_0 : decode cX10_packsBest 0 = .ok (.iconst 1, 1) := by decide +kernel
theorem dX10_packsBest_1 : decode cX10_packsBest 1 = .ok (.aload_n 0, 1) := by decide +kernel
theorem dX10_packsBest_2 : decode cX10_packsBest 2 = .ok (.getfield 171, 3) := by decide +kernel
theorem dX10_packsBest_5 : decode cX10_packsBest 5 = .ok (.ishl, 1) := by decide +kernel
theorem dX10_packsBest_6 : decode cX10_packsBest 6 = .ok (.iconst 1, 1) := by decide +kernel
theorem dX10_packsBest_7 : decode cX10_packsBest 7 = .ok (.isub, 1) := by decide +kernel
theorem dX10_packsBest_8 : decode cX10_packsBest 8 = .ok (.istore_n 1, 1) := by decide +kernel
theorem dX10_packsBest_9 : decode cX10_packsBest 9 = .ok (.aload_n 0, 1) := by decide +kernel
theorem dX10_packsBest_10 : decode cX10_packsBest 10 = .ok (.getfield 34, 3) := by decide +kernel
theorem dX10_packsBest_13 : decode cX10_packsBest 13 = .ok (.iload_n 1, 1) := by decide +kernel
theorem dX10_packsBest_14 : decode cX10_packsBest 14 = .ok (.iconst 0, 1) := by decide +kernel
theorem dX10_packsBest_15 : decode cX10_packsBest 15 = .ok (.iastore, 1) := by decide +kernel
theorem dX10_packsBest_16 : decode cX10_packsBest 16 = .ok (.iload_n 1, 1) := by decide +kernel
theorem dX10_packsBest_17 : decode cX10_packsBest 17 = .ok (.iconst 1, 1) := by decide +kernel
theorem dX10_packsBest_18 : decode cX10_packsBest 18 = .ok (.isub, 1) := by decide +kernel
theorem dX10_packsBest_19 : decode cX10_packsBest 19 = .ok (.istore_n 2, 1) := by decide +kernel
theorem dX10_packsBest_20 : decode cX10_packsBest 20 = .ok (.iload_n 2, 1) := by decide +kernel
theorem dX10_packsBest_21 : decode cX10_packsBest 21 = .ok (.ifCond .lt 43, 3) := by decide +kernel
theorem dX10_packsBest_24 : decode cX10_packsBest 24 = .ok (.aload_n 0, 1) := by decide +kernel
theorem dX10_packsBest_25 : decode cX10_packsBest 25 = .ok (.getfield 34, 3) := by decide +kernel
theorem dX10_packsBest_28 : decode cX10_packsBest 28 = .ok (.iload_n 2, 1) := by decide +kernel
theorem dX10_packsBest_29 : decode cX10_packsBest 29 = .ok (.bipush 24, 2) := by decide +kernel
theorem dX10_packsBest_31 : decode cX10_packsBest 31 = .ok (.iastore, 1) := by decide +kernel
theorem dX10_packsBest_32 : decode cX10_packsBest 32 = .ok (.aload_n 0, 1) := by decide +kernel
theorem dX10_packsBest_33 : decode cX10_packsBest 33 = .ok (.iload_n 2, 1) := by decide +kernel
theorem dX10_packsBest_34 : decode cX10_packsBest 34 = .ok (.invokevirtual 184, 3) := by decide +kernel
theorem dX10_packsBest_37 : decode cX10_packsBest 37 = .ok (.istore_n 3, 1) := by decide +kernel
theorem dX10_packsBest_38 : decode cX10_packsBest 38 = .ok (.iload_n 3, 1) := by decide +kernel
theorem dX10_packsBest_39 : decode cX10_packsBest 39 = .ok (.ifCond .le 19, 3) := by decide +kernel
theorem dX10_packsBest_42 : decode cX10_packsBest 42 = .ok (.aload_n 0, 1) := by decide +kernel
theorem dX10_packsBest_43 : decode cX10_packsBest 43 = .ok (.getfield 34, 3) := by decide +kernel
theorem dX10_packsBest_46 : decode cX10_packsBest 46 = .ok (.iload_n 2, 1) := by decide +kernel
theorem dX10_packsBest_47 : decode cX10_packsBest 47 = .ok (.iconst 1, 1) := by decide +kernel
theorem dX10_packsBest_48 : decode cX10_packsBest 48 = .ok (.aload_n 0, 1) := by decide +kernel
theorem dX10_packsBest_49 : decode cX10_packsBest 49 = .ok (.getfield 34, 3) := by decide +kernel
theorem dX10_packsBest_52 : decode cX10_packsBest 52 = .ok (.iload_n 2, 1) := by decide +kernel
theorem dX10_packsBest_53 : decode cX10_packsBest 53 = .ok (.iload_n 3, 1) := by decide +kernel
theorem dX10_packsBest_54 : decode cX10_packsBest 54 = .ok (.ior, 1) := by decide +kernel
theorem dX10_packsBest_55 : decode cX10_packsBest 55 = .ok (.iaload, 1) := by decide +kernel
theorem dX10_packsBest_56 : decode cX10_packsBest 56 = .ok (.iadd, 1) := by decide +kernel
theorem dX10_packsBest_57 : decode cX10_packsBest 57 = .ok (.iastore, 1) := by decide +kernel
theorem dX10_packsBest_58 : decode cX10_packsBest 58 = .ok (.iinc 2 (-1), 3) := by decide +kernel
theorem dX10_packsBest_61 : decode cX10_packsBest 61 = .ok (.goto (-41), 3) := by decide +kernel
theorem dX10_packsBest_64 : decode cX10_packsBest 64 = .ok (.iconst 0, 1) := by decide +kernel
theorem dX10_packsBest_65 : decode cX10_packsBest 65 = .ok (.istore_n 2, 1) := by decide +kernel
theorem dX10_packsBest_66 : decode cX10_packsBest 66 = .ok (.iload_n 2, 1) := by decide +kernel
theorem dX10_packsBest_67 : decode cX10_packsBest 67 = .ok (.iload_n 1, 1) := by decide +kernel
theorem dX10_packsBest_68 : decode cX10_packsBest 68 = .ok (.if_icmp .eq 21, 3) := by decide +kernel
theorem dX10_packsBest_71 : decode cX10_packsBest 71 = .ok (.aload_n 0, 1) := by decide +kernel
theorem dX10_packsBest_72 : decode cX10_packsBest 72 = .ok (.iload_n 2, 1) := by decide +kernel
theorem dX10_packsBest_73 : decode cX10_packsBest 73 = .ok (.invokevirtual 184, 3) := by decide +kernel
theorem dX10_packsBest_76 : decode cX10_packsBest 76 = .ok (.istore_n 3, 1) := by decide +kernel
theorem dX10_packsBest_77 : decode cX10_packsBest 77 = .ok (.aload_n 0, 1) := by decide +kernel
theorem dX10_packsBest_78 : decode cX10_packsBest 78 = .ok (.iload_n 3, 1) := by decide +kernel
theorem dX10_packsBest_79 : decode cX10_packsBest 79 = .ok (.invokevirtual 177, 3) := by decide +kernel
theorem dX10_packsBest_82 : decode cX10_packsBest 82 = .ok (.iload_n 2, 1) := by decide +kernel
theorem dX10_packsBest_83 : decode cX10_packsBest 83 = .ok (.iload_n 3, 1) := by decide +kernel
theorem dX10_packsBest_84 : decode cX10_packsBest 84 = .ok (.ior, 1) := by decide +kernel
theorem dX10_packsBest_85 : decode cX10_packsBest 85 = .ok (.istore_n 2, 1) := by decide +kernel
theorem dX10_packsBest_86 : decode cX10_packsBest 86 = .ok (.goto (-20), 3) := by decide +kernel
theorem dX10_packsBest_89 : decode cX10_packsBest 89 = .ok (.return_, 1) := by decide +kernel
abbrev VX10_packsBest_20 (E : En) (d : Nat) (g : Ga) (P : Hp → Prop) (x1 : Int32) (x2 : Int32) (h : Hp) : Prop := V E MX10_packsBest (RM (d + 1) 0) g (QQ E g (QV E P) 0 0) 0 0 h 20 [(0, .ref (eA E 63)), (1, .int x1), (2, .int x2)] []
abbrev VX10_packsBest_66 (E : En) (d : Nat) (g : Ga) (P : Hp → Prop) (x1 : Int32) (x2 : Int32) (h : Hp) : Prop := V E MX10_packsBest (RM (d + 1) 0) g (QQ E g (QV E P) 0 0) 0 0 h 66 [(0, .ref (eA E 63)), (1, .int x1), (2, .int x2)] []
set_option maxRecDepth 20000 in
theorem wp_X10_packsBest (E : En) (d : Nat) (h : Hp) (P : Hp → Prop) (t : ∀ g : Ga, vp_in (((1 : Int32) <<< ((h.1 63 10) &&& 31)) - (1 : Int32)) 1024 ∧ (VX10_packsBest_20 E d g P (((1 : Int32) <<< ((h.1 63 10) &&& 31)) - (1 : Int32)) ((((1 : Int32) <<< ((h.1 63 10) &&& 31)) - (1 : Int32)) - (1 : Int32)) (sI h 72 ((((1 : Int32) <<< ((h.1 63 10) &&& 31)) - (1 : Int32)).toNatClampNeg) (0 : Int32)))) : SpV E (d + 1) MX10_packsBest [.ref (eA E 63)] h P := by
  refine SpV.of (lv0 := [(0, .ref (eA E 63))]) (by decide) (Nat.le_of_ble_eq_true rfl) rfl (fun g => ?_)
  have t := t g
  refine r_iconst (v := (1 : Int32)) dX10_packsBest_0 rfl ?_
  refine r_aload_n (q := 0) dX10_packsBest_1 rfl rfl ?_
  refine r_getI (c := 63) dX10_packsBest_2 flX10_171 lay_63 rfl ?_
  refine r_ishl dX10_packsBest_5 ?_
  refine r_iconst (v := (1 : Int32)) dX10_packsBest_6 rfl ?_
  refine r_isub dX10_packsBest_7 ?_
  refine r_istore_n (lv' := [(1, .int (((1 : Int32) <<< ((h.1 63 10) &&& 31)) - (1 : Int32))), (0, .ref (eA E 63))]) dX10_packsBest_8 rfl (by decide) rfl ?_
  refine r_aload_n (q := 1) dX10_packsBest_9 rfl rfl ?_
  refine r_getR (c := 63) (c2 := 72) dX10_packsBest_10 flX10_34 lay_63 rfl ?_
  refine r_iload_n (q := 0) dX10_packsBest_13 rfl rfl ?_
  refine r_iconst (v := (0 : Int32)) dX10_packsBest_14 rfl ?_
  obtain ⟨c1, t⟩ := t
  refine r_iast (c := 72) dX10_packsBest_15 lay_72 c1 ?_
  refine r_iload_n (q := 0) dX10_packsBest_16 rfl rfl ?_
  refine r_iconst (v := (1 : Int32)) dX10_packsBest_17 rfl ?_
  refine r_isub dX10_packsBest_18 ?_
  refine r_istore_n (lv' := [(2, .int ((((1 : Int32) <<< ((h.1 63 10) &&& 31)) - (1 : Int32)) - (1 : Int32))), (1, .int (((1 : Int32) <<< ((h.1 63 10) &&& 31)) - (1 : Int32))), (0, .ref (eA E 63))]) dX10_packsBest_19 rfl (by decide) rfl ?_
  refine r_sub [2, 1, 0] rfl ?_
  exact t
set_option maxRecDepth 20000 in
theorem sg_X10_packsBest_20 (E : En) (d : Nat) (g : Ga) (x1 : Int32) (x2 : Int32) (h : Hp) (P : Hp → Prop) (t : (x2 < 0 → (VX10_packsBest_66 E d g P x1 (0 : Int32) h)) ∧ (¬ x2 < 0 → (vp_in x2 1024 ∧ (SpI E d MX10_bestWord [.ref (eA E 63), .int x2] (sI h 72 x2.toNatClampNeg (24 : Int32)) (fun v3 h3 => (v3 ≤ 0 → (VX10_packsBest_20 E d g P x1 (x2 + (-1 : Int32)) h3)) ∧ (¬ v3 ≤ 0 → (vp_in (x2 ||| v3) 1024 ∧ (vp_in x2 1024 ∧ (VX10_packsBest_20 E d g P x1 (x2 + (-1 : Int32)) (sI h3 72 x2.toNatClampNeg ((1 : Int32) + (h3.1 72 ((x2 ||| v3).toNatClampNeg))))))))))))) : VX10_packsBest_20 E d g P x1 x2 h := by
  refine r_iload_n (q := 2) dX10_packsBest_20 rfl rfl ?_
  refine r_if_lt (tgt := 64) dX10_packsBest_21 (by decide) (fun q1 => ?_) (fun q1 => ?_)
  · have t := t.1 q1
    refine r_iconst (v := (0 : Int32)) dX10_packsBest_64 rfl ?_
    refine r_istore_n (lv' := [(2, .int (0 : Int32)), (0, .ref (eA E 63)), (1, .int x1)]) dX10_packsBest_65 rfl (by decide) rfl ?_
    refine r_sub [1, 2, 0] rfl ?_
    exact t
  · have t := t.2 q1
    refine r_aload_n (q := 0) dX10_packsBest_24 rfl rfl ?_
    refine r_getR (c := 63) (c2 := 72) dX10_packsBest_25 flX10_34 lay_63 rfl ?_
    refine r_iload_n (q := 2) dX10_packsBest_28 rfl rfl ?_
    refine r_bipush (v := (24 : Int32)) dX10_packsBest_29 rfl ?_
    obtain ⟨c2, t⟩ := t
    refine r_iast (c := 72) dX10_packsBest_31 lay_72 c2 ?_
    refine r_aload_n (q := 0) dX10_packsBest_32 rfl rfl ?_
    refine r_iload_n (q := 2) dX10_packsBest_33 rfl rfl ?_
    refine r_cVI (c := 63) (As := [.int x2]) dX10_packsBest_34 mkX10_bestWord lkX10_184 lay_63 rfl rfl rfl (by decide) rfl (Nat.le_of_ble_eq_true rfl) z00 t ?_
    intro v3 h3 t
    refine r_istore_n (lv' := [(3, .int v3), (0, .ref (eA E 63)), (1, .int x1), (2, .int x2)]) dX10_packsBest_37 rfl (by decide) rfl ?_
    refine r_iload_n (q := 0) dX10_packsBest_38 rfl rfl ?_
    refine r_if_le (tgt := 58) dX10_packsBest_39 (by decide) (fun q4 => ?_) (fun q4 => ?_)
    · have t := t.1 q4
      refine r_iinc (k := 3) (v := x2 + (-1 : Int32)) (lv' := [(2, .int (x2 + (-1 : Int32))), (3, .int v3), (0, .ref (eA E 63)), (1, .int x1)]) dX10_packsBest_58 rfl rfl (by decide) rfl ?_
      refine r_goto (tgt := 20) dX10_packsBest_61 (by decide) ?_
      refine r_sub [2, 3, 0] rfl ?_
      exact t
    · have t := t.2 q4
      refine r_aload_n (q := 1) dX10_packsBest_42 rfl rfl ?_
      refine r_getR (c := 63) (c2 := 72) dX10_packsBest_43 flX10_34 lay_63 rfl ?_
      refine r_iload_n (q := 3) dX10_packsBest_46 rfl rfl ?_
      refine r_iconst (v := (1 : Int32)) dX10_packsBest_47 rfl ?_
      refine r_aload_n (q := 1) dX10_packsBest_48 rfl rfl ?_
      refine r_getR (c := 63) (c2 := 72) dX10_packsBest_49 flX10_34 lay_63 rfl ?_
      refine r_iload_n (q := 3) dX10_packsBest_52 rfl rfl ?_
      refine r_iload_n (q := 0) dX10_packsBest_53 rfl rfl ?_
      refine r_ior dX10_packsBest_54 ?_
      obtain ⟨c5, t⟩ := t
      refine r_iald (c := 72) dX10_packsBest_55 lay_72 c5 ?_
      refine r_iadd dX10_packsBest_56 ?_
      obtain ⟨c6, t⟩ := t
      refine r_iast (c := 72) dX10_packsBest_57 lay_72 c6 ?_
      refine r_iinc (k := 3) (v := x2 + (-1 : Int32)) (lv' := [(2, .int (x2 + (-1 : Int32))), (3, .int v3), (0, .ref (eA E 63)), (1, .int x1)]) dX10_packsBest_58 rfl rfl (by decide) rfl ?_
      refine r_goto (tgt := 20) dX10_packsBest_61 (by decide) ?_
      refine r_sub [2, 3, 0] rfl ?_
      exact t
set_option maxRecDepth 20000 in
theorem sg_X10_packsBest_66 (E : En) (d : Nat) (g : Ga) (x1 : Int32) (x2 : Int32) (h : Hp) (P : Hp → Prop) (t : (x2 = x1 → (P h)) ∧ (¬ x2 = x1 → (SpI E d MX10_bestWord [.ref (eA E 63), .int x2] h (fun v2 h2 => SpV E d MX10_laysWord [.ref (eA E 63), .int v2] h2 (fun h3 => VX10_packsBest_66 E d g P x1 (x2 ||| v2) h3))))) : VX10_packsBest_66 E d g P x1 x2 h := by
  refine r_iload_n (q := 2) dX10_packsBest_66 rfl rfl ?_
  refine r_iload_n (q := 1) dX10_packsBest_67 rfl rfl ?_
  refine r_icmp_eq (tgt := 89) dX10_packsBest_68 (by decide) (fun q1 => ?_) (fun q1 => ?_)
  · have t := t.1 q1
    exact r_vret dX10_packsBest_89 rfl t
  · have t := t.2 q1
    refine r_aload_n (q := 0) dX10_packsBest_71 rfl rfl ?_
    refine r_iload_n (q := 2) dX10_packsBest_72 rfl rfl ?_
    refine r_cVI (c := 63) (As := [.int x2]) dX10_packsBest_73 mkX10_bestWord lkX10_184 lay_63 rfl rfl rfl (by decide) rfl (Nat.le_of_ble_eq_true rfl) z00 t ?_
    intro v2 h2 t
    refine r_istore_n (lv' := [(3, .int v2), (0, .ref (eA E 63)), (1, .int x1), (2, .int x2)]) dX10_packsBest_76 rfl (by decide) rfl ?_
    refine r_aload_n (q := 1) dX10_packsBest_77 rfl rfl ?_
    refine r_iload_n (q := 0) dX10_packsBest_78 rfl rfl ?_
    refine r_cVV (c := 63) (As := [.int v2]) dX10_packsBest_79 mkX10_laysWord lkX10_177 lay_63 rfl rfl rfl (by decide) rfl (Nat.le_of_ble_eq_true rfl) z00 t ?_
    intro h3 t
    refine r_iload_n (q := 3) dX10_packsBest_82 rfl rfl ?_
    refine r_iload_n (q := 0) dX10_packsBest_83 rfl rfl ?_
    refine r_ior dX10_packsBest_84 ?_
    refine r_istore_n (lv' := [(2, .int (x2 ||| v2)), (3, .int v2), (0, .ref (eA E 63)), (1, .int x1)]) dX10_packsBest_85 rfl (by decide) rfl ?_
    refine r_goto (tgt := 66) dX10_packsBest_86 (by decide) ?_
    refine r_sub [2, 3, 0] rfl ?_
    exact t
theorem dX10_chainOf_0 : decode cX10_chainOf 0 = .ok (.iconst 0, 1) := by decide +kernel
theorem dX10_chainOf_1 : decode cX10_chainOf 1 = .ok (.istore_n 1, 1) := by decide +kernel
theorem dX10_chainOf_2 : decode cX10_chainOf 2 = .ok (.iconst 0, 1) := by decide +kernel
theorem dX10_chainOf_3 : decode cX10_chainOf 3 = .ok (.istore_n 2, 1) := by decide +kernel
theorem dX10_chainOf_4 : decode cX10_chainOf 4 = .ok (.iload_n 2, 1) := by decide +kernel
theorem dX10_chainOf_5 : decode cX10_chainOf 5 = .ok (.aload_n 0, 1) := by decide +kernel
theorem dX10_chainOf_6 : decode cX10_chainOf 6 = .ok (.getfield 171, 3) := by decide +kernel
theorem dX10_chainOf_9 : decode cX10_chainOf 9 = .ok (.if_icmp .ge 115, 3) := by decide +kernel
theorem dX10_chainOf_12 : decode cX10_chainOf 12 = .ok (.aload_n 0, 1) := by decide +kernel
theorem dX10_chainOf_13 : decode cX10_chainOf 13 = .ok (.getfield 37, 3) := by decide +kernel
theorem dX10_chainOf_16 : decode cX10_chainOf 16 = .ok (.iload_n 2, 1) := by decide +kernel
theorem dX10_chainOf_17 : decode cX10_chainOf 17 = .ok (.iconst 1, 1) := by decide +kernel
theorem dX10_chainOf_18 : decode cX10_chainOf 18 = .ok (.iastore, 1) := by decide +kernel
theorem dX10_chainOf_19 : decode cX10_chainOf 19 = .ok (.iconst 0, 1) := by decide +kernel
theorem dX10_chainOf_20 : decode cX10_chainOf 20 = .ok (.istore_n 3, 1) := by decide +kernel
theorem dX10_chainOf_21 : decode cX10_chainOf 21 = .ok (.iload_n 3, 1) := by decide +kernel
theorem dX10_chainOf_22 : decode cX10_chainOf 22 = .ok (.iload_n 2, 1) := by decide +kernel
theorem dX10_chainOf_23 : decode cX10_chainOf 23 = .ok (.if_icmp .ge 84, 3) := by decide +kernel
theorem dX10_chainOf_26 : decode cX10_chainOf 26 = .ok (.aload_n 0, 1) := by decide +kernel
theorem dX10_chainOf_27 : decode cX10_chainOf 27 = .ok (.getfield 25, 3) := by decide +kernel
theorem dX10_chainOf_30 : decode cX10_chainOf 30 = .ok (.iload_n 2, 1) := by decide +kernel
theorem dX10_chainOf_31 : decode cX10_chainOf 31 = .ok (.iaload, 1) := by decide +kernel
theorem dX10_chainOf_32 : decode cX10_chainOf 32 = .ok (.iload_n 3, 1) := by decide +kernel
theorem dX10_chainOf_33 : decode cX10_chainOf 33 = .ok (.ishr, 1) := by decide +kernel
theorem dX10_chainOf_34 : decode cX10_chainOf 34 = .ok (.iconst 1, 1) := by decide +kernel
theorem dX10_chainOf_35 : decode cX10_chainOf 35 = .ok (.iand, 1) := by decide +kernel
theorem dX10_chainOf_36 : decode cX10_chainOf 36 = .ok (.iconst 1, 1) := by decide +kernel
theorem dX10_chainOf_37 : decode cX10_chainOf 37 = .ok (.if_icmp .ne 29, 3) := by decide +kernel
theorem dX10_chainOf_40 : decode cX10_chainOf 40 = .ok (.aload_n 0, 1) := by decide +kernel
theorem dX10_chainOf_41 : decode cX10_chainOf 41 = .ok (.getfield 37, 3) := by decide +kernel
theorem dX10_chainOf_44 : decode cX10_chainOf 44 = .ok (.iload_n 2, 1) := by decide +kernel
theorem dX10_chainOf_45 : decode cX10_chainOf 45 = .ok (.aload_n 0, 1) := by decide +kernel
theorem dX10_chainOf_46 : decode cX10_chainOf 46 = .ok (.getfield 37, 3) := by decide +kernel
theorem dX10_chainOf_49 : decode cX10_chainOf 49 = .ok (.iload_n 2, 1) := by decide +kernel
theorem dX10_chainOf_50 : decode cX10_chainOf 50 = .ok (.iaload, 1) := by decide +kernel
theorem dX10_chainOf_51 : decode cX10_chainOf 51 = .ok (.aload_n 0, 1) := by decide +kernel
theorem dX10_chainOf_52 : decode cX10_chainOf 52 = .ok (.getfield 37, 3) := by decide +kernel
theorem dX10_chainOf_55 : decode cX10_chainOf 55 = .ok (.iload_n 3, 1) := by decide +kernel
theorem dX10_chainOf_56 : decode cX10_chainOf 56 = .ok (.iaload, 1) := by decide +kernel
theorem dX10_chainOf_57 : decode cX10_chainOf 57 = .ok (.iconst 1, 1) := by decide +kernel
theorem dX10_chainOf_58 : decode cX10_chainOf 58 = .ok (.iadd, 1) := by decide +kernel
theorem dX10_chainOf_59 : decode cX10_chainOf 59 = .ok (.invokestatic 187, 3) := by decide +kernel
theorem dX10_chainOf_62 : decode cX10_chainOf 62 = .ok (.iastore, 1) := by decide +kernel
theorem dX10_chainOf_63 : decode cX10_chainOf 63 = .ok (.goto 38, 3) := by decide +kernel
theorem dX10_chainOf_66 : decode cX10_chainOf 66 = .ok (.aload_n 0, 1) := by decide +kernel
theorem dX10_chainOf_67 : decode cX10_chainOf 67 = .ok (.getfield 28, 3) := by decide +kernel
theorem dX10_chainOf_70 : decode cX10_chainOf 70 = .ok (.iload_n 2, 1) := by decide +kernel
theorem dX10_chainOf_71 : decode cX10_chainOf 71 = .ok (.iaload, 1) := by decide +kernel
theorem dX10_chainOf_72 : decode cX10_chainOf 72 = .ok (.iload_n 3, 1) := by decide +kernel
theorem dX10_chainOf_73 : decode cX10_chainOf 73 = .ok (.ishr, 1) := by decide +kernel
theorem dX10_chainOf_74 : decode cX10_chainOf 74 = .ok (.iconst 1, 1) := by decide +kernel
theorem dX10_chainOf_75 : decode cX10_chainOf 75 = .ok (.iand, 1) := by decide +kernel
theorem dX10_chainOf_76 : decode cX10_chainOf 76 = .ok (.iconst 1, 1) := by decide +kernel
theorem dX10_chainOf_77 : decode cX10_chainOf 77 = .ok (.if_icmp .ne 24, 3) := by decide +kernel
theorem dX10_chainOf_80 : decode cX10_chainOf 80 = .ok (.aload_n 0, 1) := by decide +kernel
theorem dX10_chainOf_81 : decode cX10_chainOf 81 = .ok (.getfield 37, 3) := by decide +kernel
theorem dX10_chainOf_84 : decode cX10_chainOf 84 = .ok (.iload_n 2, 1) := by decide +kernel
theorem dX10_chainOf_85 : decode cX10_chainOf 85 = .ok (.aload_n 0, 1) := by decide +kernel
theorem dX10_chainOf_86 : decode cX10_chainOf 86 = .ok (.getfield 37, 3) := by decide +kernel
theorem dX10_chainOf_89 : decode cX10_chainOf 89 = .ok (.iload_n 2, 1) := by decide +kernel
theorem dX10_chainOf_90 : decode cX10_chainOf 90 = .ok (.iaload, 1) := by decide +kernel
theorem dX10_chainOf_91 : decode cX10_chainOf 91 = .ok (.aload_n 0, 1) := by decide +kernel
theorem dX10_chainOf_92 : decode cX10_chainOf 92 = .ok (.getfield 37, 3) := by decide +kernel
theorem dX10_chainOf_95 : decode cX10_chainOf 95 = .ok (.iload_n 3, 1) := by decide +kernel
theorem dX10_chainOf_96 : decode cX10_chainOf 96 = .ok (.iaload, 1) := by decide +kernel
theorem dX10_chainOf_97 : decode cX10_chainOf 97 = .ok (.invokestatic 187, 3) := by decide +kernel
theorem dX10_chainOf_100 : decode cX10_chainOf 100 = .ok (.iastore, 1) := by decide +kernel
theorem dX10_chainOf_101 : decode cX10_chainOf 101 = .ok (.iinc 3 1, 3) := by decide +kernel
theorem dX10_chainOf_104 : decode cX10_chainOf 104 = .ok (.goto (-83), 3) := by decide +kernel
theorem dX10_chainOf_107 : decode cX10_chainOf 107 = .ok (.iload_n 1, 1) := by decide +kernel
theorem dX10_chainOf_108 : decode cX10_chainOf 108 = .ok (.aload_n 0, 1) := by decide +kernel
theorem dX10_chainOf_109 : decode cX10_chainOf 109 = .ok (.getfield 37, 3) := by decide +kernel
theorem dX10_chainOf_112 : decode cX10_chainOf 112 = .ok (.iload_n 2, 1) := by decide +kernel
theorem dX10_chainOf_113 : decode cX10_chainOf 113 = .ok (.iaload, 1) := by decide +kernel
theorem dX10_chainOf_114 : decode cX10_chainOf 114 = .ok (.invokestatic 187, 3) := by decide +kernel
theorem dX10_chainOf_117 : decode cX10_chainOf 117 = .ok (.istore_n 1, 1) := by decide +kernel
theorem dX10_chainOf_118 : decode cX10_chainOf 118 = .ok (.iinc 2 1, 3) := by decide +kernel
theorem dX10_chainOf_121 : decode cX10_chainOf 121 = .ok (.goto (-117), 3) := by decide +kernel
theorem dX10_chainOf_124 : decode cX10_chainOf 124 = .ok (.iload_n 1, 1) := by decide +kernel
theorem dX10_chainOf_125 : decode cX10_chainOf 125 = .ok (.ireturn, 1) := by decide +kernel
abbrev VX10_chainOf_4 (E : En) (d : Nat) (g : Ga) (P : Int32 → Hp → Prop) (x1 : Int32) (x2 : Int32) (h : Hp) : Prop := V E MX10_chainOf (RM (d + 1) 0) g (QQ E g (QI E P) 0 0) 0 0 h 4 [(0, .ref (eA E 63)), (1, .int x1), (2, .int x2)] []
abbrev VX10_chainOf_21 (E : En) (d : Nat) (g : Ga) (P : Int32 → Hp → Prop) (x1 : Int32) (x2 : Int32) (x3 : Int32) (h : Hp) : Prop := V E MX10_chainOf (RM (d + 1) 0) g (QQ E g (QI E P) 0 0) 0 0 h 21 [(0, .ref (eA E 63)), (1, .int x1), (2, .int x2), (3, .int x3)] []
set_option maxRecDepth 20000 in
theorem wp_X10_chainOf (E : En) (d : Nat) (h : Hp) (P : Int32 → Hp → Prop) (t : ∀ g : Ga, VX10_chainOf_4 E d g P (0 : Int32) (0 : Int32) h) : SpI E (d + 1) MX10_chainOf [.ref (eA E 63)] h P := by
  refine SpI.of (lv0 := [(0, .ref (eA E 63))]) (by decide) (Nat.le_of_ble_eq_true rfl) rfl (fun g => ?_)
  have t := t g
  refine r_iconst (v := (0 : Int32)) dX10_chainOf_0 rfl ?_
  refine r_istore_n (lv' := [(1, .int (0 : Int32)), (0, .ref (eA E 63))]) dX10_chainOf_1 rfl (by decide) rfl ?_
  refine r_iconst (v := (0 : Int32)) dX10_chainOf_2 rfl ?_
  refine r_istore_n (lv' := [(2, .int (0 : Int32)), (1, .int (0 : Int32)), (0, .ref (eA E 63))]) dX10_chainOf_3 rfl (by decide) rfl ?_
  refine r_sub [2, 1, 0] rfl ?_
  exact t
set_option maxRecDepth 20000 in
theorem sg_X10_chainOf_4 (E : En) (d : Nat) (g : Ga) (x1 : Int32) (x2 : Int32) (h : Hp) (P : Int32 → Hp → Prop) (t : ((h.1 63 10) ≤ x2 → (P x1 h)) ∧ (¬ (h.1 63 10) ≤ x2 → (vp_in x2 1024 ∧ (VX10_chainOf_21 E d g P x1 x2 (0 : Int32) (sI h 73 x2.toNatClampNeg (1 : Int32)))))) : VX10_chainOf_4 E d g P x1 x2 h := by
  refine r_iload_n (q := 2) dX10_chainOf_4 rfl rfl ?_
  refine r_aload_n (q := 0) dX10_chainOf_5 rfl rfl ?_
  refine r_getI (c := 63) dX10_chainOf_6 flX10_171 lay_63 rfl ?_
  refine r_icmp_ge (tgt := 124) dX10_chainOf_9 (by decide) (fun q1 => ?_) (fun q1 => ?_)
  · have t := t.1 q1
    refine r_iload_n (q := 1) dX10_chainOf_124 rfl rfl ?_
    exact r_iret dX10_chainOf_125 rfl t
  · have t := t.2 q1
    refine r_aload_n (q := 0) dX10_chainOf_12 rfl rfl ?_
    refine r_getR (c := 63) (c2 := 73) dX10_chainOf_13 flX10_37 lay_63 rfl ?_
    refine r_iload_n (q := 2) dX10_chainOf_16 rfl rfl ?_
    refine r_iconst (v := (1 : Int32)) dX10_chainOf_17 rfl ?_
    obtain ⟨c2, t⟩ := t
    refine r_iast (c := 73) dX10_chainOf_18 lay_73 c2 ?_
    refine r_iconst (v := (0 : Int32)) dX10_chainOf_19 rfl ?_
    refine r_istore_n (lv' := [(3, .int (0 : Int32)), (0, .ref (eA E 63)), (1, .int x1), (2, .int x2)]) dX10_chainOf_20 rfl (by decide) rfl ?_
    refine r_sub [1, 2, 3, 0] rfl ?_
    exact t
set_option maxRecDepth 20000 in
theorem sg_X10_chainOf_21 (E : En) (d : Nat) (g : Ga) (x1 : Int32) (x2 : Int32) (x3 : Int32) (h : Hp) (P : Int32 → Hp → Prop) (t : (x2 ≤ x3 → (vp_in x2 1024 ∧ (VX10_chainOf_4 E d g P (if x1 < (h.1 73 x2.toNatClampNeg) then (h.1 73 x2.toNatClampNeg) else x1) (x2 + (1 : Int32)) h))) ∧ (¬ x2 ≤ x3 → (vp_in x2 10 ∧ ((¬ (((h.1 69 x2.toNatClampNeg) >>> (x3 &&& 31)) &&& (1 : Int32)) = (1 : Int32) → (vp_in x2 10 ∧ ((¬ (((h.1 70 x2.toNatClampNeg) >>> (x3 &&& 31)) &&& (1 : Int32)) = (1 : Int32) → (VX10_chainOf_21 E d g P x1 x2 (x3 + (1 : Int32)) h)) ∧ ((((h.1 70 x2.toNatClampNeg) >>> (x3 &&& 31)) &&& (1 : Int32)) = (1 : Int32) → (vp_in x2 1024 ∧ (vp_in x3 1024 ∧ (vp_in x2 1024 ∧ (VX10_chainOf_21 E d g P x1 x2 (x3 + (1 : Int32)) (sI h 73 x2.toNatClampNeg (if (h.1 73 x2.toNatClampNeg) < (h.1 73 x3.toNatClampNeg) then (h.1 73 x3.toNatClampNeg) else (h.1 73 x2.toNatClampNeg))))))))))) ∧ ((((h.1 69 x2.toNatClampNeg) >>> (x3 &&& 31)) &&& (1 : Int32)) = (1 : Int32) → (vp_in x2 1024 ∧ (vp_in x3 1024 ∧ (vp_in x2 1024 ∧ (VX10_chainOf_21 E d g P x1 x2 (x3 + (1 : Int32)) (sI h 73 x2.toNatClampNeg (if (h.1 73 x2.toNatClampNeg) < ((h.1 73 x3.toNatClampNeg) + (1 : Int32)) then ((h.1 73 x3.toNatClampNeg) + (1 : Int32)) else (h.1 73 x2.toNatClampNeg)))))))))))) : VX10_chainOf_21 E d g P x1 x2 x3 h := by
  refine r_iload_n (q := 3) dX10_chainOf_21 rfl rfl ?_
  refine r_iload_n (q := 2) dX10_chainOf_22 rfl rfl ?_
  refine r_icmp_ge (tgt := 107) dX10_chainOf_23 (by decide) (fun q1 => ?_) (fun q1 => ?_)
  · have t := t.1 q1
    refine r_iload_n (q := 1) dX10_chainOf_107 rfl rfl ?_
    refine r_aload_n (q := 0) dX10_chainOf_108 rfl rfl ?_
    refine r_getR (c := 63) (c2 := 73) dX10_chainOf_109 flX10_37 lay_63 rfl ?_
    refine r_iload_n (q := 2) dX10_chainOf_112 rfl rfl ?_
    obtain ⟨c2, t⟩ := t
    refine r_iald (c := 73) dX10_chainOf_113 lay_73 c2 ?_
    refine r_max dX10_chainOf_114 lkX10_187 (Nat.le_of_ble_eq_true rfl) z00 ?_
    refine r_istore_n (lv' := [(1, .int (if x1 < (h.1 73 x2.toNatClampNeg) then (h.1 73 x2.toNatClampNeg) else x1)), (0, .ref (eA E 63)), (2, .int x2), (3, .int x3)]) dX10_chainOf_117 rfl (by decide) rfl ?_
    refine r_iinc (k := 2) (v := x2 + (1 : Int32)) (lv' := [(2, .int (x2 + (1 : Int32))), (1, .int (if x1 < (h.1 73 x2.toNatClampNeg) then (h.1 73 x2.toNatClampNeg) else x1)), (0, .ref (eA E 63)), (3, .int x3)]) dX10_chainOf_118 rfl rfl (by decide) rfl ?_
    refine r_goto (tgt := 4) dX10_chainOf_121 (by decide) ?_
    refine r_sub [2, 1, 0] rfl ?_
    exact t
  · have t := t.2 q1
    refine r_aload_n (q := 0) dX10_chainOf_26 rfl rfl ?_
    refine r_getR (c := 63) (c2 := 69) dX10_chainOf_27 flX10_25 lay_63 rfl ?_
    refine r_iload_n (q := 2) dX10_chainOf_30 rfl rfl ?_
    obtain ⟨c3, t⟩ := t
    refine r_iald (c := 69) dX10_chainOf_31 lay_69 c3 ?_
    refine r_iload_n (q := 3) dX10_chainOf_32 rfl rfl ?_
    refine r_ishr dX10_chainOf_33 ?_
    refine r_iconst (v := (1 : Int32)) dX10_chainOf_34 rfl ?_
    refine r_iand dX10_chainOf_35 ?_
    refine r_iconst (v := (1 : Int32)) dX10_chainOf_36 rfl ?_
    refine r_icmp_ne (tgt := 66) dX10_chainOf_37 (by decide) (fun q4 => ?_) (fun q4 => ?_)
    · have t := t.1 q4
      refine r_aload_n (q := 0) dX10_chainOf_66 rfl rfl ?_
      refine r_getR (c := 63) (c2 := 70) dX10_chainOf_67 flX10_28 lay_63 rfl ?_
      refine r_iload_n (q := 2) dX10_chainOf_70 rfl rfl ?_
      obtain ⟨c5, t⟩ := t
      refine r_iald (c := 70) dX10_chainOf_71 lay_70 c5 ?_
      refine r_iload_n (q := 3) dX10_chainOf_72 rfl rfl ?_
      refine r_ishr dX10_chainOf_73 ?_
      refine r_iconst (v := (1 : Int32)) dX10_chainOf_74 rfl ?_
      refine r_iand dX10_chainOf_75 ?_
      refine r_iconst (v := (1 : Int32)) dX10_chainOf_76 rfl ?_
      refine r_icmp_ne (tgt := 101) dX10_chainOf_77 (by decide) (fun q6 => ?_) (fun q6 => ?_)
      · have t := t.1 q6
        refine r_iinc (k := 3) (v := x3 + (1 : Int32)) (lv' := [(3, .int (x3 + (1 : Int32))), (0, .ref (eA E 63)), (1, .int x1), (2, .int x2)]) dX10_chainOf_101 rfl rfl (by decide) rfl ?_
        refine r_goto (tgt := 21) dX10_chainOf_104 (by decide) ?_
        refine r_sub [1, 2, 3, 0] rfl ?_
        exact t
      · have t := t.2 q6
        refine r_aload_n (q := 0) dX10_chainOf_80 rfl rfl ?_
        refine r_getR (c := 63) (c2 := 73) dX10_chainOf_81 flX10_37 lay_63 rfl ?_
        refine r_iload_n (q := 2) dX10_chainOf_84 rfl rfl ?_
        refine r_aload_n (q := 0) dX10_chainOf_85 rfl rfl ?_
        refine r_getR (c := 63) (c2 := 73) dX10_chainOf_86 flX10_37 lay_63 rfl ?_
        refine r_iload_n (q := 2) dX10_chainOf_89 rfl rfl ?_
        obtain ⟨c7, t⟩ := t
        refine r_iald (c := 73) dX10_chainOf_90 lay_73 c7 ?_
        refine r_aload_n (q := 0) dX10_chainOf_91 rfl rfl ?_
        refine r_getR (c := 63) (c2 := 73) dX10_chainOf_92 flX10_37 lay_63 rfl ?_
        refine r_iload_n (q := 3) dX10_chainOf_95 rfl rfl ?_
        obtain ⟨c8, t⟩ := t
        refine r_iald (c := 73) dX10_chainOf_96 lay_73 c8 ?_
        refine r_max dX10_chainOf_97 lkX10_187 (Nat.le_of_ble_eq_true rfl) z00 ?_
        obtain ⟨c9, t⟩ := t
        refine r_iast (c := 73) dX10_chainOf_100 lay_73 c9 ?_
        refine r_iinc (k := 3) (v := x3 + (1 : Int32)) (lv' := [(3, .int (x3 + (1 : Int32))), (0, .ref (eA E 63)), (1, .int x1), (2, .int x2)]) dX10_chainOf_101 rfl rfl (by decide) rfl ?_
        refine r_goto (tgt := 21) dX10_chainOf_104 (by decide) ?_
        refine r_sub [1, 2, 3, 0] rfl ?_
        exact t
    · have t := t.2 q4
      refine r_aload_n (q := 0) dX10_chainOf_40 rfl rfl ?_
      refine r_getR (c := 63) (c2 := 73) dX10_chainOf_41 flX10_37 lay_63 rfl ?_
      refine r_iload_n (q := 2) dX10_chainOf_44 rfl rfl ?_
      refine r_aload_n (q := 0) dX10_chainOf_45 rfl rfl ?_
      refine r_getR (c := 63) (c2 := 73) dX10_chainOf_46 flX10_37 lay_63 rfl ?_
      refine r_iload_n (q := 2) dX10_chainOf_49 rfl rfl ?_
      obtain ⟨c10, t⟩ := t
      refine r_iald (c := 73) dX10_chainOf_50 lay_73 c10 ?_
      refine r_aload_n (q := 0) dX10_chainOf_51 rfl rfl ?_
      refine r_getR (c := 63) (c2 := 73) dX10_chainOf_52 flX10_37 lay_63 rfl ?_
      refine r_iload_n (q := 3) dX10_chainOf_55 rfl rfl ?_
      obtain ⟨c11, t⟩ := t
      refine r_iald (c := 73) dX10_chainOf_56 lay_73 c11 ?_
      refine r_iconst (v := (1 : Int32)) dX10_chainOf_57 rfl ?_
      refine r_iadd dX10_chainOf_58 ?_
      refine r_max dX10_chainOf_59 lkX10_187 (Nat.le_of_ble_eq_true rfl) z00 ?_
      obtain ⟨c12, t⟩ := t
      refine r_iast (c := 73) dX10_chainOf_62 lay_73 c12 ?_
      refine r_goto (tgt := 101) dX10_chainOf_63 (by decide) ?_
      refine r_iinc (k := 3) (v := x3 + (1 : Int32)) (lv' := [(3, .int (x3 + (1 : Int32))), (0, .ref (eA E 63)), (1, .int x1), (2, .int x2)]) dX10_chainOf_101 rfl rfl (by decide) rfl ?_
      refine r_goto (tgt := 21) dX10_chainOf_104 (by decide) ?_
      refine r_sub [1, 2, 3, 0] rfl ?_
      exact t
theorem dX10_packs_0 : decode cX10_packs 0 = .ok (.aload_n 0, 1) := by decide +kernel
theorem dX10_packs_1 : decode cX10_packs 1 = .ok (.getfield 46, 3) := by decide +kernel
theorem dX10_packs_4 : decode cX10_packs 4 = .ok (.iload_n 1, 1) := by decide +kernel
theorem dX10_packs_5 : decode cX10_packs 5 = .ok (.aload_n 0, 1) := by decide +kernel
theorem dX10_packs_6 : decode cX10_packs 6 = .ok (.getfield 174, 3) := by decide +kernel
theorem dX10_packs_9 : decode cX10_packs 9 = .ok (.iastore, 1) := by decide +kernel
theorem dX10_packs_10 : decode cX10_packs 10 = .ok (.aload_n 0, 1) := by decide +kernel
theorem dX10_packs_11 : decode cX10_packs 11 = .ok (.getfield 49, 3) := by decide +kernel
theorem dX10_packs_14 : decode cX10_packs 14 = .ok (.iload_n 1, 1) := by decide +kernel
theorem dX10_packs_15 : decode cX10_packs 15 = .ok (.iconst 0, 1) := by decide +kernel
theorem dX10_packs_16 : decode cX10_packs 16 = .ok (.iastore, 1) := by decide +kernel
theorem dX10_packs_17 : decode cX10_packs 17 = .ok (.aload_n 0, 1) := by decide +kernel
theorem dX10_packs_18 : decode cX10_packs 18 = .ok (.getfield 52, 3) := by decide +kernel
theorem dX10_packs_21 : decode cX10_packs 21 = .ok (.iload_n 1, 1) := by decide +kernel
theorem dX10_packs_22 : decode cX10_packs 22 = .ok (.iconst 0, 1) := by decide +kernel
theorem dX10_packs_23 : decode cX10_packs 23 = .ok (.iastore, 1) := by decide +kernel
theorem dX10_packs_24 : decode cX10_packs 24 = .ok (.iconst 0, 1) := by decide +kernel
theorem dX10_packs_25 : decode cX10_packs 25 = .ok (.istore_n 2, 1) := by decide +kernel
theorem dX10_packs_26 : decode cX10_packs 26 = .ok (.iload_n 2, 1) := by decide +kernel
theorem dX10_packs_27 : decode cX10_packs 27 = .ok (.aload_n 0, 1) := by decide +kernel
theorem dX10_packs_28 : decode cX10_packs 28 = .ok (.getfield 16, 3) := by decide +kernel
theorem dX10_packs_31 : decode cX10_packs 31 = .ok (.iload_n 1, 1) := by decide +kernel
theorem dX10_packs_32 : decode cX10_packs 32 = .ok (.iaload, 1) := by decide +kernel
theorem dX10_packs_33 : decode cX10_packs 33 = .ok (.if_icmp .ge 130, 3) := by decide +kernel
theorem dX10_packs_36 : decode cX10_packs 36 = .ok (.aload_n 0, 1) := by decide +kernel
theorem dX10_packs_37 : decode cX10_packs 37 = .ok (.iload_n 1, 1) := by decide +kernel
theorem dX10_packs_38 : decode cX10_packs 38 = .ok (.iload_n 2, 1) := by decide +kernel
theorem dX10_packs_39 : decode cX10_packs 39 = .ok (.invokevirtual 192, 3) := by decide +kernel
theorem dX10_packs_42 : decode cX10_packs 42 = .ok (.aload_n 0, 1) := by decide +kernel
theorem dX10_packs_43 : decode cX10_packs 43 = .ok (.getfield 174, 3) := by decide +kernel
theorem dX10_packs_46 : decode cX10_packs 46 = .ok (.istore_n 3, 1) := by decide +kernel
theorem dX10_packs_47 : decode cX10_packs 47 = .ok (.aload_n 0, 1) := by decide +kernel
theorem dX10_packs_48 : decode cX10_packs 48 = .ok (.getfield 22, 3) := by decide +kernel
theorem dX10_packs_51 : decode cX10_packs 51 = .ok (.iconst 0, 1) := by decide +kernel
theorem dX10_packs_52 : decode cX10_packs 52 = .ok (.iaload, 1) := by decide +kernel
theorem dX10_packs_53 : decode cX10_packs 53 = .ok (.iconst 1, 1) := by decide +kernel
theorem dX10_packs_54 : decode cX10_packs 54 = .ok (.if_icmp .ne 10, 3) := by decide +kernel
theorem dX10_packs_57 : decode cX10_packs 57 = .ok (.aload_n 0, 1) := by decide +kernel
theorem dX10_packs_58 : decode cX10_packs 58 = .ok (.invokevirtual 196, 3) := by decide +kernel
theorem dX10_packs_61 : decode cX10_packs 61 = .ok (.goto 46, 3) := by decide +kernel
theorem dX10_packs_64 : decode cX10_packs 64 = .ok (.aload_n 0, 1) := by decide +kernel
theorem dX10_packs_65 : decode cX10_packs 65 = .ok (.getfield 22, 3) := by decide +kernel
theorem dX10_packs_68 : decode cX10_packs 68 = .ok (.iconst 0, 1) := by decide +kernel
theorem dX10_packs_69 : decode cX10_packs 69 = .ok (.iaload, 1) := by decide +kernel
theorem dX10_packs_70 : decode cX10_packs 70 = .ok (.iconst 2, 1) := by decide +kernel
theorem dX10_packs_71 : decode cX10_packs 71 = .ok (.if_icmp .ne 10, 3) := by decide +kernel
theorem dX10_packs_74 : decode cX10_packs 74 = .ok (.aload_n 0, 1) := by decide +kernel
theorem dX10_packs_75 : decode cX10_packs 75 = .ok (.invokevirtual 199, 3) := by decide +kernel
theorem dX10_packs_78 : decode cX10_packs 78 = .ok (.goto 29, 3) := by decide +kernel
theorem dX10_packs_81 : decode cX10_packs 81 = .ok (.iconst 0, 1) := by decide +kernel
theorem dX10_packs_82 : decode cX10_packs 82 = .ok (.istore 4, 2) := by decide +kernel
theorem dX10_packs_84 : decode cX10_packs 84 = .ok (.iload 4, 2) := by decide +kernel
theorem dX10_packs_86 : decode cX10_packs 86 = .ok (.aload_n 0, 1) := by decide +kernel
theorem dX10_packs_87 : decode cX10_packs 87 = .ok (.getfield 171, 3) := by decide +kernel
theorem dX10_packs_90 : decode cX10_packs 90 = .ok (.if_icmp .ge 17, 3) := by decide +kernel
theorem dX10_packs_93 : decode cX10_packs 93 = .ok (.aload_n 0, 1) := by decide +kernel
theorem dX10_packs_94 : decode cX10_packs 94 = .ok (.iconst 1, 1) := by decide +kernel
theorem dX10_packs_95 : decode cX10_packs 95 = .ok (.iload 4, 2) := by decide +kernel
theorem dX10_packs_97 : decode cX10_packs 97 = .ok (.ishl, 1) := by decide +kernel
theorem dX10_packs_98 : decode cX10_packs 98 = .ok (.invokevirtual 177, 3) := by decide +kernel
theorem dX10_packs_101 : decode cX10_packs 101 = .ok (.iinc 4 1, 3) := by decide +kernel
theorem dX10_packs_104 : decode cX10_packs 104 = .ok (.goto (-20), 3) := by decide +kernel
theorem dX10_packs_107 : decode cX10_packs 107 = .ok (.aload_n 0, 1) := by decide +kernel
theorem dX10_packs_108 : decode cX10_packs 108 = .ok (.getfield 43, 3) := by decide +kernel
theorem dX10_packs_111 : decode cX10_packs 111 = .ok (.aload_n 0, 1) := by decide +kernel
theorem dX10_packs_112 : decode cX10_packs 112 = .ok (.getfield 174, 3) := by decide +kernel
theorem dX10_packs_115 : decode cX10_packs 115 = .ok (.iconst 1, 1) := by decide +kernel
theorem dX10_packs_116 : decode cX10_packs 116 = .ok (.isub, 1) := by decide +kernel
theorem dX10_packs_117 : decode cX10_packs 117 = .ok (.iconst 1, 1) := by decide +kernel
theorem dX10_packs_118 : decode cX10_packs 118 = .ok (.iastore, 1) := by decide +kernel
theorem dX10_packs_119 : decode cX10_packs 119 = .ok (.aload_n 0, 1) := by decide +kernel
theorem dX10_packs_120 : decode cX10_packs 120 = .ok (.getfield 49, 3) := by decide +kernel
theorem dX10_packs_123 : decode cX10_packs 123 = .ok (.iload_n 1, 1) := by decide +kernel
theorem dX10_packs_124 : decode cX10_packs 124 = .ok (.aload_n 0, 1) := by decide +kernel
theorem dX10_packs_125 : decode cX10_packs 125 = .ok (.getfield 49, 3) := by decide +kernel
theorem dX10_packs_128 : decode cX10_packs 128 = .ok (.iload_n 1, 1) := by decide +kernel
theorem dX10_packs_129 : decode cX10_packs 129 = .ok (.iaload, 1) := by decide +kernel
theorem dX10_packs_130 : decode cX10_packs 130 = .ok (.aload_n 0, 1) := by decide +kernel
theorem dX10_packs_131 : decode cX10_packs 131 = .ok (.getfield 174, 3) := by decide +kernel
theorem dX10_packs_134 : decode cX10_packs 134 = .ok (.iload_n 3, 1) := by decide +kernel
theorem dX10_packs_135 : decode cX10_packs 135 = .ok (.isub, 1) := by decide +kernel
theorem dX10_packs_136 : decode cX10_packs 136 = .ok (.invokestatic 187, 3) := by decide +kernel
theorem dX10_packs_139 : decode cX10_packs 139 = .ok (.iastore, 1) := by decide +kernel
theorem dX10_packs_140 : decode cX10_packs 140 = .ok (.aload_n 0, 1) := by decide +kernel
theorem dX10_packs_141 : decode cX10_packs 141 = .ok (.getfield 52, 3) := by decide +kernel
theorem dX10_packs_144 : decode cX10_packs 144 = .ok (.iload_n 1, 1) := by decide +kernel
theorem dX10_packs_145 : decode cX10_packs 145 = .ok (.dup2, 1) := by decide +kernel
theorem dX10_packs_146 : decode cX10_packs 146 = .ok (.iaload, 1) := by decide +kernel
theorem dX10_packs_147 : decode cX10_packs 147 = .ok (.aload_n 0, 1) := by decide +kernel
theorem dX10_packs_148 : decode cX10_packs 148 = .ok (.invokevirtual 202, 3) := by decide +kernel
theorem dX10_packs_151 : decode cX10_packs 151 = .ok (.iadd, 1) := by decide +kernel
theorem dX10_packs_152 : decode cX10_packs 152 = .ok (.iastore, 1) := by decide +kernel
theorem dX10_packs_153 : decode cX10_packs 153 = .ok (.iload_n 2, 1) := by decide +kernel
theorem dX10_packs_154 : decode cX10_packs 154 = .ok (.aload_n 0, 1) := by decide +kernel
theorem dX10_packs_155 : decode cX10_packs 155 = .ok (.getfield 171, 3) := by decide +kernel
theorem dX10_packs_158 : decode cX10_packs 158 = .ok (.iadd, 1) := by decide +kernel
theorem dX10_packs_159 : decode cX10_packs 159 = .ok (.istore_n 2, 1) := by decide +kernel
theorem dX10_packs_160 : decode cX10_packs 160 = .ok (.goto (-134), 3) := by decide +kernel
theorem dX10_packs_163 : decode cX10_packs 163 = .ok (.aload_n 0, 1) := by decide +kernel
theorem dX10_packs_164 : decode cX10_packs 164 = .ok (.getfield 46, 3) := by decide +kernel
theorem dX10_packs_167 : decode cX10_packs 167 = .ok (.iload_n 1, 1) := by decide +kernel
theorem dX10_packs_168 : decode cX10_packs 168 = .ok (.iconst 1, 1) := by decide +kernel
theorem dX10_packs_169 : decode cX10_packs 169 = .ok (.iadd, 1) := by decide +kernel
theorem dX10_packs_170 : decode cX10_packs 170 = .ok (.aload_n 0, 1) := by decide +kernel
theorem dX10_packs_171 : decode cX10_packs 171 = .ok (.getfield 174, 3) := by decide +kernel
theorem dX10_packs_174 : decode cX10_packs 174 = .ok (.iastore, 1) := by decide +kernel
theorem dX10_packs_175 : decode cX10_packs 175 = .ok (.return_, 1) := by decide +kernel
abbrev VX10_packs_26 (E : En) (d : Nat) (g : Ga) (P : Hp → Prop) (x1 : Int32) (x2 : Int32) (h : Hp) : Prop := V E MX10_packs (RM (d + 1) 0) g (QQ E g (QV E P) 0 0) 0 0 h 26 [(0, .ref (eA E 63)), (1, .int x1), (2, .int x2)] []
abbrev VX10_packs_84 (E : En) (d : Nat) (g : Ga) (P : Hp → Prop) (x1 : Int32) (x2 : Int32) (x3 : Int32) (x4 : Int32) (h : Hp) : Prop := V E MX10_packs (RM (d + 1) 0) g (QQ E g (QV E P) 0 0) 0 0 h 84 [(0, .ref (eA E 63)), (1, .int x1), (2, .int x2), (3, .int x3), (4, .int x4)] []
set_option maxRecDepth 20000 in
theorem wp_X10_packs (E : En) (d : Nat) (a1 : Int32) (h : Hp) (P : Hp → Prop) (t : ∀ g : Ga, vp_in a1 9 ∧ (vp_in a1 8 ∧ (vp_in a1 8 ∧ (VX10_packs_26 E d g P a1 (0 : Int32) (sI (sI (sI h 76 a1.toNatClampNeg (h.1 63 21)) 77 a1.toNatClampNeg (0 : Int32)) 78 a1.toNatClampNeg (0 : Int32)))))) : SpV E (d + 1) MX10_packs [.ref (eA E 63), .int a1] h P := by
  refine SpV.of (lv0 := [(0, .ref (eA E 63)), (1, .int a1)]) (by decide) (Nat.le_of_ble_eq_true rfl) rfl (fun g => ?_)
  have t := t g
  refine r_aload_n (q := 0) dX10_packs_0 rfl rfl ?_
  refine r_getR (c := 63) (c2 := 76) dX10_packs_1 flX10_46 lay_63 rfl ?_
  refine r_iload_n (q := 1) dX10_packs_4 rfl rfl ?_
  refine r_aload_n (q := 0) dX10_packs_5 rfl rfl ?_
  refine r_getI (c := 63) dX10_packs_6 flX10_174 lay_63 rfl ?_
  obtain ⟨c1, t⟩ := t
  refine r_iast (c := 76) dX10_packs_9 lay_76 c1 ?_
  refine r_aload_n (q := 0) dX10_packs_10 rfl rfl ?_
  refine r_getR (c := 63) (c2 := 77) dX10_packs_11 flX10_49 lay_63 rfl ?_
  refine r_iload_n (q := 1) dX10_packs_14 rfl rfl ?_
  refine r_iconst (v := (0 : Int32)) dX10_packs_15 rfl ?_
  obtain ⟨c2, t⟩ := t
  refine r_iast (c := 77) dX10_packs_16 lay_77 c2 ?_
  refine r_aload_n (q := 0) dX10_packs_17 rfl rfl ?_
  refine r_getR (c := 63) (c2 := 78) dX10_packs_18 flX10_52 lay_63 rfl ?_
  refine r_iload_n (q := 1) dX10_packs_21 rfl rfl ?_
  refine r_iconst (v := (0 : Int32)) dX10_packs_22 rfl ?_
  obtain ⟨c3, t⟩ := t
  refine r_iast (c := 78) dX10_packs_23 lay_78 c3 ?_
  refine r_iconst (v := (0 : Int32)) dX10_packs_24 rfl ?_
  refine r_istore_n (lv' := [(2, .int (0 : Int32)), (0, .ref (eA E 63)), (1, .int a1)]) dX10_packs_25 rfl (by decide) rfl ?_
  refine r_sub [1, 2, 0] rfl ?_
  exact t
set_option maxRecDepth 20000 in
theorem sg_X10_packs_26 (E : En) (d : Nat) (g : Ga) (x1 : Int32) (x2 : Int32) (h : Hp) (P : Hp → Prop) (t : vp_in x1 8 ∧ (((h.1 66 x1.toNatClampNeg) ≤ x2 → (vp_in (x1 + (1 : Int32)) 9 ∧ (P (sI h 76 ((x1 + (1 : Int32)).toNatClampNeg) (h.1 63 21))))) ∧ (¬ (h.1 66 x1.toNatClampNeg) ≤ x2 → (SpV E d MX10_laysSegment [.ref (eA E 63), .int x1, .int x2] h (fun h4 => vp_in (0 : Int32) 9 ∧ ((¬ (h4.1 68 ((0 : Int32).toNatClampNeg)) = (1 : Int32) → (vp_in (0 : Int32) 9 ∧ ((¬ (h4.1 68 ((0 : Int32).toNatClampNeg)) = (2 : Int32) → (VX10_packs_84 E d g P x1 x2 (h4.1 63 21) (0 : Int32) h4)) ∧ ((h4.1 68 ((0 : Int32).toNatClampNeg)) = (2 : Int32) → (SpV E d MX10_packsBest [.ref (eA E 63)] h4 (fun h9 => vp_in ((h9.1 63 21) - (1 : Int32)) 192 ∧ (vp_in x1 8 ∧ (vp_in x1 8 ∧ (vp_in x1 8 ∧ (SpI E d MX10_chainOf [.ref (eA E 63)] (sI (sI h9 75 (((h9.1 63 21) - (1 : Int32)).toNatClampNeg) (1 : Int32)) 77 x1.toNatClampNeg (if (h9.1 77 x1.toNatClampNeg) < ((h9.1 63 21) - (h4.1 63 21)) then ((h9.1 63 21) - (h4.1 63 21)) else (h9.1 77 x1.toNatClampNeg))) (fun v14 h14 => vp_in x1 8 ∧ (VX10_packs_26 E d g P x1 (x2 + (h14.1 63 10)) (sI h14 78 x1.toNatClampNeg ((h9.1 78 x1.toNatClampNeg) + v14)))))))))))))) ∧ ((h4.1 68 ((0 : Int32).toNatClampNeg)) = (1 : Int32) → (SpV E d MX10_packsByList [.ref (eA E 63)] h4 (fun h16 => vp_in ((h16.1 63 21) - (1 : Int32)) 192 ∧ (vp_in x1 8 ∧ (vp_in x1 8 ∧ (vp_in x1 8 ∧ (SpI E d MX10_chainOf [.ref (eA E 63)] (sI (sI h16 75 (((h16.1 63 21) - (1 : Int32)).toNatClampNeg) (1 : Int32)) 77 x1.toNatClampNeg (if (h16.1 77 x1.toNatClampNeg) < ((h16.1 63 21) - (h4.1 63 21)) then ((h16.1 63 21) - (h4.1 63 21)) else (h16.1 77 x1.toNatClampNeg))) (fun v21 h21 => vp_in x1 8 ∧ (VX10_packs_26 E d g P x1 (x2 + (h21.1 63 10)) (sI h21 78 x1.toNatClampNeg ((h16.1 78 x1.toNatClampNeg) + v21))))))))))))))))) : VX10_packs_26 E d g P x1 x2 h := by
  refine r_iload_n (q := 2) dX10_packs_26 rfl rfl ?_
  refine r_aload_n (q := 0) dX10_packs_27 rfl rfl ?_
  refine r_getR (c := 63) (c2 := 66) dX10_packs_28 flX10_16 lay_63 rfl ?_
  refine r_iload_n (q := 1) dX10_packs_31 rfl rfl ?_
  obtain ⟨c1, t⟩ := t
  refine r_iald (c := 66) dX10_packs_32 lay_66 c1 ?_
  refine r_icmp_ge (tgt := 163) dX10_packs_33 (by decide) (fun q2 => ?_) (fun q2 => ?_)
  · have t := t.1 q2
    refine r_aload_n (q := 0) dX10_packs_163 rfl rfl ?_
    refine r_getR (c := 63) (c2 := 76) dX10_packs_164 flX10_46 lay_63 rfl ?_
    refine r_iload_n (q := 1) dX10_packs_167 rfl rfl ?_
    refine r_iconst (v := (1 : Int32)) dX10_packs_168 rfl ?_
    refine r_iadd dX10_packs_169 ?_
    refine r_aload_n (q := 0) dX10_packs_170 rfl rfl ?_
    refine r_getI (c := 63) dX10_packs_171 flX10_174 lay_63 rfl ?_
    obtain ⟨c3, t⟩ := t
    refine r_iast (c := 76) dX10_packs_174 lay_76 c3 ?_
    exact r_vret dX10_packs_175 rfl t
  · have t := t.2 q2
    refine r_aload_n (q := 0) dX10_packs_36 rfl rfl ?_
    refine r_iload_n (q := 1) dX10_packs_37 rfl rfl ?_
    refine r_iload_n (q := 2) dX10_packs_38 rfl rfl ?_
    refine r_cVV (c := 63) (As := [.int x1, .int x2]) dX10_packs_39 mkX10_laysSegment lkX10_192 lay_63 rfl rfl rfl (by decide) rfl (Nat.le_of_ble_eq_true rfl) z00 t ?_
    intro h4 t
    refine r_aload_n (q := 0) dX10_packs_42 rfl rfl ?_
    refine r_getI (c := 63) dX10_packs_43 flX10_174 lay_63 rfl ?_
    refine r_istore_n (lv' := [(3, .int (h4.1 63 21)), (0, .ref (eA E 63)), (1, .int x1), (2, .int x2)]) dX10_packs_46 rfl (by decide) rfl ?_
    refine r_aload_n (q := 1) dX10_packs_47 rfl rfl ?_
    refine r_getR (c := 63) (c2 := 68) dX10_packs_48 flX10_22 lay_63 rfl ?_
    refine r_iconst (v := (0 : Int32)) dX10_packs_51 rfl ?_
    obtain ⟨c5, t⟩ := t
    refine r_iald (c := 68) dX10_packs_52 lay_68 c5 ?_
    refine r_iconst (v := (1 : Int32)) dX10_packs_53 rfl ?_
    refine r_icmp_ne (tgt := 64) dX10_packs_54 (by decide) (fun q6 => ?_) (fun q6 => ?_)
    · have t := t.1 q6
      refine r_aload_n (q := 1) dX10_packs_64 rfl rfl ?_
      refine r_getR (c := 63) (c2 := 68) dX10_packs_65 flX10_22 lay_63 rfl ?_
      refine r_iconst (v := (0 : Int32)) dX10_packs_68 rfl ?_
      obtain ⟨c7, t⟩ := t
      refine r_iald (c := 68) dX10_packs_69 lay_68 c7 ?_
      refine r_iconst (v := (2 : Int32)) dX10_packs_70 rfl ?_
      refine r_icmp_ne (tgt := 81) dX10_packs_71 (by decide) (fun q8 => ?_) (fun q8 => ?_)
      · have t := t.1 q8
        refine r_iconst (v := (0 : Int32)) dX10_packs_81 rfl ?_
        refine r_istore (lv' := [(4, .int (0 : Int32)), (3, .int (h4.1 63 21)), (0, .ref (eA E 63)), (1, .int x1), (2, .int x2)]) dX10_packs_82 (by decide) rfl ?_
        refine r_sub [2, 3, 4, 1, 0] rfl ?_
        exact t
      · have t := t.2 q8
        refine r_aload_n (q := 1) dX10_packs_74 rfl rfl ?_
        refine r_cVV (c := 63) (As := []) dX10_packs_75 mkX10_packsBest lkX10_199 lay_63 rfl rfl rfl (by decide) rfl (Nat.le_of_ble_eq_true rfl) z00 t ?_
        intro h9 t
        refine r_goto (tgt := 107) dX10_packs_78 (by decide) ?_
        refine r_aload_n (q := 1) dX10_packs_107 rfl rfl ?_
        refine r_getR (c := 63) (c2 := 75) dX10_packs_108 flX10_43 lay_63 rfl ?_
        refine r_aload_n (q := 1) dX10_packs_111 rfl rfl ?_
        refine r_getI (c := 63) dX10_packs_112 flX10_174 lay_63 rfl ?_
        refine r_iconst (v := (1 : Int32)) dX10_packs_115 rfl ?_
        refine r_isub dX10_packs_116 ?_
        refine r_iconst (v := (1 : Int32)) dX10_packs_117 rfl ?_
        obtain ⟨c10, t⟩ := t
        refine r_iast (c := 75) dX10_packs_118 lay_75 c10 ?_
        refine r_aload_n (q := 1) dX10_packs_119 rfl rfl ?_
        refine r_getR (c := 63) (c2 := 77) dX10_packs_120 flX10_49 lay_63 rfl ?_
        refine r_iload_n (q := 2) dX10_packs_123 rfl rfl ?_
        refine r_aload_n (q := 1) dX10_packs_124 rfl rfl ?_
        refine r_getR (c := 63) (c2 := 77) dX10_packs_125 flX10_49 lay_63 rfl ?_
        refine r_iload_n (q := 2) dX10_packs_128 rfl rfl ?_
        obtain ⟨c11, t⟩ := t
        refine r_ialdv (c := 77) (v := h9.1 77 x1.toNatClampNeg) dX10_packs_129 lay_77 c11 rfl ?_
        refine r_aload_n (q := 1) dX10_packs_130 rfl rfl ?_
        refine r_getIv (c := 63) (v := h9.1 63 21) dX10_packs_131 flX10_174 lay_63 rfl rfl ?_
        refine r_iload_n (q := 0) dX10_packs_134 rfl rfl ?_
        refine r_isub dX10_packs_135 ?_
        refine r_max dX10_packs_136 lkX10_187 (Nat.le_of_ble_eq_true rfl) z00 ?_
        obtain ⟨c12, t⟩ := t
        refine r_iast (c := 77) dX10_packs_139 lay_77 c12 ?_
        refine r_aload_n (q := 1) dX10_packs_140 rfl rfl ?_
        refine r_getR (c := 63) (c2 := 78) dX10_packs_141 flX10_52 lay_63 rfl ?_
        refine r_iload_n (q := 2) dX10_packs_144 rfl rfl ?_
        refine r_dup2 dX10_packs_145 rfl rfl ?_
        obtain ⟨c13, t⟩ := t
        refine r_ialdv (c := 78) (v := h9.1 78 x1.toNatClampNeg) dX10_packs_146 lay_78 c13 rfl ?_
        refine r_aload_n (q := 1) dX10_packs_147 rfl rfl ?_
        refine r_cVI (c := 63) (As := []) dX10_packs_148 mkX10_chainOf lkX10_202 lay_63 rfl rfl rfl (by decide) rfl (Nat.le_of_ble_eq_true rfl) z00 t ?_
        intro v14 h14 t
        refine r_iadd dX10_packs_151 ?_
        obtain ⟨c15, t⟩ := t
        refine r_iast (c := 78) dX10_packs_152 lay_78 c15 ?_
        refine r_iload_n (q := 3) dX10_packs_153 rfl rfl ?_
        refine r_aload_n (q := 1) dX10_packs_154 rfl rfl ?_
        refine r_getIv (c := 63) (v := h14.1 63 10) dX10_packs_155 flX10_171 lay_63 rfl rfl ?_
        refine r_iadd dX10_packs_158 ?_
        refine r_istore_n (lv' := [(2, .int (x2 + (h14.1 63 10))), (3, .int (h4.1 63 21)), (0, .ref (eA E 63)), (1, .int x1)]) dX10_packs_159 rfl (by decide) rfl ?_
        refine r_goto (tgt := 26) dX10_packs_160 (by decide) ?_
        refine r_sub [2, 3, 0] rfl ?_
        exact t
    · have t := t.2 q6
      refine r_aload_n (q := 1) dX10_packs_57 rfl rfl ?_
      refine r_cVV (c := 63) (As := []) dX10_packs_58 mkX10_packsByList lkX10_196 lay_63 rfl rfl rfl (by decide) rfl (Nat.le_of_ble_eq_true rfl) z00 t ?_
      intro h16 t
      refine r_goto (tgt := 107) dX10_packs_61 (by decide) ?_
      refine r_aload_n (q := 1) dX10_packs_107 rfl rfl ?_
      refine r_getR (c := 63) (c2 := 75) dX10_packs_108 flX10_43 lay_63 rfl ?_
      refine r_aload_n (q := 1) dX10_packs_111 rfl rfl ?_
      refine r_getI (c := 63) dX10_packs_112 flX10_174 lay_63 rfl ?_
      refine r_iconst (v := (1 : Int32)) dX10_packs_115 rfl ?_
      refine r_isub dX10_packs_116 ?_
      refine r_iconst (v := (1 : Int32)) dX10_packs_117 rfl ?_
      obtain ⟨c17, t⟩ := t
      refine r_iast (c := 75) dX10_packs_118 lay_75 c17 ?_
      refine r_aload_n (q := 1) dX10_packs_119 rfl rfl ?_
      refine r_getR (c := 63) (c2 := 77) dX10_packs_120 flX10_49 lay_63 rfl ?_
      refine r_iload_n (q := 2) dX10_packs_123 rfl rfl ?_
      refine r_aload_n (q := 1) dX10_packs_124 rfl rfl ?_
      refine r_getR (c := 63) (c2 := 77) dX10_packs_125 flX10_49 lay_63 rfl ?_
      refine r_iload_n (q := 2) dX10_packs_128 rfl rfl ?_
      obtain ⟨c18, t⟩ := t
      refine r_ialdv (c := 77) (v := h16.1 77 x1.toNatClampNeg) dX10_packs_129 lay_77 c18 rfl ?_
      refine r_aload_n (q := 1) dX10_packs_130 rfl rfl ?_
      refine r_getIv (c := 63) (v := h16.1 63 21) dX10_packs_131 flX10_174 lay_63 rfl rfl ?_
      refine r_iload_n (q := 0) dX10_packs_134 rfl rfl ?_
      refine r_isub dX10_packs_135 ?_
      refine r_max dX10_packs_136 lkX10_187 (Nat.le_of_ble_eq_true rfl) z00 ?_
      obtain ⟨c19, t⟩ := t
      refine r_iast (c := 77) dX10_packs_139 lay_77 c19 ?_
      refine r_aload_n (q := 1) dX10_packs_140 rfl rfl ?_
      refine r_getR (c := 63) (c2 := 78) dX10_packs_141 flX10_52 lay_63 rfl ?_
      refine r_iload_n (q := 2) dX10_packs_144 rfl rfl ?_
      refine r_dup2 dX10_packs_145 rfl rfl ?_
      obtain ⟨c20, t⟩ := t
      refine r_ialdv (c := 78) (v := h16.1 78 x1.toNatClampNeg) dX10_packs_146 lay_78 c20 rfl ?_
      refine r_aload_n (q := 1) dX10_packs_147 rfl rfl ?_
      refine r_cVI (c := 63) (As := []) dX10_packs_148 mkX10_chainOf lkX10_202 lay_63 rfl rfl rfl (by decide) rfl (Nat.le_of_ble_eq_true rfl) z00 t ?_
      intro v21 h21 t
      refine r_iadd dX10_packs_151 ?_
      obtain ⟨c22, t⟩ := t
      refine r_iast (c := 78) dX10_packs_152 lay_78 c22 ?_
      refine r_iload_n (q := 3) dX10_packs_153 rfl rfl ?_
      refine r_aload_n (q := 1) dX10_packs_154 rfl rfl ?_
      refine r_getIv (c := 63) (v := h21.1 63 10) dX10_packs_155 flX10_171 lay_63 rfl rfl ?_
      refine r_iadd dX10_packs_158 ?_
      refine r_istore_n (lv' := [(2, .int (x2 + (h21.1 63 10))), (3, .int (h4.1 63 21)), (0, .ref (eA E 63)), (1, .int x1)]) dX10_packs_159 rfl (by decide) rfl ?_
      refine r_goto (tgt := 26) dX10_packs_160 (by decide) ?_
      refine r_sub [2, 3, 0] rfl ?_
      exact t
set_option maxRecDepth 20000 in
theorem sg_X10_packs_84 (E : En) (d : Nat) (g : Ga) (x1 : Int32) (x2 : Int32) (x3 : Int32) (x4 : Int32) (h : Hp) (P : Hp → Prop) (t : ((h.1 63 10) ≤ x4 → (vp_in ((h.1 63 21) - (1 : Int32)) 192 ∧ (vp_in x1 8 ∧ (vp_in x1 8 ∧ (vp_in x1 8 ∧ (SpI E d MX10_chainOf [.ref (eA E 63)] (sI (sI h 75 (((h.1 63 21) - (1 : Int32)).toNatClampNeg) (1 : Int32)) 77 x1.toNatClampNeg (if (h.1 77 x1.toNatClampNeg) < ((h.1 63 21) - x3) then ((h.1 63 21) - x3) else (h.1 77 x1.toNatClampNeg))) (fun v6 h6 => vp_in x1 8 ∧ (VX10_packs_26 E d g P x1 (x2 + (h6.1 63 10)) (sI h6 78 x1.toNatClampNeg ((h.1 78 x1.toNatClampNeg) + v6)))))))))) ∧ (¬ (h.1 63 10) ≤ x4 → (SpV E d MX10_laysWord [.ref (eA E 63), .int ((1 : Int32) <<< (x4 &&& 31))] h (fun h8 => VX10_packs_84 E d g P x1 x2 x3 (x4 + (1 : Int32)) h8)))) : VX10_packs_84 E d g P x1 x2 x3 x4 h := by
  refine r_iload (q := 4) dX10_packs_84 rfl ?_
  refine r_aload_n (q := 0) dX10_packs_86 rfl rfl ?_
  refine r_getI (c := 63) dX10_packs_87 flX10_171 lay_63 rfl ?_
  refine r_icmp_ge (tgt := 107) dX10_packs_90 (by decide) (fun q1 => ?_) (fun q1 => ?_)
  · have t := t.1 q1
    refine r_aload_n (q := 0) dX10_packs_107 rfl rfl ?_
    refine r_getR (c := 63) (c2 := 75) dX10_packs_108 flX10_43 lay_63 rfl ?_
    refine r_aload_n (q := 0) dX10_packs_111 rfl rfl ?_
    refine r_getI (c := 63) dX10_packs_112 flX10_174 lay_63 rfl ?_
    refine r_iconst (v := (1 : Int32)) dX10_packs_115 rfl ?_
    refine r_isub dX10_packs_116 ?_
    refine r_iconst (v := (1 : Int32)) dX10_packs_117 rfl ?_
    obtain ⟨c2, t⟩ := t
    refine r_iast (c := 75) dX10_packs_118 lay_75 c2 ?_
    refine r_aload_n (q := 0) dX10_packs_119 rfl rfl ?_
    refine r_getR (c := 63) (c2 := 77) dX10_packs_120 flX10_49 lay_63 rfl ?_
    refine r_iload_n (q := 1) dX10_packs_123 rfl rfl ?_
    refine r_aload_n (q := 0) dX10_packs_124 rfl rfl ?_
    refine r_getR (c := 63) (c2 := 77) dX10_packs_125 flX10_49 lay_63 rfl ?_
    refine r_iload_n (q := 1) dX10_packs_128 rfl rfl ?_
    obtain ⟨c3, t⟩ := t
    refine r_ialdv (c := 77) (v := h.1 77 x1.toNatClampNeg) dX10_packs_129 lay_77 c3 rfl ?_
    refine r_aload_n (q := 0) dX10_packs_130 rfl rfl ?_
    refine r_getIv (c := 63) (v := h.1 63 21) dX10_packs_131 flX10_174 lay_63 rfl rfl ?_
    refine r_iload_n (q := 3) dX10_packs_134 rfl rfl ?_
    refine r_isub dX10_packs_135 ?_
    refine r_max dX10_packs_136 lkX10_187 (Nat.le_of_ble_eq_true rfl) z00 ?_
    obtain ⟨c4, t⟩ := t
    refine r_iast (c := 77) dX10_packs_139 lay_77 c4 ?_
    refine r_aload_n (q := 0) dX10_packs_140 rfl rfl ?_
    refine r_getR (c := 63) (c2 := 78) dX10_packs_141 flX10_52 lay_63 rfl ?_
    refine r_iload_n (q := 1) dX10_packs_144 rfl rfl ?_
    refine r_dup2 dX10_packs_145 rfl rfl ?_
    obtain ⟨c5, t⟩ := t
    refine r_ialdv (c := 78) (v := h.1 78 x1.toNatClampNeg) dX10_packs_146 lay_78 c5 rfl ?_
    refine r_aload_n (q := 0) dX10_packs_147 rfl rfl ?_
    refine r_cVI (c := 63) (As := []) dX10_packs_148 mkX10_chainOf lkX10_202 lay_63 rfl rfl rfl (by decide) rfl (Nat.le_of_ble_eq_true rfl) z00 t ?_
    intro v6 h6 t
    refine r_iadd dX10_packs_151 ?_
    obtain ⟨c7, t⟩ := t
    refine r_iast (c := 78) dX10_packs_152 lay_78 c7 ?_
    refine r_iload_n (q := 2) dX10_packs_153 rfl rfl ?_
    refine r_aload_n (q := 0) dX10_packs_154 rfl rfl ?_
    refine r_getIv (c := 63) (v := h6.1 63 10) dX10_packs_155 flX10_171 lay_63 rfl rfl ?_
    refine r_iadd dX10_packs_158 ?_
    refine r_istore_n (lv' := [(2, .int (x2 + (h6.1 63 10))), (0, .ref (eA E 63)), (1, .int x1), (3, .int x3), (4, .int x4)]) dX10_packs_159 rfl (by decide) rfl ?_
    refine r_goto (tgt := 26) dX10_packs_160 (by decide) ?_
    refine r_sub [1, 2, 0] rfl ?_
    exact t
  · have t := t.2 q1
    refine r_aload_n (q := 0) dX10_packs_93 rfl rfl ?_
    refine r_iconst (v := (1 : Int32)) dX10_packs_94 rfl ?_
    refine r_iload (q := 4) dX10_packs_95 rfl ?_
    refine r_ishl dX10_packs_97 ?_
    refine r_cVV (c := 63) (As := [.int ((1 : Int32) <<< (x4 &&& 31))]) dX10_packs_98 mkX10_laysWord lkX10_177 lay_63 rfl rfl rfl (by decide) rfl (Nat.le_of_ble_eq_true rfl) z00 t ?_
    intro h8 t
    refine r_iinc (k := 4) (v := x4 + (1 : Int32)) (lv' := [(4, .int (x4 + (1 : Int32))), (0, .ref (eA E 63)), (1, .int x1), (2, .int x2), (3, .int x3)]) dX10_packs_101 rfl rfl (by decide) rfl ?_
    refine r_goto (tgt := 84) dX10_packs_104 (by decide) ?_
    refine r_sub [1, 2, 3, 4, 0] rfl ?_
    exact t
theorem dX10_wordsOf_0 : decode cX10_wordsOf 0 = .ok (.aload_n 0, 1) := by decide +kernel
theorem dX10_wordsOf_1 : decode cX10_wordsOf 1 = .ok (.getfield 46, 3) := by decide +kernel
theorem dX10_wordsOf_4 : decode cX10_wordsOf 4 = .ok (.iload_n 1, 1) := by decide +kernel
theorem dX10_wordsOf_5 : decode cX10_wordsOf 5 = .ok (.iconst 1, 1) := by decide +kernel
theorem dX10_wordsOf_6 : decode cX10_wordsOf 6 = .ok (.iadd, 1) := by decide +kernel
theorem dX10_wordsOf_7 : decode cX10_wordsOf 7 = .ok (.iaload, 1) := by decide +kernel
theorem dX10_wordsOf_8 : decode cX10_wordsOf 8 = .ok (.aload_n 0, 1) := by decide +kernel
theorem dX10_wordsOf_9 : decode cX10_wordsOf 9 = .ok (.getfield 46, 3) := by decide +kernel
theorem dX10_wordsOf_12 : decode cX10_wordsOf 12 = .ok (.iload_n 1, 1) := by decide +kernel
theorem dX10_wordsOf_13 : decode cX10_wordsOf 13 = .ok (.iaload, 1) := by decide +kernel
theorem dX10_wordsOf_14 : decode cX10_wordsOf 14 = .ok (.isub, 1) := by decide +kernel
theorem dX10_wordsOf_15 : decode cX10_wordsOf 15 = .ok (.ireturn, 1) := by decide +kernel
set_option maxRecDepth 20000 in
theorem wp_X10_wordsOf (E : En) (d : Nat) (a1 : Int32) (h : Hp) (P : Int32 → Hp → Prop) (t : vp_in (a1 + (1 : Int32)) 9 ∧ (vp_in a1 9 ∧ (P ((h.1 76 ((a1 + (1 : Int32)).toNatClampNeg)) - (h.1 76 a1.toNatClampNeg)) h))) : SpI E d MX10_wordsOf [.ref (eA E 63), .int a1] h P := by
  refine SpI.of (lv0 := [(0, .ref (eA E 63)), (1, .int a1)]) (by decide) (Nat.le_of_ble_eq_true rfl) rfl (fun g => ?_)
  refine r_aload_n (q := 0) dX10_wordsOf_0 rfl rfl ?_
  refine r_getR (c := 63) (c2 := 76) dX10_wordsOf_1 flX10_46 lay_63 rfl ?_
  refine r_iload_n (q := 1) dX10_wordsOf_4 rfl rfl ?_
  refine r_iconst (v := (1 : Int32)) dX10_wordsOf_5 rfl ?_
  refine r_iadd dX10_wordsOf_6 ?_
  obtain ⟨c1, t⟩ := t
  refine r_iald (c := 76) dX10_wordsOf_7 lay_76 c1 ?_
  refine r_aload_n (q := 0) dX10_wordsOf_8 rfl rfl ?_
  refine r_getR (c := 63) (c2 := 76) dX10_wordsOf_9 flX10_46 lay_63 rfl ?_
  refine r_iload_n (q := 1) dX10_wordsOf_12 rfl rfl ?_
  obtain ⟨c2, t⟩ := t
  refine r_iald (c := 76) dX10_wordsOf_13 lay_76 c2 ?_
  refine r_isub dX10_wordsOf_14 ?_
  exact r_iret dX10_wordsOf_15 rfl t
theorem dX10_isEnd_0 : decode cX10_isEnd 0 = .ok (.iload_n 3, 1) := by decide +kernel
theorem dX10_isEnd_1 : decode cX10_isEnd 1 = .ok (.istore 4, 2) := by decide +kernel
theorem dX10_isEnd_3 : decode cX10_isEnd 3 = .ok (.aload_n 0, 1) := by decide +kernel
theorem dX10_isEnd_4 : decode cX10_isEnd 4 = .ok (.getfield 46, 3) := by decide +kernel
theorem dX10_isEnd_7 : decode cX10_isEnd 7 = .ok (.iload_n 1, 1) := by decide +kernel
theorem dX10_isEnd_8 : decode cX10_isEnd 8 = .ok (.iaload, 1) := by decide +kernel
theorem dX10_isEnd_9 : decode cX10_isEnd 9 = .ok (.iload_n 2, 1) := by decide +kernel
theorem dX10_isEnd_10 : decode cX10_isEnd 10 = .ok (.iadd, 1) := by decide +kernel
theorem dX10_isEnd_11 : decode cX10_isEnd 11 = .ok (.istore 5, 2) := by decide +kernel
theorem dX10_isEnd_13 : decode cX10_isEnd 13 = .ok (.iload 5, 2) := by decide +kernel
theorem dX10_isEnd_15 : decode cX10_isEnd 15 = .ok (.aload_n 0, 1) := by decide +kernel
theorem dX10_isEnd_16 : decode cX10_isEnd 16 = .ok (.getfield 46, 3) := by decide +kernel
theorem dX10_isEnd_19 : decode cX10_isEnd 19 = .ok (.iload_n 1, 1) := by decide +kernel
theorem dX10_isEnd_20 : decode cX10_isEnd 20 = .ok (.iconst 1, 1) := by decide +kernel
theorem dX10_isEnd_21 : decode cX10_isEnd 21 = .ok (.iadd, 1) := by decide +kernel
theorem dX10_isEnd_22 : decode cX10_isEnd 22 = .ok (.iaload, 1) := by decide +kernel
theorem dX10_isEnd_23 : decode cX10_isEnd 23 = .ok (.if_icmp .ge 60, 3) := by decide +kernel
theorem dX10_isEnd_26 : decode cX10_isEnd 26 = .ok (.iload 4, 2) := by decide +kernel
theorem dX10_isEnd_28 : decode cX10_isEnd 28 = .ok (.iconst (-1), 1) := by decide +kernel
theorem dX10_isEnd_29 : decode cX10_isEnd 29 = .ok (.if_icmp .eq 37, 3) := by decide +kernel
theorem dX10_isEnd_32 : decode cX10_isEnd 32 = .ok (.aload_n 0, 1) := by decide +kernel
theorem dX10_isEnd_33 : decode cX10_isEnd 33 = .ok (.getfield 55, 3) := by decide +kernel
theorem dX10_isEnd_36 : decode cX10_isEnd 36 = .ok (.iload 4, 2) := by decide +kernel
theorem dX10_isEnd_38 : decode cX10_isEnd 38 = .ok (.iaload, 1) := by decide +kernel
theorem dX10_isEnd_39 : decode cX10_isEnd 39 = .ok (.aload_n 0, 1) := by decide +kernel
theorem dX10_isEnd_40 : decode cX10_isEnd 40 = .ok (.getfield 40, 3) := by decide +kernel
theorem dX10_isEnd_43 : decode cX10_isEnd 43 = .ok (.iload 5, 2) := by decide +kernel
theorem dX10_isEnd_45 : decode cX10_isEnd 45 = .ok (.iaload, 1) := by decide +kernel
theorem dX10_isEnd_46 : decode cX10_isEnd 46 = .ok (.if_icmp .ne 20, 3) := by decide +kernel
theorem dX10_isEnd_49 : decode cX10_isEnd 49 = .ok (.aload_n 0, 1) := by decide +kernel
theorem dX10_isEnd_50 : decode cX10_isEnd 50 = .ok (.getfield 58, 3) := by decide +kernel
theorem dX10_isEnd_53 : decode cX10_isEnd 53 = .ok (.iload 4, 2) := by decide +kernel
theorem dX10_isEnd_55 : decode cX10_isEnd 55 = .ok (.iaload, 1) := by decide +kernel
theorem dX10_isEnd_56 : decode cX10_isEnd 56 = .ok (.aload_n 0, 1) := by decide +kernel
theorem dX10_isEnd_57 : decode cX10_isEnd 57 = .ok (.getfield 43, 3) := by decide +kernel
theorem dX10_isEnd_60 : decode cX10_isEnd 60 = .ok (.iload 5, 2) := by decide +kernel
theorem dX10_isEnd_62 : decode cX10_isEnd 62 = .ok (.iaload, 1) := by decide +kernel
theorem dX10_isEnd_63 : decode cX10_isEnd 63 = .ok (.if_icmp .eq 5, 3) := by decide +kernel
theorem dX10_isEnd_66 : decode cX10_isEnd 66 = .ok (.iconst 0, 1) := by decide +kernel
theorem dX10_isEnd_67 : decode cX10_isEnd 67 = .ok (.ireturn, 1) := by decide +kernel
theorem dX10_isEnd_68 : decode cX10_isEnd 68 = .ok (.aload_n 0, 1) := by decide +kernel
theorem dX10_isEnd_69 : decode cX10_isEnd 69 = .ok (.getfield 61, 3) := by decide +kernel
theorem dX10_isEnd_72 : decode cX10_isEnd 72 = .ok (.iload 4, 2) := by decide +kernel
theorem dX10_isEnd_74 : decode cX10_isEnd 74 = .ok (.iaload, 1) := by decide +kernel
theorem dX10_isEnd_75 : decode cX10_isEnd 75 = .ok (.istore 4, 2) := by decide +kernel
theorem dX10_isEnd_77 : decode cX10_isEnd 77 = .ok (.iinc 5 1, 3) := by decide +kernel
theorem dX10_isEnd_80 : decode cX10_isEnd 80 = .ok (.goto (-67), 3) := by decide +kernel
theorem dX10_isEnd_83 : decode cX10_isEnd 83 = .ok (.iload 4, 2) := by decide +kernel
theorem dX10_isEnd_85 : decode cX10_isEnd 85 = .ok (.iconst (-1), 1) := by decide +kernel
theorem dX10_isEnd_86 : decode cX10_isEnd 86 = .ok (.if_icmp .ne 7, 3) := by decide +kernel
theorem dX10_isEnd_89 : decode cX10_isEnd 89 = .ok (.iconst 1, 1) := by decide +kernel
theorem dX10_isEnd_90 : decode cX10_isEnd 90 = .ok (.goto 4, 3) := by decide +kernel
theorem dX10_isEnd_93 : decode cX10_isEnd 93 = .ok (.iconst 0, 1) := by decide +kernel
theorem dX10_isEnd_94 : decode cX10_isEnd 94 = .ok (.ireturn, 1) := by decide +kernel
abbrev VX10_isEnd_13 (E : En) (d : Nat) (g : Ga) (P : Int32 → Hp → Prop) (x1 : Int32) (x2 : Int32) (x3 : Int32) (x4 : Int32) (x5 : Int32) (h : Hp) : Prop := V E MX10_isEnd (RM d 0) g (QQ E g (QI E P) 0 0) 0 0 h 13 [(0, .ref (eA E 63)), (1, .int x1), (2, .int x2), (3, .int x3), (4, .int x4), (5, .int x5)] []
set_option maxRecDepth 20000 in
theorem wp_X10_isEnd (E : En) (d : Nat) (a1 : Int32) (a2 : Int32) (a3 : Int32) (h : Hp) (P : Int32 → Hp → Prop) (t : ∀ g : Ga, vp_in a1 9 ∧ (VX10_isEnd_13 E d g P a1 a2 a3 a3 ((h.1 76 a1.toNatClampNeg) + a2) h)) : SpI E d MX10_isEnd [.ref (eA E 63), .int a1, .int a2, .int a3] h P := by
  refine SpI.of (lv0 := [(0, .ref (eA E 63)), (1, .int a1), (2, .int a2), (3, .int a3)]) (by decide) (Nat.le_of_ble_eq_true rfl) rfl (fun g => ?_)
  have t := t g
  refine r_iload_n (q := 3) dX10_isEnd_0 rfl rfl ?_
  refine r_istore (lv' := [(4, .int a3), (0, .ref (eA E 63)), (1, .int a1), (2, .int a2), (3, .int a3)]) dX10_isEnd_1 (by decide) rfl ?_
  refine r_aload_n (q := 1) dX10_isEnd_3 rfl rfl ?_
  refine r_getR (c := 63) (c2 := 76) dX10_isEnd_4 flX10_46 lay_63 rfl ?_
  refine r_iload_n (q := 2) dX10_isEnd_7 rfl rfl ?_
  obtain ⟨c1, t⟩ := t
  refine r_iald (c := 76) dX10_isEnd_8 lay_76 c1 ?_
  refine r_iload_n (q := 3) dX10_isEnd_9 rfl rfl ?_
  refine r_iadd dX10_isEnd_10 ?_
  refine r_istore (lv' := [(5, .int ((h.1 76 a1.toNatClampNeg) + a2)), (4, .int a3), (0, .ref (eA E 63)), (1, .int a1), (2, .int a2), (3, .int a3)]) dX10_isEnd_11 (by decide) rfl ?_
  refine r_sub [2, 3, 4, 5, 1, 0] rfl ?_
  exact t
set_option maxRecDepth 20000 in
theorem sg_X10_isEnd_13 (E : En) (d : Nat) (g : Ga) (x1 : Int32) (x2 : Int32) (x3 : Int32) (x4 : Int32) (x5 : Int32) (h : Hp) (P : Int32 → Hp → Prop) (t : vp_in (x1 + (1 : Int32)) 9 ∧ (((h.1 76 ((x1 + (1 : Int32)).toNatClampNeg)) ≤ x5 → ((¬ x4 = (-1 : Int32) → (P (0 : Int32) h)) ∧ (x4 = (-1 : Int32) → (P (1 : Int32) h)))) ∧ (¬ (h.1 76 ((x1 + (1 : Int32)).toNatClampNeg)) ≤ x5 → ((x4 = (-1 : Int32) → (P (0 : Int32) h)) ∧ (¬ x4 = (-1 : Int32) → (vp_in x4 192 ∧ (vp_in x5 192 ∧ ((¬ (h.1 79 x4.toNatClampNeg) = (h.1 74 x5.toNatClampNeg) → (P (0 : Int32) h)) ∧ ((h.1 79 x4.toNatClampNeg) = (h.1 74 x5.toNatClampNeg) → (vp_in x4 192 ∧ (vp_in x5 192 ∧ (((h.1 80 x4.toNatClampNeg) = (h.1 75 x5.toNatClampNeg) → (vp_in x4 192 ∧ (VX10_isEnd_13 E d g P x1 x2 x3 (h.1 81 x4.toNatClampNeg) (x5 + (1 : Int32)) h))) ∧ (¬ (h.1 80 x4.toNatClampNeg) = (h.1 75 x5.toNatClampNeg) → (P (0 : Int32) h)))))))))))))) : VX10_isEnd_13 E d g P x1 x2 x3 x4 x5 h := by
  refine r_iload (q := 5) dX10_isEnd_13 rfl ?_
  refine r_aload_n (q := 0) dX10_isEnd_15 rfl rfl ?_
  refine r_getR (c := 63) (c2 := 76) dX10_isEnd_16 flX10_46 lay_63 rfl ?_
  refine r_iload_n (q := 1) dX10_isEnd_19 rfl rfl ?_
  refine r_iconst (v := (1 : Int32)) dX10_isEnd_20 rfl ?_
  refine r_iadd dX10_isEnd_21 ?_
  obtain ⟨c1, t⟩ := t
  refine r_iald (c := 76) dX10_isEnd_22 lay_76 c1 ?_
  refine r_icmp_ge (tgt := 83) dX10_isEnd_23 (by decide) (fun q2 => ?_) (fun q2 => ?_)
  · have t := t.1 q2
    refine r_iload (q := 4) dX10_isEnd_83 rfl ?_
    refine r_iconst (v := (-1 : Int32)) dX10_isEnd_85 rfl ?_
    refine r_icmp_ne (tgt := 93) dX10_isEnd_86 (by decide) (fun q3 => ?_) (fun q3 => ?_)
    · have t := t.1 q3
      refine r_iconst (v := (0 : Int32)) dX10_isEnd_93 rfl ?_
      exact r_zret dX10_isEnd_94 rfl (Or.inl rfl) t
    · have t := t.2 q3
      refine r_iconst (v := (1 : Int32)) dX10_isEnd_89 rfl ?_
      refine r_goto (tgt := 94) dX10_isEnd_90 (by decide) ?_
      exact r_zret dX10_isEnd_94 rfl (Or.inr rfl) t
  · have t := t.2 q2
    refine r_iload (q := 4) dX10_isEnd_26 rfl ?_
    refine r_iconst (v := (-1 : Int32)) dX10_isEnd_28 rfl ?_
    refine r_icmp_eq (tgt := 66) dX10_isEnd_29 (by decide) (fun q4 => ?_) (fun q4 => ?_)
    · have t := t.1 q4
      refine r_iconst (v := (0 : Int32)) dX10_isEnd_66 rfl ?_
      exact r_zret dX10_isEnd_67 rfl (Or.inl rfl) t
    · have t := t.2 q4
      refine r_aload_n (q := 0) dX10_isEnd_32 rfl rfl ?_
      refine r_getR (c := 63) (c2 := 79) dX10_isEnd_33 flX10_55 lay_63 rfl ?_
      refine r_iload (q := 4) dX10_isEnd_36 rfl ?_
      obtain ⟨c5, t⟩ := t
      refine r_iald (c := 79) dX10_isEnd_38 lay_79 c5 ?_
      refine r_aload_n (q := 0) dX10_isEnd_39 rfl rfl ?_
      refine r_getR (c := 63) (c2 := 74) dX10_isEnd_40 flX10_40 lay_63 rfl ?_
      refine r_iload (q := 5) dX10_isEnd_43 rfl ?_
      obtain ⟨c6, t⟩ := t
      refine r_iald (c := 74) dX10_isEnd_45 lay_74 c6 ?_
      refine r_icmp_ne (tgt := 66) dX10_isEnd_46 (by decide) (fun q7 => ?_) (fun q7 => ?_)
      · have t := t.1 q7
        refine r_iconst (v := (0 : Int32)) dX10_isEnd_66 rfl ?_
        exact r_zret dX10_isEnd_67 rfl (Or.inl rfl) t
      · have t := t.2 q7
        refine r_aload_n (q := 0) dX10_isEnd_49 rfl rfl ?_
        refine r_getR (c := 63) (c2 := 80) dX10_isEnd_50 flX10_58 lay_63 rfl ?_
        refine r_iload (q := 4) dX10_isEnd_53 rfl ?_
        obtain ⟨c8, t⟩ := t
        refine r_iald (c := 80) dX10_isEnd_55 lay_80 c8 ?_
        refine r_aload_n (q := 0) dX10_isEnd_56 rfl rfl ?_
        refine r_getR (c := 63) (c2 := 75) dX10_isEnd_57 flX10_43 lay_63 rfl ?_
        refine r_iload (q := 5) dX10_isEnd_60 rfl ?_
        obtain ⟨c9, t⟩ := t
        refine r_iald (c := 75) dX10_isEnd_62 lay_75 c9 ?_
        refine r_icmp_eq (tgt := 68) dX10_isEnd_63 (by decide) (fun q10 => ?_) (fun q10 => ?_)
        · have t := t.1 q10
          refine r_aload_n (q := 0) dX10_isEnd_68 rfl rfl ?_
          refine r_getR (c := 63) (c2 := 81) dX10_isEnd_69 flX10_61 lay_63 rfl ?_
          refine r_iload (q := 4) dX10_isEnd_72 rfl ?_
          obtain ⟨c11, t⟩ := t
          refine r_iald (c := 81) dX10_isEnd_74 lay_81 c11 ?_
          refine r_istore (lv' := [(4, .int (h.1 81 x4.toNatClampNeg)), (0, .ref (eA E 63)), (1, .int x1), (2, .int x2), (3, .int x3), (5, .int x5)]) dX10_isEnd_75 (by decide) rfl ?_
          refine r_iinc (k := 5) (v := x5 + (1 : Int32)) (lv' := [(5, .int (x5 + (1 : Int32))), (4, .int (h.1 81 x4.toNatClampNeg)), (0, .ref (eA E 63)), (1, .int x1), (2, .int x2), (3, .int x3)]) dX10_isEnd_77 rfl rfl (by decide) rfl ?_
          refine r_goto (tgt := 13) dX10_isEnd_80 (by decide) ?_
          refine r_sub [2, 3, 4, 5, 1, 0] rfl ?_
          exact t
        · have t := t.2 q10
          refine r_iconst (v := (0 : Int32)) dX10_isEnd_66 rfl ?_
          exact r_zret dX10_isEnd_67 rfl (Or.inl rfl) t
theorem dX10_addressOfEnd_0 : decode cX10_addressOfEnd 0 = .ok (.iconst 0, 1) := by decide +kernel
theorem dX10_addressOfEnd_1 : decode cX10_addressOfEnd 1 = .ok (.istore_n 3, 1) := by decide +kernel
theorem dX10_addressOfEnd_2 : decode cX10_addressOfEnd 2 = .ok (.iload_n 3, 1) := by decide +kernel
theorem dX10_addressOfEnd_3 : decode cX10_addressOfEnd 3 = .ok (.aload_n 0, 1) := by decide +kernel
theorem dX10_addressOfEnd_4 : decode cX10_addressOfEnd 4 = .ok (.getfield 206, 3) := by decide +kernel
theorem dX10_addressOfEnd_7 : decode cX10_addressOfEnd 7 = .ok (.if_icmp .ge 21, 3) := by decide +kernel
theorem dX10_addressOfEnd_10 : decode cX10_addressOfEnd 10 = .ok (.aload_n 0, 1) := by decide +kernel
theorem dX10_addressOfEnd_11 : decode cX10_addressOfEnd 11 = .ok (.iload_n 1, 1) := by decide +kernel
theorem dX10_addressOfEnd_12 : decode cX10_addressOfEnd 12 = .ok (.iload_n 2, 1) := by decide +kernel
theorem dX10_addressOfEnd_13 : decode cX10_addressOfEnd 13 = .ok (.iload_n 3, 1) := by decide +kernel
theorem dX10_addressOfEnd_14 : decode cX10_addressOfEnd 14 = .ok (.invokevirtual 209, 3) := by decide +kernel
theorem dX10_addressOfEnd_17 : decode cX10_addressOfEnd 17 = .ok (.ifCond .eq 5, 3) := by decide +kernel
theorem dX10_addressOfEnd_20 : decode cX10_addressOfEnd 20 = .ok (.iload_n 3, 1) := by decide +kernel
theorem dX10_addressOfEnd_21 : decode cX10_addressOfEnd 21 = .ok (.ireturn, 1) := by decide +kernel
theorem dX10_addressOfEnd_22 : decode cX10_addressOfEnd 22 = .ok (.iinc 3 1, 3) := by decide +kernel
theorem dX10_addressOfEnd_25 : decode cX10_addressOfEnd 25 = .ok (.goto (-23), 3) := by decide +kernel
theorem dX10_addressOfEnd_28 : decode cX10_addressOfEnd 28 = .ok (.iconst (-1), 1) := by decide +kernel
theorem dX10_addressOfEnd_29 : decode cX10_addressOfEnd 29 = .ok (.ireturn, 1) := by decide +kernel
abbrev VX10_addressOfEnd_2 (E : En) (d : Nat) (g : Ga) (P : Int32 → Hp → Prop) (x1 : Int32) (x2 : Int32) (x3 : Int32) (h : Hp) : Prop := V E MX10_addressOfEnd (RM (d + 1) 0) g (QQ E g (QI E P) 0 0) 0 0 h 2 [(0, .ref (eA E 63)), (1, .int x1), (2, .int x2), (3, .int x3)] []
set_option maxRecDepth 20000 in
theorem wp_X10_addressOfEnd (E : En) (d : Nat) (a1 : Int32) (a2 : Int32) (h : Hp) (P : Int32 → Hp → Prop) (t : ∀ g : Ga, VX10_addressOfEnd_2 E d g P a1 a2 (0 : Int32) h) : SpI E (d + 1) MX10_addressOfEnd [.ref (eA E 63), .int a1, .int a2] h P := by
  refine SpI.of (lv0 := [(0, .ref (eA E 63)), (1, .int a1), (2, .int a2)]) (by decide) (Nat.le_of_ble_eq_true rfl) rfl (fun g => ?_)
  have t := t g
  refine r_iconst (v := (0 : Int32)) dX10_addressOfEnd_0 rfl ?_
  refine r_istore_n (lv' := [(3, .int (0 : Int32)), (0, .ref (eA E 63)), (1, .int a1), (2, .int a2)]) dX10_addressOfEnd_1 rfl (by decide) rfl ?_
  refine r_sub [1, 2, 3, 0] rfl ?_
  exact t
set_option maxRecDepth 20000 in
theorem sg_X10_addressOfEnd_2 (E : En) (d : Nat) (g : Ga) (x1 : Int32) (x2 : Int32) (x3 : Int32) (h : Hp) (P : Int32 → Hp → Prop) (t : ((h.1 63 26) ≤ x3 → (P (-1 : Int32) h)) ∧ (¬ (h.1 63 26) ≤ x3 → (SpI E d MX10_isEnd [.ref (eA E 63), .int x1, .int x2, .int x3] h (fun v2 h2 => (v2 = 0 → (VX10_addressOfEnd_2 E d g P x1 x2 (x3 + (1 : Int32)) h2)) ∧ (¬ v2 = 0 → (P x3 h2)))))) : VX10_addressOfEnd_2 E d g P x1 x2 x3 h := by
  refine r_iload_n (q := 3) dX10_addressOfEnd_2 rfl rfl ?_
  refine r_aload_n (q := 0) dX10_addressOfEnd_3 rfl rfl ?_
  refine r_getI (c := 63) dX10_addressOfEnd_4 flX10_206 lay_63 rfl ?_
  refine r_icmp_ge (tgt := 28) dX10_addressOfEnd_7 (by decide) (fun q1 => ?_) (fun q1 => ?_)
  · have t := t.1 q1
    refine r_iconst (v := (-1 : Int32)) dX10_addressOfEnd_28 rfl ?_
    exact r_iret dX10_addressOfEnd_29 rfl t
  · have t := t.2 q1
    refine r_aload_n (q := 0) dX10_addressOfEnd_10 rfl rfl ?_
    refine r_iload_n (q := 1) dX10_addressOfEnd_11 rfl rfl ?_
    refine r_iload_n (q := 2) dX10_addressOfEnd_12 rfl rfl ?_
    refine r_iload_n (q := 3) dX10_addressOfEnd_13 rfl rfl ?_
    refine r_cVI (c := 63) (As := [.int x1, .int x2, .int x3]) dX10_addressOfEnd_14 mkX10_isEnd lkX10_209 lay_63 rfl rfl rfl (by decide) rfl (Nat.le_of_ble_eq_true rfl) z00 t ?_
    intro v2 h2 t
    refine r_if_eq (tgt := 22) dX10_addressOfEnd_17 (by decide) (fun q3 => ?_) (fun q3 => ?_)
    · have t := t.1 q3
      refine r_iinc (k := 3) (v := x3 + (1 : Int32)) (lv' := [(3, .int (x3 + (1 : Int32))), (0, .ref (eA E 63)), (1, .int x1), (2, .int x2)]) dX10_addressOfEnd_22 rfl rfl (by decide) rfl ?_
      refine r_goto (tgt := 2) dX10_addressOfEnd_25 (by decide) ?_
      refine r_sub [1, 2, 3, 0] rfl ?_
      exact t
    · have t := t.2 q3
      refine r_iload_n (q := 3) dX10_addressOfEnd_20 rfl rfl ?_
      exact r_iret dX10_addressOfEnd_21 rfl t
theorem dX10_stores_0 : decode cX10_stores 0 = .ok (.aload_n 0, 1) := by decide +kernel
theorem dX10_stores_1 : decode cX10_stores 1 = .ok (.iload_n 1, 1) := by decide +kernel
theorem dX10_stores_2 : decode cX10_stores 2 = .ok (.invokevirtual 212, 3) := by decide +kernel
theorem dX10_stores_5 : decode cX10_stores 5 = .ok (.istore_n 2, 1) := by decide +kernel
theorem dX10_stores_6 : decode cX10_stores 6 = .ok (.iconst 0, 1) := by decide +kernel
theorem dX10_stores_7 : decode cX10_stores 7 = .ok (.istore_n 3, 1) := by decide +kernel
theorem dX10_stores_8 : decode cX10_stores 8 = .ok (.iload_n 3, 1) := by decide +kernel
theorem dX10_stores_9 : decode cX10_stores 9 = .ok (.iload_n 2, 1) := by decide +kernel
theorem dX10_stores_10 : decode cX10_stores 10 = .ok (.if_icmp .ge 19, 3) := by decide +kernel
theorem dX10_stores_13 : decode cX10_stores 13 = .ok (.aload_n 0, 1) := by decide +kernel
theorem dX10_stores_14 : decode cX10_stores 14 = .ok (.iload_n 1, 1) := by decide +kernel
theorem dX10_stores_15 : decode cX10_stores 15 = .ok (.iload_n 3, 1) := by decide +kernel
theorem dX10_stores_16 : decode cX10_stores 16 = .ok (.invokevirtual 215, 3) := by decide +kernel
theorem dX10_stores_19 : decode cX10_stores 19 = .ok (.iconst (-1), 1) := by decide +kernel
theorem dX10_stores_20 : decode cX10_stores 20 = .ok (.if_icmp .ne 9, 3) := by decide +kernel
theorem dX10_stores_23 : decode cX10_stores 23 = .ok (.iinc 3 1, 3) := by decide +kernel
theorem dX10_stores_26 : decode cX10_stores 26 = .ok (.goto (-18), 3) := by decide +kernel
theorem dX10_stores_29 : decode cX10_stores 29 = .ok (.iload_n 3, 1) := by decide +kernel
theorem dX10_stores_30 : decode cX10_stores 30 = .ok (.iload_n 2, 1) := by decide +kernel
theorem dX10_stores_31 : decode cX10_stores 31 = .ok (.if_icmp .ge 12, 3) := by decide +kernel
theorem dX10_stores_34 : decode cX10_stores 34 = .ok (.aload_n 0, 1) := by decide +kernel
theorem dX10_stores_35 : decode cX10_stores 35 = .ok (.iload_n 1, 1) := by decide +kernel
theorem dX10_stores_36 : decode cX10_stores 36 = .ok (.iload_n 3, 1) := by decide +kernel
theorem dX10_stores_37 : decode cX10_stores 37 = .ok (.invokevirtual 215, 3) := by decide +kernel
theorem dX10_stores_40 : decode cX10_stores 40 = .ok (.goto 4, 3) := by decide +kernel
theorem dX10_stores_43 : decode cX10_stores 43 = .ok (.iconst (-1), 1) := by decide +kernel
theorem dX10_stores_44 : decode cX10_stores 44 = .ok (.istore 4, 2) := by decide +kernel
theorem dX10_stores_46 : decode cX10_stores 46 = .ok (.aload_n 0, 1) := by decide +kernel
theorem dX10_stores_47 : decode cX10_stores 47 = .ok (.getfield 64, 3) := by decide +kernel
theorem dX10_stores_50 : decode cX10_stores 50 = .ok (.iload_n 1, 1) := by decide +kernel
theorem dX10_stores_51 : decode cX10_stores 51 = .ok (.iload_n 3, 1) := by decide +kernel
theorem dX10_stores_52 : decode cX10_stores 52 = .ok (.ifCond .ne 8, 3) := by decide +kernel
theorem dX10_stores_55 : decode cX10_stores 55 = .ok (.iload 4, 2) := by decide +kernel
theorem dX10_stores_57 : decode cX10_stores 57 = .ok (.goto 7, 3) := by decide +kernel
theorem dX10_stores_60 : decode cX10_stores 60 = .ok (.aload_n 0, 1) := by decide +kernel
theorem dX10_stores_61 : decode cX10_stores 61 = .ok (.getfield 206, 3) := by decide +kernel
theorem dX10_stores_64 : decode cX10_stores 64 = .ok (.iastore, 1) := by decide +kernel
theorem dX10_stores_65 : decode cX10_stores 65 = .ok (.iconst 0, 1) := by decide +kernel
theorem dX10_stores_66 : decode cX10_stores 66 = .ok (.istore 5, 2) := by decide +kernel
theorem dX10_stores_68 : decode cX10_stores 68 = .ok (.iload 5, 2) := by decide +kernel
theorem dX10_stores_70 : decode cX10_stores 70 = .ok (.iload_n 3, 1) := by decide +kernel
theorem dX10_stores_71 : decode cX10_stores 71 = .ok (.if_icmp .ge 93, 3) := by decide +kernel
theorem dX10_stores_74 : decode cX10_stores 74 = .ok (.aload_n 0, 1) := by decide +kernel
theorem dX10_stores_75 : decode cX10_stores 75 = .ok (.getfield 55, 3) := by decide +kernel
theorem dX10_stores_78 : decode cX10_stores 78 = .ok (.aload_n 0, 1) := by decide +kernel
theorem dX10_stores_79 : decode cX10_stores 79 = .ok (.getfield 206, 3) := by decide +kernel
theorem dX10_stores_82 : decode cX10_stores 82 = .ok (.aload_n 0, 1) := by decide +kernel
theorem dX10_stores_83 : decode cX10_stores 83 = .ok (.getfield 40, 3) := by decide +kernel
theorem dX10_stores_86 : decode cX10_stores 86 = .ok (.aload_n 0, 1) := by decide +kernel
theorem dX10_stores_87 : decode cX10_stores 87 = .ok (.getfield 46, 3) := by decide +kernel
theorem dX10_stores_90 : decode cX10_stores 90 = .ok (.iload_n 1, 1) := by decide +kernel
theorem dX10_stores_91 : decode cX10_stores 91 = .ok (.iaload, 1) := by decide +kernel
theorem dX10_stores_92 : decode cX10_stores 92 = .ok (.iload 5, 2) := by decide +kernel
theorem dX10_stores_94 : decode cX10_stores 94 = .ok (.iadd, 1) := by decide +kernel
theorem dX10_stores_95 : decode cX10_stores 95 = .ok (.iaload, 1) := by decide +kernel
theorem dX10_stores_96 : decode cX10_stores 96 = .ok (.iastore, 1) := by decide +kernel
theorem dX10_stores_97 : decode cX10_stores 97 = .ok (.aload_n 0, 1) := by decide +kernel
theorem dX10_stores_98 : decode cX10_stores 98 = .ok (.getfield 58, 3) := by decide +kernel
theorem dX10_stores_101 : decode cX10_stores 101 = .ok (.aload_n 0, 1) := by decide +kernel
theorem dX10_stores_102 : decode cX10_stores 102 = .ok (.getfield 206, 3) := by decide +kernel
theorem dX10_stores_105 : decode cX10_stores 105 = .ok (.aload_n 0, 1) := by decide +kernel
theorem dX10_stores_106 : decode cX10_stores 106 = .ok (.getfield 43, 3) := by decide +kernel
theorem dX10_stores_109 : decode cX10_stores 109 = .ok (.aload_n 0, 1) := by decide +kernel
theorem dX10_stores_110 : decode cX10_stores 110 = .ok (.getfield 46, 3) := by decide +kernel
theorem dX10_stores_113 : decode cX10_stores 113 = .ok (.iload_n 1, 1) := by decide +kernel
theorem dX10_stores_114 : decode cX10_stores 114 = .ok (.iaload, 1) := by decide +kernel
theorem dX10_stores_115 : decode cX10_stores 115 = .ok (.iload 5, 2) := by decide +kernel
theorem dX10_stores_117 : decode cX10_stores 117 = .ok (.iadd, 1) := by decide +kernel
theorem dX10_stores_118 : decode cX10_stores 118 = .ok (.iaload, 1) := by decide +kernel
theorem dX10_stores_119 : decode cX10_stores 119 = .ok (.iastore, 1) := by decide +kernel
theorem dX10_stores_120 : decode cX10_stores 120 = .ok (.aload_n 0, 1) := by decide +kernel
theorem dX10_stores_121 : decode cX10_stores 121 = .ok (.getfield 61, 3) := by decide +kernel
theorem dX10_stores_124 : decode cX10_stores 124 = .ok (.aload_n 0, 1) := by decide +kernel
theorem dX10_stores_125 : decode cX10_stores 125 = .ok (.getfield 206, 3) := by decide +kernel
theorem dX10_stores_128 : decode cX10_stores 128 = .ok (.iload 5, 2) := by decide +kernel
theorem dX10_stores_130 : decode cX10_stores 130 = .ok (.iconst 1, 1) := by decide +kernel
theorem dX10_stores_131 : decode cX10_stores 131 = .ok (.iadd, 1) := by decide +kernel
theorem dX10_stores_132 : decode cX10_stores 132 = .ok (.iload_n 3, 1) := by decide +kernel
theorem dX10_stores_133 : decode cX10_stores 133 = .ok (.if_icmp .ge 12, 3) := by decide +kernel
theorem dX10_stores_136 : decode cX10_stores 136 = .ok (.aload_n 0, 1) := by decide +kernel
theorem dX10_stores_137 : decode cX10_stores 137 = .ok (.getfield 206, 3) := by decide +kernel
theorem dX10_stores_140 : decode cX10_stores 140 = .ok (.iconst 1, 1) := by decide +kernel
theorem dX10_stores_141 : decode cX10_stores 141 = .ok (.iadd, 1) := by decide +kernel
theorem dX10_stores_142 : decode cX10_stores 142 = .ok (.goto 5, 3) := by decide +kernel
theorem dX10_stores_145 : decode cX10_stores 145 = .ok (.iload 4, 2) := by decide +kernel
theorem dX10_stores_147 : decode cX10_stores 147 = .ok (.iastore, 1) := by decide +kernel
theorem dX10_stores_148 : decode cX10_stores 148 = .ok (.aload_n 0, 1) := by decide +kernel
theorem dX10_stores_149 : decode cX10_stores 149 = .ok (.dup, 1) := by decide +kernel
theorem dX10_stores_150 : decode cX10_stores 150 = .ok (.getfield 206, 3) := by decide +kernel
theorem dX10_stores_153 : decode cX10_stores 153 = .ok (.iconst 1, 1) := by decide +kernel
theorem dX10_stores_154 : decode cX10_stores 154 = .ok (.iadd, 1) := by decide +kernel
theorem dX10_stores_155 : decode cX10_stores 155 = .ok (.putfield 206, 3) := by decide +kernel
theorem dX10_stores_158 : decode cX10_stores 158 = .ok (.iinc 5 1, 3) := by decide +kernel
theorem dX10_stores_161 : decode cX10_stores 161 = .ok (.goto (-93), 3) := by decide +kernel
theorem dX10_stores_164 : decode cX10_stores 164 = .ok (.return_, 1) := by decide +kernel
abbrev VX10_stores_8 (E : En) (d : Nat) (g : Ga) (P : Hp → Prop) (x1 : Int32) (x2 : Int32) (x3 : Int32) (h : Hp) : Prop := V E MX10_stores (RM (d + 1) 0) g (QQ E g (QV E P) 0 0) 0 0 h 8 [(0, .ref (eA E 63)), (1, .int x1), (2, .int x2), (3, .int x3)] []
abbrev VX10_stores_68 (E : En) (d : Nat) (g : Ga) (P : Hp → Prop) (x1 : Int32) (x2 : Int32) (x3 : Int32) (x4 : Int32) (x5 : Int32) (h : Hp) : Prop := V E MX10_stores (RM (d + 1) 0) g (QQ E g (QV E P) 0 0) 0 0 h 68 [(0, .ref (eA E 63)), (1, .int x1), (2, .int x2), (3, .int x3), (4, .int x4), (5, .int x5)] []
set_option maxRecDepth 20000 in
theorem wp_X10_stores (E : En) (d : Nat) (a1 : Int32) (h : Hp) (P : Hp → Prop) (t : ∀ g : Ga, SpI E d MX10_wordsOf [.ref (eA E 63), .int a1] h (fun v1 h1 => VX10_stores_8 E d g P a1 v1 (0 : Int32) h1)) : SpV E (d + 1) MX10_stores [.ref (eA E 63), .int a1] h P := by
  refine SpV.of (lv0 := [(0, .ref (eA E 63)), (1, .int a1)]) (by decide) (Nat.le_of_ble_eq_true rfl) rfl (fun g => ?_)
  have t := t g
  refine r_aload_n (q := 0) dX10_stores_0 rfl rfl ?_
  refine r_iload_n (q := 1) dX10_stores_1 rfl rfl ?_
  refine r_cVI (c := 63) (As := [.int a1]) dX10_stores_2 mkX10_wordsOf lkX10_212 lay_63 rfl rfl rfl (by decide) rfl (Nat.le_of_ble_eq_true rfl) z00 t ?_
  intro v1 h1 t
  refine r_istore_n (lv' := [(2, .int v1), (0, .ref (eA E 63)), (1, .int a1)]) dX10_stores_5 rfl (by decide) rfl ?_
  refine r_iconst (v := (0 : Int32)) dX10_stores_6 rfl ?_
  refine r_istore_n (lv' := [(3, .int (0 : Int32)), (2, .int v1), (0, .ref (eA E 63)), (1, .int a1)]) dX10_stores_7 rfl (by decide) rfl ?_
  refine r_sub [2, 3, 1, 0] rfl ?_
  exact t
set_option maxRecDepth 20000 in
theorem sg_X10_stores_8 (E : En) (d : Nat) (g : Ga) (x1 : Int32) (x2 : Int32) (x3 : Int32) (h : Hp) (P : Hp → Prop) (t : (x2 ≤ x3 → ((x2 ≤ x3 → ((¬ x3 = 0 → (vp_in x1 8 ∧ (VX10_stores_68 E d g P x1 x2 x3 (-1 : Int32) (0 : Int32) (sI h 82 x1.toNatClampNeg (h.1 63 26))))) ∧ (x3 = 0 → (vp_in x1 8 ∧ (VX10_stores_68 E d g P x1 x2 x3 (-1 : Int32) (0 : Int32) (sI h 82 x1.toNatClampNeg (-1 : Int32))))))) ∧ (¬ x2 ≤ x3 → (SpI E d MX10_addressOfEnd [.ref (eA E 63), .int x1, .int x3] h (fun v6 h6 => (¬ x3 = 0 → (vp_in x1 8 ∧ (VX10_stores_68 E d g P x1 x2 x3 v6 (0 : Int32) (sI h6 82 x1.toNatClampNeg (h6.1 63 26))))) ∧ (x3 = 0 → (vp_in x1 8 ∧ (VX10_stores_68 E d g P x1 x2 x3 v6 (0 : Int32) (sI h6 82 x1.toNatClampNeg v6))))))))) ∧ (¬ x2 ≤ x3 → (SpI E d MX10_addressOfEnd [.ref (eA E 63), .int x1, .int x3] h (fun v10 h10 => (¬ v10 = (-1 : Int32) → ((x2 ≤ x3 → ((¬ x3 = 0 → (vp_in x1 8 ∧ (VX10_stores_68 E d g P x1 x2 x3 (-1 : Int32) (0 : Int32) (sI h10 82 x1.toNatClampNeg (h10.1 63 26))))) ∧ (x3 = 0 → (vp_in x1 8 ∧ (VX10_stores_68 E d g P x1 x2 x3 (-1 : Int32) (0 : Int32) (sI h10 82 x1.toNatClampNeg (-1 : Int32))))))) ∧ (¬ x2 ≤ x3 → (SpI E d MX10_addressOfEnd [.ref (eA E 63), .int x1, .int x3] h10 (fun v16 h16 => (¬ x3 = 0 → (vp_in x1 8 ∧ (VX10_stores_68 E d g P x1 x2 x3 v16 (0 : Int32) (sI h16 82 x1.toNatClampNeg (h16.1 63 26))))) ∧ (x3 = 0 → (vp_in x1 8 ∧ (VX10_stores_68 E d g P x1 x2 x3 v16 (0 : Int32) (sI h16 82 x1.toNatClampNeg v16))))))))) ∧ (v10 = (-1 : Int32) → (VX10_stores_8 E d g P x1 x2 (x3 + (1 : Int32)) h10)))))) : VX10_stores_8 E d g P x1 x2 x3 h := by
  refine r_iload_n (q := 3) dX10_stores_8 rfl rfl ?_
  refine r_iload_n (q := 2) dX10_stores_9 rfl rfl ?_
  refine r_icmp_ge (tgt := 29) dX10_stores_10 (by decide) (fun q1 => ?_) (fun q1 => ?_)
  · have t := t.1 q1
    refine r_iload_n (q := 3) dX10_stores_29 rfl rfl ?_
    refine r_iload_n (q := 2) dX10_stores_30 rfl rfl ?_
    refine r_icmp_ge (tgt := 43) dX10_stores_31 (by decide) (fun q2 => ?_) (fun q2 => ?_)
    · have t := t.1 q2
      refine r_iconst (v := (-1 : Int32)) dX10_stores_43 rfl ?_
      refine r_istore (lv' := [(4, .int (-1 : Int32)), (0, .ref (eA E 63)), (1, .int x1), (2, .int x2), (3, .int x3)]) dX10_stores_44 (by decide) rfl ?_
      refine r_aload_n (q := 1) dX10_stores_46 rfl rfl ?_
      refine r_getR (c := 63) (c2 := 82) dX10_stores_47 flX10_64 lay_63 rfl ?_
      refine r_iload_n (q := 2) dX10_stores_50 rfl rfl ?_
      refine r_iload_n (q := 4) dX10_stores_51 rfl rfl ?_
      refine r_if_ne (tgt := 60) dX10_stores_52 (by decide) (fun q3 => ?_) (fun q3 => ?_)
      · have t := t.1 q3
        refine r_aload_n (q := 1) dX10_stores_60 rfl rfl ?_
        refine r_getI (c := 63) dX10_stores_61 flX10_206 lay_63 rfl ?_
        obtain ⟨c4, t⟩ := t
        refine r_iast (c := 82) dX10_stores_64 lay_82 c4 ?_
        refine r_iconst (v := (0 : Int32)) dX10_stores_65 rfl ?_
        refine r_istore (lv' := [(5, .int (0 : Int32)), (4, .int (-1 : Int32)), (0, .ref (eA E 63)), (1, .int x1), (2, .int x2), (3, .int x3)]) dX10_stores_66 (by decide) rfl ?_
        refine r_sub [2, 3, 4, 5, 1, 0] rfl ?_
        exact t
      · have t := t.2 q3
        refine r_iload (q := 0) dX10_stores_55 rfl ?_
        refine r_goto (tgt := 64) dX10_stores_57 (by decide) ?_
        obtain ⟨c5, t⟩ := t
        refine r_iast (c := 82) dX10_stores_64 lay_82 c5 ?_
        refine r_iconst (v := (0 : Int32)) dX10_stores_65 rfl ?_
        refine r_istore (lv' := [(5, .int (0 : Int32)), (4, .int (-1 : Int32)), (0, .ref (eA E 63)), (1, .int x1), (2, .int x2), (3, .int x3)]) dX10_stores_66 (by decide) rfl ?_
        refine r_sub [2, 3, 4, 5, 1, 0] rfl ?_
        exact t
    · have t := t.2 q2
      refine r_aload_n (q := 0) dX10_stores_34 rfl rfl ?_
      refine r_iload_n (q := 1) dX10_stores_35 rfl rfl ?_
      refine r_iload_n (q := 3) dX10_stores_36 rfl rfl ?_
      refine r_cVI (c := 63) (As := [.int x1, .int x3]) dX10_stores_37 mkX10_addressOfEnd lkX10_215 lay_63 rfl rfl rfl (by decide) rfl (Nat.le_of_ble_eq_true rfl) z00 t ?_
      intro v6 h6 t
      refine r_goto (tgt := 44) dX10_stores_40 (by decide) ?_
      refine r_istore (lv' := [(4, .int v6), (0, .ref (eA E 63)), (1, .int x1), (2, .int x2), (3, .int x3)]) dX10_stores_44 (by decide) rfl ?_
      refine r_aload_n (q := 1) dX10_stores_46 rfl rfl ?_
      refine r_getR (c := 63) (c2 := 82) dX10_stores_47 flX10_64 lay_63 rfl ?_
      refine r_iload_n (q := 2) dX10_stores_50 rfl rfl ?_
      refine r_iload_n (q := 4) dX10_stores_51 rfl rfl ?_
      refine r_if_ne (tgt := 60) dX10_stores_52 (by decide) (fun q7 => ?_) (fun q7 => ?_)
      · have t := t.1 q7
        refine r_aload_n (q := 1) dX10_stores_60 rfl rfl ?_
        refine r_getI (c := 63) dX10_stores_61 flX10_206 lay_63 rfl ?_
        obtain ⟨c8, t⟩ := t
        refine r_iast (c := 82) dX10_stores_64 lay_82 c8 ?_
        refine r_iconst (v := (0 : Int32)) dX10_stores_65 rfl ?_
        refine r_istore (lv' := [(5, .int (0 : Int32)), (4, .int v6), (0, .ref (eA E 63)), (1, .int x1), (2, .int x2), (3, .int x3)]) dX10_stores_66 (by decide) rfl ?_
        refine r_sub [2, 3, 4, 5, 1, 0] rfl ?_
        exact t
      · have t := t.2 q7
        refine r_iload (q := 0) dX10_stores_55 rfl ?_
        refine r_goto (tgt := 64) dX10_stores_57 (by decide) ?_
        obtain ⟨c9, t⟩ := t
        refine r_iast (c := 82) dX10_stores_64 lay_82 c9 ?_
        refine r_iconst (v := (0 : Int32)) dX10_stores_65 rfl ?_
        refine r_istore (lv' := [(5, .int (0 : Int32)), (4, .int v6), (0, .ref (eA E 63)), (1, .int x1), (2, .int x2), (3, .int x3)]) dX10_stores_66 (by decide) rfl ?_
        refine r_sub [2, 3, 4, 5, 1, 0] rfl ?_
        exact t
  · have t := t.2 q1
    refine r_aload_n (q := 0) dX10_stores_13 rfl rfl ?_
    refine r_iload_n (q := 1) dX10_stores_14 rfl rfl ?_
    refine r_iload_n (q := 3) dX10_stores_15 rfl rfl ?_
    refine r_cVI (c := 63) (As := [.int x1, .int x3]) dX10_stores_16 mkX10_addressOfEnd lkX10_215 lay_63 rfl rfl rfl (by decide) rfl (Nat.le_of_ble_eq_true rfl) z00 t ?_
    intro v10 h10 t
    refine r_iconst (v := (-1 : Int32)) dX10_stores_19 rfl ?_
    refine r_icmp_ne (tgt := 29) dX10_stores_20 (by decide) (fun q11 => ?_) (fun q11 => ?_)
    · have t := t.1 q11
      refine r_iload_n (q := 3) dX10_stores_29 rfl rfl ?_
      refine r_iload_n (q := 2) dX10_stores_30 rfl rfl ?_
      refine r_icmp_ge (tgt := 43) dX10_stores_31 (by decide) (fun q12 => ?_) (fun q12 => ?_)
      · have t := t.1 q12
        refine r_iconst (v := (-1 : Int32)) dX10_stores_43 rfl ?_
        refine r_istore (lv' := [(4, .int (-1 : Int32)), (0, .ref (eA E 63)), (1, .int x1), (2, .int x2), (3, .int x3)]) dX10_stores_44 (by decide) rfl ?_
        refine r_aload_n (q := 1) dX10_stores_46 rfl rfl ?_
        refine r_getR (c := 63) (c2 := 82) dX10_stores_47 flX10_64 lay_63 rfl ?_
        refine r_iload_n (q := 2) dX10_stores_50 rfl rfl ?_
        refine r_iload_n (q := 4) dX10_stores_51 rfl rfl ?_
        refine r_if_ne (tgt := 60) dX10_stores_52 (by decide) (fun q13 => ?_) (fun q13 => ?_)
        · have t := t.1 q13
          refine r_aload_n (q := 1) dX10_stores_60 rfl rfl ?_
          refine r_getI (c := 63) dX10_stores_61 flX10_206 lay_63 rfl ?_
          obtain ⟨c14, t⟩ := t
          refine r_iast (c := 82) dX10_stores_64 lay_82 c14 ?_
          refine r_iconst (v := (0 : Int32)) dX10_stores_65 rfl ?_
          refine r_istore (lv' := [(5, .int (0 : Int32)), (4, .int (-1 : Int32)), (0, .ref (eA E 63)), (1, .int x1), (2, .int x2), (3, .int x3)]) dX10_stores_66 (by decide) rfl ?_
          refine r_sub [2, 3, 4, 5, 1, 0] rfl ?_
          exact t
        · have t := t.2 q13
          refine r_iload (q := 0) dX10_stores_55 rfl ?_
          refine r_goto (tgt := 64) dX10_stores_57 (by decide) ?_
          obtain ⟨c15, t⟩ := t
          refine r_iast (c := 82) dX10_stores_64 lay_82 c15 ?_
          refine r_iconst (v := (0 : Int32)) dX10_stores_65 rfl ?_
          refine r_istore (lv' := [(5, .int (0 : Int32)), (4, .int (-1 : Int32)), (0, .ref (eA E 63)), (1, .int x1), (2, .int x2), (3, .int x3)]) dX10_stores_66 (by decide) rfl ?_
          refine r_sub [2, 3, 4, 5, 1, 0] rfl ?_
          exact t
      · have t := t.2 q12
        refine r_aload_n (q := 0) dX10_stores_34 rfl rfl ?_
        refine r_iload_n (q := 1) dX10_stores_35 rfl rfl ?_
        refine r_iload_n (q := 3) dX10_stores_36 rfl rfl ?_
        refine r_cVI (c := 63) (As := [.int x1, .int x3]) dX10_stores_37 mkX10_addressOfEnd lkX10_215 lay_63 rfl rfl rfl (by decide) rfl (Nat.le_of_ble_eq_true rfl) z00 t ?_
        intro v16 h16 t
        refine r_goto (tgt := 44) dX10_stores_40 (by decide) ?_
        refine r_istore (lv' := [(4, .int v16), (0, .ref (eA E 63)), (1, .int x1), (2, .int x2), (3, .int x3)]) dX10_stores_44 (by decide) rfl ?_
        refine r_aload_n (q := 1) dX10_stores_46 rfl rfl ?_
        refine r_getR (c := 63) (c2 := 82) dX10_stores_47 flX10_64 lay_63 rfl ?_
        refine r_iload_n (q := 2) dX10_stores_50 rfl rfl ?_
        refine r_iload_n (q := 4) dX10_stores_51 rfl rfl ?_
        refine r_if_ne (tgt := 60) dX10_stores_52 (by decide) (fun q17 => ?_) (fun q17 => ?_)
        · have t := t.1 q17
          refine r_aload_n (q := 1) dX10_stores_60 rfl rfl ?_
          refine r_getI (c := 63) dX10_stores_61 flX10_206 lay_63 rfl ?_
          obtain ⟨c18, t⟩ := t
          refine r_iast (c := 82) dX10_stores_64 lay_82 c18 ?_
          refine r_iconst (v := (0 : Int32)) dX10_stores_65 rfl ?_
          refine r_istore (lv' := [(5, .int (0 : Int32)), (4, .int v16), (0, .ref (eA E 63)), (1, .int x1), (2, .int x2), (3, .int x3)]) dX10_stores_66 (by decide) rfl ?_
          refine r_sub [2, 3, 4, 5, 1, 0] rfl ?_
          exact t
        · have t := t.2 q17
          refine r_iload (q := 0) dX10_stores_55 rfl ?_
          refine r_goto (tgt := 64) dX10_stores_57 (by decide) ?_
          obtain ⟨c19, t⟩ := t
          refine r_iast (c := 82) dX10_stores_64 lay_82 c19 ?_
          refine r_iconst (v := (0 : Int32)) dX10_stores_65 rfl ?_
          refine r_istore (lv' := [(5, .int (0 : Int32)), (4, .int v16), (0, .ref (eA E 63)), (1, .int x1), (2, .int x2), (3, .int x3)]) dX10_stores_66 (by decide) rfl ?_
          refine r_sub [2, 3, 4, 5, 1, 0] rfl ?_
          exact t
    · have t := t.2 q11
      refine r_iinc (k := 3) (v := x3 + (1 : Int32)) (lv' := [(3, .int (x3 + (1 : Int32))), (0, .ref (eA E 63)), (1, .int x1), (2, .int x2)]) dX10_stores_23 rfl rfl (by decide) rfl ?_
      refine r_goto (tgt := 8) dX10_stores_26 (by decide) ?_
      refine r_sub [1, 2, 3, 0] rfl ?_
      exact t
set_option maxRecDepth 20000 in
theorem sg_X10_stores_68 (E : En) (d : Nat) (g : Ga) (x1 : Int32) (x2 : Int32) (x3 : Int32) (x4 : Int32) (x5 : Int32) (h : Hp) (P : Hp → Prop) (t : (x3 ≤ x5 → (P h)) ∧ (¬ x3 ≤ x5 → (vp_in x1 9 ∧ (vp_in ((h.1 76 x1.toNatClampNeg) + x5) 192 ∧ (vp_in (h.1 63 26) 192 ∧ (vp_in x1 9 ∧ (vp_in ((h.1 76 x1.toNatClampNeg) + x5) 192 ∧ (vp_in (h.1 63 26) 192 ∧ ((x3 ≤ (x5 + (1 : Int32)) → (vp_in (h.1 63 26) 192 ∧ (VX10_stores_68 E d g P x1 x2 x3 x4 (x5 + (1 : Int32)) (sI (sI (sI (sI h 79 ((h.1 63 26).toNatClampNeg) (h.1 74 (((h.1 76 x1.toNatClampNeg) + x5).toNatClampNeg))) 80 ((h.1 63 26).toNatClampNeg) (h.1 75 (((h.1 76 x1.toNatClampNeg) + x5).toNatClampNeg))) 81 ((h.1 63 26).toNatClampNeg) x4) 63 26 ((h.1 63 26) + (1 : Int32)))))) ∧ (¬ x3 ≤ (x5 + (1 : Int32)) → (vp_in (h.1 63 26) 192 ∧ (VX10_stores_68 E d g P x1 x2 x3 x4 (x5 + (1 : Int32)) (sI (sI (sI (sI h 79 ((h.1 63 26).toNatClampNeg) (h.1 74 (((h.1 76 x1.toNatClampNeg) + x5).toNatClampNeg))) 80 ((h.1 63 26).toNatClampNeg) (h.1 75 (((h.1 76 x1.toNatClampNeg) + x5).toNatClampNeg))) 81 ((h.1 63 26).toNatClampNeg) ((h.1 63 26) + (1 : Int32))) 63 26 ((h.1 63 26) + (1 : Int32))))))))))))))) : VX10_stores_68 E d g P x1 x2 x3 x4 x5 h := by
  refine r_iload (q := 5) dX10_stores_68 rfl ?_
  refine r_iload_n (q := 3) dX10_stores_70 rfl rfl ?_
  refine r_icmp_ge (tgt := 164) dX10_stores_71 (by decide) (fun q1 => ?_) (fun q1 => ?_)
  · have t := t.1 q1
    exact r_vret dX10_stores_164 rfl t
  · have t := t.2 q1
    refine r_aload_n (q := 0) dX10_stores_74 rfl rfl ?_
    refine r_getR (c := 63) (c2 := 79) dX10_stores_75 flX10_55 lay_63 rfl ?_
    refine r_aload_n (q := 0) dX10_stores_78 rfl rfl ?_
    refine r_getI (c := 63) dX10_stores_79 flX10_206 lay_63 rfl ?_
    refine r_aload_n (q := 0) dX10_stores_82 rfl rfl ?_
    refine r_getR (c := 63) (c2 := 74) dX10_stores_83 flX10_40 lay_63 rfl ?_
    refine r_aload_n (q := 0) dX10_stores_86 rfl rfl ?_
    refine r_getR (c := 63) (c2 := 76) dX10_stores_87 flX10_46 lay_63 rfl ?_
    refine r_iload_n (q := 1) dX10_stores_90 rfl rfl ?_
    obtain ⟨c2, t⟩ := t
    refine r_iald (c := 76) dX10_stores_91 lay_76 c2 ?_
    refine r_iload (q := 5) dX10_stores_92 rfl ?_
    refine r_iadd dX10_stores_94 ?_
    obtain ⟨c3, t⟩ := t
    refine r_iald (c := 74) dX10_stores_95 lay_74 c3 ?_
    obtain ⟨c4, t⟩ := t
    refine r_iast (c := 79) dX10_stores_96 lay_79 c4 ?_
    refine r_aload_n (q := 0) dX10_stores_97 rfl rfl ?_
    refine r_getR (c := 63) (c2 := 80) dX10_stores_98 flX10_58 lay_63 rfl ?_
    refine r_aload_n (q := 0) dX10_stores_101 rfl rfl ?_
    refine r_getIv (c := 63) (v := h.1 63 26) dX10_stores_102 flX10_206 lay_63 rfl rfl ?_
    refine r_aload_n (q := 0) dX10_stores_105 rfl rfl ?_
    refine r_getR (c := 63) (c2 := 75) dX10_stores_106 flX10_43 lay_63 rfl ?_
    refine r_aload_n (q := 0) dX10_stores_109 rfl rfl ?_
    refine r_getR (c := 63) (c2 := 76) dX10_stores_110 flX10_46 lay_63 rfl ?_
    refine r_iload_n (q := 1) dX10_stores_113 rfl rfl ?_
    obtain ⟨c5, t⟩ := t
    refine r_ialdv (c := 76) (v := h.1 76 x1.toNatClampNeg) dX10_stores_114 lay_76 c5 rfl ?_
    refine r_iload (q := 5) dX10_stores_115 rfl ?_
    refine r_iadd dX10_stores_117 ?_
    obtain ⟨c6, t⟩ := t
    refine r_ialdv (c := 75) (v := h.1 75 (((h.1 76 x1.toNatClampNeg) + x5).toNatClampNeg)) dX10_stores_118 lay_75 c6 rfl ?_
    obtain ⟨c7, t⟩ := t
    refine r_iast (c := 80) dX10_stores_119 lay_80 c7 ?_
    refine r_aload_n (q := 0) dX10_stores_120 rfl rfl ?_
    refine r_getR (c := 63) (c2 := 81) dX10_stores_121 flX10_61 lay_63 rfl ?_
    refine r_aload_n (q := 0) dX10_stores_124 rfl rfl ?_
    refine r_getIv (c := 63) (v := h.1 63 26) dX10_stores_125 flX10_206 lay_63 rfl rfl ?_
    refine r_iload (q := 5) dX10_stores_128 rfl ?_
    refine r_iconst (v := (1 : Int32)) dX10_stores_130 rfl ?_
    refine r_iadd dX10_stores_131 ?_
    refine r_iload_n (q := 3) dX10_stores_132 rfl rfl ?_
    refine r_icmp_ge (tgt := 145) dX10_stores_133 (by decide) (fun q8 => ?_) (fun q8 => ?_)
    · have t := t.1 q8
      refine r_iload (q := 4) dX10_stores_145 rfl ?_
      obtain ⟨c9, t⟩ := t
      refine r_iast (c := 81) dX10_stores_147 lay_81 c9 ?_
      refine r_aload_n (q := 0) dX10_stores_148 rfl rfl ?_
      refine r_dup dX10_stores_149 rfl ?_
      refine r_getIv (c := 63) (v := h.1 63 26) dX10_stores_150 flX10_206 lay_63 rfl rfl ?_
      refine r_iconst (v := (1 : Int32)) dX10_stores_153 rfl ?_
      refine r_iadd dX10_stores_154 ?_
      refine r_putI (c := 63) dX10_stores_155 flX10_206 lay_63 rfl ?_
      refine r_iinc (k := 5) (v := x5 + (1 : Int32)) (lv' := [(5, .int (x5 + (1 : Int32))), (0, .ref (eA E 63)), (1, .int x1), (2, .int x2), (3, .int x3), (4, .int x4)]) dX10_stores_158 rfl rfl (by decide) rfl ?_
      refine r_goto (tgt := 68) dX10_stores_161 (by decide) ?_
      refine r_sub [1, 2, 3, 4, 5, 0] rfl ?_
      exact t
    · have t := t.2 q8
      refine r_aload_n (q := 0) dX10_stores_136 rfl rfl ?_
      refine r_getIv (c := 63) (v := h.1 63 26) dX10_stores_137 flX10_206 lay_63 rfl rfl ?_
      refine r_iconst (v := (1 : Int32)) dX10_stores_140 rfl ?_
      refine r_iadd dX10_stores_141 ?_
      refine r_goto (tgt := 147) dX10_stores_142 (by decide) ?_
      obtain ⟨c10, t⟩ := t
      refine r_iast (c := 81) dX10_stores_147 lay_81 c10 ?_
      refine r_aload_n (q := 0) dX10_stores_148 rfl rfl ?_
      refine r_dup dX10_stores_149 rfl ?_
      refine r_getIv (c := 63) (v := h.1 63 26) dX10_stores_150 flX10_206 lay_63 rfl rfl ?_
      refine r_iconst (v := (1 : Int32)) dX10_stores_153 rfl ?_
      refine r_iadd dX10_stores_154 ?_
      refine r_putI (c := 63) dX10_stores_155 flX10_206 lay_63 rfl ?_
      refine r_iinc (k := 5) (v := x5 + (1 : Int32)) (lv' := [(5, .int (x5 + (1 : Int32))), (0, .ref (eA E 63)), (1, .int x1), (2, .int x2), (3, .int x3), (4, .int x4)]) dX10_stores_158 rfl rfl (by decide) rfl ?_
      refine r_goto (tgt := 68) dX10_stores_161 (by decide) ?_
      refine r_sub [1, 2, 3, 4, 5, 0] rfl ?_
      exact t
theorem dX10_ones_0 : decode cX10_ones 0 = .ok (.iconst 0, 1) := by decide +kernel
theorem dX10_ones_1 : decode cX10_ones 1 = .ok (.istore_n 1, 1) := by decide +kernel
theorem dX10_ones_2 : decode cX10_ones 2 = .ok (.iload_n 0, 1) := by decide +kernel
theorem dX10_ones_3 : decode cX10_ones 3 = .ok (.istore_n 2, 1) := by decide +kernel
theorem dX10_ones_4 : decode cX10_ones 4 = .ok (.iload_n 2, 1) := by decide +kernel
theorem dX10_ones_5 : decode cX10_ones 5 = .ok (.ifCond .eq 15, 3) := by decide +kernel
theorem dX10_ones_8 : decode cX10_ones 8 = .ok (.iinc 1 1, 3) := by decide +kernel
theorem dX10_ones_11 : decode cX10_ones 11 = .ok (.iload_n 2, 1) := by decide +kernel
theorem dX10_ones_12 : decode cX10_ones 12 = .ok (.iload_n 2, 1) := by decide +kernel
theorem dX10_ones_13 : decode cX10_ones 13 = .ok (.iconst 1, 1) := by decide +kernel
theorem dX10_ones_14 : decode cX10_ones 14 = .ok (.isub, 1) := by decide +kernel
theorem dX10_ones_15 : decode cX10_ones 15 = .ok (.iand, 1) := by decide +kernel
theorem dX10_ones_16 : decode cX10_ones 16 = .ok (.istore_n 2, 1) := by decide +kernel
theorem dX10_ones_17 : decode cX10_ones 17 = .ok (.goto (-13), 3) := by decide +kernel
theorem dX10_ones_20 : decode cX10_ones 20 = .ok (.iload_n 1, 1) := by decide +kernel
theorem dX10_ones_21 : decode cX10_ones 21 = .ok (.ireturn, 1) := by decide +kernel
abbrev VX10_ones_4 (E : En) (d : Nat) (g : Ga) (P : Int32 → Hp → Prop) (x0 : Int32) (x1 : Int32) (x2 : Int32) (h : Hp) : Prop := V E MX10_ones (RM d 0) g (QQ E g (QI E P) 0 0) 0 0 h 4 [(0, .int x0), (1, .int x1), (2, .int x2)] []
set_option maxRecDepth 20000 in
theorem wp_X10_ones (E : En) (d : Nat) (a1 : Int32) (h : Hp) (P : Int32 → Hp → Prop) (t : ∀ g : Ga, VX10_ones_4 E d g P a1 (0 : Int32) a1 h) : SpI E d MX10_ones [.int a1] h P := by
  refine SpI.of (lv0 := [(0, .int a1)]) (by decide) (Nat.le_of_ble_eq_true rfl) rfl (fun g => ?_)
  have t := t g
  refine r_iconst (v := (0 : Int32)) dX10_ones_0 rfl ?_
  refine r_istore_n (lv' := [(1, .int (0 : Int32)), (0, .int a1)]) dX10_ones_1 rfl (by decide) rfl ?_
  refine r_iload_n (q := 1) dX10_ones_2 rfl rfl ?_
  refine r_istore_n (lv' := [(2, .int a1), (1, .int (0 : Int32)), (0, .int a1)]) dX10_ones_3 rfl (by decide) rfl ?_
  refine r_sub [2, 1, 0] rfl ?_
  exact t
set_option maxRecDepth 20000 in
theorem sg_X10_ones_4 (E : En) (d : Nat) (g : Ga) (x0 : Int32) (x1 : Int32) (x2 : Int32) (h : Hp) (P : Int32 → Hp → Prop) (t : (x2 = 0 → (P x1 h)) ∧ (¬ x2 = 0 → (VX10_ones_4 E d g P x0 (x1 + (1 : Int32)) (x2 &&& (x2 - (1 : Int32))) h))) : VX10_ones_4 E d g P x0 x1 x2 h := by
  refine r_iload_n (q := 2) dX10_ones_4 rfl rfl ?_
  refine r_if_eq (tgt := 20) dX10_ones_5 (by decide) (fun q1 => ?_) (fun q1 => ?_)
  · have t := t.1 q1
    refine r_iload_n (q := 1) dX10_ones_20 rfl rfl ?_
    exact r_iret dX10_ones_21 rfl t
  · have t := t.2 q1
    refine r_iinc (k := 1) (v := x1 + (1 : Int32)) (lv' := [(1, .int (x1 + (1 : Int32))), (0, .int x0), (2, .int x2)]) dX10_ones_8 rfl rfl (by decide) rfl ?_
    refine r_iload_n (q := 2) dX10_ones_11 rfl rfl ?_
    refine r_iload_n (q := 2) dX10_ones_12 rfl rfl ?_
    refine r_iconst (v := (1 : Int32)) dX10_ones_13 rfl ?_
    refine r_isub dX10_ones_14 ?_
    refine r_iand dX10_ones_15 ?_
    refine r_istore_n (lv' := [(2, .int (x2 &&& (x2 - (1 : Int32)))), (1, .int (x1 + (1 : Int32))), (0, .int x0)]) dX10_ones_16 rfl (by decide) rfl ?_
    refine r_goto (tgt := 4) dX10_ones_17 (by decide) ?_
    refine r_sub [2, 1, 0] rfl ?_
    exact t
theorem dX10_bitsFor_0 : decode cX10_bitsFor 0 = .ok (.iconst 0, 1) := by decide +kernel
theorem dX10_bitsFor_1 : decode cX10_bitsFor 1 = .ok (.istore_n 1, 1) := by decide +kernel
theorem dX10_bitsFor_2 : decode cX10_bitsFor 2 = .ok (.iconst 1, 1) := by decide +kernel
theorem dX10_bitsFor_3 : decode cX10_bitsFor 3 = .ok (.iload_n 1, 1) := by decide +kernel
theorem dX10_bitsFor_4 : decode cX10_bitsFor 4 = .ok (.ishl, 1) := by decide +kernel
theorem dX10_bitsFor_5 : decode cX10_bitsFor 5 = .ok (.iload_n 0, 1) := by decide +kernel
theorem dX10_bitsFor_6 : decode cX10_bitsFor 6 = .ok (.if_icmp .gt 9, 3) := by decide +kernel
theorem dX10_bitsFor_9 : decode cX10_bitsFor 9 = .ok (.iinc 1 1, 3) := by decide +kernel
theorem dX10_bitsFor_12 : decode cX10_bitsFor 12 = .ok (.goto (-10), 3) := by decide +kernel
theorem dX10_bitsFor_15 : decode cX10_bitsFor 15 = .ok (.iload_n 1, 1) := by decide +kernel
theorem dX10_bitsFor_16 : decode cX10_bitsFor 16 = .ok (.ireturn, 1) := by decide +kernel
abbrev VX10_bitsFor_2 (E : En) (d : Nat) (g : Ga) (P : Int32 → Hp → Prop) (x0 : Int32) (x1 : Int32) (h : Hp) : Prop := V E MX10_bitsFor (RM d 0) g (QQ E g (QI E P) 0 0) 0 0 h 2 [(0, .int x0), (1, .int x1)] []
set_option maxRecDepth 20000 in
theorem wp_X10_bitsFor (E : En) (d : Nat) (a1 : Int32) (h : Hp) (P : Int32 → Hp → Prop) (t : ∀ g : Ga, VX10_bitsFor_2 E d g P a1 (0 : Int32) h) : SpI E d MX10_bitsFor [.int a1] h P := by
  refine SpI.of (lv0 := [(0, .int a1)]) (by decide) (Nat.le_of_ble_eq_true rfl) rfl (fun g => ?_)
  have t := t g
  refine r_iconst (v := (0 : Int32)) dX10_bitsFor_0 rfl ?_
  refine r_istore_n (lv' := [(1, .int (0 : Int32)), (0, .int a1)]) dX10_bitsFor_1 rfl (by decide) rfl ?_
  refine r_sub [1, 0] rfl ?_
  exact t
set_option maxRecDepth 20000 in
theorem sg_X10_bitsFor_2 (E : En) (d : Nat) (g : Ga) (x0 : Int32) (x1 : Int32) (h : Hp) (P : Int32 → Hp → Prop) (t : (x0 < ((1 : Int32) <<< (x1 &&& 31)) → (P x1 h)) ∧ (¬ x0 < ((1 : Int32) <<< (x1 &&& 31)) → (VX10_bitsFor_2 E d g P x0 (x1 + (1 : Int32)) h))) : VX10_bitsFor_2 E d g P x0 x1 h := by
  refine r_iconst (v := (1 : Int32)) dX10_bitsFor_2 rfl ?_
  refine r_iload_n (q := 1) dX10_bitsFor_3 rfl rfl ?_
  refine r_ishl dX10_bitsFor_4 ?_
  refine r_iload_n (q := 0) dX10_bitsFor_5 rfl rfl ?_
  refine r_icmp_gt (tgt := 15) dX10_bitsFor_6 (by decide) (fun q1 => ?_) (fun q1 => ?_)
  · have t := t.1 q1
    refine r_iload_n (q := 1) dX10_bitsFor_15 rfl rfl ?_
    exact r_iret dX10_bitsFor_16 rfl t
  · have t := t.2 q1
    refine r_iinc (k := 1) (v := x1 + (1 : Int32)) (lv' := [(1, .int (x1 + (1 : Int32))), (0, .int x0)]) dX10_bitsFor_9 rfl rfl (by decide) rfl ?_
    refine r_goto (tgt := 2) dX10_bitsFor_12 (by decide) ?_
    refine r_sub [1, 0] rfl ?_
    exact t
theorem dX10_laysTogether_0 : decode cX10_laysTogether 0 = .ok (.iconst 0, 1) := by decide +kernel
theorem dX10_laysTogether_1 : decode cX10_laysTogether 1 = .ok (.istore_n 1, 1) := by decide +kernel
theorem dX10_laysTogether_2 : decode cX10_laysTogether 2 = .ok (.iload_n 1, 1) := by decide +kernel
theorem dX10_laysTogether_3 : decode cX10_laysTogether 3 = .ok (.sipush 4096, 3) := by decide +kernel
theorem dX10_laysTogether_6 : decode cX10_laysTogether 6 = .ok (.if_icmp .ge 67, 3) := by decide +kernel
theorem dX10_laysTogether_9 : decode cX10_laysTogether 9 = .ok (.aload_n 0, 1) := by decide +kernel
theorem dX10_laysTogether_10 : decode cX10_laysTogether 10 = .ok (.getfield 67, 3) := by decide +kernel
theorem dX10_laysTogether_13 : decode cX10_laysTogether 13 = .ok (.iload_n 1, 1) := by decide +kernel
theorem dX10_laysTogether_14 : decode cX10_laysTogether 14 = .ok (.iconst 1, 1) := by decide +kernel
theorem dX10_laysTogether_15 : decode cX10_laysTogether 15 = .ok (.bastore, 1) := by decide +kernel
theorem dX10_laysTogether_16 : decode cX10_laysTogether 16 = .ok (.iconst 0, 1) := by decide +kernel
theorem dX10_laysTogether_17 : decode cX10_laysTogether 17 = .ok (.istore_n 2, 1) := by decide +kernel
theorem dX10_laysTogether_18 : decode cX10_laysTogether 18 = .ok (.iload_n 2, 1) := by decide +kernel
theorem dX10_laysTogether_19 : decode cX10_laysTogether 19 = .ok (.aload_n 0, 1) := by decide +kernel
theorem dX10_laysTogether_20 : decode cX10_laysTogether 20 = .ok (.getfield 206, 3) := by decide +kernel
theorem dX10_laysTogether_23 : decode cX10_laysTogether 23 = .ok (.if_icmp .ge 44, 3) := by decide +kernel
theorem dX10_laysTogether_26 : decode cX10_laysTogether 26 = .ok (.aload_n 0, 1) := by decide +kernel
theorem dX10_laysTogether_27 : decode cX10_laysTogether 27 = .ok (.getfield 67, 3) := by decide +kernel
theorem dX10_laysTogether_30 : decode cX10_laysTogether 30 = .ok (.iload_n 1, 1) := by decide +kernel
theorem dX10_laysTogether_31 : decode cX10_laysTogether 31 = .ok (.baload, 1) := by decide +kernel
theorem dX10_laysTogether_32 : decode cX10_laysTogether 32 = .ok (.ifCond .eq 35, 3) := by decide +kernel
theorem dX10_laysTogether_35 : decode cX10_laysTogether 35 = .ok (.aload_n 0, 1) := by decide +kernel
theorem dX10_laysTogether_36 : decode cX10_laysTogether 36 = .ok (.getfield 67, 3) := by decide +kernel
theorem dX10_laysTogether_39 : decode cX10_laysTogether 39 = .ok (.iload_n 1, 1) := by decide +kernel
theorem dX10_laysTogether_40 : decode cX10_laysTogether 40 = .ok (.aload_n 0, 1) := by decide +kernel
theorem dX10_laysTogether_41 : decode cX10_laysTogether 41 = .ok (.getfield 55, 3) := by decide +kernel
theorem dX10_laysTogether_44 : decode cX10_laysTogether 44 = .ok (.iload_n 2, 1) := by decide +kernel
theorem dX10_laysTogether_45 : decode cX10_laysTogether 45 = .ok (.iaload, 1) := by decide +kernel
theorem dX10_laysTogether_46 : decode cX10_laysTogether 46 = .ok (.iload_n 1, 1) := by decide +kernel
theorem dX10_laysTogether_47 : decode cX10_laysTogether 47 = .ok (.iand, 1) := by decide +kernel
theorem dX10_laysTogether_48 : decode cX10_laysTogether 48 = .ok (.invokestatic 218, 3) := by decide +kernel
theorem dX10_laysTogether_51 : decode cX10_laysTogether 51 = .ok (.iconst 2, 1) := by decide +kernel
theorem dX10_laysTogether_52 : decode cX10_laysTogether 52 = .ok (.if_icmp .ge 7, 3) := by decide +kernel
theorem dX10_laysTogether_55 : decode cX10_laysTogether 55 = .ok (.iconst 1, 1) := by decide +kernel
theorem dX10_laysTogether_56 : decode cX10_laysTogether 56 = .ok (.goto 4, 3) := by decide +kernel
theorem dX10_laysTogether_59 : decode cX10_laysTogether 59 = .ok (.iconst 0, 1) := by decide +kernel
theorem dX10_laysTogether_60 : decode cX10_laysTogether 60 = .ok (.bastore, 1) := by decide +kernel
theorem dX10_laysTogether_61 : decode cX10_laysTogether 61 = .ok (.iinc 2 1, 3) := by decide +kernel
theorem dX10_laysTogether_64 : decode cX10_laysTogether 64 = .ok (.goto (-46), 3) := by decide +kernel
theorem dX10_laysTogether_67 : decode cX10_laysTogether 67 = .ok (.iinc 1 1, 3) := by decide +kernel
theorem dX10_laysTogether_70 : decode cX10_laysTogether 70 = .ok (.goto (-68), 3) := by decide +kernel
theorem dX10_laysTogether_73 : decode cX10_laysTogether 73 = .ok (.return_, 1) := by decide +kernel
abbrev VX10_laysTogether_2 (E : En) (d : Nat) (g : Ga) (P : Hp → Prop) (x1 : Int32) (h : Hp) : Prop := V E MX10_laysTogether (RM (d + 1) 0) g (QQ E g (QV E P) 0 0) 0 0 h 2 [(0, .ref (eA E 63)), (1, .int x1)] []
abbrev VX10_laysTogether_18 (E : En) (d : Nat) (g : Ga) (P : Hp → Prop) (x1 : Int32) (x2 : Int32) (h : Hp) : Prop := V E MX10_laysTogether (RM (d + 1) 0) g (QQ E g (QV E P) 0 0) 0 0 h 18 [(0, .ref (eA E 63)), (1, .int x1), (2, .int x2)] []
set_option maxRecDepth 20000 in
theorem wp_X10_laysTogether (E : En) (d : Nat) (h : Hp) (P : Hp → Prop) (t : ∀ g : Ga, VX10_laysTogether_2 E d g P (0 : Int32) h) : SpV E (d + 1) MX10_laysTogether [.ref (eA E 63)] h P := by
  refine SpV.of (lv0 := [(0, .ref (eA E 63))]) (by decide) (Nat.le_of_ble_eq_true rfl) rfl (fun g => ?_)
  have t := t g
  refine r_iconst (v := (0 : Int32)) dX10_laysTogether_0 rfl ?_
  refine r_istore_n (lv' := [(1, .int (0 : Int32)), (0, .ref (eA E 63))]) dX10_laysTogether_1 rfl (by decide) rfl ?_
  refine r_sub [1, 0] rfl ?_
  exact t
set_option maxRecDepth 20000 in
theorem sg_X10_laysTogether_2 (E : En) (d : Nat) (g : Ga) (x1 : Int32) (h : Hp) (P : Hp → Prop) (t : ((4096 : Int32) ≤ x1 → (P h)) ∧ (¬ (4096 : Int32) ≤ x1 → (vp_in x1 4096 ∧ (VX10_laysTogether_18 E d g P x1 (0 : Int32) (sI h 83 x1.toNatClampNeg (vp_nar .boolean (1 : Int32))))))) : VX10_laysTogether_2 E d g P x1 h := by
  refine r_iload_n (q := 1) dX10_laysTogether_2 rfl rfl ?_
  refine r_sipush (v := (4096 : Int32)) dX10_laysTogether_3 rfl ?_
  refine r_icmp_ge (tgt := 73) dX10_laysTogether_6 (by decide) (fun q1 => ?_) (fun q1 => ?_)
  · have t := t.1 q1
    exact r_vret dX10_laysTogether_73 rfl t
  · have t := t.2 q1
    refine r_aload_n (q := 0) dX10_laysTogether_9 rfl rfl ?_
    refine r_getR (c := 63) (c2 := 83) dX10_laysTogether_10 flX10_67 lay_63 rfl ?_
    refine r_iload_n (q := 1) dX10_laysTogether_13 rfl rfl ?_
    refine r_iconst (v := (1 : Int32)) dX10_laysTogether_14 rfl ?_
    obtain ⟨c2, t⟩ := t
    refine r_zast (c := 83) dX10_laysTogether_15 lay_83 c2 ?_
    refine r_iconst (v := (0 : Int32)) dX10_laysTogether_16 rfl ?_
    refine r_istore_n (lv' := [(2, .int (0 : Int32)), (0, .ref (eA E 63)), (1, .int x1)]) dX10_laysTogether_17 rfl (by decide) rfl ?_
    refine r_sub [1, 2, 0] rfl ?_
    exact t
set_option maxRecDepth 20000 in
theorem sg_X10_laysTogether_18 (E : En) (d : Nat) (g : Ga) (x1 : Int32) (x2 : Int32) (h : Hp) (P : Hp → Prop) (t : ((h.1 63 26) ≤ x2 → (VX10_laysTogether_2 E d g P (x1 + (1 : Int32)) h)) ∧ (¬ (h.1 63 26) ≤ x2 → (vp_in x1 4096 ∧ (((h.1 83 x1.toNatClampNeg) = 0 → (VX10_laysTogether_2 E d g P (x1 + (1 : Int32)) h)) ∧ (¬ (h.1 83 x1.toNatClampNeg) = 0 → (vp_in x2 192 ∧ (SpI E d MX10_ones [.int ((h.1 79 x2.toNatClampNeg) &&& x1)] h (fun v5 h5 => ((2 : Int32) ≤ v5 → (vp_in x1 4096 ∧ (VX10_laysTogether_18 E d g P x1 (x2 + (1 : Int32)) (sI h5 83 x1.toNatClampNeg (vp_nar .boolean (0 : Int32)))))) ∧ (¬ (2 : Int32) ≤ v5 → (vp_in x1 4096 ∧ (VX10_laysTogether_18 E d g P x1 (x2 + (1 : Int32)) (sI h5 83 x1.toNatClampNeg (vp_nar .boolean (1 : Int32)))))))))))))) : VX10_laysTogether_18 E d g P x1 x2 h := by
  refine r_iload_n (q := 2) dX10_laysTogether_18 rfl rfl ?_
  refine r_aload_n (q := 0) dX10_laysTogether_19 rfl rfl ?_
  refine r_getI (c := 63) dX10_laysTogether_20 flX10_206 lay_63 rfl ?_
  refine r_icmp_ge (tgt := 67) dX10_laysTogether_23 (by decide) (fun q1 => ?_) (fun q1 => ?_)
  · have t := t.1 q1
    refine r_iinc (k := 1) (v := x1 + (1 : Int32)) (lv' := [(1, .int (x1 + (1 : Int32))), (0, .ref (eA E 63)), (2, .int x2)]) dX10_laysTogether_67 rfl rfl (by decide) rfl ?_
    refine r_goto (tgt := 2) dX10_laysTogether_70 (by decide) ?_
    refine r_sub [1, 0] rfl ?_
    exact t
  · have t := t.2 q1
    refine r_aload_n (q := 0) dX10_laysTogether_26 rfl rfl ?_
    refine r_getR (c := 63) (c2 := 83) dX10_laysTogether_27 flX10_67 lay_63 rfl ?_
    refine r_iload_n (q := 1) dX10_laysTogether_30 rfl rfl ?_
    obtain ⟨c2, t⟩ := t
    refine r_zald (c := 83) dX10_laysTogether_31 lay_83 c2 ?_
    refine r_if_eq (tgt := 67) dX10_laysTogether_32 (by decide) (fun q3 => ?_) (fun q3 => ?_)
    · have t := t.1 q3
      refine r_iinc (k := 1) (v := x1 + (1 : Int32)) (lv' := [(1, .int (x1 + (1 : Int32))), (0, .ref (eA E 63)), (2, .int x2)]) dX10_laysTogether_67 rfl rfl (by decide) rfl ?_
      refine r_goto (tgt := 2) dX10_laysTogether_70 (by decide) ?_
      refine r_sub [1, 0] rfl ?_
      exact t
    · have t := t.2 q3
      refine r_aload_n (q := 0) dX10_laysTogether_35 rfl rfl ?_
      refine r_getR (c := 63) (c2 := 83) dX10_laysTogether_36 flX10_67 lay_63 rfl ?_
      refine r_iload_n (q := 1) dX10_laysTogether_39 rfl rfl ?_
      refine r_aload_n (q := 0) dX10_laysTogether_40 rfl rfl ?_
      refine r_getR (c := 63) (c2 := 79) dX10_laysTogether_41 flX10_55 lay_63 rfl ?_
      refine r_iload_n (q := 2) dX10_laysTogether_44 rfl rfl ?_
      obtain ⟨c4, t⟩ := t
      refine r_iald (c := 79) dX10_laysTogether_45 lay_79 c4 ?_
      refine r_iload_n (q := 1) dX10_laysTogether_46 rfl rfl ?_
      refine r_iand dX10_laysTogether_47 ?_
      refine r_cSI (As := [.int ((h.1 79 x2.toNatClampNeg) &&& x1)]) dX10_laysTogether_48 mkX10_ones lkX10_218 rfl (by decide) rfl (Nat.le_of_ble_eq_true rfl) z00 t ?_
      intro v5 h5 t
      refine r_iconst (v := (2 : Int32)) dX10_laysTogether_51 rfl ?_
      refine r_icmp_ge (tgt := 59) dX10_laysTogether_52 (by decide) (fun q6 => ?_) (fun q6 => ?_)
      · have t := t.1 q6
        refine r_iconst (v := (0 : Int32)) dX10_laysTogether_59 rfl ?_
        obtain ⟨c7, t⟩ := t
        refine r_zast (c := 83) dX10_laysTogether_60 lay_83 c7 ?_
        refine r_iinc (k := 2) (v := x2 + (1 : Int32)) (lv' := [(2, .int (x2 + (1 : Int32))), (0, .ref (eA E 63)), (1, .int x1)]) dX10_laysTogether_61 rfl rfl (by decide) rfl ?_
        refine r_goto (tgt := 18) dX10_laysTogether_64 (by decide) ?_
        refine r_sub [1, 2, 0] rfl ?_
        exact t
      · have t := t.2 q6
        refine r_iconst (v := (1 : Int32)) dX10_laysTogether_55 rfl ?_
        refine r_goto (tgt := 60) dX10_laysTogether_56 (by decide) ?_
        obtain ⟨c8, t⟩ := t
        refine r_zast (c := 83) dX10_laysTogether_60 lay_83 c8 ?_
        refine r_iinc (k := 2) (v := x2 + (1 : Int32)) (lv' := [(2, .int (x2 + (1 : Int32))), (0, .ref (eA E 63)), (1, .int x1)]) dX10_laysTogether_61 rfl rfl (by decide) rfl ?_
        refine r_goto (tgt := 18) dX10_laysTogether_64 (by decide) ?_
        refine r_sub [1, 2, 0] rfl ?_
        exact t
theorem dX10_bestField_0 : decode cX10_bestField 0 = .ok (.iload_n 1, 1) := by decide +kernel
theorem dX10_bestField_1 : decode cX10_bestField 1 = .ok (.iload_n 1, 1) := by decide +kernel
theorem dX10_bestField_2 : decode cX10_bestField 2 = .ok (.ineg, 1) := by decide +kernel
theorem dX10_bestField_3 : decode cX10_bestField 3 = .ok (.iand, 1) := by decide +kernel
theorem dX10_bestField_4 : decode cX10_bestField 4 = .ok (.istore_n 2, 1) := by decide +kernel
theorem dX10_bestField_5 : decode cX10_bestField 5 = .ok (.iload_n 1, 1) := by decide +kernel
theorem dX10_bestField_6 : decode cX10_bestField 6 = .ok (.iload_n 2, 1) := by decide +kernel
theorem dX10_bestField_7 : decode cX10_bestField 7 = .ok (.iconst (-1), 1) := by decide +kernel
theorem dX10_bestField_8 : decode cX10_bestField 8 = .ok (.ixor, 1) := by decide +kernel
theorem dX10_bestField_9 : decode cX10_bestField 9 = .ok (.iand, 1) := by decide +kernel
theorem dX10_bestField_10 : decode cX10_bestField 10 = .ok (.istore_n 3, 1) := by decide +kernel
theorem dX10_bestField_11 : decode cX10_bestField 11 = .ok (.iconst 0, 1) := by decide +kernel
theorem dX10_bestField_12 : decode cX10_bestField 12 = .ok (.istore 4, 2) := by decide +kernel
theorem dX10_bestField_14 : decode cX10_bestField 14 = .ok (.iconst 0, 1) := by decide +kernel
theorem dX10_bestField_15 : decode cX10_bestField 15 = .ok (.istore 5, 2) := by decide +kernel
theorem dX10_bestField_17 : decode cX10_bestField 17 = .ok (.iload_n 3, 1) := by decide +kernel
theorem dX10_bestField_18 : decode cX10_bestField 18 = .ok (.istore 6, 2) := by decide +kernel
theorem dX10_bestField_20 : decode cX10_bestField 20 = .ok (.iload 6, 2) := by decide +kernel
theorem dX10_bestField_22 : decode cX10_bestField 22 = .ok (.iload_n 2, 1) := by decide +kernel
theorem dX10_bestField_23 : decode cX10_bestField 23 = .ok (.ior, 1) := by decide +kernel
theorem dX10_bestField_24 : decode cX10_bestField 24 = .ok (.istore 7, 2) := by decide +kernel
theorem dX10_bestField_26 : decode cX10_bestField 26 = .ok (.bipush 100, 2) := by decide +kernel
theorem dX10_bestField_28 : decode cX10_bestField 28 = .ok (.iload 7, 2) := by decide +kernel
theorem dX10_bestField_30 : decode cX10_bestField 30 = .ok (.invokestatic 218, 3) := by decide +kernel
theorem dX10_bestField_33 : decode cX10_bestField 33 = .ok (.invokestatic 221, 3) := by decide +kernel
theorem dX10_bestField_36 : decode cX10_bestField 36 = .ok (.imul, 1) := by decide +kernel
theorem dX10_bestField_37 : decode cX10_bestField 37 = .ok (.iconst 1, 1) := by decide +kernel
theorem dX10_bestField_38 : decode cX10_bestField 38 = .ok (.iadd, 1) := by decide +kernel
theorem dX10_bestField_39 : decode cX10_bestField 39 = .ok (.aload_n 0, 1) := by decide +kernel
theorem dX10_bestField_40 : decode cX10_bestField 40 = .ok (.getfield 71, 3) := by decide +kernel
theorem dX10_bestField_43 : decode cX10_bestField 43 = .ok (.iload_n 1, 1) := by decide +kernel
theorem dX10_bestField_44 : decode cX10_bestField 44 = .ok (.iload 7, 2) := by decide +kernel
theorem dX10_bestField_46 : decode cX10_bestField 46 = .ok (.iconst (-1), 1) := by decide +kernel
theorem dX10_bestField_47 : decode cX10_bestField 47 = .ok (.ixor, 1) := by decide +kernel
theorem dX10_bestField_48 : decode cX10_bestField 48 = .ok (.iand, 1) := by decide +kernel
theorem dX10_bestField_49 : decode cX10_bestField 49 = .ok (.iaload, 1) := by decide +kernel
theorem dX10_bestField_50 : decode cX10_bestField 50 = .ok (.iadd, 1) := by decide +kernel
theorem dX10_bestField_51 : decode cX10_bestField 51 = .ok (.istore 8, 2) := by decide +kernel
theorem dX10_bestField_53 : decode cX10_bestField 53 = .ok (.aload_n 0, 1) := by decide +kernel
theorem dX10_bestField_54 : decode cX10_bestField 54 = .ok (.getfield 67, 3) := by decide +kernel
theorem dX10_bestField_57 : decode cX10_bestField 57 = .ok (.iload 7, 2) := by decide +kernel
theorem dX10_bestField_59 : decode cX10_bestField 59 = .ok (.baload, 1) := by decide +kernel
theorem dX10_bestField_60 : decode cX10_bestField 60 = .ok (.ifCond .eq 23, 3) := by decide +kernel
theorem dX10_bestField_63 : decode cX10_bestField 63 = .ok (.iload 4, 2) := by decide +kernel
theorem dX10_bestField_65 : decode cX10_bestField 65 = .ok (.ifCond .eq 10, 3) := by decide +kernel
theorem dX10_bestField_68 : decode cX10_bestField 68 = .ok (.iload 8, 2) := by decide +kernel
theorem dX10_bestField_70 : decode cX10_bestField 70 = .ok (.iload 5, 2) := by decide +kernel
theorem dX10_bestField_72 : decode cX10_bestField 72 = .ok (.if_icmp .gt 11, 3) := by decide +kernel
theorem dX10_bestField_75 : decode cX10_bestField 75 = .ok (.iload 7, 2) := by decide +kernel
theorem dX10_bestField_77 : decode cX10_bestField 77 = .ok (.istore 4, 2) := by decide +kernel
theorem dX10_bestField_79 : decode cX10_bestField 79 = .ok (.iload 8, 2) := by decide +kernel
theorem dX10_bestField_81 : decode cX10_bestField 81 = .ok (.istore 5, 2) := by decide +kernel
theorem dX10_bestField_83 : decode cX10_bestField 83 = .ok (.iload 6, 2) := by decide +kernel
theorem dX10_bestField_85 : decode cX10_bestField 85 = .ok (.ifCond .ne 6, 3) := by decide +kernel
theorem dX10_bestField_88 : decode cX10_bestField 88 = .ok (.goto 14, 3) := by decide +kernel
theorem dX10_bestField_91 : decode cX10_bestField 91 = .ok (.iload 6, 2) := by decide +kernel
theorem dX10_bestField_93 : decode cX10_bestField 93 = .ok (.iconst 1, 1) := by decide +kernel
theorem dX10_bestField_94 : decode cX10_bestField 94 = .ok (.isub, 1) := by decide +kernel
theorem dX10_bestField_95 : decode cX10_bestField 95 = .ok (.iload_n 3, 1) := by decide +kernel
theorem dX10_bestField_96 : decode cX10_bestField 96 = .ok (.iand, 1) := by decide +kernel
theorem dX10_bestField_97 : decode cX10_bestField 97 = .ok (.istore 6, 2) := by decide +kernel
theorem dX10_bestField_99 : decode cX10_bestField 99 = .ok (.goto (-79), 3) := by decide +kernel
theorem dX10_bestField_102 : decode cX10_bestField 102 = .ok (.aload_n 0, 1) := by decide +kernel
theorem dX10_bestField_103 : decode cX10_bestField 103 = .ok (.getfield 71, 3) := by decide +kernel
theorem dX10_bestField_106 : decode cX10_bestField 106 = .ok (.iload_n 1, 1) := by decide +kernel
theorem dX10_bestField_107 : decode cX10_bestField 107 = .ok (.iload 5, 2) := by decide +kernel
theorem dX10_bestField_109 : decode cX10_bestField 109 = .ok (.iastore, 1) := by decide +kernel
theorem dX10_bestField_110 : decode cX10_bestField 110 = .ok (.iload 4, 2) := by decide +kernel
theorem dX10_bestField_112 : decode cX10_bestField 112 = .ok (.ireturn, 1) := by decide +kernel
abbrev VX10_bestField_20 (E : En) (d : Nat) (g : Ga) (P : Int32 → Hp → Prop) (x1 : Int32) (x2 : Int32) (x3 : Int32) (x4 : Int32) (x5 : Int32) (x6 : Int32) (h : Hp) : Prop := V E MX10_bestField (RM (d + 1) 0) g (QQ E g (QI E P) 0 0) 0 0 h 20 [(0, .ref (eA E 63)), (1, .int x1), (2, .int x2), (3, .int x3), (4, .int x4), (5, .int x5), (6, .int x6)] []
set_option maxRecDepth 20000 in
theorem wp_X10_bestField (E : En) (d : Nat) (a1 : Int32) (h : Hp) (P : Int32 → Hp → Prop) (t : ∀ g : Ga, VX10_bestField_20 E d g P a1 (a1 &&& (-a1)) (a1 &&& ((a1 &&& (-a1)) ^^^ (-1 : Int32))) (0 : Int32) (0 : Int32) (a1 &&& ((a1 &&& (-a1)) ^^^ (-1 : Int32))) h) : SpI E (d + 1) MX10_bestField [.ref (eA E 63), .int a1] h P := by
  refine SpI.of (lv0 := [(0, .ref (eA E 63)), (1, .int a1)]) (by decide) (Nat.le_of_ble_eq_true rfl) rfl (fun g => ?_)
  have t := t g
  refine r_iload_n (q := 1) dX10_bestField_0 rfl rfl ?_
  refine r_iload_n (q := 1) dX10_bestField_1 rfl rfl ?_
  refine r_ineg dX10_bestField_2 ?_
  refine r_iand dX10_bestField_3 ?_
  refine r_istore_n (lv' := [(2, .int (a1 &&& (-a1))), (0, .ref (eA E 63)), (1, .int a1)]) dX10_bestField_4 rfl (by decide) rfl ?_
  refine r_iload_n (q := 2) dX10_bestField_5 rfl rfl ?_
  refine r_iload_n (q := 0) dX10_bestField_6 rfl rfl ?_
  refine r_iconst (v := (-1 : Int32)) dX10_bestField_7 rfl ?_
  refine r_ixor dX10_bestField_8 ?_
  refine r_iand dX10_bestField_9 ?_
  refine r_istore_n (lv' := [(3, .int (a1 &&& ((a1 &&& (-a1)) ^^^ (-1 : Int32)))), (2, .int (a1 &&& (-a1))), (0, .ref (eA E 63)), (1, .int a1)]) dX10_bestField_10 rfl (by decide) rfl ?_
  refine r_iconst (v := (0 : Int32)) dX10_bestField_11 rfl ?_
  refine r_istore (lv' := [(4, .int (0 : Int32)), (3, .int (a1 &&& ((a1 &&& (-a1)) ^^^ (-1 : Int32)))), (2, .int (a1 &&& (-a1))), (0, .ref (eA E 63)), (1, .int a1)]) dX10_bestField_12 (by decide) rfl ?_
  refine r_iconst (v := (0 : Int32)) dX10_bestField_14 rfl ?_
  refine r_istore (lv' := [(5, .int (0 : Int32)), (4, .int (0 : Int32)), (3, .int (a1 &&& ((a1 &&& (-a1)) ^^^ (-1 : Int32)))), (2, .int (a1 &&& (-a1))), (0, .ref (eA E 63)), (1, .int a1)]) dX10_bestField_15 (by decide) rfl ?_
  refine r_iload_n (q := 2) dX10_bestField_17 rfl rfl ?_
  refine r_istore (lv' := [(6, .int (a1 &&& ((a1 &&& (-a1)) ^^^ (-1 : Int32)))), (5, .int (0 : Int32)), (4, .int (0 : Int32)), (3, .int (a1 &&& ((a1 &&& (-a1)) ^^^ (-1 : Int32)))), (2, .int (a1 &&& (-a1))), (0, .ref (eA E 63)), (1, .int a1)]) dX10_bestField_18 (by decide) rfl ?_
  refine r_sub [5, 6, 4, 3, 2, 1, 0] rfl ?_
  exact t
set_option maxRecDepth 20000 in
theorem sg_X10_bestField_20 (E : En) (d : Nat) (g : Ga) (x1 : Int32) (x2 : Int32) (x3 : Int32) (x4 : Int32) (x5 : Int32) (x6 : Int32) (h : Hp) (P : Int32 → Hp → Prop) (t : SpI E d MX10_ones [.int (x6 ||| x2)] h (fun v1 h1 => SpI E d MX10_bitsFor [.int v1] h1 (fun v2 h2 => vp_in (x1 &&& ((x6 ||| x2) ^^^ (-1 : Int32))) 4096 ∧ (vp_in (x6 ||| x2) 4096 ∧ (((h2.1 83 ((x6 ||| x2).toNatClampNeg)) = 0 → ((¬ x6 = 0 → (VX10_bestField_20 E d g P x1 x2 x3 x4 x5 ((x6 - (1 : Int32)) &&& x3) h2)) ∧ (x6 = 0 → (vp_in x1 4096 ∧ (P x4 (sI h2 84 x1.toNatClampNeg x5)))))) ∧ (¬ (h2.1 83 ((x6 ||| x2).toNatClampNeg)) = 0 → ((x4 = 0 → ((¬ x6 = 0 → (VX10_bestField_20 E d g P x1 x2 x3 (x6 ||| x2) ((((100 : Int32) * v2) + (1 : Int32)) + (h2.1 84 ((x1 &&& ((x6 ||| x2) ^^^ (-1 : Int32))).toNatClampNeg))) ((x6 - (1 : Int32)) &&& x3) h2)) ∧ (x6 = 0 → (vp_in x1 4096 ∧ (P (x6 ||| x2) (sI h2 84 x1.toNatClampNeg ((((100 : Int32) * v2) + (1 : Int32)) + (h2.1 84 ((x1 &&& ((x6 ||| x2) ^^^ (-1 : Int32))).toNatClampNeg))))))))) ∧ (¬ x4 = 0 → ((x5 < ((((100 : Int32) * v2) + (1 : Int32)) + (h2.1 84 ((x1 &&& ((x6 ||| x2) ^^^ (-1 : Int32))).toNatClampNeg))) → ((¬ x6 = 0 → (VX10_bestField_20 E d g P x1 x2 x3 x4 x5 ((x6 - (1 : Int32)) &&& x3) h2)) ∧ (x6 = 0 → (vp_in x1 4096 ∧ (P x4 (sI h2 84 x1.toNatClampNeg x5)))))) ∧ (¬ x5 < ((((100 : Int32) * v2) + (1 : Int32)) + (h2.1 84 ((x1 &&& ((x6 ||| x2) ^^^ (-1 : Int32))).toNatClampNeg))) → ((¬ x6 = 0 → (VX10_bestField_20 E d g P x1 x2 x3 (x6 ||| x2) ((((100 : Int32) * v2) + (1 : Int32)) + (h2.1 84 ((x1 &&& ((x6 ||| x2) ^^^ (-1 : Int32))).toNatClampNeg))) ((x6 - (1 : Int32)) &&& x3) h2)) ∧ (x6 = 0 → (vp_in x1 4096 ∧ (P (x6 ||| x2) (sI h2 84 x1.toNatClampNeg ((((100 : Int32) * v2) + (1 : Int32)) + (h2.1 84 ((x1 &&& ((x6 ||| x2) ^^^ (-1 : Int32))).toNatClampNeg)))))))))))))))))) : VX10_bestField_20 E d g P x1 x2 x3 x4 x5 x6 h := by
  refine r_iload (q := 6) dX10_bestField_20 rfl ?_
  refine r_iload_n (q := 2) dX10_bestField_22 rfl rfl ?_
  refine r_ior dX10_bestField_23 ?_
  refine r_istore (lv' := [(7, .int (x6 ||| x2)), (0, .ref (eA E 63)), (1, .int x1), (2, .int x2), (3, .int x3), (4, .int x4), (5, .int x5), (6, .int x6)]) dX10_bestField_24 (by decide) rfl ?_
  refine r_bipush (v := (100 : Int32)) dX10_bestField_26 rfl ?_
  refine r_iload (q := 0) dX10_bestField_28 rfl ?_
  refine r_cSI (As := [.int (x6 ||| x2)]) dX10_bestField_30 mkX10_ones lkX10_218 rfl (by decide) rfl (Nat.le_of_ble_eq_true rfl) z00 t ?_
  intro v1 h1 t
  refine r_cSI (As := [.int v1]) dX10_bestField_33 mkX10_bitsFor lkX10_221 rfl (by decide) rfl (Nat.le_of_ble_eq_true rfl) z00 t ?_
  intro v2 h2 t
  refine r_imul dX10_bestField_36 ?_
  refine r_iconst (v := (1 : Int32)) dX10_bestField_37 rfl ?_
  refine r_iadd dX10_bestField_38 ?_
  refine r_aload_n (q := 1) dX10_bestField_39 rfl rfl ?_
  refine r_getR (c := 63) (c2 := 84) dX10_bestField_40 flX10_71 lay_63 rfl ?_
  refine r_iload_n (q := 2) dX10_bestField_43 rfl rfl ?_
  refine r_iload (q := 0) dX10_bestField_44 rfl ?_
  refine r_iconst (v := (-1 : Int32)) dX10_bestField_46 rfl ?_
  refine r_ixor dX10_bestField_47 ?_
  refine r_iand dX10_bestField_48 ?_
  obtain ⟨c3, t⟩ := t
  refine r_iald (c := 84) dX10_bestField_49 lay_84 c3 ?_
  refine r_iadd dX10_bestField_50 ?_
  refine r_istore (lv' := [(8, .int ((((100 : Int32) * v2) + (1 : Int32)) + (h2.1 84 ((x1 &&& ((x6 ||| x2) ^^^ (-1 : Int32))).toNatClampNeg)))), (7, .int (x6 ||| x2)), (0, .ref (eA E 63)), (1, .int x1), (2, .int x2), (3, .int x3), (4, .int x4), (5, .int x5), (6, .int x6)]) dX10_bestField_51 (by decide) rfl ?_
  refine r_aload_n (q := 2) dX10_bestField_53 rfl rfl ?_
  refine r_getR (c := 63) (c2 := 83) dX10_bestField_54 flX10_67 lay_63 rfl ?_
  refine r_iload (q := 1) dX10_bestField_57 rfl ?_
  obtain ⟨c4, t⟩ := t
  refine r_zald (c := 83) dX10_bestField_59 lay_83 c4 ?_
  refine r_if_eq (tgt := 83) dX10_bestField_60 (by decide) (fun q5 => ?_) (fun q5 => ?_)
  · have t := t.1 q5
    refine r_iload (q := 8) dX10_bestField_83 rfl ?_
    refine r_if_ne (tgt := 91) dX10_bestField_85 (by decide) (fun q6 => ?_) (fun q6 => ?_)
    · have t := t.1 q6
      refine r_iload (q := 8) dX10_bestField_91 rfl ?_
      refine r_iconst (v := (1 : Int32)) dX10_bestField_93 rfl ?_
      refine r_isub dX10_bestField_94 ?_
      refine r_iload_n (q := 5) dX10_bestField_95 rfl rfl ?_
      refine r_iand dX10_bestField_96 ?_
      refine r_istore (lv' := [(6, .int ((x6 - (1 : Int32)) &&& x3)), (8, .int ((((100 : Int32) * v2) + (1 : Int32)) + (h2.1 84 ((x1 &&& ((x6 ||| x2) ^^^ (-1 : Int32))).toNatClampNeg)))), (7, .int (x6 ||| x2)), (0, .ref (eA E 63)), (1, .int x1), (2, .int x2), (3, .int x3), (4, .int x4), (5, .int x5)]) dX10_bestField_97 (by decide) rfl ?_
      refine r_goto (tgt := 20) dX10_bestField_99 (by decide) ?_
      refine r_sub [3, 4, 5, 6, 7, 8, 0] rfl ?_
      exact t
    · have t := t.2 q6
      refine r_goto (tgt := 102) dX10_bestField_88 (by decide) ?_
      refine r_aload_n (q := 2) dX10_bestField_102 rfl rfl ?_
      refine r_getR (c := 63) (c2 := 84) dX10_bestField_103 flX10_71 lay_63 rfl ?_
      refine r_iload_n (q := 3) dX10_bestField_106 rfl rfl ?_
      refine r_iload (q := 7) dX10_bestField_107 rfl ?_
      obtain ⟨c7, t⟩ := t
      refine r_iast (c := 84) dX10_bestField_109 lay_84 c7 ?_
      refine r_iload (q := 6) dX10_bestField_110 rfl ?_
      exact r_iret dX10_bestField_112 rfl t
  · have t := t.2 q5
    refine r_iload (q := 6) dX10_bestField_63 rfl ?_
    refine r_if_eq (tgt := 75) dX10_bestField_65 (by decide) (fun q8 => ?_) (fun q8 => ?_)
    · have t := t.1 q8
      refine r_iload (q := 1) dX10_bestField_75 rfl ?_
      refine r_istore (lv' := [(4, .int (x6 ||| x2)), (8, .int ((((100 : Int32) * v2) + (1 : Int32)) + (h2.1 84 ((x1 &&& ((x6 ||| x2) ^^^ (-1 : Int32))).toNatClampNeg)))), (7, .int (x6 ||| x2)), (0, .ref (eA E 63)), (1, .int x1), (2, .int x2), (3, .int x3), (5, .int x5), (6, .int x6)]) dX10_bestField_77 (by decide) rfl ?_
      refine r_iload (q := 1) dX10_bestField_79 rfl ?_
      refine r_istore (lv' := [(5, .int ((((100 : Int32) * v2) + (1 : Int32)) + (h2.1 84 ((x1 &&& ((x6 ||| x2) ^^^ (-1 : Int32))).toNatClampNeg)))), (4, .int (x6 ||| x2)), (8, .int ((((100 : Int32) * v2) + (1 : Int32)) + (h2.1 84 ((x1 &&& ((x6 ||| x2) ^^^ (-1 : Int32))).toNatClampNeg)))), (7, .int (x6 ||| x2)), (0, .ref (eA E 63)), (1, .int x1), (2, .int x2), (3, .int x3), (6, .int x6)]) dX10_bestField_81 (by decide) rfl ?_
      refine r_iload (q := 8) dX10_bestField_83 rfl ?_
      refine r_if_ne (tgt := 91) dX10_bestField_85 (by decide) (fun q9 => ?_) (fun q9 => ?_)
      · have t := t.1 q9
        refine r_iload (q := 8) dX10_bestField_91 rfl ?_
        refine r_iconst (v := (1 : Int32)) dX10_bestField_93 rfl ?_
        refine r_isub dX10_bestField_94 ?_
        refine r_iload_n (q := 7) dX10_bestField_95 rfl rfl ?_
        refine r_iand dX10_bestField_96 ?_
        refine r_istore (lv' := [(6, .int ((x6 - (1 : Int32)) &&& x3)), (5, .int ((((100 : Int32) * v2) + (1 : Int32)) + (h2.1 84 ((x1 &&& ((x6 ||| x2) ^^^ (-1 : Int32))).toNatClampNeg)))), (4, .int (x6 ||| x2)), (8, .int ((((100 : Int32) * v2) + (1 : Int32)) + (h2.1 84 ((x1 &&& ((x6 ||| x2) ^^^ (-1 : Int32))).toNatClampNeg)))), (7, .int (x6 ||| x2)), (0, .ref (eA E 63)), (1, .int x1), (2, .int x2), (3, .int x3)]) dX10_bestField_97 (by decide) rfl ?_
        refine r_goto (tgt := 20) dX10_bestField_99 (by decide) ?_
        refine r_sub [5, 6, 7, 8, 2, 1, 0] rfl ?_
        exact t
      · have t := t.2 q9
        refine r_goto (tgt := 102) dX10_bestField_88 (by decide) ?_
        refine r_aload_n (q := 4) dX10_bestField_102 rfl rfl ?_
        refine r_getR (c := 63) (c2 := 84) dX10_bestField_103 flX10_71 lay_63 rfl ?_
        refine r_iload_n (q := 5) dX10_bestField_106 rfl rfl ?_
        refine r_iload (q := 0) dX10_bestField_107 rfl ?_
        obtain ⟨c10, t⟩ := t
        refine r_iast (c := 84) dX10_bestField_109 lay_84 c10 ?_
        refine r_iload (q := 1) dX10_bestField_110 rfl ?_
        exact r_iret dX10_bestField_112 rfl t
    · have t := t.2 q8
      refine r_iload (q := 0) dX10_bestField_68 rfl ?_
      refine r_iload (q := 7) dX10_bestField_70 rfl ?_
      refine r_icmp_gt (tgt := 83) dX10_bestField_72 (by decide) (fun q11 => ?_) (fun q11 => ?_)
      · have t := t.1 q11
        refine r_iload (q := 8) dX10_bestField_83 rfl ?_
        refine r_if_ne (tgt := 91) dX10_bestField_85 (by decide) (fun q12 => ?_) (fun q12 => ?_)
        · have t := t.1 q12
          refine r_iload (q := 8) dX10_bestField_91 rfl ?_
          refine r_iconst (v := (1 : Int32)) dX10_bestField_93 rfl ?_
          refine r_isub dX10_bestField_94 ?_
          refine r_iload_n (q := 5) dX10_bestField_95 rfl rfl ?_
          refine r_iand dX10_bestField_96 ?_
          refine r_istore (lv' := [(6, .int ((x6 - (1 : Int32)) &&& x3)), (8, .int ((((100 : Int32) * v2) + (1 : Int32)) + (h2.1 84 ((x1 &&& ((x6 ||| x2) ^^^ (-1 : Int32))).toNatClampNeg)))), (7, .int (x6 ||| x2)), (0, .ref (eA E 63)), (1, .int x1), (2, .int x2), (3, .int x3), (4, .int x4), (5, .int x5)]) dX10_bestField_97 (by decide) rfl ?_
          refine r_goto (tgt := 20) dX10_bestField_99 (by decide) ?_
          refine r_sub [3, 4, 5, 6, 7, 8, 0] rfl ?_
          exact t
        · have t := t.2 q12
          refine r_goto (tgt := 102) dX10_bestField_88 (by decide) ?_
          refine r_aload_n (q := 2) dX10_bestField_102 rfl rfl ?_
          refine r_getR (c := 63) (c2 := 84) dX10_bestField_103 flX10_71 lay_63 rfl ?_
          refine r_iload_n (q := 3) dX10_bestField_106 rfl rfl ?_
          refine r_iload (q := 7) dX10_bestField_107 rfl ?_
          obtain ⟨c13, t⟩ := t
          refine r_iast (c := 84) dX10_bestField_109 lay_84 c13 ?_
          refine r_iload (q := 6) dX10_bestField_110 rfl ?_
          exact r_iret dX10_bestField_112 rfl t
      · have t := t.2 q11
        refine r_iload (q := 1) dX10_bestField_75 rfl ?_
        refine r_istore (lv' := [(4, .int (x6 ||| x2)), (8, .int ((((100 : Int32) * v2) + (1 : Int32)) + (h2.1 84 ((x1 &&& ((x6 ||| x2) ^^^ (-1 : Int32))).toNatClampNeg)))), (7, .int (x6 ||| x2)), (0, .ref (eA E 63)), (1, .int x1), (2, .int x2), (3, .int x3), (5, .int x5), (6, .int x6)]) dX10_bestField_77 (by decide) rfl ?_
        refine r_iload (q := 1) dX10_bestField_79 rfl ?_
        refine r_istore (lv' := [(5, .int ((((100 : Int32) * v2) + (1 : Int32)) + (h2.1 84 ((x1 &&& ((x6 ||| x2) ^^^ (-1 : Int32))).toNatClampNeg)))), (4, .int (x6 ||| x2)), (8, .int ((((100 : Int32) * v2) + (1 : Int32)) + (h2.1 84 ((x1 &&& ((x6 ||| x2) ^^^ (-1 : Int32))).toNatClampNeg)))), (7, .int (x6 ||| x2)), (0, .ref (eA E 63)), (1, .int x1), (2, .int x2), (3, .int x3), (6, .int x6)]) dX10_bestField_81 (by decide) rfl ?_
        refine r_iload (q := 8) dX10_bestField_83 rfl ?_
        refine r_if_ne (tgt := 91) dX10_bestField_85 (by decide) (fun q14 => ?_) (fun q14 => ?_)
        · have t := t.1 q14
          refine r_iload (q := 8) dX10_bestField_91 rfl ?_
          refine r_iconst (v := (1 : Int32)) dX10_bestField_93 rfl ?_
          refine r_isub dX10_bestField_94 ?_
          refine r_iload_n (q := 7) dX10_bestField_95 rfl rfl ?_
          refine r_iand dX10_bestField_96 ?_
          refine r_istore (lv' := [(6, .int ((x6 - (1 : Int32)) &&& x3)), (5, .int ((((100 : Int32) * v2) + (1 : Int32)) + (h2.1 84 ((x1 &&& ((x6 ||| x2) ^^^ (-1 : Int32))).toNatClampNeg)))), (4, .int (x6 ||| x2)), (8, .int ((((100 : Int32) * v2) + (1 : Int32)) + (h2.1 84 ((x1 &&& ((x6 ||| x2) ^^^ (-1 : Int32))).toNatClampNeg)))), (7, .int (x6 ||| x2)), (0, .ref (eA E 63)), (1, .int x1), (2, .int x2), (3, .int x3)]) dX10_bestField_97 (by decide) rfl ?_
          refine r_goto (tgt := 20) dX10_bestField_99 (by decide) ?_
          refine r_sub [5, 6, 7, 8, 2, 1, 0] rfl ?_
          exact t
        · have t := t.2 q14
          refine r_goto (tgt := 102) dX10_bestField_88 (by decide) ?_
          refine r_aload_n (q := 4) dX10_bestField_102 rfl rfl ?_
          refine r_getR (c := 63) (c2 := 84) dX10_bestField_103 flX10_71 lay_63 rfl ?_
          refine r_iload_n (q := 5) dX10_bestField_106 rfl rfl ?_
          refine r_iload (q := 0) dX10_bestField_107 rfl ?_
          obtain ⟨c15, t⟩ := t
          refine r_iast (c := 84) dX10_bestField_109 lay_84 c15 ?_
          refine r_iload (q := 1) dX10_bestField_110 rfl ?_
          exact r_iret dX10_bestField_112 rfl t
theorem dX10_laysFields_0 : decode cX10_laysFields 0 = .ok (.aload_n 0, 1) := by decide +kernel
theorem dX10_laysFields_1 : decode cX10_laysFields 1 = .ok (.invokevirtual 224, 3) := by decide +kernel
theorem dX10_laysFields_4 : decode cX10_laysFields 4 = .ok (.iconst 0, 1) := by decide +kernel
theorem dX10_laysFields_5 : decode cX10_laysFields 5 = .ok (.istore_n 1, 1) := by decide +kernel
theorem dX10_laysFields_6 : decode cX10_laysFields 6 = .ok (.iconst 0, 1) := by decide +kernel
theorem dX10_laysFields_7 : decode cX10_laysFields 7 = .ok (.istore_n 2, 1) := by decide +kernel
theorem dX10_laysFields_8 : decode cX10_laysFields 8 = .ok (.iload_n 2, 1) := by decide +kernel
theorem dX10_laysFields_9 : decode cX10_laysFields 9 = .ok (.aload_n 0, 1) := by decide +kernel
theorem dX10_laysFields_10 : decode cX10_laysFields 10 = .ok (.getfield 206, 3) := by decide +kernel
theorem dX10_laysFields_13 : decode cX10_laysFields 13 = .ok (.if_icmp .ge 18, 3) := by decide +kernel
theorem dX10_laysFields_16 : decode cX10_laysFields 16 = .ok (.iload_n 1, 1) := by decide +kernel
theorem dX10_laysFields_17 : decode cX10_laysFields 17 = .ok (.aload_n 0, 1) := by decide +kernel
theorem dX10_laysFields_18 : decode cX10_laysFields 18 = .ok (.getfield 55, 3) := by decide +kernel
theorem dX10_laysFields_21 : decode cX10_laysFields 21 = .ok (.iload_n 2, 1) := by decide +kernel
theorem dX10_laysFields_22 : decode cX10_laysFields 22 = .ok (.iaload, 1) := by decide +kernel
theorem dX10_laysFields_23 : decode cX10_laysFields 23 = .ok (.ior, 1) := by decide +kernel
theorem dX10_laysFields_24 : decode cX10_laysFields 24 = .ok (.istore_n 1, 1) := by decide +kernel
theorem dX10_laysFields_25 : decode cX10_laysFields 25 = .ok (.iinc 2 1, 3) := by decide +kernel
theorem dX10_laysFields_28 : decode cX10_laysFields 28 = .ok (.goto (-20), 3) := by decide +kernel
theorem dX10_laysFields_31 : decode cX10_laysFields 31 = .ok (.aload_n 0, 1) := by decide +kernel
theorem dX10_laysFields_32 : decode cX10_laysFields 32 = .ok (.getfield 71, 3) := by decide +kernel
theorem dX10_laysFields_35 : decode cX10_laysFields 35 = .ok (.iconst 0, 1) := by decide +kernel
theorem dX10_laysFields_36 : decode cX10_laysFields 36 = .ok (.iconst 0, 1) := by decide +kernel
theorem dX10_laysFields_37 : decode cX10_laysFields 37 = .ok (.iastore, 1) := by decide +kernel
theorem dX10_laysFields_38 : decode cX10_laysFields 38 = .ok (.iconst 1, 1) := by decide +kernel
theorem dX10_laysFields_39 : decode cX10_laysFields 39 = .ok (.istore_n 2, 1) := by decide +kernel
theorem dX10_laysFields_40 : decode cX10_laysFields 40 = .ok (.iload_n 2, 1) := by decide +kernel
theorem dX10_laysFields_41 : decode cX10_laysFields 41 = .ok (.sipush 4096, 3) := by decide +kernel
theorem dX10_laysFields_44 : decode cX10_laysFields 44 = .ok (.if_icmp .ge 22, 3) := by decide +kernel
theorem dX10_laysFields_47 : decode cX10_laysFields 47 = .ok (.iload_n 2, 1) := by decide +kernel
theorem dX10_laysFields_48 : decode cX10_laysFields 48 = .ok (.iload_n 1, 1) := by decide +kernel
theorem dX10_laysFields_49 : decode cX10_laysFields 49 = .ok (.iconst (-1), 1) := by decide +kernel
theorem dX10_laysFields_50 : decode cX10_laysFields 50 = .ok (.ixor, 1) := by decide +kernel
theorem dX10_laysFields_51 : decode cX10_laysFields 51 = .ok (.iand, 1) := by decide +kernel
theorem dX10_laysFields_52 : decode cX10_laysFields 52 = .ok (.ifCond .ne 8, 3) := by decide +kernel
theorem dX10_laysFields_55 : decode cX10_laysFields 55 = .ok (.aload_n 0, 1) := by decide +kernel
theorem dX10_laysFields_56 : decode cX10_laysFields 56 = .ok (.iload_n 2, 1) := by decide +kernel
theorem dX10_laysFields_57 : decode cX10_laysFields 57 = .ok (.invokevirtual 227, 3) := by decide +kernel
theorem dX10_laysFields_60 : decode cX10_laysFields 60 = .ok (.iinc 2 1, 3) := by decide +kernel
theorem dX10_laysFields_63 : decode cX10_laysFields 63 = .ok (.goto (-23), 3) := by decide +kernel
theorem dX10_laysFields_66 : decode cX10_laysFields 66 = .ok (.aload_n 0, 1) := by decide +kernel
theorem dX10_laysFields_67 : decode cX10_laysFields 67 = .ok (.iconst 0, 1) := by decide +kernel
theorem dX10_laysFields_68 : decode cX10_laysFields 68 = .ok (.putfield 230, 3) := by decide +kernel
theorem dX10_laysFields_71 : decode cX10_laysFields 71 = .ok (.aload_n 0, 1) := by decide +kernel
theorem dX10_laysFields_72 : decode cX10_laysFields 72 = .ok (.iconst 0, 1) := by decide +kernel
theorem dX10_laysFields_73 : decode cX10_laysFields 73 = .ok (.putfield 233, 3) := by decide +kernel
theorem dX10_laysFields_76 : decode cX10_laysFields 76 = .ok (.iload_n 1, 1) := by decide +kernel
theorem dX10_laysFields_77 : decode cX10_laysFields 77 = .ok (.ifCond .eq 68, 3) := by decide +kernel
theorem dX10_laysFields_80 : decode cX10_laysFields 80 = .ok (.aload_n 0, 1) := by decide +kernel
theorem dX10_laysFields_81 : decode cX10_laysFields 81 = .ok (.getfield 74, 3) := by decide +kernel
theorem dX10_laysFields_84 : decode cX10_laysFields 84 = .ok (.aload_n 0, 1) := by decide +kernel
theorem dX10_laysFields_85 : decode cX10_laysFields 85 = .ok (.getfield 230, 3) := by decide +kernel
theorem dX10_laysFields_88 : decode cX10_laysFields 88 = .ok (.aload_n 0, 1) := by decide +kernel
theorem dX10_laysFields_89 : decode cX10_laysFields 89 = .ok (.iload_n 1, 1) := by decide +kernel
theorem dX10_laysFields_90 : decode cX10_laysFields 90 = .ok (.invokevirtual 236, 3) := by decide +kernel
theorem dX10_laysFields_93 : decode cX10_laysFields 93 = .ok (.iastore, 1) := by decide +kernel
theorem dX10_laysFields_94 : decode cX10_laysFields 94 = .ok (.aload_n 0, 1) := by decide +kernel
theorem dX10_laysFields_95 : decode cX10_laysFields 95 = .ok (.dup, 1) := by decide +kernel
theorem dX10_laysFields_96 : decode cX10_laysFields 96 = .ok (.getfield 233, 3) := by decide +kernel
theorem dX10_laysFields_99 : decode cX10_laysFields 99 = .ok (.aload_n 0, 1) := by decide +kernel
theorem dX10_laysFields_100 : decode cX10_laysFields 100 = .ok (.getfield 74, 3) := by decide +kernel
theorem dX10_laysFields_103 : decode cX10_laysFields 103 = .ok (.aload_n 0, 1) := by decide +kernel
theorem dX10_laysFields_104 : decode cX10_laysFields 104 = .ok (.getfield 230, 3) := by decide +kernel
theorem dX10_laysFields_107 : decode cX10_laysFields 107 = .ok (.iaload, 1) := by decide +kernel
theorem dX10_laysFields_108 : decode cX10_laysFields 108 = .ok (.invokestatic 218, 3) := by decide +kernel
theorem dX10_laysFields_111 : decode cX10_laysFields 111 = .ok (.invokestatic 221, 3) := by decide +kernel
theorem dX10_laysFields_114 : decode cX10_laysFields 114 = .ok (.iadd, 1) := by decide +kernel
theorem dX10_laysFields_115 : decode cX10_laysFields 115 = .ok (.putfield 233, 3) := by decide +kernel
theorem dX10_laysFields_118 : decode cX10_laysFields 118 = .ok (.iload_n 1, 1) := by decide +kernel
theorem dX10_laysFields_119 : decode cX10_laysFields 119 = .ok (.aload_n 0, 1) := by decide +kernel
theorem dX10_laysFields_120 : decode cX10_laysFields 120 = .ok (.getfield 74, 3) := by decide +kernel
theorem dX10_laysFields_123 : decode cX10_laysFields 123 = .ok (.aload_n 0, 1) := by decide +kernel
theorem dX10_laysFields_124 : decode cX10_laysFields 124 = .ok (.getfield 230, 3) := by decide +kernel
theorem dX10_laysFields_127 : decode cX10_laysFields 127 = .ok (.iaload, 1) := by decide +kernel
theorem dX10_laysFields_128 : decode cX10_laysFields 128 = .ok (.iconst (-1), 1) := by decide +kernel
theorem dX10_laysFields_129 : decode cX10_laysFields 129 = .ok (.ixor, 1) := by decide +kernel
theorem dX10_laysFields_130 : decode cX10_laysFields 130 = .ok (.iand, 1) := by decide +kernel
theorem dX10_laysFields_131 : decode cX10_laysFields 131 = .ok (.istore_n 1, 1) := by decide +kernel
theorem dX10_laysFields_132 : decode cX10_laysFields 132 = .ok (.aload_n 0, 1) := by decide +kernel
theorem dX10_laysFields_133 : decode cX10_laysFields 133 = .ok (.dup, 1) := by decide +kernel
theorem dX10_laysFields_134 : decode cX10_laysFields 134 = .ok (.getfield 230, 3) := by decide +kernel
theorem dX10_laysFields_137 : decode cX10_laysFields 137 = .ok (.iconst 1, 1) := by decide +kernel
theorem dX10_laysFields_138 : decode cX10_laysFields 138 = .ok (.iadd, 1) := by decide +kernel
theorem dX10_laysFields_139 : decode cX10_laysFields 139 = .ok (.putfield 230, 3) := by decide +kernel
theorem dX10_laysFields_142 : decode cX10_laysFields 142 = .ok (.goto (-66), 3) := by decide +kernel
theorem dX10_laysFields_145 : decode cX10_laysFields 145 = .ok (.return_, 1) := by decide +kernel
abbrev VX10_laysFields_8 (E : En) (d : Nat) (g : Ga) (P : Hp → Prop) (x1 : Int32) (x2 : Int32) (h : Hp) : Prop := V E MX10_laysFields (RM (d + 1) 0) g (QQ E g (QV E P) 0 0) 0 0 h 8 [(0, .ref (eA E 63)), (1, .int x1), (2, .int x2)] []
abbrev VX10_laysFields_40 (E : En) (d : Nat) (g : Ga) (P : Hp → Prop) (x1 : Int32) (x2 : Int32) (h : Hp) : Prop := V E MX10_laysFields (RM (d + 1) 0) g (QQ E g (QV E P) 0 0) 0 0 h 40 [(0, .ref (eA E 63)), (1, .int x1), (2, .int x2)] []
abbrev VX10_laysFields_76 (E : En) (d : Nat) (g : Ga) (P : Hp → Prop) (x1 : Int32) (x2 : Int32) (h : Hp) : Prop := V E MX10_laysFields (RM (d + 1) 0) g (QQ E g (QV E P) 0 0) 0 0 h 76 [(0, .ref (eA E 63)), (1, .int x1), (2, .int x2)] []
set_option maxRecDepth 20000 in
theorem wp_X10_laysFields (E : En) (d : Nat) (h : Hp) (P : Hp → Prop) (t : ∀ g : Ga, SpV E d MX10_laysTogether [.ref (eA E 63)] h (fun h1 => VX10_laysFields_8 E d g P (0 : Int32) (0 : Int32) h1)) : SpV E (d + 1) MX10_laysFields [.ref (eA E 63)] h P := by
  refine SpV.of (lv0 := [(0, .ref (eA E 63))]) (by decide) (Nat.le_of_ble_eq_true rfl) rfl (fun g => ?_)
  have t := t g
  refine r_aload_n (q := 0) dX10_laysFields_0 rfl rfl ?_
  refine r_cVV (c := 63) (As := []) dX10_laysFields_1 mkX10_laysTogether lkX10_224 lay_63 rfl rfl rfl (by decide) rfl (Nat.le_of_ble_eq_true rfl) z00 t ?_
  intro h1 t
  refine r_iconst (v := (0 : Int32)) dX10_laysFields_4 rfl ?_
  refine r_istore_n (lv' := [(1, .int (0 : Int32)), (0, .ref (eA E 63))]) dX10_laysFields_5 rfl (by decide) rfl ?_
  refine r_iconst (v := (0 : Int32)) dX10_laysFields_6 rfl ?_
  refine r_istore_n (lv' := [(2, .int (0 : Int32)), (1, .int (0 : Int32)), (0, .ref (eA E 63))]) dX10_laysFields_7 rfl (by decide) rfl ?_
  refine r_sub [2, 1, 0] rfl ?_
  exact t
set_option maxRecDepth 20000 in
theorem sg_X10_laysFields_8 (E : En) (d : Nat) (g : Ga) (x1 : Int32) (x2 : Int32) (h : Hp) (P : Hp → Prop) (t : ((h.1 63 26) ≤ x2 → (vp_in (0 : Int32) 4096 ∧ (VX10_laysFields_40 E d g P x1 (1 : Int32) (sI h 84 ((0 : Int32).toNatClampNeg) (0 : Int32))))) ∧ (¬ (h.1 63 26) ≤ x2 → (vp_in x2 192 ∧ (VX10_laysFields_8 E d g P (x1 ||| (h.1 79 x2.toNatClampNeg)) (x2 + (1 : Int32)) h)))) : VX10_laysFields_8 E d g P x1 x2 h := by
  refine r_iload_n (q := 2) dX10_laysFields_8 rfl rfl ?_
  refine r_aload_n (q := 0) dX10_laysFields_9 rfl rfl ?_
  refine r_getI (c := 63) dX10_laysFields_10 flX10_206 lay_63 rfl ?_
  refine r_icmp_ge (tgt := 31) dX10_laysFields_13 (by decide) (fun q1 => ?_) (fun q1 => ?_)
  · have t := t.1 q1
    refine r_aload_n (q := 0) dX10_laysFields_31 rfl rfl ?_
    refine r_getR (c := 63) (c2 := 84) dX10_laysFields_32 flX10_71 lay_63 rfl ?_
    refine r_iconst (v := (0 : Int32)) dX10_laysFields_35 rfl ?_
    refine r_iconst (v := (0 : Int32)) dX10_laysFields_36 rfl ?_
    obtain ⟨c2, t⟩ := t
    refine r_iast (c := 84) dX10_laysFields_37 lay_84 c2 ?_
    refine r_iconst (v := (1 : Int32)) dX10_laysFields_38 rfl ?_
    refine r_istore_n (lv' := [(2, .int (1 : Int32)), (0, .ref (eA E 63)), (1, .int x1)]) dX10_laysFields_39 rfl (by decide) rfl ?_
    refine r_sub [1, 2, 0] rfl ?_
    exact t
  · have t := t.2 q1
    refine r_iload_n (q := 1) dX10_laysFields_16 rfl rfl ?_
    refine r_aload_n (q := 0) dX10_laysFields_17 rfl rfl ?_
    refine r_getR (c := 63) (c2 := 79) dX10_laysFields_18 flX10_55 lay_63 rfl ?_
    refine r_iload_n (q := 2) dX10_laysFields_21 rfl rfl ?_
    obtain ⟨c3, t⟩ := t
    refine r_iald (c := 79) dX10_laysFields_22 lay_79 c3 ?_
    refine r_ior dX10_laysFields_23 ?_
    refine r_istore_n (lv' := [(1, .int (x1 ||| (h.1 79 x2.toNatClampNeg))), (0, .ref (eA E 63)), (2, .int x2)]) dX10_laysFields_24 rfl (by decide) rfl ?_
    refine r_iinc (k := 2) (v := x2 + (1 : Int32)) (lv' := [(2, .int (x2 + (1 : Int32))), (1, .int (x1 ||| (h.1 79 x2.toNatClampNeg))), (0, .ref (eA E 63))]) dX10_laysFields_25 rfl rfl (by decide) rfl ?_
    refine r_goto (tgt := 8) dX10_laysFields_28 (by decide) ?_
    refine r_sub [2, 1, 0] rfl ?_
    exact t
set_option maxRecDepth 20000 in
theorem sg_X10_laysFields_40 (E : En) (d : Nat) (g : Ga) (x1 : Int32) (x2 : Int32) (h : Hp) (P : Hp → Prop) (t : ((4096 : Int32) ≤ x2 → (VX10_laysFields_76 E d g P x1 x2 (sI (sI h 63 30 (0 : Int32)) 63 31 (0 : Int32)))) ∧ (¬ (4096 : Int32) ≤ x2 → ((¬ (x2 &&& (x1 ^^^ (-1 : Int32))) = 0 → (VX10_laysFields_40 E d g P x1 (x2 + (1 : Int32)) h)) ∧ ((x2 &&& (x1 ^^^ (-1 : Int32))) = 0 → (SpV E d MX10_laysCost [.ref (eA E 63), .int x2] h (fun h3 => VX10_laysFields_40 E d g P x1 (x2 + (1 : Int32)) h3)))))) : VX10_laysFields_40 E d g P x1 x2 h := by
  refine r_iload_n (q := 2) dX10_laysFields_40 rfl rfl ?_
  refine r_sipush (v := (4096 : Int32)) dX10_laysFields_41 rfl ?_
  refine r_icmp_ge (tgt := 66) dX10_laysFields_44 (by decide) (fun q1 => ?_) (fun q1 => ?_)
  · have t := t.1 q1
    refine r_aload_n (q := 0) dX10_laysFields_66 rfl rfl ?_
    refine r_iconst (v := (0 : Int32)) dX10_laysFields_67 rfl ?_
    refine r_putI (c := 63) dX10_laysFields_68 flX10_230 lay_63 rfl ?_
    refine r_aload_n (q := 0) dX10_laysFields_71 rfl rfl ?_
    refine r_iconst (v := (0 : Int32)) dX10_laysFields_72 rfl ?_
    refine r_putI (c := 63) dX10_laysFields_73 flX10_233 lay_63 rfl ?_
    exact t
  · have t := t.2 q1
    refine r_iload_n (q := 2) dX10_laysFields_47 rfl rfl ?_
    refine r_iload_n (q := 1) dX10_laysFields_48 rfl rfl ?_
    refine r_iconst (v := (-1 : Int32)) dX10_laysFields_49 rfl ?_
    refine r_ixor dX10_laysFields_50 ?_
    refine r_iand dX10_laysFields_51 ?_
    refine r_if_ne (tgt := 60) dX10_laysFields_52 (by decide) (fun q2 => ?_) (fun q2 => ?_)
    · have t := t.1 q2
      refine r_iinc (k := 2) (v := x2 + (1 : Int32)) (lv' := [(2, .int (x2 + (1 : Int32))), (0, .ref (eA E 63)), (1, .int x1)]) dX10_laysFields_60 rfl rfl (by decide) rfl ?_
      refine r_goto (tgt := 40) dX10_laysFields_63 (by decide) ?_
      refine r_sub [1, 2, 0] rfl ?_
      exact t
    · have t := t.2 q2
      refine r_aload_n (q := 0) dX10_laysFields_55 rfl rfl ?_
      refine r_iload_n (q := 2) dX10_laysFields_56 rfl rfl ?_
      refine r_cVV (c := 63) (As := [.int x2]) dX10_laysFields_57 mkX10_laysCost lkX10_227 lay_63 rfl rfl rfl (by decide) rfl (Nat.le_of_ble_eq_true rfl) z00 t ?_
      intro h3 t
      refine r_iinc (k := 2) (v := x2 + (1 : Int32)) (lv' := [(2, .int (x2 + (1 : Int32))), (0, .ref (eA E 63)), (1, .int x1)]) dX10_laysFields_60 rfl rfl (by decide) rfl ?_
      refine r_goto (tgt := 40) dX10_laysFields_63 (by decide) ?_
      refine r_sub [1, 2, 0] rfl ?_
      exact t
set_option maxRecDepth 20000 in
theorem sg_X10_laysFields_76 (E : En) (d : Nat) (g : Ga) (x1 : Int32) (x2 : Int32) (h : Hp) (P : Hp → Prop) (t : (x1 = 0 → (P h)) ∧ (¬ x1 = 0 → (SpI E d MX10_bestField [.ref (eA E 63), .int x1] h (fun v2 h2 => vp_in (h.1 63 30) 12 ∧ (vp_in (h2.1 63 30) 12 ∧ (SpI E d MX10_ones [.int ((sI h2 85 ((h.1 63 30).toNatClampNeg) v2).1 85 ((h2.1 63 30).toNatClampNeg))] (sI h2 85 ((h.1 63 30).toNatClampNeg) v2) (fun v5 h5 => SpI E d MX10_bitsFor [.int v5] h5 (fun v6 h6 => vp_in (h6.1 63 30) 12 ∧ (VX10_laysFields_76 E d g P (x1 &&& ((h6.1 85 ((h6.1 63 30).toNatClampNeg)) ^^^ (-1 : Int32))) x2 (sI (sI h6 63 31 ((h2.1 63 31) + v6)) 63 30 ((h6.1 63 30) + (1 : Int32)))))))))))) : VX10_laysFields_76 E d g P x1 x2 h := by
  refine r_iload_n (q := 1) dX10_laysFields_76 rfl rfl ?_
  refine r_if_eq (tgt := 145) dX10_laysFields_77 (by decide) (fun q1 => ?_) (fun q1 => ?_)
  · have t := t.1 q1
    exact r_vret dX10_laysFields_145 rfl t
  · have t := t.2 q1
    refine r_aload_n (q := 0) dX10_laysFields_80 rfl rfl ?_
    refine r_getR (c := 63) (c2 := 85) dX10_laysFields_81 flX10_74 lay_63 rfl ?_
    refine r_aload_n (q := 0) dX10_laysFields_84 rfl rfl ?_
    refine r_getI (c := 63) dX10_laysFields_85 flX10_230 lay_63 rfl ?_
    refine r_aload_n (q := 0) dX10_laysFields_88 rfl rfl ?_
    refine r_iload_n (q := 1) dX10_laysFields_89 rfl rfl ?_
    refine r_cVI (c := 63) (As := [.int x1]) dX10_laysFields_90 mkX10_bestField lkX10_236 lay_63 rfl rfl rfl (by decide) rfl (Nat.le_of_ble_eq_true rfl) z00 t ?_
    intro v2 h2 t
    obtain ⟨c3, t⟩ := t
    refine r_iast (c := 85) dX10_laysFields_93 lay_85 c3 ?_
    refine r_aload_n (q := 0) dX10_laysFields_94 rfl rfl ?_
    refine r_dup dX10_laysFields_95 rfl ?_
    refine r_getIv (c := 63) (v := h2.1 63 31) dX10_laysFields_96 flX10_233 lay_63 rfl rfl ?_
    refine r_aload_n (q := 0) dX10_laysFields_99 rfl rfl ?_
    refine r_getR (c := 63) (c2 := 85) dX10_laysFields_100 flX10_74 lay_63 rfl ?_
    refine r_aload_n (q := 0) dX10_laysFields_103 rfl rfl ?_
    refine r_getIv (c := 63) (v := h2.1 63 30) dX10_laysFields_104 flX10_230 lay_63 rfl rfl ?_
    obtain ⟨c4, t⟩ := t
    refine r_iald (c := 85) dX10_laysFields_107 lay_85 c4 ?_
    refine r_cSI (As := [.int ((sI h2 85 ((h.1 63 30).toNatClampNeg) v2).1 85 ((h2.1 63 30).toNatClampNeg))]) dX10_laysFields_108 mkX10_ones lkX10_218 rfl (by decide) rfl (Nat.le_of_ble_eq_true rfl) z00 t ?_
    intro v5 h5 t
    refine r_cSI (As := [.int v5]) dX10_laysFields_111 mkX10_bitsFor lkX10_221 rfl (by decide) rfl (Nat.le_of_ble_eq_true rfl) z00 t ?_
    intro v6 h6 t
    refine r_iadd dX10_laysFields_114 ?_
    refine r_putI (c := 63) dX10_laysFields_115 flX10_233 lay_63 rfl ?_
    refine r_iload_n (q := 1) dX10_laysFields_118 rfl rfl ?_
    refine r_aload_n (q := 0) dX10_laysFields_119 rfl rfl ?_
    refine r_getR (c := 63) (c2 := 85) dX10_laysFields_120 flX10_74 lay_63 rfl ?_
    refine r_aload_n (q := 0) dX10_laysFields_123 rfl rfl ?_
    refine r_getIv (c := 63) (v := h6.1 63 30) dX10_laysFields_124 flX10_230 lay_63 rfl rfl ?_
    obtain ⟨c7, t⟩ := t
    refine r_ialdv (c := 85) (v := h6.1 85 ((h6.1 63 30).toNatClampNeg)) dX10_laysFields_127 lay_85 c7 rfl ?_
    refine r_iconst (v := (-1 : Int32)) dX10_laysFields_128 rfl ?_
    refine r_ixor dX10_laysFields_129 ?_
    refine r_iand dX10_laysFields_130 ?_
    refine r_istore_n (lv' := [(1, .int (x1 &&& ((h6.1 85 ((h6.1 63 30).toNatClampNeg)) ^^^ (-1 : Int32)))), (0, .ref (eA E 63)), (2, .int x2)]) dX10_laysFields_131 rfl (by decide) rfl ?_
    refine r_aload_n (q := 1) dX10_laysFields_132 rfl rfl ?_
    refine r_dup dX10_laysFields_133 rfl ?_
    refine r_getIv (c := 63) (v := h6.1 63 30) dX10_laysFields_134 flX10_230 lay_63 rfl rfl ?_
    refine r_iconst (v := (1 : Int32)) dX10_laysFields_137 rfl ?_
    refine r_iadd dX10_laysFields_138 ?_
    refine r_putI (c := 63) dX10_laysFields_139 flX10_230 lay_63 rfl ?_
    refine r_goto (tgt := 76) dX10_laysFields_142 (by decide) ?_
    refine r_sub [1, 0, 2] rfl ?_
    exact t
theorem dX10_laysCost_0 : decode cX10_laysCost 0 = .ok (.aload_n 0, 1) := by decide +kernel
theorem dX10_laysCost_1 : decode cX10_laysCost 1 = .ok (.iload_n 1, 1) := by decide +kernel
theorem dX10_laysCost_2 : decode cX10_laysCost 2 = .ok (.invokevirtual 236, 3) := by decide +kernel
theorem dX10_laysCost_5 : decode cX10_laysCost 5 = .ok (.istore_n 2, 1) := by decide +kernel
theorem dX10_laysCost_6 : decode cX10_laysCost 6 = .ok (.return_, 1) := by decide +kernel
set_option maxRecDepth 20000 in
theorem wp_X10_laysCost (E : En) (d : Nat) (a1 : Int32) (h : Hp) (P : Hp → Prop) (t : SpI E d MX10_bestField [.ref (eA E 63), .int a1] h (fun v1 h1 => P h1)) : SpV E (d + 1) MX10_laysCost [.ref (eA E 63), .int a1] h P := by
  refine SpV.of (lv0 := [(0, .ref (eA E 63)), (1, .int a1)]) (by decide) (Nat.le_of_ble_eq_true rfl) rfl (fun g => ?_)
  refine r_aload_n (q := 0) dX10_laysCost_0 rfl rfl ?_
  refine r_iload_n (q := 1) dX10_laysCost_1 rfl rfl ?_
  refine r_cVI (c := 63) (As := [.int a1]) dX10_laysCost_2 mkX10_bestField lkX10_236 lay_63 rfl rfl rfl (by decide) rfl (Nat.le_of_ble_eq_true rfl) z00 t ?_
  intro v1 h1 t
  refine r_istore_n (lv' := [(2, .int v1), (0, .ref (eA E 63)), (1, .int a1)]) dX10_laysCost_5 rfl (by decide) rfl ?_
  exact r_vret dX10_laysCost_6 rfl t
theorem dX10_laysAll_0 : decode cX10_laysAll 0 = .ok (.aload_n 0, 1) := by decide +kernel
theorem dX10_laysAll_1 : decode cX10_laysAll 1 = .ok (.iconst 0, 1) := by decide +kernel
theorem dX10_laysAll_2 : decode cX10_laysAll 2 = .ok (.putfield 174, 3) := by decide +kernel
theorem dX10_laysAll_5 : decode cX10_laysAll 5 = .ok (.aload_n 0, 1) := by decide +kernel
theorem dX10_laysAll_6 : decode cX10_laysAll 6 = .ok (.iconst 0, 1) := by decide +kernel
theorem dX10_laysAll_7 : decode cX10_laysAll 7 = .ok (.putfield 206, 3) := by decide +kernel
theorem dX10_laysAll_10 : decode cX10_laysAll 10 = .ok (.iconst 0, 1) := by decide +kernel
theorem dX10_laysAll_11 : decode cX10_laysAll 11 = .ok (.istore_n 1, 1) := by decide +kernel
theorem dX10_laysAll_12 : decode cX10_laysAll 12 = .ok (.iload_n 1, 1) := by decide +kernel
theorem dX10_laysAll_13 : decode cX10_laysAll 13 = .ok (.aload_n 0, 1) := by decide +kernel
theorem dX10_laysAll_14 : decode cX10_laysAll 14 = .ok (.getfield 121, 3) := by decide +kernel
theorem dX10_laysAll_17 : decode cX10_laysAll 17 = .ok (.if_icmp .ge 19, 3) := by decide +kernel
theorem dX10_laysAll_20 : decode cX10_laysAll 20 = .ok (.aload_n 0, 1) := by decide +kernel
theorem dX10_laysAll_21 : decode cX10_laysAll 21 = .ok (.iload_n 1, 1) := by decide +kernel
theorem dX10_laysAll_22 : decode cX10_laysAll 22 = .ok (.invokevirtual 239, 3) := by decide +kernel
theorem dX10_laysAll_25 : decode cX10_laysAll 25 = .ok (.aload_n 0, 1) := by decide +kernel
theorem dX10_laysAll_26 : decode cX10_laysAll 26 = .ok (.iload_n 1, 1) := by decide +kernel
theorem dX10_laysAll_27 : decode cX10_laysAll 27 = .ok (.invokevirtual 242, 3) := by decide +kernel
theorem dX10_laysAll_30 : decode cX10_laysAll 30 = .ok (.iinc 1 1, 3) := by decide +kernel
theorem dX10_laysAll_33 : decode cX10_laysAll 33 = .ok (.goto (-21), 3) := by decide +kernel
theorem dX10_laysAll_36 : decode cX10_laysAll 36 = .ok (.aload_n 0, 1) := by decide +kernel
theorem dX10_laysAll_37 : decode cX10_laysAll 37 = .ok (.invokevirtual 245, 3) := by decide +kernel
theorem dX10_laysAll_40 : decode cX10_laysAll 40 = .ok (.aload_n 0, 1) := by decide +kernel
theorem dX10_laysAll_41 : decode cX10_laysAll 41 = .ok (.iconst (-1), 1) := by decide +kernel
theorem dX10_laysAll_42 : decode cX10_laysAll 42 = .ok (.putfield 92, 3) := by decide +kernel
theorem dX10_laysAll_45 : decode cX10_laysAll 45 = .ok (.return_, 1) := by decide +kernel
abbrev VX10_laysAll_12 (E : En) (d : Nat) (g : Ga) (P : Hp → Prop) (x1 : Int32) (h : Hp) : Prop := V E MX10_laysAll (RM (d + 1) 0) g (QQ E g (QV E P) 0 0) 0 0 h 12 [(0, .ref (eA E 63)), (1, .int x1)] []
set_option maxRecDepth 20000 in
theorem wp_X10_laysAll (E : En) (d : Nat) (h : Hp) (P : Hp → Prop) (t : ∀ g : Ga, VX10_laysAll_12 E d g P (0 : Int32) (sI (sI h 63 21 (0 : Int32)) 63 26 (0 : Int32))) : SpV E (d + 1) MX10_laysAll [.ref (eA E 63)] h P := by
  refine SpV.of (lv0 := [(0, .ref (eA E 63))]) (by decide) (Nat.le_of_ble_eq_true rfl) rfl (fun g => ?_)
  have t := t g
  refine r_aload_n (q := 0) dX10_laysAll_0 rfl rfl ?_
  refine r_iconst (v := (0 : Int32)) dX10_laysAll_1 rfl ?_
  refine r_putI (c := 63) dX10_laysAll_2 flX10_174 lay_63 rfl ?_
  refine r_aload_n (q := 0) dX10_laysAll_5 rfl rfl ?_
  refine r_iconst (v := (0 : Int32)) dX10_laysAll_6 rfl ?_
  refine r_putI (c := 63) dX10_laysAll_7 flX10_206 lay_63 rfl ?_
  refine r_iconst (v := (0 : Int32)) dX10_laysAll_10 rfl ?_
  refine r_istore_n (lv' := [(1, .int (0 : Int32)), (0, .ref (eA E 63))]) dX10_laysAll_11 rfl (by decide) rfl ?_
  refine r_sub [1, 0] rfl ?_
  exact t
set_option maxRecDepth 20000 in
theorem sg_X10_laysAll_12 (E : En) (d : Nat) (g : Ga) (x1 : Int32) (h : Hp) (P : Hp → Prop) (t : ((h.1 63 2) ≤ x1 → (SpV E d MX10_laysFields [.ref (eA E 63)] h (fun h2 => P (sI h2 63 38 (-1 : Int32))))) ∧ (¬ (h.1 63 2) ≤ x1 → (SpV E d MX10_packs [.ref (eA E 63), .int x1] h (fun h3 => SpV E d MX10_stores [.ref (eA E 63), .int x1] h3 (fun h4 => VX10_laysAll_12 E d g P (x1 + (1 : Int32)) h4))))) : VX10_laysAll_12 E d g P x1 h := by
  refine r_iload_n (q := 1) dX10_laysAll_12 rfl rfl ?_
  refine r_aload_n (q := 0) dX10_laysAll_13 rfl rfl ?_
  refine r_getI (c := 63) dX10_laysAll_14 flX10_121 lay_63 rfl ?_
  refine r_icmp_ge (tgt := 36) dX10_laysAll_17 (by decide) (fun q1 => ?_) (fun q1 => ?_)
  · have t := t.1 q1
    refine r_aload_n (q := 0) dX10_laysAll_36 rfl rfl ?_
    refine r_cVV (c := 63) (As := []) dX10_laysAll_37 mkX10_laysFields lkX10_245 lay_63 rfl rfl rfl (by decide) rfl (Nat.le_of_ble_eq_true rfl) z00 t ?_
    intro h2 t
    refine r_aload_n (q := 0) dX10_laysAll_40 rfl rfl ?_
    refine r_iconst (v := (-1 : Int32)) dX10_laysAll_41 rfl ?_
    refine r_putI (c := 63) dX10_laysAll_42 flX10_92 lay_63 rfl ?_
    exact r_vret dX10_laysAll_45 rfl t
  · have t := t.2 q1
    refine r_aload_n (q := 0) dX10_laysAll_20 rfl rfl ?_
    refine r_iload_n (q := 1) dX10_laysAll_21 rfl rfl ?_
    refine r_cVV (c := 63) (As := [.int x1]) dX10_laysAll_22 mkX10_packs lkX10_239 lay_63 rfl rfl rfl (by decide) rfl (Nat.le_of_ble_eq_true rfl) z00 t ?_
    intro h3 t
    refine r_aload_n (q := 0) dX10_laysAll_25 rfl rfl ?_
    refine r_iload_n (q := 1) dX10_laysAll_26 rfl rfl ?_
    refine r_cVV (c := 63) (As := [.int x1]) dX10_laysAll_27 mkX10_stores lkX10_242 lay_63 rfl rfl rfl (by decide) rfl (Nat.le_of_ble_eq_true rfl) z00 t ?_
    intro h4 t
    refine r_iinc (k := 1) (v := x1 + (1 : Int32)) (lv' := [(1, .int (x1 + (1 : Int32))), (0, .ref (eA E 63))]) dX10_laysAll_30 rfl rfl (by decide) rfl ?_
    refine r_goto (tgt := 12) dX10_laysAll_33 (by decide) ?_
    refine r_sub [1, 0] rfl ?_
    exact t
theorem dX10_keeps_0 : decode cX10_keeps 0 = .ok (.aload_n 0, 1) := by decide +kernel
theorem dX10_keeps_1 : decode cX10_keeps 1 = .ok (.getfield 248, 3) := by decide +kernel
theorem dX10_keeps_4 : decode cX10_keeps 4 = .ok (.bipush 8, 2) := by decide +kernel
theorem dX10_keeps_6 : decode cX10_keeps 6 = .ok (.if_icmp .ne 43, 3) := by decide +kernel
theorem dX10_keeps_9 : decode cX10_keeps 9 = .ok (.bipush 9, 2) := by decide +kernel
theorem dX10_keeps_11 : decode cX10_keeps 11 = .ok (.istore_n 1, 1) := by decide +kernel
theorem dX10_keeps_12 : decode cX10_keeps 12 = .ok (.iload_n 1, 1) := by decide +kernel
theorem dX10_keeps_13 : decode cX10_keeps 13 = .ok (.bipush 72, 2) := by decide +kernel
theorem dX10_keeps_15 : decode cX10_keeps 15 = .ok (.if_icmp .ge 24, 3) := by decide +kernel
theorem dX10_keeps_18 : decode cX10_keeps 18 = .ok (.aload_n 0, 1) := by decide +kernel
theorem dX10_keeps_19 : decode cX10_keeps 19 = .ok (.getfield 77, 3) := by decide +kernel
theorem dX10_keeps_22 : decode cX10_keeps 22 = .ok (.iload_n 1, 1) := by decide +kernel
theorem dX10_keeps_23 : decode cX10_keeps 23 = .ok (.bipush 9, 2) := by decide +kernel
theorem dX10_keeps_25 : decode cX10_keeps 25 = .ok (.isub, 1) := by decide +kernel
theorem dX10_keeps_26 : decode cX10_keeps 26 = .ok (.aload_n 0, 1) := by decide +kernel
theorem dX10_keeps_27 : decode cX10_keeps 27 = .ok (.getfield 77, 3) := by decide +kernel
theorem dX10_keeps_30 : decode cX10_keeps 30 = .ok (.iload_n 1, 1) := by decide +kernel
theorem dX10_keeps_31 : decode cX10_keeps 31 = .ok (.iaload, 1) := by decide +kernel
theorem dX10_keeps_32 : decode cX10_keeps 32 = .ok (.iastore, 1) := by decide +kernel
theorem dX10_keeps_33 : decode cX10_keeps 33 = .ok (.iinc 1 1, 3) := by decide +kernel
theorem dX10_keeps_36 : decode cX10_keeps 36 = .ok (.goto (-24), 3) := by decide +kernel
theorem dX10_keeps_39 : decode cX10_keeps 39 = .ok (.aload_n 0, 1) := by decide +kernel
theorem dX10_keeps_40 : decode cX10_keeps 40 = .ok (.dup, 1) := by decide +kernel
theorem dX10_keeps_41 : decode cX10_keeps 41 = .ok (.getfield 248, 3) := by decide +kernel
theorem dX10_keeps_44 : decode cX10_keeps 44 = .ok (.iconst 1, 1) := by decide +kernel
theorem dX10_keeps_45 : decode cX10_keeps 45 = .ok (.isub, 1) := by decide +kernel
theorem dX10_keeps_46 : decode cX10_keeps 46 = .ok (.putfield 248, 3) := by decide +kernel
theorem dX10_keeps_49 : decode cX10_keeps 49 = .ok (.iconst 0, 1) := by decide +kernel
theorem dX10_keeps_50 : decode cX10_keeps 50 = .ok (.istore_n 1, 1) := by decide +kernel
theorem dX10_keeps_51 : decode cX10_keeps 51 = .ok (.iload_n 1, 1) := by decide +kernel
theorem dX10_keeps_52 : decode cX10_keeps 52 = .ok (.bipush 9, 2) := by decide +kernel
theorem dX10_keeps_54 : decode cX10_keeps 54 = .ok (.if_icmp .ge 29, 3) := by decide +kernel
theorem dX10_keeps_57 : decode cX10_keeps 57 = .ok (.aload_n 0, 1) := by decide +kernel
theorem dX10_keeps_58 : decode cX10_keeps 58 = .ok (.getfield 77, 3) := by decide +kernel
theorem dX10_keeps_61 : decode cX10_keeps 61 = .ok (.bipush 9, 2) := by decide +kernel
theorem dX10_keeps_63 : decode cX10_keeps 63 = .ok (.aload_n 0, 1) := by decide +kernel
theorem dX10_keeps_64 : decode cX10_keeps 64 = .ok (.getfield 248, 3) := by decide +kernel
theorem dX10_keeps_67 : decode cX10_keeps 67 = .ok (.imul, 1) := by decide +kernel
theorem dX10_keeps_68 : decode cX10_keeps 68 = .ok (.iload_n 1, 1) := by decide +kernel
theorem dX10_keeps_69 : decode cX10_keeps 69 = .ok (.iadd, 1) := by decide +kernel
theorem dX10_keeps_70 : decode cX10_keeps 70 = .ok (.aload_n 0, 1) := by decide +kernel
theorem dX10_keeps_71 : decode cX10_keeps 71 = .ok (.getfield 22, 3) := by decide +kernel
theorem dX10_keeps_74 : decode cX10_keeps 74 = .ok (.iload_n 1, 1) := by decide +kernel
theorem dX10_keeps_75 : decode cX10_keeps 75 = .ok (.iaload, 1) := by decide +kernel
theorem dX10_keeps_76 : decode cX10_keeps 76 = .ok (.iastore, 1) := by decide +kernel
theorem dX10_keeps_77 : decode cX10_keeps 77 = .ok (.iinc 1 1, 3) := by decide +kernel
theorem dX10_keeps_80 : decode cX10_keeps 80 = .ok (.goto (-29), 3) := by decide +kernel
theorem dX10_keeps_83 : decode cX10_keeps 83 = .ok (.aload_n 0, 1) := by decide +kernel
theorem dX10_keeps_84 : decode cX10_keeps 84 = .ok (.dup, 1) := by decide +kernel
theorem dX10_keeps_85 : decode cX10_keeps 85 = .ok (.getfield 248, 3) := by decide +kernel
theorem dX10_keeps_88 : decode cX10_keeps 88 = .ok (.iconst 1, 1) := by decide +kernel
theorem dX10_keeps_89 : decode cX10_keeps 89 = .ok (.iadd, 1) := by decide +kernel
theorem dX10_keeps_90 : decode cX10_keeps 90 = .ok (.putfield 248, 3) := by decide +kernel
theorem dX10_keeps_93 : decode cX10_keeps 93 = .ok (.return_, 1) := by decide +kernel
abbrev VX10_keeps_12 (E : En) (d : Nat) (g : Ga) (P : Hp → Prop) (x1 : Int32) (h : Hp) : Prop := V E MX10_keeps (RM d 0) g (QQ E g (QV E P) 0 0) 0 0 h 12 [(0, .ref (eA E 63)), (1, .int x1)] []
abbrev VX10_keeps_51 (E : En) (d : Nat) (g : Ga) (P : Hp → Prop) (x1 : Int32) (h : Hp) : Prop := V E MX10_keeps (RM d 0) g (QQ E g (QV E P) 0 0) 0 0 h 51 [(0, .ref (eA E 63)), (1, .int x1)] []
set_option maxRecDepth 20000 in
theorem wp_X10_keeps (E : En) (d : Nat) (h : Hp) (P : Hp → Prop) (t : ∀ g : Ga, (¬ (h.1 63 33) = (8 : Int32) → (VX10_keeps_51 E d g P (0 : Int32) h)) ∧ ((h.1 63 33) = (8 : Int32) → (VX10_keeps_12 E d g P (9 : Int32) h))) : SpV E d MX10_keeps [.ref (eA E 63)] h P := by
  refine SpV.of (lv0 := [(0, .ref (eA E 63))]) (by decide) (Nat.le_of_ble_eq_true rfl) rfl (fun g => ?_)
  have t := t g
  refine r_aload_n (q := 0) dX10_keeps_0 rfl rfl ?_
  refine r_getI (c := 63) dX10_keeps_1 flX10_248 lay_63 rfl ?_
  refine r_bipush (v := (8 : Int32)) dX10_keeps_4 rfl ?_
  refine r_icmp_ne (tgt := 49) dX10_keeps_6 (by decide) (fun q1 => ?_) (fun q1 => ?_)
  · have t := t.1 q1
    refine r_iconst (v := (0 : Int32)) dX10_keeps_49 rfl ?_
    refine r_istore_n (lv' := [(1, .int (0 : Int32)), (0, .ref (eA E 63))]) dX10_keeps_50 rfl (by decide) rfl ?_
    refine r_sub [1, 0] rfl ?_
    exact t
  · have t := t.2 q1
    refine r_bipush (v := (9 : Int32)) dX10_keeps_9 rfl ?_
    refine r_istore_n (lv' := [(1, .int (9 : Int32)), (0, .ref (eA E 63))]) dX10_keeps_11 rfl (by decide) rfl ?_
    refine r_sub [1, 0] rfl ?_
    exact t
set_option maxRecDepth 20000 in
theorem sg_X10_keeps_12 (E : En) (d : Nat) (g : Ga) (x1 : Int32) (h : Hp) (P : Hp → Prop) (t : ((72 : Int32) ≤ x1 → (VX10_keeps_51 E d g P (0 : Int32) (sI h 63 33 ((h.1 63 33) - (1 : Int32))))) ∧ (¬ (72 : Int32) ≤ x1 → (vp_in x1 72 ∧ (vp_in (x1 - (9 : Int32)) 72 ∧ (VX10_keeps_12 E d g P (x1 + (1 : Int32)) (sI h 86 ((x1 - (9 : Int32)).toNatClampNeg) (h.1 86 x1.toNatClampNeg))))))) : VX10_keeps_12 E d g P x1 h := by
  refine r_iload_n (q := 1) dX10_keeps_12 rfl rfl ?_
  refine r_bipush (v := (72 : Int32)) dX10_keeps_13 rfl ?_
  refine r_icmp_ge (tgt := 39) dX10_keeps_15 (by decide) (fun q1 => ?_) (fun q1 => ?_)
  · have t := t.1 q1
    refine r_aload_n (q := 0) dX10_keeps_39 rfl rfl ?_
    refine r_dup dX10_keeps_40 rfl ?_
    refine r_getI (c := 63) dX10_keeps_41 flX10_248 lay_63 rfl ?_
    refine r_iconst (v := (1 : Int32)) dX10_keeps_44 rfl ?_
    refine r_isub dX10_keeps_45 ?_
    refine r_putI (c := 63) dX10_keeps_46 flX10_248 lay_63 rfl ?_
    refine r_iconst (v := (0 : Int32)) dX10_keeps_49 rfl ?_
    refine r_istore_n (lv' := [(1, .int (0 : Int32)), (0, .ref (eA E 63))]) dX10_keeps_50 rfl (by decide) rfl ?_
    refine r_sub [1, 0] rfl ?_
    exact t
  · have t := t.2 q1
    refine r_aload_n (q := 0) dX10_keeps_18 rfl rfl ?_
    refine r_getR (c := 63) (c2 := 86) dX10_keeps_19 flX10_77 lay_63 rfl ?_
    refine r_iload_n (q := 1) dX10_keeps_22 rfl rfl ?_
    refine r_bipush (v := (9 : Int32)) dX10_keeps_23 rfl ?_
    refine r_isub dX10_keeps_25 ?_
    refine r_aload_n (q := 0) dX10_keeps_26 rfl rfl ?_
    refine r_getR (c := 63) (c2 := 86) dX10_keeps_27 flX10_77 lay_63 rfl ?_
    refine r_iload_n (q := 1) dX10_keeps_30 rfl rfl ?_
    obtain ⟨c2, t⟩ := t
    refine r_iald (c := 86) dX10_keeps_31 lay_86 c2 ?_
    obtain ⟨c3, t⟩ := t
    refine r_iast (c := 86) dX10_keeps_32 lay_86 c3 ?_
    refine r_iinc (k := 1) (v := x1 + (1 : Int32)) (lv' := [(1, .int (x1 + (1 : Int32))), (0, .ref (eA E 63))]) dX10_keeps_33 rfl rfl (by decide) rfl ?_
    refine r_goto (tgt := 12) dX10_keeps_36 (by decide) ?_
    refine r_sub [1, 0] rfl ?_
    exact t
set_option maxRecDepth 20000 in
theorem sg_X10_keeps_51 (E : En) (d : Nat) (g : Ga) (x1 : Int32) (h : Hp) (P : Hp → Prop) (t : ((9 : Int32) ≤ x1 → (P (sI h 63 33 ((h.1 63 33) + (1 : Int32))))) ∧ (¬ (9 : Int32) ≤ x1 → (vp_in x1 9 ∧ (vp_in (((9 : Int32) * (h.1 63 33)) + x1) 72 ∧ (VX10_keeps_51 E d g P (x1 + (1 : Int32)) (sI h 86 ((((9 : Int32) * (h.1 63 33)) + x1).toNatClampNeg) (h.1 68 x1.toNatClampNeg))))))) : VX10_keeps_51 E d g P x1 h := by
  refine r_iload_n (q := 1) dX10_keeps_51 rfl rfl ?_
  refine r_bipush (v := (9 : Int32)) dX10_keeps_52 rfl ?_
  refine r_icmp_ge (tgt := 83) dX10_keeps_54 (by decide) (fun q1 => ?_) (fun q1 => ?_)
  · have t := t.1 q1
    refine r_aload_n (q := 0) dX10_keeps_83 rfl rfl ?_
    refine r_dup dX10_keeps_84 rfl ?_
    refine r_getI (c := 63) dX10_keeps_85 flX10_248 lay_63 rfl ?_
    refine r_iconst (v := (1 : Int32)) dX10_keeps_88 rfl ?_
    refine r_iadd dX10_keeps_89 ?_
    refine r_putI (c := 63) dX10_keeps_90 flX10_248 lay_63 rfl ?_
    exact r_vret dX10_keeps_93 rfl t
  · have t := t.2 q1
    refine r_aload_n (q := 0) dX10_keeps_57 rfl rfl ?_
    refine r_getR (c := 63) (c2 := 86) dX10_keeps_58 flX10_77 lay_63 rfl ?_
    refine r_bipush (v := (9 : Int32)) dX10_keeps_61 rfl ?_
    refine r_aload_n (q := 0) dX10_keeps_63 rfl rfl ?_
    refine r_getI (c := 63) dX10_keeps_64 flX10_248 lay_63 rfl ?_
    refine r_imul dX10_keeps_67 ?_
    refine r_iload_n (q := 1) dX10_keeps_68 rfl rfl ?_
    refine r_iadd dX10_keeps_69 ?_
    refine r_aload_n (q := 0) dX10_keeps_70 rfl rfl ?_
    refine r_getR (c := 63) (c2 := 68) dX10_keeps_71 flX10_22 lay_63 rfl ?_
    refine r_iload_n (q := 1) dX10_keeps_74 rfl rfl ?_
    obtain ⟨c2, t⟩ := t
    refine r_iald (c := 68) dX10_keeps_75 lay_68 c2 ?_
    obtain ⟨c3, t⟩ := t
    refine r_iast (c := 86) dX10_keeps_76 lay_86 c3 ?_
    refine r_iinc (k := 1) (v := x1 + (1 : Int32)) (lv' := [(1, .int (x1 + (1 : Int32))), (0, .ref (eA E 63))]) dX10_keeps_77 rfl rfl (by decide) rfl ?_
    refine r_goto (tgt := 51) dX10_keeps_80 (by decide) ?_
    refine r_sub [1, 0] rfl ?_
    exact t
theorem dX10_setMode_0 : decode cX10_setMode 0 = .ok (.aload_n 0, 1) := by decide +kernel
theorem dX10_setMode_1 : decode cX10_setMode 1 = .ok (.iload_n 1, 1) := by decide +kernel
theorem dX10_setMode_2 : decode cX10_setMode 2 = .ok (.iconst 0, 1) := by decide +kernel
theorem dX10_setMode_3 : decode cX10_setMode 3 = .ok (.iconst 2, 1) := by decide +kernel
theorem dX10_setMode_4 : decode cX10_setMode 4 = .ok (.invokestatic 124, 3) := by decide +kernel
theorem dX10_setMode_7 : decode cX10_setMode 7 = .ok (.ifCond .eq 7, 3) := by decide +kernel
theorem dX10_setMode_10 : decode cX10_setMode 10 = .ok (.iconst 0, 1) := by decide +kernel
theorem dX10_setMode_11 : decode cX10_setMode 11 = .ok (.goto 4, 3) := by decide +kernel
theorem dX10_setMode_14 : decode cX10_setMode 14 = .ok (.iconst 1, 1) := by decide +kernel
theorem dX10_setMode_15 : decode cX10_setMode 15 = .ok (.invokevirtual 147, 3) := by decide +kernel
theorem dX10_setMode_18 : decode cX10_setMode 18 = .ok (.ifCond .eq 5, 3) := by decide +kernel
theorem dX10_setMode_21 : decode cX10_setMode 21 = .ok (.iconst 0, 1) := by decide +kernel
theorem dX10_setMode_22 : decode cX10_setMode 22 = .ok (.ireturn, 1) := by decide +kernel
theorem dX10_setMode_23 : decode cX10_setMode 23 = .ok (.aload_n 0, 1) := by decide +kernel
theorem dX10_setMode_24 : decode cX10_setMode 24 = .ok (.invokevirtual 251, 3) := by decide +kernel
theorem dX10_setMode_27 : decode cX10_setMode 27 = .ok (.aload_n 0, 1) := by decide +kernel
theorem dX10_setMode_28 : decode cX10_setMode 28 = .ok (.getfield 22, 3) := by decide +kernel
theorem dX10_setMode_31 : decode cX10_setMode 31 = .ok (.iconst 0, 1) := by decide +kernel
theorem dX10_setMode_32 : decode cX10_setMode 32 = .ok (.iload_n 1, 1) := by decide +kernel
theorem dX10_setMode_33 : decode cX10_setMode 33 = .ok (.iastore, 1) := by decide +kernel
theorem dX10_setMode_34 : decode cX10_setMode 34 = .ok (.aload_n 0, 1) := by decide +kernel
theorem dX10_setMode_35 : decode cX10_setMode 35 = .ok (.invokevirtual 254, 3) := by decide +kernel
theorem dX10_setMode_38 : decode cX10_setMode 38 = .ok (.aload_n 0, 1) := by decide +kernel
theorem dX10_setMode_39 : decode cX10_setMode 39 = .ok (.getfield 206, 3) := by decide +kernel
theorem dX10_setMode_42 : decode cX10_setMode 42 = .ok (.ireturn, 1) := by decide +kernel
set_option maxRecDepth 20000 in
theorem wp_X10_setMode (E : En) (d : Nat) (a1 : Int32) (h : Hp) (P : Int32 → Hp → Prop) (t : SpI E d MX10_isIn [.int a1, .int (0 : Int32), .int (2 : Int32)] h (fun v1 h1 => (v1 = 0 → (SpI E d MX10_throwsAs [.ref (eA E 63), .int (1 : Int32)] h1 (fun v3 h3 => (v3 = 0 → (SpV E d MX10_keeps [.ref (eA E 63)] h3 (fun h5 => vp_in (0 : Int32) 9 ∧ (SpV E d MX10_laysAll [.ref (eA E 63)] (sI h5 68 ((0 : Int32).toNatClampNeg) a1) (fun h7 => P (h7.1 63 26) h7))))) ∧ (¬ v3 = 0 → (P (0 : Int32) h3))))) ∧ (¬ v1 = 0 → (SpI E d MX10_throwsAs [.ref (eA E 63), .int (0 : Int32)] h1 (fun v8 h8 => (v8 = 0 → (SpV E d MX10_keeps [.ref (eA E 63)] h8 (fun h10 => vp_in (0 : Int32) 9 ∧ (SpV E d MX10_laysAll [.ref (eA E 63)] (sI h10 68 ((0 : Int32).toNatClampNeg) a1) (fun h12 => P (h12.1 63 26) h12))))) ∧ (¬ v8 = 0 → (P (0 : Int32) h8))))))) : SpI E (d + 1) MX10_setMode [.ref (eA E 63), .int a1] h P := by
  refine SpI.of (lv0 := [(0, .ref (eA E 63)), (1, .int a1)]) (by decide) (Nat.le_of_ble_eq_true rfl) rfl (fun g => ?_)
  refine r_aload_n (q := 0) dX10_setMode_0 rfl rfl ?_
  refine r_iload_n (q := 1) dX10_setMode_1 rfl rfl ?_
  refine r_iconst (v := (0 : Int32)) dX10_setMode_2 rfl ?_
  refine r_iconst (v := (2 : Int32)) dX10_setMode_3 rfl ?_
  refine r_cSI (As := [.int a1, .int (0 : Int32), .int (2 : Int32)]) dX10_setMode_4 mkX10_isIn lkX10_124 rfl (by decide) rfl (Nat.le_of_ble_eq_true rfl) z00 t ?_
  intro v1 h1 t
  refine r_if_eq (tgt := 14) dX10_setMode_7 (by decide) (fun q2 => ?_) (fun q2 => ?_)
  · have t := t.1 q2
    refine r_iconst (v := (1 : Int32)) dX10_setMode_14 rfl ?_
    refine r_cVI (c := 63) (As := [.int (1 : Int32)]) dX10_setMode_15 mkX10_throwsAs lkX10_147 lay_63 rfl rfl rfl (by decide) rfl (Nat.le_of_ble_eq_true rfl) z00 t ?_
    intro v3 h3 t
    refine r_if_eq (tgt := 23) dX10_setMode_18 (by decide) (fun q4 => ?_) (fun q4 => ?_)
    · have t := t.1 q4
      refine r_aload_n (q := 0) dX10_setMode_23 rfl rfl ?_
      refine r_cVV (c := 63) (As := []) dX10_setMode_24 mkX10_keeps lkX10_251 lay_63 rfl rfl rfl (by decide) rfl (Nat.le_of_ble_eq_true rfl) z00 t ?_
      intro h5 t
      refine r_aload_n (q := 0) dX10_setMode_27 rfl rfl ?_
      refine r_getR (c := 63) (c2 := 68) dX10_setMode_28 flX10_22 lay_63 rfl ?_
      refine r_iconst (v := (0 : Int32)) dX10_setMode_31 rfl ?_
      refine r_iload_n (q := 1) dX10_setMode_32 rfl rfl ?_
      obtain ⟨c6, t⟩ := t
      refine r_iast (c := 68) dX10_setMode_33 lay_68 c6 ?_
      refine r_aload_n (q := 0) dX10_setMode_34 rfl rfl ?_
      refine r_cVV (c := 63) (As := []) dX10_setMode_35 mkX10_laysAll lkX10_254 lay_63 rfl rfl rfl (by decide) rfl (Nat.le_of_ble_eq_true rfl) z00 t ?_
      intro h7 t
      refine r_aload_n (q := 0) dX10_setMode_38 rfl rfl ?_
      refine r_getI (c := 63) dX10_setMode_39 flX10_206 lay_63 rfl ?_
      exact r_iret dX10_setMode_42 rfl t
    · have t := t.2 q4
      refine r_iconst (v := (0 : Int32)) dX10_setMode_21 rfl ?_
      exact r_iret dX10_setMode_22 rfl t
  · have t := t.2 q2
    refine r_iconst (v := (0 : Int32)) dX10_setMode_10 rfl ?_
    refine r_goto (tgt := 15) dX10_setMode_11 (by decide) ?_
    refine r_cVI (c := 63) (As := [.int (0 : Int32)]) dX10_setMode_15 mkX10_throwsAs lkX10_147 lay_63 rfl rfl rfl (by decide) rfl (Nat.le_of_ble_eq_true rfl) z00 t ?_
    intro v8 h8 t
    refine r_if_eq (tgt := 23) dX10_setMode_18 (by decide) (fun q9 => ?_) (fun q9 => ?_)
    · have t := t.1 q9
      refine r_aload_n (q := 0) dX10_setMode_23 rfl rfl ?_
      refine r_cVV (c := 63) (As := []) dX10_setMode_24 mkX10_keeps lkX10_251 lay_63 rfl rfl rfl (by decide) rfl (Nat.le_of_ble_eq_true rfl) z00 t ?_
      intro h10 t
      refine r_aload_n (q := 0) dX10_setMode_27 rfl rfl ?_
      refine r_getR (c := 63) (c2 := 68) dX10_setMode_28 flX10_22 lay_63 rfl ?_
      refine r_iconst (v := (0 : Int32)) dX10_setMode_31 rfl ?_
      refine r_iload_n (q := 1) dX10_setMode_32 rfl rfl ?_
      obtain ⟨c11, t⟩ := t
      refine r_iast (c := 68) dX10_setMode_33 lay_68 c11 ?_
      refine r_aload_n (q := 0) dX10_setMode_34 rfl rfl ?_
      refine r_cVV (c := 63) (As := []) dX10_setMode_35 mkX10_laysAll lkX10_254 lay_63 rfl rfl rfl (by decide) rfl (Nat.le_of_ble_eq_true rfl) z00 t ?_
      intro h12 t
      refine r_aload_n (q := 0) dX10_setMode_38 rfl rfl ?_
      refine r_getI (c := 63) dX10_setMode_39 flX10_206 lay_63 rfl ?_
      exact r_iret dX10_setMode_42 rfl t
    · have t := t.2 q9
      refine r_iconst (v := (0 : Int32)) dX10_setMode_21 rfl ?_
      exact r_iret dX10_setMode_22 rfl t
theorem dX10_mode_0 : decode cX10_mode 0 = .ok (.aload_n 0, 1) := by decide +kernel
theorem dX10_mode_1 : decode cX10_mode 1 = .ok (.iconst 0, 1) := by decide +kernel
theorem dX10_mode_2 : decode cX10_mode 2 = .ok (.putfield 118, 3) := by decide +kernel
theorem dX10_mode_5 : decode cX10_mode 5 = .ok (.aload_n 0, 1) := by decide +kernel
theorem dX10_mode_6 : decode cX10_mode 6 = .ok (.getfield 22, 3) := by decide +kernel
theorem dX10_mode_9 : decode cX10_mode 9 = .ok (.iconst 0, 1) := by decide +kernel
theorem dX10_mode_10 : decode cX10_mode 10 = .ok (.iaload, 1) := by decide +kernel
theorem dX10_mode_11 : decode cX10_mode 11 = .ok (.ireturn, 1) := by decide +kernel
set_option maxRecDepth 20000 in
theorem wp_X10_mode (E : En) (d : Nat) (h : Hp) (P : Int32 → Hp → Prop) (t : vp_in (0 : Int32) 9 ∧ (P (h.1 68 ((0 : Int32).toNatClampNeg)) (sI h 63 0 (0 : Int32)))) : SpI E d MX10_mode [.ref (eA E 63)] h P := by
  refine SpI.of (lv0 := [(0, .ref (eA E 63))]) (by decide) (Nat.le_of_ble_eq_true rfl) rfl (fun g => ?_)
  refine r_aload_n (q := 0) dX10_mode_0 rfl rfl ?_
  refine r_iconst (v := (0 : Int32)) dX10_mode_1 rfl ?_
  refine r_putI (c := 63) dX10_mode_2 flX10_118 lay_63 rfl ?_
  refine r_aload_n (q := 0) dX10_mode_5 rfl rfl ?_
  refine r_getR (c := 63) (c2 := 68) dX10_mode_6 flX10_22 lay_63 rfl ?_
  refine r_iconst (v := (0 : Int32)) dX10_mode_9 rfl ?_
  obtain ⟨c1, t⟩ := t
  refine r_ialdv (c := 68) (v := h.1 68 ((0 : Int32).toNatClampNeg)) dX10_mode_10 lay_68 c1 rfl ?_
  exact r_iret dX10_mode_11 rfl t
theorem dX10_longestSegment_0 : decode cX10_longestSegment 0 = .ok (.iconst 0, 1) := by decide +kernel
theorem dX10_longestSegment_1 : decode cX10_longestSegment 1 = .ok (.istore_n 2, 1) := by decide +kernel
theorem dX10_longestSegment_2 : decode cX10_longestSegment 2 = .ok (.iconst 0, 1) := by decide +kernel
theorem dX10_longestSegment_3 : decode cX10_longestSegment 3 = .ok (.istore_n 3, 1) := by decide +kernel
theorem dX10_longestSegment_4 : decode cX10_longestSegment 4 = .ok (.iload_n 3, 1) := by decide +kernel
theorem dX10_longestSegment_5 : decode cX10_longestSegment 5 = .ok (.aload_n 0, 1) := by decide +kernel
theorem dX10_longestSegment_6 : decode cX10_longestSegment 6 = .ok (.getfield 16, 3) := by decide +kernel
theorem dX10_longestSegment_9 : decode cX10_longestSegment 9 = .ok (.iload_n 1, 1) := by decide +kernel
theorem dX10_longestSegment_10 : decode cX10_longestSegment 10 = .ok (.iaload, 1) := by decide +kernel
theorem dX10_longestSegment_11 : decode cX10_longestSegment 11 = .ok (.if_icmp .ge 26, 3) := by decide +kernel
theorem dX10_longestSegment_14 : decode cX10_longestSegment 14 = .ok (.iload_n 2, 1) := by decide +kernel
theorem dX10_longestSegment_15 : decode cX10_longestSegment 15 = .ok (.aload_n 0, 1) := by decide +kernel
theorem dX10_longestSegment_16 : decode cX10_longestSegment 16 = .ok (.iload_n 1, 1) := by decide +kernel
theorem dX10_longestSegment_17 : decode cX10_longestSegment 17 = .ok (.iload_n 3, 1) := by decide +kernel
theorem dX10_longestSegment_18 : decode cX10_longestSegment 18 = .ok (.invokevirtual 168, 3) := by decide +kernel
theorem dX10_longestSegment_21 : decode cX10_longestSegment 21 = .ok (.iload_n 3, 1) := by decide +kernel
theorem dX10_longestSegment_22 : decode cX10_longestSegment 22 = .ok (.isub, 1) := by decide +kernel
theorem dX10_longestSegment_23 : decode cX10_longestSegment 23 = .ok (.invokestatic 187, 3) := by decide +kernel
theorem dX10_longestSegment_26 : decode cX10_longestSegment 26 = .ok (.istore_n 2, 1) := by decide +kernel
theorem dX10_longestSegment_27 : decode cX10_longestSegment 27 = .ok (.aload_n 0, 1) := by decide +kernel
theorem dX10_longestSegment_28 : decode cX10_longestSegment 28 = .ok (.iload_n 1, 1) := by decide +kernel
theorem dX10_longestSegment_29 : decode cX10_longestSegment 29 = .ok (.iload_n 3, 1) := by decide +kernel
theorem dX10_longestSegment_30 : decode cX10_longestSegment 30 = .ok (.invokevirtual 168, 3) := by decide +kernel
theorem dX10_longestSegment_33 : decode cX10_longestSegment 33 = .ok (.istore_n 3, 1) := by decide +kernel
theorem dX10_longestSegment_34 : decode cX10_longestSegment 34 = .ok (.goto (-30), 3) := by decide +kernel
theorem dX10_longestSegment_37 : decode cX10_longestSegment 37 = .ok (.iload_n 2, 1) := by decide +kernel
theorem dX10_longestSegment_38 : decode cX10_longestSegment 38 = .ok (.ireturn, 1) := by decide +kernel
abbrev VX10_longestSegment_4 (E : En) (d : Nat) (g : Ga) (P : Int32 → Hp → Prop) (x1 : Int32) (x2 : Int32) (x3 : Int32) (h : Hp) : Prop := V E MX10_longestSegment (RM (d + 1) 0) g (QQ E g (QI E P) 0 0) 0 0 h 4 [(0, .ref (eA E 63)), (1, .int x1), (2, .int x2), (3, .int x3)] []
set_option maxRecDepth 20000 in
theorem wp_X10_longestSegment (E : En) (d : Nat) (a1 : Int32) (h : Hp) (P : Int32 → Hp → Prop) (t : ∀ g : Ga, VX10_longestSegment_4 E d g P a1 (0 : Int32) (0 : Int32) h) : SpI E (d + 1) MX10_longestSegment [.ref (eA E 63), .int a1] h P := by
  refine SpI.of (lv0 := [(0, .ref (eA E 63)), (1, .int a1)]) (by decide) (Nat.le_of_ble_eq_true rfl) rfl (fun g => ?_)
  have t := t g
  refine r_iconst (v := (0 : Int32)) dX10_longestSegment_0 rfl ?_
  refine r_istore_n (lv' := [(2, .int (0 : Int32)), (0, .ref (eA E 63)), (1, .int a1)]) dX10_longestSegment_1 rfl (by decide) rfl ?_
  refine r_iconst (v := (0 : Int32)) dX10_longestSegment_2 rfl ?_
  refine r_istore_n (lv' := [(3, .int (0 : Int32)), (2, .int (0 : Int32)), (0, .ref (eA E 63)), (1, .int a1)]) dX10_longestSegment_3 rfl (by decide) rfl ?_
  refine r_sub [2, 3, 1, 0] rfl ?_
  exact t
set_option maxRecDepth 20000 in
theorem sg_X10_longestSegment_4 (E : En) (d : Nat) (g : Ga) (x1 : Int32) (x2 : Int32) (x3 : Int32) (h : Hp) (P : Int32 → Hp → Prop) (t : vp_in x1 8 ∧ (((h.1 66 x1.toNatClampNeg) ≤ x3 → (P x2 h)) ∧ (¬ (h.1 66 x1.toNatClampNeg) ≤ x3 → (SpI E d MX10_behind [.ref (eA E 63), .int x1, .int x3] h (fun v3 h3 => SpI E d MX10_behind [.ref (eA E 63), .int x1, .int x3] h3 (fun v4 h4 => VX10_longestSegment_4 E d g P x1 (if x2 < (v3 - x3) then (v3 - x3) else x2) v4 h4)))))) : VX10_longestSegment_4 E d g P x1 x2 x3 h := by
  refine r_iload_n (q := 3) dX10_longestSegment_4 rfl rfl ?_
  refine r_aload_n (q := 0) dX10_longestSegment_5 rfl rfl ?_
  refine r_getR (c := 63) (c2 := 66) dX10_longestSegment_6 flX10_16 lay_63 rfl ?_
  refine r_iload_n (q := 1) dX10_longestSegment_9 rfl rfl ?_
  obtain ⟨c1, t⟩ := t
  refine r_iald (c := 66) dX10_longestSegment_10 lay_66 c1 ?_
  refine r_icmp_ge (tgt := 37) dX10_longestSegment_11 (by decide) (fun q2 => ?_) (fun q2 => ?_)
  · have t := t.1 q2
    refine r_iload_n (q := 2) dX10_longestSegment_37 rfl rfl ?_
    exact r_iret dX10_longestSegment_38 rfl t
  · have t := t.2 q2
    refine r_iload_n (q := 2) dX10_longestSegment_14 rfl rfl ?_
    refine r_aload_n (q := 0) dX10_longestSegment_15 rfl rfl ?_
    refine r_iload_n (q := 1) dX10_longestSegment_16 rfl rfl ?_
    refine r_iload_n (q := 3) dX10_longestSegment_17 rfl rfl ?_
    refine r_cVI (c := 63) (As := [.int x1, .int x3]) dX10_longestSegment_18 mkX10_behind lkX10_168 lay_63 rfl rfl rfl (by decide) rfl (Nat.le_of_ble_eq_true rfl) z00 t ?_
    intro v3 h3 t
    refine r_iload_n (q := 3) dX10_longestSegment_21 rfl rfl ?_
    refine r_isub dX10_longestSegment_22 ?_
    refine r_max dX10_longestSegment_23 lkX10_187 (Nat.le_of_ble_eq_true rfl) z00 ?_
    refine r_istore_n (lv' := [(2, .int (if x2 < (v3 - x3) then (v3 - x3) else x2)), (0, .ref (eA E 63)), (1, .int x1), (3, .int x3)]) dX10_longestSegment_26 rfl (by decide) rfl ?_
    refine r_aload_n (q := 1) dX10_longestSegment_27 rfl rfl ?_
    refine r_iload_n (q := 2) dX10_longestSegment_28 rfl rfl ?_
    refine r_iload_n (q := 3) dX10_longestSegment_29 rfl rfl ?_
    refine r_cVI (c := 63) (As := [.int x1, .int x3]) dX10_longestSegment_30 mkX10_behind lkX10_168 lay_63 rfl rfl rfl (by decide) rfl (Nat.le_of_ble_eq_true rfl) z00 t ?_
    intro v4 h4 t
    refine r_istore_n (lv' := [(3, .int v4), (2, .int (if x2 < (v3 - x3) then (v3 - x3) else x2)), (0, .ref (eA E 63)), (1, .int x1)]) dX10_longestSegment_33 rfl (by decide) rfl ?_
    refine r_goto (tgt := 4) dX10_longestSegment_34 (by decide) ?_
    refine r_sub [2, 3, 1, 0] rfl ?_
    exact t
theorem dX10_setMark_0 : decode cX10_setMark 0 = .ok (.aload_n 0, 1) := by decide +kernel
theorem dX10_setMark_1 : decode cX10_setMark 1 = .ok (.aload_n 0, 1) := by decide +kernel
theorem dX10_setMark_2 : decode cX10_setMark 2 = .ok (.iload_n 1, 1) := by decide +kernel
theorem dX10_setMark_3 : decode cX10_setMark 3 = .ok (.iload_n 2, 1) := by decide +kernel
theorem dX10_setMark_4 : decode cX10_setMark 4 = .ok (.invokevirtual 153, 3) := by decide +kernel
theorem dX10_setMark_7 : decode cX10_setMark 7 = .ok (.ifCond .eq 19, 3) := by decide +kernel
theorem dX10_setMark_10 : decode cX10_setMark 10 = .ok (.iload_n 2, 1) := by decide +kernel
theorem dX10_setMark_11 : decode cX10_setMark 11 = .ok (.aload_n 0, 1) := by decide +kernel
theorem dX10_setMark_12 : decode cX10_setMark 12 = .ok (.getfield 16, 3) := by decide +kernel
theorem dX10_setMark_15 : decode cX10_setMark 15 = .ok (.iload_n 1, 1) := by decide +kernel
theorem dX10_setMark_16 : decode cX10_setMark 16 = .ok (.iaload, 1) := by decide +kernel
theorem dX10_setMark_17 : decode cX10_setMark 17 = .ok (.iconst 1, 1) := by decide +kernel
theorem dX10_setMark_18 : decode cX10_setMark 18 = .ok (.isub, 1) := by decide +kernel
theorem dX10_setMark_19 : decode cX10_setMark 19 = .ok (.if_icmp .ge 7, 3) := by decide +kernel
theorem dX10_setMark_22 : decode cX10_setMark 22 = .ok (.iconst 0, 1) := by decide +kernel
theorem dX10_setMark_23 : decode cX10_setMark 23 = .ok (.goto 4, 3) := by decide +kernel
theorem dX10_setMark_26 : decode cX10_setMark 26 = .ok (.iconst 1, 1) := by decide +kernel
theorem dX10_setMark_27 : decode cX10_setMark 27 = .ok (.invokevirtual 147, 3) := by decide +kernel
theorem dX10_setMark_30 : decode cX10_setMark 30 = .ok (.ifCond .eq 5, 3) := by decide +kernel
theorem dX10_setMark_33 : decode cX10_setMark 33 = .ok (.iconst 0, 1) := by decide +kernel
theorem dX10_setMark_34 : decode cX10_setMark 34 = .ok (.ireturn, 1) := by decide +kernel
theorem dX10_setMark_35 : decode cX10_setMark 35 = .ok (.aload_n 0, 1) := by decide +kernel
theorem dX10_setMark_36 : decode cX10_setMark 36 = .ok (.getfield 22, 3) := by decide +kernel
theorem dX10_setMark_39 : decode cX10_setMark 39 = .ok (.iconst 1, 1) := by decide +kernel
theorem dX10_setMark_40 : decode cX10_setMark 40 = .ok (.iload_n 1, 1) := by decide +kernel
theorem dX10_setMark_41 : decode cX10_setMark 41 = .ok (.iadd, 1) := by decide +kernel
theorem dX10_setMark_42 : decode cX10_setMark 42 = .ok (.iaload, 1) := by decide +kernel
theorem dX10_setMark_43 : decode cX10_setMark 43 = .ok (.istore 4, 2) := by decide +kernel
theorem dX10_setMark_45 : decode cX10_setMark 45 = .ok (.iload_n 3, 1) := by decide +kernel
theorem dX10_setMark_46 : decode cX10_setMark 46 = .ok (.ifCond .eq 12, 3) := by decide +kernel
theorem dX10_setMark_49 : decode cX10_setMark 49 = .ok (.iload 4, 2) := by decide +kernel
theorem dX10_setMark_51 : decode cX10_setMark 51 = .ok (.iconst 1, 1) := by decide +kernel
theorem dX10_setMark_52 : decode cX10_setMark 52 = .ok (.iload_n 2, 1) := by decide +kernel
theorem dX10_setMark_53 : decode cX10_setMark 53 = .ok (.ishl, 1) := by decide +kernel
theorem dX10_setMark_54 : decode cX10_setMark 54 = .ok (.ior, 1) := by decide +kernel
theorem dX10_setMark_55 : decode cX10_setMark 55 = .ok (.goto 11, 3) := by decide +kernel
theorem dX10_setMark_58 : decode cX10_setMark 58 = .ok (.iload 4, 2) := by decide +kernel
theorem dX10_setMark_60 : decode cX10_setMark 60 = .ok (.iconst 1, 1) := by decide +kernel
theorem dX10_setMark_61 : decode cX10_setMark 61 = .ok (.iload_n 2, 1) := by decide +kernel
theorem dX10_setMark_62 : decode cX10_setMark 62 = .ok (.ishl, 1) := by decide +kernel
theorem dX10_setMark_63 : decode cX10_setMark 63 = .ok (.iconst (-1), 1) := by decide +kernel
theorem dX10_setMark_64 : decode cX10_setMark 64 = .ok (.ixor, 1) := by decide +kernel
theorem dX10_setMark_65 : decode cX10_setMark 65 = .ok (.iand, 1) := by decide +kernel
theorem dX10_setMark_66 : decode cX10_setMark 66 = .ok (.istore 5, 2) := by decide +kernel
theorem dX10_setMark_68 : decode cX10_setMark 68 = .ok (.aload_n 0, 1) := by decide +kernel
theorem dX10_setMark_69 : decode cX10_setMark 69 = .ok (.getfield 22, 3) := by decide +kernel
theorem dX10_setMark_72 : decode cX10_setMark 72 = .ok (.iconst 1, 1) := by decide +kernel
theorem dX10_setMark_73 : decode cX10_setMark 73 = .ok (.iload_n 1, 1) := by decide +kernel
theorem dX10_setMark_74 : decode cX10_setMark 74 = .ok (.iadd, 1) := by decide +kernel
theorem dX10_setMark_75 : decode cX10_setMark 75 = .ok (.iload 5, 2) := by decide +kernel
theorem dX10_setMark_77 : decode cX10_setMark 77 = .ok (.iastore, 1) := by decide +kernel
theorem dX10_setMark_78 : decode cX10_setMark 78 = .ok (.aload_n 0, 1) := by decide +kernel
theorem dX10_setMark_79 : decode cX10_setMark 79 = .ok (.iload_n 1, 1) := by decide +kernel
theorem dX10_setMark_80 : decode cX10_setMark 80 = .ok (.invokevirtual 257, 3) := by decide +kernel
theorem dX10_setMark_83 : decode cX10_setMark 83 = .ok (.bipush 10, 2) := by decide +kernel
theorem dX10_setMark_85 : decode cX10_setMark 85 = .ok (.if_icmp .le 7, 3) := by decide +kernel
theorem dX10_setMark_88 : decode cX10_setMark 88 = .ok (.iconst 1, 1) := by decide +kernel
theorem dX10_setMark_89 : decode cX10_setMark 89 = .ok (.goto 4, 3) := by decide +kernel
theorem dX10_setMark_92 : decode cX10_setMark 92 = .ok (.iconst 0, 1) := by decide +kernel
theorem dX10_setMark_93 : decode cX10_setMark 93 = .ok (.istore 6, 2) := by decide +kernel
theorem dX10_setMark_95 : decode cX10_setMark 95 = .ok (.aload_n 0, 1) := by decide +kernel
theorem dX10_setMark_96 : decode cX10_setMark 96 = .ok (.getfield 22, 3) := by decide +kernel
theorem dX10_setMark_99 : decode cX10_setMark 99 = .ok (.iconst 1, 1) := by decide +kernel
theorem dX10_setMark_100 : decode cX10_setMark 100 = .ok (.iload_n 1, 1) := by decide +kernel
theorem dX10_setMark_101 : decode cX10_setMark 101 = .ok (.iadd, 1) := by decide +kernel
theorem dX10_setMark_102 : decode cX10_setMark 102 = .ok (.iload 4, 2) := by decide +kernel
theorem dX10_setMark_104 : decode cX10_setMark 104 = .ok (.iastore, 1) := by decide +kernel
theorem dX10_setMark_105 : decode cX10_setMark 105 = .ok (.aload_n 0, 1) := by decide +kernel
theorem dX10_setMark_106 : decode cX10_setMark 106 = .ok (.iload 6, 2) := by decide +kernel
theorem dX10_setMark_108 : decode cX10_setMark 108 = .ok (.ifCond .eq 7, 3) := by decide +kernel
theorem dX10_setMark_111 : decode cX10_setMark 111 = .ok (.iconst 2, 1) := by decide +kernel
theorem dX10_setMark_112 : decode cX10_setMark 112 = .ok (.goto 4, 3) := by decide +kernel
theorem dX10_setMark_115 : decode cX10_setMark 115 = .ok (.iconst 0, 1) := by decide +kernel
theorem dX10_setMark_116 : decode cX10_setMark 116 = .ok (.invokevirtual 147, 3) := by decide +kernel
theorem dX10_setMark_119 : decode cX10_setMark 119 = .ok (.ifCond .eq 5, 3) := by decide +kernel
theorem dX10_setMark_122 : decode cX10_setMark 122 = .ok (.iconst 0, 1) := by decide +kernel
theorem dX10_setMark_123 : decode cX10_setMark 123 = .ok (.ireturn, 1) := by decide +kernel
theorem dX10_setMark_124 : decode cX10_setMark 124 = .ok (.aload_n 0, 1) := by decide +kernel
theorem dX10_setMark_125 : decode cX10_setMark 125 = .ok (.invokevirtual 251, 3) := by decide +kernel
theorem dX10_setMark_128 : decode cX10_setMark 128 = .ok (.aload_n 0, 1) := by decide +kernel
theorem dX10_setMark_129 : decode cX10_setMark 129 = .ok (.getfield 22, 3) := by decide +kernel
theorem dX10_setMark_132 : decode cX10_setMark 132 = .ok (.iconst 1, 1) := by decide +kernel
theorem dX10_setMark_133 : decode cX10_setMark 133 = .ok (.iload_n 1, 1) := by decide +kernel
theorem dX10_setMark_134 : decode cX10_setMark 134 = .ok (.iadd, 1) := by decide +kernel
theorem dX10_setMark_135 : decode cX10_setMark 135 = .ok (.iload 5, 2) := by decide +kernel
theorem dX10_setMark_137 : decode cX10_setMark 137 = .ok (.iastore, 1) := by decide +kernel
theorem dX10_setMark_138 : decode cX10_setMark 138 = .ok (.aload_n 0, 1) := by decide +kernel
theorem dX10_setMark_139 : decode cX10_setMark 139 = .ok (.invokevirtual 254, 3) := by decide +kernel
theorem dX10_setMark_142 : decode cX10_setMark 142 = .ok (.aload_n 0, 1) := by decide +kernel
theorem dX10_setMark_143 : decode cX10_setMark 143 = .ok (.getfield 206, 3) := by decide +kernel
theorem dX10_setMark_146 : decode cX10_setMark 146 = .ok (.ireturn, 1) := by decide +kernel
set_option maxRecDepth 20000 in
theorem wp_X10_setMark (E : En) (d : Nat) (a1 : Int32) (a2 : Int32) (a3 : Int32) (h : Hp) (P : Int32 → Hp → Prop) (t : SpI E d MX10_isAt [.ref (eA E 63), .int a1, .int a2] h (fun v1 h1 => (v1 = 0 → (SpI E d MX10_throwsAs [.ref (eA E 63), .int (1 : Int32)] h1 (fun v3 h3 => (v3 = 0 → (vp_in ((1 : Int32) + a1) 9 ∧ ((a3 = 0 → (vp_in ((1 : Int32) + a1) 9 ∧ (SpI E d MX10_longestSegment [.ref (eA E 63), .int a1] (sI h3 68 (((1 : Int32) + a1).toNatClampNeg) ((h3.1 68 (((1 : Int32) + a1).toNatClampNeg)) &&& (((1 : Int32) <<< (a2 &&& 31)) ^^^ (-1 : Int32)))) (fun v8 h8 => (v8 ≤ (10 : Int32) → (vp_in ((1 : Int32) + a1) 9 ∧ (((0 : Int32) = 0 → (SpI E d MX10_throwsAs [.ref (eA E 63), .int (0 : Int32)] (sI h8 68 (((1 : Int32) + a1).toNatClampNeg) (h3.1 68 (((1 : Int32) + a1).toNatClampNeg))) (fun v12 h12 => (v12 = 0 → (SpV E d MX10_keeps [.ref (eA E 63)] h12 (fun h14 => vp_in ((1 : Int32) + a1) 9 ∧ (SpV E d MX10_laysAll [.ref (eA E 63)] (sI h14 68 (((1 : Int32) + a1).toNatClampNeg) ((h3.1 68 (((1 : Int32) + a1).toNatClampNeg)) &&& (((1 : Int32) <<< (a2 &&& 31)) ^^^ (-1 : Int32)))) (fun h16 => P (h16.1 63 26) h16))))) ∧ (¬ v12 = 0 → (P (0 : Int32) h12))))) ∧ (¬ (0 : Int32) = 0 → (SpI E d MX10_throwsAs [.ref (eA E 63), .int (2 : Int32)] (sI h8 68 (((1 : Int32) + a1).toNatClampNeg) (h3.1 68 (((1 : Int32) + a1).toNatClampNeg))) (fun v17 h17 => (v17 = 0 → (SpV E d MX10_keeps [.ref (eA E 63)] h17 (fun h19 => vp_in ((1 : Int32) + a1) 9 ∧ (SpV E d MX10_laysAll [.ref (eA E 63)] (sI h19 68 (((1 : Int32) + a1).toNatClampNeg) ((h3.1 68 (((1 : Int32) + a1).toNatClampNeg)) &&& (((1 : Int32) <<< (a2 &&& 31)) ^^^ (-1 : Int32)))) (fun h21 => P (h21.1 63 26) h21))))) ∧ (¬ v17 = 0 → (P (0 : Int32) h17)))))))) ∧ (¬ v8 ≤ (10 : Int32) → (vp_in ((1 : Int32) + a1) 9 ∧ (((1 : Int32) = 0 → (SpI E d MX10_throwsAs [.ref (eA E 63), .int (0 : Int32)] (sI h8 68 (((1 : Int32) + a1).toNatClampNeg) (h3.1 68 (((1 : Int32) + a1).toNatClampNeg))) (fun v24 h24 => (v24 = 0 → (SpV E d MX10_keeps [.ref (eA E 63)] h24 (fun h26 => vp_in ((1 : Int32) + a1) 9 ∧ (SpV E d MX10_laysAll [.ref (eA E 63)] (sI h26 68 (((1 : Int32) + a1).toNatClampNeg) ((h3.1 68 (((1 : Int32) + a1).toNatClampNeg)) &&& (((1 : Int32) <<< (a2 &&& 31)) ^^^ (-1 : Int32)))) (fun h28 => P (h28.1 63 26) h28))))) ∧ (¬ v24 = 0 → (P (0 : Int32) h24))))) ∧ (¬ (1 : Int32) = 0 → (SpI E d MX10_throwsAs [.ref (eA E 63), .int (2 : Int32)] (sI h8 68 (((1 : Int32) + a1).toNatClampNeg) (h3.1 68 (((1 : Int32) + a1).toNatClampNeg))) (fun v29 h29 => (v29 = 0 → (SpV E d MX10_keeps [.ref (eA E 63)] h29 (fun h31 => vp_in ((1 : Int32) + a1) 9 ∧ (SpV E d MX10_laysAll [.ref (eA E 63)] (sI h31 68 (((1 : Int32) + a1).toNatClampNeg) ((h3.1 68 (((1 : Int32) + a1).toNatClampNeg)) &&& (((1 : Int32) <<< (a2 &&& 31)) ^^^ (-1 : Int32)))) (fun h33 => P (h33.1 63 26) h33))))) ∧ (¬ v29 = 0 → (P (0 : Int32) h29)))))))))))) ∧ (¬ a3 = 0 → (vp_in ((1 : Int32) + a1) 9 ∧ (SpI E d MX10_longestSegment [.ref (eA E 63), .int a1] (sI h3 68 (((1 : Int32) + a1).toNatClampNeg) ((h3.1 68 (((1 : Int32) + a1).toNatClampNeg)) ||| ((1 : Int32) <<< (a2 &&& 31)))) (fun v35 h35 => (v35 ≤ (10 : Int32) → (vp_in ((1 : Int32) + a1) 9 ∧ (((0 : Int32) = 0 → (SpI E d MX10_throwsAs [.ref (eA E 63), .int (0 : Int32)] (sI h35 68 (((1 : Int32) + a1).toNatClampNeg) (h3.1 68 (((1 : Int32) + a1).toNatClampNeg))) (fun v39 h39 => (v39 = 0 → (SpV E d MX10_keeps [.ref (eA E 63)] h39 (fun h41 => vp_in ((1 : Int32) + a1) 9 ∧ (SpV E d MX10_laysAll [.ref (eA E 63)] (sI h41 68 (((1 : Int32) + a1).toNatClampNeg) ((h3.1 68 (((1 : Int32) + a1).toNatClampNeg)) ||| ((1 : Int32) <<< (a2 &&& 31)))) (fun h43 => P (h43.1 63 26) h43))))) ∧ (¬ v39 = 0 → (P (0 : Int32) h39))))) ∧ (¬ (0 : Int32) = 0 → (SpI E d MX10_throwsAs [.ref (eA E 63), .int (2 : Int32)] (sI h35 68 (((1 : Int32) + a1).toNatClampNeg) (h3.1 68 (((1 : Int32) + a1).toNatClampNeg))) (fun v44 h44 => (v44 = 0 → (SpV E d MX10_keeps [.ref (eA E 63)] h44 (fun h46 => vp_in ((1 : Int32) + a1) 9 ∧ (SpV E d MX10_laysAll [.ref (eA E 63)] (sI h46 68 (((1 : Int32) + a1).toNatClampNeg) ((h3.1 68 (((1 : Int32) + a1).toNatClampNeg)) ||| ((1 : Int32) <<< (a2 &&& 31)))) (fun h48 => P (h48.1 63 26) h48))))) ∧ (¬ v44 = 0 → (P (0 : Int32) h44)))))))) ∧ (¬ v35 ≤ (10 : Int32) → (vp_in ((1 : Int32) + a1) 9 ∧ (((1 : Int32) = 0 → (SpI E d MX10_throwsAs [.ref (eA E 63), .int (0 : Int32)] (sI h35 68 (((1 : Int32) + a1).toNatClampNeg) (h3.1 68 (((1 : Int32) + a1).toNatClampNeg))) (fun v51 h51 => (v51 = 0 → (SpV E d MX10_keeps [.ref (eA E 63)] h51 (fun h53 => vp_in ((1 : Int32) + a1) 9 ∧ (SpV E d MX10_laysAll [.ref (eA E 63)] (sI h53 68 (((1 : Int32) + a1).toNatClampNeg) ((h3.1 68 (((1 : Int32) + a1).toNatClampNeg)) ||| ((1 : Int32) <<< (a2 &&& 31)))) (fun h55 => P (h55.1 63 26) h55))))) ∧ (¬ v51 = 0 → (P (0 : Int32) h51))))) ∧ (¬ (1 : Int32) = 0 → (SpI E d MX10_throwsAs [.ref (eA E 63), .int (2 : Int32)] (sI h35 68 (((1 : Int32) + a1).toNatClampNeg) (h3.1 68 (((1 : Int32) + a1).toNatClampNeg))) (fun v56 h56 => (v56 = 0 → (SpV E d MX10_keeps [.ref (eA E 63)] h56 (fun h58 => vp_in ((1 : Int32) + a1) 9 ∧ (SpV E d MX10_laysAll [.ref (eA E 63)] (sI h58 68 (((1 : Int32) + a1).toNatClampNeg) ((h3.1 68 (((1 : Int32) + a1).toNatClampNeg)) ||| ((1 : Int32) <<< (a2 &&& 31)))) (fun h60 => P (h60.1 63 26) h60))))) ∧ (¬ v56 = 0 → (P (0 : Int32) h56))))))))))))))) ∧ (¬ v3 = 0 → (P (0 : Int32) h3))))) ∧ (¬ v1 = 0 → (vp_in a1 8 ∧ ((((h1.1 66 a1.toNatClampNeg) - (1 : Int32)) ≤ a2 → (SpI E d MX10_throwsAs [.ref (eA E 63), .int (1 : Int32)] h1 (fun v63 h63 => (v63 = 0 → (vp_in ((1 : Int32) + a1) 9 ∧ ((a3 = 0 → (vp_in ((1 : Int32) + a1) 9 ∧ (SpI E d MX10_longestSegment [.ref (eA E 63), .int a1] (sI h63 68 (((1 : Int32) + a1).toNatClampNeg) ((h63.1 68 (((1 : Int32) + a1).toNatClampNeg)) &&& (((1 : Int32) <<< (a2 &&& 31)) ^^^ (-1 : Int32)))) (fun v68 h68 => (v68 ≤ (10 : Int32) → (vp_in ((1 : Int32) + a1) 9 ∧ (((0 : Int32) = 0 → (SpI E d MX10_throwsAs [.ref (eA E 63), .int (0 : Int32)] (sI h68 68 (((1 : Int32) + a1).toNatClampNeg) (h63.1 68 (((1 : Int32) + a1).toNatClampNeg))) (fun v72 h72 => (v72 = 0 → (SpV E d MX10_keeps [.ref (eA E 63)] h72 (fun h74 => vp_in ((1 : Int32) + a1) 9 ∧ (SpV E d MX10_laysAll [.ref (eA E 63)] (sI h74 68 (((1 : Int32) + a1).toNatClampNeg) ((h63.1 68 (((1 : Int32) + a1).toNatClampNeg)) &&& (((1 : Int32) <<< (a2 &&& 31)) ^^^ (-1 : Int32)))) (fun h76 => P (h76.1 63 26) h76))))) ∧ (¬ v72 = 0 → (P (0 : Int32) h72))))) ∧ (¬ (0 : Int32) = 0 → (SpI E d MX10_throwsAs [.ref (eA E 63), .int (2 : Int32)] (sI h68 68 (((1 : Int32) + a1).toNatClampNeg) (h63.1 68 (((1 : Int32) + a1).toNatClampNeg))) (fun v77 h77 => (v77 = 0 → (SpV E d MX10_keeps [.ref (eA E 63)] h77 (fun h79 => vp_in ((1 : Int32) + a1) 9 ∧ (SpV E d MX10_laysAll [.ref (eA E 63)] (sI h79 68 (((1 : Int32) + a1).toNatClampNeg) ((h63.1 68 (((1 : Int32) + a1).toNatClampNeg)) &&& (((1 : Int32) <<< (a2 &&& 31)) ^^^ (-1 : Int32)))) (fun h81 => P (h81.1 63 26) h81))))) ∧ (¬ v77 = 0 → (P (0 : Int32) h77)))))))) ∧ (¬ v68 ≤ (10 : Int32) → (vp_in ((1 : Int32) + a1) 9 ∧ (((1 : Int32) = 0 → (SpI E d MX10_throwsAs [.ref (eA E 63), .int (0 : Int32)] (sI h68 68 (((1 : Int32) + a1).toNatClampNeg) (h63.1 68 (((1 : Int32) + a1).toNatClampNeg))) (fun v84 h84 => (v84 = 0 → (SpV E d MX10_keeps [.ref (eA E 63)] h84 (fun h86 => vp_in ((1 : Int32) + a1) 9 ∧ (SpV E d MX10_laysAll [.ref (eA E 63)] (sI h86 68 (((1 : Int32) + a1).toNatClampNeg) ((h63.1 68 (((1 : Int32) + a1).toNatClampNeg)) &&& (((1 : Int32) <<< (a2 &&& 31)) ^^^ (-1 : Int32)))) (fun h88 => P (h88.1 63 26) h88))))) ∧ (¬ v84 = 0 → (P (0 : Int32) h84))))) ∧ (¬ (1 : Int32) = 0 → (SpI E d MX10_throwsAs [.ref (eA E 63), .int (2 : Int32)] (sI h68 68 (((1 : Int32) + a1).toNatClampNeg) (h63.1 68 (((1 : Int32) + a1).toNatClampNeg))) (fun v89 h89 => (v89 = 0 → (SpV E d MX10_keeps [.ref (eA E 63)] h89 (fun h91 => vp_in ((1 : Int32) + a1) 9 ∧ (SpV E d MX10_laysAll [.ref (eA E 63)] (sI h91 68 (((1 : Int32) + a1).toNatClampNeg) ((h63.1 68 (((1 : Int32) + a1).toNatClampNeg)) &&& (((1 : Int32) <<< (a2 &&& 31)) ^^^ (-1 : Int32)))) (fun h93 => P (h93.1 63 26) h93))))) ∧ (¬ v89 = 0 → (P (0 : Int32) h89)))))))))))) ∧ (¬ a3 = 0 → (vp_in ((1 : Int32) + a1) 9 ∧ (SpI E d MX10_longestSegment [.ref (eA E 63), .int a1] (sI h63 68 (((1 : Int32) + a1).toNatClampNeg) ((h63.1 68 (((1 : Int32) + a1).toNatClampNeg)) ||| ((1 : Int32) <<< (a2 &&& 31)))) (fun v95 h95 => (v95 ≤ (10 : Int32) → (vp_in ((1 : Int32) + a1) 9 ∧ (((0 : Int32) = 0 → (SpI E d MX10_throwsAs [.ref (eA E 63), .int (0 : Int32)] (sI h95 68 (((1 : Int32) + a1).toNatClampNeg) (h63.1 68 (((1 : Int32) + a1).toNatClampNeg))) (fun v99 h99 => (v99 = 0 → (SpV E d MX10_keeps [.ref (eA E 63)] h99 (fun h101 => vp_in ((1 : Int32) + a1) 9 ∧ (SpV E d MX10_laysAll [.ref (eA E 63)] (sI h101 68 (((1 : Int32) + a1).toNatClampNeg) ((h63.1 68 (((1 : Int32) + a1).toNatClampNeg)) ||| ((1 : Int32) <<< (a2 &&& 31)))) (fun h103 => P (h103.1 63 26) h103))))) ∧ (¬ v99 = 0 → (P (0 : Int32) h99))))) ∧ (¬ (0 : Int32) = 0 → (SpI E d MX10_throwsAs [.ref (eA E 63), .int (2 : Int32)] (sI h95 68 (((1 : Int32) + a1).toNatClampNeg) (h63.1 68 (((1 : Int32) + a1).toNatClampNeg))) (fun v104 h104 => (v104 = 0 → (SpV E d MX10_keeps [.ref (eA E 63)] h104 (fun h106 => vp_in ((1 : Int32) + a1) 9 ∧ (SpV E d MX10_laysAll [.ref (eA E 63)] (sI h106 68 (((1 : Int32) + a1).toNatClampNeg) ((h63.1 68 (((1 : Int32) + a1).toNatClampNeg)) ||| ((1 : Int32) <<< (a2 &&& 31)))) (fun h108 => P (h108.1 63 26) h108))))) ∧ (¬ v104 = 0 → (P (0 : Int32) h104)))))))) ∧ (¬ v95 ≤ (10 : Int32) → (vp_in ((1 : Int32) + a1) 9 ∧ (((1 : Int32) = 0 → (SpI E d MX10_throwsAs [.ref (eA E 63), .int (0 : Int32)] (sI h95 68 (((1 : Int32) + a1).toNatClampNeg) (h63.1 68 (((1 : Int32) + a1).toNatClampNeg))) (fun v111 h111 => (v111 = 0 → (SpV E d MX10_keeps [.ref (eA E 63)] h111 (fun h113 => vp_in ((1 : Int32) + a1) 9 ∧ (SpV E d MX10_laysAll [.ref (eA E 63)] (sI h113 68 (((1 : Int32) + a1).toNatClampNeg) ((h63.1 68 (((1 : Int32) + a1).toNatClampNeg)) ||| ((1 : Int32) <<< (a2 &&& 31)))) (fun h115 => P (h115.1 63 26) h115))))) ∧ (¬ v111 = 0 → (P (0 : Int32) h111))))) ∧ (¬ (1 : Int32) = 0 → (SpI E d MX10_throwsAs [.ref (eA E 63), .int (2 : Int32)] (sI h95 68 (((1 : Int32) + a1).toNatClampNeg) (h63.1 68 (((1 : Int32) + a1).toNatClampNeg))) (fun v116 h116 => (v116 = 0 → (SpV E d MX10_keeps [.ref (eA E 63)] h116 (fun h118 => vp_in ((1 : Int32) + a1) 9 ∧ (SpV E d MX10_laysAll [.ref (eA E 63)] (sI h118 68 (((1 : Int32) + a1).toNatClampNeg) ((h63.1 68 (((1 : Int32) + a1).toNatClampNeg)) ||| ((1 : Int32) <<< (a2 &&& 31)))) (fun h120 => P (h120.1 63 26) h120))))) ∧ (¬ v116 = 0 → (P (0 : Int32) h116))))))))))))))) ∧ (¬ v63 = 0 → (P (0 : Int32) h63))))) ∧ (¬ ((h1.1 66 a1.toNatClampNeg) - (1 : Int32)) ≤ a2 → (SpI E d MX10_throwsAs [.ref (eA E 63), .int (0 : Int32)] h1 (fun v121 h121 => (v121 = 0 → (vp_in ((1 : Int32) + a1) 9 ∧ ((a3 = 0 → (vp_in ((1 : Int32) + a1) 9 ∧ (SpI E d MX10_longestSegment [.ref (eA E 63), .int a1] (sI h121 68 (((1 : Int32) + a1).toNatClampNeg) ((h121.1 68 (((1 : Int32) + a1).toNatClampNeg)) &&& (((1 : Int32) <<< (a2 &&& 31)) ^^^ (-1 : Int32)))) (fun v126 h126 => (v126 ≤ (10 : Int32) → (vp_in ((1 : Int32) + a1) 9 ∧ (((0 : Int32) = 0 → (SpI E d MX10_throwsAs [.ref (eA E 63), .int (0 : Int32)] (sI h126 68 (((1 : Int32) + a1).toNatClampNeg) (h121.1 68 (((1 : Int32) + a1).toNatClampNeg))) (fun v130 h130 => (v130 = 0 → (SpV E d MX10_keeps [.ref (eA E 63)] h130 (fun h132 => vp_in ((1 : Int32) + a1) 9 ∧ (SpV E d MX10_laysAll [.ref (eA E 63)] (sI h132 68 (((1 : Int32) + a1).toNatClampNeg) ((h121.1 68 (((1 : Int32) + a1).toNatClampNeg)) &&& (((1 : Int32) <<< (a2 &&& 31)) ^^^ (-1 : Int32)))) (fun h134 => P (h134.1 63 26) h134))))) ∧ (¬ v130 = 0 → (P (0 : Int32) h130))))) ∧ (¬ (0 : Int32) = 0 → (SpI E d MX10_throwsAs [.ref (eA E 63), .int (2 : Int32)] (sI h126 68 (((1 : Int32) + a1).toNatClampNeg) (h121.1 68 (((1 : Int32) + a1).toNatClampNeg))) (fun v135 h135 => (v135 = 0 → (SpV E d MX10_keeps [.ref (eA E 63)] h135 (fun h137 => vp_in ((1 : Int32) + a1) 9 ∧ (SpV E d MX10_laysAll [.ref (eA E 63)] (sI h137 68 (((1 : Int32) + a1).toNatClampNeg) ((h121.1 68 (((1 : Int32) + a1).toNatClampNeg)) &&& (((1 : Int32) <<< (a2 &&& 31)) ^^^ (-1 : Int32)))) (fun h139 => P (h139.1 63 26) h139))))) ∧ (¬ v135 = 0 → (P (0 : Int32) h135)))))))) ∧ (¬ v126 ≤ (10 : Int32) → (vp_in ((1 : Int32) + a1) 9 ∧ (((1 : Int32) = 0 → (SpI E d MX10_throwsAs [.ref (eA E 63), .int (0 : Int32)] (sI h126 68 (((1 : Int32) + a1).toNatClampNeg) (h121.1 68 (((1 : Int32) + a1).toNatClampNeg))) (fun v142 h142 => (v142 = 0 → (SpV E d MX10_keeps [.ref (eA E 63)] h142 (fun h144 => vp_in ((1 : Int32) + a1) 9 ∧ (SpV E d MX10_laysAll [.ref (eA E 63)] (sI h144 68 (((1 : Int32) + a1).toNatClampNeg) ((h121.1 68 (((1 : Int32) + a1).toNatClampNeg)) &&& (((1 : Int32) <<< (a2 &&& 31)) ^^^ (-1 : Int32)))) (fun h146 => P (h146.1 63 26) h146))))) ∧ (¬ v142 = 0 → (P (0 : Int32) h142))))) ∧ (¬ (1 : Int32) = 0 → (SpI E d MX10_throwsAs [.ref (eA E 63), .int (2 : Int32)] (sI h126 68 (((1 : Int32) + a1).toNatClampNeg) (h121.1 68 (((1 : Int32) + a1).toNatClampNeg))) (fun v147 h147 => (v147 = 0 → (SpV E d MX10_keeps [.ref (eA E 63)] h147 (fun h149 => vp_in ((1 : Int32) + a1) 9 ∧ (SpV E d MX10_laysAll [.ref (eA E 63)] (sI h149 68 (((1 : Int32) + a1).toNatClampNeg) ((h121.1 68 (((1 : Int32) + a1).toNatClampNeg)) &&& (((1 : Int32) <<< (a2 &&& 31)) ^^^ (-1 : Int32)))) (fun h151 => P (h151.1 63 26) h151))))) ∧ (¬ v147 = 0 → (P (0 : Int32) h147)))))))))))) ∧ (¬ a3 = 0 → (vp_in ((1 : Int32) + a1) 9 ∧ (SpI E d MX10_longestSegment [.ref (eA E 63), .int a1] (sI h121 68 (((1 : Int32) + a1).toNatClampNeg) ((h121.1 68 (((1 : Int32) + a1).toNatClampNeg)) ||| ((1 : Int32) <<< (a2 &&& 31)))) (fun v153 h153 => (v153 ≤ (10 : Int32) → (vp_in ((1 : Int32) + a1) 9 ∧ (((0 : Int32) = 0 → (SpI E d MX10_throwsAs [.ref (eA E 63), .int (0 : Int32)] (sI h153 68 (((1 : Int32) + a1).toNatClampNeg) (h121.1 68 (((1 : Int32) + a1).toNatClampNeg))) (fun v157 h157 => (v157 = 0 → (SpV E d MX10_keeps [.ref (eA E 63)] h157 (fun h159 => vp_in ((1 : Int32) + a1) 9 ∧ (SpV E d MX10_laysAll [.ref (eA E 63)] (sI h159 68 (((1 : Int32) + a1).toNatClampNeg) ((h121.1 68 (((1 : Int32) + a1).toNatClampNeg)) ||| ((1 : Int32) <<< (a2 &&& 31)))) (fun h161 => P (h161.1 63 26) h161))))) ∧ (¬ v157 = 0 → (P (0 : Int32) h157))))) ∧ (¬ (0 : Int32) = 0 → (SpI E d MX10_throwsAs [.ref (eA E 63), .int (2 : Int32)] (sI h153 68 (((1 : Int32) + a1).toNatClampNeg) (h121.1 68 (((1 : Int32) + a1).toNatClampNeg))) (fun v162 h162 => (v162 = 0 → (SpV E d MX10_keeps [.ref (eA E 63)] h162 (fun h164 => vp_in ((1 : Int32) + a1) 9 ∧ (SpV E d MX10_laysAll [.ref (eA E 63)] (sI h164 68 (((1 : Int32) + a1).toNatClampNeg) ((h121.1 68 (((1 : Int32) + a1).toNatClampNeg)) ||| ((1 : Int32) <<< (a2 &&& 31)))) (fun h166 => P (h166.1 63 26) h166))))) ∧ (¬ v162 = 0 → (P (0 : Int32) h162)))))))) ∧ (¬ v153 ≤ (10 : Int32) → (vp_in ((1 : Int32) + a1) 9 ∧ (((1 : Int32) = 0 → (SpI E d MX10_throwsAs [.ref (eA E 63), .int (0 : Int32)] (sI h153 68 (((1 : Int32) + a1).toNatClampNeg) (h121.1 68 (((1 : Int32) + a1).toNatClampNeg))) (fun v169 h169 => (v169 = 0 → (SpV E d MX10_keeps [.ref (eA E 63)] h169 (fun h171 => vp_in ((1 : Int32) + a1) 9 ∧ (SpV E d MX10_laysAll [.ref (eA E 63)] (sI h171 68 (((1 : Int32) + a1).toNatClampNeg) ((h121.1 68 (((1 : Int32) + a1).toNatClampNeg)) ||| ((1 : Int32) <<< (a2 &&& 31)))) (fun h173 => P (h173.1 63 26) h173))))) ∧ (¬ v169 = 0 → (P (0 : Int32) h169))))) ∧ (¬ (1 : Int32) = 0 → (SpI E d MX10_throwsAs [.ref (eA E 63), .int (2 : Int32)] (sI h153 68 (((1 : Int32) + a1).toNatClampNeg) (h121.1 68 (((1 : Int32) + a1).toNatClampNeg))) (fun v174 h174 => (v174 = 0 → (SpV E d MX10_keeps [.ref (eA E 63)] h174 (fun h176 => vp_in ((1 : Int32) + a1) 9 ∧ (SpV E d MX10_laysAll [.ref (eA E 63)] (sI h176 68 (((1 : Int32) + a1).toNatClampNeg) ((h121.1 68 (((1 : Int32) + a1).toNatClampNeg)) ||| ((1 : Int32) <<< (a2 &&& 31)))) (fun h178 => P (h178.1 63 26) h178))))) ∧ (¬ v174 = 0 → (P (0 : Int32) h174))))))))))))))) ∧ (¬ v121 = 0 → (P (0 : Int32) h121)))))))))) : SpI E (d + 1) MX10_setMark [.ref (eA E 63), .int a1, .int a2, .int a3] h P := by
  refine SpI.of (lv0 := [(0, .ref (eA E 63)), (1, .int a1), (2, .int a2), (3, .int a3)]) (by decide) (Nat.le_of_ble_eq_true rfl) rfl (fun g => ?_)
  refine r_aload_n (q := 0) dX10_setMark_0 rfl rfl ?_
  refine r_aload_n (q := 0) dX10_setMark_1 rfl rfl ?_
  refine r_iload_n (q := 1) dX10_setMark_2 rfl rfl ?_
  refine r_iload_n (q := 2) dX10_setMark_3 rfl rfl ?_
  refine r_cVI (c := 63) (As := [.int a1, .int a2]) dX10_setMark_4 mkX10_isAt lkX10_153 lay_63 rfl rfl rfl (by decide) rfl (Nat.le_of_ble_eq_true rfl) z00 t ?_
  intro v1 h1 t
  refine r_if_eq (tgt := 26) dX10_setMark_7 (by decide) (fun q2 => ?_) (fun q2 => ?_)
  · have t := t.1 q2
    refine r_iconst (v := (1 : Int32)) dX10_setMark_26 rfl ?_
    refine r_cVI (c := 63) (As := [.int (1 : Int32)]) dX10_setMark_27 mkX10_throwsAs lkX10_147 lay_63 rfl rfl rfl (by decide) rfl (Nat.le_of_ble_eq_true rfl) z00 t ?_
    intro v3 h3 t
    refine r_if_eq (tgt := 35) dX10_setMark_30 (by decide) (fun q4 => ?_) (fun q4 => ?_)
    · have t := t.1 q4
      refine r_aload_n (q := 0) dX10_setMark_35 rfl rfl ?_
      refine r_getR (c := 63) (c2 := 68) dX10_setMark_36 flX10_22 lay_63 rfl ?_
      refine r_iconst (v := (1 : Int32)) dX10_setMark_39 rfl ?_
      refine r_iload_n (q := 1) dX10_setMark_40 rfl rfl ?_
      refine r_iadd dX10_setMark_41 ?_
      obtain ⟨c5, t⟩ := t
      refine r_iald (c := 68) dX10_setMark_42 lay_68 c5 ?_
      refine r_istore (lv' := [(4, .int (h3.1 68 (((1 : Int32) + a1).toNatClampNeg))), (0, .ref (eA E 63)), (1, .int a1), (2, .int a2), (3, .int a3)]) dX10_setMark_43 (by decide) rfl ?_
      refine r_iload_n (q := 4) dX10_setMark_45 rfl rfl ?_
      refine r_if_eq (tgt := 58) dX10_setMark_46 (by decide) (fun q6 => ?_) (fun q6 => ?_)
      · have t := t.1 q6
        refine r_iload (q := 0) dX10_setMark_58 rfl ?_
        refine r_iconst (v := (1 : Int32)) dX10_setMark_60 rfl ?_
        refine r_iload_n (q := 3) dX10_setMark_61 rfl rfl ?_
        refine r_ishl dX10_setMark_62 ?_
        refine r_iconst (v := (-1 : Int32)) dX10_setMark_63 rfl ?_
        refine r_ixor dX10_setMark_64 ?_
        refine r_iand dX10_setMark_65 ?_
        refine r_istore (lv' := [(5, .int ((h3.1 68 (((1 : Int32) + a1).toNatClampNeg)) &&& (((1 : Int32) <<< (a2 &&& 31)) ^^^ (-1 : Int32)))), (4, .int (h3.1 68 (((1 : Int32) + a1).toNatClampNeg))), (0, .ref (eA E 63)), (1, .int a1), (2, .int a2), (3, .int a3)]) dX10_setMark_66 (by decide) rfl ?_
        refine r_aload_n (q := 2) dX10_setMark_68 rfl rfl ?_
        refine r_getR (c := 63) (c2 := 68) dX10_setMark_69 flX10_22 lay_63 rfl ?_
        refine r_iconst (v := (1 : Int32)) dX10_setMark_72 rfl ?_
        refine r_iload_n (q := 3) dX10_setMark_73 rfl rfl ?_
        refine r_iadd dX10_setMark_74 ?_
        refine r_iload (q := 0) dX10_setMark_75 rfl ?_
        obtain ⟨c7, t⟩ := t
        refine r_iast (c := 68) dX10_setMark_77 lay_68 c7 ?_
        refine r_aload_n (q := 2) dX10_setMark_78 rfl rfl ?_
        refine r_iload_n (q := 3) dX10_setMark_79 rfl rfl ?_
        refine r_cVI (c := 63) (As := [.int a1]) dX10_setMark_80 mkX10_longestSegment lkX10_257 lay_63 rfl rfl rfl (by decide) rfl (Nat.le_of_ble_eq_true rfl) z00 t ?_
        intro v8 h8 t
        refine r_bipush (v := (10 : Int32)) dX10_setMark_83 rfl ?_
        refine r_icmp_le (tgt := 92) dX10_setMark_85 (by decide) (fun q9 => ?_) (fun q9 => ?_)
        · have t := t.1 q9
          refine r_iconst (v := (0 : Int32)) dX10_setMark_92 rfl ?_
          refine r_istore (lv' := [(6, .int (0 : Int32)), (5, .int ((h3.1 68 (((1 : Int32) + a1).toNatClampNeg)) &&& (((1 : Int32) <<< (a2 &&& 31)) ^^^ (-1 : Int32)))), (4, .int (h3.1 68 (((1 : Int32) + a1).toNatClampNeg))), (0, .ref (eA E 63)), (1, .int a1), (2, .int a2), (3, .int a3)]) dX10_setMark_93 (by decide) rfl ?_
          refine r_aload_n (q := 3) dX10_setMark_95 rfl rfl ?_
          refine r_getR (c := 63) (c2 := 68) dX10_setMark_96 flX10_22 lay_63 rfl ?_
          refine r_iconst (v := (1 : Int32)) dX10_setMark_99 rfl ?_
          refine r_iload_n (q := 4) dX10_setMark_100 rfl rfl ?_
          refine r_iadd dX10_setMark_101 ?_
          refine r_iload (q := 2) dX10_setMark_102 rfl ?_
          obtain ⟨c10, t⟩ := t
          refine r_iast (c := 68) dX10_setMark_104 lay_68 c10 ?_
          refine r_aload_n (q := 3) dX10_setMark_105 rfl rfl ?_
          refine r_iload (q := 0) dX10_setMark_106 rfl ?_
          refine r_if_eq (tgt := 115) dX10_setMark_108 (by decide) (fun q11 => ?_) (fun q11 => ?_)
          · have t := t.1 q11
            refine r_iconst (v := (0 : Int32)) dX10_setMark_115 rfl ?_
            refine r_cVI (c := 63) (As := [.int (0 : Int32)]) dX10_setMark_116 mkX10_throwsAs lkX10_147 lay_63 rfl rfl rfl (by decide) rfl (Nat.le_of_ble_eq_true rfl) z00 t ?_
            intro v12 h12 t
            refine r_if_eq (tgt := 124) dX10_setMark_119 (by decide) (fun q13 => ?_) (fun q13 => ?_)
            · have t := t.1 q13
              refine r_aload_n (q := 3) dX10_setMark_124 rfl rfl ?_
              refine r_cVV (c := 63) (As := []) dX10_setMark_125 mkX10_keeps lkX10_251 lay_63 rfl rfl rfl (by decide) rfl (Nat.le_of_ble_eq_true rfl) z00 t ?_
              intro h14 t
              refine r_aload_n (q := 3) dX10_setMark_128 rfl rfl ?_
              refine r_getR (c := 63) (c2 := 68) dX10_setMark_129 flX10_22 lay_63 rfl ?_
              refine r_iconst (v := (1 : Int32)) dX10_setMark_132 rfl ?_
              refine r_iload_n (q := 4) dX10_setMark_133 rfl rfl ?_
              refine r_iadd dX10_setMark_134 ?_
              refine r_iload (q := 1) dX10_setMark_135 rfl ?_
              obtain ⟨c15, t⟩ := t
              refine r_iast (c := 68) dX10_setMark_137 lay_68 c15 ?_
              refine r_aload_n (q := 3) dX10_setMark_138 rfl rfl ?_
              refine r_cVV (c := 63) (As := []) dX10_setMark_139 mkX10_laysAll lkX10_254 lay_63 rfl rfl rfl (by decide) rfl (Nat.le_of_ble_eq_true rfl) z00 t ?_
              intro h16 t
              refine r_aload_n (q := 3) dX10_setMark_142 rfl rfl ?_
              refine r_getI (c := 63) dX10_setMark_143 flX10_206 lay_63 rfl ?_
              exact r_iret dX10_setMark_146 rfl t
            · have t := t.2 q13
              refine r_iconst (v := (0 : Int32)) dX10_setMark_122 rfl ?_
              exact r_iret dX10_setMark_123 rfl t
          · have t := t.2 q11
            refine r_iconst (v := (2 : Int32)) dX10_setMark_111 rfl ?_
            refine r_goto (tgt := 116) dX10_setMark_112 (by decide) ?_
            refine r_cVI (c := 63) (As := [.int (2 : Int32)]) dX10_setMark_116 mkX10_throwsAs lkX10_147 lay_63 rfl rfl rfl (by decide) rfl (Nat.le_of_ble_eq_true rfl) z00 t ?_
            intro v17 h17 t
            refine r_if_eq (tgt := 124) dX10_setMark_119 (by decide) (fun q18 => ?_) (fun q18 => ?_)
            · have t := t.1 q18
              refine r_aload_n (q := 3) dX10_setMark_124 rfl rfl ?_
              refine r_cVV (c := 63) (As := []) dX10_setMark_125 mkX10_keeps lkX10_251 lay_63 rfl rfl rfl (by decide) rfl (Nat.le_of_ble_eq_true rfl) z00 t ?_
              intro h19 t
              refine r_aload_n (q := 3) dX10_setMark_128 rfl rfl ?_
              refine r_getR (c := 63) (c2 := 68) dX10_setMark_129 flX10_22 lay_63 rfl ?_
              refine r_iconst (v := (1 : Int32)) dX10_setMark_132 rfl ?_
              refine r_iload_n (q := 4) dX10_setMark_133 rfl rfl ?_
              refine r_iadd dX10_setMark_134 ?_
              refine r_iload (q := 1) dX10_setMark_135 rfl ?_
              obtain ⟨c20, t⟩ := t
              refine r_iast (c := 68) dX10_setMark_137 lay_68 c20 ?_
              refine r_aload_n (q := 3) dX10_setMark_138 rfl rfl ?_
              refine r_cVV (c := 63) (As := []) dX10_setMark_139 mkX10_laysAll lkX10_254 lay_63 rfl rfl rfl (by decide) rfl (Nat.le_of_ble_eq_true rfl) z00 t ?_
              intro h21 t
              refine r_aload_n (q := 3) dX10_setMark_142 rfl rfl ?_
              refine r_getI (c := 63) dX10_setMark_143 flX10_206 lay_63 rfl ?_
              exact r_iret dX10_setMark_146 rfl t
            · have t := t.2 q18
              refine r_iconst (v := (0 : Int32)) dX10_setMark_122 rfl ?_
              exact r_iret dX10_setMark_123 rfl t
        · have t := t.2 q9
          refine r_iconst (v := (1 : Int32)) dX10_setMark_88 rfl ?_
          refine r_goto (tgt := 93) dX10_setMark_89 (by decide) ?_
          refine r_istore (lv' := [(6, .int (1 : Int32)), (5, .int ((h3.1 68 (((1 : Int32) + a1).toNatClampNeg)) &&& (((1 : Int32) <<< (a2 &&& 31)) ^^^ (-1 : Int32)))), (4, .int (h3.1 68 (((1 : Int32) + a1).toNatClampNeg))), (0, .ref (eA E 63)), (1, .int a1), (2, .int a2), (3, .int a3)]) dX10_setMark_93 (by decide) rfl ?_
          refine r_aload_n (q := 3) dX10_setMark_95 rfl rfl ?_
          refine r_getR (c := 63) (c2 := 68) dX10_setMark_96 flX10_22 lay_63 rfl ?_
          refine r_iconst (v := (1 : Int32)) dX10_setMark_99 rfl ?_
          refine r_iload_n (q := 4) dX10_setMark_100 rfl rfl ?_
          refine r_iadd dX10_setMark_101 ?_
          refine r_iload (q := 2) dX10_setMark_102 rfl ?_
          obtain ⟨c22, t⟩ := t
          refine r_iast (c := 68) dX10_setMark_104 lay_68 c22 ?_
          refine r_aload_n (q := 3) dX10_setMark_105 rfl rfl ?_
          refine r_iload (q := 0) dX10_setMark_106 rfl ?_
          refine r_if_eq (tgt := 115) dX10_setMark_108 (by decide) (fun q23 => ?_) (fun q23 => ?_)
          · have t := t.1 q23
            refine r_iconst (v := (0 : Int32)) dX10_setMark_115 rfl ?_
            refine r_cVI (c := 63) (As := [.int (0 : Int32)]) dX10_setMark_116 mkX10_throwsAs lkX10_147 lay_63 rfl rfl rfl (by decide) rfl (Nat.le_of_ble_eq_true rfl) z00 t ?_
            intro v24 h24 t
            refine r_if_eq (tgt := 124) dX10_setMark_119 (by decide) (fun q25 => ?_) (fun q25 => ?_)
            · have t := t.1 q25
              refine r_aload_n (q := 3) dX10_setMark_124 rfl rfl ?_
              refine r_cVV (c := 63) (As := []) dX10_setMark_125 mkX10_keeps lkX10_251 lay_63 rfl rfl rfl (by decide) rfl (Nat.le_of_ble_eq_true rfl) z00 t ?_
              intro h26 t
              refine r_aload_n (q := 3) dX10_setMark_128 rfl rfl ?_
              refine r_getR (c := 63) (c2 := 68) dX10_setMark_129 flX10_22 lay_63 rfl ?_
              refine r_iconst (v := (1 : Int32)) dX10_setMark_132 rfl ?_
              refine r_iload_n (q := 4) dX10_setMark_133 rfl rfl ?_
              refine r_iadd dX10_setMark_134 ?_
              refine r_iload (q := 1) dX10_setMark_135 rfl ?_
              obtain ⟨c27, t⟩ := t
              refine r_iast (c := 68) dX10_setMark_137 lay_68 c27 ?_
              refine r_aload_n (q := 3) dX10_setMark_138 rfl rfl ?_
              refine r_cVV (c := 63) (As := []) dX10_setMark_139 mkX10_laysAll lkX10_254 lay_63 rfl rfl rfl (by decide) rfl (Nat.le_of_ble_eq_true rfl) z00 t ?_
              intro h28 t
              refine r_aload_n (q := 3) dX10_setMark_142 rfl rfl ?_
              refine r_getI (c := 63) dX10_setMark_143 flX10_206 lay_63 rfl ?_
              exact r_iret dX10_setMark_146 rfl t
            · have t := t.2 q25
              refine r_iconst (v := (0 : Int32)) dX10_setMark_122 rfl ?_
              exact r_iret dX10_setMark_123 rfl t
          · have t := t.2 q23
            refine r_iconst (v := (2 : Int32)) dX10_setMark_111 rfl ?_
            refine r_goto (tgt := 116) dX10_setMark_112 (by decide) ?_
            refine r_cVI (c := 63) (As := [.int (2 : Int32)]) dX10_setMark_116 mkX10_throwsAs lkX10_147 lay_63 rfl rfl rfl (by decide) rfl (Nat.le_of_ble_eq_true rfl) z00 t ?_
            intro v29 h29 t
            refine r_if_eq (tgt := 124) dX10_setMark_119 (by decide) (fun q30 => ?_) (fun q30 => ?_)
            · have t := t.1 q30
              refine r_aload_n (q := 3) dX10_setMark_124 rfl rfl ?_
              refine r_cVV (c := 63) (As := []) dX10_setMark_125 mkX10_keeps lkX10_251 lay_63 rfl rfl rfl (by decide) rfl (Nat.le_of_ble_eq_true rfl) z00 t ?_
              intro h31 t
              refine r_aload_n (q := 3) dX10_setMark_128 rfl rfl ?_
              refine r_getR (c := 63) (c2 := 68) dX10_setMark_129 flX10_22 lay_63 rfl ?_
              refine r_iconst (v := (1 : Int32)) dX10_setMark_132 rfl ?_
              refine r_iload_n (q := 4) dX10_setMark_133 rfl rfl ?_
              refine r_iadd dX10_setMark_134 ?_
              refine r_iload (q := 1) dX10_setMark_135 rfl ?_
              obtain ⟨c32, t⟩ := t
              refine r_iast (c := 68) dX10_setMark_137 lay_68 c32 ?_
              refine r_aload_n (q := 3) dX10_setMark_138 rfl rfl ?_
              refine r_cVV (c := 63) (As := []) dX10_setMark_139 mkX10_laysAll lkX10_254 lay_63 rfl rfl rfl (by decide) rfl (Nat.le_of_ble_eq_true rfl) z00 t ?_
              intro h33 t
              refine r_aload_n (q := 3) dX10_setMark_142 rfl rfl ?_
              refine r_getI (c := 63) dX10_setMark_143 flX10_206 lay_63 rfl ?_
              exact r_iret dX10_setMark_146 rfl t
            · have t := t.2 q30
              refine r_iconst (v := (0 : Int32)) dX10_setMark_122 rfl ?_
              exact r_iret dX10_setMark_123 rfl t
      · have t := t.2 q6
        refine r_iload (q := 0) dX10_setMark_49 rfl ?_
        refine r_iconst (v := (1 : Int32)) dX10_setMark_51 rfl ?_
        refine r_iload_n (q := 3) dX10_setMark_52 rfl rfl ?_
        refine r_ishl dX10_setMark_53 ?_
        refine r_ior dX10_setMark_54 ?_
        refine r_goto (tgt := 66) dX10_setMark_55 (by decide) ?_
        refine r_istore (lv' := [(5, .int ((h3.1 68 (((1 : Int32) + a1).toNatClampNeg)) ||| ((1 : Int32) <<< (a2 &&& 31)))), (4, .int (h3.1 68 (((1 : Int32) + a1).toNatClampNeg))), (0, .ref (eA E 63)), (1, .int a1), (2, .int a2), (3, .int a3)]) dX10_setMark_66 (by decide) rfl ?_
        refine r_aload_n (q := 2) dX10_setMark_68 rfl rfl ?_
        refine r_getR (c := 63) (c2 := 68) dX10_setMark_69 flX10_22 lay_63 rfl ?_
        refine r_iconst (v := (1 : Int32)) dX10_setMark_72 rfl ?_
        refine r_iload_n (q := 3) dX10_setMark_73 rfl rfl ?_
        refine r_iadd dX10_setMark_74 ?_
        refine r_iload (q := 0) dX10_setMark_75 rfl ?_
        obtain ⟨c34, t⟩ := t
        refine r_iast (c := 68) dX10_setMark_77 lay_68 c34 ?_
        refine r_aload_n (q := 2) dX10_setMark_78 rfl rfl ?_
        refine r_iload_n (q := 3) dX10_setMark_79 rfl rfl ?_
        refine r_cVI (c := 63) (As := [.int a1]) dX10_setMark_80 mkX10_longestSegment lkX10_257 lay_63 rfl rfl rfl (by decide) rfl (Nat.le_of_ble_eq_true rfl) z00 t ?_
        intro v35 h35 t
        refine r_bipush (v := (10 : Int32)) dX10_setMark_83 rfl ?_
        refine r_icmp_le (tgt := 92) dX10_setMark_85 (by decide) (fun q36 => ?_) (fun q36 => ?_)
        · have t := t.1 q36
          refine r_iconst (v := (0 : Int32)) dX10_setMark_92 rfl ?_
          refine r_istore (lv' := [(6, .int (0 : Int32)), (5, .int ((h3.1 68 (((1 : Int32) + a1).toNatClampNeg)) ||| ((1 : Int32) <<< (a2 &&& 31)))), (4, .int (h3.1 68 (((1 : Int32) + a1).toNatClampNeg))), (0, .ref (eA E 63)), (1, .int a1), (2, .int a2), (3, .int a3)]) dX10_setMark_93 (by decide) rfl ?_
          refine r_aload_n (q := 3) dX10_setMark_95 rfl rfl ?_
          refine r_getR (c := 63) (c2 := 68) dX10_setMark_96 flX10_22 lay_63 rfl ?_
          refine r_iconst (v := (1 : Int32)) dX10_setMark_99 rfl ?_
          refine r_iload_n (q := 4) dX10_setMark_100 rfl rfl ?_
          refine r_iadd dX10_setMark_101 ?_
          refine r_iload (q := 2) dX10_setMark_102 rfl ?_
          obtain ⟨c37, t⟩ := t
          refine r_iast (c := 68) dX10_setMark_104 lay_68 c37 ?_
          refine r_aload_n (q := 3) dX10_setMark_105 rfl rfl ?_
          refine r_iload (q := 0) dX10_setMark_106 rfl ?_
          refine r_if_eq (tgt := 115) dX10_setMark_108 (by decide) (fun q38 => ?_) (fun q38 => ?_)
          · have t := t.1 q38
            refine r_iconst (v := (0 : Int32)) dX10_setMark_115 rfl ?_
            refine r_cVI (c := 63) (As := [.int (0 : Int32)]) dX10_setMark_116 mkX10_throwsAs lkX10_147 lay_63 rfl rfl rfl (by decide) rfl (Nat.le_of_ble_eq_true rfl) z00 t ?_
            intro v39 h39 t
            refine r_if_eq (tgt := 124) dX10_setMark_119 (by decide) (fun q40 => ?_) (fun q40 => ?_)
            · have t := t.1 q40
              refine r_aload_n (q := 3) dX10_setMark_124 rfl rfl ?_
              refine r_cVV (c := 63) (As := []) dX10_setMark_125 mkX10_keeps lkX10_251 lay_63 rfl rfl rfl (by decide) rfl (Nat.le_of_ble_eq_true rfl) z00 t ?_
              intro h41 t
              refine r_aload_n (q := 3) dX10_setMark_128 rfl rfl ?_
              refine r_getR (c := 63) (c2 := 68) dX10_setMark_129 flX10_22 lay_63 rfl ?_
              refine r_iconst (v := (1 : Int32)) dX10_setMark_132 rfl ?_
              refine r_iload_n (q := 4) dX10_setMark_133 rfl rfl ?_
              refine r_iadd dX10_setMark_134 ?_
              refine r_iload (q := 1) dX10_setMark_135 rfl ?_
              obtain ⟨c42, t⟩ := t
              refine r_iast (c := 68) dX10_setMark_137 lay_68 c42 ?_
              refine r_aload_n (q := 3) dX10_setMark_138 rfl rfl ?_
              refine r_cVV (c := 63) (As := []) dX10_setMark_139 mkX10_laysAll lkX10_254 lay_63 rfl rfl rfl (by decide) rfl (Nat.le_of_ble_eq_true rfl) z00 t ?_
              intro h43 t
              refine r_aload_n (q := 3) dX10_setMark_142 rfl rfl ?_
              refine r_getI (c := 63) dX10_setMark_143 flX10_206 lay_63 rfl ?_
              exact r_iret dX10_setMark_146 rfl t
            · have t := t.2 q40
              refine r_iconst (v := (0 : Int32)) dX10_setMark_122 rfl ?_
              exact r_iret dX10_setMark_123 rfl t
          · have t := t.2 q38
            refine r_iconst (v := (2 : Int32)) dX10_setMark_111 rfl ?_
            refine r_goto (tgt := 116) dX10_setMark_112 (by decide) ?_
            refine r_cVI (c := 63) (As := [.int (2 : Int32)]) dX10_setMark_116 mkX10_throwsAs lkX10_147 lay_63 rfl rfl rfl (by decide) rfl (Nat.le_of_ble_eq_true rfl) z00 t ?_
            intro v44 h44 t
            refine r_if_eq (tgt := 124) dX10_setMark_119 (by decide) (fun q45 => ?_) (fun q45 => ?_)
            · have t := t.1 q45
              refine r_aload_n (q := 3) dX10_setMark_124 rfl rfl ?_
              refine r_cVV (c := 63) (As := []) dX10_setMark_125 mkX10_keeps lkX10_251 lay_63 rfl rfl rfl (by decide) rfl (Nat.le_of_ble_eq_true rfl) z00 t ?_
              intro h46 t
              refine r_aload_n (q := 3) dX10_setMark_128 rfl rfl ?_
              refine r_getR (c := 63) (c2 := 68) dX10_setMark_129 flX10_22 lay_63 rfl ?_
              refine r_iconst (v := (1 : Int32)) dX10_setMark_132 rfl ?_
              refine r_iload_n (q := 4) dX10_setMark_133 rfl rfl ?_
              refine r_iadd dX10_setMark_134 ?_
              refine r_iload (q := 1) dX10_setMark_135 rfl ?_
              obtain ⟨c47, t⟩ := t
              refine r_iast (c := 68) dX10_setMark_137 lay_68 c47 ?_
              refine r_aload_n (q := 3) dX10_setMark_138 rfl rfl ?_
              refine r_cVV (c := 63) (As := []) dX10_setMark_139 mkX10_laysAll lkX10_254 lay_63 rfl rfl rfl (by decide) rfl (Nat.le_of_ble_eq_true rfl) z00 t ?_
              intro h48 t
              refine r_aload_n (q := 3) dX10_setMark_142 rfl rfl ?_
              refine r_getI (c := 63) dX10_setMark_143 flX10_206 lay_63 rfl ?_
              exact r_iret dX10_setMark_146 rfl t
            · have t := t.2 q45
              refine r_iconst (v := (0 : Int32)) dX10_setMark_122 rfl ?_
              exact r_iret dX10_setMark_123 rfl t
        · have t := t.2 q36
          refine r_iconst (v := (1 : Int32)) dX10_setMark_88 rfl ?_
          refine r_goto (tgt := 93) dX10_setMark_89 (by decide) ?_
          refine r_istore (lv' := [(6, .int (1 : Int32)), (5, .int ((h3.1 68 (((1 : Int32) + a1).toNatClampNeg)) ||| ((1 : Int32) <<< (a2 &&& 31)))), (4, .int (h3.1 68 (((1 : Int32) + a1).toNatClampNeg))), (0, .ref (eA E 63)), (1, .int a1), (2, .int a2), (3, .int a3)]) dX10_setMark_93 (by decide) rfl ?_
          refine r_aload_n (q := 3) dX10_setMark_95 rfl rfl ?_
          refine r_getR (c := 63) (c2 := 68) dX10_setMark_96 flX10_22 lay_63 rfl ?_
          refine r_iconst (v := (1 : Int32)) dX10_setMark_99 rfl ?_
          refine r_iload_n (q := 4) dX10_setMark_100 rfl rfl ?_
          refine r_iadd dX10_setMark_101 ?_
          refine r_iload (q := 2) dX10_setMark_102 rfl ?_
          obtain ⟨c49, t⟩ := t
          refine r_iast (c := 68) dX10_setMark_104 lay_68 c49 ?_
          refine r_aload_n (q := 3) dX10_setMark_105 rfl rfl ?_
          refine r_iload (q := 0) dX10_setMark_106 rfl ?_
          refine r_if_eq (tgt := 115) dX10_setMark_108 (by decide) (fun q50 => ?_) (fun q50 => ?_)
          · have t := t.1 q50
            refine r_iconst (v := (0 : Int32)) dX10_setMark_115 rfl ?_
            refine r_cVI (c := 63) (As := [.int (0 : Int32)]) dX10_setMark_116 mkX10_throwsAs lkX10_147 lay_63 rfl rfl rfl (by decide) rfl (Nat.le_of_ble_eq_true rfl) z00 t ?_
            intro v51 h51 t
            refine r_if_eq (tgt := 124) dX10_setMark_119 (by decide) (fun q52 => ?_) (fun q52 => ?_)
            · have t := t.1 q52
              refine r_aload_n (q := 3) dX10_setMark_124 rfl rfl ?_
              refine r_cVV (c := 63) (As := []) dX10_setMark_125 mkX10_keeps lkX10_251 lay_63 rfl rfl rfl (by decide) rfl (Nat.le_of_ble_eq_true rfl) z00 t ?_
              intro h53 t
              refine r_aload_n (q := 3) dX10_setMark_128 rfl rfl ?_
              refine r_getR (c := 63) (c2 := 68) dX10_setMark_129 flX10_22 lay_63 rfl ?_
              refine r_iconst (v := (1 : Int32)) dX10_setMark_132 rfl ?_
              refine r_iload_n (q := 4) dX10_setMark_133 rfl rfl ?_
              refine r_iadd dX10_setMark_134 ?_
              refine r_iload (q := 1) dX10_setMark_135 rfl ?_
              obtain ⟨c54, t⟩ := t
              refine r_iast (c := 68) dX10_setMark_137 lay_68 c54 ?_
              refine r_aload_n (q := 3) dX10_setMark_138 rfl rfl ?_
              refine r_cVV (c := 63) (As := []) dX10_setMark_139 mkX10_laysAll lkX10_254 lay_63 rfl rfl rfl (by decide) rfl (Nat.le_of_ble_eq_true rfl) z00 t ?_
              intro h55 t
              refine r_aload_n (q := 3) dX10_setMark_142 rfl rfl ?_
              refine r_getI (c := 63) dX10_setMark_143 flX10_206 lay_63 rfl ?_
              exact r_iret dX10_setMark_146 rfl t
            · have t := t.2 q52
              refine r_iconst (v := (0 : Int32)) dX10_setMark_122 rfl ?_
              exact r_iret dX10_setMark_123 rfl t
          · have t := t.2 q50
            refine r_iconst (v := (2 : Int32)) dX10_setMark_111 rfl ?_
            refine r_goto (tgt := 116) dX10_setMark_112 (by decide) ?_
            refine r_cVI (c := 63) (As := [.int (2 : Int32)]) dX10_setMark_116 mkX10_throwsAs lkX10_147 lay_63 rfl rfl rfl (by decide) rfl (Nat.le_of_ble_eq_true rfl) z00 t ?_
            intro v56 h56 t
            refine r_if_eq (tgt := 124) dX10_setMark_119 (by decide) (fun q57 => ?_) (fun q57 => ?_)
            · have t := t.1 q57
              refine r_aload_n (q := 3) dX10_setMark_124 rfl rfl ?_
              refine r_cVV (c := 63) (As := []) dX10_setMark_125 mkX10_keeps lkX10_251 lay_63 rfl rfl rfl (by decide) rfl (Nat.le_of_ble_eq_true rfl) z00 t ?_
              intro h58 t
              refine r_aload_n (q := 3) dX10_setMark_128 rfl rfl ?_
              refine r_getR (c := 63) (c2 := 68) dX10_setMark_129 flX10_22 lay_63 rfl ?_
              refine r_iconst (v := (1 : Int32)) dX10_setMark_132 rfl ?_
              refine r_iload_n (q := 4) dX10_setMark_133 rfl rfl ?_
              refine r_iadd dX10_setMark_134 ?_
              refine r_iload (q := 1) dX10_setMark_135 rfl ?_
              obtain ⟨c59, t⟩ := t
              refine r_iast (c := 68) dX10_setMark_137 lay_68 c59 ?_
              refine r_aload_n (q := 3) dX10_setMark_138 rfl rfl ?_
              refine r_cVV (c := 63) (As := []) dX10_setMark_139 mkX10_laysAll lkX10_254 lay_63 rfl rfl rfl (by decide) rfl (Nat.le_of_ble_eq_true rfl) z00 t ?_
              intro h60 t
              refine r_aload_n (q := 3) dX10_setMark_142 rfl rfl ?_
              refine r_getI (c := 63) dX10_setMark_143 flX10_206 lay_63 rfl ?_
              exact r_iret dX10_setMark_146 rfl t
            · have t := t.2 q57
              refine r_iconst (v := (0 : Int32)) dX10_setMark_122 rfl ?_
              exact r_iret dX10_setMark_123 rfl t
    · have t := t.2 q4
      refine r_iconst (v := (0 : Int32)) dX10_setMark_33 rfl ?_
      exact r_iret dX10_setMark_34 rfl t
  · have t := t.2 q2
    refine r_iload_n (q := 2) dX10_setMark_10 rfl rfl ?_
    refine r_aload_n (q := 0) dX10_setMark_11 rfl rfl ?_
    refine r_getR (c := 63) (c2 := 66) dX10_setMark_12 flX10_16 lay_63 rfl ?_
    refine r_iload_n (q := 1) dX10_setMark_15 rfl rfl ?_
    obtain ⟨c61, t⟩ := t
    refine r_iald (c := 66) dX10_setMark_16 lay_66 c61 ?_
    refine r_iconst (v := (1 : Int32)) dX10_setMark_17 rfl ?_
    refine r_isub dX10_setMark_18 ?_
    refine r_icmp_ge (tgt := 26) dX10_setMark_19 (by decide) (fun q62 => ?_) (fun q62 => ?_)
    · have t := t.1 q62
      refine r_iconst (v := (1 : Int32)) dX10_setMark_26 rfl ?_
      refine r_cVI (c := 63) (As := [.int (1 : Int32)]) dX10_setMark_27 mkX10_throwsAs lkX10_147 lay_63 rfl rfl rfl (by decide) rfl (Nat.le_of_ble_eq_true rfl) z00 t ?_
      intro v63 h63 t
      refine r_if_eq (tgt := 35) dX10_setMark_30 (by decide) (fun q64 => ?_) (fun q64 => ?_)
      · have t := t.1 q64
        refine r_aload_n (q := 0) dX10_setMark_35 rfl rfl ?_
        refine r_getR (c := 63) (c2 := 68) dX10_setMark_36 flX10_22 lay_63 rfl ?_
        refine r_iconst (v := (1 : Int32)) dX10_setMark_39 rfl ?_
        refine r_iload_n (q := 1) dX10_setMark_40 rfl rfl ?_
        refine r_iadd dX10_setMark_41 ?_
        obtain ⟨c65, t⟩ := t
        refine r_iald (c := 68) dX10_setMark_42 lay_68 c65 ?_
        refine r_istore (lv' := [(4, .int (h63.1 68 (((1 : Int32) + a1).toNatClampNeg))), (0, .ref (eA E 63)), (1, .int a1), (2, .int a2), (3, .int a3)]) dX10_setMark_43 (by decide) rfl ?_
        refine r_iload_n (q := 4) dX10_setMark_45 rfl rfl ?_
        refine r_if_eq (tgt := 58) dX10_setMark_46 (by decide) (fun q66 => ?_) (fun q66 => ?_)
        · have t := t.1 q66
          refine r_iload (q := 0) dX10_setMark_58 rfl ?_
          refine r_iconst (v := (1 : Int32)) dX10_setMark_60 rfl ?_
          refine r_iload_n (q := 3) dX10_setMark_61 rfl rfl ?_
          refine r_ishl dX10_setMark_62 ?_
          refine r_iconst (v := (-1 : Int32)) dX10_setMark_63 rfl ?_
          refine r_ixor dX10_setMark_64 ?_
          refine r_iand dX10_setMark_65 ?_
          refine r_istore (lv' := [(5, .int ((h63.1 68 (((1 : Int32) + a1).toNatClampNeg)) &&& (((1 : Int32) <<< (a2 &&& 31)) ^^^ (-1 : Int32)))), (4, .int (h63.1 68 (((1 : Int32) + a1).toNatClampNeg))), (0, .ref (eA E 63)), (1, .int a1), (2, .int a2), (3, .int a3)]) dX10_setMark_66 (by decide) rfl ?_
          refine r_aload_n (q := 2) dX10_setMark_68 rfl rfl ?_
          refine r_getR (c := 63) (c2 := 68) dX10_setMark_69 flX10_22 lay_63 rfl ?_
          refine r_iconst (v := (1 : Int32)) dX10_setMark_72 rfl ?_
          refine r_iload_n (q := 3) dX10_setMark_73 rfl rfl ?_
          refine r_iadd dX10_setMark_74 ?_
          refine r_iload (q := 0) dX10_setMark_75 rfl ?_
          obtain ⟨c67, t⟩ := t
          refine r_iast (c := 68) dX10_setMark_77 lay_68 c67 ?_
          refine r_aload_n (q := 2) dX10_setMark_78 rfl rfl ?_
          refine r_iload_n (q := 3) dX10_setMark_79 rfl rfl ?_
          refine r_cVI (c := 63) (As := [.int a1]) dX10_setMark_80 mkX10_longestSegment lkX10_257 lay_63 rfl rfl rfl (by decide) rfl (Nat.le_of_ble_eq_true rfl) z00 t ?_
          intro v68 h68 t
          refine r_bipush (v := (10 : Int32)) dX10_setMark_83 rfl ?_
          refine r_icmp_le (tgt := 92) dX10_setMark_85 (by decide) (fun q69 => ?_) (fun q69 => ?_)
          · have t := t.1 q69
            refine r_iconst (v := (0 : Int32)) dX10_setMark_92 rfl ?_
            refine r_istore (lv' := [(6, .int (0 : Int32)), (5, .int ((h63.1 68 (((1 : Int32) + a1).toNatClampNeg)) &&& (((1 : Int32) <<< (a2 &&& 31)) ^^^ (-1 : Int32)))), (4, .int (h63.1 68 (((1 : Int32) + a1).toNatClampNeg))), (0, .ref (eA E 63)), (1, .int a1), (2, .int a2), (3, .int a3)]) dX10_setMark_93 (by decide) rfl ?_
            refine r_aload_n (q := 3) dX10_setMark_95 rfl rfl ?_
            refine r_getR (c := 63) (c2 := 68) dX10_setMark_96 flX10_22 lay_63 rfl ?_
            refine r_iconst (v := (1 : Int32)) dX10_setMark_99 rfl ?_
            refine r_iload_n (q := 4) dX10_setMark_100 rfl rfl ?_
            refine r_iadd dX10_setMark_101 ?_
            refine r_iload (q := 2) dX10_setMark_102 rfl ?_
            obtain ⟨c70, t⟩ := t
            refine r_iast (c := 68) dX10_setMark_104 lay_68 c70 ?_
            refine r_aload_n (q := 3) dX10_setMark_105 rfl rfl ?_
            refine r_iload (q := 0) dX10_setMark_106 rfl ?_
            refine r_if_eq (tgt := 115) dX10_setMark_108 (by decide) (fun q71 => ?_) (fun q71 => ?_)
            · have t := t.1 q71
              refine r_iconst (v := (0 : Int32)) dX10_setMark_115 rfl ?_
              refine r_cVI (c := 63) (As := [.int (0 : Int32)]) dX10_setMark_116 mkX10_throwsAs lkX10_147 lay_63 rfl rfl rfl (by decide) rfl (Nat.le_of_ble_eq_true rfl) z00 t ?_
              intro v72 h72 t
              refine r_if_eq (tgt := 124) dX10_setMark_119 (by decide) (fun q73 => ?_) (fun q73 => ?_)
              · have t := t.1 q73
                refine r_aload_n (q := 3) dX10_setMark_124 rfl rfl ?_
                refine r_cVV (c := 63) (As := []) dX10_setMark_125 mkX10_keeps lkX10_251 lay_63 rfl rfl rfl (by decide) rfl (Nat.le_of_ble_eq_true rfl) z00 t ?_
                intro h74 t
                refine r_aload_n (q := 3) dX10_setMark_128 rfl rfl ?_
                refine r_getR (c := 63) (c2 := 68) dX10_setMark_129 flX10_22 lay_63 rfl ?_
                refine r_iconst (v := (1 : Int32)) dX10_setMark_132 rfl ?_
                refine r_iload_n (q := 4) dX10_setMark_133 rfl rfl ?_
                refine r_iadd dX10_setMark_134 ?_
                refine r_iload (q := 1) dX10_setMark_135 rfl ?_
                obtain ⟨c75, t⟩ := t
                refine r_iast (c := 68) dX10_setMark_137 lay_68 c75 ?_
                refine r_aload_n (q := 3) dX10_setMark_138 rfl rfl ?_
                refine r_cVV (c := 63) (As := []) dX10_setMark_139 mkX10_laysAll lkX10_254 lay_63 rfl rfl rfl (by decide) rfl (Nat.le_of_ble_eq_true rfl) z00 t ?_
                intro h76 t
                refine r_aload_n (q := 3) dX10_setMark_142 rfl rfl ?_
                refine r_getI (c := 63) dX10_setMark_143 flX10_206 lay_63 rfl ?_
                exact r_iret dX10_setMark_146 rfl t
              · have t := t.2 q73
                refine r_iconst (v := (0 : Int32)) dX10_setMark_122 rfl ?_
                exact r_iret dX10_setMark_123 rfl t
            · have t := t.2 q71
              refine r_iconst (v := (2 : Int32)) dX10_setMark_111 rfl ?_
              refine r_goto (tgt := 116) dX10_setMark_112 (by decide) ?_
              refine r_cVI (c := 63) (As := [.int (2 : Int32)]) dX10_setMark_116 mkX10_throwsAs lkX10_147 lay_63 rfl rfl rfl (by decide) rfl (Nat.le_of_ble_eq_true rfl) z00 t ?_
              intro v77 h77 t
              refine r_if_eq (tgt := 124) dX10_setMark_119 (by decide) (fun q78 => ?_) (fun q78 => ?_)
              · have t := t.1 q78
                refine r_aload_n (q := 3) dX10_setMark_124 rfl rfl ?_
                refine r_cVV (c := 63) (As := []) dX10_setMark_125 mkX10_keeps lkX10_251 lay_63 rfl rfl rfl (by decide) rfl (Nat.le_of_ble_eq_true rfl) z00 t ?_
                intro h79 t
                refine r_aload_n (q := 3) dX10_setMark_128 rfl rfl ?_
                refine r_getR (c := 63) (c2 := 68) dX10_setMark_129 flX10_22 lay_63 rfl ?_
                refine r_iconst (v := (1 : Int32)) dX10_setMark_132 rfl ?_
                refine r_iload_n (q := 4) dX10_setMark_133 rfl rfl ?_
                refine r_iadd dX10_setMark_134 ?_
                refine r_iload (q := 1) dX10_setMark_135 rfl ?_
                obtain ⟨c80, t⟩ := t
                refine r_iast (c := 68) dX10_setMark_137 lay_68 c80 ?_
                refine r_aload_n (q := 3) dX10_setMark_138 rfl rfl ?_
                refine r_cVV (c := 63) (As := []) dX10_setMark_139 mkX10_laysAll lkX10_254 lay_63 rfl rfl rfl (by decide) rfl (Nat.le_of_ble_eq_true rfl) z00 t ?_
                intro h81 t
                refine r_aload_n (q := 3) dX10_setMark_142 rfl rfl ?_
                refine r_getI (c := 63) dX10_setMark_143 flX10_206 lay_63 rfl ?_
                exact r_iret dX10_setMark_146 rfl t
              · have t := t.2 q78
                refine r_iconst (v := (0 : Int32)) dX10_setMark_122 rfl ?_
                exact r_iret dX10_setMark_123 rfl t
          · have t := t.2 q69
            refine r_iconst (v := (1 : Int32)) dX10_setMark_88 rfl ?_
            refine r_goto (tgt := 93) dX10_setMark_89 (by decide) ?_
            refine r_istore (lv' := [(6, .int (1 : Int32)), (5, .int ((h63.1 68 (((1 : Int32) + a1).toNatClampNeg)) &&& (((1 : Int32) <<< (a2 &&& 31)) ^^^ (-1 : Int32)))), (4, .int (h63.1 68 (((1 : Int32) + a1).toNatClampNeg))), (0, .ref (eA E 63)), (1, .int a1), (2, .int a2), (3, .int a3)]) dX10_setMark_93 (by decide) rfl ?_
            refine r_aload_n (q := 3) dX10_setMark_95 rfl rfl ?_
            refine r_getR (c := 63) (c2 := 68) dX10_setMark_96 flX10_22 lay_63 rfl ?_
            refine r_iconst (v := (1 : Int32)) dX10_setMark_99 rfl ?_
            refine r_iload_n (q := 4) dX10_setMark_100 rfl rfl ?_
            refine r_iadd dX10_setMark_101 ?_
            refine r_iload (q := 2) dX10_setMark_102 rfl ?_
            obtain ⟨c82, t⟩ := t
            refine r_iast (c := 68) dX10_setMark_104 lay_68 c82 ?_
            refine r_aload_n (q := 3) dX10_setMark_105 rfl rfl ?_
            refine r_iload (q := 0) dX10_setMark_106 rfl ?_
            refine r_if_eq (tgt := 115) dX10_setMark_108 (by decide) (fun q83 => ?_) (fun q83 => ?_)
            · have t := t.1 q83
              refine r_iconst (v := (0 : Int32)) dX10_setMark_115 rfl ?_
              refine r_cVI (c := 63) (As := [.int (0 : Int32)]) dX10_setMark_116 mkX10_throwsAs lkX10_147 lay_63 rfl rfl rfl (by decide) rfl (Nat.le_of_ble_eq_true rfl) z00 t ?_
              intro v84 h84 t
              refine r_if_eq (tgt := 124) dX10_setMark_119 (by decide) (fun q85 => ?_) (fun q85 => ?_)
              · have t := t.1 q85
                refine r_aload_n (q := 3) dX10_setMark_124 rfl rfl ?_
                refine r_cVV (c := 63) (As := []) dX10_setMark_125 mkX10_keeps lkX10_251 lay_63 rfl rfl rfl (by decide) rfl (Nat.le_of_ble_eq_true rfl) z00 t ?_
                intro h86 t
                refine r_aload_n (q := 3) dX10_setMark_128 rfl rfl ?_
                refine r_getR (c := 63) (c2 := 68) dX10_setMark_129 flX10_22 lay_63 rfl ?_
                refine r_iconst (v := (1 : Int32)) dX10_setMark_132 rfl ?_
                refine r_iload_n (q := 4) dX10_setMark_133 rfl rfl ?_
                refine r_iadd dX10_setMark_134 ?_
                refine r_iload (q := 1) dX10_setMark_135 rfl ?_
                obtain ⟨c87, t⟩ := t
                refine r_iast (c := 68) dX10_setMark_137 lay_68 c87 ?_
                refine r_aload_n (q := 3) dX10_setMark_138 rfl rfl ?_
                refine r_cVV (c := 63) (As := []) dX10_setMark_139 mkX10_laysAll lkX10_254 lay_63 rfl rfl rfl (by decide) rfl (Nat.le_of_ble_eq_true rfl) z00 t ?_
                intro h88 t
                refine r_aload_n (q := 3) dX10_setMark_142 rfl rfl ?_
                refine r_getI (c := 63) dX10_setMark_143 flX10_206 lay_63 rfl ?_
                exact r_iret dX10_setMark_146 rfl t
              · have t := t.2 q85
                refine r_iconst (v := (0 : Int32)) dX10_setMark_122 rfl ?_
                exact r_iret dX10_setMark_123 rfl t
            · have t := t.2 q83
              refine r_iconst (v := (2 : Int32)) dX10_setMark_111 rfl ?_
              refine r_goto (tgt := 116) dX10_setMark_112 (by decide) ?_
              refine r_cVI (c := 63) (As := [.int (2 : Int32)]) dX10_setMark_116 mkX10_throwsAs lkX10_147 lay_63 rfl rfl rfl (by decide) rfl (Nat.le_of_ble_eq_true rfl) z00 t ?_
              intro v89 h89 t
              refine r_if_eq (tgt := 124) dX10_setMark_119 (by decide) (fun q90 => ?_) (fun q90 => ?_)
              · have t := t.1 q90
                refine r_aload_n (q := 3) dX10_setMark_124 rfl rfl ?_
                refine r_cVV (c := 63) (As := []) dX10_setMark_125 mkX10_keeps lkX10_251 lay_63 rfl rfl rfl (by decide) rfl (Nat.le_of_ble_eq_true rfl) z00 t ?_
                intro h91 t
                refine r_aload_n (q := 3) dX10_setMark_128 rfl rfl ?_
                refine r_getR (c := 63) (c2 := 68) dX10_setMark_129 flX10_22 lay_63 rfl ?_
                refine r_iconst (v := (1 : Int32)) dX10_setMark_132 rfl ?_
                refine r_iload_n (q := 4) dX10_setMark_133 rfl rfl ?_
                refine r_iadd dX10_setMark_134 ?_
                refine r_iload (q := 1) dX10_setMark_135 rfl ?_
                obtain ⟨c92, t⟩ := t
                refine r_iast (c := 68) dX10_setMark_137 lay_68 c92 ?_
                refine r_aload_n (q := 3) dX10_setMark_138 rfl rfl ?_
                refine r_cVV (c := 63) (As := []) dX10_setMark_139 mkX10_laysAll lkX10_254 lay_63 rfl rfl rfl (by decide) rfl (Nat.le_of_ble_eq_true rfl) z00 t ?_
                intro h93 t
                refine r_aload_n (q := 3) dX10_setMark_142 rfl rfl ?_
                refine r_getI (c := 63) dX10_setMark_143 flX10_206 lay_63 rfl ?_
                exact r_iret dX10_setMark_146 rfl t
              · have t := t.2 q90
                refine r_iconst (v := (0 : Int32)) dX10_setMark_122 rfl ?_
                exact r_iret dX10_setMark_123 rfl t
        · have t := t.2 q66
          refine r_iload (q := 0) dX10_setMark_49 rfl ?_
          refine r_iconst (v := (1 : Int32)) dX10_setMark_51 rfl ?_
          refine r_iload_n (q := 3) dX10_setMark_52 rfl rfl ?_
          refine r_ishl dX10_setMark_53 ?_
          refine r_ior dX10_setMark_54 ?_
          refine r_goto (tgt := 66) dX10_setMark_55 (by decide) ?_
          refine r_istore (lv' := [(5, .int ((h63.1 68 (((1 : Int32) + a1).toNatClampNeg)) ||| ((1 : Int32) <<< (a2 &&& 31)))), (4, .int (h63.1 68 (((1 : Int32) + a1).toNatClampNeg))), (0, .ref (eA E 63)), (1, .int a1), (2, .int a2), (3, .int a3)]) dX10_setMark_66 (by decide) rfl ?_
          refine r_aload_n (q := 2) dX10_setMark_68 rfl rfl ?_
          refine r_getR (c := 63) (c2 := 68) dX10_setMark_69 flX10_22 lay_63 rfl ?_
          refine r_iconst (v := (1 : Int32)) dX10_setMark_72 rfl ?_
          refine r_iload_n (q := 3) dX10_setMark_73 rfl rfl ?_
          refine r_iadd dX10_setMark_74 ?_
          refine r_iload (q := 0) dX10_setMark_75 rfl ?_
          obtain ⟨c94, t⟩ := t
          refine r_iast (c := 68) dX10_setMark_77 lay_68 c94 ?_
          refine r_aload_n (q := 2) dX10_setMark_78 rfl rfl ?_
          refine r_iload_n (q := 3) dX10_setMark_79 rfl rfl ?_
          refine r_cVI (c := 63) (As := [.int a1]) dX10_setMark_80 mkX10_longestSegment lkX10_257 lay_63 rfl rfl rfl (by decide) rfl (Nat.le_of_ble_eq_true rfl) z00 t ?_
          intro v95 h95 t
          refine r_bipush (v := (10 : Int32)) dX10_setMark_83 rfl ?_
          refine r_icmp_le (tgt := 92) dX10_setMark_85 (by decide) (fun q96 => ?_) (fun q96 => ?_)
          · have t := t.1 q96
            refine r_iconst (v := (0 : Int32)) dX10_setMark_92 rfl ?_
            refine r_istore (lv' := [(6, .int (0 : Int32)), (5, .int ((h63.1 68 (((1 : Int32) + a1).toNatClampNeg)) ||| ((1 : Int32) <<< (a2 &&& 31)))), (4, .int (h63.1 68 (((1 : Int32) + a1).toNatClampNeg))), (0, .ref (eA E 63)), (1, .int a1), (2, .int a2), (3, .int a3)]) dX10_setMark_93 (by decide) rfl ?_
            refine r_aload_n (q := 3) dX10_setMark_95 rfl rfl ?_
            refine r_getR (c := 63) (c2 := 68) dX10_setMark_96 flX10_22 lay_63 rfl ?_
            refine r_iconst (v := (1 : Int32)) dX10_setMark_99 rfl ?_
            refine r_iload_n (q := 4) dX10_setMark_100 rfl rfl ?_
            refine r_iadd dX10_setMark_101 ?_
            refine r_iload (q := 2) dX10_setMark_102 rfl ?_
            obtain ⟨c97, t⟩ := t
            refine r_iast (c := 68) dX10_setMark_104 lay_68 c97 ?_
            refine r_aload_n (q := 3) dX10_setMark_105 rfl rfl ?_
            refine r_iload (q := 0) dX10_setMark_106 rfl ?_
            refine r_if_eq (tgt := 115) dX10_setMark_108 (by decide) (fun q98 => ?_) (fun q98 => ?_)
            · have t := t.1 q98
              refine r_iconst (v := (0 : Int32)) dX10_setMark_115 rfl ?_
              refine r_cVI (c := 63) (As := [.int (0 : Int32)]) dX10_setMark_116 mkX10_throwsAs lkX10_147 lay_63 rfl rfl rfl (by decide) rfl (Nat.le_of_ble_eq_true rfl) z00 t ?_
              intro v99 h99 t
              refine r_if_eq (tgt := 124) dX10_setMark_119 (by decide) (fun q100 => ?_) (fun q100 => ?_)
              · have t := t.1 q100
                refine r_aload_n (q := 3) dX10_setMark_124 rfl rfl ?_
                refine r_cVV (c := 63) (As := []) dX10_setMark_125 mkX10_keeps lkX10_251 lay_63 rfl rfl rfl (by decide) rfl (Nat.le_of_ble_eq_true rfl) z00 t ?_
                intro h101 t
                refine r_aload_n (q := 3) dX10_setMark_128 rfl rfl ?_
                refine r_getR (c := 63) (c2 := 68) dX10_setMark_129 flX10_22 lay_63 rfl ?_
                refine r_iconst (v := (1 : Int32)) dX10_setMark_132 rfl ?_
                refine r_iload_n (q := 4) dX10_setMark_133 rfl rfl ?_
                refine r_iadd dX10_setMark_134 ?_
                refine r_iload (q := 1) dX10_setMark_135 rfl ?_
                obtain ⟨c102, t⟩ := t
                refine r_iast (c := 68) dX10_setMark_137 lay_68 c102 ?_
                refine r_aload_n (q := 3) dX10_setMark_138 rfl rfl ?_
                refine r_cVV (c := 63) (As := []) dX10_setMark_139 mkX10_laysAll lkX10_254 lay_63 rfl rfl rfl (by decide) rfl (Nat.le_of_ble_eq_true rfl) z00 t ?_
                intro h103 t
                refine r_aload_n (q := 3) dX10_setMark_142 rfl rfl ?_
                refine r_getI (c := 63) dX10_setMark_143 flX10_206 lay_63 rfl ?_
                exact r_iret dX10_setMark_146 rfl t
              · have t := t.2 q100
                refine r_iconst (v := (0 : Int32)) dX10_setMark_122 rfl ?_
                exact r_iret dX10_setMark_123 rfl t
            · have t := t.2 q98
              refine r_iconst (v := (2 : Int32)) dX10_setMark_111 rfl ?_
              refine r_goto (tgt := 116) dX10_setMark_112 (by decide) ?_
              refine r_cVI (c := 63) (As := [.int (2 : Int32)]) dX10_setMark_116 mkX10_throwsAs lkX10_147 lay_63 rfl rfl rfl (by decide) rfl (Nat.le_of_ble_eq_true rfl) z00 t ?_
              intro v104 h104 t
              refine r_if_eq (tgt := 124) dX10_setMark_119 (by decide) (fun q105 => ?_) (fun q105 => ?_)
              · have t := t.1 q105
                refine r_aload_n (q := 3) dX10_setMark_124 rfl rfl ?_
                refine r_cVV (c := 63) (As := []) dX10_setMark_125 mkX10_keeps lkX10_251 lay_63 rfl rfl rfl (by decide) rfl (Nat.le_of_ble_eq_true rfl) z00 t ?_
                intro h106 t
                refine r_aload_n (q := 3) dX10_setMark_128 rfl rfl ?_
                refine r_getR (c := 63) (c2 := 68) dX10_setMark_129 flX10_22 lay_63 rfl ?_
                refine r_iconst (v := (1 : Int32)) dX10_setMark_132 rfl ?_
                refine r_iload_n (q := 4) dX10_setMark_133 rfl rfl ?_
                refine r_iadd dX10_setMark_134 ?_
                refine r_iload (q := 1) dX10_setMark_135 rfl ?_
                obtain ⟨c107, t⟩ := t
                refine r_iast (c := 68) dX10_setMark_137 lay_68 c107 ?_
                refine r_aload_n (q := 3) dX10_setMark_138 rfl rfl ?_
                refine r_cVV (c := 63) (As := []) dX10_setMark_139 mkX10_laysAll lkX10_254 lay_63 rfl rfl rfl (by decide) rfl (Nat.le_of_ble_eq_true rfl) z00 t ?_
                intro h108 t
                refine r_aload_n (q := 3) dX10_setMark_142 rfl rfl ?_
                refine r_getI (c := 63) dX10_setMark_143 flX10_206 lay_63 rfl ?_
                exact r_iret dX10_setMark_146 rfl t
              · have t := t.2 q105
                refine r_iconst (v := (0 : Int32)) dX10_setMark_122 rfl ?_
                exact r_iret dX10_setMark_123 rfl t
          · have t := t.2 q96
            refine r_iconst (v := (1 : Int32)) dX10_setMark_88 rfl ?_
            refine r_goto (tgt := 93) dX10_setMark_89 (by decide) ?_
            refine r_istore (lv' := [(6, .int (1 : Int32)), (5, .int ((h63.1 68 (((1 : Int32) + a1).toNatClampNeg)) ||| ((1 : Int32) <<< (a2 &&& 31)))), (4, .int (h63.1 68 (((1 : Int32) + a1).toNatClampNeg))), (0, .ref (eA E 63)), (1, .int a1), (2, .int a2), (3, .int a3)]) dX10_setMark_93 (by decide) rfl ?_
            refine r_aload_n (q := 3) dX10_setMark_95 rfl rfl ?_
            refine r_getR (c := 63) (c2 := 68) dX10_setMark_96 flX10_22 lay_63 rfl ?_
            refine r_iconst (v := (1 : Int32)) dX10_setMark_99 rfl ?_
            refine r_iload_n (q := 4) dX10_setMark_100 rfl rfl ?_
            refine r_iadd dX10_setMark_101 ?_
            refine r_iload (q := 2) dX10_setMark_102 rfl ?_
            obtain ⟨c109, t⟩ := t
            refine r_iast (c := 68) dX10_setMark_104 lay_68 c109 ?_
            refine r_aload_n (q := 3) dX10_setMark_105 rfl rfl ?_
            refine r_iload (q := 0) dX10_setMark_106 rfl ?_
            refine r_if_eq (tgt := 115) dX10_setMark_108 (by decide) (fun q110 => ?_) (fun q110 => ?_)
            · have t := t.1 q110
              refine r_iconst (v := (0 : Int32)) dX10_setMark_115 rfl ?_
              refine r_cVI (c := 63) (As := [.int (0 : Int32)]) dX10_setMark_116 mkX10_throwsAs lkX10_147 lay_63 rfl rfl rfl (by decide) rfl (Nat.le_of_ble_eq_true rfl) z00 t ?_
              intro v111 h111 t
              refine r_if_eq (tgt := 124) dX10_setMark_119 (by decide) (fun q112 => ?_) (fun q112 => ?_)
              · have t := t.1 q112
                refine r_aload_n (q := 3) dX10_setMark_124 rfl rfl ?_
                refine r_cVV (c := 63) (As := []) dX10_setMark_125 mkX10_keeps lkX10_251 lay_63 rfl rfl rfl (by decide) rfl (Nat.le_of_ble_eq_true rfl) z00 t ?_
                intro h113 t
                refine r_aload_n (q := 3) dX10_setMark_128 rfl rfl ?_
                refine r_getR (c := 63) (c2 := 68) dX10_setMark_129 flX10_22 lay_63 rfl ?_
                refine r_iconst (v := (1 : Int32)) dX10_setMark_132 rfl ?_
                refine r_iload_n (q := 4) dX10_setMark_133 rfl rfl ?_
                refine r_iadd dX10_setMark_134 ?_
                refine r_iload (q := 1) dX10_setMark_135 rfl ?_
                obtain ⟨c114, t⟩ := t
                refine r_iast (c := 68) dX10_setMark_137 lay_68 c114 ?_
                refine r_aload_n (q := 3) dX10_setMark_138 rfl rfl ?_
                refine r_cVV (c := 63) (As := []) dX10_setMark_139 mkX10_laysAll lkX10_254 lay_63 rfl rfl rfl (by decide) rfl (Nat.le_of_ble_eq_true rfl) z00 t ?_
                intro h115 t
                refine r_aload_n (q := 3) dX10_setMark_142 rfl rfl ?_
                refine r_getI (c := 63) dX10_setMark_143 flX10_206 lay_63 rfl ?_
                exact r_iret dX10_setMark_146 rfl t
              · have t := t.2 q112
                refine r_iconst (v := (0 : Int32)) dX10_setMark_122 rfl ?_
                exact r_iret dX10_setMark_123 rfl t
            · have t := t.2 q110
              refine r_iconst (v := (2 : Int32)) dX10_setMark_111 rfl ?_
              refine r_goto (tgt := 116) dX10_setMark_112 (by decide) ?_
              refine r_cVI (c := 63) (As := [.int (2 : Int32)]) dX10_setMark_116 mkX10_throwsAs lkX10_147 lay_63 rfl rfl rfl (by decide) rfl (Nat.le_of_ble_eq_true rfl) z00 t ?_
              intro v116 h116 t
              refine r_if_eq (tgt := 124) dX10_setMark_119 (by decide) (fun q117 => ?_) (fun q117 => ?_)
              · have t := t.1 q117
                refine r_aload_n (q := 3) dX10_setMark_124 rfl rfl ?_
                refine r_cVV (c := 63) (As := []) dX10_setMark_125 mkX10_keeps lkX10_251 lay_63 rfl rfl rfl (by decide) rfl (Nat.le_of_ble_eq_true rfl) z00 t ?_
                intro h118 t
                refine r_aload_n (q := 3) dX10_setMark_128 rfl rfl ?_
                refine r_getR (c := 63) (c2 := 68) dX10_setMark_129 flX10_22 lay_63 rfl ?_
                refine r_iconst (v := (1 : Int32)) dX10_setMark_132 rfl ?_
                refine r_iload_n (q := 4) dX10_setMark_133 rfl rfl ?_
                refine r_iadd dX10_setMark_134 ?_
                refine r_iload (q := 1) dX10_setMark_135 rfl ?_
                obtain ⟨c119, t⟩ := t
                refine r_iast (c := 68) dX10_setMark_137 lay_68 c119 ?_
                refine r_aload_n (q := 3) dX10_setMark_138 rfl rfl ?_
                refine r_cVV (c := 63) (As := []) dX10_setMark_139 mkX10_laysAll lkX10_254 lay_63 rfl rfl rfl (by decide) rfl (Nat.le_of_ble_eq_true rfl) z00 t ?_
                intro h120 t
                refine r_aload_n (q := 3) dX10_setMark_142 rfl rfl ?_
                refine r_getI (c := 63) dX10_setMark_143 flX10_206 lay_63 rfl ?_
                exact r_iret dX10_setMark_146 rfl t
              · have t := t.2 q117
                refine r_iconst (v := (0 : Int32)) dX10_setMark_122 rfl ?_
                exact r_iret dX10_setMark_123 rfl t
      · have t := t.2 q64
        refine r_iconst (v := (0 : Int32)) dX10_setMark_33 rfl ?_
        exact r_iret dX10_setMark_34 rfl t
    · have t := t.2 q62
      refine r_iconst (v := (0 : Int32)) dX10_setMark_22 rfl ?_
      refine r_goto (tgt := 27) dX10_setMark_23 (by decide) ?_
      refine r_cVI (c := 63) (As := [.int (0 : Int32)]) dX10_setMark_27 mkX10_throwsAs lkX10_147 lay_63 rfl rfl rfl (by decide) rfl (Nat.le_of_ble_eq_true rfl) z00 t ?_
      intro v121 h121 t
      refine r_if_eq (tgt := 35) dX10_setMark_30 (by decide) (fun q122 => ?_) (fun q122 => ?_)
      · have t := t.1 q122
        refine r_aload_n (q := 0) dX10_setMark_35 rfl rfl ?_
        refine r_getR (c := 63) (c2 := 68) dX10_setMark_36 flX10_22 lay_63 rfl ?_
        refine r_iconst (v := (1 : Int32)) dX10_setMark_39 rfl ?_
        refine r_iload_n (q := 1) dX10_setMark_40 rfl rfl ?_
        refine r_iadd dX10_setMark_41 ?_
        obtain ⟨c123, t⟩ := t
        refine r_iald (c := 68) dX10_setMark_42 lay_68 c123 ?_
        refine r_istore (lv' := [(4, .int (h121.1 68 (((1 : Int32) + a1).toNatClampNeg))), (0, .ref (eA E 63)), (1, .int a1), (2, .int a2), (3, .int a3)]) dX10_setMark_43 (by decide) rfl ?_
        refine r_iload_n (q := 4) dX10_setMark_45 rfl rfl ?_
        refine r_if_eq (tgt := 58) dX10_setMark_46 (by decide) (fun q124 => ?_) (fun q124 => ?_)
        · have t := t.1 q124
          refine r_iload (q := 0) dX10_setMark_58 rfl ?_
          refine r_iconst (v := (1 : Int32)) dX10_setMark_60 rfl ?_
          refine r_iload_n (q := 3) dX10_setMark_61 rfl rfl ?_
          refine r_ishl dX10_setMark_62 ?_
          refine r_iconst (v := (-1 : Int32)) dX10_setMark_63 rfl ?_
          refine r_ixor dX10_setMark_64 ?_
          refine r_iand dX10_setMark_65 ?_
          refine r_istore (lv' := [(5, .int ((h121.1 68 (((1 : Int32) + a1).toNatClampNeg)) &&& (((1 : Int32) <<< (a2 &&& 31)) ^^^ (-1 : Int32)))), (4, .int (h121.1 68 (((1 : Int32) + a1).toNatClampNeg))), (0, .ref (eA E 63)), (1, .int a1), (2, .int a2), (3, .int a3)]) dX10_setMark_66 (by decide) rfl ?_
          refine r_aload_n (q := 2) dX10_setMark_68 rfl rfl ?_
          refine r_getR (c := 63) (c2 := 68) dX10_setMark_69 flX10_22 lay_63 rfl ?_
          refine r_iconst (v := (1 : Int32)) dX10_setMark_72 rfl ?_
          refine r_iload_n (q := 3) dX10_setMark_73 rfl rfl ?_
          refine r_iadd dX10_setMark_74 ?_
          refine r_iload (q := 0) dX10_setMark_75 rfl ?_
          obtain ⟨c125, t⟩ := t
          refine r_iast (c := 68) dX10_setMark_77 lay_68 c125 ?_
          refine r_aload_n (q := 2) dX10_setMark_78 rfl rfl ?_
          refine r_iload_n (q := 3) dX10_setMark_79 rfl rfl ?_
          refine r_cVI (c := 63) (As := [.int a1]) dX10_setMark_80 mkX10_longestSegment lkX10_257 lay_63 rfl rfl rfl (by decide) rfl (Nat.le_of_ble_eq_true rfl) z00 t ?_
          intro v126 h126 t
          refine r_bipush (v := (10 : Int32)) dX10_setMark_83 rfl ?_
          refine r_icmp_le (tgt := 92) dX10_setMark_85 (by decide) (fun q127 => ?_) (fun q127 => ?_)
          · have t := t.1 q127
            refine r_iconst (v := (0 : Int32)) dX10_setMark_92 rfl ?_
            refine r_istore (lv' := [(6, .int (0 : Int32)), (5, .int ((h121.1 68 (((1 : Int32) + a1).toNatClampNeg)) &&& (((1 : Int32) <<< (a2 &&& 31)) ^^^ (-1 : Int32)))), (4, .int (h121.1 68 (((1 : Int32) + a1).toNatClampNeg))), (0, .ref (eA E 63)), (1, .int a1), (2, .int a2), (3, .int a3)]) dX10_setMark_93 (by decide) rfl ?_
            refine r_aload_n (q := 3) dX10_setMark_95 rfl rfl ?_
            refine r_getR (c := 63) (c2 := 68) dX10_setMark_96 flX10_22 lay_63 rfl ?_
            refine r_iconst (v := (1 : Int32)) dX10_setMark_99 rfl ?_
            refine r_iload_n (q := 4) dX10_setMark_100 rfl rfl ?_
            refine r_iadd dX10_setMark_101 ?_
            refine r_iload (q := 2) dX10_setMark_102 rfl ?_
            obtain ⟨c128, t⟩ := t
            refine r_iast (c := 68) dX10_setMark_104 lay_68 c128 ?_
            refine r_aload_n (q := 3) dX10_setMark_105 rfl rfl ?_
            refine r_iload (q := 0) dX10_setMark_106 rfl ?_
            refine r_if_eq (tgt := 115) dX10_setMark_108 (by decide) (fun q129 => ?_) (fun q129 => ?_)
            · have t := t.1 q129
              refine r_iconst (v := (0 : Int32)) dX10_setMark_115 rfl ?_
              refine r_cVI (c := 63) (As := [.int (0 : Int32)]) dX10_setMark_116 mkX10_throwsAs lkX10_147 lay_63 rfl rfl rfl (by decide) rfl (Nat.le_of_ble_eq_true rfl) z00 t ?_
              intro v130 h130 t
              refine r_if_eq (tgt := 124) dX10_setMark_119 (by decide) (fun q131 => ?_) (fun q131 => ?_)
              · have t := t.1 q131
                refine r_aload_n (q := 3) dX10_setMark_124 rfl rfl ?_
                refine r_cVV (c := 63) (As := []) dX10_setMark_125 mkX10_keeps lkX10_251 lay_63 rfl rfl rfl (by decide) rfl (Nat.le_of_ble_eq_true rfl) z00 t ?_
                intro h132 t
                refine r_aload_n (q := 3) dX10_setMark_128 rfl rfl ?_
                refine r_getR (c := 63) (c2 := 68) dX10_setMark_129 flX10_22 lay_63 rfl ?_
                refine r_iconst (v := (1 : Int32)) dX10_setMark_132 rfl ?_
                refine r_iload_n (q := 4) dX10_setMark_133 rfl rfl ?_
                refine r_iadd dX10_setMark_134 ?_
                refine r_iload (q := 1) dX10_setMark_135 rfl ?_
                obtain ⟨c133, t⟩ := t
                refine r_iast (c := 68) dX10_setMark_137 lay_68 c133 ?_
                refine r_aload_n (q := 3) dX10_setMark_138 rfl rfl ?_
                refine r_cVV (c := 63) (As := []) dX10_setMark_139 mkX10_laysAll lkX10_254 lay_63 rfl rfl rfl (by decide) rfl (Nat.le_of_ble_eq_true rfl) z00 t ?_
                intro h134 t
                refine r_aload_n (q := 3) dX10_setMark_142 rfl rfl ?_
                refine r_getI (c := 63) dX10_setMark_143 flX10_206 lay_63 rfl ?_
                exact r_iret dX10_setMark_146 rfl t
              · have t := t.2 q131
                refine r_iconst (v := (0 : Int32)) dX10_setMark_122 rfl ?_
                exact r_iret dX10_setMark_123 rfl t
            · have t := t.2 q129
              refine r_iconst (v := (2 : Int32)) dX10_setMark_111 rfl ?_
              refine r_goto (tgt := 116) dX10_setMark_112 (by decide) ?_
              refine r_cVI (c := 63) (As := [.int (2 : Int32)]) dX10_setMark_116 mkX10_throwsAs lkX10_147 lay_63 rfl rfl rfl (by decide) rfl (Nat.le_of_ble_eq_true rfl) z00 t ?_
              intro v135 h135 t
              refine r_if_eq (tgt := 124) dX10_setMark_119 (by decide) (fun q136 => ?_) (fun q136 => ?_)
              · have t := t.1 q136
                refine r_aload_n (q := 3) dX10_setMark_124 rfl rfl ?_
                refine r_cVV (c := 63) (As := []) dX10_setMark_125 mkX10_keeps lkX10_251 lay_63 rfl rfl rfl (by decide) rfl (Nat.le_of_ble_eq_true rfl) z00 t ?_
                intro h137 t
                refine r_aload_n (q := 3) dX10_setMark_128 rfl rfl ?_
                refine r_getR (c := 63) (c2 := 68) dX10_setMark_129 flX10_22 lay_63 rfl ?_
                refine r_iconst (v := (1 : Int32)) dX10_setMark_132 rfl ?_
                refine r_iload_n (q := 4) dX10_setMark_133 rfl rfl ?_
                refine r_iadd dX10_setMark_134 ?_
                refine r_iload (q := 1) dX10_setMark_135 rfl ?_
                obtain ⟨c138, t⟩ := t
                refine r_iast (c := 68) dX10_setMark_137 lay_68 c138 ?_
                refine r_aload_n (q := 3) dX10_setMark_138 rfl rfl ?_
                refine r_cVV (c := 63) (As := []) dX10_setMark_139 mkX10_laysAll lkX10_254 lay_63 rfl rfl rfl (by decide) rfl (Nat.le_of_ble_eq_true rfl) z00 t ?_
                intro h139 t
                refine r_aload_n (q := 3) dX10_setMark_142 rfl rfl ?_
                refine r_getI (c := 63) dX10_setMark_143 flX10_206 lay_63 rfl ?_
                exact r_iret dX10_setMark_146 rfl t
              · have t := t.2 q136
                refine r_iconst (v := (0 : Int32)) dX10_setMark_122 rfl ?_
                exact r_iret dX10_setMark_123 rfl t
          · have t := t.2 q127
            refine r_iconst (v := (1 : Int32)) dX10_setMark_88 rfl ?_
            refine r_goto (tgt := 93) dX10_setMark_89 (by decide) ?_
            refine r_istore (lv' := [(6, .int (1 : Int32)), (5, .int ((h121.1 68 (((1 : Int32) + a1).toNatClampNeg)) &&& (((1 : Int32) <<< (a2 &&& 31)) ^^^ (-1 : Int32)))), (4, .int (h121.1 68 (((1 : Int32) + a1).toNatClampNeg))), (0, .ref (eA E 63)), (1, .int a1), (2, .int a2), (3, .int a3)]) dX10_setMark_93 (by decide) rfl ?_
            refine r_aload_n (q := 3) dX10_setMark_95 rfl rfl ?_
            refine r_getR (c := 63) (c2 := 68) dX10_setMark_96 flX10_22 lay_63 rfl ?_
            refine r_iconst (v := (1 : Int32)) dX10_setMark_99 rfl ?_
            refine r_iload_n (q := 4) dX10_setMark_100 rfl rfl ?_
            refine r_iadd dX10_setMark_101 ?_
            refine r_iload (q := 2) dX10_setMark_102 rfl ?_
            obtain ⟨c140, t⟩ := t
            refine r_iast (c := 68) dX10_setMark_104 lay_68 c140 ?_
            refine r_aload_n (q := 3) dX10_setMark_105 rfl rfl ?_
            refine r_iload (q := 0) dX10_setMark_106 rfl ?_
            refine r_if_eq (tgt := 115) dX10_setMark_108 (by decide) (fun q141 => ?_) (fun q141 => ?_)
            · have t := t.1 q141
              refine r_iconst (v := (0 : Int32)) dX10_setMark_115 rfl ?_
              refine r_cVI (c := 63) (As := [.int (0 : Int32)]) dX10_setMark_116 mkX10_throwsAs lkX10_147 lay_63 rfl rfl rfl (by decide) rfl (Nat.le_of_ble_eq_true rfl) z00 t ?_
              intro v142 h142 t
              refine r_if_eq (tgt := 124) dX10_setMark_119 (by decide) (fun q143 => ?_) (fun q143 => ?_)
              · have t := t.1 q143
                refine r_aload_n (q := 3) dX10_setMark_124 rfl rfl ?_
                refine r_cVV (c := 63) (As := []) dX10_setMark_125 mkX10_keeps lkX10_251 lay_63 rfl rfl rfl (by decide) rfl (Nat.le_of_ble_eq_true rfl) z00 t ?_
                intro h144 t
                refine r_aload_n (q := 3) dX10_setMark_128 rfl rfl ?_
                refine r_getR (c := 63) (c2 := 68) dX10_setMark_129 flX10_22 lay_63 rfl ?_
                refine r_iconst (v := (1 : Int32)) dX10_setMark_132 rfl ?_
                refine r_iload_n (q := 4) dX10_setMark_133 rfl rfl ?_
                refine r_iadd dX10_setMark_134 ?_
                refine r_iload (q := 1) dX10_setMark_135 rfl ?_
                obtain ⟨c145, t⟩ := t
                refine r_iast (c := 68) dX10_setMark_137 lay_68 c145 ?_
                refine r_aload_n (q := 3) dX10_setMark_138 rfl rfl ?_
                refine r_cVV (c := 63) (As := []) dX10_setMark_139 mkX10_laysAll lkX10_254 lay_63 rfl rfl rfl (by decide) rfl (Nat.le_of_ble_eq_true rfl) z00 t ?_
                intro h146 t
                refine r_aload_n (q := 3) dX10_setMark_142 rfl rfl ?_
                refine r_getI (c := 63) dX10_setMark_143 flX10_206 lay_63 rfl ?_
                exact r_iret dX10_setMark_146 rfl t
              · have t := t.2 q143
                refine r_iconst (v := (0 : Int32)) dX10_setMark_122 rfl ?_
                exact r_iret dX10_setMark_123 rfl t
            · have t := t.2 q141
              refine r_iconst (v := (2 : Int32)) dX10_setMark_111 rfl ?_
              refine r_goto (tgt := 116) dX10_setMark_112 (by decide) ?_
              refine r_cVI (c := 63) (As := [.int (2 : Int32)]) dX10_setMark_116 mkX10_throwsAs lkX10_147 lay_63 rfl rfl rfl (by decide) rfl (Nat.le_of_ble_eq_true rfl) z00 t ?_
              intro v147 h147 t
              refine r_if_eq (tgt := 124) dX10_setMark_119 (by decide) (fun q148 => ?_) (fun q148 => ?_)
              · have t := t.1 q148
                refine r_aload_n (q := 3) dX10_setMark_124 rfl rfl ?_
                refine r_cVV (c := 63) (As := []) dX10_setMark_125 mkX10_keeps lkX10_251 lay_63 rfl rfl rfl (by decide) rfl (Nat.le_of_ble_eq_true rfl) z00 t ?_
                intro h149 t
                refine r_aload_n (q := 3) dX10_setMark_128 rfl rfl ?_
                refine r_getR (c := 63) (c2 := 68) dX10_setMark_129 flX10_22 lay_63 rfl ?_
                refine r_iconst (v := (1 : Int32)) dX10_setMark_132 rfl ?_
                refine r_iload_n (q := 4) dX10_setMark_133 rfl rfl ?_
                refine r_iadd dX10_setMark_134 ?_
                refine r_iload (q := 1) dX10_setMark_135 rfl ?_
                obtain ⟨c150, t⟩ := t
                refine r_iast (c := 68) dX10_setMark_137 lay_68 c150 ?_
                refine r_aload_n (q := 3) dX10_setMark_138 rfl rfl ?_
                refine r_cVV (c := 63) (As := []) dX10_setMark_139 mkX10_laysAll lkX10_254 lay_63 rfl rfl rfl (by decide) rfl (Nat.le_of_ble_eq_true rfl) z00 t ?_
                intro h151 t
                refine r_aload_n (q := 3) dX10_setMark_142 rfl rfl ?_
                refine r_getI (c := 63) dX10_setMark_143 flX10_206 lay_63 rfl ?_
                exact r_iret dX10_setMark_146 rfl t
              · have t := t.2 q148
                refine r_iconst (v := (0 : Int32)) dX10_setMark_122 rfl ?_
                exact r_iret dX10_setMark_123 rfl t
        · have t := t.2 q124
          refine r_iload (q := 0) dX10_setMark_49 rfl ?_
          refine r_iconst (v := (1 : Int32)) dX10_setMark_51 rfl ?_
          refine r_iload_n (q := 3) dX10_setMark_52 rfl rfl ?_
          refine r_ishl dX10_setMark_53 ?_
          refine r_ior dX10_setMark_54 ?_
          refine r_goto (tgt := 66) dX10_setMark_55 (by decide) ?_
          refine r_istore (lv' := [(5, .int ((h121.1 68 (((1 : Int32) + a1).toNatClampNeg)) ||| ((1 : Int32) <<< (a2 &&& 31)))), (4, .int (h121.1 68 (((1 : Int32) + a1).toNatClampNeg))), (0, .ref (eA E 63)), (1, .int a1), (2, .int a2), (3, .int a3)]) dX10_setMark_66 (by decide) rfl ?_
          refine r_aload_n (q := 2) dX10_setMark_68 rfl rfl ?_
          refine r_getR (c := 63) (c2 := 68) dX10_setMark_69 flX10_22 lay_63 rfl ?_
          refine r_iconst (v := (1 : Int32)) dX10_setMark_72 rfl ?_
          refine r_iload_n (q := 3) dX10_setMark_73 rfl rfl ?_
          refine r_iadd dX10_setMark_74 ?_
          refine r_iload (q := 0) dX10_setMark_75 rfl ?_
          obtain ⟨c152, t⟩ := t
          refine r_iast (c := 68) dX10_setMark_77 lay_68 c152 ?_
          refine r_aload_n (q := 2) dX10_setMark_78 rfl rfl ?_
          refine r_iload_n (q := 3) dX10_setMark_79 rfl rfl ?_
          refine r_cVI (c := 63) (As := [.int a1]) dX10_setMark_80 mkX10_longestSegment lkX10_257 lay_63 rfl rfl rfl (by decide) rfl (Nat.le_of_ble_eq_true rfl) z00 t ?_
          intro v153 h153 t
          refine r_bipush (v := (10 : Int32)) dX10_setMark_83 rfl ?_
          refine r_icmp_le (tgt := 92) dX10_setMark_85 (by decide) (fun q154 => ?_) (fun q154 => ?_)
          · have t := t.1 q154
            refine r_iconst (v := (0 : Int32)) dX10_setMark_92 rfl ?_
            refine r_istore (lv' := [(6, .int (0 : Int32)), (5, .int ((h121.1 68 (((1 : Int32) + a1).toNatClampNeg)) ||| ((1 : Int32) <<< (a2 &&& 31)))), (4, .int (h121.1 68 (((1 : Int32) + a1).toNatClampNeg))), (0, .ref (eA E 63)), (1, .int a1), (2, .int a2), (3, .int a3)]) dX10_setMark_93 (by decide) rfl ?_
            refine r_aload_n (q := 3) dX10_setMark_95 rfl rfl ?_
            refine r_getR (c := 63) (c2 := 68) dX10_setMark_96 flX10_22 lay_63 rfl ?_
            refine r_iconst (v := (1 : Int32)) dX10_setMark_99 rfl ?_
            refine r_iload_n (q := 4) dX10_setMark_100 rfl rfl ?_
            refine r_iadd dX10_setMark_101 ?_
            refine r_iload (q := 2) dX10_setMark_102 rfl ?_
            obtain ⟨c155, t⟩ := t
            refine r_iast (c := 68) dX10_setMark_104 lay_68 c155 ?_
            refine r_aload_n (q := 3) dX10_setMark_105 rfl rfl ?_
            refine r_iload (q := 0) dX10_setMark_106 rfl ?_
            refine r_if_eq (tgt := 115) dX10_setMark_108 (by decide) (fun q156 => ?_) (fun q156 => ?_)
            · have t := t.1 q156
              refine r_iconst (v := (0 : Int32)) dX10_setMark_115 rfl ?_
              refine r_cVI (c := 63) (As := [.int (0 : Int32)]) dX10_setMark_116 mkX10_throwsAs lkX10_147 lay_63 rfl rfl rfl (by decide) rfl (Nat.le_of_ble_eq_true rfl) z00 t ?_
              intro v157 h157 t
              refine r_if_eq (tgt := 124) dX10_setMark_119 (by decide) (fun q158 => ?_) (fun q158 => ?_)
              · have t := t.1 q158
                refine r_aload_n (q := 3) dX10_setMark_124 rfl rfl ?_
                refine r_cVV (c := 63) (As := []) dX10_setMark_125 mkX10_keeps lkX10_251 lay_63 rfl rfl rfl (by decide) rfl (Nat.le_of_ble_eq_true rfl) z00 t ?_
                intro h159 t
                refine r_aload_n (q := 3) dX10_setMark_128 rfl rfl ?_
                refine r_getR (c := 63) (c2 := 68) dX10_setMark_129 flX10_22 lay_63 rfl ?_
                refine r_iconst (v := (1 : Int32)) dX10_setMark_132 rfl ?_
                refine r_iload_n (q := 4) dX10_setMark_133 rfl rfl ?_
                refine r_iadd dX10_setMark_134 ?_
                refine r_iload (q := 1) dX10_setMark_135 rfl ?_
                obtain ⟨c160, t⟩ := t
                refine r_iast (c := 68) dX10_setMark_137 lay_68 c160 ?_
                refine r_aload_n (q := 3) dX10_setMark_138 rfl rfl ?_
                refine r_cVV (c := 63) (As := []) dX10_setMark_139 mkX10_laysAll lkX10_254 lay_63 rfl rfl rfl (by decide) rfl (Nat.le_of_ble_eq_true rfl) z00 t ?_
                intro h161 t
                refine r_aload_n (q := 3) dX10_setMark_142 rfl rfl ?_
                refine r_getI (c := 63) dX10_setMark_143 flX10_206 lay_63 rfl ?_
                exact r_iret dX10_setMark_146 rfl t
              · have t := t.2 q158
                refine r_iconst (v := (0 : Int32)) dX10_setMark_122 rfl ?_
                exact r_iret dX10_setMark_123 rfl t
            · have t := t.2 q156
              refine r_iconst (v := (2 : Int32)) dX10_setMark_111 rfl ?_
              refine r_goto (tgt := 116) dX10_setMark_112 (by decide) ?_
              refine r_cVI (c := 63) (As := [.int (2 : Int32)]) dX10_setMark_116 mkX10_throwsAs lkX10_147 lay_63 rfl rfl rfl (by decide) rfl (Nat.le_of_ble_eq_true rfl) z00 t ?_
              intro v162 h162 t
              refine r_if_eq (tgt := 124) dX10_setMark_119 (by decide) (fun q163 => ?_) (fun q163 => ?_)
              · have t := t.1 q163
                refine r_aload_n (q := 3) dX10_setMark_124 rfl rfl ?_
                refine r_cVV (c := 63) (As := []) dX10_setMark_125 mkX10_keeps lkX10_251 lay_63 rfl rfl rfl (by decide) rfl (Nat.le_of_ble_eq_true rfl) z00 t ?_
                intro h164 t
                refine r_aload_n (q := 3) dX10_setMark_128 rfl rfl ?_
                refine r_getR (c := 63) (c2 := 68) dX10_setMark_129 flX10_22 lay_63 rfl ?_
                refine r_iconst (v := (1 : Int32)) dX10_setMark_132 rfl ?_
                refine r_iload_n (q := 4) dX10_setMark_133 rfl rfl ?_
                refine r_iadd dX10_setMark_134 ?_
                refine r_iload (q := 1) dX10_setMark_135 rfl ?_
                obtain ⟨c165, t⟩ := t
                refine r_iast (c := 68) dX10_setMark_137 lay_68 c165 ?_
                refine r_aload_n (q := 3) dX10_setMark_138 rfl rfl ?_
                refine r_cVV (c := 63) (As := []) dX10_setMark_139 mkX10_laysAll lkX10_254 lay_63 rfl rfl rfl (by decide) rfl (Nat.le_of_ble_eq_true rfl) z00 t ?_
                intro h166 t
                refine r_aload_n (q := 3) dX10_setMark_142 rfl rfl ?_
                refine r_getI (c := 63) dX10_setMark_143 flX10_206 lay_63 rfl ?_
                exact r_iret dX10_setMark_146 rfl t
              · have t := t.2 q163
                refine r_iconst (v := (0 : Int32)) dX10_setMark_122 rfl ?_
                exact r_iret dX10_setMark_123 rfl t
          · have t := t.2 q154
            refine r_iconst (v := (1 : Int32)) dX10_setMark_88 rfl ?_
            refine r_goto (tgt := 93) dX10_setMark_89 (by decide) ?_
            refine r_istore (lv' := [(6, .int (1 : Int32)), (5, .int ((h121.1 68 (((1 : Int32) + a1).toNatClampNeg)) ||| ((1 : Int32) <<< (a2 &&& 31)))), (4, .int (h121.1 68 (((1 : Int32) + a1).toNatClampNeg))), (0, .ref (eA E 63)), (1, .int a1), (2, .int a2), (3, .int a3)]) dX10_setMark_93 (by decide) rfl ?_
            refine r_aload_n (q := 3) dX10_setMark_95 rfl rfl ?_
            refine r_getR (c := 63) (c2 := 68) dX10_setMark_96 flX10_22 lay_63 rfl ?_
            refine r_iconst (v := (1 : Int32)) dX10_setMark_99 rfl ?_
            refine r_iload_n (q := 4) dX10_setMark_100 rfl rfl ?_
            refine r_iadd dX10_setMark_101 ?_
            refine r_iload (q := 2) dX10_setMark_102 rfl ?_
            obtain ⟨c167, t⟩ := t
            refine r_iast (c := 68) dX10_setMark_104 lay_68 c167 ?_
            refine r_aload_n (q := 3) dX10_setMark_105 rfl rfl ?_
            refine r_iload (q := 0) dX10_setMark_106 rfl ?_
            refine r_if_eq (tgt := 115) dX10_setMark_108 (by decide) (fun q168 => ?_) (fun q168 => ?_)
            · have t := t.1 q168
              refine r_iconst (v := (0 : Int32)) dX10_setMark_115 rfl ?_
              refine r_cVI (c := 63) (As := [.int (0 : Int32)]) dX10_setMark_116 mkX10_throwsAs lkX10_147 lay_63 rfl rfl rfl (by decide) rfl (Nat.le_of_ble_eq_true rfl) z00 t ?_
              intro v169 h169 t
              refine r_if_eq (tgt := 124) dX10_setMark_119 (by decide) (fun q170 => ?_) (fun q170 => ?_)
              · have t := t.1 q170
                refine r_aload_n (q := 3) dX10_setMark_124 rfl rfl ?_
                refine r_cVV (c := 63) (As := []) dX10_setMark_125 mkX10_keeps lkX10_251 lay_63 rfl rfl rfl (by decide) rfl (Nat.le_of_ble_eq_true rfl) z00 t ?_
                intro h171 t
                refine r_aload_n (q := 3) dX10_setMark_128 rfl rfl ?_
                refine r_getR (c := 63) (c2 := 68) dX10_setMark_129 flX10_22 lay_63 rfl ?_
                refine r_iconst (v := (1 : Int32)) dX10_setMark_132 rfl ?_
                refine r_iload_n (q := 4) dX10_setMark_133 rfl rfl ?_
                refine r_iadd dX10_setMark_134 ?_
                refine r_iload (q := 1) dX10_setMark_135 rfl ?_
                obtain ⟨c172, t⟩ := t
                refine r_iast (c := 68) dX10_setMark_137 lay_68 c172 ?_
                refine r_aload_n (q := 3) dX10_setMark_138 rfl rfl ?_
                refine r_cVV (c := 63) (As := []) dX10_setMark_139 mkX10_laysAll lkX10_254 lay_63 rfl rfl rfl (by decide) rfl (Nat.le_of_ble_eq_true rfl) z00 t ?_
                intro h173 t
                refine r_aload_n (q := 3) dX10_setMark_142 rfl rfl ?_
                refine r_getI (c := 63) dX10_setMark_143 flX10_206 lay_63 rfl ?_
                exact r_iret dX10_setMark_146 rfl t
              · have t := t.2 q170
                refine r_iconst (v := (0 : Int32)) dX10_setMark_122 rfl ?_
                exact r_iret dX10_setMark_123 rfl t
            · have t := t.2 q168
              refine r_iconst (v := (2 : Int32)) dX10_setMark_111 rfl ?_
              refine r_goto (tgt := 116) dX10_setMark_112 (by decide) ?_
              refine r_cVI (c := 63) (As := [.int (2 : Int32)]) dX10_setMark_116 mkX10_throwsAs lkX10_147 lay_63 rfl rfl rfl (by decide) rfl (Nat.le_of_ble_eq_true rfl) z00 t ?_
              intro v174 h174 t
              refine r_if_eq (tgt := 124) dX10_setMark_119 (by decide) (fun q175 => ?_) (fun q175 => ?_)
              · have t := t.1 q175
                refine r_aload_n (q := 3) dX10_setMark_124 rfl rfl ?_
                refine r_cVV (c := 63) (As := []) dX10_setMark_125 mkX10_keeps lkX10_251 lay_63 rfl rfl rfl (by decide) rfl (Nat.le_of_ble_eq_true rfl) z00 t ?_
                intro h176 t
                refine r_aload_n (q := 3) dX10_setMark_128 rfl rfl ?_
                refine r_getR (c := 63) (c2 := 68) dX10_setMark_129 flX10_22 lay_63 rfl ?_
                refine r_iconst (v := (1 : Int32)) dX10_setMark_132 rfl ?_
                refine r_iload_n (q := 4) dX10_setMark_133 rfl rfl ?_
                refine r_iadd dX10_setMark_134 ?_
                refine r_iload (q := 1) dX10_setMark_135 rfl ?_
                obtain ⟨c177, t⟩ := t
                refine r_iast (c := 68) dX10_setMark_137 lay_68 c177 ?_
                refine r_aload_n (q := 3) dX10_setMark_138 rfl rfl ?_
                refine r_cVV (c := 63) (As := []) dX10_setMark_139 mkX10_laysAll lkX10_254 lay_63 rfl rfl rfl (by decide) rfl (Nat.le_of_ble_eq_true rfl) z00 t ?_
                intro h178 t
                refine r_aload_n (q := 3) dX10_setMark_142 rfl rfl ?_
                refine r_getI (c := 63) dX10_setMark_143 flX10_206 lay_63 rfl ?_
                exact r_iret dX10_setMark_146 rfl t
              · have t := t.2 q175
                refine r_iconst (v := (0 : Int32)) dX10_setMark_122 rfl ?_
                exact r_iret dX10_setMark_123 rfl t
      · have t := t.2 q122
        refine r_iconst (v := (0 : Int32)) dX10_setMark_33 rfl ?_
        exact r_iret dX10_setMark_34 rfl t
theorem dX10_undo_0 : decode cX10_undo 0 = .ok (.aload_n 0, 1) := by decide +kernel
theorem dX10_undo_1 : decode cX10_undo 1 = .ok (.iconst 0, 1) := by decide +kernel
theorem dX10_undo_2 : decode cX10_undo 2 = .ok (.putfield 118, 3) := by decide +kernel
theorem dX10_undo_5 : decode cX10_undo 5 = .ok (.aload_n 0, 1) := by decide +kernel
theorem dX10_undo_6 : decode cX10_undo 6 = .ok (.getfield 248, 3) := by decide +kernel
theorem dX10_undo_9 : decode cX10_undo 9 = .ok (.ifCond .ne 5, 3) := by decide +kernel
theorem dX10_undo_12 : decode cX10_undo 12 = .ok (.iconst (-1), 1) := by decide +kernel
theorem dX10_undo_13 : decode cX10_undo 13 = .ok (.ireturn, 1) := by decide +kernel
theorem dX10_undo_14 : decode cX10_undo 14 = .ok (.aload_n 0, 1) := by decide +kernel
theorem dX10_undo_15 : decode cX10_undo 15 = .ok (.dup, 1) := by decide +kernel
theorem dX10_undo_16 : decode cX10_undo 16 = .ok (.getfield 248, 3) := by decide +kernel
theorem dX10_undo_19 : decode cX10_undo 19 = .ok (.iconst 1, 1) := by decide +kernel
theorem dX10_undo_20 : decode cX10_undo 20 = .ok (.isub, 1) := by decide +kernel
theorem dX10_undo_21 : decode cX10_undo 21 = .ok (.putfield 248, 3) := by decide +kernel
theorem dX10_undo_24 : decode cX10_undo 24 = .ok (.iconst 0, 1) := by decide +kernel
theorem dX10_undo_25 : decode cX10_undo 25 = .ok (.istore_n 1, 1) := by decide +kernel
theorem dX10_undo_26 : decode cX10_undo 26 = .ok (.iload_n 1, 1) := by decide +kernel
theorem dX10_undo_27 : decode cX10_undo 27 = .ok (.bipush 9, 2) := by decide +kernel
theorem dX10_undo_29 : decode cX10_undo 29 = .ok (.if_icmp .ge 29, 3) := by decide +kernel
theorem dX10_undo_32 : decode cX10_undo 32 = .ok (.aload_n 0, 1) := by decide +kernel
theorem dX10_undo_33 : decode cX10_undo 33 = .ok (.getfield 22, 3) := by decide +kernel
theorem dX10_undo_36 : decode cX10_undo 36 = .ok (.iload_n 1, 1) := by decide +kernel
theorem dX10_undo_37 : decode cX10_undo 37 = .ok (.aload_n 0, 1) := by decide +kernel
theorem dX10_undo_38 : decode cX10_undo 38 = .ok (.getfield 77, 3) := by decide +kernel
theorem dX10_undo_41 : decode cX10_undo 41 = .ok (.bipush 9, 2) := by decide +kernel
theorem dX10_undo_43 : decode cX10_undo 43 = .ok (.aload_n 0, 1) := by decide +kernel
theorem dX10_undo_44 : decode cX10_undo 44 = .ok (.getfield 248, 3) := by decide +kernel
theorem dX10_undo_47 : decode cX10_undo 47 = .ok (.imul, 1) := by decide +kernel
theorem dX10_undo_48 : decode cX10_undo 48 = .ok (.iload_n 1, 1) := by decide +kernel
theorem dX10_undo_49 : decode cX10_undo 49 = .ok (.iadd, 1) := by decide +kernel
theorem dX10_undo_50 : decode cX10_undo 50 = .ok (.iaload, 1) := by decide +kernel
theorem dX10_undo_51 : decode cX10_undo 51 = .ok (.iastore, 1) := by decide +kernel
theorem dX10_undo_52 : decode cX10_undo 52 = .ok (.iinc 1 1, 3) := by decide +kernel
theorem dX10_undo_55 : decode cX10_undo 55 = .ok (.goto (-29), 3) := by decide +kernel
theorem dX10_undo_58 : decode cX10_undo 58 = .ok (.aload_n 0, 1) := by decide +kernel
theorem dX10_undo_59 : decode cX10_undo 59 = .ok (.invokevirtual 254, 3) := by decide +kernel
theorem dX10_undo_62 : decode cX10_undo 62 = .ok (.aload_n 0, 1) := by decide +kernel
theorem dX10_undo_63 : decode cX10_undo 63 = .ok (.getfield 248, 3) := by decide +kernel
theorem dX10_undo_66 : decode cX10_undo 66 = .ok (.ireturn, 1) := by decide +kernel
abbrev VX10_undo_26 (E : En) (d : Nat) (g : Ga) (P : Int32 → Hp → Prop) (x1 : Int32) (h : Hp) : Prop := V E MX10_undo (RM (d + 1) 0) g (QQ E g (QI E P) 0 0) 0 0 h 26 [(0, .ref (eA E 63)), (1, .int x1)] []
set_option maxRecDepth 20000 in
theorem wp_X10_undo (E : En) (d : Nat) (h : Hp) (P : Int32 → Hp → Prop) (t : ∀ g : Ga, (¬ (h.1 63 33) = 0 → (VX10_undo_26 E d g P (0 : Int32) (sI (sI h 63 0 (0 : Int32)) 63 33 ((h.1 63 33) - (1 : Int32))))) ∧ ((h.1 63 33) = 0 → (P (-1 : Int32) (sI h 63 0 (0 : Int32))))) : SpI E (d + 1) MX10_undo [.ref (eA E 63)] h P := by
  refine SpI.of (lv0 := [(0, .ref (eA E 63))]) (by decide) (Nat.le_of_ble_eq_true rfl) rfl (fun g => ?_)
  have t := t g
  refine r_aload_n (q := 0) dX10_undo_0 rfl rfl ?_
  refine r_iconst (v := (0 : Int32)) dX10_undo_1 rfl ?_
  refine r_putI (c := 63) dX10_undo_2 flX10_118 lay_63 rfl ?_
  refine r_aload_n (q := 0) dX10_undo_5 rfl rfl ?_
  refine r_getIv (c := 63) (v := h.1 63 33) dX10_undo_6 flX10_248 lay_63 rfl rfl ?_
  refine r_if_ne (tgt := 14) dX10_undo_9 (by decide) (fun q1 => ?_) (fun q1 => ?_)
  · have t := t.1 q1
    refine r_aload_n (q := 0) dX10_undo_14 rfl rfl ?_
    refine r_dup dX10_undo_15 rfl ?_
    refine r_getIv (c := 63) (v := h.1 63 33) dX10_undo_16 flX10_248 lay_63 rfl rfl ?_
    refine r_iconst (v := (1 : Int32)) dX10_undo_19 rfl ?_
    refine r_isub dX10_undo_20 ?_
    refine r_putI (c := 63) dX10_undo_21 flX10_248 lay_63 rfl ?_
    refine r_iconst (v := (0 : Int32)) dX10_undo_24 rfl ?_
    refine r_istore_n (lv' := [(1, .int (0 : Int32)), (0, .ref (eA E 63))]) dX10_undo_25 rfl (by decide) rfl ?_
    refine r_sub [1, 0] rfl ?_
    exact t
  · have t := t.2 q1
    refine r_iconst (v := (-1 : Int32)) dX10_undo_12 rfl ?_
    exact r_iret dX10_undo_13 rfl t
set_option maxRecDepth 20000 in
theorem sg_X10_undo_26 (E : En) (d : Nat) (g : Ga) (x1 : Int32) (h : Hp) (P : Int32 → Hp → Prop) (t : ((9 : Int32) ≤ x1 → (SpV E d MX10_laysAll [.ref (eA E 63)] h (fun h2 => P (h2.1 63 33) h2))) ∧ (¬ (9 : Int32) ≤ x1 → (vp_in (((9 : Int32) * (h.1 63 33)) + x1) 72 ∧ (vp_in x1 9 ∧ (VX10_undo_26 E d g P (x1 + (1 : Int32)) (sI h 68 x1.toNatClampNeg (h.1 86 ((((9 : Int32) * (h.1 63 33)) + x1).toNatClampNeg)))))))) : VX10_undo_26 E d g P x1 h := by
  refine r_iload_n (q := 1) dX10_undo_26 rfl rfl ?_
  refine r_bipush (v := (9 : Int32)) dX10_undo_27 rfl ?_
  refine r_icmp_ge (tgt := 58) dX10_undo_29 (by decide) (fun q1 => ?_) (fun q1 => ?_)
  · have t := t.1 q1
    refine r_aload_n (q := 0) dX10_undo_58 rfl rfl ?_
    refine r_cVV (c := 63) (As := []) dX10_undo_59 mkX10_laysAll lkX10_254 lay_63 rfl rfl rfl (by decide) rfl (Nat.le_of_ble_eq_true rfl) z00 t ?_
    intro h2 t
    refine r_aload_n (q := 0) dX10_undo_62 rfl rfl ?_
    refine r_getI (c := 63) dX10_undo_63 flX10_248 lay_63 rfl ?_
    exact r_iret dX10_undo_66 rfl t
  · have t := t.2 q1
    refine r_aload_n (q := 0) dX10_undo_32 rfl rfl ?_
    refine r_getR (c := 63) (c2 := 68) dX10_undo_33 flX10_22 lay_63 rfl ?_
    refine r_iload_n (q := 1) dX10_undo_36 rfl rfl ?_
    refine r_aload_n (q := 0) dX10_undo_37 rfl rfl ?_
    refine r_getR (c := 63) (c2 := 86) dX10_undo_38 flX10_77 lay_63 rfl ?_
    refine r_bipush (v := (9 : Int32)) dX10_undo_41 rfl ?_
    refine r_aload_n (q := 0) dX10_undo_43 rfl rfl ?_
    refine r_getI (c := 63) dX10_undo_44 flX10_248 lay_63 rfl ?_
    refine r_imul dX10_undo_47 ?_
    refine r_iload_n (q := 1) dX10_undo_48 rfl rfl ?_
    refine r_iadd dX10_undo_49 ?_
    obtain ⟨c3, t⟩ := t
    refine r_iald (c := 86) dX10_undo_50 lay_86 c3 ?_
    obtain ⟨c4, t⟩ := t
    refine r_iast (c := 68) dX10_undo_51 lay_68 c4 ?_
    refine r_iinc (k := 1) (v := x1 + (1 : Int32)) (lv' := [(1, .int (x1 + (1 : Int32))), (0, .ref (eA E 63))]) dX10_undo_52 rfl rfl (by decide) rfl ?_
    refine r_goto (tgt := 26) dX10_undo_55 (by decide) ?_
    refine r_sub [1, 0] rfl ?_
    exact t
theorem dX10_wordCount_0 : decode cX10_wordCount 0 = .ok (.aload_n 0, 1) := by decide +kernel
theorem dX10_wordCount_1 : decode cX10_wordCount 1 = .ok (.aload_n 0, 1) := by decide +kernel
theorem dX10_wordCount_2 : decode cX10_wordCount 2 = .ok (.iload_n 1, 1) := by decide +kernel
theorem dX10_wordCount_3 : decode cX10_wordCount 3 = .ok (.invokevirtual 128, 3) := by decide +kernel
theorem dX10_wordCount_6 : decode cX10_wordCount 6 = .ok (.ifCond .eq 7, 3) := by decide +kernel
theorem dX10_wordCount_9 : decode cX10_wordCount 9 = .ok (.iconst 0, 1) := by decide +kernel
theorem dX10_wordCount_10 : decode cX10_wordCount 10 = .ok (.goto 4, 3) := by decide +kernel
theorem dX10_wordCount_13 : decode cX10_wordCount 13 = .ok (.iconst 1, 1) := by decide +kernel
theorem dX10_wordCount_14 : decode cX10_wordCount 14 = .ok (.invokevirtual 147, 3) := by decide +kernel
theorem dX10_wordCount_17 : decode cX10_wordCount 17 = .ok (.ifCond .eq 7, 3) := by decide +kernel
theorem dX10_wordCount_20 : decode cX10_wordCount 20 = .ok (.iconst 0, 1) := by decide +kernel
theorem dX10_wordCount_21 : decode cX10_wordCount 21 = .ok (.goto 8, 3) := by decide +kernel
theorem dX10_wordCount_24 : decode cX10_wordCount 24 = .ok (.aload_n 0, 1) := by decide +kernel
theorem dX10_wordCount_25 : decode cX10_wordCount 25 = .ok (.iload_n 1, 1) := by decide +kernel
theorem dX10_wordCount_26 : decode cX10_wordCount 26 = .ok (.invokevirtual 212, 3) := by decide +kernel
theorem dX10_wordCount_29 : decode cX10_wordCount 29 = .ok (.ireturn, 1) := by decide +kernel
set_option maxRecDepth 20000 in
theorem wp_X10_wordCount (E : En) (d : Nat) (a1 : Int32) (h : Hp) (P : Int32 → Hp → Prop) (t : SpI E d MX10_isInstruction [.ref (eA E 63), .int a1] h (fun v1 h1 => (v1 = 0 → (SpI E d MX10_throwsAs [.ref (eA E 63), .int (1 : Int32)] h1 (fun v3 h3 => (v3 = 0 → (SpI E d MX10_wordsOf [.ref (eA E 63), .int a1] h3 (fun v5 h5 => P v5 h5))) ∧ (¬ v3 = 0 → (P (0 : Int32) h3))))) ∧ (¬ v1 = 0 → (SpI E d MX10_throwsAs [.ref (eA E 63), .int (0 : Int32)] h1 (fun v6 h6 => (v6 = 0 → (SpI E d MX10_wordsOf [.ref (eA E 63), .int a1] h6 (fun v8 h8 => P v8 h8))) ∧ (¬ v6 = 0 → (P (0 : Int32) h6))))))) : SpI E (d + 1) MX10_wordCount [.ref (eA E 63), .int a1] h P := by
  refine SpI.of (lv0 := [(0, .ref (eA E 63)), (1, .int a1)]) (by decide) (Nat.le_of_ble_eq_true rfl) rfl (fun g => ?_)
  refine r_aload_n (q := 0) dX10_wordCount_0 rfl rfl ?_
  refine r_aload_n (q := 0) dX10_wordCount_1 rfl rfl ?_
  refine r_iload_n (q := 1) dX10_wordCount_2 rfl rfl ?_
  refine r_cVI (c := 63) (As := [.int a1]) dX10_wordCount_3 mkX10_isInstruction lkX10_128 lay_63 rfl rfl rfl (by decide) rfl (Nat.le_of_ble_eq_true rfl) z00 t ?_
  intro v1 h1 t
  refine r_if_eq (tgt := 13) dX10_wordCount_6 (by decide) (fun q2 => ?_) (fun q2 => ?_)
  · have t := t.1 q2
    refine r_iconst (v := (1 : Int32)) dX10_wordCount_13 rfl ?_
    refine r_cVI (c := 63) (As := [.int (1 : Int32)]) dX10_wordCount_14 mkX10_throwsAs lkX10_147 lay_63 rfl rfl rfl (by decide) rfl (Nat.le_of_ble_eq_true rfl) z00 t ?_
    intro v3 h3 t
    refine r_if_eq (tgt := 24) dX10_wordCount_17 (by decide) (fun q4 => ?_) (fun q4 => ?_)
    · have t := t.1 q4
      refine r_aload_n (q := 0) dX10_wordCount_24 rfl rfl ?_
      refine r_iload_n (q := 1) dX10_wordCount_25 rfl rfl ?_
      refine r_cVI (c := 63) (As := [.int a1]) dX10_wordCount_26 mkX10_wordsOf lkX10_212 lay_63 rfl rfl rfl (by decide) rfl (Nat.le_of_ble_eq_true rfl) z00 t ?_
      intro v5 h5 t
      exact r_iret dX10_wordCount_29 rfl t
    · have t := t.2 q4
      refine r_iconst (v := (0 : Int32)) dX10_wordCount_20 rfl ?_
      refine r_goto (tgt := 29) dX10_wordCount_21 (by decide) ?_
      exact r_iret dX10_wordCount_29 rfl t
  · have t := t.2 q2
    refine r_iconst (v := (0 : Int32)) dX10_wordCount_9 rfl ?_
    refine r_goto (tgt := 14) dX10_wordCount_10 (by decide) ?_
    refine r_cVI (c := 63) (As := [.int (0 : Int32)]) dX10_wordCount_14 mkX10_throwsAs lkX10_147 lay_63 rfl rfl rfl (by decide) rfl (Nat.le_of_ble_eq_true rfl) z00 t ?_
    intro v6 h6 t
    refine r_if_eq (tgt := 24) dX10_wordCount_17 (by decide) (fun q7 => ?_) (fun q7 => ?_)
    · have t := t.1 q7
      refine r_aload_n (q := 0) dX10_wordCount_24 rfl rfl ?_
      refine r_iload_n (q := 1) dX10_wordCount_25 rfl rfl ?_
      refine r_cVI (c := 63) (As := [.int a1]) dX10_wordCount_26 mkX10_wordsOf lkX10_212 lay_63 rfl rfl rfl (by decide) rfl (Nat.le_of_ble_eq_true rfl) z00 t ?_
      intro v8 h8 t
      exact r_iret dX10_wordCount_29 rfl t
    · have t := t.2 q7
      refine r_iconst (v := (0 : Int32)) dX10_wordCount_20 rfl ?_
      refine r_goto (tgt := 29) dX10_wordCount_21 (by decide) ?_
      exact r_iret dX10_wordCount_29 rfl t
theorem dX10_word_0 : decode cX10_word 0 = .ok (.aload_n 0, 1) := by decide +kernel
theorem dX10_word_1 : decode cX10_word 1 = .ok (.aload_n 0, 1) := by decide +kernel
theorem dX10_word_2 : decode cX10_word 2 = .ok (.iload_n 1, 1) := by decide +kernel
theorem dX10_word_3 : decode cX10_word 3 = .ok (.invokevirtual 128, 3) := by decide +kernel
theorem dX10_word_6 : decode cX10_word 6 = .ok (.ifCond .eq 22, 3) := by decide +kernel
theorem dX10_word_9 : decode cX10_word 9 = .ok (.iload_n 2, 1) := by decide +kernel
theorem dX10_word_10 : decode cX10_word 10 = .ok (.iconst 0, 1) := by decide +kernel
theorem dX10_word_11 : decode cX10_word 11 = .ok (.aload_n 0, 1) := by decide +kernel
theorem dX10_word_12 : decode cX10_word 12 = .ok (.iload_n 1, 1) := by decide +kernel
theorem dX10_word_13 : decode cX10_word 13 = .ok (.invokevirtual 212, 3) := by decide +kernel
theorem dX10_word_16 : decode cX10_word 16 = .ok (.iconst 1, 1) := by decide +kernel
theorem dX10_word_17 : decode cX10_word 17 = .ok (.isub, 1) := by decide +kernel
theorem dX10_word_18 : decode cX10_word 18 = .ok (.invokestatic 124, 3) := by decide +kernel
theorem dX10_word_21 : decode cX10_word 21 = .ok (.ifCond .eq 7, 3) := by decide +kernel
theorem dX10_word_24 : decode cX10_word 24 = .ok (.iconst 0, 1) := by decide +kernel
theorem dX10_word_25 : decode cX10_word 25 = .ok (.goto 4, 3) := by decide +kernel
theorem dX10_word_28 : decode cX10_word 28 = .ok (.iconst 1, 1) := by decide +kernel
theorem dX10_word_29 : decode cX10_word 29 = .ok (.invokevirtual 147, 3) := by decide +kernel
theorem dX10_word_32 : decode cX10_word 32 = .ok (.ifCond .eq 7, 3) := by decide +kernel
theorem dX10_word_35 : decode cX10_word 35 = .ok (.iconst 0, 1) := by decide +kernel
theorem dX10_word_36 : decode cX10_word 36 = .ok (.goto 16, 3) := by decide +kernel
theorem dX10_word_39 : decode cX10_word 39 = .ok (.aload_n 0, 1) := by decide +kernel
theorem dX10_word_40 : decode cX10_word 40 = .ok (.getfield 40, 3) := by decide +kernel
theorem dX10_word_43 : decode cX10_word 43 = .ok (.aload_n 0, 1) := by decide +kernel
theorem dX10_word_44 : decode cX10_word 44 = .ok (.getfield 46, 3) := by decide +kernel
theorem dX10_word_47 : decode cX10_word 47 = .ok (.iload_n 1, 1) := by decide +kernel
theorem dX10_word_48 : decode cX10_word 48 = .ok (.iaload, 1) := by decide +kernel
theorem dX10_word_49 : decode cX10_word 49 = .ok (.iload_n 2, 1) := by decide +kernel
theorem dX10_word_50 : decode cX10_word 50 = .ok (.iadd, 1) := by decide +kernel
theorem dX10_word_51 : decode cX10_word 51 = .ok (.iaload, 1) := by decide +kernel
theorem dX10_word_52 : decode cX10_word 52 = .ok (.ireturn, 1) := by decide +kernel
set_option maxRecDepth 20000 in
theorem wp_X10_word (E : En) (d : Nat) (a1 : Int32) (a2 : Int32) (h : Hp) (P : Int32 → Hp → Prop) (t : SpI E d MX10_isInstruction [.ref (eA E 63), .int a1] h (fun v1 h1 => (v1 = 0 → (SpI E d MX10_throwsAs [.ref (eA E 63), .int (1 : Int32)] h1 (fun v3 h3 => (v3 = 0 → (vp_in a1 9 ∧ (vp_in ((h3.1 76 a1.toNatClampNeg) + a2) 192 ∧ (P (h3.1 74 (((h3.1 76 a1.toNatClampNeg) + a2).toNatClampNeg)) h3)))) ∧ (¬ v3 = 0 → (P (0 : Int32) h3))))) ∧ (¬ v1 = 0 → (SpI E d MX10_wordsOf [.ref (eA E 63), .int a1] h1 (fun v7 h7 => SpI E d MX10_isIn [.int a2, .int (0 : Int32), .int (v7 - (1 : Int32))] h7 (fun v8 h8 => (v8 = 0 → (SpI E d MX10_throwsAs [.ref (eA E 63), .int (1 : Int32)] h8 (fun v10 h10 => (v10 = 0 → (vp_in a1 9 ∧ (vp_in ((h10.1 76 a1.toNatClampNeg) + a2) 192 ∧ (P (h10.1 74 (((h10.1 76 a1.toNatClampNeg) + a2).toNatClampNeg)) h10)))) ∧ (¬ v10 = 0 → (P (0 : Int32) h10))))) ∧ (¬ v8 = 0 → (SpI E d MX10_throwsAs [.ref (eA E 63), .int (0 : Int32)] h8 (fun v14 h14 => (v14 = 0 → (vp_in a1 9 ∧ (vp_in ((h14.1 76 a1.toNatClampNeg) + a2) 192 ∧ (P (h14.1 74 (((h14.1 76 a1.toNatClampNeg) + a2).toNatClampNeg)) h14)))) ∧ (¬ v14 = 0 → (P (0 : Int32) h14))))))))))) : SpI E (d + 1) MX10_word [.ref (eA E 63), .int a1, .int a2] h P := by
  refine SpI.of (lv0 := [(0, .ref (eA E 63)), (1, .int a1), (2, .int a2)]) (by decide) (Nat.le_of_ble_eq_true rfl) rfl (fun g => ?_)
  refine r_aload_n (q := 0) dX10_word_0 rfl rfl ?_
  refine r_aload_n (q := 0) dX10_word_1 rfl rfl ?_
  refine r_iload_n (q := 1) dX10_word_2 rfl rfl ?_
  refine r_cVI (c := 63) (As := [.int a1]) dX10_word_3 mkX10_isInstruction lkX10_128 lay_63 rfl rfl rfl (by decide) rfl (Nat.le_of_ble_eq_true rfl) z00 t ?_
  intro v1 h1 t
  refine r_if_eq (tgt := 28) dX10_word_6 (by decide) (fun q2 => ?_) (fun q2 => ?_)
  · have t := t.1 q2
    refine r_iconst (v := (1 : Int32)) dX10_word_28 rfl ?_
    refine r_cVI (c := 63) (As := [.int (1 : Int32)]) dX10_word_29 mkX10_throwsAs lkX10_147 lay_63 rfl rfl rfl (by decide) rfl (Nat.le_of_ble_eq_true rfl) z00 t ?_
    intro v3 h3 t
    refine r_if_eq (tgt := 39) dX10_word_32 (by decide) (fun q4 => ?_) (fun q4 => ?_)
    · have t := t.1 q4
      refine r_aload_n (q := 0) dX10_word_39 rfl rfl ?_
      refine r_getR (c := 63) (c2 := 74) dX10_word_40 flX10_40 lay_63 rfl ?_
      refine r_aload_n (q := 0) dX10_word_43 rfl rfl ?_
      refine r_getR (c := 63) (c2 := 76) dX10_word_44 flX10_46 lay_63 rfl ?_
      refine r_iload_n (q := 1) dX10_word_47 rfl rfl ?_
      obtain ⟨c5, t⟩ := t
      refine r_iald (c := 76) dX10_word_48 lay_76 c5 ?_
      refine r_iload_n (q := 2) dX10_word_49 rfl rfl ?_
      refine r_iadd dX10_word_50 ?_
      obtain ⟨c6, t⟩ := t
      refine r_iald (c := 74) dX10_word_51 lay_74 c6 ?_
      exact r_iret dX10_word_52 rfl t
    · have t := t.2 q4
      refine r_iconst (v := (0 : Int32)) dX10_word_35 rfl ?_
      refine r_goto (tgt := 52) dX10_word_36 (by decide) ?_
      exact r_iret dX10_word_52 rfl t
  · have t := t.2 q2
    refine r_iload_n (q := 2) dX10_word_9 rfl rfl ?_
    refine r_iconst (v := (0 : Int32)) dX10_word_10 rfl ?_
    refine r_aload_n (q := 0) dX10_word_11 rfl rfl ?_
    refine r_iload_n (q := 1) dX10_word_12 rfl rfl ?_
    refine r_cVI (c := 63) (As := [.int a1]) dX10_word_13 mkX10_wordsOf lkX10_212 lay_63 rfl rfl rfl (by decide) rfl (Nat.le_of_ble_eq_true rfl) z00 t ?_
    intro v7 h7 t
    refine r_iconst (v := (1 : Int32)) dX10_word_16 rfl ?_
    refine r_isub dX10_word_17 ?_
    refine r_cSI (As := [.int a2, .int (0 : Int32), .int (v7 - (1 : Int32))]) dX10_word_18 mkX10_isIn lkX10_124 rfl (by decide) rfl (Nat.le_of_ble_eq_true rfl) z00 t ?_
    intro v8 h8 t
    refine r_if_eq (tgt := 28) dX10_word_21 (by decide) (fun q9 => ?_) (fun q9 => ?_)
    · have t := t.1 q9
      refine r_iconst (v := (1 : Int32)) dX10_word_28 rfl ?_
      refine r_cVI (c := 63) (As := [.int (1 : Int32)]) dX10_word_29 mkX10_throwsAs lkX10_147 lay_63 rfl rfl rfl (by decide) rfl (Nat.le_of_ble_eq_true rfl) z00 t ?_
      intro v10 h10 t
      refine r_if_eq (tgt := 39) dX10_word_32 (by decide) (fun q11 => ?_) (fun q11 => ?_)
      · have t := t.1 q11
        refine r_aload_n (q := 0) dX10_word_39 rfl rfl ?_
        refine r_getR (c := 63) (c2 := 74) dX10_word_40 flX10_40 lay_63 rfl ?_
        refine r_aload_n (q := 0) dX10_word_43 rfl rfl ?_
        refine r_getR (c := 63) (c2 := 76) dX10_word_44 flX10_46 lay_63 rfl ?_
        refine r_iload_n (q := 1) dX10_word_47 rfl rfl ?_
        obtain ⟨c12, t⟩ := t
        refine r_iald (c := 76) dX10_word_48 lay_76 c12 ?_
        refine r_iload_n (q := 2) dX10_word_49 rfl rfl ?_
        refine r_iadd dX10_word_50 ?_
        obtain ⟨c13, t⟩ := t
        refine r_iald (c := 74) dX10_word_51 lay_74 c13 ?_
        exact r_iret dX10_word_52 rfl t
      · have t := t.2 q11
        refine r_iconst (v := (0 : Int32)) dX10_word_35 rfl ?_
        refine r_goto (tgt := 52) dX10_word_36 (by decide) ?_
        exact r_iret dX10_word_52 rfl t
    · have t := t.2 q9
      refine r_iconst (v := (0 : Int32)) dX10_word_24 rfl ?_
      refine r_goto (tgt := 29) dX10_word_25 (by decide) ?_
      refine r_cVI (c := 63) (As := [.int (0 : Int32)]) dX10_word_29 mkX10_throwsAs lkX10_147 lay_63 rfl rfl rfl (by decide) rfl (Nat.le_of_ble_eq_true rfl) z00 t ?_
      intro v14 h14 t
      refine r_if_eq (tgt := 39) dX10_word_32 (by decide) (fun q15 => ?_) (fun q15 => ?_)
      · have t := t.1 q15
        refine r_aload_n (q := 0) dX10_word_39 rfl rfl ?_
        refine r_getR (c := 63) (c2 := 74) dX10_word_40 flX10_40 lay_63 rfl ?_
        refine r_aload_n (q := 0) dX10_word_43 rfl rfl ?_
        refine r_getR (c := 63) (c2 := 76) dX10_word_44 flX10_46 lay_63 rfl ?_
        refine r_iload_n (q := 1) dX10_word_47 rfl rfl ?_
        obtain ⟨c16, t⟩ := t
        refine r_iald (c := 76) dX10_word_48 lay_76 c16 ?_
        refine r_iload_n (q := 2) dX10_word_49 rfl rfl ?_
        refine r_iadd dX10_word_50 ?_
        obtain ⟨c17, t⟩ := t
        refine r_iald (c := 74) dX10_word_51 lay_74 c17 ?_
        exact r_iret dX10_word_52 rfl t
      · have t := t.2 q15
        refine r_iconst (v := (0 : Int32)) dX10_word_35 rfl ?_
        refine r_goto (tgt := 52) dX10_word_36 (by decide) ?_
        exact r_iret dX10_word_52 rfl t
theorem dX10_chain_0 : decode cX10_chain 0 = .ok (.aload_n 0, 1) := by decide +kernel
theorem dX10_chain_1 : decode cX10_chain 1 = .ok (.aload_n 0, 1) := by decide +kernel
theorem dX10_chain_2 : decode cX10_chain 2 = .ok (.iload_n 1, 1) := by decide +kernel
theorem dX10_chain_3 : decode cX10_chain 3 = .ok (.invokevirtual 128, 3) := by decide +kernel
theorem dX10_chain_6 : decode cX10_chain 6 = .ok (.ifCond .eq 7, 3) := by decide +kernel
theorem dX10_chain_9 : decode cX10_chain 9 = .ok (.iconst 0, 1) := by decide +kernel
theorem dX10_chain_10 : decode cX10_chain 10 = .ok (.goto 4, 3) := by decide +kernel
theorem dX10_chain_13 : decode cX10_chain 13 = .ok (.iconst 1, 1) := by decide +kernel
theorem dX10_chain_14 : decode cX10_chain 14 = .ok (.invokevirtual 147, 3) := by decide +kernel
theorem dX10_chain_17 : decode cX10_chain 17 = .ok (.ifCond .eq 7, 3) := by decide +kernel
theorem dX10_chain_20 : decode cX10_chain 20 = .ok (.iconst 0, 1) := by decide +kernel
theorem dX10_chain_21 : decode cX10_chain 21 = .ok (.goto 9, 3) := by decide +kernel
theorem dX10_chain_24 : decode cX10_chain 24 = .ok (.aload_n 0, 1) := by decide +kernel
theorem dX10_chain_25 : decode cX10_chain 25 = .ok (.getfield 52, 3) := by decide +kernel
theorem dX10_chain_28 : decode cX10_chain 28 = .ok (.iload_n 1, 1) := by decide +kernel
theorem dX10_chain_29 : decode cX10_chain 29 = .ok (.iaload, 1) := by decide +kernel
theorem dX10_chain_30 : decode cX10_chain 30 = .ok (.ireturn, 1) := by decide +kernel
set_option maxRecDepth 20000 in
theorem wp_X10_chain (E : En) (d : Nat) (a1 : Int32) (h : Hp) (P : Int32 → Hp → Prop) (t : SpI E d MX10_isInstruction [.ref (eA E 63), .int a1] h (fun v1 h1 => (v1 = 0 → (SpI E d MX10_throwsAs [.ref (eA E 63), .int (1 : Int32)] h1 (fun v3 h3 => (v3 = 0 → (vp_in a1 8 ∧ (P (h3.1 78 a1.toNatClampNeg) h3))) ∧ (¬ v3 = 0 → (P (0 : Int32) h3))))) ∧ (¬ v1 = 0 → (SpI E d MX10_throwsAs [.ref (eA E 63), .int (0 : Int32)] h1 (fun v6 h6 => (v6 = 0 → (vp_in a1 8 ∧ (P (h6.1 78 a1.toNatClampNeg) h6))) ∧ (¬ v6 = 0 → (P (0 : Int32) h6))))))) : SpI E (d + 1) MX10_chain [.ref (eA E 63), .int a1] h P := by
  refine SpI.of (lv0 := [(0, .ref (eA E 63)), (1, .int a1)]) (by decide) (Nat.le_of_ble_eq_true rfl) rfl (fun g => ?_)
  refine r_aload_n (q := 0) dX10_chain_0 rfl rfl ?_
  refine r_aload_n (q := 0) dX10_chain_1 rfl rfl ?_
  refine r_iload_n (q := 1) dX10_chain_2 rfl rfl ?_
  refine r_cVI (c := 63) (As := [.int a1]) dX10_chain_3 mkX10_isInstruction lkX10_128 lay_63 rfl rfl rfl (by decide) rfl (Nat.le_of_ble_eq_true rfl) z00 t ?_
  intro v1 h1 t
  refine r_if_eq (tgt := 13) dX10_chain_6 (by decide) (fun q2 => ?_) (fun q2 => ?_)
  · have t := t.1 q2
    refine r_iconst (v := (1 : Int32)) dX10_chain_13 rfl ?_
    refine r_cVI (c := 63) (As := [.int (1 : Int32)]) dX10_chain_14 mkX10_throwsAs lkX10_147 lay_63 rfl rfl rfl (by decide) rfl (Nat.le_of_ble_eq_true rfl) z00 t ?_
    intro v3 h3 t
    refine r_if_eq (tgt := 24) dX10_chain_17 (by decide) (fun q4 => ?_) (fun q4 => ?_)
    · have t := t.1 q4
      refine r_aload_n (q := 0) dX10_chain_24 rfl rfl ?_
      refine r_getR (c := 63) (c2 := 78) dX10_chain_25 flX10_52 lay_63 rfl ?_
      refine r_iload_n (q := 1) dX10_chain_28 rfl rfl ?_
      obtain ⟨c5, t⟩ := t
      refine r_iald (c := 78) dX10_chain_29 lay_78 c5 ?_
      exact r_iret dX10_chain_30 rfl t
    · have t := t.2 q4
      refine r_iconst (v := (0 : Int32)) dX10_chain_20 rfl ?_
      refine r_goto (tgt := 30) dX10_chain_21 (by decide) ?_
      exact r_iret dX10_chain_30 rfl t
  · have t := t.2 q2
    refine r_iconst (v := (0 : Int32)) dX10_chain_9 rfl ?_
    refine r_goto (tgt := 14) dX10_chain_10 (by decide) ?_
    refine r_cVI (c := 63) (As := [.int (0 : Int32)]) dX10_chain_14 mkX10_throwsAs lkX10_147 lay_63 rfl rfl rfl (by decide) rfl (Nat.le_of_ble_eq_true rfl) z00 t ?_
    intro v6 h6 t
    refine r_if_eq (tgt := 24) dX10_chain_17 (by decide) (fun q7 => ?_) (fun q7 => ?_)
    · have t := t.1 q7
      refine r_aload_n (q := 0) dX10_chain_24 rfl rfl ?_
      refine r_getR (c := 63) (c2 := 78) dX10_chain_25 flX10_52 lay_63 rfl ?_
      refine r_iload_n (q := 1) dX10_chain_28 rfl rfl ?_
      obtain ⟨c8, t⟩ := t
      refine r_iald (c := 78) dX10_chain_29 lay_78 c8 ?_
      exact r_iret dX10_chain_30 rfl t
    · have t := t.2 q7
      refine r_iconst (v := (0 : Int32)) dX10_chain_20 rfl ?_
      refine r_goto (tgt := 30) dX10_chain_21 (by decide) ?_
      exact r_iret dX10_chain_30 rfl t
theorem dX10_latency_0 : decode cX10_latency 0 = .ok (.aload_n 0, 1) := by decide +kernel
theorem dX10_latency_1 : decode cX10_latency 1 = .ok (.aload_n 0, 1) := by decide +kernel
theorem dX10_latency_2 : decode cX10_latency 2 = .ok (.iload_n 1, 1) := by decide +kernel
theorem dX10_latency_3 : decode cX10_latency 3 = .ok (.invokevirtual 128, 3) := by decide +kernel
theorem dX10_latency_6 : decode cX10_latency 6 = .ok (.ifCond .eq 7, 3) := by decide +kernel
theorem dX10_latency_9 : decode cX10_latency 9 = .ok (.iconst 0, 1) := by decide +kernel
theorem dX10_latency_10 : decode cX10_latency 10 = .ok (.goto 4, 3) := by decide +kernel
theorem dX10_latency_13 : decode cX10_latency 13 = .ok (.iconst 1, 1) := by decide +kernel
theorem dX10_latency_14 : decode cX10_latency 14 = .ok (.invokevirtual 147, 3) := by decide +kernel
theorem dX10_latency_17 : decode cX10_latency 17 = .ok (.ifCond .eq 7, 3) := by decide +kernel
theorem dX10_latency_20 : decode cX10_latency 20 = .ok (.iconst 0, 1) := by decide +kernel
theorem dX10_latency_21 : decode cX10_latency 21 = .ok (.goto 9, 3) := by decide +kernel
theorem dX10_latency_24 : decode cX10_latency 24 = .ok (.aload_n 0, 1) := by decide +kernel
theorem dX10_latency_25 : decode cX10_latency 25 = .ok (.getfield 49, 3) := by decide +kernel
theorem dX10_latency_28 : decode cX10_latency 28 = .ok (.iload_n 1, 1) := by decide +kernel
theorem dX10_latency_29 : decode cX10_latency 29 = .ok (.iaload, 1) := by decide +kernel
theorem dX10_latency_30 : decode cX10_latency 30 = .ok (.ireturn, 1) := by decide +kernel
set_option maxRecDepth 20000 in
theorem wp_X10_latency (E : En) (d : Nat) (a1 : Int32) (h : Hp) (P : Int32 → Hp → Prop) (t : SpI E d MX10_isInstruction [.ref (eA E 63), .int a1] h (fun v1 h1 => (v1 = 0 → (SpI E d MX10_throwsAs [.ref (eA E 63), .int (1 : Int32)] h1 (fun v3 h3 => (v3 = 0 → (vp_in a1 8 ∧ (P (h3.1 77 a1.toNatClampNeg) h3))) ∧ (¬ v3 = 0 → (P (0 : Int32) h3))))) ∧ (¬ v1 = 0 → (SpI E d MX10_throwsAs [.ref (eA E 63), .int (0 : Int32)] h1 (fun v6 h6 => (v6 = 0 → (vp_in a1 8 ∧ (P (h6.1 77 a1.toNatClampNeg) h6))) ∧ (¬ v6 = 0 → (P (0 : Int32) h6))))))) : SpI E (d + 1) MX10_latency [.ref (eA E 63), .int a1] h P := by
  refine SpI.of (lv0 := [(0, .ref (eA E 63)), (1, .int a1)]) (by decide) (Nat.le_of_ble_eq_true rfl) rfl (fun g => ?_)
  refine r_aload_n (q := 0) dX10_latency_0 rfl rfl ?_
  refine r_aload_n (q := 0) dX10_latency_1 rfl rfl ?_
  refine r_iload_n (q := 1) dX10_latency_2 rfl rfl ?_
  refine r_cVI (c := 63) (As := [.int a1]) dX10_latency_3 mkX10_isInstruction lkX10_128 lay_63 rfl rfl rfl (by decide) rfl (Nat.le_of_ble_eq_true rfl) z00 t ?_
  intro v1 h1 t
  refine r_if_eq (tgt := 13) dX10_latency_6 (by decide) (fun q2 => ?_) (fun q2 => ?_)
  · have t := t.1 q2
    refine r_iconst (v := (1 : Int32)) dX10_latency_13 rfl ?_
    refine r_cVI (c := 63) (As := [.int (1 : Int32)]) dX10_latency_14 mkX10_throwsAs lkX10_147 lay_63 rfl rfl rfl (by decide) rfl (Nat.le_of_ble_eq_true rfl) z00 t ?_
    intro v3 h3 t
    refine r_if_eq (tgt := 24) dX10_latency_17 (by decide) (fun q4 => ?_) (fun q4 => ?_)
    · have t := t.1 q4
      refine r_aload_n (q := 0) dX10_latency_24 rfl rfl ?_
      refine r_getR (c := 63) (c2 := 77) dX10_latency_25 flX10_49 lay_63 rfl ?_
      refine r_iload_n (q := 1) dX10_latency_28 rfl rfl ?_
      obtain ⟨c5, t⟩ := t
      refine r_iald (c := 77) dX10_latency_29 lay_77 c5 ?_
      exact r_iret dX10_latency_30 rfl t
    · have t := t.2 q4
      refine r_iconst (v := (0 : Int32)) dX10_latency_20 rfl ?_
      refine r_goto (tgt := 30) dX10_latency_21 (by decide) ?_
      exact r_iret dX10_latency_30 rfl t
  · have t := t.2 q2
    refine r_iconst (v := (0 : Int32)) dX10_latency_9 rfl ?_
    refine r_goto (tgt := 14) dX10_latency_10 (by decide) ?_
    refine r_cVI (c := 63) (As := [.int (0 : Int32)]) dX10_latency_14 mkX10_throwsAs lkX10_147 lay_63 rfl rfl rfl (by decide) rfl (Nat.le_of_ble_eq_true rfl) z00 t ?_
    intro v6 h6 t
    refine r_if_eq (tgt := 24) dX10_latency_17 (by decide) (fun q7 => ?_) (fun q7 => ?_)
    · have t := t.1 q7
      refine r_aload_n (q := 0) dX10_latency_24 rfl rfl ?_
      refine r_getR (c := 63) (c2 := 77) dX10_latency_25 flX10_49 lay_63 rfl ?_
      refine r_iload_n (q := 1) dX10_latency_28 rfl rfl ?_
      obtain ⟨c8, t⟩ := t
      refine r_iald (c := 77) dX10_latency_29 lay_77 c8 ?_
      exact r_iret dX10_latency_30 rfl t
    · have t := t.2 q7
      refine r_iconst (v := (0 : Int32)) dX10_latency_20 rfl ?_
      refine r_goto (tgt := 30) dX10_latency_21 (by decide) ?_
      exact r_iret dX10_latency_30 rfl t
theorem dX10_storeSize_0 : decode cX10_storeSize 0 = .ok (.aload_n 0, 1) := by decide +kernel
theorem dX10_storeSize_1 : decode cX10_storeSize 1 = .ok (.iconst 0, 1) := by decide +kernel
theorem dX10_storeSize_2 : decode cX10_storeSize 2 = .ok (.putfield 118, 3) := by decide +kernel
theorem dX10_storeSize_5 : decode cX10_storeSize 5 = .ok (.aload_n 0, 1) := by decide +kernel
theorem dX10_storeSize_6 : decode cX10_storeSize 6 = .ok (.getfield 206, 3) := by decide +kernel
theorem dX10_storeSize_9 : decode cX10_storeSize 9 = .ok (.ireturn, 1) := by decide +kernel
set_option maxRecDepth 20000 in
theorem wp_X10_storeSize (E : En) (d : Nat) (h : Hp) (P : Int32 → Hp → Prop) (t : P (h.1 63 26) (sI h 63 0 (0 : Int32))) : SpI E d MX10_storeSize [.ref (eA E 63)] h P := by
  refine SpI.of (lv0 := [(0, .ref (eA E 63))]) (by decide) (Nat.le_of_ble_eq_true rfl) rfl (fun g => ?_)
  refine r_aload_n (q := 0) dX10_storeSize_0 rfl rfl ?_
  refine r_iconst (v := (0 : Int32)) dX10_storeSize_1 rfl ?_
  refine r_putI (c := 63) dX10_storeSize_2 flX10_118 lay_63 rfl ?_
  refine r_aload_n (q := 0) dX10_storeSize_5 rfl rfl ?_
  refine r_getIv (c := 63) (v := h.1 63 26) dX10_storeSize_6 flX10_206 lay_63 rfl rfl ?_
  exact r_iret dX10_storeSize_9 rfl t
theorem dX10_entry_0 : decode cX10_entry 0 = .ok (.aload_n 0, 1) := by decide +kernel
theorem dX10_entry_1 : decode cX10_entry 1 = .ok (.aload_n 0, 1) := by decide +kernel
theorem dX10_entry_2 : decode cX10_entry 2 = .ok (.iload_n 1, 1) := by decide +kernel
theorem dX10_entry_3 : decode cX10_entry 3 = .ok (.invokevirtual 128, 3) := by decide +kernel
theorem dX10_entry_6 : decode cX10_entry 6 = .ok (.ifCond .eq 7, 3) := by decide +kernel
theorem dX10_entry_9 : decode cX10_entry 9 = .ok (.iconst 0, 1) := by decide +kernel
theorem dX10_entry_10 : decode cX10_entry 10 = .ok (.goto 4, 3) := by decide +kernel
theorem dX10_entry_13 : decode cX10_entry 13 = .ok (.iconst 1, 1) := by decide +kernel
theorem dX10_entry_14 : decode cX10_entry 14 = .ok (.invokevirtual 147, 3) := by decide +kernel
theorem dX10_entry_17 : decode cX10_entry 17 = .ok (.ifCond .eq 7, 3) := by decide +kernel
theorem dX10_entry_20 : decode cX10_entry 20 = .ok (.iconst 0, 1) := by decide +kernel
theorem dX10_entry_21 : decode cX10_entry 21 = .ok (.goto 9, 3) := by decide +kernel
theorem dX10_entry_24 : decode cX10_entry 24 = .ok (.aload_n 0, 1) := by decide +kernel
theorem dX10_entry_25 : decode cX10_entry 25 = .ok (.getfield 64, 3) := by decide +kernel
theorem dX10_entry_28 : decode cX10_entry 28 = .ok (.iload_n 1, 1) := by decide +kernel
theorem dX10_entry_29 : decode cX10_entry 29 = .ok (.iaload, 1) := by decide +kernel
theorem dX10_entry_30 : decode cX10_entry 30 = .ok (.ireturn, 1) := by decide +kernel
set_option maxRecDepth 20000 in
theorem wp_X10_entry (E : En) (d : Nat) (a1 : Int32) (h : Hp) (P : Int32 → Hp → Prop) (t : SpI E d MX10_isInstruction [.ref (eA E 63), .int a1] h (fun v1 h1 => (v1 = 0 → (SpI E d MX10_throwsAs [.ref (eA E 63), .int (1 : Int32)] h1 (fun v3 h3 => (v3 = 0 → (vp_in a1 8 ∧ (P (h3.1 82 a1.toNatClampNeg) h3))) ∧ (¬ v3 = 0 → (P (0 : Int32) h3))))) ∧ (¬ v1 = 0 → (SpI E d MX10_throwsAs [.ref (eA E 63), .int (0 : Int32)] h1 (fun v6 h6 => (v6 = 0 → (vp_in a1 8 ∧ (P (h6.1 82 a1.toNatClampNeg) h6))) ∧ (¬ v6 = 0 → (P (0 : Int32) h6))))))) : SpI E (d + 1) MX10_entry [.ref (eA E 63), .int a1] h P := by
  refine SpI.of (lv0 := [(0, .ref (eA E 63)), (1, .int a1)]) (by decide) (Nat.le_of_ble_eq_true rfl) rfl (fun g => ?_)
  refine r_aload_n (q := 0) dX10_entry_0 rfl rfl ?_
  refine r_aload_n (q := 0) dX10_entry_1 rfl rfl ?_
  refine r_iload_n (q := 1) dX10_entry_2 rfl rfl ?_
  refine r_cVI (c := 63) (As := [.int a1]) dX10_entry_3 mkX10_isInstruction lkX10_128 lay_63 rfl rfl rfl (by decide) rfl (Nat.le_of_ble_eq_true rfl) z00 t ?_
  intro v1 h1 t
  refine r_if_eq (tgt := 13) dX10_entry_6 (by decide) (fun q2 => ?_) (fun q2 => ?_)
  · have t := t.1 q2
    refine r_iconst (v := (1 : Int32)) dX10_entry_13 rfl ?_
    refine r_cVI (c := 63) (As := [.int (1 : Int32)]) dX10_entry_14 mkX10_throwsAs lkX10_147 lay_63 rfl rfl rfl (by decide) rfl (Nat.le_of_ble_eq_true rfl) z00 t ?_
    intro v3 h3 t
    refine r_if_eq (tgt := 24) dX10_entry_17 (by decide) (fun q4 => ?_) (fun q4 => ?_)
    · have t := t.1 q4
      refine r_aload_n (q := 0) dX10_entry_24 rfl rfl ?_
      refine r_getR (c := 63) (c2 := 82) dX10_entry_25 flX10_64 lay_63 rfl ?_
      refine r_iload_n (q := 1) dX10_entry_28 rfl rfl ?_
      obtain ⟨c5, t⟩ := t
      refine r_iald (c := 82) dX10_entry_29 lay_82 c5 ?_
      exact r_iret dX10_entry_30 rfl t
    · have t := t.2 q4
      refine r_iconst (v := (0 : Int32)) dX10_entry_20 rfl ?_
      refine r_goto (tgt := 30) dX10_entry_21 (by decide) ?_
      exact r_iret dX10_entry_30 rfl t
  · have t := t.2 q2
    refine r_iconst (v := (0 : Int32)) dX10_entry_9 rfl ?_
    refine r_goto (tgt := 14) dX10_entry_10 (by decide) ?_
    refine r_cVI (c := 63) (As := [.int (0 : Int32)]) dX10_entry_14 mkX10_throwsAs lkX10_147 lay_63 rfl rfl rfl (by decide) rfl (Nat.le_of_ble_eq_true rfl) z00 t ?_
    intro v6 h6 t
    refine r_if_eq (tgt := 24) dX10_entry_17 (by decide) (fun q7 => ?_) (fun q7 => ?_)
    · have t := t.1 q7
      refine r_aload_n (q := 0) dX10_entry_24 rfl rfl ?_
      refine r_getR (c := 63) (c2 := 82) dX10_entry_25 flX10_64 lay_63 rfl ?_
      refine r_iload_n (q := 1) dX10_entry_28 rfl rfl ?_
      obtain ⟨c8, t⟩ := t
      refine r_iald (c := 82) dX10_entry_29 lay_82 c8 ?_
      exact r_iret dX10_entry_30 rfl t
    · have t := t.2 q7
      refine r_iconst (v := (0 : Int32)) dX10_entry_20 rfl ?_
      refine r_goto (tgt := 30) dX10_entry_21 (by decide) ?_
      exact r_iret dX10_entry_30 rfl t
theorem dX10_usersOf_0 : decode cX10_usersOf 0 = .ok (.iconst 0, 1) := by decide +kernel
theorem dX10_usersOf_1 : decode cX10_usersOf 1 = .ok (.istore_n 2, 1) := by decide +kernel
theorem dX10_usersOf_2 : decode cX10_usersOf 2 = .ok (.iconst 0, 1) := by decide +kernel
theorem dX10_usersOf_3 : decode cX10_usersOf 3 = .ok (.istore_n 3, 1) := by decide +kernel
theorem dX10_usersOf_4 : decode cX10_usersOf 4 = .ok (.iload_n 3, 1) := by decide +kernel
theorem dX10_usersOf_5 : decode cX10_usersOf 5 = .ok (.aload_n 0, 1) := by decide +kernel
theorem dX10_usersOf_6 : decode cX10_usersOf 6 = .ok (.getfield 121, 3) := by decide +kernel
theorem dX10_usersOf_9 : decode cX10_usersOf 9 = .ok (.if_icmp .ge 49, 3) := by decide +kernel
theorem dX10_usersOf_12 : decode cX10_usersOf 12 = .ok (.aload_n 0, 1) := by decide +kernel
theorem dX10_usersOf_13 : decode cX10_usersOf 13 = .ok (.getfield 64, 3) := by decide +kernel
theorem dX10_usersOf_16 : decode cX10_usersOf 16 = .ok (.iload_n 3, 1) := by decide +kernel
theorem dX10_usersOf_17 : decode cX10_usersOf 17 = .ok (.iaload, 1) := by decide +kernel
theorem dX10_usersOf_18 : decode cX10_usersOf 18 = .ok (.istore 4, 2) := by decide +kernel
theorem dX10_usersOf_20 : decode cX10_usersOf 20 = .ok (.iload 4, 2) := by decide +kernel
theorem dX10_usersOf_22 : decode cX10_usersOf 22 = .ok (.iconst (-1), 1) := by decide +kernel
theorem dX10_usersOf_23 : decode cX10_usersOf 23 = .ok (.if_icmp .eq 29, 3) := by decide +kernel
theorem dX10_usersOf_26 : decode cX10_usersOf 26 = .ok (.iload_n 2, 1) := by decide +kernel
theorem dX10_usersOf_27 : decode cX10_usersOf 27 = .ok (.iload 4, 2) := by decide +kernel
theorem dX10_usersOf_29 : decode cX10_usersOf 29 = .ok (.iload_n 1, 1) := by decide +kernel
theorem dX10_usersOf_30 : decode cX10_usersOf 30 = .ok (.if_icmp .ne 7, 3) := by decide +kernel
theorem dX10_usersOf_33 : decode cX10_usersOf 33 = .ok (.iconst 1, 1) := by decide +kernel
theorem dX10_usersOf_34 : decode cX10_usersOf 34 = .ok (.goto 4, 3) := by decide +kernel
theorem dX10_usersOf_37 : decode cX10_usersOf 37 = .ok (.iconst 0, 1) := by decide +kernel
theorem dX10_usersOf_38 : decode cX10_usersOf 38 = .ok (.iadd, 1) := by decide +kernel
theorem dX10_usersOf_39 : decode cX10_usersOf 39 = .ok (.istore_n 2, 1) := by decide +kernel
theorem dX10_usersOf_40 : decode cX10_usersOf 40 = .ok (.aload_n 0, 1) := by decide +kernel
theorem dX10_usersOf_41 : decode cX10_usersOf 41 = .ok (.getfield 61, 3) := by decide +kernel
theorem dX10_usersOf_44 : decode cX10_usersOf 44 = .ok (.iload 4, 2) := by decide +kernel
theorem dX10_usersOf_46 : decode cX10_usersOf 46 = .ok (.iaload, 1) := by decide +kernel
theorem dX10_usersOf_47 : decode cX10_usersOf 47 = .ok (.istore 4, 2) := by decide +kernel
theorem dX10_usersOf_49 : decode cX10_usersOf 49 = .ok (.goto (-29), 3) := by decide +kernel
theorem dX10_usersOf_52 : decode cX10_usersOf 52 = .ok (.iinc 3 1, 3) := by decide +kernel
theorem dX10_usersOf_55 : decode cX10_usersOf 55 = .ok (.goto (-51), 3) := by decide +kernel
theorem dX10_usersOf_58 : decode cX10_usersOf 58 = .ok (.iload_n 2, 1) := by decide +kernel
theorem dX10_usersOf_59 : decode cX10_usersOf 59 = .ok (.ireturn, 1) := by decide +kernel
abbrev VX10_usersOf_4 (E : En) (d : Nat) (g : Ga) (P : Int32 → Hp → Prop) (x1 : Int32) (x2 : Int32) (x3 : Int32) (h : Hp) : Prop := V E MX10_usersOf (RM d 0) g (QQ E g (QI E P) 0 0) 0 0 h 4 [(0, .ref (eA E 63)), (1, .int x1), (2, .int x2), (3, .int x3)] []
abbrev VX10_usersOf_20 (E : En) (d : Nat) (g : Ga) (P : Int32 → Hp → Prop) (x1 : Int32) (x2 : Int32) (x3 : Int32) (x4 : Int32) (h : Hp) : Prop := V E MX10_usersOf (RM d 0) g (QQ E g (QI E P) 0 0) 0 0 h 20 [(0, .ref (eA E 63)), (1, .int x1), (2, .int x2), (3, .int x3), (4, .int x4)] []
set_option maxRecDepth 20000 in
theorem wp_X10_usersOf (E : En) (d : Nat) (a1 : Int32) (h : Hp) (P : Int32 → Hp → Prop) (t : ∀ g : Ga, VX10_usersOf_4 E d g P a1 (0 : Int32) (0 : Int32) h) : SpI E d MX10_usersOf [.ref (eA E 63), .int a1] h P := by
  refine SpI.of (lv0 := [(0, .ref (eA E 63)), (1, .int a1)]) (by decide) (Nat.le_of_ble_eq_true rfl) rfl (fun g => ?_)
  have t := t g
  refine r_iconst (v := (0 : Int32)) dX10_usersOf_0 rfl ?_
  refine r_istore_n (lv' := [(2, .int (0 : Int32)), (0, .ref (eA E 63)), (1, .int a1)]) dX10_usersOf_1 rfl (by decide) rfl ?_
  refine r_iconst (v := (0 : Int32)) dX10_usersOf_2 rfl ?_
  refine r_istore_n (lv' := [(3, .int (0 : Int32)), (2, .int (0 : Int32)), (0, .ref (eA E 63)), (1, .int a1)]) dX10_usersOf_3 rfl (by decide) rfl ?_
  refine r_sub [2, 3, 1, 0] rfl ?_
  exact t
set_option maxRecDepth 20000 in
theorem sg_X10_usersOf_4 (E : En) (d : Nat) (g : Ga) (x1 : Int32) (x2 : Int32) (x3 : Int32) (h : Hp) (P : Int32 → Hp → Prop) (t : ((h.1 63 2) ≤ x3 → (P x2 h)) ∧ (¬ (h.1 63 2) ≤ x3 → (vp_in x3 8 ∧ (VX10_usersOf_20 E d g P x1 x2 x3 (h.1 82 x3.toNatClampNeg) h)))) : VX10_usersOf_4 E d g P x1 x2 x3 h := by
  refine r_iload_n (q := 3) dX10_usersOf_4 rfl rfl ?_
  refine r_aload_n (q := 0) dX10_usersOf_5 rfl rfl ?_
  refine r_getI (c := 63) dX10_usersOf_6 flX10_121 lay_63 rfl ?_
  refine r_icmp_ge (tgt := 58) dX10_usersOf_9 (by decide) (fun q1 => ?_) (fun q1 => ?_)
  · have t := t.1 q1
    refine r_iload_n (q := 2) dX10_usersOf_58 rfl rfl ?_
    exact r_iret dX10_usersOf_59 rfl t
  · have t := t.2 q1
    refine r_aload_n (q := 0) dX10_usersOf_12 rfl rfl ?_
    refine r_getR (c := 63) (c2 := 82) dX10_usersOf_13 flX10_64 lay_63 rfl ?_
    refine r_iload_n (q := 3) dX10_usersOf_16 rfl rfl ?_
    obtain ⟨c2, t⟩ := t
    refine r_iald (c := 82) dX10_usersOf_17 lay_82 c2 ?_
    refine r_istore (lv' := [(4, .int (h.1 82 x3.toNatClampNeg)), (0, .ref (eA E 63)), (1, .int x1), (2, .int x2), (3, .int x3)]) dX10_usersOf_18 (by decide) rfl ?_
    refine r_sub [1, 2, 3, 4, 0] rfl ?_
    exact t
set_option maxRecDepth 20000 in
theorem sg_X10_usersOf_20 (E : En) (d : Nat) (g : Ga) (x1 : Int32) (x2 : Int32) (x3 : Int32) (x4 : Int32) (h : Hp) (P : Int32 → Hp → Prop) (t : (x4 = (-1 : Int32) → (VX10_usersOf_4 E d g P x1 x2 (x3 + (1 : Int32)) h)) ∧ (¬ x4 = (-1 : Int32) → ((¬ x4 = x1 → (vp_in x4 192 ∧ (VX10_usersOf_20 E d g P x1 (x2 + (0 : Int32)) x3 (h.1 81 x4.toNatClampNeg) h))) ∧ (x4 = x1 → (vp_in x4 192 ∧ (VX10_usersOf_20 E d g P x1 (x2 + (1 : Int32)) x3 (h.1 81 x4.toNatClampNeg) h)))))) : VX10_usersOf_20 E d g P x1 x2 x3 x4 h := by
  refine r_iload (q := 4) dX10_usersOf_20 rfl ?_
  refine r_iconst (v := (-1 : Int32)) dX10_usersOf_22 rfl ?_
  refine r_icmp_eq (tgt := 52) dX10_usersOf_23 (by decide) (fun q1 => ?_) (fun q1 => ?_)
  · have t := t.1 q1
    refine r_iinc (k := 3) (v := x3 + (1 : Int32)) (lv' := [(3, .int (x3 + (1 : Int32))), (0, .ref (eA E 63)), (1, .int x1), (2, .int x2), (4, .int x4)]) dX10_usersOf_52 rfl rfl (by decide) rfl ?_
    refine r_goto (tgt := 4) dX10_usersOf_55 (by decide) ?_
    refine r_sub [1, 2, 3, 0] rfl ?_
    exact t
  · have t := t.2 q1
    refine r_iload_n (q := 2) dX10_usersOf_26 rfl rfl ?_
    refine r_iload (q := 4) dX10_usersOf_27 rfl ?_
    refine r_iload_n (q := 1) dX10_usersOf_29 rfl rfl ?_
    refine r_icmp_ne (tgt := 37) dX10_usersOf_30 (by decide) (fun q2 => ?_) (fun q2 => ?_)
    · have t := t.1 q2
      refine r_iconst (v := (0 : Int32)) dX10_usersOf_37 rfl ?_
      refine r_iadd dX10_usersOf_38 ?_
      refine r_istore_n (lv' := [(2, .int (x2 + (0 : Int32))), (0, .ref (eA E 63)), (1, .int x1), (3, .int x3), (4, .int x4)]) dX10_usersOf_39 rfl (by decide) rfl ?_
      refine r_aload_n (q := 1) dX10_usersOf_40 rfl rfl ?_
      refine r_getR (c := 63) (c2 := 81) dX10_usersOf_41 flX10_61 lay_63 rfl ?_
      refine r_iload (q := 4) dX10_usersOf_44 rfl ?_
      obtain ⟨c3, t⟩ := t
      refine r_iald (c := 81) dX10_usersOf_46 lay_81 c3 ?_
      refine r_istore (lv' := [(4, .int (h.1 81 x4.toNatClampNeg)), (2, .int (x2 + (0 : Int32))), (0, .ref (eA E 63)), (1, .int x1), (3, .int x3)]) dX10_usersOf_47 (by decide) rfl ?_
      refine r_goto (tgt := 20) dX10_usersOf_49 (by decide) ?_
      refine r_sub [2, 3, 1, 4, 0] rfl ?_
      exact t
    · have t := t.2 q2
      refine r_iconst (v := (1 : Int32)) dX10_usersOf_33 rfl ?_
      refine r_goto (tgt := 38) dX10_usersOf_34 (by decide) ?_
      refine r_iadd dX10_usersOf_38 ?_
      refine r_istore_n (lv' := [(2, .int (x2 + (1 : Int32))), (0, .ref (eA E 63)), (1, .int x1), (3, .int x3), (4, .int x4)]) dX10_usersOf_39 rfl (by decide) rfl ?_
      refine r_aload_n (q := 1) dX10_usersOf_40 rfl rfl ?_
      refine r_getR (c := 63) (c2 := 81) dX10_usersOf_41 flX10_61 lay_63 rfl ?_
      refine r_iload (q := 4) dX10_usersOf_44 rfl ?_
      obtain ⟨c4, t⟩ := t
      refine r_iald (c := 81) dX10_usersOf_46 lay_81 c4 ?_
      refine r_istore (lv' := [(4, .int (h.1 81 x4.toNatClampNeg)), (2, .int (x2 + (1 : Int32))), (0, .ref (eA E 63)), (1, .int x1), (3, .int x3)]) dX10_usersOf_47 (by decide) rfl ?_
      refine r_goto (tgt := 20) dX10_usersOf_49 (by decide) ?_
      refine r_sub [2, 3, 1, 4, 0] rfl ?_
      exact t
theorem dX10_isAddress_0 : decode cX10_isAddress 0 = .ok (.iload_n 1, 1) := by decide +kernel
theorem dX10_isAddress_1 : decode cX10_isAddress 1 = .ok (.iconst 0, 1) := by decide +kernel
theorem dX10_isAddress_2 : decode cX10_isAddress 2 = .ok (.aload_n 0, 1) := by decide +kernel
theorem dX10_isAddress_3 : decode cX10_isAddress 3 = .ok (.getfield 206, 3) := by decide +kernel
theorem dX10_isAddress_6 : decode cX10_isAddress 6 = .ok (.iconst 1, 1) := by decide +kernel
theorem dX10_isAddress_7 : decode cX10_isAddress 7 = .ok (.isub, 1) := by decide +kernel
theorem dX10_isAddress_8 : decode cX10_isAddress 8 = .ok (.invokestatic 124, 3) := by decide +kernel
theorem dX10_isAddress_11 : decode cX10_isAddress 11 = .ok (.ireturn, 1) := by decide +kernel
set_option maxRecDepth 20000 in
theorem wp_X10_isAddress (E : En) (d : Nat) (a1 : Int32) (h : Hp) (P : Int32 → Hp → Prop) (t : SpI E d MX10_isIn [.int a1, .int (0 : Int32), .int ((h.1 63 26) - (1 : Int32))] h (fun v1 h1 => (v1 = 0 ∨ v1 = 1) ∧ P v1 h1)) : SpI E (d + 1) MX10_isAddress [.ref (eA E 63), .int a1] h P := by
  refine SpI.of (lv0 := [(0, .ref (eA E 63)), (1, .int a1)]) (by decide) (Nat.le_of_ble_eq_true rfl) rfl (fun g => ?_)
  refine r_iload_n (q := 1) dX10_isAddress_0 rfl rfl ?_
  refine r_iconst (v := (0 : Int32)) dX10_isAddress_1 rfl ?_
  refine r_aload_n (q := 0) dX10_isAddress_2 rfl rfl ?_
  refine r_getI (c := 63) dX10_isAddress_3 flX10_206 lay_63 rfl ?_
  refine r_iconst (v := (1 : Int32)) dX10_isAddress_6 rfl ?_
  refine r_isub dX10_isAddress_7 ?_
  refine r_cSI (As := [.int a1, .int (0 : Int32), .int ((h.1 63 26) - (1 : Int32))]) dX10_isAddress_8 mkX10_isIn lkX10_124 rfl (by decide) rfl (Nat.le_of_ble_eq_true rfl) z00 t ?_
  intro v1 h1 t
  exact r_zret dX10_isAddress_11 rfl t.1 t.2
theorem dX10_store_0 : decode cX10_store 0 = .ok (.aload_n 0, 1) := by decide +kernel
theorem dX10_store_1 : decode cX10_store 1 = .ok (.aload_n 0, 1) := by decide +kernel
theorem dX10_store_2 : decode cX10_store 2 = .ok (.iload_n 1, 1) := by decide +kernel
theorem dX10_store_3 : decode cX10_store 3 = .ok (.invokevirtual 260, 3) := by decide +kernel
theorem dX10_store_6 : decode cX10_store 6 = .ok (.ifCond .ne 7, 3) := by decide +kernel
theorem dX10_store_9 : decode cX10_store 9 = .ok (.iconst 1, 1) := by decide +kernel
theorem dX10_store_10 : decode cX10_store 10 = .ok (.goto 17, 3) := by decide +kernel
theorem dX10_store_13 : decode cX10_store 13 = .ok (.iload_n 2, 1) := by decide +kernel
theorem dX10_store_14 : decode cX10_store 14 = .ok (.iconst 0, 1) := by decide +kernel
theorem dX10_store_15 : decode cX10_store 15 = .ok (.iconst 3, 1) := by decide +kernel
theorem dX10_store_16 : decode cX10_store 16 = .ok (.invokestatic 124, 3) := by decide +kernel
theorem dX10_store_19 : decode cX10_store 19 = .ok (.ifCond .ne 7, 3) := by decide +kernel
theorem dX10_store_22 : decode cX10_store 22 = .ok (.iconst 2, 1) := by decide +kernel
theorem dX10_store_23 : decode cX10_store 23 = .ok (.goto 4, 3) := by decide +kernel
theorem dX10_store_26 : decode cX10_store 26 = .ok (.iconst 0, 1) := by decide +kernel
theorem dX10_store_27 : decode cX10_store 27 = .ok (.invokevirtual 147, 3) := by decide +kernel
theorem dX10_store_30 : decode cX10_store 30 = .ok (.ifCond .eq 5, 3) := by decide +kernel
theorem dX10_store_33 : decode cX10_store 33 = .ok (.iconst 0, 1) := by decide +kernel
theorem dX10_store_34 : decode cX10_store 34 = .ok (.ireturn, 1) := by decide +kernel
theorem dX10_store_35 : decode cX10_store 35 = .ok (.iload_n 2, 1) := by decide +kernel
theorem dX10_store_36 : decode cX10_store 36 = .ok (.ifCond .ne 12, 3) := by decide +kernel
theorem dX10_store_39 : decode cX10_store 39 = .ok (.aload_n 0, 1) := by decide +kernel
theorem dX10_store_40 : decode cX10_store 40 = .ok (.getfield 55, 3) := by decide +kernel
theorem dX10_store_43 : decode cX10_store 43 = .ok (.iload_n 1, 1) := by decide +kernel
theorem dX10_store_44 : decode cX10_store 44 = .ok (.iaload, 1) := by decide +kernel
theorem dX10_store_45 : decode cX10_store 45 = .ok (.goto 36, 3) := by decide +kernel
theorem dX10_store_48 : decode cX10_store 48 = .ok (.iload_n 2, 1) := by decide +kernel
theorem dX10_store_49 : decode cX10_store 49 = .ok (.iconst 1, 1) := by decide +kernel
theorem dX10_store_50 : decode cX10_store 50 = .ok (.if_icmp .ne 12, 3) := by decide +kernel
theorem dX10_store_53 : decode cX10_store 53 = .ok (.aload_n 0, 1) := by decide +kernel
theorem dX10_store_54 : decode cX10_store 54 = .ok (.getfield 58, 3) := by decide +kernel
theorem dX10_store_57 : decode cX10_store 57 = .ok (.iload_n 1, 1) := by decide +kernel
theorem dX10_store_58 : decode cX10_store 58 = .ok (.iaload, 1) := by decide +kernel
theorem dX10_store_59 : decode cX10_store 59 = .ok (.goto 22, 3) := by decide +kernel
theorem dX10_store_62 : decode cX10_store 62 = .ok (.iload_n 2, 1) := by decide +kernel
theorem dX10_store_63 : decode cX10_store 63 = .ok (.iconst 2, 1) := by decide +kernel
theorem dX10_store_64 : decode cX10_store 64 = .ok (.if_icmp .ne 12, 3) := by decide +kernel
theorem dX10_store_67 : decode cX10_store 67 = .ok (.aload_n 0, 1) := by decide +kernel
theorem dX10_store_68 : decode cX10_store 68 = .ok (.getfield 61, 3) := by decide +kernel
theorem dX10_store_71 : decode cX10_store 71 = .ok (.iload_n 1, 1) := by decide +kernel
theorem dX10_store_72 : decode cX10_store 72 = .ok (.iaload, 1) := by decide +kernel
theorem dX10_store_73 : decode cX10_store 73 = .ok (.goto 8, 3) := by decide +kernel
theorem dX10_store_76 : decode cX10_store 76 = .ok (.aload_n 0, 1) := by decide +kernel
theorem dX10_store_77 : decode cX10_store 77 = .ok (.iload_n 1, 1) := by decide +kernel
theorem dX10_store_78 : decode cX10_store 78 = .ok (.invokevirtual 263, 3) := by decide +kernel
theorem dX10_store_81 : decode cX10_store 81 = .ok (.ireturn, 1) := by decide +kernel
set_option maxRecDepth 20000 in
theorem wp_X10_store (E : En) (d : Nat) (a1 : Int32) (a2 : Int32) (h : Hp) (P : Int32 → Hp → Prop) (t : SpI E d MX10_isAddress [.ref (eA E 63), .int a1] h (fun v1 h1 => (¬ v1 = 0 → (SpI E d MX10_isIn [.int a2, .int (0 : Int32), .int (3 : Int32)] h1 (fun v3 h3 => (¬ v3 = 0 → (SpI E d MX10_throwsAs [.ref (eA E 63), .int (0 : Int32)] h3 (fun v5 h5 => (v5 = 0 → ((¬ a2 = 0 → ((¬ a2 = (1 : Int32) → ((¬ a2 = (2 : Int32) → (SpI E d MX10_usersOf [.ref (eA E 63), .int a1] h5 (fun v10 h10 => P v10 h10))) ∧ (a2 = (2 : Int32) → (vp_in a1 192 ∧ (P (h5.1 81 a1.toNatClampNeg) h5))))) ∧ (a2 = (1 : Int32) → (vp_in a1 192 ∧ (P (h5.1 80 a1.toNatClampNeg) h5))))) ∧ (a2 = 0 → (vp_in a1 192 ∧ (P (h5.1 79 a1.toNatClampNeg) h5))))) ∧ (¬ v5 = 0 → (P (0 : Int32) h5))))) ∧ (v3 = 0 → (SpI E d MX10_throwsAs [.ref (eA E 63), .int (2 : Int32)] h3 (fun v14 h14 => (v14 = 0 → ((¬ a2 = 0 → ((¬ a2 = (1 : Int32) → ((¬ a2 = (2 : Int32) → (SpI E d MX10_usersOf [.ref (eA E 63), .int a1] h14 (fun v19 h19 => P v19 h19))) ∧ (a2 = (2 : Int32) → (vp_in a1 192 ∧ (P (h14.1 81 a1.toNatClampNeg) h14))))) ∧ (a2 = (1 : Int32) → (vp_in a1 192 ∧ (P (h14.1 80 a1.toNatClampNeg) h14))))) ∧ (a2 = 0 → (vp_in a1 192 ∧ (P (h14.1 79 a1.toNatClampNeg) h14))))) ∧ (¬ v14 = 0 → (P (0 : Int32) h14)))))))) ∧ (v1 = 0 → (SpI E d MX10_throwsAs [.ref (eA E 63), .int (1 : Int32)] h1 (fun v23 h23 => (v23 = 0 → ((¬ a2 = 0 → ((¬ a2 = (1 : Int32) → ((¬ a2 = (2 : Int32) → (SpI E d MX10_usersOf [.ref (eA E 63), .int a1] h23 (fun v28 h28 => P v28 h28))) ∧ (a2 = (2 : Int32) → (vp_in a1 192 ∧ (P (h23.1 81 a1.toNatClampNeg) h23))))) ∧ (a2 = (1 : Int32) → (vp_in a1 192 ∧ (P (h23.1 80 a1.toNatClampNeg) h23))))) ∧ (a2 = 0 → (vp_in a1 192 ∧ (P (h23.1 79 a1.toNatClampNeg) h23))))) ∧ (¬ v23 = 0 → (P (0 : Int32) h23))))))) : SpI E (d + 1) MX10_store [.ref (eA E 63), .int a1, .int a2] h P := by
  refine SpI.of (lv0 := [(0, .ref (eA E 63)), (1, .int a1), (2, .int a2)]) (by decide) (Nat.le_of_ble_eq_true rfl) rfl (fun g => ?_)
  refine r_aload_n (q := 0) dX10_store_0 rfl rfl ?_
  refine r_aload_n (q := 0) dX10_store_1 rfl rfl ?_
  refine r_iload_n (q := 1) dX10_store_2 rfl rfl ?_
  refine r_cVI (c := 63) (As := [.int a1]) dX10_store_3 mkX10_isAddress lkX10_260 lay_63 rfl rfl rfl (by decide) rfl (Nat.le_of_ble_eq_true rfl) z00 t ?_
  intro v1 h1 t
  refine r_if_ne (tgt := 13) dX10_store_6 (by decide) (fun q2 => ?_) (fun q2 => ?_)
  · have t := t.1 q2
    refine r_iload_n (q := 2) dX10_store_13 rfl rfl ?_
    refine r_iconst (v := (0 : Int32)) dX10_store_14 rfl ?_
    refine r_iconst (v := (3 : Int32)) dX10_store_15 rfl ?_
    refine r_cSI (As := [.int a2, .int (0 : Int32), .int (3 : Int32)]) dX10_store_16 mkX10_isIn lkX10_124 rfl (by decide) rfl (Nat.le_of_ble_eq_true rfl) z00 t ?_
    intro v3 h3 t
    refine r_if_ne (tgt := 26) dX10_store_19 (by decide) (fun q4 => ?_) (fun q4 => ?_)
    · have t := t.1 q4
      refine r_iconst (v := (0 : Int32)) dX10_store_26 rfl ?_
      refine r_cVI (c := 63) (As := [.int (0 : Int32)]) dX10_store_27 mkX10_throwsAs lkX10_147 lay_63 rfl rfl rfl (by decide) rfl (Nat.le_of_ble_eq_true rfl) z00 t ?_
      intro v5 h5 t
      refine r_if_eq (tgt := 35) dX10_store_30 (by decide) (fun q6 => ?_) (fun q6 => ?_)
      · have t := t.1 q6
        refine r_iload_n (q := 2) dX10_store_35 rfl rfl ?_
        refine r_if_ne (tgt := 48) dX10_store_36 (by decide) (fun q7 => ?_) (fun q7 => ?_)
        · have t := t.1 q7
          refine r_iload_n (q := 2) dX10_store_48 rfl rfl ?_
          refine r_iconst (v := (1 : Int32)) dX10_store_49 rfl ?_
          refine r_icmp_ne (tgt := 62) dX10_store_50 (by decide) (fun q8 => ?_) (fun q8 => ?_)
          · have t := t.1 q8
            refine r_iload_n (q := 2) dX10_store_62 rfl rfl ?_
            refine r_iconst (v := (2 : Int32)) dX10_store_63 rfl ?_
            refine r_icmp_ne (tgt := 76) dX10_store_64 (by decide) (fun q9 => ?_) (fun q9 => ?_)
            · have t := t.1 q9
              refine r_aload_n (q := 0) dX10_store_76 rfl rfl ?_
              refine r_iload_n (q := 1) dX10_store_77 rfl rfl ?_
              refine r_cVI (c := 63) (As := [.int a1]) dX10_store_78 mkX10_usersOf lkX10_263 lay_63 rfl rfl rfl (by decide) rfl (Nat.le_of_ble_eq_true rfl) z00 t ?_
              intro v10 h10 t
              exact r_iret dX10_store_81 rfl t
            · have t := t.2 q9
              refine r_aload_n (q := 0) dX10_store_67 rfl rfl ?_
              refine r_getR (c := 63) (c2 := 81) dX10_store_68 flX10_61 lay_63 rfl ?_
              refine r_iload_n (q := 1) dX10_store_71 rfl rfl ?_
              obtain ⟨c11, t⟩ := t
              refine r_iald (c := 81) dX10_store_72 lay_81 c11 ?_
              refine r_goto (tgt := 81) dX10_store_73 (by decide) ?_
              exact r_iret dX10_store_81 rfl t
          · have t := t.2 q8
            refine r_aload_n (q := 0) dX10_store_53 rfl rfl ?_
            refine r_getR (c := 63) (c2 := 80) dX10_store_54 flX10_58 lay_63 rfl ?_
            refine r_iload_n (q := 1) dX10_store_57 rfl rfl ?_
            obtain ⟨c12, t⟩ := t
            refine r_iald (c := 80) dX10_store_58 lay_80 c12 ?_
            refine r_goto (tgt := 81) dX10_store_59 (by decide) ?_
            exact r_iret dX10_store_81 rfl t
        · have t := t.2 q7
          refine r_aload_n (q := 0) dX10_store_39 rfl rfl ?_
          refine r_getR (c := 63) (c2 := 79) dX10_store_40 flX10_55 lay_63 rfl ?_
          refine r_iload_n (q := 1) dX10_store_43 rfl rfl ?_
          obtain ⟨c13, t⟩ := t
          refine r_iald (c := 79) dX10_store_44 lay_79 c13 ?_
          refine r_goto (tgt := 81) dX10_store_45 (by decide) ?_
          exact r_iret dX10_store_81 rfl t
      · have t := t.2 q6
        refine r_iconst (v := (0 : Int32)) dX10_store_33 rfl ?_
        exact r_iret dX10_store_34 rfl t
    · have t := t.2 q4
      refine r_iconst (v := (2 : Int32)) dX10_store_22 rfl ?_
      refine r_goto (tgt := 27) dX10_store_23 (by decide) ?_
      refine r_cVI (c := 63) (As := [.int (2 : Int32)]) dX10_store_27 mkX10_throwsAs lkX10_147 lay_63 rfl rfl rfl (by decide) rfl (Nat.le_of_ble_eq_true rfl) z00 t ?_
      intro v14 h14 t
      refine r_if_eq (tgt := 35) dX10_store_30 (by decide) (fun q15 => ?_) (fun q15 => ?_)
      · have t := t.1 q15
        refine r_iload_n (q := 2) dX10_store_35 rfl rfl ?_
        refine r_if_ne (tgt := 48) dX10_store_36 (by decide) (fun q16 => ?_) (fun q16 => ?_)
        · have t := t.1 q16
          refine r_iload_n (q := 2) dX10_store_48 rfl rfl ?_
          refine r_iconst (v := (1 : Int32)) dX10_store_49 rfl ?_
          refine r_icmp_ne (tgt := 62) dX10_store_50 (by decide) (fun q17 => ?_) (fun q17 => ?_)
          · have t := t.1 q17
            refine r_iload_n (q := 2) dX10_store_62 rfl rfl ?_
            refine r_iconst (v := (2 : Int32)) dX10_store_63 rfl ?_
            refine r_icmp_ne (tgt := 76) dX10_store_64 (by decide) (fun q18 => ?_) (fun q18 => ?_)
            · have t := t.1 q18
              refine r_aload_n (q := 0) dX10_store_76 rfl rfl ?_
              refine r_iload_n (q := 1) dX10_store_77 rfl rfl ?_
              refine r_cVI (c := 63) (As := [.int a1]) dX10_store_78 mkX10_usersOf lkX10_263 lay_63 rfl rfl rfl (by decide) rfl (Nat.le_of_ble_eq_true rfl) z00 t ?_
              intro v19 h19 t
              exact r_iret dX10_store_81 rfl t
            · have t := t.2 q18
              refine r_aload_n (q := 0) dX10_store_67 rfl rfl ?_
              refine r_getR (c := 63) (c2 := 81) dX10_store_68 flX10_61 lay_63 rfl ?_
              refine r_iload_n (q := 1) dX10_store_71 rfl rfl ?_
              obtain ⟨c20, t⟩ := t
              refine r_iald (c := 81) dX10_store_72 lay_81 c20 ?_
              refine r_goto (tgt := 81) dX10_store_73 (by decide) ?_
              exact r_iret dX10_store_81 rfl t
          · have t := t.2 q17
            refine r_aload_n (q := 0) dX10_store_53 rfl rfl ?_
            refine r_getR (c := 63) (c2 := 80) dX10_store_54 flX10_58 lay_63 rfl ?_
            refine r_iload_n (q := 1) dX10_store_57 rfl rfl ?_
            obtain ⟨c21, t⟩ := t
            refine r_iald (c := 80) dX10_store_58 lay_80 c21 ?_
            refine r_goto (tgt := 81) dX10_store_59 (by decide) ?_
            exact r_iret dX10_store_81 rfl t
        · have t := t.2 q16
          refine r_aload_n (q := 0) dX10_store_39 rfl rfl ?_
          refine r_getR (c := 63) (c2 := 79) dX10_store_40 flX10_55 lay_63 rfl ?_
          refine r_iload_n (q := 1) dX10_store_43 rfl rfl ?_
          obtain ⟨c22, t⟩ := t
          refine r_iald (c := 79) dX10_store_44 lay_79 c22 ?_
          refine r_goto (tgt := 81) dX10_store_45 (by decide) ?_
          exact r_iret dX10_store_81 rfl t
      · have t := t.2 q15
        refine r_iconst (v := (0 : Int32)) dX10_store_33 rfl ?_
        exact r_iret dX10_store_34 rfl t
  · have t := t.2 q2
    refine r_iconst (v := (1 : Int32)) dX10_store_9 rfl ?_
    refine r_goto (tgt := 27) dX10_store_10 (by decide) ?_
    refine r_cVI (c := 63) (As := [.int (1 : Int32)]) dX10_store_27 mkX10_throwsAs lkX10_147 lay_63 rfl rfl rfl (by decide) rfl (Nat.le_of_ble_eq_true rfl) z00 t ?_
    intro v23 h23 t
    refine r_if_eq (tgt := 35) dX10_store_30 (by decide) (fun q24 => ?_) (fun q24 => ?_)
    · have t := t.1 q24
      refine r_iload_n (q := 2) dX10_store_35 rfl rfl ?_
      refine r_if_ne (tgt := 48) dX10_store_36 (by decide) (fun q25 => ?_) (fun q25 => ?_)
      · have t := t.1 q25
        refine r_iload_n (q := 2) dX10_store_48 rfl rfl ?_
        refine r_iconst (v := (1 : Int32)) dX10_store_49 rfl ?_
        refine r_icmp_ne (tgt := 62) dX10_store_50 (by decide) (fun q26 => ?_) (fun q26 => ?_)
        · have t := t.1 q26
          refine r_iload_n (q := 2) dX10_store_62 rfl rfl ?_
          refine r_iconst (v := (2 : Int32)) dX10_store_63 rfl ?_
          refine r_icmp_ne (tgt := 76) dX10_store_64 (by decide) (fun q27 => ?_) (fun q27 => ?_)
          · have t := t.1 q27
            refine r_aload_n (q := 0) dX10_store_76 rfl rfl ?_
            refine r_iload_n (q := 1) dX10_store_77 rfl rfl ?_
            refine r_cVI (c := 63) (As := [.int a1]) dX10_store_78 mkX10_usersOf lkX10_263 lay_63 rfl rfl rfl (by decide) rfl (Nat.le_of_ble_eq_true rfl) z00 t ?_
            intro v28 h28 t
            exact r_iret dX10_store_81 rfl t
          · have t := t.2 q27
            refine r_aload_n (q := 0) dX10_store_67 rfl rfl ?_
            refine r_getR (c := 63) (c2 := 81) dX10_store_68 flX10_61 lay_63 rfl ?_
            refine r_iload_n (q := 1) dX10_store_71 rfl rfl ?_
            obtain ⟨c29, t⟩ := t
            refine r_iald (c := 81) dX10_store_72 lay_81 c29 ?_
            refine r_goto (tgt := 81) dX10_store_73 (by decide) ?_
            exact r_iret dX10_store_81 rfl t
        · have t := t.2 q26
          refine r_aload_n (q := 0) dX10_store_53 rfl rfl ?_
          refine r_getR (c := 63) (c2 := 80) dX10_store_54 flX10_58 lay_63 rfl ?_
          refine r_iload_n (q := 1) dX10_store_57 rfl rfl ?_
          obtain ⟨c30, t⟩ := t
          refine r_iald (c := 80) dX10_store_58 lay_80 c30 ?_
          refine r_goto (tgt := 81) dX10_store_59 (by decide) ?_
          exact r_iret dX10_store_81 rfl t
      · have t := t.2 q25
        refine r_aload_n (q := 0) dX10_store_39 rfl rfl ?_
        refine r_getR (c := 63) (c2 := 79) dX10_store_40 flX10_55 lay_63 rfl ?_
        refine r_iload_n (q := 1) dX10_store_43 rfl rfl ?_
        obtain ⟨c31, t⟩ := t
        refine r_iald (c := 79) dX10_store_44 lay_79 c31 ?_
        refine r_goto (tgt := 81) dX10_store_45 (by decide) ?_
        exact r_iret dX10_store_81 rfl t
    · have t := t.2 q24
      refine r_iconst (v := (0 : Int32)) dX10_store_33 rfl ?_
      exact r_iret dX10_store_34 rfl t
theorem dX10_fieldCount_0 : decode cX10_fieldCount 0 = .ok (.aload_n 0, 1) := by decide +kernel
theorem dX10_fieldCount_1 : decode cX10_fieldCount 1 = .ok (.iconst 0, 1) := by decide +kernel
theorem dX10_fieldCount_2 : decode cX10_fieldCount 2 = .ok (.putfield 118, 3) := by decide +kernel
theorem dX10_fieldCount_5 : decode cX10_fieldCount 5 = .ok (.aload_n 0, 1) := by decide +kernel
theorem dX10_fieldCount_6 : decode cX10_fieldCount 6 = .ok (.getfield 230, 3) := by decide +kernel
theorem dX10_fieldCount_9 : decode cX10_fieldCount 9 = .ok (.ireturn, 1) := by decide +kernel
set_option maxRecDepth 20000 in
theorem wp_X10_fieldCount (E : En) (d : Nat) (h : Hp) (P : Int32 → Hp → Prop) (t : P (h.1 63 30) (sI h 63 0 (0 : Int32))) : SpI E d MX10_fieldCount [.ref (eA E 63)] h P := by
  refine SpI.of (lv0 := [(0, .ref (eA E 63))]) (by decide) (Nat.le_of_ble_eq_true rfl) rfl (fun g => ?_)
  refine r_aload_n (q := 0) dX10_fieldCount_0 rfl rfl ?_
  refine r_iconst (v := (0 : Int32)) dX10_fieldCount_1 rfl ?_
  refine r_putI (c := 63) dX10_fieldCount_2 flX10_118 lay_63 rfl ?_
  refine r_aload_n (q := 0) dX10_fieldCount_5 rfl rfl ?_
  refine r_getIv (c := 63) (v := h.1 63 30) dX10_fieldCount_6 flX10_230 lay_63 rfl rfl ?_
  exact r_iret dX10_fieldCount_9 rfl t
theorem dX10_fieldBits_0 : decode cX10_fieldBits 0 = .ok (.aload_n 0, 1) := by decide +kernel
theorem dX10_fieldBits_1 : decode cX10_fieldBits 1 = .ok (.iconst 0, 1) := by decide +kernel
theorem dX10_fieldBits_2 : decode cX10_fieldBits 2 = .ok (.putfield 118, 3) := by decide +kernel
theorem dX10_fieldBits_5 : decode cX10_fieldBits 5 = .ok (.aload_n 0, 1) := by decide +kernel
theorem dX10_fieldBits_6 : decode cX10_fieldBits 6 = .ok (.getfield 233, 3) := by decide +kernel
theorem dX10_fieldBits_9 : decode cX10_fieldBits 9 = .ok (.ireturn, 1) := by decide +kernel
set_option maxRecDepth 20000 in
theorem wp_X10_fieldBits (E : En) (d : Nat) (h : Hp) (P : Int32 → Hp → Prop) (t : P (h.1 63 31) (sI h 63 0 (0 : Int32))) : SpI E d MX10_fieldBits [.ref (eA E 63)] h P := by
  refine SpI.of (lv0 := [(0, .ref (eA E 63))]) (by decide) (Nat.le_of_ble_eq_true rfl) rfl (fun g => ?_)
  refine r_aload_n (q := 0) dX10_fieldBits_0 rfl rfl ?_
  refine r_iconst (v := (0 : Int32)) dX10_fieldBits_1 rfl ?_
  refine r_putI (c := 63) dX10_fieldBits_2 flX10_118 lay_63 rfl ?_
  refine r_aload_n (q := 0) dX10_fieldBits_5 rfl rfl ?_
  refine r_getIv (c := 63) (v := h.1 63 31) dX10_fieldBits_6 flX10_233 lay_63 rfl rfl ?_
  exact r_iret dX10_fieldBits_9 rfl t
theorem dX10_fieldWith_0 : decode cX10_fieldWith 0 = .ok (.iconst 0, 1) := by decide +kernel
theorem dX10_fieldWith_1 : decode cX10_fieldWith 1 = .ok (.istore_n 2, 1) := by decide +kernel
theorem dX10_fieldWith_2 : decode cX10_fieldWith 2 = .ok (.iload_n 2, 1) := by decide +kernel
theorem dX10_fieldWith_3 : decode cX10_fieldWith 3 = .ok (.aload_n 0, 1) := by decide +kernel
theorem dX10_fieldWith_4 : decode cX10_fieldWith 4 = .ok (.getfield 230, 3) := by decide +kernel
theorem dX10_fieldWith_7 : decode cX10_fieldWith 7 = .ok (.if_icmp .ge 25, 3) := by decide +kernel
theorem dX10_fieldWith_10 : decode cX10_fieldWith 10 = .ok (.aload_n 0, 1) := by decide +kernel
theorem dX10_fieldWith_11 : decode cX10_fieldWith 11 = .ok (.getfield 74, 3) := by decide +kernel
theorem dX10_fieldWith_14 : decode cX10_fieldWith 14 = .ok (.iload_n 2, 1) := by decide +kernel
theorem dX10_fieldWith_15 : decode cX10_fieldWith 15 = .ok (.iaload, 1) := by decide +kernel
theorem dX10_fieldWith_16 : decode cX10_fieldWith 16 = .ok (.iload_n 1, 1) := by decide +kernel
theorem dX10_fieldWith_17 : decode cX10_fieldWith 17 = .ok (.ishr, 1) := by decide +kernel
theorem dX10_fieldWith_18 : decode cX10_fieldWith 18 = .ok (.iconst 1, 1) := by decide +kernel
theorem dX10_fieldWith_19 : decode cX10_fieldWith 19 = .ok (.iand, 1) := by decide +kernel
theorem dX10_fieldWith_20 : decode cX10_fieldWith 20 = .ok (.iconst 1, 1) := by decide +kernel
theorem dX10_fieldWith_21 : decode cX10_fieldWith 21 = .ok (.if_icmp .ne 5, 3) := by decide +kernel
theorem dX10_fieldWith_24 : decode cX10_fieldWith 24 = .ok (.iload_n 2, 1) := by decide +kernel
theorem dX10_fieldWith_25 : decode cX10_fieldWith 25 = .ok (.ireturn, 1) := by decide +kernel
theorem dX10_fieldWith_26 : decode cX10_fieldWith 26 = .ok (.iinc 2 1, 3) := by decide +kernel
theorem dX10_fieldWith_29 : decode cX10_fieldWith 29 = .ok (.goto (-27), 3) := by decide +kernel
theorem dX10_fieldWith_32 : decode cX10_fieldWith 32 = .ok (.iconst (-1), 1) := by decide +kernel
theorem dX10_fieldWith_33 : decode cX10_fieldWith 33 = .ok (.ireturn, 1) := by decide +kernel
abbrev VX10_fieldWith_2 (E : En) (d : Nat) (g : Ga) (P : Int32 → Hp → Prop) (x1 : Int32) (x2 : Int32) (h : Hp) : Prop := V E MX10_fieldWith (RM d 0) g (QQ E g (QI E P) 0 0) 0 0 h 2 [(0, .ref (eA E 63)), (1, .int x1), (2, .int x2)] []
set_option maxRecDepth 20000 in
theorem wp_X10_fieldWith (E : En) (d : Nat) (a1 : Int32) (h : Hp) (P : Int32 → Hp → Prop) (t : ∀ g : Ga, VX10_fieldWith_2 E d g P a1 (0 : Int32) h) : SpI E d MX10_fieldWith [.ref (eA E 63), .int a1] h P := by
  refine SpI.of (lv0 := [(0, .ref (eA E 63)), (1, .int a1)]) (by decide) (Nat.le_of_ble_eq_true rfl) rfl (fun g => ?_)
  have t := t g
  refine r_iconst (v := (0 : Int32)) dX10_fieldWith_0 rfl ?_
  refine r_istore_n (lv' := [(2, .int (0 : Int32)), (0, .ref (eA E 63)), (1, .int a1)]) dX10_fieldWith_1 rfl (by decide) rfl ?_
  refine r_sub [1, 2, 0] rfl ?_
  exact t
set_option maxRecDepth 20000 in
theorem sg_X10_fieldWith_2 (E : En) (d : Nat) (g : Ga) (x1 : Int32) (x2 : Int32) (h : Hp) (P : Int32 → Hp → Prop) (t : ((h.1 63 30) ≤ x2 → (P (-1 : Int32) h)) ∧ (¬ (h.1 63 30) ≤ x2 → (vp_in x2 12 ∧ ((¬ (((h.1 85 x2.toNatClampNeg) >>> (x1 &&& 31)) &&& (1 : Int32)) = (1 : Int32) → (VX10_fieldWith_2 E d g P x1 (x2 + (1 : Int32)) h)) ∧ ((((h.1 85 x2.toNatClampNeg) >>> (x1 &&& 31)) &&& (1 : Int32)) = (1 : Int32) → (P x2 h)))))) : VX10_fieldWith_2 E d g P x1 x2 h := by
  refine r_iload_n (q := 2) dX10_fieldWith_2 rfl rfl ?_
  refine r_aload_n (q := 0) dX10_fieldWith_3 rfl rfl ?_
  refine r_getI (c := 63) dX10_fieldWith_4 flX10_230 lay_63 rfl ?_
  refine r_icmp_ge (tgt := 32) dX10_fieldWith_7 (by decide) (fun q1 => ?_) (fun q1 => ?_)
  · have t := t.1 q1
    refine r_iconst (v := (-1 : Int32)) dX10_fieldWith_32 rfl ?_
    exact r_iret dX10_fieldWith_33 rfl t
  · have t := t.2 q1
    refine r_aload_n (q := 0) dX10_fieldWith_10 rfl rfl ?_
    refine r_getR (c := 63) (c2 := 85) dX10_fieldWith_11 flX10_74 lay_63 rfl ?_
    refine r_iload_n (q := 2) dX10_fieldWith_14 rfl rfl ?_
    obtain ⟨c2, t⟩ := t
    refine r_iald (c := 85) dX10_fieldWith_15 lay_85 c2 ?_
    refine r_iload_n (q := 1) dX10_fieldWith_16 rfl rfl ?_
    refine r_ishr dX10_fieldWith_17 ?_
    refine r_iconst (v := (1 : Int32)) dX10_fieldWith_18 rfl ?_
    refine r_iand dX10_fieldWith_19 ?_
    refine r_iconst (v := (1 : Int32)) dX10_fieldWith_20 rfl ?_
    refine r_icmp_ne (tgt := 26) dX10_fieldWith_21 (by decide) (fun q3 => ?_) (fun q3 => ?_)
    · have t := t.1 q3
      refine r_iinc (k := 2) (v := x2 + (1 : Int32)) (lv' := [(2, .int (x2 + (1 : Int32))), (0, .ref (eA E 63)), (1, .int x1)]) dX10_fieldWith_26 rfl rfl (by decide) rfl ?_
      refine r_goto (tgt := 2) dX10_fieldWith_29 (by decide) ?_
      refine r_sub [1, 2, 0] rfl ?_
      exact t
    · have t := t.2 q3
      refine r_iload_n (q := 2) dX10_fieldWith_24 rfl rfl ?_
      exact r_iret dX10_fieldWith_25 rfl t
theorem dX10_code_0 : decode cX10_code 0 = .ok (.iconst 1, 1) := by decide +kernel
theorem dX10_code_1 : decode cX10_code 1 = .ok (.aload_n 0, 1) := by decide +kernel
theorem dX10_code_2 : decode cX10_code 2 = .ok (.getfield 74, 3) := by decide +kernel
theorem dX10_code_5 : decode cX10_code 5 = .ok (.aload_n 0, 1) := by decide +kernel
theorem dX10_code_6 : decode cX10_code 6 = .ok (.iload_n 1, 1) := by decide +kernel
theorem dX10_code_7 : decode cX10_code 7 = .ok (.invokevirtual 266, 3) := by decide +kernel
theorem dX10_code_10 : decode cX10_code 10 = .ok (.iaload, 1) := by decide +kernel
theorem dX10_code_11 : decode cX10_code 11 = .ok (.iconst 1, 1) := by decide +kernel
theorem dX10_code_12 : decode cX10_code 12 = .ok (.iload_n 1, 1) := by decide +kernel
theorem dX10_code_13 : decode cX10_code 13 = .ok (.ishl, 1) := by decide +kernel
theorem dX10_code_14 : decode cX10_code 14 = .ok (.iconst 1, 1) := by decide +kernel
theorem dX10_code_15 : decode cX10_code 15 = .ok (.isub, 1) := by decide +kernel
theorem dX10_code_16 : decode cX10_code 16 = .ok (.iand, 1) := by decide +kernel
theorem dX10_code_17 : decode cX10_code 17 = .ok (.invokestatic 218, 3) := by decide +kernel
theorem dX10_code_20 : decode cX10_code 20 = .ok (.iadd, 1) := by decide +kernel
theorem dX10_code_21 : decode cX10_code 21 = .ok (.ireturn, 1) := by decide +kernel
set_option maxRecDepth 20000 in
theorem wp_X10_code (E : En) (d : Nat) (a1 : Int32) (h : Hp) (P : Int32 → Hp → Prop) (t : SpI E d MX10_fieldWith [.ref (eA E 63), .int a1] h (fun v1 h1 => vp_in v1 12 ∧ (SpI E d MX10_ones [.int ((h1.1 85 v1.toNatClampNeg) &&& (((1 : Int32) <<< (a1 &&& 31)) - (1 : Int32)))] h1 (fun v3 h3 => P ((1 : Int32) + v3) h3)))) : SpI E (d + 1) MX10_code [.ref (eA E 63), .int a1] h P := by
  refine SpI.of (lv0 := [(0, .ref (eA E 63)), (1, .int a1)]) (by decide) (Nat.le_of_ble_eq_true rfl) rfl (fun g => ?_)
  refine r_iconst (v := (1 : Int32)) dX10_code_0 rfl ?_
  refine r_aload_n (q := 0) dX10_code_1 rfl rfl ?_
  refine r_getR (c := 63) (c2 := 85) dX10_code_2 flX10_74 lay_63 rfl ?_
  refine r_aload_n (q := 0) dX10_code_5 rfl rfl ?_
  refine r_iload_n (q := 1) dX10_code_6 rfl rfl ?_
  refine r_cVI (c := 63) (As := [.int a1]) dX10_code_7 mkX10_fieldWith lkX10_266 lay_63 rfl rfl rfl (by decide) rfl (Nat.le_of_ble_eq_true rfl) z00 t ?_
  intro v1 h1 t
  obtain ⟨c2, t⟩ := t
  refine r_iald (c := 85) dX10_code_10 lay_85 c2 ?_
  refine r_iconst (v := (1 : Int32)) dX10_code_11 rfl ?_
  refine r_iload_n (q := 1) dX10_code_12 rfl rfl ?_
  refine r_ishl dX10_code_13 ?_
  refine r_iconst (v := (1 : Int32)) dX10_code_14 rfl ?_
  refine r_isub dX10_code_15 ?_
  refine r_iand dX10_code_16 ?_
  refine r_cSI (As := [.int ((h1.1 85 v1.toNatClampNeg) &&& (((1 : Int32) <<< (a1 &&& 31)) - (1 : Int32)))]) dX10_code_17 mkX10_ones lkX10_218 rfl (by decide) rfl (Nat.le_of_ble_eq_true rfl) z00 t ?_
  intro v3 h3 t
  refine r_iadd dX10_code_20 ?_
  exact r_iret dX10_code_21 rfl t
theorem dX10_fieldOf_0 : decode cX10_fieldOf 0 = .ok (.aload_n 0, 1) := by decide +kernel
theorem dX10_fieldOf_1 : decode cX10_fieldOf 1 = .ok (.iload_n 1, 1) := by decide +kernel
theorem dX10_fieldOf_2 : decode cX10_fieldOf 2 = .ok (.iconst 0, 1) := by decide +kernel
theorem dX10_fieldOf_3 : decode cX10_fieldOf 3 = .ok (.aload_n 0, 1) := by decide +kernel
theorem dX10_fieldOf_4 : decode cX10_fieldOf 4 = .ok (.getfield 144, 3) := by decide +kernel
theorem dX10_fieldOf_7 : decode cX10_fieldOf 7 = .ok (.iconst 1, 1) := by decide +kernel
theorem dX10_fieldOf_8 : decode cX10_fieldOf 8 = .ok (.isub, 1) := by decide +kernel
theorem dX10_fieldOf_9 : decode cX10_fieldOf 9 = .ok (.invokestatic 124, 3) := by decide +kernel
theorem dX10_fieldOf_12 : decode cX10_fieldOf 12 = .ok (.ifCond .eq 7, 3) := by decide +kernel
theorem dX10_fieldOf_15 : decode cX10_fieldOf 15 = .ok (.iconst 0, 1) := by decide +kernel
theorem dX10_fieldOf_16 : decode cX10_fieldOf 16 = .ok (.goto 4, 3) := by decide +kernel
theorem dX10_fieldOf_19 : decode cX10_fieldOf 19 = .ok (.iconst 1, 1) := by decide +kernel
theorem dX10_fieldOf_20 : decode cX10_fieldOf 20 = .ok (.invokevirtual 147, 3) := by decide +kernel
theorem dX10_fieldOf_23 : decode cX10_fieldOf 23 = .ok (.ifCond .eq 7, 3) := by decide +kernel
theorem dX10_fieldOf_26 : decode cX10_fieldOf 26 = .ok (.iconst 0, 1) := by decide +kernel
theorem dX10_fieldOf_27 : decode cX10_fieldOf 27 = .ok (.goto 8, 3) := by decide +kernel
theorem dX10_fieldOf_30 : decode cX10_fieldOf 30 = .ok (.aload_n 0, 1) := by decide +kernel
theorem dX10_fieldOf_31 : decode cX10_fieldOf 31 = .ok (.iload_n 1, 1) := by decide +kernel
theorem dX10_fieldOf_32 : decode cX10_fieldOf 32 = .ok (.invokevirtual 266, 3) := by decide +kernel
theorem dX10_fieldOf_35 : decode cX10_fieldOf 35 = .ok (.ireturn, 1) := by decide +kernel
set_option maxRecDepth 20000 in
theorem wp_X10_fieldOf (E : En) (d : Nat) (a1 : Int32) (h : Hp) (P : Int32 → Hp → Prop) (t : SpI E d MX10_isIn [.int a1, .int (0 : Int32), .int ((h.1 63 1) - (1 : Int32))] h (fun v1 h1 => (v1 = 0 → (SpI E d MX10_throwsAs [.ref (eA E 63), .int (1 : Int32)] h1 (fun v3 h3 => (v3 = 0 → (SpI E d MX10_fieldWith [.ref (eA E 63), .int a1] h3 (fun v5 h5 => P v5 h5))) ∧ (¬ v3 = 0 → (P (0 : Int32) h3))))) ∧ (¬ v1 = 0 → (SpI E d MX10_throwsAs [.ref (eA E 63), .int (0 : Int32)] h1 (fun v6 h6 => (v6 = 0 → (SpI E d MX10_fieldWith [.ref (eA E 63), .int a1] h6 (fun v8 h8 => P v8 h8))) ∧ (¬ v6 = 0 → (P (0 : Int32) h6))))))) : SpI E (d + 1) MX10_fieldOf [.ref (eA E 63), .int a1] h P := by
  refine SpI.of (lv0 := [(0, .ref (eA E 63)), (1, .int a1)]) (by decide) (Nat.le_of_ble_eq_true rfl) rfl (fun g => ?_)
  refine r_aload_n (q := 0) dX10_fieldOf_0 rfl rfl ?_
  refine r_iload_n (q := 1) dX10_fieldOf_1 rfl rfl ?_
  refine r_iconst (v := (0 : Int32)) dX10_fieldOf_2 rfl ?_
  refine r_aload_n (q := 0) dX10_fieldOf_3 rfl rfl ?_
  refine r_getI (c := 63) dX10_fieldOf_4 flX10_144 lay_63 rfl ?_
  refine r_iconst (v := (1 : Int32)) dX10_fieldOf_7 rfl ?_
  refine r_isub dX10_fieldOf_8 ?_
  refine r_cSI (As := [.int a1, .int (0 : Int32), .int ((h.1 63 1) - (1 : Int32))]) dX10_fieldOf_9 mkX10_isIn lkX10_124 rfl (by decide) rfl (Nat.le_of_ble_eq_true rfl) z00 t ?_
  intro v1 h1 t
  refine r_if_eq (tgt := 19) dX10_fieldOf_12 (by decide) (fun q2 => ?_) (fun q2 => ?_)
  · have t := t.1 q2
    refine r_iconst (v := (1 : Int32)) dX10_fieldOf_19 rfl ?_
    refine r_cVI (c := 63) (As := [.int (1 : Int32)]) dX10_fieldOf_20 mkX10_throwsAs lkX10_147 lay_63 rfl rfl rfl (by decide) rfl (Nat.le_of_ble_eq_true rfl) z00 t ?_
    intro v3 h3 t
    refine r_if_eq (tgt := 30) dX10_fieldOf_23 (by decide) (fun q4 => ?_) (fun q4 => ?_)
    · have t := t.1 q4
      refine r_aload_n (q := 0) dX10_fieldOf_30 rfl rfl ?_
      refine r_iload_n (q := 1) dX10_fieldOf_31 rfl rfl ?_
      refine r_cVI (c := 63) (As := [.int a1]) dX10_fieldOf_32 mkX10_fieldWith lkX10_266 lay_63 rfl rfl rfl (by decide) rfl (Nat.le_of_ble_eq_true rfl) z00 t ?_
      intro v5 h5 t
      exact r_iret dX10_fieldOf_35 rfl t
    · have t := t.2 q4
      refine r_iconst (v := (0 : Int32)) dX10_fieldOf_26 rfl ?_
      refine r_goto (tgt := 35) dX10_fieldOf_27 (by decide) ?_
      exact r_iret dX10_fieldOf_35 rfl t
  · have t := t.2 q2
    refine r_iconst (v := (0 : Int32)) dX10_fieldOf_15 rfl ?_
    refine r_goto (tgt := 20) dX10_fieldOf_16 (by decide) ?_
    refine r_cVI (c := 63) (As := [.int (0 : Int32)]) dX10_fieldOf_20 mkX10_throwsAs lkX10_147 lay_63 rfl rfl rfl (by decide) rfl (Nat.le_of_ble_eq_true rfl) z00 t ?_
    intro v6 h6 t
    refine r_if_eq (tgt := 30) dX10_fieldOf_23 (by decide) (fun q7 => ?_) (fun q7 => ?_)
    · have t := t.1 q7
      refine r_aload_n (q := 0) dX10_fieldOf_30 rfl rfl ?_
      refine r_iload_n (q := 1) dX10_fieldOf_31 rfl rfl ?_
      refine r_cVI (c := 63) (As := [.int a1]) dX10_fieldOf_32 mkX10_fieldWith lkX10_266 lay_63 rfl rfl rfl (by decide) rfl (Nat.le_of_ble_eq_true rfl) z00 t ?_
      intro v8 h8 t
      exact r_iret dX10_fieldOf_35 rfl t
    · have t := t.2 q7
      refine r_iconst (v := (0 : Int32)) dX10_fieldOf_26 rfl ?_
      refine r_goto (tgt := 35) dX10_fieldOf_27 (by decide) ?_
      exact r_iret dX10_fieldOf_35 rfl t
theorem dX10_codeOf_0 : decode cX10_codeOf 0 = .ok (.aload_n 0, 1) := by decide +kernel
theorem dX10_codeOf_1 : decode cX10_codeOf 1 = .ok (.iload_n 1, 1) := by decide +kernel
theorem dX10_codeOf_2 : decode cX10_codeOf 2 = .ok (.iconst 0, 1) := by decide +kernel
theorem dX10_codeOf_3 : decode cX10_codeOf 3 = .ok (.aload_n 0, 1) := by decide +kernel
theorem dX10_codeOf_4 : decode cX10_codeOf 4 = .ok (.getfield 144, 3) := by decide +kernel
theorem dX10_codeOf_7 : decode cX10_codeOf 7 = .ok (.iconst 1, 1) := by decide +kernel
theorem dX10_codeOf_8 : decode cX10_codeOf 8 = .ok (.isub, 1) := by decide +kernel
theorem dX10_codeOf_9 : decode cX10_codeOf 9 = .ok (.invokestatic 124, 3) := by decide +kernel
theorem dX10_codeOf_12 : decode cX10_codeOf 12 = .ok (.ifCond .eq 7, 3) := by decide +kernel
theorem dX10_codeOf_15 : decode cX10_codeOf 15 = .ok (.iconst 0, 1) := by decide +kernel
theorem dX10_codeOf_16 : decode cX10_codeOf 16 = .ok (.goto 4, 3) := by decide +kernel
theorem dX10_codeOf_19 : decode cX10_codeOf 19 = .ok (.iconst 1, 1) := by decide +kernel
theorem dX10_codeOf_20 : decode cX10_codeOf 20 = .ok (.invokevirtual 147, 3) := by decide +kernel
theorem dX10_codeOf_23 : decode cX10_codeOf 23 = .ok (.ifCond .ne 12, 3) := by decide +kernel
theorem dX10_codeOf_26 : decode cX10_codeOf 26 = .ok (.aload_n 0, 1) := by decide +kernel
theorem dX10_codeOf_27 : decode cX10_codeOf 27 = .ok (.iload_n 1, 1) := by decide +kernel
theorem dX10_codeOf_28 : decode cX10_codeOf 28 = .ok (.invokevirtual 266, 3) := by decide +kernel
theorem dX10_codeOf_31 : decode cX10_codeOf 31 = .ok (.iconst (-1), 1) := by decide +kernel
theorem dX10_codeOf_32 : decode cX10_codeOf 32 = .ok (.if_icmp .ne 7, 3) := by decide +kernel
theorem dX10_codeOf_35 : decode cX10_codeOf 35 = .ok (.iconst 0, 1) := by decide +kernel
theorem dX10_codeOf_36 : decode cX10_codeOf 36 = .ok (.goto 8, 3) := by decide +kernel
theorem dX10_codeOf_39 : decode cX10_codeOf 39 = .ok (.aload_n 0, 1) := by decide +kernel
theorem dX10_codeOf_40 : decode cX10_codeOf 40 = .ok (.iload_n 1, 1) := by decide +kernel
theorem dX10_codeOf_41 : decode cX10_codeOf 41 = .ok (.invokevirtual 269, 3) := by decide +kernel
theorem dX10_codeOf_44 : decode cX10_codeOf 44 = .ok (.ireturn, 1) := by decide +kernel
set_option maxRecDepth 20000 in
theorem wp_X10_codeOf (E : En) (d : Nat) (a1 : Int32) (h : Hp) (P : Int32 → Hp → Prop) (t : SpI E d MX10_isIn [.int a1, .int (0 : Int32), .int ((h.1 63 1) - (1 : Int32))] h (fun v1 h1 => (v1 = 0 → (SpI E d MX10_throwsAs [.ref (eA E 63), .int (1 : Int32)] h1 (fun v3 h3 => (¬ v3 = 0 → (P (0 : Int32) h3)) ∧ (v3 = 0 → (SpI E d MX10_fieldWith [.ref (eA E 63), .int a1] h3 (fun v5 h5 => (¬ v5 = (-1 : Int32) → (SpI E d MX10_code [.ref (eA E 63), .int a1] h5 (fun v7 h7 => P v7 h7))) ∧ (v5 = (-1 : Int32) → (P (0 : Int32) h5)))))))) ∧ (¬ v1 = 0 → (SpI E d MX10_throwsAs [.ref (eA E 63), .int (0 : Int32)] h1 (fun v8 h8 => (¬ v8 = 0 → (P (0 : Int32) h8)) ∧ (v8 = 0 → (SpI E d MX10_fieldWith [.ref (eA E 63), .int a1] h8 (fun v10 h10 => (¬ v10 = (-1 : Int32) → (SpI E d MX10_code [.ref (eA E 63), .int a1] h10 (fun v12 h12 => P v12 h12))) ∧ (v10 = (-1 : Int32) → (P (0 : Int32) h10)))))))))) : SpI E (d + 1) MX10_codeOf [.ref (eA E 63), .int a1] h P := by
  refine SpI.of (lv0 := [(0, .ref (eA E 63)), (1, .int a1)]) (by decide) (Nat.le_of_ble_eq_true rfl) rfl (fun g => ?_)
  refine r_aload_n (q := 0) dX10_codeOf_0 rfl rfl ?_
  refine r_iload_n (q := 1) dX10_codeOf_1 rfl rfl ?_
  refine r_iconst (v := (0 : Int32)) dX10_codeOf_2 rfl ?_
  refine r_aload_n (q := 0) dX10_codeOf_3 rfl rfl ?_
  refine r_getI (c := 63) dX10_codeOf_4 flX10_144 lay_63 rfl ?_
  refine r_iconst (v := (1 : Int32)) dX10_codeOf_7 rfl ?_
  refine r_isub dX10_codeOf_8 ?_
  refine r_cSI (As := [.int a1, .int (0 : Int32), .int ((h.1 63 1) - (1 : Int32))]) dX10_codeOf_9 mkX10_isIn lkX10_124 rfl (by decide) rfl (Nat.le_of_ble_eq_true rfl) z00 t ?_
  intro v1 h1 t
  refine r_if_eq (tgt := 19) dX10_codeOf_12 (by decide) (fun q2 => ?_) (fun q2 => ?_)
  · have t := t.1 q2
    refine r_iconst (v := (1 : Int32)) dX10_codeOf_19 rfl ?_
    refine r_cVI (c := 63) (As := [.int (1 : Int32)]) dX10_codeOf_20 mkX10_throwsAs lkX10_147 lay_63 rfl rfl rfl (by decide) rfl (Nat.le_of_ble_eq_true rfl) z00 t ?_
    intro v3 h3 t
    refine r_if_ne (tgt := 35) dX10_codeOf_23 (by decide) (fun q4 => ?_) (fun q4 => ?_)
    · have t := t.1 q4
      refine r_iconst (v := (0 : Int32)) dX10_codeOf_35 rfl ?_
      refine r_goto (tgt := 44) dX10_codeOf_36 (by decide) ?_
      exact r_iret dX10_codeOf_44 rfl t
    · have t := t.2 q4
      refine r_aload_n (q := 0) dX10_codeOf_26 rfl rfl ?_
      refine r_iload_n (q := 1) dX10_codeOf_27 rfl rfl ?_
      refine r_cVI (c := 63) (As := [.int a1]) dX10_codeOf_28 mkX10_fieldWith lkX10_266 lay_63 rfl rfl rfl (by decide) rfl (Nat.le_of_ble_eq_true rfl) z00 t ?_
      intro v5 h5 t
      refine r_iconst (v := (-1 : Int32)) dX10_codeOf_31 rfl ?_
      refine r_icmp_ne (tgt := 39) dX10_codeOf_32 (by decide) (fun q6 => ?_) (fun q6 => ?_)
      · have t := t.1 q6
        refine r_aload_n (q := 0) dX10_codeOf_39 rfl rfl ?_
        refine r_iload_n (q := 1) dX10_codeOf_40 rfl rfl ?_
        refine r_cVI (c := 63) (As := [.int a1]) dX10_codeOf_41 mkX10_code lkX10_269 lay_63 rfl rfl rfl (by decide) rfl (Nat.le_of_ble_eq_true rfl) z00 t ?_
        intro v7 h7 t
        exact r_iret dX10_codeOf_44 rfl t
      · have t := t.2 q6
        refine r_iconst (v := (0 : Int32)) dX10_codeOf_35 rfl ?_
        refine r_goto (tgt := 44) dX10_codeOf_36 (by decide) ?_
        exact r_iret dX10_codeOf_44 rfl t
  · have t := t.2 q2
    refine r_iconst (v := (0 : Int32)) dX10_codeOf_15 rfl ?_
    refine r_goto (tgt := 20) dX10_codeOf_16 (by decide) ?_
    refine r_cVI (c := 63) (As := [.int (0 : Int32)]) dX10_codeOf_20 mkX10_throwsAs lkX10_147 lay_63 rfl rfl rfl (by decide) rfl (Nat.le_of_ble_eq_true rfl) z00 t ?_
    intro v8 h8 t
    refine r_if_ne (tgt := 35) dX10_codeOf_23 (by decide) (fun q9 => ?_) (fun q9 => ?_)
    · have t := t.1 q9
      refine r_iconst (v := (0 : Int32)) dX10_codeOf_35 rfl ?_
      refine r_goto (tgt := 44) dX10_codeOf_36 (by decide) ?_
      exact r_iret dX10_codeOf_44 rfl t
    · have t := t.2 q9
      refine r_aload_n (q := 0) dX10_codeOf_26 rfl rfl ?_
      refine r_iload_n (q := 1) dX10_codeOf_27 rfl rfl ?_
      refine r_cVI (c := 63) (As := [.int a1]) dX10_codeOf_28 mkX10_fieldWith lkX10_266 lay_63 rfl rfl rfl (by decide) rfl (Nat.le_of_ble_eq_true rfl) z00 t ?_
      intro v10 h10 t
      refine r_iconst (v := (-1 : Int32)) dX10_codeOf_31 rfl ?_
      refine r_icmp_ne (tgt := 39) dX10_codeOf_32 (by decide) (fun q11 => ?_) (fun q11 => ?_)
      · have t := t.1 q11
        refine r_aload_n (q := 0) dX10_codeOf_39 rfl rfl ?_
        refine r_iload_n (q := 1) dX10_codeOf_40 rfl rfl ?_
        refine r_cVI (c := 63) (As := [.int a1]) dX10_codeOf_41 mkX10_code lkX10_269 lay_63 rfl rfl rfl (by decide) rfl (Nat.le_of_ble_eq_true rfl) z00 t ?_
        intro v12 h12 t
        exact r_iret dX10_codeOf_44 rfl t
      · have t := t.2 q11
        refine r_iconst (v := (0 : Int32)) dX10_codeOf_35 rfl ?_
        refine r_goto (tgt := 44) dX10_codeOf_36 (by decide) ?_
        exact r_iret dX10_codeOf_44 rfl t
theorem dX10_control_0 : decode cX10_control 0 = .ok (.aload_n 0, 1) := by decide +kernel
theorem dX10_control_1 : decode cX10_control 1 = .ok (.aload_n 0, 1) := by decide +kernel
theorem dX10_control_2 : decode cX10_control 2 = .ok (.iload_n 1, 1) := by decide +kernel
theorem dX10_control_3 : decode cX10_control 3 = .ok (.invokevirtual 260, 3) := by decide +kernel
theorem dX10_control_6 : decode cX10_control 6 = .ok (.ifCond .eq 7, 3) := by decide +kernel
theorem dX10_control_9 : decode cX10_control 9 = .ok (.iconst 0, 1) := by decide +kernel
theorem dX10_control_10 : decode cX10_control 10 = .ok (.goto 4, 3) := by decide +kernel
theorem dX10_control_13 : decode cX10_control 13 = .ok (.iconst 1, 1) := by decide +kernel
theorem dX10_control_14 : decode cX10_control 14 = .ok (.invokevirtual 147, 3) := by decide +kernel
theorem dX10_control_17 : decode cX10_control 17 = .ok (.ifCond .eq 5, 3) := by decide +kernel
theorem dX10_control_20 : decode cX10_control 20 = .ok (.lconst 0, 1) := by decide +kernel
theorem dX10_control_21 : decode cX10_control 21 = .ok (.lreturn, 1) := by decide +kernel
theorem dX10_control_22 : decode cX10_control 22 = .ok (.lconst 0, 1) := by decide +kernel
theorem dX10_control_23 : decode cX10_control 23 = .ok (.lstore_n 2, 1) := by decide +kernel
theorem dX10_control_24 : decode cX10_control 24 = .ok (.iconst 0, 1) := by decide +kernel
theorem dX10_control_25 : decode cX10_control 25 = .ok (.istore 4, 2) := by decide +kernel
theorem dX10_control_27 : decode cX10_control 27 = .ok (.iconst 0, 1) := by decide +kernel
theorem dX10_control_28 : decode cX10_control 28 = .ok (.istore 5, 2) := by decide +kernel
theorem dX10_control_30 : decode cX10_control 30 = .ok (.iload 5, 2) := by decide +kernel
theorem dX10_control_32 : decode cX10_control 32 = .ok (.aload_n 0, 1) := by decide +kernel
theorem dX10_control_33 : decode cX10_control 33 = .ok (.getfield 230, 3) := by decide +kernel
theorem dX10_control_36 : decode cX10_control 36 = .ok (.if_icmp .ge 66, 3) := by decide +kernel
theorem dX10_control_39 : decode cX10_control 39 = .ok (.aload_n 0, 1) := by decide +kernel
theorem dX10_control_40 : decode cX10_control 40 = .ok (.getfield 74, 3) := by decide +kernel
theorem dX10_control_43 : decode cX10_control 43 = .ok (.iload 5, 2) := by decide +kernel
theorem dX10_control_45 : decode cX10_control 45 = .ok (.iaload, 1) := by decide +kernel
theorem dX10_control_46 : decode cX10_control 46 = .ok (.aload_n 0, 1) := by decide +kernel
theorem dX10_control_47 : decode cX10_control 47 = .ok (.getfield 55, 3) := by decide +kernel
theorem dX10_control_50 : decode cX10_control 50 = .ok (.iload_n 1, 1) := by decide +kernel
theorem dX10_control_51 : decode cX10_control 51 = .ok (.iaload, 1) := by decide +kernel
theorem dX10_control_52 : decode cX10_control 52 = .ok (.iand, 1) := by decide +kernel
theorem dX10_control_53 : decode cX10_control 53 = .ok (.istore 6, 2) := by decide +kernel
theorem dX10_control_55 : decode cX10_control 55 = .ok (.iload 6, 2) := by decide +kernel
theorem dX10_control_57 : decode cX10_control 57 = .ok (.ifCond .eq 21, 3) := by decide +kernel
theorem dX10_control_60 : decode cX10_control 60 = .ok (.lload_n 2, 1) := by decide +kernel
theorem dX10_control_61 : decode cX10_control 61 = .ok (.aload_n 0, 1) := by decide +kernel
theorem dX10_control_62 : decode cX10_control 62 = .ok (.iload 6, 2) := by decide +kernel
theorem dX10_control_64 : decode cX10_control 64 = .ok (.invokestatic 221, 3) := by decide +kernel
theorem dX10_control_67 : decode cX10_control 67 = .ok (.iconst 1, 1) := by decide +kernel
theorem dX10_control_68 : decode cX10_control 68 = .ok (.isub, 1) := by decide +kernel
theorem dX10_control_69 : decode cX10_control 69 = .ok (.invokevirtual 269, 3) := by decide +kernel
theorem dX10_control_72 : decode cX10_control 72 = .ok (.i2l, 1) := by decide +kernel
theorem dX10_control_73 : decode cX10_control 73 = .ok (.iload 4, 2) := by decide +kernel
theorem dX10_control_75 : decode cX10_control 75 = .ok (.lshl, 1) := by decide +kernel
theorem dX10_control_76 : decode cX10_control 76 = .ok (.lor, 1) := by decide +kernel
theorem dX10_control_77 : decode cX10_control 77 = .ok (.lstore_n 2, 1) := by decide +kernel
theorem dX10_control_78 : decode cX10_control 78 = .ok (.iload 4, 2) := by decide +kernel
theorem dX10_control_80 : decode cX10_control 80 = .ok (.aload_n 0, 1) := by decide +kernel
theorem dX10_control_81 : decode cX10_control 81 = .ok (.getfield 74, 3) := by decide +kernel
theorem dX10_control_84 : decode cX10_control 84 = .ok (.iload 5, 2) := by decide +kernel
theorem dX10_control_86 : decode cX10_control 86 = .ok (.iaload, 1) := by decide +kernel
theorem dX10_control_87 : decode cX10_control 87 = .ok (.invokestatic 218, 3) := by decide +kernel
theorem dX10_control_90 : decode cX10_control 90 = .ok (.invokestatic 221, 3) := by decide +kernel
theorem dX10_control_93 : decode cX10_control 93 = .ok (.iadd, 1) := by decide +kernel
theorem dX10_control_94 : decode cX10_control 94 = .ok (.istore 4, 2) := by decide +kernel
theorem dX10_control_96 : decode cX10_control 96 = .ok (.iinc 5 1, 3) := by decide +kernel
theorem dX10_control_99 : decode cX10_control 99 = .ok (.goto (-69), 3) := by decide +kernel
theorem dX10_control_102 : decode cX10_control 102 = .ok (.lload_n 2, 1) := by decide +kernel
theorem dX10_control_103 : decode cX10_control 103 = .ok (.aload_n 0, 1) := by decide +kernel
theorem dX10_control_104 : decode cX10_control 104 = .ok (.getfield 58, 3) := by decide +kernel
theorem dX10_control_107 : decode cX10_control 107 = .ok (.iload_n 1, 1) := by decide +kernel
theorem dX10_control_108 : decode cX10_control 108 = .ok (.iaload, 1) := by decide +kernel
theorem dX10_control_109 : decode cX10_control 109 = .ok (.i2l, 1) := by decide +kernel
theorem dX10_control_110 : decode cX10_control 110 = .ok (.iload 4, 2) := by decide +kernel
theorem dX10_control_112 : decode cX10_control 112 = .ok (.lshl, 1) := by decide +kernel
theorem dX10_control_113 : decode cX10_control 113 = .ok (.lor, 1) := by decide +kernel
theorem dX10_control_114 : decode cX10_control 114 = .ok (.lreturn, 1) := by decide +kernel
abbrev VX10_control_30 (E : En) (d : Nat) (g : Ga) (P : Int64 → Hp → Prop) (x1 : Int32) (x2 : Int64) (x4 : Int32) (x5 : Int32) (h : Hp) : Prop := V E MX10_control (RM (d + 1) 0) g (QQ E g (QL E P) 0 0) 0 0 h 30 [(0, .ref (eA E 63)), (1, .int x1), (2, .long x2), (4, .int x4), (5, .int x5)] []
set_option maxRecDepth 20000 in
theorem wp_X10_control (E : En) (d : Nat) (a1 : Int32) (h : Hp) (P : Int64 → Hp → Prop) (t : ∀ g : Ga, SpI E d MX10_isAddress [.ref (eA E 63), .int a1] h (fun v1 h1 => (v1 = 0 → (SpI E d MX10_throwsAs [.ref (eA E 63), .int (1 : Int32)] h1 (fun v3 h3 => (v3 = 0 → (VX10_control_30 E d g P a1 (0 : Int64) (0 : Int32) (0 : Int32) h3)) ∧ (¬ v3 = 0 → (P (0 : Int64) h3))))) ∧ (¬ v1 = 0 → (SpI E d MX10_throwsAs [.ref (eA E 63), .int (0 : Int32)] h1 (fun v5 h5 => (v5 = 0 → (VX10_control_30 E d g P a1 (0 : Int64) (0 : Int32) (0 : Int32) h5)) ∧ (¬ v5 = 0 → (P (0 : Int64) h5))))))) : SpL E (d + 1) MX10_control [.ref (eA E 63), .int a1] h P := by
  refine SpL.of (lv0 := [(0, .ref (eA E 63)), (1, .int a1)]) (by decide) (Nat.le_of_ble_eq_true rfl) rfl (fun g => ?_)
  have t := t g
  refine r_aload_n (q := 0) dX10_control_0 rfl rfl ?_
  refine r_aload_n (q := 0) dX10_control_1 rfl rfl ?_
  refine r_iload_n (q := 1) dX10_control_2 rfl rfl ?_
  refine r_cVI (c := 63) (As := [.int a1]) dX10_control_3 mkX10_isAddress lkX10_260 lay_63 rfl rfl rfl (by decide) rfl (Nat.le_of_ble_eq_true rfl) z00 t ?_
  intro v1 h1 t
  refine r_if_eq (tgt := 13) dX10_control_6 (by decide) (fun q2 => ?_) (fun q2 => ?_)
  · have t := t.1 q2
    refine r_iconst (v := (1 : Int32)) dX10_control_13 rfl ?_
    refine r_cVI (c := 63) (As := [.int (1 : Int32)]) dX10_control_14 mkX10_throwsAs lkX10_147 lay_63 rfl rfl rfl (by decide) rfl (Nat.le_of_ble_eq_true rfl) z00 t ?_
    intro v3 h3 t
    refine r_if_eq (tgt := 22) dX10_control_17 (by decide) (fun q4 => ?_) (fun q4 => ?_)
    · have t := t.1 q4
      refine r_lconst (v := (0 : Int64)) dX10_control_22 rfl ?_
      refine r_lstore_n (lv' := [(2, .long (0 : Int64)), (0, .ref (eA E 63)), (1, .int a1)]) dX10_control_23 rfl (by decide) rfl ?_
      refine r_iconst (v := (0 : Int32)) dX10_control_24 rfl ?_
      refine r_istore (lv' := [(4, .int (0 : Int32)), (2, .long (0 : Int64)), (0, .ref (eA E 63)), (1, .int a1)]) dX10_control_25 (by decide) rfl ?_
      refine r_iconst (v := (0 : Int32)) dX10_control_27 rfl ?_
      refine r_istore (lv' := [(5, .int (0 : Int32)), (4, .int (0 : Int32)), (2, .long (0 : Int64)), (0, .ref (eA E 63)), (1, .int a1)]) dX10_control_28 (by decide) rfl ?_
      refine r_sub [3, 4, 2, 1, 0] rfl ?_
      exact t
    · have t := t.2 q4
      refine r_lconst (v := (0 : Int64)) dX10_control_20 rfl ?_
      exact r_lret dX10_control_21 rfl t
  · have t := t.2 q2
    refine r_iconst (v := (0 : Int32)) dX10_control_9 rfl ?_
    refine r_goto (tgt := 14) dX10_control_10 (by decide) ?_
    refine r_cVI (c := 63) (As := [.int (0 : Int32)]) dX10_control_14 mkX10_throwsAs lkX10_147 lay_63 rfl rfl rfl (by decide) rfl (Nat.le_of_ble_eq_true rfl) z00 t ?_
    intro v5 h5 t
    refine r_if_eq (tgt := 22) dX10_control_17 (by decide) (fun q6 => ?_) (fun q6 => ?_)
    · have t := t.1 q6
      refine r_lconst (v := (0 : Int64)) dX10_control_22 rfl ?_
      refine r_lstore_n (lv' := [(2, .long (0 : Int64)), (0, .ref (eA E 63)), (1, .int a1)]) dX10_control_23 rfl (by decide) rfl ?_
      refine r_iconst (v := (0 : Int32)) dX10_control_24 rfl ?_
      refine r_istore (lv' := [(4, .int (0 : Int32)), (2, .long (0 : Int64)), (0, .ref (eA E 63)), (1, .int a1)]) dX10_control_25 (by decide) rfl ?_
      refine r_iconst (v := (0 : Int32)) dX10_control_27 rfl ?_
      refine r_istore (lv' := [(5, .int (0 : Int32)), (4, .int (0 : Int32)), (2, .long (0 : Int64)), (0, .ref (eA E 63)), (1, .int a1)]) dX10_control_28 (by decide) rfl ?_
      refine r_sub [3, 4, 2, 1, 0] rfl ?_
      exact t
    · have t := t.2 q6
      refine r_lconst (v := (0 : Int64)) dX10_control_20 rfl ?_
      exact r_lret dX10_control_21 rfl t
set_option maxRecDepth 20000 in
theorem sg_X10_control_30 (E : En) (d : Nat) (g : Ga) (x1 : Int32) (x2 : Int64) (x4 : Int32) (x5 : Int32) (h : Hp) (P : Int64 → Hp → Prop) (t : ((h.1 63 30) ≤ x5 → (vp_in x1 192 ∧ (P (x2 ||| (((h.1 80 x1.toNatClampNeg).toInt64) <<< (x4.toInt64 &&& 63))) h))) ∧ (¬ (h.1 63 30) ≤ x5 → (vp_in x5 12 ∧ (vp_in x1 192 ∧ ((((h.1 85 x5.toNatClampNeg) &&& (h.1 79 x1.toNatClampNeg)) = 0 → (vp_in x5 12 ∧ (SpI E d MX10_ones [.int (h.1 85 x5.toNatClampNeg)] h (fun v7 h7 => SpI E d MX10_bitsFor [.int v7] h7 (fun v8 h8 => VX10_control_30 E d g P x1 x2 (x4 + v8) (x5 + (1 : Int32)) h8))))) ∧ (¬ ((h.1 85 x5.toNatClampNeg) &&& (h.1 79 x1.toNatClampNeg)) = 0 → (SpI E d MX10_bitsFor [.int ((h.1 85 x5.toNatClampNeg) &&& (h.1 79 x1.toNatClampNeg))] h (fun v9 h9 => SpI E d MX10_code [.ref (eA E 63), .int (v9 - (1 : Int32))] h9 (fun v10 h10 => vp_in x5 12 ∧ (SpI E d MX10_ones [.int (h10.1 85 x5.toNatClampNeg)] h10 (fun v12 h12 => SpI E d MX10_bitsFor [.int v12] h12 (fun v13 h13 => VX10_control_30 E d g P x1 (x2 ||| (v10.toInt64 <<< (x4.toInt64 &&& 63))) (x4 + v13) (x5 + (1 : Int32)) h13)))))))))))) : VX10_control_30 E d g P x1 x2 x4 x5 h := by
  refine r_iload (q := 4) dX10_control_30 rfl ?_
  refine r_aload_n (q := 0) dX10_control_32 rfl rfl ?_
  refine r_getI (c := 63) dX10_control_33 flX10_230 lay_63 rfl ?_
  refine r_icmp_ge (tgt := 102) dX10_control_36 (by decide) (fun q1 => ?_) (fun q1 => ?_)
  · have t := t.1 q1
    refine r_lload_n (q := 2) dX10_control_102 rfl rfl ?_
    refine r_aload_n (q := 0) dX10_control_103 rfl rfl ?_
    refine r_getR (c := 63) (c2 := 80) dX10_control_104 flX10_58 lay_63 rfl ?_
    refine r_iload_n (q := 1) dX10_control_107 rfl rfl ?_
    obtain ⟨c2, t⟩ := t
    refine r_iald (c := 80) dX10_control_108 lay_80 c2 ?_
    refine r_i2l dX10_control_109 ?_
    refine r_iload (q := 3) dX10_control_110 rfl ?_
    refine r_lshl dX10_control_112 ?_
    refine r_lor dX10_control_113 ?_
    exact r_lret dX10_control_114 rfl t
  · have t := t.2 q1
    refine r_aload_n (q := 0) dX10_control_39 rfl rfl ?_
    refine r_getR (c := 63) (c2 := 85) dX10_control_40 flX10_74 lay_63 rfl ?_
    refine r_iload (q := 4) dX10_control_43 rfl ?_
    obtain ⟨c3, t⟩ := t
    refine r_iald (c := 85) dX10_control_45 lay_85 c3 ?_
    refine r_aload_n (q := 0) dX10_control_46 rfl rfl ?_
    refine r_getR (c := 63) (c2 := 79) dX10_control_47 flX10_55 lay_63 rfl ?_
    refine r_iload_n (q := 1) dX10_control_50 rfl rfl ?_
    obtain ⟨c4, t⟩ := t
    refine r_iald (c := 79) dX10_control_51 lay_79 c4 ?_
    refine r_iand dX10_control_52 ?_
    refine r_istore (lv' := [(6, .int ((h.1 85 x5.toNatClampNeg) &&& (h.1 79 x1.toNatClampNeg))), (0, .ref (eA E 63)), (1, .int x1), (2, .long x2), (4, .int x4), (5, .int x5)]) dX10_control_53 (by decide) rfl ?_
    refine r_iload (q := 0) dX10_control_55 rfl ?_
    refine r_if_eq (tgt := 78) dX10_control_57 (by decide) (fun q5 => ?_) (fun q5 => ?_)
    · have t := t.1 q5
      refine r_iload (q := 4) dX10_control_78 rfl ?_
      refine r_aload_n (q := 1) dX10_control_80 rfl rfl ?_
      refine r_getR (c := 63) (c2 := 85) dX10_control_81 flX10_74 lay_63 rfl ?_
      refine r_iload (q := 5) dX10_control_84 rfl ?_
      obtain ⟨c6, t⟩ := t
      refine r_iald (c := 85) dX10_control_86 lay_85 c6 ?_
      refine r_cSI (As := [.int (h.1 85 x5.toNatClampNeg)]) dX10_control_87 mkX10_ones lkX10_218 rfl (by decide) rfl (Nat.le_of_ble_eq_true rfl) z00 t ?_
      intro v7 h7 t
      refine r_cSI (As := [.int v7]) dX10_control_90 mkX10_bitsFor lkX10_221 rfl (by decide) rfl (Nat.le_of_ble_eq_true rfl) z00 t ?_
      intro v8 h8 t
      refine r_iadd dX10_control_93 ?_
      refine r_istore (lv' := [(4, .int (x4 + v8)), (6, .int ((h.1 85 x5.toNatClampNeg) &&& (h.1 79 x1.toNatClampNeg))), (0, .ref (eA E 63)), (1, .int x1), (2, .long x2), (5, .int x5)]) dX10_control_94 (by decide) rfl ?_
      refine r_iinc (k := 5) (v := x5 + (1 : Int32)) (lv' := [(5, .int (x5 + (1 : Int32))), (4, .int (x4 + v8)), (6, .int ((h.1 85 x5.toNatClampNeg) &&& (h.1 79 x1.toNatClampNeg))), (0, .ref (eA E 63)), (1, .int x1), (2, .long x2)]) dX10_control_96 rfl rfl (by decide) rfl ?_
      refine r_goto (tgt := 30) dX10_control_99 (by decide) ?_
      refine r_sub [3, 4, 5, 1, 0] rfl ?_
      exact t
    · have t := t.2 q5
      refine r_lload_n (q := 3) dX10_control_60 rfl rfl ?_
      refine r_aload_n (q := 1) dX10_control_61 rfl rfl ?_
      refine r_iload (q := 0) dX10_control_62 rfl ?_
      refine r_cSI (As := [.int ((h.1 85 x5.toNatClampNeg) &&& (h.1 79 x1.toNatClampNeg))]) dX10_control_64 mkX10_bitsFor lkX10_221 rfl (by decide) rfl (Nat.le_of_ble_eq_true rfl) z00 t ?_
      intro v9 h9 t
      refine r_iconst (v := (1 : Int32)) dX10_control_67 rfl ?_
      refine r_isub dX10_control_68 ?_
      refine r_cVI (c := 63) (As := [.int (v9 - (1 : Int32))]) dX10_control_69 mkX10_code lkX10_269 lay_63 rfl rfl rfl (by decide) rfl (Nat.le_of_ble_eq_true rfl) z00 t ?_
      intro v10 h10 t
      refine r_i2l dX10_control_72 ?_
      refine r_iload (q := 4) dX10_control_73 rfl ?_
      refine r_lshl dX10_control_75 ?_
      refine r_lor dX10_control_76 ?_
      refine r_lstore_n (lv' := [(2, .long (x2 ||| (v10.toInt64 <<< (x4.toInt64 &&& 63)))), (6, .int ((h.1 85 x5.toNatClampNeg) &&& (h.1 79 x1.toNatClampNeg))), (0, .ref (eA E 63)), (1, .int x1), (4, .int x4), (5, .int x5)]) dX10_control_77 rfl (by decide) rfl ?_
      refine r_iload (q := 4) dX10_control_78 rfl ?_
      refine r_aload_n (q := 2) dX10_control_80 rfl rfl ?_
      refine r_getR (c := 63) (c2 := 85) dX10_control_81 flX10_74 lay_63 rfl ?_
      refine r_iload (q := 5) dX10_control_84 rfl ?_
      obtain ⟨c11, t⟩ := t
      refine r_iald (c := 85) dX10_control_86 lay_85 c11 ?_
      refine r_cSI (As := [.int (h10.1 85 x5.toNatClampNeg)]) dX10_control_87 mkX10_ones lkX10_218 rfl (by decide) rfl (Nat.le_of_ble_eq_true rfl) z00 t ?_
      intro v12 h12 t
      refine r_cSI (As := [.int v12]) dX10_control_90 mkX10_bitsFor lkX10_221 rfl (by decide) rfl (Nat.le_of_ble_eq_true rfl) z00 t ?_
      intro v13 h13 t
      refine r_iadd dX10_control_93 ?_
      refine r_istore (lv' := [(4, .int (x4 + v13)), (2, .long (x2 ||| (v10.toInt64 <<< (x4.toInt64 &&& 63)))), (6, .int ((h.1 85 x5.toNatClampNeg) &&& (h.1 79 x1.toNatClampNeg))), (0, .ref (eA E 63)), (1, .int x1), (5, .int x5)]) dX10_control_94 (by decide) rfl ?_
      refine r_iinc (k := 5) (v := x5 + (1 : Int32)) (lv' := [(5, .int (x5 + (1 : Int32))), (4, .int (x4 + v13)), (2, .long (x2 ||| (v10.toInt64 <<< (x4.toInt64 &&& 63)))), (6, .int ((h.1 85 x5.toNatClampNeg) &&& (h.1 79 x1.toNatClampNeg))), (0, .ref (eA E 63)), (1, .int x1)]) dX10_control_96 rfl rfl (by decide) rfl ?_
      refine r_goto (tgt := 30) dX10_control_99 (by decide) ?_
      refine r_sub [4, 5, 2, 1, 0] rfl ?_
      exact t
theorem dX10_setRegister_0 : decode cX10_setRegister 0 = .ok (.aload_n 0, 1) := by decide +kernel
theorem dX10_setRegister_1 : decode cX10_setRegister 1 = .ok (.iload_n 1, 1) := by decide +kernel
theorem dX10_setRegister_2 : decode cX10_setRegister 2 = .ok (.iconst 0, 1) := by decide +kernel
theorem dX10_setRegister_3 : decode cX10_setRegister 3 = .ok (.bipush 7, 2) := by decide +kernel
theorem dX10_setRegister_5 : decode cX10_setRegister 5 = .ok (.invokestatic 124, 3) := by decide +kernel
theorem dX10_setRegister_8 : decode cX10_setRegister 8 = .ok (.ifCond .eq 7, 3) := by decide +kernel
theorem dX10_setRegister_11 : decode cX10_setRegister 11 = .ok (.iconst 0, 1) := by decide +kernel
theorem dX10_setRegister_12 : decode cX10_setRegister 12 = .ok (.goto 4, 3) := by decide +kernel
theorem dX10_setRegister_15 : decode cX10_setRegister 15 = .ok (.iconst 1, 1) := by decide +kernel
theorem dX10_setRegister_16 : decode cX10_setRegister 16 = .ok (.invokevirtual 147, 3) := by decide +kernel
theorem dX10_setRegister_19 : decode cX10_setRegister 19 = .ok (.ifCond .eq 5, 3) := by decide +kernel
theorem dX10_setRegister_22 : decode cX10_setRegister 22 = .ok (.iconst 0, 1) := by decide +kernel
theorem dX10_setRegister_23 : decode cX10_setRegister 23 = .ok (.ireturn, 1) := by decide +kernel
theorem dX10_setRegister_24 : decode cX10_setRegister 24 = .ok (.aload_n 0, 1) := by decide +kernel
theorem dX10_setRegister_25 : decode cX10_setRegister 25 = .ok (.getfield 80, 3) := by decide +kernel
theorem dX10_setRegister_28 : decode cX10_setRegister 28 = .ok (.iload_n 1, 1) := by decide +kernel
theorem dX10_setRegister_29 : decode cX10_setRegister 29 = .ok (.iaload, 1) := by decide +kernel
theorem dX10_setRegister_30 : decode cX10_setRegister 30 = .ok (.istore_n 3, 1) := by decide +kernel
theorem dX10_setRegister_31 : decode cX10_setRegister 31 = .ok (.aload_n 0, 1) := by decide +kernel
theorem dX10_setRegister_32 : decode cX10_setRegister 32 = .ok (.getfield 80, 3) := by decide +kernel
theorem dX10_setRegister_35 : decode cX10_setRegister 35 = .ok (.iload_n 1, 1) := by decide +kernel
theorem dX10_setRegister_36 : decode cX10_setRegister 36 = .ok (.iload_n 2, 1) := by decide +kernel
theorem dX10_setRegister_37 : decode cX10_setRegister 37 = .ok (.iastore, 1) := by decide +kernel
theorem dX10_setRegister_38 : decode cX10_setRegister 38 = .ok (.iload_n 3, 1) := by decide +kernel
theorem dX10_setRegister_39 : decode cX10_setRegister 39 = .ok (.ireturn, 1) := by decide +kernel
set_option maxRecDepth 20000 in
theorem wp_X10_setRegister (E : En) (d : Nat) (a1 : Int32) (a2 : Int32) (h : Hp) (P : Int32 → Hp → Prop) (t : SpI E d MX10_isIn [.int a1, .int (0 : Int32), .int (7 : Int32)] h (fun v1 h1 => (v1 = 0 → (SpI E d MX10_throwsAs [.ref (eA E 63), .int (1 : Int32)] h1 (fun v3 h3 => (v3 = 0 → (vp_in a1 8 ∧ (vp_in a1 8 ∧ (P (h3.1 87 a1.toNatClampNeg) (sI h3 87 a1.toNatClampNeg a2))))) ∧ (¬ v3 = 0 → (P (0 : Int32) h3))))) ∧ (¬ v1 = 0 → (SpI E d MX10_throwsAs [.ref (eA E 63), .int (0 : Int32)] h1 (fun v7 h7 => (v7 = 0 → (vp_in a1 8 ∧ (vp_in a1 8 ∧ (P (h7.1 87 a1.toNatClampNeg) (sI h7 87 a1.toNatClampNeg a2))))) ∧ (¬ v7 = 0 → (P (0 : Int32) h7))))))) : SpI E (d + 1) MX10_setRegister [.ref (eA E 63), .int a1, .int a2] h P := by
  refine SpI.of (lv0 := [(0, .ref (eA E 63)), (1, .int a1), (2, .int a2)]) (by decide) (Nat.le_of_ble_eq_true rfl) rfl (fun g => ?_)
  refine r_aload_n (q := 0) dX10_setRegister_0 rfl rfl ?_
  refine r_iload_n (q := 1) dX10_setRegister_1 rfl rfl ?_
  refine r_iconst (v := (0 : Int32)) dX10_setRegister_2 rfl ?_
  refine r_bipush (v := (7 : Int32)) dX10_setRegister_3 rfl ?_
  refine r_cSI (As := [.int a1, .int (0 : Int32), .int (7 : Int32)]) dX10_setRegister_5 mkX10_isIn lkX10_124 rfl (by decide) rfl (Nat.le_of_ble_eq_true rfl) z00 t ?_
  intro v1 h1 t
  refine r_if_eq (tgt := 15) dX10_setRegister_8 (by decide) (fun q2 => ?_) (fun q2 => ?_)
  · have t := t.1 q2
    refine r_iconst (v := (1 : Int32)) dX10_setRegister_15 rfl ?_
    refine r_cVI (c := 63) (As := [.int (1 : Int32)]) dX10_setRegister_16 mkX10_throwsAs lkX10_147 lay_63 rfl rfl rfl (by decide) rfl (Nat.le_of_ble_eq_true rfl) z00 t ?_
    intro v3 h3 t
    refine r_if_eq (tgt := 24) dX10_setRegister_19 (by decide) (fun q4 => ?_) (fun q4 => ?_)
    · have t := t.1 q4
      refine r_aload_n (q := 0) dX10_setRegister_24 rfl rfl ?_
      refine r_getR (c := 63) (c2 := 87) dX10_setRegister_25 flX10_80 lay_63 rfl ?_
      refine r_iload_n (q := 1) dX10_setRegister_28 rfl rfl ?_
      obtain ⟨c5, t⟩ := t
      refine r_iald (c := 87) dX10_setRegister_29 lay_87 c5 ?_
      refine r_istore_n (lv' := [(3, .int (h3.1 87 a1.toNatClampNeg)), (0, .ref (eA E 63)), (1, .int a1), (2, .int a2)]) dX10_setRegister_30 rfl (by decide) rfl ?_
      refine r_aload_n (q := 1) dX10_setRegister_31 rfl rfl ?_
      refine r_getR (c := 63) (c2 := 87) dX10_setRegister_32 flX10_80 lay_63 rfl ?_
      refine r_iload_n (q := 2) dX10_setRegister_35 rfl rfl ?_
      refine r_iload_n (q := 3) dX10_setRegister_36 rfl rfl ?_
      obtain ⟨c6, t⟩ := t
      refine r_iast (c := 87) dX10_setRegister_37 lay_87 c6 ?_
      refine r_iload_n (q := 0) dX10_setRegister_38 rfl rfl ?_
      exact r_iret dX10_setRegister_39 rfl t
    · have t := t.2 q4
      refine r_iconst (v := (0 : Int32)) dX10_setRegister_22 rfl ?_
      exact r_iret dX10_setRegister_23 rfl t
  · have t := t.2 q2
    refine r_iconst (v := (0 : Int32)) dX10_setRegister_11 rfl ?_
    refine r_goto (tgt := 16) dX10_setRegister_12 (by decide) ?_
    refine r_cVI (c := 63) (As := [.int (0 : Int32)]) dX10_setRegister_16 mkX10_throwsAs lkX10_147 lay_63 rfl rfl rfl (by decide) rfl (Nat.le_of_ble_eq_true rfl) z00 t ?_
    intro v7 h7 t
    refine r_if_eq (tgt := 24) dX10_setRegister_19 (by decide) (fun q8 => ?_) (fun q8 => ?_)
    · have t := t.1 q8
      refine r_aload_n (q := 0) dX10_setRegister_24 rfl rfl ?_
      refine r_getR (c := 63) (c2 := 87) dX10_setRegister_25 flX10_80 lay_63 rfl ?_
      refine r_iload_n (q := 1) dX10_setRegister_28 rfl rfl ?_
      obtain ⟨c9, t⟩ := t
      refine r_iald (c := 87) dX10_setRegister_29 lay_87 c9 ?_
      refine r_istore_n (lv' := [(3, .int (h7.1 87 a1.toNatClampNeg)), (0, .ref (eA E 63)), (1, .int a1), (2, .int a2)]) dX10_setRegister_30 rfl (by decide) rfl ?_
      refine r_aload_n (q := 1) dX10_setRegister_31 rfl rfl ?_
      refine r_getR (c := 63) (c2 := 87) dX10_setRegister_32 flX10_80 lay_63 rfl ?_
      refine r_iload_n (q := 2) dX10_setRegister_35 rfl rfl ?_
      refine r_iload_n (q := 3) dX10_setRegister_36 rfl rfl ?_
      obtain ⟨c10, t⟩ := t
      refine r_iast (c := 87) dX10_setRegister_37 lay_87 c10 ?_
      refine r_iload_n (q := 0) dX10_setRegister_38 rfl rfl ?_
      exact r_iret dX10_setRegister_39 rfl t
    · have t := t.2 q8
      refine r_iconst (v := (0 : Int32)) dX10_setRegister_22 rfl ?_
      exact r_iret dX10_setRegister_23 rfl t
theorem dX10_register_0 : decode cX10_register 0 = .ok (.aload_n 0, 1) := by decide +kernel
theorem dX10_register_1 : decode cX10_register 1 = .ok (.iload_n 1, 1) := by decide +kernel
theorem dX10_register_2 : decode cX10_register 2 = .ok (.iconst 0, 1) := by decide +kernel
theorem dX10_register_3 : decode cX10_register 3 = .ok (.bipush 7, 2) := by decide +kernel
theorem dX10_register_5 : decode cX10_register 5 = .ok (.invokestatic 124, 3) := by decide +kernel
theorem dX10_register_8 : decode cX10_register 8 = .ok (.ifCond .eq 7, 3) := by decide +kernel
theorem dX10_register_11 : decode cX10_register 11 = .ok (.iconst 0, 1) := by decide +kernel
theorem dX10_register_12 : decode cX10_register 12 = .ok (.goto 4, 3) := by decide +kernel
theorem dX10_register_15 : decode cX10_register 15 = .ok (.iconst 1, 1) := by decide +kernel
theorem dX10_register_16 : decode cX10_register 16 = .ok (.invokevirtual 147, 3) := by decide +kernel
theorem dX10_register_19 : decode cX10_register 19 = .ok (.ifCond .eq 7, 3) := by decide +kernel
theorem dX10_register_22 : decode cX10_register 22 = .ok (.iconst 0, 1) := by decide +kernel
theorem dX10_register_23 : decode cX10_register 23 = .ok (.goto 9, 3) := by decide +kernel
theorem dX10_register_26 : decode cX10_register 26 = .ok (.aload_n 0, 1) := by decide +kernel
theorem dX10_register_27 : decode cX10_register 27 = .ok (.getfield 80, 3) := by decide +kernel
theorem dX10_register_30 : decode cX10_register 30 = .ok (.iload_n 1, 1) := by decide +kernel
theorem dX10_register_31 : decode cX10_register 31 = .ok (.iaload, 1) := by decide +kernel
theorem dX10_register_32 : decode cX10_register 32 = .ok (.ireturn, 1) := by decide +kernel
set_option maxRecDepth 20000 in
theorem wp_X10_register (E : En) (d : Nat) (a1 : Int32) (h : Hp) (P : Int32 → Hp → Prop) (t : SpI E d MX10_isIn [.int a1, .int (0 : Int32), .int (7 : Int32)] h (fun v1 h1 => (v1 = 0 → (SpI E d MX10_throwsAs [.ref (eA E 63), .int (1 : Int32)] h1 (fun v3 h3 => (v3 = 0 → (vp_in a1 8 ∧ (P (h3.1 87 a1.toNatClampNeg) h3))) ∧ (¬ v3 = 0 → (P (0 : Int32) h3))))) ∧ (¬ v1 = 0 → (SpI E d MX10_throwsAs [.ref (eA E 63), .int (0 : Int32)] h1 (fun v6 h6 => (v6 = 0 → (vp_in a1 8 ∧ (P (h6.1 87 a1.toNatClampNeg) h6))) ∧ (¬ v6 = 0 → (P (0 : Int32) h6))))))) : SpI E (d + 1) MX10_register [.ref (eA E 63), .int a1] h P := by
  refine SpI.of (lv0 := [(0, .ref (eA E 63)), (1, .int a1)]) (by decide) (Nat.le_of_ble_eq_true rfl) rfl (fun g => ?_)
  refine r_aload_n (q := 0) dX10_register_0 rfl rfl ?_
  refine r_iload_n (q := 1) dX10_register_1 rfl rfl ?_
  refine r_iconst (v := (0 : Int32)) dX10_register_2 rfl ?_
  refine r_bipush (v := (7 : Int32)) dX10_register_3 rfl ?_
  refine r_cSI (As := [.int a1, .int (0 : Int32), .int (7 : Int32)]) dX10_register_5 mkX10_isIn lkX10_124 rfl (by decide) rfl (Nat.le_of_ble_eq_true rfl) z00 t ?_
  intro v1 h1 t
  refine r_if_eq (tgt := 15) dX10_register_8 (by decide) (fun q2 => ?_) (fun q2 => ?_)
  · have t := t.1 q2
    refine r_iconst (v := (1 : Int32)) dX10_register_15 rfl ?_
    refine r_cVI (c := 63) (As := [.int (1 : Int32)]) dX10_register_16 mkX10_throwsAs lkX10_147 lay_63 rfl rfl rfl (by decide) rfl (Nat.le_of_ble_eq_true rfl) z00 t ?_
    intro v3 h3 t
    refine r_if_eq (tgt := 26) dX10_register_19 (by decide) (fun q4 => ?_) (fun q4 => ?_)
    · have t := t.1 q4
      refine r_aload_n (q := 0) dX10_register_26 rfl rfl ?_
      refine r_getR (c := 63) (c2 := 87) dX10_register_27 flX10_80 lay_63 rfl ?_
      refine r_iload_n (q := 1) dX10_register_30 rfl rfl ?_
      obtain ⟨c5, t⟩ := t
      refine r_iald (c := 87) dX10_register_31 lay_87 c5 ?_
      exact r_iret dX10_register_32 rfl t
    · have t := t.2 q4
      refine r_iconst (v := (0 : Int32)) dX10_register_22 rfl ?_
      refine r_goto (tgt := 32) dX10_register_23 (by decide) ?_
      exact r_iret dX10_register_32 rfl t
  · have t := t.2 q2
    refine r_iconst (v := (0 : Int32)) dX10_register_11 rfl ?_
    refine r_goto (tgt := 16) dX10_register_12 (by decide) ?_
    refine r_cVI (c := 63) (As := [.int (0 : Int32)]) dX10_register_16 mkX10_throwsAs lkX10_147 lay_63 rfl rfl rfl (by decide) rfl (Nat.le_of_ble_eq_true rfl) z00 t ?_
    intro v6 h6 t
    refine r_if_eq (tgt := 26) dX10_register_19 (by decide) (fun q7 => ?_) (fun q7 => ?_)
    · have t := t.1 q7
      refine r_aload_n (q := 0) dX10_register_26 rfl rfl ?_
      refine r_getR (c := 63) (c2 := 87) dX10_register_27 flX10_80 lay_63 rfl ?_
      refine r_iload_n (q := 1) dX10_register_30 rfl rfl ?_
      obtain ⟨c8, t⟩ := t
      refine r_iald (c := 87) dX10_register_31 lay_87 c8 ?_
      exact r_iret dX10_register_32 rfl t
    · have t := t.2 q7
      refine r_iconst (v := (0 : Int32)) dX10_register_22 rfl ?_
      refine r_goto (tgt := 32) dX10_register_23 (by decide) ?_
      exact r_iret dX10_register_32 rfl t
theorem dX10_operand_0 : decode cX10_operand 0 = .ok (.iload_n 1, 1) := by decide +kernel
theorem dX10_operand_1 : decode cX10_operand 1 = .ok (.bipush 8, 2) := by decide +kernel
theorem dX10_operand_3 : decode cX10_operand 3 = .ok (.if_icmp .ge 12, 3) := by decide +kernel
theorem dX10_operand_6 : decode cX10_operand 6 = .ok (.aload_n 0, 1) := by decide +kernel
theorem dX10_operand_7 : decode cX10_operand 7 = .ok (.getfield 80, 3) := by decide +kernel
theorem dX10_operand_10 : decode cX10_operand 10 = .ok (.iload_n 1, 1) := by decide +kernel
theorem dX10_operand_11 : decode cX10_operand 11 = .ok (.iaload, 1) := by decide +kernel
theorem dX10_operand_12 : decode cX10_operand 12 = .ok (.goto 7, 3) := by decide +kernel
theorem dX10_operand_15 : decode cX10_operand 15 = .ok (.iload_n 1, 1) := by decide +kernel
theorem dX10_operand_16 : decode cX10_operand 16 = .ok (.bipush 8, 2) := by decide +kernel
theorem dX10_operand_18 : decode cX10_operand 18 = .ok (.isub, 1) := by decide +kernel
theorem dX10_operand_19 : decode cX10_operand 19 = .ok (.ireturn, 1) := by decide +kernel
set_option maxRecDepth 20000 in
theorem wp_X10_operand (E : En) (d : Nat) (a1 : Int32) (h : Hp) (P : Int32 → Hp → Prop) (t : ((8 : Int32) ≤ a1 → (P (a1 - (8 : Int32)) h)) ∧ (¬ (8 : Int32) ≤ a1 → (vp_in a1 8 ∧ (P (h.1 87 a1.toNatClampNeg) h)))) : SpI E d MX10_operand [.ref (eA E 63), .int a1] h P := by
  refine SpI.of (lv0 := [(0, .ref (eA E 63)), (1, .int a1)]) (by decide) (Nat.le_of_ble_eq_true rfl) rfl (fun g => ?_)
  refine r_iload_n (q := 1) dX10_operand_0 rfl rfl ?_
  refine r_bipush (v := (8 : Int32)) dX10_operand_1 rfl ?_
  refine r_icmp_ge (tgt := 15) dX10_operand_3 (by decide) (fun q1 => ?_) (fun q1 => ?_)
  · have t := t.1 q1
    refine r_iload_n (q := 1) dX10_operand_15 rfl rfl ?_
    refine r_bipush (v := (8 : Int32)) dX10_operand_16 rfl ?_
    refine r_isub dX10_operand_18 ?_
    exact r_iret dX10_operand_19 rfl t
  · have t := t.2 q1
    refine r_aload_n (q := 0) dX10_operand_6 rfl rfl ?_
    refine r_getR (c := 63) (c2 := 87) dX10_operand_7 flX10_80 lay_63 rfl ?_
    refine r_iload_n (q := 1) dX10_operand_10 rfl rfl ?_
    obtain ⟨c2, t⟩ := t
    refine r_iald (c := 87) dX10_operand_11 lay_87 c2 ?_
    refine r_goto (tgt := 19) dX10_operand_12 (by decide) ?_
    exact r_iret dX10_operand_19 rfl t
theorem dX10_valueOf_0 : decode cX10_valueOf 0 = .ok (.aload_n 0, 1) := by decide +kernel
theorem dX10_valueOf_1 : decode cX10_valueOf 1 = .ok (.aload_n 0, 1) := by decide +kernel
theorem dX10_valueOf_2 : decode cX10_valueOf 2 = .ok (.iload_n 1, 1) := by decide +kernel
theorem dX10_valueOf_3 : decode cX10_valueOf 3 = .ok (.iconst 3, 1) := by decide +kernel
theorem dX10_valueOf_4 : decode cX10_valueOf 4 = .ok (.invokevirtual 132, 3) := by decide +kernel
theorem dX10_valueOf_7 : decode cX10_valueOf 7 = .ok (.invokevirtual 272, 3) := by decide +kernel
theorem dX10_valueOf_10 : decode cX10_valueOf 10 = .ok (.istore_n 2, 1) := by decide +kernel
theorem dX10_valueOf_11 : decode cX10_valueOf 11 = .ok (.aload_n 0, 1) := by decide +kernel
theorem dX10_valueOf_12 : decode cX10_valueOf 12 = .ok (.iload_n 1, 1) := by decide +kernel
theorem dX10_valueOf_13 : decode cX10_valueOf 13 = .ok (.iconst 2, 1) := by decide +kernel
theorem dX10_valueOf_14 : decode cX10_valueOf 14 = .ok (.invokevirtual 132, 3) := by decide +kernel
theorem dX10_valueOf_17 : decode cX10_valueOf 17 = .ok (.ifCond .ne 7, 3) := by decide +kernel
theorem dX10_valueOf_20 : decode cX10_valueOf 20 = .ok (.iconst 0, 1) := by decide +kernel
theorem dX10_valueOf_21 : decode cX10_valueOf 21 = .ok (.goto 13, 3) := by decide +kernel
theorem dX10_valueOf_24 : decode cX10_valueOf 24 = .ok (.aload_n 0, 1) := by decide +kernel
theorem dX10_valueOf_25 : decode cX10_valueOf 25 = .ok (.aload_n 0, 1) := by decide +kernel
theorem dX10_valueOf_26 : decode cX10_valueOf 26 = .ok (.iload_n 1, 1) := by decide +kernel
theorem dX10_valueOf_27 : decode cX10_valueOf 27 = .ok (.iconst 4, 1) := by decide +kernel
theorem dX10_valueOf_28 : decode cX10_valueOf 28 = .ok (.invokevirtual 132, 3) := by decide +kernel
theorem dX10_valueOf_31 : decode cX10_valueOf 31 = .ok (.invokevirtual 272, 3) := by decide +kernel
theorem dX10_valueOf_34 : decode cX10_valueOf 34 = .ok (.istore_n 3, 1) := by decide +kernel
theorem dX10_valueOf_35 : decode cX10_valueOf 35 = .ok (.aload_n 0, 1) := by decide +kernel
theorem dX10_valueOf_36 : decode cX10_valueOf 36 = .ok (.iload_n 1, 1) := by decide +kernel
theorem dX10_valueOf_37 : decode cX10_valueOf 37 = .ok (.iconst 2, 1) := by decide +kernel
theorem dX10_valueOf_38 : decode cX10_valueOf 38 = .ok (.invokevirtual 132, 3) := by decide +kernel
theorem dX10_valueOf_41 : decode cX10_valueOf 41 = .ok (.tableswitch 61 0 5 #[39, 41, 45, 49, 53, 57], 39) := by decide +kernel
theorem dX10_valueOf_80 : decode cX10_valueOf 80 = .ok (.iload_n 2, 1) := by decide +kernel
theorem dX10_valueOf_81 : decode cX10_valueOf 81 = .ok (.ireturn, 1) := by decide +kernel
theorem dX10_valueOf_82 : decode cX10_valueOf 82 = .ok (.iload_n 2, 1) := by decide +kernel
theorem dX10_valueOf_83 : decode cX10_valueOf 83 = .ok (.iload_n 3, 1) := by decide +kernel
theorem dX10_valueOf_84 : decode cX10_valueOf 84 = .ok (.iadd, 1) := by decide +kernel
theorem dX10_valueOf_85 : decode cX10_valueOf 85 = .ok (.ireturn, 1) := by decide +kernel
theorem dX10_valueOf_86 : decode cX10_valueOf 86 = .ok (.iload_n 2, 1) := by decide +kernel
theorem dX10_valueOf_87 : decode cX10_valueOf 87 = .ok (.iload_n 3, 1) := by decide +kernel
theorem dX10_valueOf_88 : decode cX10_valueOf 88 = .ok (.isub, 1) := by decide +kernel
theorem dX10_valueOf_89 : decode cX10_valueOf 89 = .ok (.ireturn, 1) := by decide +kernel
theorem dX10_valueOf_90 : decode cX10_valueOf 90 = .ok (.iload_n 2, 1) := by decide +kernel
theorem dX10_valueOf_91 : decode cX10_valueOf 91 = .ok (.iload_n 3, 1) := by decide +kernel
theorem dX10_valueOf_92 : decode cX10_valueOf 92 = .ok (.imul, 1) := by decide +kernel
theorem dX10_valueOf_93 : decode cX10_valueOf 93 = .ok (.ireturn, 1) := by decide +kernel
theorem dX10_valueOf_94 : decode cX10_valueOf 94 = .ok (.iload_n 2, 1) := by decide +kernel
theorem dX10_valueOf_95 : decode cX10_valueOf 95 = .ok (.iload_n 3, 1) := by decide +kernel
theorem dX10_valueOf_96 : decode cX10_valueOf 96 = .ok (.iand, 1) := by decide +kernel
theorem dX10_valueOf_97 : decode cX10_valueOf 97 = .ok (.ireturn, 1) := by decide +kernel
theorem dX10_valueOf_98 : decode cX10_valueOf 98 = .ok (.iload_n 2, 1) := by decide +kernel
theorem dX10_valueOf_99 : decode cX10_valueOf 99 = .ok (.iload_n 3, 1) := by decide +kernel
theorem dX10_valueOf_100 : decode cX10_valueOf 100 = .ok (.ior, 1) := by decide +kernel
theorem dX10_valueOf_101 : decode cX10_valueOf 101 = .ok (.ireturn, 1) := by decide +kernel
theorem dX10_valueOf_102 : decode cX10_valueOf 102 = .ok (.iload_n 2, 1) := by decide +kernel
theorem dX10_valueOf_103 : decode cX10_valueOf 103 = .ok (.iload_n 3, 1) := by decide +kernel
theorem dX10_valueOf_104 : decode cX10_valueOf 104 = .ok (.ixor, 1) := by decide +kernel
theorem dX10_valueOf_105 : decode cX10_valueOf 105 = .ok (.ireturn, 1) := by decide +kernel
set_option maxRecDepth 20000 in
theorem wp_X10_valueOf (E : En) (d : Nat) (a1 : Int32) (h : Hp) (P : Int32 → Hp → Prop) (t : SpI E d MX10_of [.ref (eA E 63), .int a1, .int (3 : Int32)] h (fun v1 h1 => SpI E d MX10_operand [.ref (eA E 63), .int v1] h1 (fun v2 h2 => SpI E d MX10_of [.ref (eA E 63), .int a1, .int (2 : Int32)] h2 (fun v3 h3 => (¬ v3 = 0 → (SpI E d MX10_of [.ref (eA E 63), .int a1, .int (4 : Int32)] h3 (fun v5 h5 => SpI E d MX10_operand [.ref (eA E 63), .int v5] h5 (fun v6 h6 => SpI E d MX10_of [.ref (eA E 63), .int a1, .int (2 : Int32)] h6 (fun v7 h7 => (v7 = 0 → (P v2 h7)) ∧ (v7 = 1 → (P (v2 + v6) h7)) ∧ (v7 = 2 → (P (v2 - v6) h7)) ∧ (v7 = 3 → (P (v2 * v6) h7)) ∧ (v7 = 4 → (P (v2 &&& v6) h7)) ∧ (v7 = 5 → (P (v2 ||| v6) h7)) ∧ (¬ v7 = 0 → ¬ v7 = 1 → ¬ v7 = 2 → ¬ v7 = 3 → ¬ v7 = 4 → ¬ v7 = 5 → (P (v2 ^^^ v6) h7))))))) ∧ (v3 = 0 → (SpI E d MX10_of [.ref (eA E 63), .int a1, .int (2 : Int32)] h3 (fun v9 h9 => (v9 = 0 → (P v2 h9)) ∧ (v9 = 1 → (P (v2 + (0 : Int32)) h9)) ∧ (v9 = 2 → (P (v2 - (0 : Int32)) h9)) ∧ (v9 = 3 → (P (v2 * (0 : Int32)) h9)) ∧ (v9 = 4 → (P (v2 &&& (0 : Int32)) h9)) ∧ (v9 = 5 → (P (v2 ||| (0 : Int32)) h9)) ∧ (¬ v9 = 0 → ¬ v9 = 1 → ¬ v9 = 2 → ¬ v9 = 3 → ¬ v9 = 4 → ¬ v9 = 5 → (P (v2 ^^^ (0 : Int32)) h9))))))))) : SpI E (d + 1) MX10_valueOf [.ref (eA E 63), .int a1] h P := by
  refine SpI.of (lv0 := [(0, .ref (eA E 63)), (1, .int a1)]) (by decide) (Nat.le_of_ble_eq_true rfl) rfl (fun g => ?_)
  refine r_aload_n (q := 0) dX10_valueOf_0 rfl rfl ?_
  refine r_aload_n (q := 0) dX10_valueOf_1 rfl rfl ?_
  refine r_iload_n (q := 1) dX10_valueOf_2 rfl rfl ?_
  refine r_iconst (v := (3 : Int32)) dX10_valueOf_3 rfl ?_
  refine r_cVI (c := 63) (As := [.int a1, .int (3 : Int32)]) dX10_valueOf_4 mkX10_of lkX10_132 lay_63 rfl rfl rfl (by decide) rfl (Nat.le_of_ble_eq_true rfl) z00 t ?_
  intro v1 h1 t
  refine r_cVI (c := 63) (As := [.int v1]) dX10_valueOf_7 mkX10_operand lkX10_272 lay_63 rfl rfl rfl (by decide) rfl (Nat.le_of_ble_eq_true rfl) z00 t ?_
  intro v2 h2 t
  refine r_istore_n (lv' := [(2, .int v2), (0, .ref (eA E 63)), (1, .int a1)]) dX10_valueOf_10 rfl (by decide) rfl ?_
  refine r_aload_n (q := 1) dX10_valueOf_11 rfl rfl ?_
  refine r_iload_n (q := 2) dX10_valueOf_12 rfl rfl ?_
  refine r_iconst (v := (2 : Int32)) dX10_valueOf_13 rfl ?_
  refine r_cVI (c := 63) (As := [.int a1, .int (2 : Int32)]) dX10_valueOf_14 mkX10_of lkX10_132 lay_63 rfl rfl rfl (by decide) rfl (Nat.le_of_ble_eq_true rfl) z00 t ?_
  intro v3 h3 t
  refine r_if_ne (tgt := 24) dX10_valueOf_17 (by decide) (fun q4 => ?_) (fun q4 => ?_)
  · have t := t.1 q4
    refine r_aload_n (q := 1) dX10_valueOf_24 rfl rfl ?_
    refine r_aload_n (q := 1) dX10_valueOf_25 rfl rfl ?_
    refine r_iload_n (q := 2) dX10_valueOf_26 rfl rfl ?_
    refine r_iconst (v := (4 : Int32)) dX10_valueOf_27 rfl ?_
    refine r_cVI (c := 63) (As := [.int a1, .int (4 : Int32)]) dX10_valueOf_28 mkX10_of lkX10_132 lay_63 rfl rfl rfl (by decide) rfl (Nat.le_of_ble_eq_true rfl) z00 t ?_
    intro v5 h5 t
    refine r_cVI (c := 63) (As := [.int v5]) dX10_valueOf_31 mkX10_operand lkX10_272 lay_63 rfl rfl rfl (by decide) rfl (Nat.le_of_ble_eq_true rfl) z00 t ?_
    intro v6 h6 t
    refine r_istore_n (lv' := [(3, .int v6), (2, .int v2), (0, .ref (eA E 63)), (1, .int a1)]) dX10_valueOf_34 rfl (by decide) rfl ?_
    refine r_aload_n (q := 2) dX10_valueOf_35 rfl rfl ?_
    refine r_iload_n (q := 3) dX10_valueOf_36 rfl rfl ?_
    refine r_iconst (v := (2 : Int32)) dX10_valueOf_37 rfl ?_
    refine r_cVI (c := 63) (As := [.int a1, .int (2 : Int32)]) dX10_valueOf_38 mkX10_of lkX10_132 lay_63 rfl rfl rfl (by decide) rfl (Nat.le_of_ble_eq_true rfl) z00 t ?_
    intro v7 h7 t
    by_cases q8_0 : v7 = 0
    · have t := t.1 q8_0
      refine r_tswI (x := v7) (v := 0) (off := 39) (tgt := 80) dX10_valueOf_41 q8_0 (by decide) (by decide) (by decide) (by decide) ?_
      refine r_iload_n (q := 1) dX10_valueOf_80 rfl rfl ?_
      exact r_iret dX10_valueOf_81 rfl t
    have t := t.2
    by_cases q8_1 : v7 = 1
    · have t := t.1 q8_1
      refine r_tswI (x := v7) (v := 1) (off := 41) (tgt := 82) dX10_valueOf_41 q8_1 (by decide) (by decide) (by decide) (by decide) ?_
      refine r_iload_n (q := 1) dX10_valueOf_82 rfl rfl ?_
      refine r_iload_n (q := 0) dX10_valueOf_83 rfl rfl ?_
      refine r_iadd dX10_valueOf_84 ?_
      exact r_iret dX10_valueOf_85 rfl t
    have t := t.2
    by_cases q8_2 : v7 = 2
    · have t := t.1 q8_2
      refine r_tswI (x := v7) (v := 2) (off := 45) (tgt := 86) dX10_valueOf_41 q8_2 (by decide) (by decide) (by decide) (by decide) ?_
      refine r_iload_n (q := 1) dX10_valueOf_86 rfl rfl ?_
      refine r_iload_n (q := 0) dX10_valueOf_87 rfl rfl ?_
      refine r_isub dX10_valueOf_88 ?_
      exact r_iret dX10_valueOf_89 rfl t
    have t := t.2
    by_cases q8_3 : v7 = 3
    · have t := t.1 q8_3
      refine r_tswI (x := v7) (v := 3) (off := 49) (tgt := 90) dX10_valueOf_41 q8_3 (by decide) (by decide) (by decide) (by decide) ?_
      refine r_iload_n (q := 1) dX10_valueOf_90 rfl rfl ?_
      refine r_iload_n (q := 0) dX10_valueOf_91 rfl rfl ?_
      refine r_imul dX10_valueOf_92 ?_
      exact r_iret dX10_valueOf_93 rfl t
    have t := t.2
    by_cases q8_4 : v7 = 4
    · have t := t.1 q8_4
      refine r_tswI (x := v7) (v := 4) (off := 53) (tgt := 94) dX10_valueOf_41 q8_4 (by decide) (by decide) (by decide) (by decide) ?_
      refine r_iload_n (q := 1) dX10_valueOf_94 rfl rfl ?_
      refine r_iload_n (q := 0) dX10_valueOf_95 rfl rfl ?_
      refine r_iand dX10_valueOf_96 ?_
      exact r_iret dX10_valueOf_97 rfl t
    have t := t.2
    by_cases q8_5 : v7 = 5
    · have t := t.1 q8_5
      refine r_tswI (x := v7) (v := 5) (off := 57) (tgt := 98) dX10_valueOf_41 q8_5 (by decide) (by decide) (by decide) (by decide) ?_
      refine r_iload_n (q := 1) dX10_valueOf_98 rfl rfl ?_
      refine r_iload_n (q := 0) dX10_valueOf_99 rfl rfl ?_
      refine r_ior dX10_valueOf_100 ?_
      exact r_iret dX10_valueOf_101 rfl t
    have t := t.2
    have t := t q8_0 q8_1 q8_2 q8_3 q8_4 q8_5
    refine r_tswO (x := v7) (tgt := 102) dX10_valueOf_41 (sw_out 5 (by decide) (fun k hk => by rcases (show k = 0 ∨ k = 1 ∨ k = 2 ∨ k = 3 ∨ k = 4 ∨ k = 5 by omega) with rfl | rfl | rfl | rfl | rfl | rfl <;> assumption)) (by decide) ?_
    refine r_iload_n (q := 1) dX10_valueOf_102 rfl rfl ?_
    refine r_iload_n (q := 0) dX10_valueOf_103 rfl rfl ?_
    refine r_ixor dX10_valueOf_104 ?_
    exact r_iret dX10_valueOf_105 rfl t
  · have t := t.2 q4
    refine r_iconst (v := (0 : Int32)) dX10_valueOf_20 rfl ?_
    refine r_goto (tgt := 34) dX10_valueOf_21 (by decide) ?_
    refine r_istore_n (lv' := [(3, .int (0 : Int32)), (2, .int v2), (0, .ref (eA E 63)), (1, .int a1)]) dX10_valueOf_34 rfl (by decide) rfl ?_
    refine r_aload_n (q := 2) dX10_valueOf_35 rfl rfl ?_
    refine r_iload_n (q := 3) dX10_valueOf_36 rfl rfl ?_
    refine r_iconst (v := (2 : Int32)) dX10_valueOf_37 rfl ?_
    refine r_cVI (c := 63) (As := [.int a1, .int (2 : Int32)]) dX10_valueOf_38 mkX10_of lkX10_132 lay_63 rfl rfl rfl (by decide) rfl (Nat.le_of_ble_eq_true rfl) z00 t ?_
    intro v9 h9 t
    by_cases q10_0 : v9 = 0
    · have t := t.1 q10_0
      refine r_tswI (x := v9) (v := 0) (off := 39) (tgt := 80) dX10_valueOf_41 q10_0 (by decide) (by decide) (by decide) (by decide) ?_
      refine r_iload_n (q := 1) dX10_valueOf_80 rfl rfl ?_
      exact r_iret dX10_valueOf_81 rfl t
    have t := t.2
    by_cases q10_1 : v9 = 1
    · have t := t.1 q10_1
      refine r_tswI (x := v9) (v := 1) (off := 41) (tgt := 82) dX10_valueOf_41 q10_1 (by decide) (by decide) (by decide) (by decide) ?_
      refine r_iload_n (q := 1) dX10_valueOf_82 rfl rfl ?_
      refine r_iload_n (q := 0) dX10_valueOf_83 rfl rfl ?_
      refine r_iadd dX10_valueOf_84 ?_
      exact r_iret dX10_valueOf_85 rfl t
    have t := t.2
    by_cases q10_2 : v9 = 2
    · have t := t.1 q10_2
      refine r_tswI (x := v9) (v := 2) (off := 45) (tgt := 86) dX10_valueOf_41 q10_2 (by decide) (by decide) (by decide) (by decide) ?_
      refine r_iload_n (q := 1) dX10_valueOf_86 rfl rfl ?_
      refine r_iload_n (q := 0) dX10_valueOf_87 rfl rfl ?_
      refine r_isub dX10_valueOf_88 ?_
      exact r_iret dX10_valueOf_89 rfl t
    have t := t.2
    by_cases q10_3 : v9 = 3
    · have t := t.1 q10_3
      refine r_tswI (x := v9) (v := 3) (off := 49) (tgt := 90) dX10_valueOf_41 q10_3 (by decide) (by decide) (by decide) (by decide) ?_
      refine r_iload_n (q := 1) dX10_valueOf_90 rfl rfl ?_
      refine r_iload_n (q := 0) dX10_valueOf_91 rfl rfl ?_
      refine r_imul dX10_valueOf_92 ?_
      exact r_iret dX10_valueOf_93 rfl t
    have t := t.2
    by_cases q10_4 : v9 = 4
    · have t := t.1 q10_4
      refine r_tswI (x := v9) (v := 4) (off := 53) (tgt := 94) dX10_valueOf_41 q10_4 (by decide) (by decide) (by decide) (by decide) ?_
      refine r_iload_n (q := 1) dX10_valueOf_94 rfl rfl ?_
      refine r_iload_n (q := 0) dX10_valueOf_95 rfl rfl ?_
      refine r_iand dX10_valueOf_96 ?_
      exact r_iret dX10_valueOf_97 rfl t
    have t := t.2
    by_cases q10_5 : v9 = 5
    · have t := t.1 q10_5
      refine r_tswI (x := v9) (v := 5) (off := 57) (tgt := 98) dX10_valueOf_41 q10_5 (by decide) (by decide) (by decide) (by decide) ?_
      refine r_iload_n (q := 1) dX10_valueOf_98 rfl rfl ?_
      refine r_iload_n (q := 0) dX10_valueOf_99 rfl rfl ?_
      refine r_ior dX10_valueOf_100 ?_
      exact r_iret dX10_valueOf_101 rfl t
    have t := t.2
    have t := t q10_0 q10_1 q10_2 q10_3 q10_4 q10_5
    refine r_tswO (x := v9) (tgt := 102) dX10_valueOf_41 (sw_out 5 (by decide) (fun k hk => by rcases (show k = 0 ∨ k = 1 ∨ k = 2 ∨ k = 3 ∨ k = 4 ∨ k = 5 by omega) with rfl | rfl | rfl | rfl | rfl | rfl <;> assumption)) (by decide) ?_
    refine r_iload_n (q := 1) dX10_valueOf_102 rfl rfl ?_
    refine r_iload_n (q := 0) dX10_valueOf_103 rfl rfl ?_
    refine r_ixor dX10_valueOf_104 ?_
    exact r_iret dX10_valueOf_105 rfl t
theorem dX10_copies_0 : decode cX10_copies 0 = .ok (.iconst 0, 1) := by decide +kernel
theorem dX10_copies_1 : decode cX10_copies 1 = .ok (.istore_n 2, 1) := by decide +kernel
theorem dX10_copies_2 : decode cX10_copies 2 = .ok (.iload_n 2, 1) := by decide +kernel
theorem dX10_copies_3 : decode cX10_copies 3 = .ok (.bipush 8, 2) := by decide +kernel
theorem dX10_copies_5 : decode cX10_copies 5 = .ok (.if_icmp .ge 15, 3) := by decide +kernel
theorem dX10_copies_8 : decode cX10_copies 8 = .ok (.aload_n 1, 1) := by decide +kernel
theorem dX10_copies_9 : decode cX10_copies 9 = .ok (.iload_n 2, 1) := by decide +kernel
theorem dX10_copies_10 : decode cX10_copies 10 = .ok (.aload_n 0, 1) := by decide +kernel
theorem dX10_copies_11 : decode cX10_copies 11 = .ok (.iload_n 2, 1) := by decide +kernel
theorem dX10_copies_12 : decode cX10_copies 12 = .ok (.iaload, 1) := by decide +kernel
theorem dX10_copies_13 : decode cX10_copies 13 = .ok (.iastore, 1) := by decide +kernel
theorem dX10_copies_14 : decode cX10_copies 14 = .ok (.iinc 2 1, 3) := by decide +kernel
theorem dX10_copies_17 : decode cX10_copies 17 = .ok (.goto (-15), 3) := by decide +kernel
theorem dX10_copies_20 : decode cX10_copies 20 = .ok (.return_, 1) := by decide +kernel
abbrev VX10_copies_2 (E : En) (d : Nat) (g : Ga) (P : Hp → Prop) (ca : Nat) (cb : Nat) (x2 : Int32) (h : Hp) : Prop := V E MX10_copies (RM d 0) g (QQ E g (QV E P) 0 0) 0 0 h 2 [(0, .ref (eA E ca)), (1, .ref (eA E cb)), (2, .int x2)] []
set_option maxRecDepth 20000 in
theorem wp_X10_copies (E : En) (d : Nat) (ca : Nat) (hca : lay[ca]? = some (.inr (0, 8))) (cb : Nat) (hcb : lay[cb]? = some (.inr (0, 8))) (h : Hp) (P : Hp → Prop) (t : ∀ g : Ga, VX10_copies_2 E d g P ca cb (0 : Int32) h) : SpV E d MX10_copies [.ref (eA E ca), .ref (eA E cb)] h P := by
  refine SpV.of (lv0 := [(0, .ref (eA E ca)), (1, .ref (eA E cb))]) (by decide) (Nat.le_of_ble_eq_true rfl) rfl (fun g => ?_)
  have t := t g
  refine r_iconst (v := (0 : Int32)) dX10_copies_0 rfl ?_
  refine r_istore_n (lv' := [(2, .int (0 : Int32)), (0, .ref (eA E ca)), (1, .ref (eA E cb))]) dX10_copies_1 rfl (by decide) rfl ?_
  refine r_sub [1, 2, 0] rfl ?_
  exact t
set_option maxRecDepth 20000 in
theorem sg_X10_copies_2 (E : En) (d : Nat) (g : Ga) (ca : Nat) (hca : lay[ca]? = some (.inr (0, 8))) (cb : Nat) (hcb : lay[cb]? = some (.inr (0, 8))) (x2 : Int32) (h : Hp) (P : Hp → Prop) (t : ((8 : Int32) ≤ x2 → (P h)) ∧ (¬ (8 : Int32) ≤ x2 → (vp_in x2 8 ∧ (vp_in x2 8 ∧ (VX10_copies_2 E d g P ca cb (x2 + (1 : Int32)) (sI h cb x2.toNatClampNeg (h.1 ca x2.toNatClampNeg))))))) : VX10_copies_2 E d g P ca cb x2 h := by
  refine r_iload_n (q := 2) dX10_copies_2 rfl rfl ?_
  refine r_bipush (v := (8 : Int32)) dX10_copies_3 rfl ?_
  refine r_icmp_ge (tgt := 20) dX10_copies_5 (by decide) (fun q1 => ?_) (fun q1 => ?_)
  · have t := t.1 q1
    exact r_vret dX10_copies_20 rfl t
  · have t := t.2 q1
    refine r_aload_n (q := 1) dX10_copies_8 rfl rfl ?_
    refine r_iload_n (q := 2) dX10_copies_9 rfl rfl ?_
    refine r_aload_n (q := 0) dX10_copies_10 rfl rfl ?_
    refine r_iload_n (q := 2) dX10_copies_11 rfl rfl ?_
    obtain ⟨c2, t⟩ := t
    refine r_iald (c := ca) dX10_copies_12 hca c2 ?_
    obtain ⟨c3, t⟩ := t
    refine r_iast (c := cb) dX10_copies_13 hcb c3 ?_
    refine r_iinc (k := 2) (v := x2 + (1 : Int32)) (lv' := [(2, .int (x2 + (1 : Int32))), (0, .ref (eA E ca)), (1, .ref (eA E cb))]) dX10_copies_14 rfl rfl (by decide) rfl ?_
    refine r_goto (tgt := 2) dX10_copies_17 (by decide) ?_
    refine r_sub [1, 2, 0] rfl ?_
    exact t
theorem dX10_does_0 : decode cX10_does 0 = .ok (.aload_n 0, 1) := by decide +kernel
theorem dX10_does_1 : decode cX10_does 1 = .ok (.getfield 80, 3) := by decide +kernel
theorem dX10_does_4 : decode cX10_does 4 = .ok (.aload_n 0, 1) := by decide +kernel
theorem dX10_does_5 : decode cX10_does 5 = .ok (.getfield 83, 3) := by decide +kernel
theorem dX10_does_8 : decode cX10_does 8 = .ok (.invokestatic 275, 3) := by decide +kernel
theorem dX10_does_11 : decode cX10_does 11 = .ok (.iconst 0, 1) := by decide +kernel
theorem dX10_does_12 : decode cX10_does 12 = .ok (.istore_n 2, 1) := by decide +kernel
theorem dX10_does_13 : decode cX10_does 13 = .ok (.iload_n 2, 1) := by decide +kernel
theorem dX10_does_14 : decode cX10_does 14 = .ok (.aload_n 0, 1) := by decide +kernel
theorem dX10_does_15 : decode cX10_does 15 = .ok (.getfield 144, 3) := by decide +kernel
theorem dX10_does_18 : decode cX10_does 18 = .ok (.if_icmp .ge 34, 3) := by decide +kernel
theorem dX10_does_21 : decode cX10_does 21 = .ok (.iload_n 1, 1) := by decide +kernel
theorem dX10_does_22 : decode cX10_does 22 = .ok (.iload_n 2, 1) := by decide +kernel
theorem dX10_does_23 : decode cX10_does 23 = .ok (.ishr, 1) := by decide +kernel
theorem dX10_does_24 : decode cX10_does 24 = .ok (.iconst 1, 1) := by decide +kernel
theorem dX10_does_25 : decode cX10_does 25 = .ok (.iand, 1) := by decide +kernel
theorem dX10_does_26 : decode cX10_does 26 = .ok (.iconst 1, 1) := by decide +kernel
theorem dX10_does_27 : decode cX10_does 27 = .ok (.if_icmp .ne 19, 3) := by decide +kernel
theorem dX10_does_30 : decode cX10_does 30 = .ok (.aload_n 0, 1) := by decide +kernel
theorem dX10_does_31 : decode cX10_does 31 = .ok (.getfield 83, 3) := by decide +kernel
theorem dX10_does_34 : decode cX10_does 34 = .ok (.aload_n 0, 1) := by decide +kernel
theorem dX10_does_35 : decode cX10_does 35 = .ok (.iload_n 2, 1) := by decide +kernel
theorem dX10_does_36 : decode cX10_does 36 = .ok (.iconst 1, 1) := by decide +kernel
theorem dX10_does_37 : decode cX10_does 37 = .ok (.invokevirtual 132, 3) := by decide +kernel
theorem dX10_does_40 : decode cX10_does 40 = .ok (.aload_n 0, 1) := by decide +kernel
theorem dX10_does_41 : decode cX10_does 41 = .ok (.iload_n 2, 1) := by decide +kernel
theorem dX10_does_42 : decode cX10_does 42 = .ok (.invokevirtual 279, 3) := by decide +kernel
theorem dX10_does_45 : decode cX10_does 45 = .ok (.iastore, 1) := by decide +kernel
theorem dX10_does_46 : decode cX10_does 46 = .ok (.iinc 2 1, 3) := by decide +kernel
theorem dX10_does_49 : decode cX10_does 49 = .ok (.goto (-36), 3) := by decide +kernel
theorem dX10_does_52 : decode cX10_does 52 = .ok (.aload_n 0, 1) := by decide +kernel
theorem dX10_does_53 : decode cX10_does 53 = .ok (.getfield 83, 3) := by decide +kernel
theorem dX10_does_56 : decode cX10_does 56 = .ok (.aload_n 0, 1) := by decide +kernel
theorem dX10_does_57 : decode cX10_does 57 = .ok (.getfield 80, 3) := by decide +kernel
theorem dX10_does_60 : decode cX10_does 60 = .ok (.invokestatic 275, 3) := by decide +kernel
theorem dX10_does_63 : decode cX10_does 63 = .ok (.return_, 1) := by decide +kernel
abbrev VX10_does_13 (E : En) (d : Nat) (g : Ga) (P : Hp → Prop) (x1 : Int32) (x2 : Int32) (h : Hp) : Prop := V E MX10_does (RM (d + 1) 0) g (QQ E g (QV E P) 0 0) 0 0 h 13 [(0, .ref (eA E 63)), (1, .int x1), (2, .int x2)] []
set_option maxRecDepth 20000 in
theorem wp_X10_does (E : En) (d : Nat) (a1 : Int32) (h : Hp) (P : Hp → Prop) (t : ∀ g : Ga, SpV E d MX10_copies [.ref (eA E 87), .ref (eA E 88)] h (fun h1 => VX10_does_13 E d g P a1 (0 : Int32) h1)) : SpV E (d + 1) MX10_does [.ref (eA E 63), .int a1] h P := by
  refine SpV.of (lv0 := [(0, .ref (eA E 63)), (1, .int a1)]) (by decide) (Nat.le_of_ble_eq_true rfl) rfl (fun g => ?_)
  have t := t g
  refine r_aload_n (q := 0) dX10_does_0 rfl rfl ?_
  refine r_getR (c := 63) (c2 := 87) dX10_does_1 flX10_80 lay_63 rfl ?_
  refine r_aload_n (q := 0) dX10_does_4 rfl rfl ?_
  refine r_getR (c := 63) (c2 := 88) dX10_does_5 flX10_83 lay_63 rfl ?_
  refine r_cSV (As := [.ref (eA E 87), .ref (eA E 88)]) dX10_does_8 mkX10_copies lkX10_275 rfl (by decide) rfl (Nat.le_of_ble_eq_true rfl) z00 t ?_
  intro h1 t
  refine r_iconst (v := (0 : Int32)) dX10_does_11 rfl ?_
  refine r_istore_n (lv' := [(2, .int (0 : Int32)), (0, .ref (eA E 63)), (1, .int a1)]) dX10_does_12 rfl (by decide) rfl ?_
  refine r_sub [1, 2, 0] rfl ?_
  exact t
set_option maxRecDepth 20000 in
theorem sg_X10_does_13 (E : En) (d : Nat) (g : Ga) (x1 : Int32) (x2 : Int32) (h : Hp) (P : Hp → Prop) (t : ((h.1 63 1) ≤ x2 → (SpV E d MX10_copies [.ref (eA E 88), .ref (eA E 87)] h (fun h2 => P h2))) ∧ (¬ (h.1 63 1) ≤ x2 → ((¬ ((x1 >>> (x2 &&& 31)) &&& (1 : Int32)) = (1 : Int32) → (VX10_does_13 E d g P x1 (x2 + (1 : Int32)) h)) ∧ (((x1 >>> (x2 &&& 31)) &&& (1 : Int32)) = (1 : Int32) → (SpI E d MX10_of [.ref (eA E 63), .int x2, .int (1 : Int32)] h (fun v4 h4 => SpI E d MX10_valueOf [.ref (eA E 63), .int x2] h4 (fun v5 h5 => vp_in v4 8 ∧ (VX10_does_13 E d g P x1 (x2 + (1 : Int32)) (sI h5 88 v4.toNatClampNeg v5))))))))) : VX10_does_13 E d g P x1 x2 h := by
  refine r_iload_n (q := 2) dX10_does_13 rfl rfl ?_
  refine r_aload_n (q := 0) dX10_does_14 rfl rfl ?_
  refine r_getI (c := 63) dX10_does_15 flX10_144 lay_63 rfl ?_
  refine r_icmp_ge (tgt := 52) dX10_does_18 (by decide) (fun q1 => ?_) (fun q1 => ?_)
  · have t := t.1 q1
    refine r_aload_n (q := 0) dX10_does_52 rfl rfl ?_
    refine r_getR (c := 63) (c2 := 88) dX10_does_53 flX10_83 lay_63 rfl ?_
    refine r_aload_n (q := 0) dX10_does_56 rfl rfl ?_
    refine r_getR (c := 63) (c2 := 87) dX10_does_57 flX10_80 lay_63 rfl ?_
    refine r_cSV (As := [.ref (eA E 88), .ref (eA E 87)]) dX10_does_60 mkX10_copies lkX10_275 rfl (by decide) rfl (Nat.le_of_ble_eq_true rfl) z00 t ?_
    intro h2 t
    exact r_vret dX10_does_63 rfl t
  · have t := t.2 q1
    refine r_iload_n (q := 1) dX10_does_21 rfl rfl ?_
    refine r_iload_n (q := 2) dX10_does_22 rfl rfl ?_
    refine r_ishr dX10_does_23 ?_
    refine r_iconst (v := (1 : Int32)) dX10_does_24 rfl ?_
    refine r_iand dX10_does_25 ?_
    refine r_iconst (v := (1 : Int32)) dX10_does_26 rfl ?_
    refine r_icmp_ne (tgt := 46) dX10_does_27 (by decide) (fun q3 => ?_) (fun q3 => ?_)
    · have t := t.1 q3
      refine r_iinc (k := 2) (v := x2 + (1 : Int32)) (lv' := [(2, .int (x2 + (1 : Int32))), (0, .ref (eA E 63)), (1, .int x1)]) dX10_does_46 rfl rfl (by decide) rfl ?_
      refine r_goto (tgt := 13) dX10_does_49 (by decide) ?_
      refine r_sub [1, 2, 0] rfl ?_
      exact t
    · have t := t.2 q3
      refine r_aload_n (q := 0) dX10_does_30 rfl rfl ?_
      refine r_getR (c := 63) (c2 := 88) dX10_does_31 flX10_83 lay_63 rfl ?_
      refine r_aload_n (q := 0) dX10_does_34 rfl rfl ?_
      refine r_iload_n (q := 2) dX10_does_35 rfl rfl ?_
      refine r_iconst (v := (1 : Int32)) dX10_does_36 rfl ?_
      refine r_cVI (c := 63) (As := [.int x2, .int (1 : Int32)]) dX10_does_37 mkX10_of lkX10_132 lay_63 rfl rfl rfl (by decide) rfl (Nat.le_of_ble_eq_true rfl) z00 t ?_
      intro v4 h4 t
      refine r_aload_n (q := 0) dX10_does_40 rfl rfl ?_
      refine r_iload_n (q := 2) dX10_does_41 rfl rfl ?_
      refine r_cVI (c := 63) (As := [.int x2]) dX10_does_42 mkX10_valueOf lkX10_279 lay_63 rfl rfl rfl (by decide) rfl (Nat.le_of_ble_eq_true rfl) z00 t ?_
      intro v5 h5 t
      obtain ⟨c6, t⟩ := t
      refine r_iast (c := 88) dX10_does_45 lay_88 c6 ?_
      refine r_iinc (k := 2) (v := x2 + (1 : Int32)) (lv' := [(2, .int (x2 + (1 : Int32))), (0, .ref (eA E 63)), (1, .int x1)]) dX10_does_46 rfl rfl (by decide) rfl ?_
      refine r_goto (tgt := 13) dX10_does_49 (by decide) ?_
      refine r_sub [1, 2, 0] rfl ?_
      exact t
theorem dX10_doesSource_0 : decode cX10_doesSource 0 = .ok (.iconst 0, 1) := by decide +kernel
theorem dX10_doesSource_1 : decode cX10_doesSource 1 = .ok (.istore_n 2, 1) := by decide +kernel
theorem dX10_doesSource_2 : decode cX10_doesSource 2 = .ok (.iload_n 2, 1) := by decide +kernel
theorem dX10_doesSource_3 : decode cX10_doesSource 3 = .ok (.aload_n 0, 1) := by decide +kernel
theorem dX10_doesSource_4 : decode cX10_doesSource 4 = .ok (.getfield 16, 3) := by decide +kernel
theorem dX10_doesSource_7 : decode cX10_doesSource 7 = .ok (.iload_n 1, 1) := by decide +kernel
theorem dX10_doesSource_8 : decode cX10_doesSource 8 = .ok (.iaload, 1) := by decide +kernel
theorem dX10_doesSource_9 : decode cX10_doesSource 9 = .ok (.if_icmp .ge 21, 3) := by decide +kernel
theorem dX10_doesSource_12 : decode cX10_doesSource 12 = .ok (.aload_n 0, 1) := by decide +kernel
theorem dX10_doesSource_13 : decode cX10_doesSource 13 = .ok (.iconst 1, 1) := by decide +kernel
theorem dX10_doesSource_14 : decode cX10_doesSource 14 = .ok (.aload_n 0, 1) := by decide +kernel
theorem dX10_doesSource_15 : decode cX10_doesSource 15 = .ok (.iload_n 1, 1) := by decide +kernel
theorem dX10_doesSource_16 : decode cX10_doesSource 16 = .ok (.iload_n 2, 1) := by decide +kernel
theorem dX10_doesSource_17 : decode cX10_doesSource 17 = .ok (.invokevirtual 150, 3) := by decide +kernel
theorem dX10_doesSource_20 : decode cX10_doesSource 20 = .ok (.ishl, 1) := by decide +kernel
theorem dX10_doesSource_21 : decode cX10_doesSource 21 = .ok (.invokevirtual 282, 3) := by decide +kernel
theorem dX10_doesSource_24 : decode cX10_doesSource 24 = .ok (.iinc 2 1, 3) := by decide +kernel
theorem dX10_doesSource_27 : decode cX10_doesSource 27 = .ok (.goto (-25), 3) := by decide +kernel
theorem dX10_doesSource_30 : decode cX10_doesSource 30 = .ok (.return_, 1) := by decide +kernel
abbrev VX10_doesSource_2 (E : En) (d : Nat) (g : Ga) (P : Hp → Prop) (x1 : Int32) (x2 : Int32) (h : Hp) : Prop := V E MX10_doesSource (RM (d + 1) 0) g (QQ E g (QV E P) 0 0) 0 0 h 2 [(0, .ref (eA E 63)), (1, .int x1), (2, .int x2)] []
set_option maxRecDepth 20000 in
theorem wp_X10_doesSource (E : En) (d : Nat) (a1 : Int32) (h : Hp) (P : Hp → Prop) (t : ∀ g : Ga, VX10_doesSource_2 E d g P a1 (0 : Int32) h) : SpV E (d + 1) MX10_doesSource [.ref (eA E 63), .int a1] h P := by
  refine SpV.of (lv0 := [(0, .ref (eA E 63)), (1, .int a1)]) (by decide) (Nat.le_of_ble_eq_true rfl) rfl (fun g => ?_)
  have t := t g
  refine r_iconst (v := (0 : Int32)) dX10_doesSource_0 rfl ?_
  refine r_istore_n (lv' := [(2, .int (0 : Int32)), (0, .ref (eA E 63)), (1, .int a1)]) dX10_doesSource_1 rfl (by decide) rfl ?_
  refine r_sub [1, 2, 0] rfl ?_
  exact t
set_option maxRecDepth 20000 in
theorem sg_X10_doesSource_2 (E : En) (d : Nat) (g : Ga) (x1 : Int32) (x2 : Int32) (h : Hp) (P : Hp → Prop) (t : vp_in x1 8 ∧ (((h.1 66 x1.toNatClampNeg) ≤ x2 → (P h)) ∧ (¬ (h.1 66 x1.toNatClampNeg) ≤ x2 → (SpI E d MX10_at [.ref (eA E 63), .int x1, .int x2] h (fun v3 h3 => SpV E d MX10_does [.ref (eA E 63), .int ((1 : Int32) <<< (v3 &&& 31))] h3 (fun h4 => VX10_doesSource_2 E d g P x1 (x2 + (1 : Int32)) h4)))))) : VX10_doesSource_2 E d g P x1 x2 h := by
  refine r_iload_n (q := 2) dX10_doesSource_2 rfl rfl ?_
  refine r_aload_n (q := 0) dX10_doesSource_3 rfl rfl ?_
  refine r_getR (c := 63) (c2 := 66) dX10_doesSource_4 flX10_16 lay_63 rfl ?_
  refine r_iload_n (q := 1) dX10_doesSource_7 rfl rfl ?_
  obtain ⟨c1, t⟩ := t
  refine r_iald (c := 66) dX10_doesSource_8 lay_66 c1 ?_
  refine r_icmp_ge (tgt := 30) dX10_doesSource_9 (by decide) (fun q2 => ?_) (fun q2 => ?_)
  · have t := t.1 q2
    exact r_vret dX10_doesSource_30 rfl t
  · have t := t.2 q2
    refine r_aload_n (q := 0) dX10_doesSource_12 rfl rfl ?_
    refine r_iconst (v := (1 : Int32)) dX10_doesSource_13 rfl ?_
    refine r_aload_n (q := 0) dX10_doesSource_14 rfl rfl ?_
    refine r_iload_n (q := 1) dX10_doesSource_15 rfl rfl ?_
    refine r_iload_n (q := 2) dX10_doesSource_16 rfl rfl ?_
    refine r_cVI (c := 63) (As := [.int x1, .int x2]) dX10_doesSource_17 mkX10_at lkX10_150 lay_63 rfl rfl rfl (by decide) rfl (Nat.le_of_ble_eq_true rfl) z00 t ?_
    intro v3 h3 t
    refine r_ishl dX10_doesSource_20 ?_
    refine r_cVV (c := 63) (As := [.int ((1 : Int32) <<< (v3 &&& 31))]) dX10_doesSource_21 mkX10_does lkX10_282 lay_63 rfl rfl rfl (by decide) rfl (Nat.le_of_ble_eq_true rfl) z00 t ?_
    intro h4 t
    refine r_iinc (k := 2) (v := x2 + (1 : Int32)) (lv' := [(2, .int (x2 + (1 : Int32))), (0, .ref (eA E 63)), (1, .int x1)]) dX10_doesSource_24 rfl rfl (by decide) rfl ?_
    refine r_goto (tgt := 2) dX10_doesSource_27 (by decide) ?_
    refine r_sub [1, 2, 0] rfl ?_
    exact t
theorem dX10_runSource_0 : decode cX10_runSource 0 = .ok (.aload_n 0, 1) := by decide +kernel
theorem dX10_runSource_1 : decode cX10_runSource 1 = .ok (.aload_n 0, 1) := by decide +kernel
theorem dX10_runSource_2 : decode cX10_runSource 2 = .ok (.iload_n 1, 1) := by decide +kernel
theorem dX10_runSource_3 : decode cX10_runSource 3 = .ok (.invokevirtual 128, 3) := by decide +kernel
theorem dX10_runSource_6 : decode cX10_runSource 6 = .ok (.ifCond .ne 7, 3) := by decide +kernel
theorem dX10_runSource_9 : decode cX10_runSource 9 = .ok (.iconst 1, 1) := by decide +kernel
theorem dX10_runSource_10 : decode cX10_runSource 10 = .ok (.goto 16, 3) := by decide +kernel
theorem dX10_runSource_13 : decode cX10_runSource 13 = .ok (.aload_n 0, 1) := by decide +kernel
theorem dX10_runSource_14 : decode cX10_runSource 14 = .ok (.getfield 92, 3) := by decide +kernel
theorem dX10_runSource_17 : decode cX10_runSource 17 = .ok (.iconst (-1), 1) := by decide +kernel
theorem dX10_runSource_18 : decode cX10_runSource 18 = .ok (.if_icmp .eq 7, 3) := by decide +kernel
theorem dX10_runSource_21 : decode cX10_runSource 21 = .ok (.iconst 2, 1) := by decide +kernel
theorem dX10_runSource_22 : decode cX10_runSource 22 = .ok (.goto 4, 3) := by decide +kernel
theorem dX10_runSource_25 : decode cX10_runSource 25 = .ok (.iconst 0, 1) := by decide +kernel
theorem dX10_runSource_26 : decode cX10_runSource 26 = .ok (.invokevirtual 147, 3) := by decide +kernel
theorem dX10_runSource_29 : decode cX10_runSource 29 = .ok (.ifCond .eq 5, 3) := by decide +kernel
theorem dX10_runSource_32 : decode cX10_runSource 32 = .ok (.iconst 0, 1) := by decide +kernel
theorem dX10_runSource_33 : decode cX10_runSource 33 = .ok (.ireturn, 1) := by decide +kernel
theorem dX10_runSource_34 : decode cX10_runSource 34 = .ok (.aload_n 0, 1) := by decide +kernel
theorem dX10_runSource_35 : decode cX10_runSource 35 = .ok (.iload_n 1, 1) := by decide +kernel
theorem dX10_runSource_36 : decode cX10_runSource 36 = .ok (.invokevirtual 285, 3) := by decide +kernel
theorem dX10_runSource_39 : decode cX10_runSource 39 = .ok (.aload_n 0, 1) := by decide +kernel
theorem dX10_runSource_40 : decode cX10_runSource 40 = .ok (.getfield 16, 3) := by decide +kernel
theorem dX10_runSource_43 : decode cX10_runSource 43 = .ok (.iload_n 1, 1) := by decide +kernel
theorem dX10_runSource_44 : decode cX10_runSource 44 = .ok (.iaload, 1) := by decide +kernel
theorem dX10_runSource_45 : decode cX10_runSource 45 = .ok (.ireturn, 1) := by decide +kernel
set_option maxRecDepth 20000 in
theorem wp_X10_runSource (E : En) (d : Nat) (a1 : Int32) (h : Hp) (P : Int32 → Hp → Prop) (t : SpI E d MX10_isInstruction [.ref (eA E 63), .int a1] h (fun v1 h1 => (¬ v1 = 0 → (((h1.1 63 38) = (-1 : Int32) → (SpI E d MX10_throwsAs [.ref (eA E 63), .int (0 : Int32)] h1 (fun v4 h4 => (v4 = 0 → (SpV E d MX10_doesSource [.ref (eA E 63), .int a1] h4 (fun h6 => vp_in a1 8 ∧ (P (h6.1 66 a1.toNatClampNeg) h6)))) ∧ (¬ v4 = 0 → (P (0 : Int32) h4))))) ∧ (¬ (h1.1 63 38) = (-1 : Int32) → (SpI E d MX10_throwsAs [.ref (eA E 63), .int (2 : Int32)] h1 (fun v8 h8 => (v8 = 0 → (SpV E d MX10_doesSource [.ref (eA E 63), .int a1] h8 (fun h10 => vp_in a1 8 ∧ (P (h10.1 66 a1.toNatClampNeg) h10)))) ∧ (¬ v8 = 0 → (P (0 : Int32) h8))))))) ∧ (v1 = 0 → (SpI E d MX10_throwsAs [.ref (eA E 63), .int (1 : Int32)] h1 (fun v12 h12 => (v12 = 0 → (SpV E d MX10_doesSource [.ref (eA E 63), .int a1] h12 (fun h14 => vp_in a1 8 ∧ (P (h14.1 66 a1.toNatClampNeg) h14)))) ∧ (¬ v12 = 0 → (P (0 : Int32) h12))))))) : SpI E (d + 1) MX10_runSource [.ref (eA E 63), .int a1] h P := by
  refine SpI.of (lv0 := [(0, .ref (eA E 63)), (1, .int a1)]) (by decide) (Nat.le_of_ble_eq_true rfl) rfl (fun g => ?_)
  refine r_aload_n (q := 0) dX10_runSource_0 rfl rfl ?_
  refine r_aload_n (q := 0) dX10_runSource_1 rfl rfl ?_
  refine r_iload_n (q := 1) dX10_runSource_2 rfl rfl ?_
  refine r_cVI (c := 63) (As := [.int a1]) dX10_runSource_3 mkX10_isInstruction lkX10_128 lay_63 rfl rfl rfl (by decide) rfl (Nat.le_of_ble_eq_true rfl) z00 t ?_
  intro v1 h1 t
  refine r_if_ne (tgt := 13) dX10_runSource_6 (by decide) (fun q2 => ?_) (fun q2 => ?_)
  · have t := t.1 q2
    refine r_aload_n (q := 0) dX10_runSource_13 rfl rfl ?_
    refine r_getI (c := 63) dX10_runSource_14 flX10_92 lay_63 rfl ?_
    refine r_iconst (v := (-1 : Int32)) dX10_runSource_17 rfl ?_
    refine r_icmp_eq (tgt := 25) dX10_runSource_18 (by decide) (fun q3 => ?_) (fun q3 => ?_)
    · have t := t.1 q3
      refine r_iconst (v := (0 : Int32)) dX10_runSource_25 rfl ?_
      refine r_cVI (c := 63) (As := [.int (0 : Int32)]) dX10_runSource_26 mkX10_throwsAs lkX10_147 lay_63 rfl rfl rfl (by decide) rfl (Nat.le_of_ble_eq_true rfl) z00 t ?_
      intro v4 h4 t
      refine r_if_eq (tgt := 34) dX10_runSource_29 (by decide) (fun q5 => ?_) (fun q5 => ?_)
      · have t := t.1 q5
        refine r_aload_n (q := 0) dX10_runSource_34 rfl rfl ?_
        refine r_iload_n (q := 1) dX10_runSource_35 rfl rfl ?_
        refine r_cVV (c := 63) (As := [.int a1]) dX10_runSource_36 mkX10_doesSource lkX10_285 lay_63 rfl rfl rfl (by decide) rfl (Nat.le_of_ble_eq_true rfl) z00 t ?_
        intro h6 t
        refine r_aload_n (q := 0) dX10_runSource_39 rfl rfl ?_
        refine r_getR (c := 63) (c2 := 66) dX10_runSource_40 flX10_16 lay_63 rfl ?_
        refine r_iload_n (q := 1) dX10_runSource_43 rfl rfl ?_
        obtain ⟨c7, t⟩ := t
        refine r_iald (c := 66) dX10_runSource_44 lay_66 c7 ?_
        exact r_iret dX10_runSource_45 rfl t
      · have t := t.2 q5
        refine r_iconst (v := (0 : Int32)) dX10_runSource_32 rfl ?_
        exact r_iret dX10_runSource_33 rfl t
    · have t := t.2 q3
      refine r_iconst (v := (2 : Int32)) dX10_runSource_21 rfl ?_
      refine r_goto (tgt := 26) dX10_runSource_22 (by decide) ?_
      refine r_cVI (c := 63) (As := [.int (2 : Int32)]) dX10_runSource_26 mkX10_throwsAs lkX10_147 lay_63 rfl rfl rfl (by decide) rfl (Nat.le_of_ble_eq_true rfl) z00 t ?_
      intro v8 h8 t
      refine r_if_eq (tgt := 34) dX10_runSource_29 (by decide) (fun q9 => ?_) (fun q9 => ?_)
      · have t := t.1 q9
        refine r_aload_n (q := 0) dX10_runSource_34 rfl rfl ?_
        refine r_iload_n (q := 1) dX10_runSource_35 rfl rfl ?_
        refine r_cVV (c := 63) (As := [.int a1]) dX10_runSource_36 mkX10_doesSource lkX10_285 lay_63 rfl rfl rfl (by decide) rfl (Nat.le_of_ble_eq_true rfl) z00 t ?_
        intro h10 t
        refine r_aload_n (q := 0) dX10_runSource_39 rfl rfl ?_
        refine r_getR (c := 63) (c2 := 66) dX10_runSource_40 flX10_16 lay_63 rfl ?_
        refine r_iload_n (q := 1) dX10_runSource_43 rfl rfl ?_
        obtain ⟨c11, t⟩ := t
        refine r_iald (c := 66) dX10_runSource_44 lay_66 c11 ?_
        exact r_iret dX10_runSource_45 rfl t
      · have t := t.2 q9
        refine r_iconst (v := (0 : Int32)) dX10_runSource_32 rfl ?_
        exact r_iret dX10_runSource_33 rfl t
  · have t := t.2 q2
    refine r_iconst (v := (1 : Int32)) dX10_runSource_9 rfl ?_
    refine r_goto (tgt := 26) dX10_runSource_10 (by decide) ?_
    refine r_cVI (c := 63) (As := [.int (1 : Int32)]) dX10_runSource_26 mkX10_throwsAs lkX10_147 lay_63 rfl rfl rfl (by decide) rfl (Nat.le_of_ble_eq_true rfl) z00 t ?_
    intro v12 h12 t
    refine r_if_eq (tgt := 34) dX10_runSource_29 (by decide) (fun q13 => ?_) (fun q13 => ?_)
    · have t := t.1 q13
      refine r_aload_n (q := 0) dX10_runSource_34 rfl rfl ?_
      refine r_iload_n (q := 1) dX10_runSource_35 rfl rfl ?_
      refine r_cVV (c := 63) (As := [.int a1]) dX10_runSource_36 mkX10_doesSource lkX10_285 lay_63 rfl rfl rfl (by decide) rfl (Nat.le_of_ble_eq_true rfl) z00 t ?_
      intro h14 t
      refine r_aload_n (q := 0) dX10_runSource_39 rfl rfl ?_
      refine r_getR (c := 63) (c2 := 66) dX10_runSource_40 flX10_16 lay_63 rfl ?_
      refine r_iload_n (q := 1) dX10_runSource_43 rfl rfl ?_
      obtain ⟨c15, t⟩ := t
      refine r_iald (c := 66) dX10_runSource_44 lay_66 c15 ?_
      exact r_iret dX10_runSource_45 rfl t
    · have t := t.2 q13
      refine r_iconst (v := (0 : Int32)) dX10_runSource_32 rfl ?_
      exact r_iret dX10_runSource_33 rfl t
theorem dX10_goesOn_0 : decode cX10_goesOn 0 = .ok (.iconst 0, 1) := by decide +kernel
theorem dX10_goesOn_1 : decode cX10_goesOn 1 = .ok (.istore_n 3, 1) := by decide +kernel
theorem dX10_goesOn_2 : decode cX10_goesOn 2 = .ok (.aload_n 0, 1) := by decide +kernel
theorem dX10_goesOn_3 : decode cX10_goesOn 3 = .ok (.iload_n 1, 1) := by decide +kernel
theorem dX10_goesOn_4 : decode cX10_goesOn 4 = .ok (.putfield 92, 3) := by decide +kernel
theorem dX10_goesOn_7 : decode cX10_goesOn 7 = .ok (.aload_n 0, 1) := by decide +kernel
theorem dX10_goesOn_8 : decode cX10_goesOn 8 = .ok (.getfield 92, 3) := by decide +kernel
theorem dX10_goesOn_11 : decode cX10_goesOn 11 = .ok (.iconst (-1), 1) := by decide +kernel
theorem dX10_goesOn_12 : decode cX10_goesOn 12 = .ok (.if_icmp .eq 55, 3) := by decide +kernel
theorem dX10_goesOn_15 : decode cX10_goesOn 15 = .ok (.aload_n 0, 1) := by decide +kernel
theorem dX10_goesOn_16 : decode cX10_goesOn 16 = .ok (.getfield 92, 3) := by decide +kernel
theorem dX10_goesOn_19 : decode cX10_goesOn 19 = .ok (.istore 4, 2) := by decide +kernel
theorem dX10_goesOn_21 : decode cX10_goesOn 21 = .ok (.aload_n 0, 1) := by decide +kernel
theorem dX10_goesOn_22 : decode cX10_goesOn 22 = .ok (.aload_n 0, 1) := by decide +kernel
theorem dX10_goesOn_23 : decode cX10_goesOn 23 = .ok (.getfield 55, 3) := by decide +kernel
theorem dX10_goesOn_26 : decode cX10_goesOn 26 = .ok (.iload 4, 2) := by decide +kernel
theorem dX10_goesOn_28 : decode cX10_goesOn 28 = .ok (.iaload, 1) := by decide +kernel
theorem dX10_goesOn_29 : decode cX10_goesOn 29 = .ok (.invokevirtual 282, 3) := by decide +kernel
theorem dX10_goesOn_32 : decode cX10_goesOn 32 = .ok (.iinc 3 1, 3) := by decide +kernel
theorem dX10_goesOn_35 : decode cX10_goesOn 35 = .ok (.aload_n 0, 1) := by decide +kernel
theorem dX10_goesOn_36 : decode cX10_goesOn 36 = .ok (.aload_n 0, 1) := by decide +kernel
theorem dX10_goesOn_37 : decode cX10_goesOn 37 = .ok (.getfield 61, 3) := by decide +kernel
theorem dX10_goesOn_40 : decode cX10_goesOn 40 = .ok (.iload 4, 2) := by decide +kernel
theorem dX10_goesOn_42 : decode cX10_goesOn 42 = .ok (.iaload, 1) := by decide +kernel
theorem dX10_goesOn_43 : decode cX10_goesOn 43 = .ok (.putfield 92, 3) := by decide +kernel
theorem dX10_goesOn_46 : decode cX10_goesOn 46 = .ok (.iload_n 3, 1) := by decide +kernel
theorem dX10_goesOn_47 : decode cX10_goesOn 47 = .ok (.iload_n 2, 1) := by decide +kernel
theorem dX10_goesOn_48 : decode cX10_goesOn 48 = .ok (.if_icmp .lt 16, 3) := by decide +kernel
theorem dX10_goesOn_51 : decode cX10_goesOn 51 = .ok (.aload_n 0, 1) := by decide +kernel
theorem dX10_goesOn_52 : decode cX10_goesOn 52 = .ok (.getfield 58, 3) := by decide +kernel
theorem dX10_goesOn_55 : decode cX10_goesOn 55 = .ok (.iload 4, 2) := by decide +kernel
theorem dX10_goesOn_57 : decode cX10_goesOn 57 = .ok (.iaload, 1) := by decide +kernel
theorem dX10_goesOn_58 : decode cX10_goesOn 58 = .ok (.iconst 1, 1) := by decide +kernel
theorem dX10_goesOn_59 : decode cX10_goesOn 59 = .ok (.if_icmp .ne 5, 3) := by decide +kernel
theorem dX10_goesOn_62 : decode cX10_goesOn 62 = .ok (.iload_n 3, 1) := by decide +kernel
theorem dX10_goesOn_63 : decode cX10_goesOn 63 = .ok (.ireturn, 1) := by decide +kernel
theorem dX10_goesOn_64 : decode cX10_goesOn 64 = .ok (.goto (-57), 3) := by decide +kernel
theorem dX10_goesOn_67 : decode cX10_goesOn 67 = .ok (.iload_n 3, 1) := by decide +kernel
theorem dX10_goesOn_68 : decode cX10_goesOn 68 = .ok (.ireturn, 1) := by decide +kernel
abbrev VX10_goesOn_7 (E : En) (d : Nat) (g : Ga) (P : Int32 → Hp → Prop) (x1 : Int32) (x2 : Int32) (x3 : Int32) (h : Hp) : Prop := V E MX10_goesOn (RM (d + 1) 0) g (QQ E g (QI E P) 0 0) 0 0 h 7 [(0, .ref (eA E 63)), (1, .int x1), (2, .int x2), (3, .int x3)] []
set_option maxRecDepth 20000 in
theorem wp_X10_goesOn (E : En) (d : Nat) (a1 : Int32) (a2 : Int32) (h : Hp) (P : Int32 → Hp → Prop) (t : ∀ g : Ga, VX10_goesOn_7 E d g P a1 a2 (0 : Int32) (sI h 63 38 a1)) : SpI E (d + 1) MX10_goesOn [.ref (eA E 63), .int a1, .int a2] h P := by
  refine SpI.of (lv0 := [(0, .ref (eA E 63)), (1, .int a1), (2, .int a2)]) (by decide) (Nat.le_of_ble_eq_true rfl) rfl (fun g => ?_)
  have t := t g
  refine r_iconst (v := (0 : Int32)) dX10_goesOn_0 rfl ?_
  refine r_istore_n (lv' := [(3, .int (0 : Int32)), (0, .ref (eA E 63)), (1, .int a1), (2, .int a2)]) dX10_goesOn_1 rfl (by decide) rfl ?_
  refine r_aload_n (q := 1) dX10_goesOn_2 rfl rfl ?_
  refine r_iload_n (q := 2) dX10_goesOn_3 rfl rfl ?_
  refine r_putI (c := 63) dX10_goesOn_4 flX10_92 lay_63 rfl ?_
  refine r_sub [1, 2, 3, 0] rfl ?_
  exact t
set_option maxRecDepth 20000 in
theorem sg_X10_goesOn_7 (E : En) (d : Nat) (g : Ga) (x1 : Int32) (x2 : Int32) (x3 : Int32) (h : Hp) (P : Int32 → Hp → Prop) (t : ((h.1 63 38) = (-1 : Int32) → (P x3 h)) ∧ (¬ (h.1 63 38) = (-1 : Int32) → (vp_in (h.1 63 38) 192 ∧ (SpV E d MX10_does [.ref (eA E 63), .int (h.1 79 ((h.1 63 38).toNatClampNeg))] h (fun h3 => vp_in (h.1 63 38) 192 ∧ (((x3 + (1 : Int32)) < x2 → (VX10_goesOn_7 E d g P x1 x2 (x3 + (1 : Int32)) (sI h3 63 38 (h3.1 81 ((h.1 63 38).toNatClampNeg))))) ∧ (¬ (x3 + (1 : Int32)) < x2 → (vp_in (h.1 63 38) 192 ∧ ((¬ (h3.1 80 ((h.1 63 38).toNatClampNeg)) = (1 : Int32) → (VX10_goesOn_7 E d g P x1 x2 (x3 + (1 : Int32)) (sI h3 63 38 (h3.1 81 ((h.1 63 38).toNatClampNeg))))) ∧ ((h3.1 80 ((h.1 63 38).toNatClampNeg)) = (1 : Int32) → (P (x3 + (1 : Int32)) (sI h3 63 38 (h3.1 81 ((h.1 63 38).toNatClampNeg)))))))))))))) : VX10_goesOn_7 E d g P x1 x2 x3 h := by
  refine r_aload_n (q := 0) dX10_goesOn_7 rfl rfl ?_
  refine r_getI (c := 63) dX10_goesOn_8 flX10_92 lay_63 rfl ?_
  refine r_iconst (v := (-1 : Int32)) dX10_goesOn_11 rfl ?_
  refine r_icmp_eq (tgt := 67) dX10_goesOn_12 (by decide) (fun q1 => ?_) (fun q1 => ?_)
  · have t := t.1 q1
    refine r_iload_n (q := 3) dX10_goesOn_67 rfl rfl ?_
    exact r_iret dX10_goesOn_68 rfl t
  · have t := t.2 q1
    refine r_aload_n (q := 0) dX10_goesOn_15 rfl rfl ?_
    refine r_getI (c := 63) dX10_goesOn_16 flX10_92 lay_63 rfl ?_
    refine r_istore (lv' := [(4, .int (h.1 63 38)), (0, .ref (eA E 63)), (1, .int x1), (2, .int x2), (3, .int x3)]) dX10_goesOn_19 (by decide) rfl ?_
    refine r_aload_n (q := 1) dX10_goesOn_21 rfl rfl ?_
    refine r_aload_n (q := 1) dX10_goesOn_22 rfl rfl ?_
    refine r_getR (c := 63) (c2 := 79) dX10_goesOn_23 flX10_55 lay_63 rfl ?_
    refine r_iload (q := 0) dX10_goesOn_26 rfl ?_
    obtain ⟨c2, t⟩ := t
    refine r_iald (c := 79) dX10_goesOn_28 lay_79 c2 ?_
    refine r_cVV (c := 63) (As := [.int (h.1 79 ((h.1 63 38).toNatClampNeg))]) dX10_goesOn_29 mkX10_does lkX10_282 lay_63 rfl rfl rfl (by decide) rfl (Nat.le_of_ble_eq_true rfl) z00 t ?_
    intro h3 t
    refine r_iinc (k := 4) (v := x3 + (1 : Int32)) (lv' := [(3, .int (x3 + (1 : Int32))), (4, .int (h.1 63 38)), (0, .ref (eA E 63)), (1, .int x1), (2, .int x2)]) dX10_goesOn_32 rfl rfl (by decide) rfl ?_
    refine r_aload_n (q := 2) dX10_goesOn_35 rfl rfl ?_
    refine r_aload_n (q := 2) dX10_goesOn_36 rfl rfl ?_
    refine r_getR (c := 63) (c2 := 81) dX10_goesOn_37 flX10_61 lay_63 rfl ?_
    refine r_iload (q := 1) dX10_goesOn_40 rfl ?_
    obtain ⟨c4, t⟩ := t
    refine r_iald (c := 81) dX10_goesOn_42 lay_81 c4 ?_
    refine r_putI (c := 63) dX10_goesOn_43 flX10_92 lay_63 rfl ?_
    refine r_iload_n (q := 0) dX10_goesOn_46 rfl rfl ?_
    refine r_iload_n (q := 4) dX10_goesOn_47 rfl rfl ?_
    refine r_icmp_lt (tgt := 64) dX10_goesOn_48 (by decide) (fun q5 => ?_) (fun q5 => ?_)
    · have t := t.1 q5
      refine r_goto (tgt := 7) dX10_goesOn_64 (by decide) ?_
      refine r_sub [2, 3, 4, 0] rfl ?_
      exact t
    · have t := t.2 q5
      refine r_aload_n (q := 2) dX10_goesOn_51 rfl rfl ?_
      refine r_getR (c := 63) (c2 := 80) dX10_goesOn_52 flX10_58 lay_63 rfl ?_
      refine r_iload (q := 1) dX10_goesOn_55 rfl ?_
      obtain ⟨c6, t⟩ := t
      refine r_ialdv (c := 80) (v := h3.1 80 ((h.1 63 38).toNatClampNeg)) dX10_goesOn_57 lay_80 c6 rfl ?_
      refine r_iconst (v := (1 : Int32)) dX10_goesOn_58 rfl ?_
      refine r_icmp_ne (tgt := 64) dX10_goesOn_59 (by decide) (fun q7 => ?_) (fun q7 => ?_)
      · have t := t.1 q7
        refine r_goto (tgt := 7) dX10_goesOn_64 (by decide) ?_
        refine r_sub [2, 3, 4, 0] rfl ?_
        exact t
      · have t := t.2 q7
        refine r_iload_n (q := 0) dX10_goesOn_62 rfl rfl ?_
        exact r_iret dX10_goesOn_63 rfl t
theorem dX10_start_0 : decode cX10_start 0 = .ok (.aload_n 0, 1) := by decide +kernel
theorem dX10_start_1 : decode cX10_start 1 = .ok (.aload_n 0, 1) := by decide +kernel
theorem dX10_start_2 : decode cX10_start 2 = .ok (.iload_n 1, 1) := by decide +kernel
theorem dX10_start_3 : decode cX10_start 3 = .ok (.invokevirtual 128, 3) := by decide +kernel
theorem dX10_start_6 : decode cX10_start 6 = .ok (.ifCond .ne 7, 3) := by decide +kernel
theorem dX10_start_9 : decode cX10_start 9 = .ok (.iconst 1, 1) := by decide +kernel
theorem dX10_start_10 : decode cX10_start 10 = .ok (.goto 24, 3) := by decide +kernel
theorem dX10_start_13 : decode cX10_start 13 = .ok (.iload_n 2, 1) := by decide +kernel
theorem dX10_start_14 : decode cX10_start 14 = .ok (.ifCond .ge 7, 3) := by decide +kernel
theorem dX10_start_17 : decode cX10_start 17 = .ok (.iconst 2, 1) := by decide +kernel
theorem dX10_start_18 : decode cX10_start 18 = .ok (.goto 16, 3) := by decide +kernel
theorem dX10_start_21 : decode cX10_start 21 = .ok (.aload_n 0, 1) := by decide +kernel
theorem dX10_start_22 : decode cX10_start 22 = .ok (.getfield 92, 3) := by decide +kernel
theorem dX10_start_25 : decode cX10_start 25 = .ok (.iconst (-1), 1) := by decide +kernel
theorem dX10_start_26 : decode cX10_start 26 = .ok (.if_icmp .eq 7, 3) := by decide +kernel
theorem dX10_start_29 : decode cX10_start 29 = .ok (.iconst 3, 1) := by decide +kernel
theorem dX10_start_30 : decode cX10_start 30 = .ok (.goto 4, 3) := by decide +kernel
theorem dX10_start_33 : decode cX10_start 33 = .ok (.iconst 0, 1) := by decide +kernel
theorem dX10_start_34 : decode cX10_start 34 = .ok (.invokevirtual 147, 3) := by decide +kernel
theorem dX10_start_37 : decode cX10_start 37 = .ok (.ifCond .eq 5, 3) := by decide +kernel
theorem dX10_start_40 : decode cX10_start 40 = .ok (.iconst 0, 1) := by decide +kernel
theorem dX10_start_41 : decode cX10_start 41 = .ok (.ireturn, 1) := by decide +kernel
theorem dX10_start_42 : decode cX10_start 42 = .ok (.iload_n 2, 1) := by decide +kernel
theorem dX10_start_43 : decode cX10_start 43 = .ok (.ifCond .le 15, 3) := by decide +kernel
theorem dX10_start_46 : decode cX10_start 46 = .ok (.aload_n 0, 1) := by decide +kernel
theorem dX10_start_47 : decode cX10_start 47 = .ok (.aload_n 0, 1) := by decide +kernel
theorem dX10_start_48 : decode cX10_start 48 = .ok (.getfield 64, 3) := by decide +kernel
theorem dX10_start_51 : decode cX10_start 51 = .ok (.iload_n 1, 1) := by decide +kernel
theorem dX10_start_52 : decode cX10_start 52 = .ok (.iaload, 1) := by decide +kernel
theorem dX10_start_53 : decode cX10_start 53 = .ok (.iload_n 2, 1) := by decide +kernel
theorem dX10_start_54 : decode cX10_start 54 = .ok (.invokevirtual 288, 3) := by decide +kernel
theorem dX10_start_57 : decode cX10_start 57 = .ok (.ireturn, 1) := by decide +kernel
theorem dX10_start_58 : decode cX10_start 58 = .ok (.aload_n 0, 1) := by decide +kernel
theorem dX10_start_59 : decode cX10_start 59 = .ok (.aload_n 0, 1) := by decide +kernel
theorem dX10_start_60 : decode cX10_start 60 = .ok (.getfield 64, 3) := by decide +kernel
theorem dX10_start_63 : decode cX10_start 63 = .ok (.iload_n 1, 1) := by decide +kernel
theorem dX10_start_64 : decode cX10_start 64 = .ok (.iaload, 1) := by decide +kernel
theorem dX10_start_65 : decode cX10_start 65 = .ok (.putfield 92, 3) := by decide +kernel
theorem dX10_start_68 : decode cX10_start 68 = .ok (.iconst 0, 1) := by decide +kernel
theorem dX10_start_69 : decode cX10_start 69 = .ok (.ireturn, 1) := by decide +kernel
set_option maxRecDepth 20000 in
theorem wp_X10_start (E : En) (d : Nat) (a1 : Int32) (a2 : Int32) (h : Hp) (P : Int32 → Hp → Prop) (t : SpI E d MX10_isInstruction [.ref (eA E 63), .int a1] h (fun v1 h1 => (¬ v1 = 0 → ((0 ≤ a2 → (((h1.1 63 38) = (-1 : Int32) → (SpI E d MX10_throwsAs [.ref (eA E 63), .int (0 : Int32)] h1 (fun v5 h5 => (v5 = 0 → ((a2 ≤ 0 → (vp_in a1 8 ∧ (P (0 : Int32) (sI h5 63 38 (h5.1 82 a1.toNatClampNeg))))) ∧ (¬ a2 ≤ 0 → (vp_in a1 8 ∧ (SpI E d MX10_goesOn [.ref (eA E 63), .int (h5.1 82 a1.toNatClampNeg), .int a2] h5 (fun v10 h10 => P v10 h10)))))) ∧ (¬ v5 = 0 → (P (0 : Int32) h5))))) ∧ (¬ (h1.1 63 38) = (-1 : Int32) → (SpI E d MX10_throwsAs [.ref (eA E 63), .int (3 : Int32)] h1 (fun v11 h11 => (v11 = 0 → ((a2 ≤ 0 → (vp_in a1 8 ∧ (P (0 : Int32) (sI h11 63 38 (h11.1 82 a1.toNatClampNeg))))) ∧ (¬ a2 ≤ 0 → (vp_in a1 8 ∧ (SpI E d MX10_goesOn [.ref (eA E 63), .int (h11.1 82 a1.toNatClampNeg), .int a2] h11 (fun v16 h16 => P v16 h16)))))) ∧ (¬ v11 = 0 → (P (0 : Int32) h11))))))) ∧ (¬ 0 ≤ a2 → (SpI E d MX10_throwsAs [.ref (eA E 63), .int (2 : Int32)] h1 (fun v17 h17 => (v17 = 0 → ((a2 ≤ 0 → (vp_in a1 8 ∧ (P (0 : Int32) (sI h17 63 38 (h17.1 82 a1.toNatClampNeg))))) ∧ (¬ a2 ≤ 0 → (vp_in a1 8 ∧ (SpI E d MX10_goesOn [.ref (eA E 63), .int (h17.1 82 a1.toNatClampNeg), .int a2] h17 (fun v22 h22 => P v22 h22)))))) ∧ (¬ v17 = 0 → (P (0 : Int32) h17))))))) ∧ (v1 = 0 → (SpI E d MX10_throwsAs [.ref (eA E 63), .int (1 : Int32)] h1 (fun v23 h23 => (v23 = 0 → ((a2 ≤ 0 → (vp_in a1 8 ∧ (P (0 : Int32) (sI h23 63 38 (h23.1 82 a1.toNatClampNeg))))) ∧ (¬ a2 ≤ 0 → (vp_in a1 8 ∧ (SpI E d MX10_goesOn [.ref (eA E 63), .int (h23.1 82 a1.toNatClampNeg), .int a2] h23 (fun v28 h28 => P v28 h28)))))) ∧ (¬ v23 = 0 → (P (0 : Int32) h23))))))) : SpI E (d + 1) MX10_start [.ref (eA E 63), .int a1, .int a2] h P := by
  refine SpI.of (lv0 := [(0, .ref (eA E 63)), (1, .int a1), (2, .int a2)]) (by decide) (Nat.le_of_ble_eq_true rfl) rfl (fun g => ?_)
  refine r_aload_n (q := 0) dX10_start_0 rfl rfl ?_
  refine r_aload_n (q := 0) dX10_start_1 rfl rfl ?_
  refine r_iload_n (q := 1) dX10_start_2 rfl rfl ?_
  refine r_cVI (c := 63) (As := [.int a1]) dX10_start_3 mkX10_isInstruction lkX10_128 lay_63 rfl rfl rfl (by decide) rfl (Nat.le_of_ble_eq_true rfl) z00 t ?_
  intro v1 h1 t
  refine r_if_ne (tgt := 13) dX10_start_6 (by decide) (fun q2 => ?_) (fun q2 => ?_)
  · have t := t.1 q2
    refine r_iload_n (q := 2) dX10_start_13 rfl rfl ?_
    refine r_if_ge (tgt := 21) dX10_start_14 (by decide) (fun q3 => ?_) (fun q3 => ?_)
    · have t := t.1 q3
      refine r_aload_n (q := 0) dX10_start_21 rfl rfl ?_
      refine r_getI (c := 63) dX10_start_22 flX10_92 lay_63 rfl ?_
      refine r_iconst (v := (-1 : Int32)) dX10_start_25 rfl ?_
      refine r_icmp_eq (tgt := 33) dX10_start_26 (by decide) (fun q4 => ?_) (fun q4 => ?_)
      · have t := t.1 q4
        refine r_iconst (v := (0 : Int32)) dX10_start_33 rfl ?_
        refine r_cVI (c := 63) (As := [.int (0 : Int32)]) dX10_start_34 mkX10_throwsAs lkX10_147 lay_63 rfl rfl rfl (by decide) rfl (Nat.le_of_ble_eq_true rfl) z00 t ?_
        intro v5 h5 t
        refine r_if_eq (tgt := 42) dX10_start_37 (by decide) (fun q6 => ?_) (fun q6 => ?_)
        · have t := t.1 q6
          refine r_iload_n (q := 2) dX10_start_42 rfl rfl ?_
          refine r_if_le (tgt := 58) dX10_start_43 (by decide) (fun q7 => ?_) (fun q7 => ?_)
          · have t := t.1 q7
            refine r_aload_n (q := 0) dX10_start_58 rfl rfl ?_
            refine r_aload_n (q := 0) dX10_start_59 rfl rfl ?_
            refine r_getR (c := 63) (c2 := 82) dX10_start_60 flX10_64 lay_63 rfl ?_
            refine r_iload_n (q := 1) dX10_start_63 rfl rfl ?_
            obtain ⟨c8, t⟩ := t
            refine r_iald (c := 82) dX10_start_64 lay_82 c8 ?_
            refine r_putI (c := 63) dX10_start_65 flX10_92 lay_63 rfl ?_
            refine r_iconst (v := (0 : Int32)) dX10_start_68 rfl ?_
            exact r_iret dX10_start_69 rfl t
          · have t := t.2 q7
            refine r_aload_n (q := 0) dX10_start_46 rfl rfl ?_
            refine r_aload_n (q := 0) dX10_start_47 rfl rfl ?_
            refine r_getR (c := 63) (c2 := 82) dX10_start_48 flX10_64 lay_63 rfl ?_
            refine r_iload_n (q := 1) dX10_start_51 rfl rfl ?_
            obtain ⟨c9, t⟩ := t
            refine r_iald (c := 82) dX10_start_52 lay_82 c9 ?_
            refine r_iload_n (q := 2) dX10_start_53 rfl rfl ?_
            refine r_cVI (c := 63) (As := [.int (h5.1 82 a1.toNatClampNeg), .int a2]) dX10_start_54 mkX10_goesOn lkX10_288 lay_63 rfl rfl rfl (by decide) rfl (Nat.le_of_ble_eq_true rfl) z00 t ?_
            intro v10 h10 t
            exact r_iret dX10_start_57 rfl t
        · have t := t.2 q6
          refine r_iconst (v := (0 : Int32)) dX10_start_40 rfl ?_
          exact r_iret dX10_start_41 rfl t
      · have t := t.2 q4
        refine r_iconst (v := (3 : Int32)) dX10_start_29 rfl ?_
        refine r_goto (tgt := 34) dX10_start_30 (by decide) ?_
        refine r_cVI (c := 63) (As := [.int (3 : Int32)]) dX10_start_34 mkX10_throwsAs lkX10_147 lay_63 rfl rfl rfl (by decide) rfl (Nat.le_of_ble_eq_true rfl) z00 t ?_
        intro v11 h11 t
        refine r_if_eq (tgt := 42) dX10_start_37 (by decide) (fun q12 => ?_) (fun q12 => ?_)
        · have t := t.1 q12
          refine r_iload_n (q := 2) dX10_start_42 rfl rfl ?_
          refine r_if_le (tgt := 58) dX10_start_43 (by decide) (fun q13 => ?_) (fun q13 => ?_)
          · have t := t.1 q13
            refine r_aload_n (q := 0) dX10_start_58 rfl rfl ?_
            refine r_aload_n (q := 0) dX10_start_59 rfl rfl ?_
            refine r_getR (c := 63) (c2 := 82) dX10_start_60 flX10_64 lay_63 rfl ?_
            refine r_iload_n (q := 1) dX10_start_63 rfl rfl ?_
            obtain ⟨c14, t⟩ := t
            refine r_iald (c := 82) dX10_start_64 lay_82 c14 ?_
            refine r_putI (c := 63) dX10_start_65 flX10_92 lay_63 rfl ?_
            refine r_iconst (v := (0 : Int32)) dX10_start_68 rfl ?_
            exact r_iret dX10_start_69 rfl t
          · have t := t.2 q13
            refine r_aload_n (q := 0) dX10_start_46 rfl rfl ?_
            refine r_aload_n (q := 0) dX10_start_47 rfl rfl ?_
            refine r_getR (c := 63) (c2 := 82) dX10_start_48 flX10_64 lay_63 rfl ?_
            refine r_iload_n (q := 1) dX10_start_51 rfl rfl ?_
            obtain ⟨c15, t⟩ := t
            refine r_iald (c := 82) dX10_start_52 lay_82 c15 ?_
            refine r_iload_n (q := 2) dX10_start_53 rfl rfl ?_
            refine r_cVI (c := 63) (As := [.int (h11.1 82 a1.toNatClampNeg), .int a2]) dX10_start_54 mkX10_goesOn lkX10_288 lay_63 rfl rfl rfl (by decide) rfl (Nat.le_of_ble_eq_true rfl) z00 t ?_
            intro v16 h16 t
            exact r_iret dX10_start_57 rfl t
        · have t := t.2 q12
          refine r_iconst (v := (0 : Int32)) dX10_start_40 rfl ?_
          exact r_iret dX10_start_41 rfl t
    · have t := t.2 q3
      refine r_iconst (v := (2 : Int32)) dX10_start_17 rfl ?_
      refine r_goto (tgt := 34) dX10_start_18 (by decide) ?_
      refine r_cVI (c := 63) (As := [.int (2 : Int32)]) dX10_start_34 mkX10_throwsAs lkX10_147 lay_63 rfl rfl rfl (by decide) rfl (Nat.le_of_ble_eq_true rfl) z00 t ?_
      intro v17 h17 t
      refine r_if_eq (tgt := 42) dX10_start_37 (by decide) (fun q18 => ?_) (fun q18 => ?_)
      · have t := t.1 q18
        refine r_iload_n (q := 2) dX10_start_42 rfl rfl ?_
        refine r_if_le (tgt := 58) dX10_start_43 (by decide) (fun q19 => ?_) (fun q19 => ?_)
        · have t := t.1 q19
          refine r_aload_n (q := 0) dX10_start_58 rfl rfl ?_
          refine r_aload_n (q := 0) dX10_start_59 rfl rfl ?_
          refine r_getR (c := 63) (c2 := 82) dX10_start_60 flX10_64 lay_63 rfl ?_
          refine r_iload_n (q := 1) dX10_start_63 rfl rfl ?_
          obtain ⟨c20, t⟩ := t
          refine r_iald (c := 82) dX10_start_64 lay_82 c20 ?_
          refine r_putI (c := 63) dX10_start_65 flX10_92 lay_63 rfl ?_
          refine r_iconst (v := (0 : Int32)) dX10_start_68 rfl ?_
          exact r_iret dX10_start_69 rfl t
        · have t := t.2 q19
          refine r_aload_n (q := 0) dX10_start_46 rfl rfl ?_
          refine r_aload_n (q := 0) dX10_start_47 rfl rfl ?_
          refine r_getR (c := 63) (c2 := 82) dX10_start_48 flX10_64 lay_63 rfl ?_
          refine r_iload_n (q := 1) dX10_start_51 rfl rfl ?_
          obtain ⟨c21, t⟩ := t
          refine r_iald (c := 82) dX10_start_52 lay_82 c21 ?_
          refine r_iload_n (q := 2) dX10_start_53 rfl rfl ?_
          refine r_cVI (c := 63) (As := [.int (h17.1 82 a1.toNatClampNeg), .int a2]) dX10_start_54 mkX10_goesOn lkX10_288 lay_63 rfl rfl rfl (by decide) rfl (Nat.le_of_ble_eq_true rfl) z00 t ?_
          intro v22 h22 t
          exact r_iret dX10_start_57 rfl t
      · have t := t.2 q18
        refine r_iconst (v := (0 : Int32)) dX10_start_40 rfl ?_
        exact r_iret dX10_start_41 rfl t
  · have t := t.2 q2
    refine r_iconst (v := (1 : Int32)) dX10_start_9 rfl ?_
    refine r_goto (tgt := 34) dX10_start_10 (by decide) ?_
    refine r_cVI (c := 63) (As := [.int (1 : Int32)]) dX10_start_34 mkX10_throwsAs lkX10_147 lay_63 rfl rfl rfl (by decide) rfl (Nat.le_of_ble_eq_true rfl) z00 t ?_
    intro v23 h23 t
    refine r_if_eq (tgt := 42) dX10_start_37 (by decide) (fun q24 => ?_) (fun q24 => ?_)
    · have t := t.1 q24
      refine r_iload_n (q := 2) dX10_start_42 rfl rfl ?_
      refine r_if_le (tgt := 58) dX10_start_43 (by decide) (fun q25 => ?_) (fun q25 => ?_)
      · have t := t.1 q25
        refine r_aload_n (q := 0) dX10_start_58 rfl rfl ?_
        refine r_aload_n (q := 0) dX10_start_59 rfl rfl ?_
        refine r_getR (c := 63) (c2 := 82) dX10_start_60 flX10_64 lay_63 rfl ?_
        refine r_iload_n (q := 1) dX10_start_63 rfl rfl ?_
        obtain ⟨c26, t⟩ := t
        refine r_iald (c := 82) dX10_start_64 lay_82 c26 ?_
        refine r_putI (c := 63) dX10_start_65 flX10_92 lay_63 rfl ?_
        refine r_iconst (v := (0 : Int32)) dX10_start_68 rfl ?_
        exact r_iret dX10_start_69 rfl t
      · have t := t.2 q25
        refine r_aload_n (q := 0) dX10_start_46 rfl rfl ?_
        refine r_aload_n (q := 0) dX10_start_47 rfl rfl ?_
        refine r_getR (c := 63) (c2 := 82) dX10_start_48 flX10_64 lay_63 rfl ?_
        refine r_iload_n (q := 1) dX10_start_51 rfl rfl ?_
        obtain ⟨c27, t⟩ := t
        refine r_iald (c := 82) dX10_start_52 lay_82 c27 ?_
        refine r_iload_n (q := 2) dX10_start_53 rfl rfl ?_
        refine r_cVI (c := 63) (As := [.int (h23.1 82 a1.toNatClampNeg), .int a2]) dX10_start_54 mkX10_goesOn lkX10_288 lay_63 rfl rfl rfl (by decide) rfl (Nat.le_of_ble_eq_true rfl) z00 t ?_
        intro v28 h28 t
        exact r_iret dX10_start_57 rfl t
    · have t := t.2 q24
      refine r_iconst (v := (0 : Int32)) dX10_start_40 rfl ?_
      exact r_iret dX10_start_41 rfl t
theorem dX10_resume_0 : decode cX10_resume 0 = .ok (.aload_n 0, 1) := by decide +kernel
theorem dX10_resume_1 : decode cX10_resume 1 = .ok (.aload_n 0, 1) := by decide +kernel
theorem dX10_resume_2 : decode cX10_resume 2 = .ok (.getfield 92, 3) := by decide +kernel
theorem dX10_resume_5 : decode cX10_resume 5 = .ok (.iconst (-1), 1) := by decide +kernel
theorem dX10_resume_6 : decode cX10_resume 6 = .ok (.if_icmp .ne 7, 3) := by decide +kernel
theorem dX10_resume_9 : decode cX10_resume 9 = .ok (.iconst 1, 1) := by decide +kernel
theorem dX10_resume_10 : decode cX10_resume 10 = .ok (.goto 4, 3) := by decide +kernel
theorem dX10_resume_13 : decode cX10_resume 13 = .ok (.iconst 0, 1) := by decide +kernel
theorem dX10_resume_14 : decode cX10_resume 14 = .ok (.invokevirtual 147, 3) := by decide +kernel
theorem dX10_resume_17 : decode cX10_resume 17 = .ok (.ifCond .eq 5, 3) := by decide +kernel
theorem dX10_resume_20 : decode cX10_resume 20 = .ok (.iconst 0, 1) := by decide +kernel
theorem dX10_resume_21 : decode cX10_resume 21 = .ok (.ireturn, 1) := by decide +kernel
theorem dX10_resume_22 : decode cX10_resume 22 = .ok (.aload_n 0, 1) := by decide +kernel
theorem dX10_resume_23 : decode cX10_resume 23 = .ok (.aload_n 0, 1) := by decide +kernel
theorem dX10_resume_24 : decode cX10_resume 24 = .ok (.getfield 92, 3) := by decide +kernel
theorem dX10_resume_27 : decode cX10_resume 27 = .ok (.ldc_w 293, 3) := by decide +kernel
theorem dX10_resume_30 : decode cX10_resume 30 = .ok (.invokevirtual 288, 3) := by decide +kernel
theorem dX10_resume_33 : decode cX10_resume 33 = .ok (.ireturn, 1) := by decide +kernel
set_option maxRecDepth 20000 in
theorem wp_X10_resume (E : En) (d : Nat) (h : Hp) (P : Int32 → Hp → Prop) (t : (¬ (h.1 63 38) = (-1 : Int32) → (SpI E d MX10_throwsAs [.ref (eA E 63), .int (0 : Int32)] h (fun v2 h2 => (v2 = 0 → (SpI E d MX10_goesOn [.ref (eA E 63), .int (h2.1 63 38), .int (2147483647 : Int32)] h2 (fun v4 h4 => P v4 h4))) ∧ (¬ v2 = 0 → (P (0 : Int32) h2))))) ∧ ((h.1 63 38) = (-1 : Int32) → (SpI E d MX10_throwsAs [.ref (eA E 63), .int (1 : Int32)] h (fun v5 h5 => (v5 = 0 → (SpI E d MX10_goesOn [.ref (eA E 63), .int (h5.1 63 38), .int (2147483647 : Int32)] h5 (fun v7 h7 => P v7 h7))) ∧ (¬ v5 = 0 → (P (0 : Int32) h5)))))) : SpI E (d + 1) MX10_resume [.ref (eA E 63)] h P := by
  refine SpI.of (lv0 := [(0, .ref (eA E 63))]) (by decide) (Nat.le_of_ble_eq_true rfl) rfl (fun g => ?_)
  refine r_aload_n (q := 0) dX10_resume_0 rfl rfl ?_
  refine r_aload_n (q := 0) dX10_resume_1 rfl rfl ?_
  refine r_getI (c := 63) dX10_resume_2 flX10_92 lay_63 rfl ?_
  refine r_iconst (v := (-1 : Int32)) dX10_resume_5 rfl ?_
  refine r_icmp_ne (tgt := 13) dX10_resume_6 (by decide) (fun q1 => ?_) (fun q1 => ?_)
  · have t := t.1 q1
    refine r_iconst (v := (0 : Int32)) dX10_resume_13 rfl ?_
    refine r_cVI (c := 63) (As := [.int (0 : Int32)]) dX10_resume_14 mkX10_throwsAs lkX10_147 lay_63 rfl rfl rfl (by decide) rfl (Nat.le_of_ble_eq_true rfl) z00 t ?_
    intro v2 h2 t
    refine r_if_eq (tgt := 22) dX10_resume_17 (by decide) (fun q3 => ?_) (fun q3 => ?_)
    · have t := t.1 q3
      refine r_aload_n (q := 0) dX10_resume_22 rfl rfl ?_
      refine r_aload_n (q := 0) dX10_resume_23 rfl rfl ?_
      refine r_getI (c := 63) dX10_resume_24 flX10_92 lay_63 rfl ?_
      refine r_ldcw (v := (2147483647 : Int32)) dX10_resume_27 cnX10_293 ?_
      refine r_cVI (c := 63) (As := [.int (h2.1 63 38), .int (2147483647 : Int32)]) dX10_resume_30 mkX10_goesOn lkX10_288 lay_63 rfl rfl rfl (by decide) rfl (Nat.le_of_ble_eq_true rfl) z00 t ?_
      intro v4 h4 t
      exact r_iret dX10_resume_33 rfl t
    · have t := t.2 q3
      refine r_iconst (v := (0 : Int32)) dX10_resume_20 rfl ?_
      exact r_iret dX10_resume_21 rfl t
  · have t := t.2 q1
    refine r_iconst (v := (1 : Int32)) dX10_resume_9 rfl ?_
    refine r_goto (tgt := 14) dX10_resume_10 (by decide) ?_
    refine r_cVI (c := 63) (As := [.int (1 : Int32)]) dX10_resume_14 mkX10_throwsAs lkX10_147 lay_63 rfl rfl rfl (by decide) rfl (Nat.le_of_ble_eq_true rfl) z00 t ?_
    intro v5 h5 t
    refine r_if_eq (tgt := 22) dX10_resume_17 (by decide) (fun q6 => ?_) (fun q6 => ?_)
    · have t := t.1 q6
      refine r_aload_n (q := 0) dX10_resume_22 rfl rfl ?_
      refine r_aload_n (q := 0) dX10_resume_23 rfl rfl ?_
      refine r_getI (c := 63) dX10_resume_24 flX10_92 lay_63 rfl ?_
      refine r_ldcw (v := (2147483647 : Int32)) dX10_resume_27 cnX10_293 ?_
      refine r_cVI (c := 63) (As := [.int (h5.1 63 38), .int (2147483647 : Int32)]) dX10_resume_30 mkX10_goesOn lkX10_288 lay_63 rfl rfl rfl (by decide) rfl (Nat.le_of_ble_eq_true rfl) z00 t ?_
      intro v7 h7 t
      exact r_iret dX10_resume_33 rfl t
    · have t := t.2 q6
      refine r_iconst (v := (0 : Int32)) dX10_resume_20 rfl ?_
      exact r_iret dX10_resume_21 rfl t
theorem dX10_address_0 : decode cX10_address 0 = .ok (.aload_n 0, 1) := by decide +kernel
theorem dX10_address_1 : decode cX10_address 1 = .ok (.iconst 0, 1) := by decide +kernel
theorem dX10_address_2 : decode cX10_address 2 = .ok (.putfield 118, 3) := by decide +kernel
theorem dX10_address_5 : decode cX10_address 5 = .ok (.aload_n 0, 1) := by decide +kernel
theorem dX10_address_6 : decode cX10_address 6 = .ok (.getfield 92, 3) := by decide +kernel
theorem dX10_address_9 : decode cX10_address 9 = .ok (.ireturn, 1) := by decide +kernel
set_option maxRecDepth 20000 in
theorem wp_X10_address (E : En) (d : Nat) (h : Hp) (P : Int32 → Hp → Prop) (t : P (h.1 63 38) (sI h 63 0 (0 : Int32))) : SpI E d MX10_address [.ref (eA E 63)] h P := by
  refine SpI.of (lv0 := [(0, .ref (eA E 63))]) (by decide) (Nat.le_of_ble_eq_true rfl) rfl (fun g => ?_)
  refine r_aload_n (q := 0) dX10_address_0 rfl rfl ?_
  refine r_iconst (v := (0 : Int32)) dX10_address_1 rfl ?_
  refine r_putI (c := 63) dX10_address_2 flX10_118 lay_63 rfl ?_
  refine r_aload_n (q := 0) dX10_address_5 rfl rfl ?_
  refine r_getIv (c := 63) (v := h.1 63 38) dX10_address_6 flX10_92 lay_63 rfl rfl ?_
  exact r_iret dX10_address_9 rfl t
theorem dX10_agrees_0 : decode cX10_agrees 0 = .ok (.aload_n 0, 1) := by decide +kernel
theorem dX10_agrees_1 : decode cX10_agrees 1 = .ok (.aload_n 0, 1) := by decide +kernel
theorem dX10_agrees_2 : decode cX10_agrees 2 = .ok (.iload_n 1, 1) := by decide +kernel
theorem dX10_agrees_3 : decode cX10_agrees 3 = .ok (.invokevirtual 128, 3) := by decide +kernel
theorem dX10_agrees_6 : decode cX10_agrees 6 = .ok (.ifCond .eq 7, 3) := by decide +kernel
theorem dX10_agrees_9 : decode cX10_agrees 9 = .ok (.iconst 0, 1) := by decide +kernel
theorem dX10_agrees_10 : decode cX10_agrees 10 = .ok (.goto 4, 3) := by decide +kernel
theorem dX10_agrees_13 : decode cX10_agrees 13 = .ok (.iconst 1, 1) := by decide +kernel
theorem dX10_agrees_14 : decode cX10_agrees 14 = .ok (.invokevirtual 147, 3) := by decide +kernel
theorem dX10_agrees_17 : decode cX10_agrees 17 = .ok (.ifCond .eq 5, 3) := by decide +kernel
theorem dX10_agrees_20 : decode cX10_agrees 20 = .ok (.iconst 0, 1) := by decide +kernel
theorem dX10_agrees_21 : decode cX10_agrees 21 = .ok (.ireturn, 1) := by decide +kernel
theorem dX10_agrees_22 : decode cX10_agrees 22 = .ok (.aload_n 0, 1) := by decide +kernel
theorem dX10_agrees_23 : decode cX10_agrees 23 = .ok (.getfield 92, 3) := by decide +kernel
theorem dX10_agrees_26 : decode cX10_agrees 26 = .ok (.istore_n 2, 1) := by decide +kernel
theorem dX10_agrees_27 : decode cX10_agrees 27 = .ok (.aload_n 0, 1) := by decide +kernel
theorem dX10_agrees_28 : decode cX10_agrees 28 = .ok (.getfield 80, 3) := by decide +kernel
theorem dX10_agrees_31 : decode cX10_agrees 31 = .ok (.aload_n 0, 1) := by decide +kernel
theorem dX10_agrees_32 : decode cX10_agrees 32 = .ok (.getfield 86, 3) := by decide +kernel
theorem dX10_agrees_35 : decode cX10_agrees 35 = .ok (.invokestatic 275, 3) := by decide +kernel
theorem dX10_agrees_38 : decode cX10_agrees 38 = .ok (.aload_n 0, 1) := by decide +kernel
theorem dX10_agrees_39 : decode cX10_agrees 39 = .ok (.iload_n 1, 1) := by decide +kernel
theorem dX10_agrees_40 : decode cX10_agrees 40 = .ok (.invokevirtual 285, 3) := by decide +kernel
theorem dX10_agrees_43 : decode cX10_agrees 43 = .ok (.aload_n 0, 1) := by decide +kernel
theorem dX10_agrees_44 : decode cX10_agrees 44 = .ok (.getfield 80, 3) := by decide +kernel
theorem dX10_agrees_47 : decode cX10_agrees 47 = .ok (.aload_n 0, 1) := by decide +kernel
theorem dX10_agrees_48 : decode cX10_agrees 48 = .ok (.getfield 89, 3) := by decide +kernel
theorem dX10_agrees_51 : decode cX10_agrees 51 = .ok (.invokestatic 275, 3) := by decide +kernel
theorem dX10_agrees_54 : decode cX10_agrees 54 = .ok (.aload_n 0, 1) := by decide +kernel
theorem dX10_agrees_55 : decode cX10_agrees 55 = .ok (.getfield 86, 3) := by decide +kernel
theorem dX10_agrees_58 : decode cX10_agrees 58 = .ok (.aload_n 0, 1) := by decide +kernel
theorem dX10_agrees_59 : decode cX10_agrees 59 = .ok (.getfield 80, 3) := by decide +kernel
theorem dX10_agrees_62 : decode cX10_agrees 62 = .ok (.invokestatic 275, 3) := by decide +kernel
theorem dX10_agrees_65 : decode cX10_agrees 65 = .ok (.aload_n 0, 1) := by decide +kernel
theorem dX10_agrees_66 : decode cX10_agrees 66 = .ok (.aload_n 0, 1) := by decide +kernel
theorem dX10_agrees_67 : decode cX10_agrees 67 = .ok (.getfield 64, 3) := by decide +kernel
theorem dX10_agrees_70 : decode cX10_agrees 70 = .ok (.iload_n 1, 1) := by decide +kernel
theorem dX10_agrees_71 : decode cX10_agrees 71 = .ok (.iaload, 1) := by decide +kernel
theorem dX10_agrees_72 : decode cX10_agrees 72 = .ok (.ldc_w 293, 3) := by decide +kernel
theorem dX10_agrees_75 : decode cX10_agrees 75 = .ok (.invokevirtual 288, 3) := by decide +kernel
theorem dX10_agrees_78 : decode cX10_agrees 78 = .ok (.istore_n 3, 1) := by decide +kernel
theorem dX10_agrees_79 : decode cX10_agrees 79 = .ok (.iconst 1, 1) := by decide +kernel
theorem dX10_agrees_80 : decode cX10_agrees 80 = .ok (.istore 4, 2) := by decide +kernel
theorem dX10_agrees_82 : decode cX10_agrees 82 = .ok (.iconst 0, 1) := by decide +kernel
theorem dX10_agrees_83 : decode cX10_agrees 83 = .ok (.istore 5, 2) := by decide +kernel
theorem dX10_agrees_85 : decode cX10_agrees 85 = .ok (.iload 5, 2) := by decide +kernel
theorem dX10_agrees_87 : decode cX10_agrees 87 = .ok (.bipush 8, 2) := by decide +kernel
theorem dX10_agrees_89 : decode cX10_agrees 89 = .ok (.if_icmp .ge 38, 3) := by decide +kernel
theorem dX10_agrees_92 : decode cX10_agrees 92 = .ok (.iload 4, 2) := by decide +kernel
theorem dX10_agrees_94 : decode cX10_agrees 94 = .ok (.ifCond .eq 24, 3) := by decide +kernel
theorem dX10_agrees_97 : decode cX10_agrees 97 = .ok (.aload_n 0, 1) := by decide +kernel
theorem dX10_agrees_98 : decode cX10_agrees 98 = .ok (.getfield 80, 3) := by decide +kernel
theorem dX10_agrees_101 : decode cX10_agrees 101 = .ok (.iload 5, 2) := by decide +kernel
theorem dX10_agrees_103 : decode cX10_agrees 103 = .ok (.iaload, 1) := by decide +kernel
theorem dX10_agrees_104 : decode cX10_agrees 104 = .ok (.aload_n 0, 1) := by decide +kernel
theorem dX10_agrees_105 : decode cX10_agrees 105 = .ok (.getfield 89, 3) := by decide +kernel
theorem dX10_agrees_108 : decode cX10_agrees 108 = .ok (.iload 5, 2) := by decide +kernel
theorem dX10_agrees_110 : decode cX10_agrees 110 = .ok (.iaload, 1) := by decide +kernel
theorem dX10_agrees_111 : decode cX10_agrees 111 = .ok (.if_icmp .ne 7, 3) := by decide +kernel
theorem dX10_agrees_114 : decode cX10_agrees 114 = .ok (.iconst 1, 1) := by decide +kernel
theorem dX10_agrees_115 : decode cX10_agrees 115 = .ok (.goto 4, 3) := by decide +kernel
theorem dX10_agrees_118 : decode cX10_agrees 118 = .ok (.iconst 0, 1) := by decide +kernel
theorem dX10_agrees_119 : decode cX10_agrees 119 = .ok (.istore 4, 2) := by decide +kernel
theorem dX10_agrees_121 : decode cX10_agrees 121 = .ok (.iinc 5 1, 3) := by decide +kernel
theorem dX10_agrees_124 : decode cX10_agrees 124 = .ok (.goto (-39), 3) := by decide +kernel
theorem dX10_agrees_127 : decode cX10_agrees 127 = .ok (.aload_n 0, 1) := by decide +kernel
theorem dX10_agrees_128 : decode cX10_agrees 128 = .ok (.getfield 86, 3) := by decide +kernel
theorem dX10_agrees_131 : decode cX10_agrees 131 = .ok (.aload_n 0, 1) := by decide +kernel
theorem dX10_agrees_132 : decode cX10_agrees 132 = .ok (.getfield 80, 3) := by decide +kernel
theorem dX10_agrees_135 : decode cX10_agrees 135 = .ok (.invokestatic 275, 3) := by decide +kernel
theorem dX10_agrees_138 : decode cX10_agrees 138 = .ok (.aload_n 0, 1) := by decide +kernel
theorem dX10_agrees_139 : decode cX10_agrees 139 = .ok (.iload_n 2, 1) := by decide +kernel
theorem dX10_agrees_140 : decode cX10_agrees 140 = .ok (.putfield 92, 3) := by decide +kernel
theorem dX10_agrees_143 : decode cX10_agrees 143 = .ok (.iload 4, 2) := by decide +kernel
theorem dX10_agrees_145 : decode cX10_agrees 145 = .ok (.ireturn, 1) := by decide +kernel
abbrev VX10_agrees_85 (E : En) (d : Nat) (g : Ga) (P : Int32 → Hp → Prop) (x1 : Int32) (x2 : Int32) (x3 : Int32) (x4 : Int32) (x5 : Int32) (h : Hp) : Prop := V E MX10_agrees (RM (d + 1) 0) g (QQ E g (QI E P) 0 0) 0 0 h 85 [(0, .ref (eA E 63)), (1, .int x1), (2, .int x2), (3, .int x3), (4, .int x4), (5, .int x5)] []
set_option maxRecDepth 20000 in
theorem wp_X10_agrees (E : En) (d : Nat) (a1 : Int32) (h : Hp) (P : Int32 → Hp → Prop) (t : ∀ g : Ga, SpI E d MX10_isInstruction [.ref (eA E 63), .int a1] h (fun v1 h1 => (v1 = 0 → (SpI E d MX10_throwsAs [.ref (eA E 63), .int (1 : Int32)] h1 (fun v3 h3 => (v3 = 0 → (SpV E d MX10_copies [.ref (eA E 87), .ref (eA E 89)] h3 (fun h5 => SpV E d MX10_doesSource [.ref (eA E 63), .int a1] h5 (fun h6 => SpV E d MX10_copies [.ref (eA E 87), .ref (eA E 90)] h6 (fun h7 => SpV E d MX10_copies [.ref (eA E 89), .ref (eA E 87)] h7 (fun h8 => vp_in a1 8 ∧ (SpI E d MX10_goesOn [.ref (eA E 63), .int (h8.1 82 a1.toNatClampNeg), .int (2147483647 : Int32)] h8 (fun v10 h10 => VX10_agrees_85 E d g P a1 (h3.1 63 38) v10 (1 : Int32) (0 : Int32) h10)))))))) ∧ (¬ v3 = 0 → (P (0 : Int32) h3))))) ∧ (¬ v1 = 0 → (SpI E d MX10_throwsAs [.ref (eA E 63), .int (0 : Int32)] h1 (fun v11 h11 => (v11 = 0 → (SpV E d MX10_copies [.ref (eA E 87), .ref (eA E 89)] h11 (fun h13 => SpV E d MX10_doesSource [.ref (eA E 63), .int a1] h13 (fun h14 => SpV E d MX10_copies [.ref (eA E 87), .ref (eA E 90)] h14 (fun h15 => SpV E d MX10_copies [.ref (eA E 89), .ref (eA E 87)] h15 (fun h16 => vp_in a1 8 ∧ (SpI E d MX10_goesOn [.ref (eA E 63), .int (h16.1 82 a1.toNatClampNeg), .int (2147483647 : Int32)] h16 (fun v18 h18 => VX10_agrees_85 E d g P a1 (h11.1 63 38) v18 (1 : Int32) (0 : Int32) h18)))))))) ∧ (¬ v11 = 0 → (P (0 : Int32) h11))))))) : SpI E (d + 1) MX10_agrees [.ref (eA E 63), .int a1] h P := by
  refine SpI.of (lv0 := [(0, .ref (eA E 63)), (1, .int a1)]) (by decide) (Nat.le_of_ble_eq_true rfl) rfl (fun g => ?_)
  have t := t g
  refine r_aload_n (q := 0) dX10_agrees_0 rfl rfl ?_
  refine r_aload_n (q := 0) dX10_agrees_1 rfl rfl ?_
  refine r_iload_n (q := 1) dX10_agrees_2 rfl rfl ?_
  refine r_cVI (c := 63) (As := [.int a1]) dX10_agrees_3 mkX10_isInstruction lkX10_128 lay_63 rfl rfl rfl (by decide) rfl (Nat.le_of_ble_eq_true rfl) z00 t ?_
  intro v1 h1 t
  refine r_if_eq (tgt := 13) dX10_agrees_6 (by decide) (fun q2 => ?_) (fun q2 => ?_)
  · have t := t.1 q2
    refine r_iconst (v := (1 : Int32)) dX10_agrees_13 rfl ?_
    refine r_cVI (c := 63) (As := [.int (1 : Int32)]) dX10_agrees_14 mkX10_throwsAs lkX10_147 lay_63 rfl rfl rfl (by decide) rfl (Nat.le_of_ble_eq_true rfl) z00 t ?_
    intro v3 h3 t
    refine r_if_eq (tgt := 22) dX10_agrees_17 (by decide) (fun q4 => ?_) (fun q4 => ?_)
    · have t := t.1 q4
      refine r_aload_n (q := 0) dX10_agrees_22 rfl rfl ?_
      refine r_getI (c := 63) dX10_agrees_23 flX10_92 lay_63 rfl ?_
      refine r_istore_n (lv' := [(2, .int (h3.1 63 38)), (0, .ref (eA E 63)), (1, .int a1)]) dX10_agrees_26 rfl (by decide) rfl ?_
      refine r_aload_n (q := 1) dX10_agrees_27 rfl rfl ?_
      refine r_getR (c := 63) (c2 := 87) dX10_agrees_28 flX10_80 lay_63 rfl ?_
      refine r_aload_n (q := 1) dX10_agrees_31 rfl rfl ?_
      refine r_getR (c := 63) (c2 := 89) dX10_agrees_32 flX10_86 lay_63 rfl ?_
      refine r_cSV (As := [.ref (eA E 87), .ref (eA E 89)]) dX10_agrees_35 mkX10_copies lkX10_275 rfl (by decide) rfl (Nat.le_of_ble_eq_true rfl) z00 t ?_
      intro h5 t
      refine r_aload_n (q := 1) dX10_agrees_38 rfl rfl ?_
      refine r_iload_n (q := 2) dX10_agrees_39 rfl rfl ?_
      refine r_cVV (c := 63) (As := [.int a1]) dX10_agrees_40 mkX10_doesSource lkX10_285 lay_63 rfl rfl rfl (by decide) rfl (Nat.le_of_ble_eq_true rfl) z00 t ?_
      intro h6 t
      refine r_aload_n (q := 1) dX10_agrees_43 rfl rfl ?_
      refine r_getR (c := 63) (c2 := 87) dX10_agrees_44 flX10_80 lay_63 rfl ?_
      refine r_aload_n (q := 1) dX10_agrees_47 rfl rfl ?_
      refine r_getR (c := 63) (c2 := 90) dX10_agrees_48 flX10_89 lay_63 rfl ?_
      refine r_cSV (As := [.ref (eA E 87), .ref (eA E 90)]) dX10_agrees_51 mkX10_copies lkX10_275 rfl (by decide) rfl (Nat.le_of_ble_eq_true rfl) z00 t ?_
      intro h7 t
      refine r_aload_n (q := 1) dX10_agrees_54 rfl rfl ?_
      refine r_getR (c := 63) (c2 := 89) dX10_agrees_55 flX10_86 lay_63 rfl ?_
      refine r_aload_n (q := 1) dX10_agrees_58 rfl rfl ?_
      refine r_getR (c := 63) (c2 := 87) dX10_agrees_59 flX10_80 lay_63 rfl ?_
      refine r_cSV (As := [.ref (eA E 89), .ref (eA E 87)]) dX10_agrees_62 mkX10_copies lkX10_275 rfl (by decide) rfl (Nat.le_of_ble_eq_true rfl) z00 t ?_
      intro h8 t
      refine r_aload_n (q := 1) dX10_agrees_65 rfl rfl ?_
      refine r_aload_n (q := 1) dX10_agrees_66 rfl rfl ?_
      refine r_getR (c := 63) (c2 := 82) dX10_agrees_67 flX10_64 lay_63 rfl ?_
      refine r_iload_n (q := 2) dX10_agrees_70 rfl rfl ?_
      obtain ⟨c9, t⟩ := t
      refine r_iald (c := 82) dX10_agrees_71 lay_82 c9 ?_
      refine r_ldcw (v := (2147483647 : Int32)) dX10_agrees_72 cnX10_293 ?_
      refine r_cVI (c := 63) (As := [.int (h8.1 82 a1.toNatClampNeg), .int (2147483647 : Int32)]) dX10_agrees_75 mkX10_goesOn lkX10_288 lay_63 rfl rfl rfl (by decide) rfl (Nat.le_of_ble_eq_true rfl) z00 t ?_
      intro v10 h10 t
      refine r_istore_n (lv' := [(3, .int v10), (2, .int (h3.1 63 38)), (0, .ref (eA E 63)), (1, .int a1)]) dX10_agrees_78 rfl (by decide) rfl ?_
      refine r_iconst (v := (1 : Int32)) dX10_agrees_79 rfl ?_
      refine r_istore (lv' := [(4, .int (1 : Int32)), (3, .int v10), (2, .int (h3.1 63 38)), (0, .ref (eA E 63)), (1, .int a1)]) dX10_agrees_80 (by decide) rfl ?_
      refine r_iconst (v := (0 : Int32)) dX10_agrees_82 rfl ?_
      refine r_istore (lv' := [(5, .int (0 : Int32)), (4, .int (1 : Int32)), (3, .int v10), (2, .int (h3.1 63 38)), (0, .ref (eA E 63)), (1, .int a1)]) dX10_agrees_83 (by decide) rfl ?_
      refine r_sub [4, 5, 3, 2, 1, 0] rfl ?_
      exact t
    · have t := t.2 q4
      refine r_iconst (v := (0 : Int32)) dX10_agrees_20 rfl ?_
      exact r_zret dX10_agrees_21 rfl (Or.inl rfl) t
  · have t := t.2 q2
    refine r_iconst (v := (0 : Int32)) dX10_agrees_9 rfl ?_
    refine r_goto (tgt := 14) dX10_agrees_10 (by decide) ?_
    refine r_cVI (c := 63) (As := [.int (0 : Int32)]) dX10_agrees_14 mkX10_throwsAs lkX10_147 lay_63 rfl rfl rfl (by decide) rfl (Nat.le_of_ble_eq_true rfl) z00 t ?_
    intro v11 h11 t
    refine r_if_eq (tgt := 22) dX10_agrees_17 (by decide) (fun q12 => ?_) (fun q12 => ?_)
    · have t := t.1 q12
      refine r_aload_n (q := 0) dX10_agrees_22 rfl rfl ?_
      refine r_getI (c := 63) dX10_agrees_23 flX10_92 lay_63 rfl ?_
      refine r_istore_n (lv' := [(2, .int (h11.1 63 38)), (0, .ref (eA E 63)), (1, .int a1)]) dX10_agrees_26 rfl (by decide) rfl ?_
      refine r_aload_n (q := 1) dX10_agrees_27 rfl rfl ?_
      refine r_getR (c := 63) (c2 := 87) dX10_agrees_28 flX10_80 lay_63 rfl ?_
      refine r_aload_n (q := 1) dX10_agrees_31 rfl rfl ?_
      refine r_getR (c := 63) (c2 := 89) dX10_agrees_32 flX10_86 lay_63 rfl ?_
      refine r_cSV (As := [.ref (eA E 87), .ref (eA E 89)]) dX10_agrees_35 mkX10_copies lkX10_275 rfl (by decide) rfl (Nat.le_of_ble_eq_true rfl) z00 t ?_
      intro h13 t
      refine r_aload_n (q := 1) dX10_agrees_38 rfl rfl ?_
      refine r_iload_n (q := 2) dX10_agrees_39 rfl rfl ?_
      refine r_cVV (c := 63) (As := [.int a1]) dX10_agrees_40 mkX10_doesSource lkX10_285 lay_63 rfl rfl rfl (by decide) rfl (Nat.le_of_ble_eq_true rfl) z00 t ?_
      intro h14 t
      refine r_aload_n (q := 1) dX10_agrees_43 rfl rfl ?_
      refine r_getR (c := 63) (c2 := 87) dX10_agrees_44 flX10_80 lay_63 rfl ?_
      refine r_aload_n (q := 1) dX10_agrees_47 rfl rfl ?_
      refine r_getR (c := 63) (c2 := 90) dX10_agrees_48 flX10_89 lay_63 rfl ?_
      refine r_cSV (As := [.ref (eA E 87), .ref (eA E 90)]) dX10_agrees_51 mkX10_copies lkX10_275 rfl (by decide) rfl (Nat.le_of_ble_eq_true rfl) z00 t ?_
      intro h15 t
      refine r_aload_n (q := 1) dX10_agrees_54 rfl rfl ?_
      refine r_getR (c := 63) (c2 := 89) dX10_agrees_55 flX10_86 lay_63 rfl ?_
      refine r_aload_n (q := 1) dX10_agrees_58 rfl rfl ?_
      refine r_getR (c := 63) (c2 := 87) dX10_agrees_59 flX10_80 lay_63 rfl ?_
      refine r_cSV (As := [.ref (eA E 89), .ref (eA E 87)]) dX10_agrees_62 mkX10_copies lkX10_275 rfl (by decide) rfl (Nat.le_of_ble_eq_true rfl) z00 t ?_
      intro h16 t
      refine r_aload_n (q := 1) dX10_agrees_65 rfl rfl ?_
      refine r_aload_n (q := 1) dX10_agrees_66 rfl rfl ?_
      refine r_getR (c := 63) (c2 := 82) dX10_agrees_67 flX10_64 lay_63 rfl ?_
      refine r_iload_n (q := 2) dX10_agrees_70 rfl rfl ?_
      obtain ⟨c17, t⟩ := t
      refine r_iald (c := 82) dX10_agrees_71 lay_82 c17 ?_
      refine r_ldcw (v := (2147483647 : Int32)) dX10_agrees_72 cnX10_293 ?_
      refine r_cVI (c := 63) (As := [.int (h16.1 82 a1.toNatClampNeg), .int (2147483647 : Int32)]) dX10_agrees_75 mkX10_goesOn lkX10_288 lay_63 rfl rfl rfl (by decide) rfl (Nat.le_of_ble_eq_true rfl) z00 t ?_
      intro v18 h18 t
      refine r_istore_n (lv' := [(3, .int v18), (2, .int (h11.1 63 38)), (0, .ref (eA E 63)), (1, .int a1)]) dX10_agrees_78 rfl (by decide) rfl ?_
      refine r_iconst (v := (1 : Int32)) dX10_agrees_79 rfl ?_
      refine r_istore (lv' := [(4, .int (1 : Int32)), (3, .int v18), (2, .int (h11.1 63 38)), (0, .ref (eA E 63)), (1, .int a1)]) dX10_agrees_80 (by decide) rfl ?_
      refine r_iconst (v := (0 : Int32)) dX10_agrees_82 rfl ?_
      refine r_istore (lv' := [(5, .int (0 : Int32)), (4, .int (1 : Int32)), (3, .int v18), (2, .int (h11.1 63 38)), (0, .ref (eA E 63)), (1, .int a1)]) dX10_agrees_83 (by decide) rfl ?_
      refine r_sub [4, 5, 3, 2, 1, 0] rfl ?_
      exact t
    · have t := t.2 q12
      refine r_iconst (v := (0 : Int32)) dX10_agrees_20 rfl ?_
      exact r_zret dX10_agrees_21 rfl (Or.inl rfl) t
set_option maxRecDepth 20000 in
theorem sg_X10_agrees_85 (E : En) (d : Nat) (g : Ga) (x1 : Int32) (x2 : Int32) (x3 : Int32) (x4 : Int32) (x5 : Int32) (h : Hp) (P : Int32 → Hp → Prop) (t : ((8 : Int32) ≤ x5 → (SpV E d MX10_copies [.ref (eA E 89), .ref (eA E 87)] h (fun h2 => (x4 = 0 ∨ x4 = 1) ∧ P x4 (sI h2 63 38 x2)))) ∧ (¬ (8 : Int32) ≤ x5 → ((x4 = 0 → (VX10_agrees_85 E d g P x1 x2 x3 (0 : Int32) (x5 + (1 : Int32)) h)) ∧ (¬ x4 = 0 → (vp_in x5 8 ∧ (vp_in x5 8 ∧ ((¬ (h.1 87 x5.toNatClampNeg) = (h.1 90 x5.toNatClampNeg) → (VX10_agrees_85 E d g P x1 x2 x3 (0 : Int32) (x5 + (1 : Int32)) h)) ∧ ((h.1 87 x5.toNatClampNeg) = (h.1 90 x5.toNatClampNeg) → (VX10_agrees_85 E d g P x1 x2 x3 (1 : Int32) (x5 + (1 : Int32)) h))))))))) : VX10_agrees_85 E d g P x1 x2 x3 x4 x5 h := by
  refine r_iload (q := 5) dX10_agrees_85 rfl ?_
  refine r_bipush (v := (8 : Int32)) dX10_agrees_87 rfl ?_
  refine r_icmp_ge (tgt := 127) dX10_agrees_89 (by decide) (fun q1 => ?_) (fun q1 => ?_)
  · have t := t.1 q1
    refine r_aload_n (q := 0) dX10_agrees_127 rfl rfl ?_
    refine r_getR (c := 63) (c2 := 89) dX10_agrees_128 flX10_86 lay_63 rfl ?_
    refine r_aload_n (q := 0) dX10_agrees_131 rfl rfl ?_
    refine r_getR (c := 63) (c2 := 87) dX10_agrees_132 flX10_80 lay_63 rfl ?_
    refine r_cSV (As := [.ref (eA E 89), .ref (eA E 87)]) dX10_agrees_135 mkX10_copies lkX10_275 rfl (by decide) rfl (Nat.le_of_ble_eq_true rfl) z00 t ?_
    intro h2 t
    refine r_aload_n (q := 0) dX10_agrees_138 rfl rfl ?_
    refine r_iload_n (q := 2) dX10_agrees_139 rfl rfl ?_
    refine r_putI (c := 63) dX10_agrees_140 flX10_92 lay_63 rfl ?_
    refine r_iload (q := 4) dX10_agrees_143 rfl ?_
    exact r_zret dX10_agrees_145 rfl t.1 t.2
  · have t := t.2 q1
    refine r_iload (q := 4) dX10_agrees_92 rfl ?_
    refine r_if_eq (tgt := 118) dX10_agrees_94 (by decide) (fun q3 => ?_) (fun q3 => ?_)
    · have t := t.1 q3
      refine r_iconst (v := (0 : Int32)) dX10_agrees_118 rfl ?_
      refine r_istore (lv' := [(4, .int (0 : Int32)), (0, .ref (eA E 63)), (1, .int x1), (2, .int x2), (3, .int x3), (5, .int x5)]) dX10_agrees_119 (by decide) rfl ?_
      refine r_iinc (k := 5) (v := x5 + (1 : Int32)) (lv' := [(5, .int (x5 + (1 : Int32))), (4, .int (0 : Int32)), (0, .ref (eA E 63)), (1, .int x1), (2, .int x2), (3, .int x3)]) dX10_agrees_121 rfl rfl (by decide) rfl ?_
      refine r_goto (tgt := 85) dX10_agrees_124 (by decide) ?_
      refine r_sub [2, 3, 4, 5, 1, 0] rfl ?_
      exact t
    · have t := t.2 q3
      refine r_aload_n (q := 0) dX10_agrees_97 rfl rfl ?_
      refine r_getR (c := 63) (c2 := 87) dX10_agrees_98 flX10_80 lay_63 rfl ?_
      refine r_iload (q := 5) dX10_agrees_101 rfl ?_
      obtain ⟨c4, t⟩ := t
      refine r_iald (c := 87) dX10_agrees_103 lay_87 c4 ?_
      refine r_aload_n (q := 0) dX10_agrees_104 rfl rfl ?_
      refine r_getR (c := 63) (c2 := 90) dX10_agrees_105 flX10_89 lay_63 rfl ?_
      refine r_iload (q := 5) dX10_agrees_108 rfl ?_
      obtain ⟨c5, t⟩ := t
      refine r_iald (c := 90) dX10_agrees_110 lay_90 c5 ?_
      refine r_icmp_ne (tgt := 118) dX10_agrees_111 (by decide) (fun q6 => ?_) (fun q6 => ?_)
      · have t := t.1 q6
        refine r_iconst (v := (0 : Int32)) dX10_agrees_118 rfl ?_
        refine r_istore (lv' := [(4, .int (0 : Int32)), (0, .ref (eA E 63)), (1, .int x1), (2, .int x2), (3, .int x3), (5, .int x5)]) dX10_agrees_119 (by decide) rfl ?_
        refine r_iinc (k := 5) (v := x5 + (1 : Int32)) (lv' := [(5, .int (x5 + (1 : Int32))), (4, .int (0 : Int32)), (0, .ref (eA E 63)), (1, .int x1), (2, .int x2), (3, .int x3)]) dX10_agrees_121 rfl rfl (by decide) rfl ?_
        refine r_goto (tgt := 85) dX10_agrees_124 (by decide) ?_
        refine r_sub [2, 3, 4, 5, 1, 0] rfl ?_
        exact t
      · have t := t.2 q6
        refine r_iconst (v := (1 : Int32)) dX10_agrees_114 rfl ?_
        refine r_goto (tgt := 119) dX10_agrees_115 (by decide) ?_
        refine r_istore (lv' := [(4, .int (1 : Int32)), (0, .ref (eA E 63)), (1, .int x1), (2, .int x2), (3, .int x3), (5, .int x5)]) dX10_agrees_119 (by decide) rfl ?_
        refine r_iinc (k := 5) (v := x5 + (1 : Int32)) (lv' := [(5, .int (x5 + (1 : Int32))), (4, .int (1 : Int32)), (0, .ref (eA E 63)), (1, .int x1), (2, .int x2), (3, .int x3)]) dX10_agrees_121 rfl rfl (by decide) rfl ?_
        refine r_goto (tgt := 85) dX10_agrees_124 (by decide) ?_
        refine r_sub [2, 3, 4, 5, 1, 0] rfl ?_
        exact t
theorem dX10_puts_0 : decode cX10_puts 0 = .ok (.bipush 24, 2) := by decide +kernel
theorem dX10_puts_2 : decode cX10_puts 2 = .ok (.istore_n 2, 1) := by decide +kernel
theorem dX10_puts_3 : decode cX10_puts 3 = .ok (.iload_n 2, 1) := by decide +kernel
theorem dX10_puts_4 : decode cX10_puts 4 = .ok (.ifCond .lt 32, 3) := by decide +kernel
theorem dX10_puts_7 : decode cX10_puts 7 = .ok (.aload_n 0, 1) := by decide +kernel
theorem dX10_puts_8 : decode cX10_puts 8 = .ok (.getfield 96, 3) := by decide +kernel
theorem dX10_puts_11 : decode cX10_puts 11 = .ok (.aload_n 0, 1) := by decide +kernel
theorem dX10_puts_12 : decode cX10_puts 12 = .ok (.getfield 294, 3) := by decide +kernel
theorem dX10_puts_15 : decode cX10_puts 15 = .ok (.iload_n 1, 1) := by decide +kernel
theorem dX10_puts_16 : decode cX10_puts 16 = .ok (.iload_n 2, 1) := by decide +kernel
theorem dX10_puts_17 : decode cX10_puts 17 = .ok (.ishr, 1) := by decide +kernel
theorem dX10_puts_18 : decode cX10_puts 18 = .ok (.i2b, 1) := by decide +kernel
theorem dX10_puts_19 : decode cX10_puts 19 = .ok (.bastore, 1) := by decide +kernel
theorem dX10_puts_20 : decode cX10_puts 20 = .ok (.aload_n 0, 1) := by decide +kernel
theorem dX10_puts_21 : decode cX10_puts 21 = .ok (.dup, 1) := by decide +kernel
theorem dX10_puts_22 : decode cX10_puts 22 = .ok (.getfield 294, 3) := by decide +kernel
theorem dX10_puts_25 : decode cX10_puts 25 = .ok (.iconst 1, 1) := by decide +kernel
theorem dX10_puts_26 : decode cX10_puts 26 = .ok (.iadd, 1) := by decide +kernel
theorem dX10_puts_27 : decode cX10_puts 27 = .ok (.putfield 294, 3) := by decide +kernel
theorem dX10_puts_30 : decode cX10_puts 30 = .ok (.iinc 2 (-8), 3) := by decide +kernel
theorem dX10_puts_33 : decode cX10_puts 33 = .ok (.goto (-30), 3) := by decide +kernel
theorem dX10_puts_36 : decode cX10_puts 36 = .ok (.return_, 1) := by decide +kernel
abbrev VX10_puts_3 (E : En) (d : Nat) (g : Ga) (P : Hp → Prop) (x1 : Int32) (x2 : Int32) (h : Hp) : Prop := V E MX10_puts (RM d 0) g (QQ E g (QV E P) 0 0) 0 0 h 3 [(0, .ref (eA E 63)), (1, .int x1), (2, .int x2)] []
set_option maxRecDepth 20000 in
theorem wp_X10_puts (E : En) (d : Nat) (a1 : Int32) (h : Hp) (P : Hp → Prop) (t : ∀ g : Ga, VX10_puts_3 E d g P a1 (24 : Int32) h) : SpV E d MX10_puts [.ref (eA E 63), .int a1] h P := by
  refine SpV.of (lv0 := [(0, .ref (eA E 63)), (1, .int a1)]) (by decide) (Nat.le_of_ble_eq_true rfl) rfl (fun g => ?_)
  have t := t g
  refine r_bipush (v := (24 : Int32)) dX10_puts_0 rfl ?_
  refine r_istore_n (lv' := [(2, .int (24 : Int32)), (0, .ref (eA E 63)), (1, .int a1)]) dX10_puts_2 rfl (by decide) rfl ?_
  refine r_sub [1, 2, 0] rfl ?_
  exact t
set_option maxRecDepth 20000 in
theorem sg_X10_puts_3 (E : En) (d : Nat) (g : Ga) (x1 : Int32) (x2 : Int32) (h : Hp) (P : Hp → Prop) (t : (x2 < 0 → (P h)) ∧ (¬ x2 < 0 → (vp_in (h.1 63 41) 1200 ∧ (VX10_puts_3 E d g P x1 (x2 + (-8 : Int32)) (sI (sI h 91 ((h.1 63 41).toNatClampNeg) (vp_nar .byte ((x1 >>> (x2 &&& 31)).toInt8.toInt32))) 63 41 ((h.1 63 41) + (1 : Int32))))))) : VX10_puts_3 E d g P x1 x2 h := by
  refine r_iload_n (q := 2) dX10_puts_3 rfl rfl ?_
  refine r_if_lt (tgt := 36) dX10_puts_4 (by decide) (fun q1 => ?_) (fun q1 => ?_)
  · have t := t.1 q1
    exact r_vret dX10_puts_36 rfl t
  · have t := t.2 q1
    refine r_aload_n (q := 0) dX10_puts_7 rfl rfl ?_
    refine r_getR (c := 63) (c2 := 91) dX10_puts_8 flX10_96 lay_63 rfl ?_
    refine r_aload_n (q := 0) dX10_puts_11 rfl rfl ?_
    refine r_getI (c := 63) dX10_puts_12 flX10_294 lay_63 rfl ?_
    refine r_iload_n (q := 1) dX10_puts_15 rfl rfl ?_
    refine r_iload_n (q := 2) dX10_puts_16 rfl rfl ?_
    refine r_ishr dX10_puts_17 ?_
    refine r_i2b dX10_puts_18 ?_
    obtain ⟨c2, t⟩ := t
    refine r_bast (c := 91) dX10_puts_19 lay_91 c2 ?_
    refine r_aload_n (q := 0) dX10_puts_20 rfl rfl ?_
    refine r_dup dX10_puts_21 rfl ?_
    refine r_getIv (c := 63) (v := h.1 63 41) dX10_puts_22 flX10_294 lay_63 rfl rfl ?_
    refine r_iconst (v := (1 : Int32)) dX10_puts_25 rfl ?_
    refine r_iadd dX10_puts_26 ?_
    refine r_putI (c := 63) dX10_puts_27 flX10_294 lay_63 rfl ?_
    refine r_iinc (k := 2) (v := x2 + (-8 : Int32)) (lv' := [(2, .int (x2 + (-8 : Int32))), (0, .ref (eA E 63)), (1, .int x1)]) dX10_puts_30 rfl rfl (by decide) rfl ?_
    refine r_goto (tgt := 3) dX10_puts_33 (by decide) ?_
    refine r_sub [1, 2, 0] rfl ?_
    exact t
theorem dX10_append_0 : decode cX10_append 0 = .ok (.aload_n 0, 1) := by decide +kernel
theorem dX10_append_1 : decode cX10_append 1 = .ok (.iconst 0, 1) := by decide +kernel
theorem dX10_append_2 : decode cX10_append 2 = .ok (.putfield 118, 3) := by decide +kernel
theorem dX10_append_5 : decode cX10_append 5 = .ok (.aload_n 0, 1) := by decide +kernel
theorem dX10_append_6 : decode cX10_append 6 = .ok (.getfield 294, 3) := by decide +kernel
theorem dX10_append_9 : decode cX10_append 9 = .ok (.bipush 20, 2) := by decide +kernel
theorem dX10_append_11 : decode cX10_append 11 = .ok (.iadd, 1) := by decide +kernel
theorem dX10_append_12 : decode cX10_append 12 = .ok (.sipush 1200, 3) := by decide +kernel
theorem dX10_append_15 : decode cX10_append 15 = .ok (.if_icmp .le 5, 3) := by decide +kernel
theorem dX10_append_18 : decode cX10_append 18 = .ok (.iconst (-1), 1) := by decide +kernel
theorem dX10_append_19 : decode cX10_append 19 = .ok (.ireturn, 1) := by decide +kernel
theorem dX10_append_20 : decode cX10_append 20 = .ok (.aload_n 0, 1) := by decide +kernel
theorem dX10_append_21 : decode cX10_append 21 = .ok (.iload_n 1, 1) := by decide +kernel
theorem dX10_append_22 : decode cX10_append 22 = .ok (.invokevirtual 297, 3) := by decide +kernel
theorem dX10_append_25 : decode cX10_append 25 = .ok (.aload_n 0, 1) := by decide +kernel
theorem dX10_append_26 : decode cX10_append 26 = .ok (.iload_n 2, 1) := by decide +kernel
theorem dX10_append_27 : decode cX10_append 27 = .ok (.invokevirtual 297, 3) := by decide +kernel
theorem dX10_append_30 : decode cX10_append 30 = .ok (.aload_n 0, 1) := by decide +kernel
theorem dX10_append_31 : decode cX10_append 31 = .ok (.iload_n 3, 1) := by decide +kernel
theorem dX10_append_32 : decode cX10_append 32 = .ok (.invokevirtual 297, 3) := by decide +kernel
theorem dX10_append_35 : decode cX10_append 35 = .ok (.aload_n 0, 1) := by decide +kernel
theorem dX10_append_36 : decode cX10_append 36 = .ok (.iload 4, 2) := by decide +kernel
theorem dX10_append_38 : decode cX10_append 38 = .ok (.invokevirtual 297, 3) := by decide +kernel
theorem dX10_append_41 : decode cX10_append 41 = .ok (.aload_n 0, 1) := by decide +kernel
theorem dX10_append_42 : decode cX10_append 42 = .ok (.iload 5, 2) := by decide +kernel
theorem dX10_append_44 : decode cX10_append 44 = .ok (.invokevirtual 297, 3) := by decide +kernel
theorem dX10_append_47 : decode cX10_append 47 = .ok (.aload_n 0, 1) := by decide +kernel
theorem dX10_append_48 : decode cX10_append 48 = .ok (.getfield 294, 3) := by decide +kernel
theorem dX10_append_51 : decode cX10_append 51 = .ok (.ireturn, 1) := by decide +kernel
set_option maxRecDepth 20000 in
theorem wp_X10_append (E : En) (d : Nat) (a1 : Int32) (a2 : Int32) (a3 : Int32) (a4 : Int32) (a5 : Int32) (h : Hp) (P : Int32 → Hp → Prop) (t : (((h.1 63 41) + (20 : Int32)) ≤ (1200 : Int32) → (SpV E d MX10_puts [.ref (eA E 63), .int a1] (sI h 63 0 (0 : Int32)) (fun h2 => SpV E d MX10_puts [.ref (eA E 63), .int a2] h2 (fun h3 => SpV E d MX10_puts [.ref (eA E 63), .int a3] h3 (fun h4 => SpV E d MX10_puts [.ref (eA E 63), .int a4] h4 (fun h5 => SpV E d MX10_puts [.ref (eA E 63), .int a5] h5 (fun h6 => P (h6.1 63 41) h6))))))) ∧ (¬ ((h.1 63 41) + (20 : Int32)) ≤ (1200 : Int32) → (P (-1 : Int32) (sI h 63 0 (0 : Int32))))) : SpI E (d + 1) MX10_append [.ref (eA E 63), .int a1, .int a2, .int a3, .int a4, .int a5] h P := by
  refine SpI.of (lv0 := [(0, .ref (eA E 63)), (1, .int a1), (2, .int a2), (3, .int a3), (4, .int a4), (5, .int a5)]) (by decide) (Nat.le_of_ble_eq_true rfl) rfl (fun g => ?_)
  refine r_aload_n (q := 0) dX10_append_0 rfl rfl ?_
  refine r_iconst (v := (0 : Int32)) dX10_append_1 rfl ?_
  refine r_putI (c := 63) dX10_append_2 flX10_118 lay_63 rfl ?_
  refine r_aload_n (q := 0) dX10_append_5 rfl rfl ?_
  refine r_getIv (c := 63) (v := h.1 63 41) dX10_append_6 flX10_294 lay_63 rfl rfl ?_
  refine r_bipush (v := (20 : Int32)) dX10_append_9 rfl ?_
  refine r_iadd dX10_append_11 ?_
  refine r_sipush (v := (1200 : Int32)) dX10_append_12 rfl ?_
  refine r_icmp_le (tgt := 20) dX10_append_15 (by decide) (fun q1 => ?_) (fun q1 => ?_)
  · have t := t.1 q1
    refine r_aload_n (q := 0) dX10_append_20 rfl rfl ?_
    refine r_iload_n (q := 1) dX10_append_21 rfl rfl ?_
    refine r_cVV (c := 63) (As := [.int a1]) dX10_append_22 mkX10_puts lkX10_297 lay_63 rfl rfl rfl (by decide) rfl (Nat.le_of_ble_eq_true rfl) z00 t ?_
    intro h2 t
    refine r_aload_n (q := 0) dX10_append_25 rfl rfl ?_
    refine r_iload_n (q := 2) dX10_append_26 rfl rfl ?_
    refine r_cVV (c := 63) (As := [.int a2]) dX10_append_27 mkX10_puts lkX10_297 lay_63 rfl rfl rfl (by decide) rfl (Nat.le_of_ble_eq_true rfl) z00 t ?_
    intro h3 t
    refine r_aload_n (q := 0) dX10_append_30 rfl rfl ?_
    refine r_iload_n (q := 3) dX10_append_31 rfl rfl ?_
    refine r_cVV (c := 63) (As := [.int a3]) dX10_append_32 mkX10_puts lkX10_297 lay_63 rfl rfl rfl (by decide) rfl (Nat.le_of_ble_eq_true rfl) z00 t ?_
    intro h4 t
    refine r_aload_n (q := 0) dX10_append_35 rfl rfl ?_
    refine r_iload (q := 4) dX10_append_36 rfl ?_
    refine r_cVV (c := 63) (As := [.int a4]) dX10_append_38 mkX10_puts lkX10_297 lay_63 rfl rfl rfl (by decide) rfl (Nat.le_of_ble_eq_true rfl) z00 t ?_
    intro h5 t
    refine r_aload_n (q := 0) dX10_append_41 rfl rfl ?_
    refine r_iload (q := 5) dX10_append_42 rfl ?_
    refine r_cVV (c := 63) (As := [.int a5]) dX10_append_44 mkX10_puts lkX10_297 lay_63 rfl rfl rfl (by decide) rfl (Nat.le_of_ble_eq_true rfl) z00 t ?_
    intro h6 t
    refine r_aload_n (q := 0) dX10_append_47 rfl rfl ?_
    refine r_getI (c := 63) dX10_append_48 flX10_294 lay_63 rfl ?_
    exact r_iret dX10_append_51 rfl t
  · have t := t.2 q1
    refine r_iconst (v := (-1 : Int32)) dX10_append_18 rfl ?_
    exact r_iret dX10_append_19 rfl t
theorem dX10_truncate_0 : decode cX10_truncate 0 = .ok (.aload_n 0, 1) := by decide +kernel
theorem dX10_truncate_1 : decode cX10_truncate 1 = .ok (.iconst 0, 1) := by decide +kernel
theorem dX10_truncate_2 : decode cX10_truncate 2 = .ok (.putfield 118, 3) := by decide +kernel
theorem dX10_truncate_5 : decode cX10_truncate 5 = .ok (.iload_n 1, 1) := by decide +kernel
theorem dX10_truncate_6 : decode cX10_truncate 6 = .ok (.iconst 0, 1) := by decide +kernel
theorem dX10_truncate_7 : decode cX10_truncate 7 = .ok (.aload_n 0, 1) := by decide +kernel
theorem dX10_truncate_8 : decode cX10_truncate 8 = .ok (.getfield 294, 3) := by decide +kernel
theorem dX10_truncate_11 : decode cX10_truncate 11 = .ok (.invokestatic 124, 3) := by decide +kernel
theorem dX10_truncate_14 : decode cX10_truncate 14 = .ok (.ifCond .ne 5, 3) := by decide +kernel
theorem dX10_truncate_17 : decode cX10_truncate 17 = .ok (.iconst 0, 1) := by decide +kernel
theorem dX10_truncate_18 : decode cX10_truncate 18 = .ok (.ireturn, 1) := by decide +kernel
theorem dX10_truncate_19 : decode cX10_truncate 19 = .ok (.aload_n 0, 1) := by decide +kernel
theorem dX10_truncate_20 : decode cX10_truncate 20 = .ok (.iload_n 1, 1) := by decide +kernel
theorem dX10_truncate_21 : decode cX10_truncate 21 = .ok (.putfield 294, 3) := by decide +kernel
theorem dX10_truncate_24 : decode cX10_truncate 24 = .ok (.iconst 1, 1) := by decide +kernel
theorem dX10_truncate_25 : decode cX10_truncate 25 = .ok (.ireturn, 1) := by decide +kernel
set_option maxRecDepth 20000 in
theorem wp_X10_truncate (E : En) (d : Nat) (a1 : Int32) (h : Hp) (P : Int32 → Hp → Prop) (t : SpI E d MX10_isIn [.int a1, .int (0 : Int32), .int (h.1 63 41)] (sI h 63 0 (0 : Int32)) (fun v1 h1 => (¬ v1 = 0 → (P (1 : Int32) (sI h1 63 41 a1))) ∧ (v1 = 0 → (P (0 : Int32) h1)))) : SpI E (d + 1) MX10_truncate [.ref (eA E 63), .int a1] h P := by
  refine SpI.of (lv0 := [(0, .ref (eA E 63)), (1, .int a1)]) (by decide) (Nat.le_of_ble_eq_true rfl) rfl (fun g => ?_)
  refine r_aload_n (q := 0) dX10_truncate_0 rfl rfl ?_
  refine r_iconst (v := (0 : Int32)) dX10_truncate_1 rfl ?_
  refine r_putI (c := 63) dX10_truncate_2 flX10_118 lay_63 rfl ?_
  refine r_iload_n (q := 1) dX10_truncate_5 rfl rfl ?_
  refine r_iconst (v := (0 : Int32)) dX10_truncate_6 rfl ?_
  refine r_aload_n (q := 0) dX10_truncate_7 rfl rfl ?_
  refine r_getIv (c := 63) (v := h.1 63 41) dX10_truncate_8 flX10_294 lay_63 rfl rfl ?_
  refine r_cSI (As := [.int a1, .int (0 : Int32), .int (h.1 63 41)]) dX10_truncate_11 mkX10_isIn lkX10_124 rfl (by decide) rfl (Nat.le_of_ble_eq_true rfl) z00 t ?_
  intro v1 h1 t
  refine r_if_ne (tgt := 19) dX10_truncate_14 (by decide) (fun q2 => ?_) (fun q2 => ?_)
  · have t := t.1 q2
    refine r_aload_n (q := 0) dX10_truncate_19 rfl rfl ?_
    refine r_iload_n (q := 1) dX10_truncate_20 rfl rfl ?_
    refine r_putI (c := 63) dX10_truncate_21 flX10_294 lay_63 rfl ?_
    refine r_iconst (v := (1 : Int32)) dX10_truncate_24 rfl ?_
    exact r_zret dX10_truncate_25 rfl (Or.inr rfl) t
  · have t := t.2 q2
    refine r_iconst (v := (0 : Int32)) dX10_truncate_17 rfl ?_
    exact r_zret dX10_truncate_18 rfl (Or.inl rfl) t
theorem dX10_bufferLength_0 : decode cX10_bufferLength 0 = .ok (.aload_n 0, 1) := by decide +kernel
theorem dX10_bufferLength_1 : decode cX10_bufferLength 1 = .ok (.iconst 0, 1) := by decide +kernel
theorem dX10_bufferLength_2 : decode cX10_bufferLength 2 = .ok (.putfield 118, 3) := by decide +kernel
theorem dX10_bufferLength_5 : decode cX10_bufferLength 5 = .ok (.aload_n 0, 1) := by decide +kernel
theorem dX10_bufferLength_6 : decode cX10_bufferLength 6 = .ok (.getfield 294, 3) := by decide +kernel
theorem dX10_bufferLength_9 : decode cX10_bufferLength 9 = .ok (.ireturn, 1) := by decide +kernel
set_option maxRecDepth 20000 in
theorem wp_X10_bufferLength (E : En) (d : Nat) (h : Hp) (P : Int32 → Hp → Prop) (t : P (h.1 63 41) (sI h 63 0 (0 : Int32))) : SpI E d MX10_bufferLength [.ref (eA E 63)] h P := by
  refine SpI.of (lv0 := [(0, .ref (eA E 63))]) (by decide) (Nat.le_of_ble_eq_true rfl) rfl (fun g => ?_)
  refine r_aload_n (q := 0) dX10_bufferLength_0 rfl rfl ?_
  refine r_iconst (v := (0 : Int32)) dX10_bufferLength_1 rfl ?_
  refine r_putI (c := 63) dX10_bufferLength_2 flX10_118 lay_63 rfl ?_
  refine r_aload_n (q := 0) dX10_bufferLength_5 rfl rfl ?_
  refine r_getIv (c := 63) (v := h.1 63 41) dX10_bufferLength_6 flX10_294 lay_63 rfl rfl ?_
  exact r_iret dX10_bufferLength_9 rfl t
theorem dX10_byteAt_0 : decode cX10_byteAt 0 = .ok (.iload_n 1, 1) := by decide +kernel
theorem dX10_byteAt_1 : decode cX10_byteAt 1 = .ok (.aload_n 0, 1) := by decide +kernel
theorem dX10_byteAt_2 : decode cX10_byteAt 2 = .ok (.getfield 300, 3) := by decide +kernel
theorem dX10_byteAt_5 : decode cX10_byteAt 5 = .ok (.if_icmp .ge 16, 3) := by decide +kernel
theorem dX10_byteAt_8 : decode cX10_byteAt 8 = .ok (.aload_n 0, 1) := by decide +kernel
theorem dX10_byteAt_9 : decode cX10_byteAt 9 = .ok (.getfield 96, 3) := by decide +kernel
theorem dX10_byteAt_12 : decode cX10_byteAt 12 = .ok (.iload_n 1, 1) := by decide +kernel
theorem dX10_byteAt_13 : decode cX10_byteAt 13 = .ok (.baload, 1) := by decide +kernel
theorem dX10_byteAt_14 : decode cX10_byteAt 14 = .ok (.sipush 255, 3) := by decide +kernel
theorem dX10_byteAt_17 : decode cX10_byteAt 17 = .ok (.iand, 1) := by decide +kernel
theorem dX10_byteAt_18 : decode cX10_byteAt 18 = .ok (.goto 4, 3) := by decide +kernel
theorem dX10_byteAt_21 : decode cX10_byteAt 21 = .ok (.iconst (-1), 1) := by decide +kernel
theorem dX10_byteAt_22 : decode cX10_byteAt 22 = .ok (.ireturn, 1) := by decide +kernel
set_option maxRecDepth 20000 in
theorem wp_X10_byteAt (E : En) (d : Nat) (a1 : Int32) (h : Hp) (P : Int32 → Hp → Prop) (t : ((h.1 63 42) ≤ a1 → (P (-1 : Int32) h)) ∧ (¬ (h.1 63 42) ≤ a1 → (vp_in a1 1200 ∧ (P ((h.1 91 a1.toNatClampNeg) &&& (255 : Int32)) h)))) : SpI E d MX10_byteAt [.ref (eA E 63), .int a1] h P := by
  refine SpI.of (lv0 := [(0, .ref (eA E 63)), (1, .int a1)]) (by decide) (Nat.le_of_ble_eq_true rfl) rfl (fun g => ?_)
  refine r_iload_n (q := 1) dX10_byteAt_0 rfl rfl ?_
  refine r_aload_n (q := 0) dX10_byteAt_1 rfl rfl ?_
  refine r_getI (c := 63) dX10_byteAt_2 flX10_300 lay_63 rfl ?_
  refine r_icmp_ge (tgt := 21) dX10_byteAt_5 (by decide) (fun q1 => ?_) (fun q1 => ?_)
  · have t := t.1 q1
    refine r_iconst (v := (-1 : Int32)) dX10_byteAt_21 rfl ?_
    exact r_iret dX10_byteAt_22 rfl t
  · have t := t.2 q1
    refine r_aload_n (q := 0) dX10_byteAt_8 rfl rfl ?_
    refine r_getR (c := 63) (c2 := 91) dX10_byteAt_9 flX10_96 lay_63 rfl ?_
    refine r_iload_n (q := 1) dX10_byteAt_12 rfl rfl ?_
    obtain ⟨c2, t⟩ := t
    refine r_bald (c := 91) dX10_byteAt_13 lay_91 c2 ?_
    refine r_sipush (v := (255 : Int32)) dX10_byteAt_14 rfl ?_
    refine r_iand dX10_byteAt_17 ?_
    refine r_goto (tgt := 22) dX10_byteAt_18 (by decide) ?_
    exact r_iret dX10_byteAt_22 rfl t
theorem dX10_isLetter_0 : decode cX10_isLetter 0 = .ok (.iload_n 0, 1) := by decide +kernel
theorem dX10_isLetter_1 : decode cX10_isLetter 1 = .ok (.bipush 97, 2) := by decide +kernel
theorem dX10_isLetter_3 : decode cX10_isLetter 3 = .ok (.if_icmp .lt 13, 3) := by decide +kernel
theorem dX10_isLetter_6 : decode cX10_isLetter 6 = .ok (.iload_n 0, 1) := by decide +kernel
theorem dX10_isLetter_7 : decode cX10_isLetter 7 = .ok (.bipush 122, 2) := by decide +kernel
theorem dX10_isLetter_9 : decode cX10_isLetter 9 = .ok (.if_icmp .gt 7, 3) := by decide +kernel
theorem dX10_isLetter_12 : decode cX10_isLetter 12 = .ok (.iconst 1, 1) := by decide +kernel
theorem dX10_isLetter_13 : decode cX10_isLetter 13 = .ok (.goto 4, 3) := by decide +kernel
theorem dX10_isLetter_16 : decode cX10_isLetter 16 = .ok (.iconst 0, 1) := by decide +kernel
theorem dX10_isLetter_17 : decode cX10_isLetter 17 = .ok (.ireturn, 1) := by decide +kernel
set_option maxRecDepth 20000 in
theorem wp_X10_isLetter (E : En) (d : Nat) (a1 : Int32) (h : Hp) (P : Int32 → Hp → Prop) (t : (a1 < (97 : Int32) → (P (0 : Int32) h)) ∧ (¬ a1 < (97 : Int32) → (((122 : Int32) < a1 → (P (0 : Int32) h)) ∧ (¬ (122 : Int32) < a1 → (P (1 : Int32) h))))) : SpI E d MX10_isLetter [.int a1] h P := by
  refine SpI.of (lv0 := [(0, .int a1)]) (by decide) (Nat.le_of_ble_eq_true rfl) rfl (fun g => ?_)
  refine r_iload_n (q := 0) dX10_isLetter_0 rfl rfl ?_
  refine r_bipush (v := (97 : Int32)) dX10_isLetter_1 rfl ?_
  refine r_icmp_lt (tgt := 16) dX10_isLetter_3 (by decide) (fun q1 => ?_) (fun q1 => ?_)
  · have t := t.1 q1
    refine r_iconst (v := (0 : Int32)) dX10_isLetter_16 rfl ?_
    exact r_zret dX10_isLetter_17 rfl (Or.inl rfl) t
  · have t := t.2 q1
    refine r_iload_n (q := 0) dX10_isLetter_6 rfl rfl ?_
    refine r_bipush (v := (122 : Int32)) dX10_isLetter_7 rfl ?_
    refine r_icmp_gt (tgt := 16) dX10_isLetter_9 (by decide) (fun q2 => ?_) (fun q2 => ?_)
    · have t := t.1 q2
      refine r_iconst (v := (0 : Int32)) dX10_isLetter_16 rfl ?_
      exact r_zret dX10_isLetter_17 rfl (Or.inl rfl) t
    · have t := t.2 q2
      refine r_iconst (v := (1 : Int32)) dX10_isLetter_12 rfl ?_
      refine r_goto (tgt := 17) dX10_isLetter_13 (by decide) ?_
      exact r_zret dX10_isLetter_17 rfl (Or.inr rfl) t
theorem dX10_isDigit_0 : decode cX10_isDigit 0 = .ok (.iload_n 0, 1) := by decide +kernel
theorem dX10_isDigit_1 : decode cX10_isDigit 1 = .ok (.bipush 48, 2) := by decide +kernel
theorem dX10_isDigit_3 : decode cX10_isDigit 3 = .ok (.if_icmp .lt 13, 3) := by decide +kernel
theorem dX10_isDigit_6 : decode cX10_isDigit 6 = .ok (.iload_n 0, 1) := by decide +kernel
theorem dX10_isDigit_7 : decode cX10_isDigit 7 = .ok (.bipush 57, 2) := by decide +kernel
theorem dX10_isDigit_9 : decode cX10_isDigit 9 = .ok (.if_icmp .gt 7, 3) := by decide +kernel
theorem dX10_isDigit_12 : decode cX10_isDigit 12 = .ok (.iconst 1, 1) := by decide +kernel
theorem dX10_isDigit_13 : decode cX10_isDigit 13 = .ok (.goto 4, 3) := by decide +kernel
theorem dX10_isDigit_16 : decode cX10_isDigit 16 = .ok (.iconst 0, 1) := by decide +kernel
theorem dX10_isDigit_17 : decode cX10_isDigit 17 = .ok (.ireturn, 1) := by decide +kernel
set_option maxRecDepth 20000 in
theorem wp_X10_isDigit (E : En) (d : Nat) (a1 : Int32) (h : Hp) (P : Int32 → Hp → Prop) (t : (a1 < (48 : Int32) → (P (0 : Int32) h)) ∧ (¬ a1 < (48 : Int32) → (((57 : Int32) < a1 → (P (0 : Int32) h)) ∧ (¬ (57 : Int32) < a1 → (P (1 : Int32) h))))) : SpI E d MX10_isDigit [.int a1] h P := by
  refine SpI.of (lv0 := [(0, .int a1)]) (by decide) (Nat.le_of_ble_eq_true rfl) rfl (fun g => ?_)
  refine r_iload_n (q := 0) dX10_isDigit_0 rfl rfl ?_
  refine r_bipush (v := (48 : Int32)) dX10_isDigit_1 rfl ?_
  refine r_icmp_lt (tgt := 16) dX10_isDigit_3 (by decide) (fun q1 => ?_) (fun q1 => ?_)
  · have t := t.1 q1
    refine r_iconst (v := (0 : Int32)) dX10_isDigit_16 rfl ?_
    exact r_zret dX10_isDigit_17 rfl (Or.inl rfl) t
  · have t := t.2 q1
    refine r_iload_n (q := 0) dX10_isDigit_6 rfl rfl ?_
    refine r_bipush (v := (57 : Int32)) dX10_isDigit_7 rfl ?_
    refine r_icmp_gt (tgt := 16) dX10_isDigit_9 (by decide) (fun q2 => ?_) (fun q2 => ?_)
    · have t := t.1 q2
      refine r_iconst (v := (0 : Int32)) dX10_isDigit_16 rfl ?_
      exact r_zret dX10_isDigit_17 rfl (Or.inl rfl) t
    · have t := t.2 q2
      refine r_iconst (v := (1 : Int32)) dX10_isDigit_12 rfl ?_
      refine r_goto (tgt := 17) dX10_isDigit_13 (by decide) ?_
      exact r_zret dX10_isDigit_17 rfl (Or.inr rfl) t
theorem dX10_signOf_0 : decode cX10_signOf 0 = .ok (.iload_n 0, 1) := by decide +kernel
theorem dX10_signOf_1 : decode cX10_signOf 1 = .ok (.bipush 43, 2) := by decide +kernel
theorem dX10_signOf_3 : decode cX10_signOf 3 = .ok (.if_icmp .ne 7, 3) := by decide +kernel
theorem dX10_signOf_6 : decode cX10_signOf 6 = .ok (.iconst 1, 1) := by decide +kernel
theorem dX10_signOf_7 : decode cX10_signOf 7 = .ok (.goto 55, 3) := by decide +kernel
theorem dX10_signOf_10 : decode cX10_signOf 10 = .ok (.iload_n 0, 1) := by decide +kernel
theorem dX10_signOf_11 : decode cX10_signOf 11 = .ok (.bipush 45, 2) := by decide +kernel
theorem dX10_signOf_13 : decode cX10_signOf 13 = .ok (.if_icmp .ne 7, 3) := by decide +kernel
theorem dX10_signOf_16 : decode cX10_signOf 16 = .ok (.iconst 2, 1) := by decide +kernel
theorem dX10_signOf_17 : decode cX10_signOf 17 = .ok (.goto 45, 3) := by decide +kernel
theorem dX10_signOf_20 : decode cX10_signOf 20 = .ok (.iload_n 0, 1) := by decide +kernel
theorem dX10_signOf_21 : decode cX10_signOf 21 = .ok (.bipush 42, 2) := by decide +kernel
theorem dX10_signOf_23 : decode cX10_signOf 23 = .ok (.if_icmp .ne 7, 3) := by decide +kernel
theorem dX10_signOf_26 : decode cX10_signOf 26 = .ok (.iconst 3, 1) := by decide +kernel
theorem dX10_signOf_27 : decode cX10_signOf 27 = .ok (.goto 35, 3) := by decide +kernel
theorem dX10_signOf_30 : decode cX10_signOf 30 = .ok (.iload_n 0, 1) := by decide +kernel
theorem dX10_signOf_31 : decode cX10_signOf 31 = .ok (.bipush 38, 2) := by decide +kernel
theorem dX10_signOf_33 : decode cX10_signOf 33 = .ok (.if_icmp .ne 7, 3) := by decide +kernel
theorem dX10_signOf_36 : decode cX10_signOf 36 = .ok (.iconst 4, 1) := by decide +kernel
theorem dX10_signOf_37 : decode cX10_signOf 37 = .ok (.goto 25, 3) := by decide +kernel
theorem dX10_signOf_40 : decode cX10_signOf 40 = .ok (.iload_n 0, 1) := by decide +kernel
theorem dX10_signOf_41 : decode cX10_signOf 41 = .ok (.bipush 124, 2) := by decide +kernel
theorem dX10_signOf_43 : decode cX10_signOf 43 = .ok (.if_icmp .ne 7, 3) := by decide +kernel
theorem dX10_signOf_46 : decode cX10_signOf 46 = .ok (.iconst 5, 1) := by decide +kernel
theorem dX10_signOf_47 : decode cX10_signOf 47 = .ok (.goto 15, 3) := by decide +kernel
theorem dX10_signOf_50 : decode cX10_signOf 50 = .ok (.iload_n 0, 1) := by decide +kernel
theorem dX10_signOf_51 : decode cX10_signOf 51 = .ok (.bipush 94, 2) := by decide +kernel
theorem dX10_signOf_53 : decode cX10_signOf 53 = .ok (.if_icmp .ne 8, 3) := by decide +kernel
theorem dX10_signOf_56 : decode cX10_signOf 56 = .ok (.bipush 6, 2) := by decide +kernel
theorem dX10_signOf_58 : decode cX10_signOf 58 = .ok (.goto 4, 3) := by decide +kernel
theorem dX10_signOf_61 : decode cX10_signOf 61 = .ok (.iconst 0, 1) := by decide +kernel
theorem dX10_signOf_62 : decode cX10_signOf 62 = .ok (.ireturn, 1) := by decide +kernel
set_option maxRecDepth 20000 in
theorem wp_X10_signOf (E : En) (d : Nat) (a1 : Int32) (h : Hp) (P : Int32 → Hp → Prop) (t : (¬ a1 = (43 : Int32) → ((¬ a1 = (45 : Int32) → ((¬ a1 = (42 : Int32) → ((¬ a1 = (38 : Int32) → ((¬ a1 = (124 : Int32) → ((¬ a1 = (94 : Int32) → (P (0 : Int32) h)) ∧ (a1 = (94 : Int32) → (P (6 : Int32) h)))) ∧ (a1 = (124 : Int32) → (P (5 : Int32) h)))) ∧ (a1 = (38 : Int32) → (P (4 : Int32) h)))) ∧ (a1 = (42 : Int32) → (P (3 : Int32) h)))) ∧ (a1 = (45 : Int32) → (P (2 : Int32) h)))) ∧ (a1 = (43 : Int32) → (P (1 : Int32) h))) : SpI E d MX10_signOf [.int a1] h P := by
  refine SpI.of (lv0 := [(0, .int a1)]) (by decide) (Nat.le_of_ble_eq_true rfl) rfl (fun g => ?_)
  refine r_iload_n (q := 0) dX10_signOf_0 rfl rfl ?_
  refine r_bipush (v := (43 : Int32)) dX10_signOf_1 rfl ?_
  refine r_icmp_ne (tgt := 10) dX10_signOf_3 (by decide) (fun q1 => ?_) (fun q1 => ?_)
  · have t := t.1 q1
    refine r_iload_n (q := 0) dX10_signOf_10 rfl rfl ?_
    refine r_bipush (v := (45 : Int32)) dX10_signOf_11 rfl ?_
    refine r_icmp_ne (tgt := 20) dX10_signOf_13 (by decide) (fun q2 => ?_) (fun q2 => ?_)
    · have t := t.1 q2
      refine r_iload_n (q := 0) dX10_signOf_20 rfl rfl ?_
      refine r_bipush (v := (42 : Int32)) dX10_signOf_21 rfl ?_
      refine r_icmp_ne (tgt := 30) dX10_signOf_23 (by decide) (fun q3 => ?_) (fun q3 => ?_)
      · have t := t.1 q3
        refine r_iload_n (q := 0) dX10_signOf_30 rfl rfl ?_
        refine r_bipush (v := (38 : Int32)) dX10_signOf_31 rfl ?_
        refine r_icmp_ne (tgt := 40) dX10_signOf_33 (by decide) (fun q4 => ?_) (fun q4 => ?_)
        · have t := t.1 q4
          refine r_iload_n (q := 0) dX10_signOf_40 rfl rfl ?_
          refine r_bipush (v := (124 : Int32)) dX10_signOf_41 rfl ?_
          refine r_icmp_ne (tgt := 50) dX10_signOf_43 (by decide) (fun q5 => ?_) (fun q5 => ?_)
          · have t := t.1 q5
            refine r_iload_n (q := 0) dX10_signOf_50 rfl rfl ?_
            refine r_bipush (v := (94 : Int32)) dX10_signOf_51 rfl ?_
            refine r_icmp_ne (tgt := 61) dX10_signOf_53 (by decide) (fun q6 => ?_) (fun q6 => ?_)
            · have t := t.1 q6
              refine r_iconst (v := (0 : Int32)) dX10_signOf_61 rfl ?_
              exact r_iret dX10_signOf_62 rfl t
            · have t := t.2 q6
              refine r_bipush (v := (6 : Int32)) dX10_signOf_56 rfl ?_
              refine r_goto (tgt := 62) dX10_signOf_58 (by decide) ?_
              exact r_iret dX10_signOf_62 rfl t
          · have t := t.2 q5
            refine r_iconst (v := (5 : Int32)) dX10_signOf_46 rfl ?_
            refine r_goto (tgt := 62) dX10_signOf_47 (by decide) ?_
            exact r_iret dX10_signOf_62 rfl t
        · have t := t.2 q4
          refine r_iconst (v := (4 : Int32)) dX10_signOf_36 rfl ?_
          refine r_goto (tgt := 62) dX10_signOf_37 (by decide) ?_
          exact r_iret dX10_signOf_62 rfl t
      · have t := t.2 q3
        refine r_iconst (v := (3 : Int32)) dX10_signOf_26 rfl ?_
        refine r_goto (tgt := 62) dX10_signOf_27 (by decide) ?_
        exact r_iret dX10_signOf_62 rfl t
    · have t := t.2 q2
      refine r_iconst (v := (2 : Int32)) dX10_signOf_16 rfl ?_
      refine r_goto (tgt := 62) dX10_signOf_17 (by decide) ?_
      exact r_iret dX10_signOf_62 rfl t
  · have t := t.2 q1
    refine r_iconst (v := (1 : Int32)) dX10_signOf_6 rfl ?_
    refine r_goto (tgt := 62) dX10_signOf_7 (by decide) ?_
    exact r_iret dX10_signOf_62 rfl t
theorem dX10_step_0 : decode cX10_step 0 = .ok (.aload_n 0, 1) := by decide +kernel
theorem dX10_step_1 : decode cX10_step 1 = .ok (.aload_n 0, 1) := by decide +kernel
theorem dX10_step_2 : decode cX10_step 2 = .ok (.getfield 303, 3) := by decide +kernel
theorem dX10_step_5 : decode cX10_step 5 = .ok (.invokevirtual 306, 3) := by decide +kernel
theorem dX10_step_8 : decode cX10_step 8 = .ok (.bipush 32, 2) := by decide +kernel
theorem dX10_step_10 : decode cX10_step 10 = .ok (.if_icmp .eq 16, 3) := by decide +kernel
theorem dX10_step_13 : decode cX10_step 13 = .ok (.aload_n 0, 1) := by decide +kernel
theorem dX10_step_14 : decode cX10_step 14 = .ok (.aload_n 0, 1) := by decide +kernel
theorem dX10_step_15 : decode cX10_step 15 = .ok (.getfield 303, 3) := by decide +kernel
theorem dX10_step_18 : decode cX10_step 18 = .ok (.invokevirtual 306, 3) := by decide +kernel
theorem dX10_step_21 : decode cX10_step 21 = .ok (.bipush 10, 2) := by decide +kernel
theorem dX10_step_23 : decode cX10_step 23 = .ok (.if_icmp .ne 16, 3) := by decide +kernel
theorem dX10_step_26 : decode cX10_step 26 = .ok (.aload_n 0, 1) := by decide +kernel
theorem dX10_step_27 : decode cX10_step 27 = .ok (.dup, 1) := by decide +kernel
theorem dX10_step_28 : decode cX10_step 28 = .ok (.getfield 303, 3) := by decide +kernel
theorem dX10_step_31 : decode cX10_step 31 = .ok (.iconst 1, 1) := by decide +kernel
theorem dX10_step_32 : decode cX10_step 32 = .ok (.iadd, 1) := by decide +kernel
theorem dX10_step_33 : decode cX10_step 33 = .ok (.putfield 303, 3) := by decide +kernel
theorem dX10_step_36 : decode cX10_step 36 = .ok (.goto (-36), 3) := by decide +kernel
theorem dX10_step_39 : decode cX10_step 39 = .ok (.aload_n 0, 1) := by decide +kernel
theorem dX10_step_40 : decode cX10_step 40 = .ok (.aload_n 0, 1) := by decide +kernel
theorem dX10_step_41 : decode cX10_step 41 = .ok (.getfield 303, 3) := by decide +kernel
theorem dX10_step_44 : decode cX10_step 44 = .ok (.putfield 309, 3) := by decide +kernel
theorem dX10_step_47 : decode cX10_step 47 = .ok (.aload_n 0, 1) := by decide +kernel
theorem dX10_step_48 : decode cX10_step 48 = .ok (.aload_n 0, 1) := by decide +kernel
theorem dX10_step_49 : decode cX10_step 49 = .ok (.getfield 309, 3) := by decide +kernel
theorem dX10_step_52 : decode cX10_step 52 = .ok (.invokevirtual 306, 3) := by decide +kernel
theorem dX10_step_55 : decode cX10_step 55 = .ok (.istore_n 1, 1) := by decide +kernel
theorem dX10_step_56 : decode cX10_step 56 = .ok (.iload_n 1, 1) := by decide +kernel
theorem dX10_step_57 : decode cX10_step 57 = .ok (.ifCond .ge 11, 3) := by decide +kernel
theorem dX10_step_60 : decode cX10_step 60 = .ok (.aload_n 0, 1) := by decide +kernel
theorem dX10_step_61 : decode cX10_step 61 = .ok (.iconst 0, 1) := by decide +kernel
theorem dX10_step_62 : decode cX10_step 62 = .ok (.putfield 312, 3) := by decide +kernel
theorem dX10_step_65 : decode cX10_step 65 = .ok (.goto 227, 3) := by decide +kernel
theorem dX10_step_68 : decode cX10_step 68 = .ok (.iload_n 1, 1) := by decide +kernel
theorem dX10_step_69 : decode cX10_step 69 = .ok (.invokestatic 315, 3) := by decide +kernel
theorem dX10_step_72 : decode cX10_step 72 = .ok (.ifCond .eq 52, 3) := by decide +kernel
theorem dX10_step_75 : decode cX10_step 75 = .ok (.aload_n 0, 1) := by decide +kernel
theorem dX10_step_76 : decode cX10_step 76 = .ok (.aload_n 0, 1) := by decide +kernel
theorem dX10_step_77 : decode cX10_step 77 = .ok (.getfield 303, 3) := by decide +kernel
theorem dX10_step_80 : decode cX10_step 80 = .ok (.invokevirtual 306, 3) := by decide +kernel
theorem dX10_step_83 : decode cX10_step 83 = .ok (.invokestatic 315, 3) := by decide +kernel
theorem dX10_step_86 : decode cX10_step 86 = .ok (.ifCond .ne 17, 3) := by decide +kernel
theorem dX10_step_89 : decode cX10_step 89 = .ok (.aload_n 0, 1) := by decide +kernel
theorem dX10_step_90 : decode cX10_step 90 = .ok (.aload_n 0, 1) := by decide +kernel
theorem dX10_step_91 : decode cX10_step 91 = .ok (.getfield 303, 3) := by decide +kernel
theorem dX10_step_94 : decode cX10_step 94 = .ok (.invokevirtual 306, 3) := by decide +kernel
theorem dX10_step_97 : decode cX10_step 97 = .ok (.invokestatic 318, 3) := by decide +kernel
theorem dX10_step_100 : decode cX10_step 100 = .ok (.ifCond .eq 16, 3) := by decide +kernel
theorem dX10_step_103 : decode cX10_step 103 = .ok (.aload_n 0, 1) := by decide +kernel
theorem dX10_step_104 : decode cX10_step 104 = .ok (.dup, 1) := by decide +kernel
theorem dX10_step_105 : decode cX10_step 105 = .ok (.getfield 303, 3) := by decide +kernel
theorem dX10_step_108 : decode cX10_step 108 = .ok (.iconst 1, 1) := by decide +kernel
theorem dX10_step_109 : decode cX10_step 109 = .ok (.iadd, 1) := by decide +kernel
theorem dX10_step_110 : decode cX10_step 110 = .ok (.putfield 303, 3) := by decide +kernel
theorem dX10_step_113 : decode cX10_step 113 = .ok (.goto (-38), 3) := by decide +kernel
theorem dX10_step_116 : decode cX10_step 116 = .ok (.aload_n 0, 1) := by decide +kernel
theorem dX10_step_117 : decode cX10_step 117 = .ok (.iconst 1, 1) := by decide +kernel
theorem dX10_step_118 : decode cX10_step 118 = .ok (.putfield 312, 3) := by decide +kernel
theorem dX10_step_121 : decode cX10_step 121 = .ok (.goto 171, 3) := by decide +kernel
theorem dX10_step_124 : decode cX10_step 124 = .ok (.iload_n 1, 1) := by decide +kernel
theorem dX10_step_125 : decode cX10_step 125 = .ok (.invokestatic 318, 3) := by decide +kernel
theorem dX10_step_128 : decode cX10_step 128 = .ok (.ifCond .eq 103, 3) := by decide +kernel
theorem dX10_step_131 : decode cX10_step 131 = .ok (.aload_n 0, 1) := by decide +kernel
theorem dX10_step_132 : decode cX10_step 132 = .ok (.iconst 0, 1) := by decide +kernel
theorem dX10_step_133 : decode cX10_step 133 = .ok (.putfield 321, 3) := by decide +kernel
theorem dX10_step_136 : decode cX10_step 136 = .ok (.aload_n 0, 1) := by decide +kernel
theorem dX10_step_137 : decode cX10_step 137 = .ok (.aload_n 0, 1) := by decide +kernel
theorem dX10_step_138 : decode cX10_step 138 = .ok (.getfield 303, 3) := by decide +kernel
theorem dX10_step_141 : decode cX10_step 141 = .ok (.invokevirtual 306, 3) := by decide +kernel
theorem dX10_step_144 : decode cX10_step 144 = .ok (.invokestatic 318, 3) := by decide +kernel
theorem dX10_step_147 : decode cX10_step 147 = .ok (.ifCond .eq 59, 3) := by decide +kernel
theorem dX10_step_150 : decode cX10_step 150 = .ok (.aload_n 0, 1) := by decide +kernel
theorem dX10_step_151 : decode cX10_step 151 = .ok (.aload_n 0, 1) := by decide +kernel
theorem dX10_step_152 : decode cX10_step 152 = .ok (.getfield 303, 3) := by decide +kernel
theorem dX10_step_155 : decode cX10_step 155 = .ok (.aload_n 0, 1) := by decide +kernel
theorem dX10_step_156 : decode cX10_step 156 = .ok (.getfield 309, 3) := by decide +kernel
theorem dX10_step_159 : decode cX10_step 159 = .ok (.isub, 1) := by decide +kernel
theorem dX10_step_160 : decode cX10_step 160 = .ok (.iconst 4, 1) := by decide +kernel
theorem dX10_step_161 : decode cX10_step 161 = .ok (.if_icmp .ge 25, 3) := by decide +kernel
theorem dX10_step_164 : decode cX10_step 164 = .ok (.bipush 10, 2) := by decide +kernel
theorem dX10_step_166 : decode cX10_step 166 = .ok (.aload_n 0, 1) := by decide +kernel
theorem dX10_step_167 : decode cX10_step 167 = .ok (.getfield 321, 3) := by decide +kernel
theorem dX10_step_170 : decode cX10_step 170 = .ok (.imul, 1) := by decide +kernel
theorem dX10_step_171 : decode cX10_step 171 = .ok (.aload_n 0, 1) := by decide +kernel
theorem dX10_step_172 : decode cX10_step 172 = .ok (.aload_n 0, 1) := by decide +kernel
theorem dX10_step_173 : decode cX10_step 173 = .ok (.getfield 303, 3) := by decide +kernel
theorem dX10_step_176 : decode cX10_step 176 = .ok (.invokevirtual 306, 3) := by decide +kernel
theorem dX10_step_179 : decode cX10_step 179 = .ok (.iadd, 1) := by decide +kernel
theorem dX10_step_180 : decode cX10_step 180 = .ok (.bipush 48, 2) := by decide +kernel
theorem dX10_step_182 : decode cX10_step 182 = .ok (.isub, 1) := by decide +kernel
theorem dX10_step_183 : decode cX10_step 183 = .ok (.goto 7, 3) := by decide +kernel
theorem dX10_step_186 : decode cX10_step 186 = .ok (.aload_n 0, 1) := by decide +kernel
theorem dX10_step_187 : decode cX10_step 187 = .ok (.getfield 321, 3) := by decide +kernel
theorem dX10_step_190 : decode cX10_step 190 = .ok (.putfield 321, 3) := by decide +kernel
theorem dX10_step_193 : decode cX10_step 193 = .ok (.aload_n 0, 1) := by decide +kernel
theorem dX10_step_194 : decode cX10_step 194 = .ok (.dup, 1) := by decide +kernel
theorem dX10_step_195 : decode cX10_step 195 = .ok (.getfield 303, 3) := by decide +kernel
theorem dX10_step_198 : decode cX10_step 198 = .ok (.iconst 1, 1) := by decide +kernel
theorem dX10_step_199 : decode cX10_step 199 = .ok (.iadd, 1) := by decide +kernel
theorem dX10_step_200 : decode cX10_step 200 = .ok (.putfield 303, 3) := by decide +kernel
theorem dX10_step_203 : decode cX10_step 203 = .ok (.goto (-67), 3) := by decide +kernel
theorem dX10_step_206 : decode cX10_step 206 = .ok (.aload_n 0, 1) := by decide +kernel
theorem dX10_step_207 : decode cX10_step 207 = .ok (.aload_n 0, 1) := by decide +kernel
theorem dX10_step_208 : decode cX10_step 208 = .ok (.getfield 303, 3) := by decide +kernel
theorem dX10_step_211 : decode cX10_step 211 = .ok (.aload_n 0, 1) := by decide +kernel
theorem dX10_step_212 : decode cX10_step 212 = .ok (.getfield 309, 3) := by decide +kernel
theorem dX10_step_215 : decode cX10_step 215 = .ok (.isub, 1) := by decide +kernel
theorem dX10_step_216 : decode cX10_step 216 = .ok (.iconst 4, 1) := by decide +kernel
theorem dX10_step_217 : decode cX10_step 217 = .ok (.if_icmp .le 7, 3) := by decide +kernel
theorem dX10_step_220 : decode cX10_step 220 = .ok (.iconst 4, 1) := by decide +kernel
theorem dX10_step_221 : decode cX10_step 221 = .ok (.goto 4, 3) := by decide +kernel
theorem dX10_step_224 : decode cX10_step 224 = .ok (.iconst 2, 1) := by decide +kernel
theorem dX10_step_225 : decode cX10_step 225 = .ok (.putfield 312, 3) := by decide +kernel
theorem dX10_step_228 : decode cX10_step 228 = .ok (.goto 64, 3) := by decide +kernel
theorem dX10_step_231 : decode cX10_step 231 = .ok (.aload_n 0, 1) := by decide +kernel
theorem dX10_step_232 : decode cX10_step 232 = .ok (.iload_n 1, 1) := by decide +kernel
theorem dX10_step_233 : decode cX10_step 233 = .ok (.putfield 321, 3) := by decide +kernel
theorem dX10_step_236 : decode cX10_step 236 = .ok (.aload_n 0, 1) := by decide +kernel
theorem dX10_step_237 : decode cX10_step 237 = .ok (.iload_n 1, 1) := by decide +kernel
theorem dX10_step_238 : decode cX10_step 238 = .ok (.bipush 61, 2) := by decide +kernel
theorem dX10_step_240 : decode cX10_step 240 = .ok (.if_icmp .eq 34, 3) := by decide +kernel
theorem dX10_step_243 : decode cX10_step 243 = .ok (.iload_n 1, 1) := by decide +kernel
theorem dX10_step_244 : decode cX10_step 244 = .ok (.bipush 59, 2) := by decide +kernel
theorem dX10_step_246 : decode cX10_step 246 = .ok (.if_icmp .eq 28, 3) := by decide +kernel
theorem dX10_step_249 : decode cX10_step 249 = .ok (.iload_n 1, 1) := by decide +kernel
theorem dX10_step_250 : decode cX10_step 250 = .ok (.bipush 58, 2) := by decide +kernel
theorem dX10_step_252 : decode cX10_step 252 = .ok (.if_icmp .eq 22, 3) := by decide +kernel
theorem dX10_step_255 : decode cX10_step 255 = .ok (.iload_n 1, 1) := by decide +kernel
theorem dX10_step_256 : decode cX10_step 256 = .ok (.bipush 44, 2) := by decide +kernel
theorem dX10_step_258 : decode cX10_step 258 = .ok (.if_icmp .eq 16, 3) := by decide +kernel
theorem dX10_step_261 : decode cX10_step 261 = .ok (.iload_n 1, 1) := by decide +kernel
theorem dX10_step_262 : decode cX10_step 262 = .ok (.bipush 33, 2) := by decide +kernel
theorem dX10_step_264 : decode cX10_step 264 = .ok (.if_icmp .eq 10, 3) := by decide +kernel
theorem dX10_step_267 : decode cX10_step 267 = .ok (.iload_n 1, 1) := by decide +kernel
theorem dX10_step_268 : decode cX10_step 268 = .ok (.invokestatic 324, 3) := by decide +kernel
theorem dX10_step_271 : decode cX10_step 271 = .ok (.ifCond .le 7, 3) := by decide +kernel
theorem dX10_step_274 : decode cX10_step 274 = .ok (.iconst 3, 1) := by decide +kernel
theorem dX10_step_275 : decode cX10_step 275 = .ok (.goto 4, 3) := by decide +kernel
theorem dX10_step_278 : decode cX10_step 278 = .ok (.iconst 4, 1) := by decide +kernel
theorem dX10_step_279 : decode cX10_step 279 = .ok (.putfield 312, 3) := by decide +kernel
theorem dX10_step_282 : decode cX10_step 282 = .ok (.aload_n 0, 1) := by decide +kernel
theorem dX10_step_283 : decode cX10_step 283 = .ok (.dup, 1) := by decide +kernel
theorem dX10_step_284 : decode cX10_step 284 = .ok (.getfield 303, 3) := by decide +kernel
theorem dX10_step_287 : decode cX10_step 287 = .ok (.iconst 1, 1) := by decide +kernel
theorem dX10_step_288 : decode cX10_step 288 = .ok (.iadd, 1) := by decide +kernel
theorem dX10_step_289 : decode cX10_step 289 = .ok (.putfield 303, 3) := by decide +kernel
theorem dX10_step_292 : decode cX10_step 292 = .ok (.return_, 1) := by decide +kernel
abbrev VX10_step_0 (E : En) (d : Nat) (g : Ga) (P : Hp → Prop) (h : Hp) : Prop := V E MX10_step (RM (d + 1) 0) g (QQ E g (QV E P) 0 0) 0 0 h 0 [(0, .ref (eA E 63))] []
abbrev VX10_step_75 (E : En) (d : Nat) (g : Ga) (P : Hp → Prop) (x1 : Int32) (h : Hp) : Prop := V E MX10_step (RM (d + 1) 0) g (QQ E g (QV E P) 0 0) 0 0 h 75 [(0, .ref (eA E 63)), (1, .int x1)] []
abbrev VX10_step_136 (E : En) (d : Nat) (g : Ga) (P : Hp → Prop) (x1 : Int32) (h : Hp) : Prop := V E MX10_step (RM (d + 1) 0) g (QQ E g (QV E P) 0 0) 0 0 h 136 [(0, .ref (eA E 63)), (1, .int x1)] []
set_option maxRecDepth 20000 in
theorem sg_X10_step_75 (E : En) (d : Nat) (g : Ga) (x1 : Int32) (h : Hp) (P : Hp → Prop) (t : SpI E d MX10_byteAt [.ref (eA E 63), .int (h.1 63 45)] h (fun v1 h1 => SpI E d MX10_isLetter [.int v1] h1 (fun v2 h2 => (¬ v2 = 0 → (VX10_step_75 E d g P x1 (sI h2 63 45 ((h2.1 63 45) + (1 : Int32))))) ∧ (v2 = 0 → (SpI E d MX10_byteAt [.ref (eA E 63), .int (h2.1 63 45)] h2 (fun v4 h4 => SpI E d MX10_isDigit [.int v4] h4 (fun v5 h5 => (v5 = 0 → (P (sI h5 63 46 (1 : Int32)))) ∧ (¬ v5 = 0 → (VX10_step_75 E d g P x1 (sI h5 63 45 ((h5.1 63 45) + (1 : Int32)))))))))))) : VX10_step_75 E d g P x1 h := by
  refine r_aload_n (q := 0) dX10_step_75 rfl rfl ?_
  refine r_aload_n (q := 0) dX10_step_76 rfl rfl ?_
  refine r_getI (c := 63) dX10_step_77 flX10_303 lay_63 rfl ?_
  refine r_cVI (c := 63) (As := [.int (h.1 63 45)]) dX10_step_80 mkX10_byteAt lkX10_306 lay_63 rfl rfl rfl (by decide) rfl (Nat.le_of_ble_eq_true rfl) z00 t ?_
  intro v1 h1 t
  refine r_cSI (As := [.int v1]) dX10_step_83 mkX10_isLetter lkX10_315 rfl (by decide) rfl (Nat.le_of_ble_eq_true rfl) z00 t ?_
  intro v2 h2 t
  refine r_if_ne (tgt := 103) dX10_step_86 (by decide) (fun q3 => ?_) (fun q3 => ?_)
  · have t := t.1 q3
    refine r_aload_n (q := 0) dX10_step_103 rfl rfl ?_
    refine r_dup dX10_step_104 rfl ?_
    refine r_getI (c := 63) dX10_step_105 flX10_303 lay_63 rfl ?_
    refine r_iconst (v := (1 : Int32)) dX10_step_108 rfl ?_
    refine r_iadd dX10_step_109 ?_
    refine r_putI (c := 63) dX10_step_110 flX10_303 lay_63 rfl ?_
    refine r_goto (tgt := 75) dX10_step_113 (by decide) ?_
    exact t
  · have t := t.2 q3
    refine r_aload_n (q := 0) dX10_step_89 rfl rfl ?_
    refine r_aload_n (q := 0) dX10_step_90 rfl rfl ?_
    refine r_getI (c := 63) dX10_step_91 flX10_303 lay_63 rfl ?_
    refine r_cVI (c := 63) (As := [.int (h2.1 63 45)]) dX10_step_94 mkX10_byteAt lkX10_306 lay_63 rfl rfl rfl (by decide) rfl (Nat.le_of_ble_eq_true rfl) z00 t ?_
    intro v4 h4 t
    refine r_cSI (As := [.int v4]) dX10_step_97 mkX10_isDigit lkX10_318 rfl (by decide) rfl (Nat.le_of_ble_eq_true rfl) z00 t ?_
    intro v5 h5 t
    refine r_if_eq (tgt := 116) dX10_step_100 (by decide) (fun q6 => ?_) (fun q6 => ?_)
    · have t := t.1 q6
      refine r_aload_n (q := 0) dX10_step_116 rfl rfl ?_
      refine r_iconst (v := (1 : Int32)) dX10_step_117 rfl ?_
      refine r_putI (c := 63) dX10_step_118 flX10_312 lay_63 rfl ?_
      refine r_goto (tgt := 292) dX10_step_121 (by decide) ?_
      exact r_vret dX10_step_292 rfl t
    · have t := t.2 q6
      refine r_aload_n (q := 0) dX10_step_103 rfl rfl ?_
      refine r_dup dX10_step_104 rfl ?_
      refine r_getI (c := 63) dX10_step_105 flX10_303 lay_63 rfl ?_
      refine r_iconst (v := (1 : Int32)) dX10_step_108 rfl ?_
      refine r_iadd dX10_step_109 ?_
      refine r_putI (c := 63) dX10_step_110 flX10_303 lay_63 rfl ?_
      refine r_goto (tgt := 75) dX10_step_113 (by decide) ?_
      exact t
set_option maxRecDepth 20000 in
theorem sg_X10_step_136 (E : En) (d : Nat) (g : Ga) (x1 : Int32) (h : Hp) (P : Hp → Prop) (t : SpI E d MX10_byteAt [.ref (eA E 63), .int (h.1 63 45)] h (fun v1 h1 => SpI E d MX10_isDigit [.int v1] h1 (fun v2 h2 => (v2 = 0 → ((((h2.1 63 45) - (h2.1 63 44)) ≤ (4 : Int32) → (P (sI h2 63 46 (2 : Int32)))) ∧ (¬ ((h2.1 63 45) - (h2.1 63 44)) ≤ (4 : Int32) → (P (sI h2 63 46 (4 : Int32)))))) ∧ (¬ v2 = 0 → (((4 : Int32) ≤ ((h2.1 63 45) - (h2.1 63 44)) → (VX10_step_136 E d g P x1 (sI (sI h2 63 47 (h2.1 63 47)) 63 45 ((h2.1 63 45) + (1 : Int32))))) ∧ (¬ (4 : Int32) ≤ ((h2.1 63 45) - (h2.1 63 44)) → (SpI E d MX10_byteAt [.ref (eA E 63), .int (h2.1 63 45)] h2 (fun v6 h6 => VX10_step_136 E d g P x1 (sI (sI h6 63 47 ((((10 : Int32) * (h2.1 63 47)) + v6) - (48 : Int32))) 63 45 ((h6.1 63 45) + (1 : Int32))))))))))) : VX10_step_136 E d g P x1 h := by
  refine r_aload_n (q := 0) dX10_step_136 rfl rfl ?_
  refine r_aload_n (q := 0) dX10_step_137 rfl rfl ?_
  refine r_getI (c := 63) dX10_step_138 flX10_303 lay_63 rfl ?_
  refine r_cVI (c := 63) (As := [.int (h.1 63 45)]) dX10_step_141 mkX10_byteAt lkX10_306 lay_63 rfl rfl rfl (by decide) rfl (Nat.le_of_ble_eq_true rfl) z00 t ?_
  intro v1 h1 t
  refine r_cSI (As := [.int v1]) dX10_step_144 mkX10_isDigit lkX10_318 rfl (by decide) rfl (Nat.le_of_ble_eq_true rfl) z00 t ?_
  intro v2 h2 t
  refine r_if_eq (tgt := 206) dX10_step_147 (by decide) (fun q3 => ?_) (fun q3 => ?_)
  · have t := t.1 q3
    refine r_aload_n (q := 0) dX10_step_206 rfl rfl ?_
    refine r_aload_n (q := 0) dX10_step_207 rfl rfl ?_
    refine r_getI (c := 63) dX10_step_208 flX10_303 lay_63 rfl ?_
    refine r_aload_n (q := 0) dX10_step_211 rfl rfl ?_
    refine r_getI (c := 63) dX10_step_212 flX10_309 lay_63 rfl ?_
    refine r_isub dX10_step_215 ?_
    refine r_iconst (v := (4 : Int32)) dX10_step_216 rfl ?_
    refine r_icmp_le (tgt := 224) dX10_step_217 (by decide) (fun q4 => ?_) (fun q4 => ?_)
    · have t := t.1 q4
      refine r_iconst (v := (2 : Int32)) dX10_step_224 rfl ?_
      refine r_putI (c := 63) dX10_step_225 flX10_312 lay_63 rfl ?_
      refine r_goto (tgt := 292) dX10_step_228 (by decide) ?_
      exact r_vret dX10_step_292 rfl t
    · have t := t.2 q4
      refine r_iconst (v := (4 : Int32)) dX10_step_220 rfl ?_
      refine r_goto (tgt := 225) dX10_step_221 (by decide) ?_
      refine r_putI (c := 63) dX10_step_225 flX10_312 lay_63 rfl ?_
      refine r_goto (tgt := 292) dX10_step_228 (by decide) ?_
      exact r_vret dX10_step_292 rfl t
  · have t := t.2 q3
    refine r_aload_n (q := 0) dX10_step_150 rfl rfl ?_
    refine r_aload_n (q := 0) dX10_step_151 rfl rfl ?_
    refine r_getI (c := 63) dX10_step_152 flX10_303 lay_63 rfl ?_
    refine r_aload_n (q := 0) dX10_step_155 rfl rfl ?_
    refine r_getI (c := 63) dX10_step_156 flX10_309 lay_63 rfl ?_
    refine r_isub dX10_step_159 ?_
    refine r_iconst (v := (4 : Int32)) dX10_step_160 rfl ?_
    refine r_icmp_ge (tgt := 186) dX10_step_161 (by decide) (fun q5 => ?_) (fun q5 => ?_)
    · have t := t.1 q5
      refine r_aload_n (q := 0) dX10_step_186 rfl rfl ?_
      refine r_getI (c := 63) dX10_step_187 flX10_321 lay_63 rfl ?_
      refine r_putI (c := 63) dX10_step_190 flX10_321 lay_63 rfl ?_
      refine r_aload_n (q := 0) dX10_step_193 rfl rfl ?_
      refine r_dup dX10_step_194 rfl ?_
      refine r_getIv (c := 63) (v := h2.1 63 45) dX10_step_195 flX10_303 lay_63 rfl rfl ?_
      refine r_iconst (v := (1 : Int32)) dX10_step_198 rfl ?_
      refine r_iadd dX10_step_199 ?_
      refine r_putI (c := 63) dX10_step_200 flX10_303 lay_63 rfl ?_
      refine r_goto (tgt := 136) dX10_step_203 (by decide) ?_
      exact t
    · have t := t.2 q5
      refine r_bipush (v := (10 : Int32)) dX10_step_164 rfl ?_
      refine r_aload_n (q := 0) dX10_step_166 rfl rfl ?_
      refine r_getI (c := 63) dX10_step_167 flX10_321 lay_63 rfl ?_
      refine r_imul dX10_step_170 ?_
      refine r_aload_n (q := 0) dX10_step_171 rfl rfl ?_
      refine r_aload_n (q := 0) dX10_step_172 rfl rfl ?_
      refine r_getI (c := 63) dX10_step_173 flX10_303 lay_63 rfl ?_
      refine r_cVI (c := 63) (As := [.int (h2.1 63 45)]) dX10_step_176 mkX10_byteAt lkX10_306 lay_63 rfl rfl rfl (by decide) rfl (Nat.le_of_ble_eq_true rfl) z00 t ?_
      intro v6 h6 t
      refine r_iadd dX10_step_179 ?_
      refine r_bipush (v := (48 : Int32)) dX10_step_180 rfl ?_
      refine r_isub dX10_step_182 ?_
      refine r_goto (tgt := 190) dX10_step_183 (by decide) ?_
      refine r_putI (c := 63) dX10_step_190 flX10_321 lay_63 rfl ?_
      refine r_aload_n (q := 0) dX10_step_193 rfl rfl ?_
      refine r_dup dX10_step_194 rfl ?_
      refine r_getIv (c := 63) (v := h6.1 63 45) dX10_step_195 flX10_303 lay_63 rfl rfl ?_
      refine r_iconst (v := (1 : Int32)) dX10_step_198 rfl ?_
      refine r_iadd dX10_step_199 ?_
      refine r_putI (c := 63) dX10_step_200 flX10_303 lay_63 rfl ?_
      refine r_goto (tgt := 136) dX10_step_203 (by decide) ?_
      exact t
theorem dX10_bad_0 : decode cX10_bad 0 = .ok (.aload_n 0, 1) := by decide +kernel
theorem dX10_bad_1 : decode cX10_bad 1 = .ok (.iload_n 1, 1) := by decide +kernel
theorem dX10_bad_2 : decode cX10_bad 2 = .ok (.putfield 327, 3) := by decide +kernel
theorem dX10_bad_5 : decode cX10_bad 5 = .ok (.aload_n 0, 1) := by decide +kernel
theorem dX10_bad_6 : decode cX10_bad 6 = .ok (.aload_n 0, 1) := by decide +kernel
theorem dX10_bad_7 : decode cX10_bad 7 = .ok (.getfield 309, 3) := by decide +kernel
theorem dX10_bad_10 : decode cX10_bad 10 = .ok (.putfield 330, 3) := by decide +kernel
theorem dX10_bad_13 : decode cX10_bad 13 = .ok (.iconst 0, 1) := by decide +kernel
theorem dX10_bad_14 : decode cX10_bad 14 = .ok (.ireturn, 1) := by decide +kernel
set_option maxRecDepth 20000 in
theorem wp_X10_bad (E : En) (d : Nat) (a1 : Int32) (h : Hp) (P : Int32 → Hp → Prop) (t : P (0 : Int32) (sI (sI h 63 48 a1) 63 49 (h.1 63 44))) : SpI E d MX10_bad [.ref (eA E 63), .int a1] h P := by
  refine SpI.of (lv0 := [(0, .ref (eA E 63)), (1, .int a1)]) (by decide) (Nat.le_of_ble_eq_true rfl) rfl (fun g => ?_)
  refine r_aload_n (q := 0) dX10_bad_0 rfl rfl ?_
  refine r_iload_n (q := 1) dX10_bad_1 rfl rfl ?_
  refine r_putI (c := 63) dX10_bad_2 flX10_327 lay_63 rfl ?_
  refine r_aload_n (q := 0) dX10_bad_5 rfl rfl ?_
  refine r_aload_n (q := 0) dX10_bad_6 rfl rfl ?_
  refine r_getIv (c := 63) (v := h.1 63 44) dX10_bad_7 flX10_309 lay_63 rfl rfl ?_
  refine r_putI (c := 63) dX10_bad_10 flX10_330 lay_63 rfl ?_
  refine r_iconst (v := (0 : Int32)) dX10_bad_13 rfl ?_
  exact r_zret dX10_bad_14 rfl (Or.inl rfl) t
theorem dX10_isSign_0 : decode cX10_isSign 0 = .ok (.aload_n 0, 1) := by decide +kernel
theorem dX10_isSign_1 : decode cX10_isSign 1 = .ok (.getfield 312, 3) := by decide +kernel
theorem dX10_isSign_4 : decode cX10_isSign 4 = .ok (.iconst 3, 1) := by decide +kernel
theorem dX10_isSign_5 : decode cX10_isSign 5 = .ok (.if_icmp .ne 15, 3) := by decide +kernel
theorem dX10_isSign_8 : decode cX10_isSign 8 = .ok (.aload_n 0, 1) := by decide +kernel
theorem dX10_isSign_9 : decode cX10_isSign 9 = .ok (.getfield 321, 3) := by decide +kernel
theorem dX10_isSign_12 : decode cX10_isSign 12 = .ok (.iload_n 1, 1) := by decide +kernel
theorem dX10_isSign_13 : decode cX10_isSign 13 = .ok (.if_icmp .ne 7, 3) := by decide +kernel
theorem dX10_isSign_16 : decode cX10_isSign 16 = .ok (.iconst 1, 1) := by decide +kernel
theorem dX10_isSign_17 : decode cX10_isSign 17 = .ok (.goto 4, 3) := by decide +kernel
theorem dX10_isSign_20 : decode cX10_isSign 20 = .ok (.iconst 0, 1) := by decide +kernel
theorem dX10_isSign_21 : decode cX10_isSign 21 = .ok (.ireturn, 1) := by decide +kernel
set_option maxRecDepth 20000 in
theorem wp_X10_isSign (E : En) (d : Nat) (a1 : Int32) (h : Hp) (P : Int32 → Hp → Prop) (t : (¬ (h.1 63 46) = (3 : Int32) → (P (0 : Int32) h)) ∧ ((h.1 63 46) = (3 : Int32) → ((¬ (h.1 63 47) = a1 → (P (0 : Int32) h)) ∧ ((h.1 63 47) = a1 → (P (1 : Int32) h))))) : SpI E d MX10_isSign [.ref (eA E 63), .int a1] h P := by
  refine SpI.of (lv0 := [(0, .ref (eA E 63)), (1, .int a1)]) (by decide) (Nat.le_of_ble_eq_true rfl) rfl (fun g => ?_)
  refine r_aload_n (q := 0) dX10_isSign_0 rfl rfl ?_
  refine r_getI (c := 63) dX10_isSign_1 flX10_312 lay_63 rfl ?_
  refine r_iconst (v := (3 : Int32)) dX10_isSign_4 rfl ?_
  refine r_icmp_ne (tgt := 20) dX10_isSign_5 (by decide) (fun q1 => ?_) (fun q1 => ?_)
  · have t := t.1 q1
    refine r_iconst (v := (0 : Int32)) dX10_isSign_20 rfl ?_
    exact r_zret dX10_isSign_21 rfl (Or.inl rfl) t
  · have t := t.2 q1
    refine r_aload_n (q := 0) dX10_isSign_8 rfl rfl ?_
    refine r_getI (c := 63) dX10_isSign_9 flX10_321 lay_63 rfl ?_
    refine r_iload_n (q := 1) dX10_isSign_12 rfl rfl ?_
    refine r_icmp_ne (tgt := 20) dX10_isSign_13 (by decide) (fun q2 => ?_) (fun q2 => ?_)
    · have t := t.1 q2
      refine r_iconst (v := (0 : Int32)) dX10_isSign_20 rfl ?_
      exact r_zret dX10_isSign_21 rfl (Or.inl rfl) t
    · have t := t.2 q2
      refine r_iconst (v := (1 : Int32)) dX10_isSign_16 rfl ?_
      refine r_goto (tgt := 21) dX10_isSign_17 (by decide) ?_
      exact r_zret dX10_isSign_21 rfl (Or.inr rfl) t
theorem dX10_takesSign_0 : decode cX10_takesSign 0 = .ok (.aload_n 0, 1) := by decide +kernel
theorem dX10_takesSign_1 : decode cX10_takesSign 1 = .ok (.iload_n 1, 1) := by decide +kernel
theorem dX10_takesSign_2 : decode cX10_takesSign 2 = .ok (.invokevirtual 333, 3) := by decide +kernel
theorem dX10_takesSign_5 : decode cX10_takesSign 5 = .ok (.ifCond .ne 9, 3) := by decide +kernel
theorem dX10_takesSign_8 : decode cX10_takesSign 8 = .ok (.aload_n 0, 1) := by decide +kernel
theorem dX10_takesSign_9 : decode cX10_takesSign 9 = .ok (.iconst 1, 1) := by decide +kernel
theorem dX10_takesSign_10 : decode cX10_takesSign 10 = .ok (.invokevirtual 336, 3) := by decide +kernel
theorem dX10_takesSign_13 : decode cX10_takesSign 13 = .ok (.ireturn, 1) := by decide +kernel
theorem dX10_takesSign_14 : decode cX10_takesSign 14 = .ok (.aload_n 0, 1) := by decide +kernel
theorem dX10_takesSign_15 : decode cX10_takesSign 15 = .ok (.invokevirtual 339, 3) := by decide +kernel
theorem dX10_takesSign_18 : decode cX10_takesSign 18 = .ok (.iconst 1, 1) := by decide +kernel
theorem dX10_takesSign_19 : decode cX10_takesSign 19 = .ok (.ireturn, 1) := by decide +kernel
set_option maxRecDepth 20000 in
theorem wp_X10_takesSign (E : En) (d : Nat) (a1 : Int32) (h : Hp) (P : Int32 → Hp → Prop) (t : SpI E d MX10_isSign [.ref (eA E 63), .int a1] h (fun v1 h1 => (¬ v1 = 0 → (SpV E d MX10_step [.ref (eA E 63)] h1 (fun h3 => P (1 : Int32) h3))) ∧ (v1 = 0 → (SpI E d MX10_bad [.ref (eA E 63), .int (1 : Int32)] h1 (fun v4 h4 => (v4 = 0 ∨ v4 = 1) ∧ P v4 h4))))) : SpI E (d + 1) MX10_takesSign [.ref (eA E 63), .int a1] h P := by
  refine SpI.of (lv0 := [(0, .ref (eA E 63)), (1, .int a1)]) (by decide) (Nat.le_of_ble_eq_true rfl) rfl (fun g => ?_)
  refine r_aload_n (q := 0) dX10_takesSign_0 rfl rfl ?_
  refine r_iload_n (q := 1) dX10_takesSign_1 rfl rfl ?_
  refine r_cVI (c := 63) (As := [.int a1]) dX10_takesSign_2 mkX10_isSign lkX10_333 lay_63 rfl rfl rfl (by decide) rfl (Nat.le_of_ble_eq_true rfl) z00 t ?_
  intro v1 h1 t
  refine r_if_ne (tgt := 14) dX10_takesSign_5 (by decide) (fun q2 => ?_) (fun q2 => ?_)
  · have t := t.1 q2
    refine r_aload_n (q := 0) dX10_takesSign_14 rfl rfl ?_
    refine r_cVV (c := 63) (As := []) dX10_takesSign_15 mkX10_step lkX10_339 lay_63 rfl rfl rfl (by decide) rfl (Nat.le_of_ble_eq_true rfl) z00 t ?_
    intro h3 t
    refine r_iconst (v := (1 : Int32)) dX10_takesSign_18 rfl ?_
    exact r_zret dX10_takesSign_19 rfl (Or.inr rfl) t
  · have t := t.2 q2
    refine r_aload_n (q := 0) dX10_takesSign_8 rfl rfl ?_
    refine r_iconst (v := (1 : Int32)) dX10_takesSign_9 rfl ?_
    refine r_cVI (c := 63) (As := [.int (1 : Int32)]) dX10_takesSign_10 mkX10_bad lkX10_336 lay_63 rfl rfl rfl (by decide) rfl (Nat.le_of_ble_eq_true rfl) z00 t ?_
    intro v4 h4 t
    exact r_zret dX10_takesSign_13 rfl t.1 t.2
theorem dX10_registerHere_0 : decode cX10_registerHere 0 = .ok (.aload_n 0, 1) := by decide +kernel
theorem dX10_registerHere_1 : decode cX10_registerHere 1 = .ok (.getfield 312, 3) := by decide +kernel
theorem dX10_registerHere_4 : decode cX10_registerHere 4 = .ok (.iconst 1, 1) := by decide +kernel
theorem dX10_registerHere_5 : decode cX10_registerHere 5 = .ok (.if_icmp .ne 65, 3) := by decide +kernel
theorem dX10_registerHere_8 : decode cX10_registerHere 8 = .ok (.aload_n 0, 1) := by decide +kernel
theorem dX10_registerHere_9 : decode cX10_registerHere 9 = .ok (.getfield 303, 3) := by decide +kernel
theorem dX10_registerHere_12 : decode cX10_registerHere 12 = .ok (.aload_n 0, 1) := by decide +kernel
theorem dX10_registerHere_13 : decode cX10_registerHere 13 = .ok (.getfield 309, 3) := by decide +kernel
theorem dX10_registerHere_16 : decode cX10_registerHere 16 = .ok (.isub, 1) := by decide +kernel
theorem dX10_registerHere_17 : decode cX10_registerHere 17 = .ok (.iconst 2, 1) := by decide +kernel
theorem dX10_registerHere_18 : decode cX10_registerHere 18 = .ok (.if_icmp .ne 52, 3) := by decide +kernel
theorem dX10_registerHere_21 : decode cX10_registerHere 21 = .ok (.aload_n 0, 1) := by decide +kernel
theorem dX10_registerHere_22 : decode cX10_registerHere 22 = .ok (.aload_n 0, 1) := by decide +kernel
theorem dX10_registerHere_23 : decode cX10_registerHere 23 = .ok (.getfield 309, 3) := by decide +kernel
theorem dX10_registerHere_26 : decode cX10_registerHere 26 = .ok (.invokevirtual 306, 3) := by decide +kernel
theorem dX10_registerHere_29 : decode cX10_registerHere 29 = .ok (.bipush 114, 2) := by decide +kernel
theorem dX10_registerHere_31 : decode cX10_registerHere 31 = .ok (.if_icmp .ne 39, 3) := by decide +kernel
theorem dX10_registerHere_34 : decode cX10_registerHere 34 = .ok (.aload_n 0, 1) := by decide +kernel
theorem dX10_registerHere_35 : decode cX10_registerHere 35 = .ok (.aload_n 0, 1) := by decide +kernel
theorem dX10_registerHere_36 : decode cX10_registerHere 36 = .ok (.getfield 309, 3) := by decide +kernel
theorem dX10_registerHere_39 : decode cX10_registerHere 39 = .ok (.iconst 1, 1) := by decide +kernel
theorem dX10_registerHere_40 : decode cX10_registerHere 40 = .ok (.iadd, 1) := by decide +kernel
theorem dX10_registerHere_41 : decode cX10_registerHere 41 = .ok (.invokevirtual 306, 3) := by decide +kernel
theorem dX10_registerHere_44 : decode cX10_registerHere 44 = .ok (.bipush 48, 2) := by decide +kernel
theorem dX10_registerHere_46 : decode cX10_registerHere 46 = .ok (.bipush 55, 2) := by decide +kernel
theorem dX10_registerHere_48 : decode cX10_registerHere 48 = .ok (.invokestatic 124, 3) := by decide +kernel
theorem dX10_registerHere_51 : decode cX10_registerHere 51 = .ok (.ifCond .eq 19, 3) := by decide +kernel
theorem dX10_registerHere_54 : decode cX10_registerHere 54 = .ok (.aload_n 0, 1) := by decide +kernel
theorem dX10_registerHere_55 : decode cX10_registerHere 55 = .ok (.aload_n 0, 1) := by decide +kernel
theorem dX10_registerHere_56 : decode cX10_registerHere 56 = .ok (.getfield 309, 3) := by decide +kernel
theorem dX10_registerHere_59 : decode cX10_registerHere 59 = .ok (.iconst 1, 1) := by decide +kernel
theorem dX10_registerHere_60 : decode cX10_registerHere 60 = .ok (.iadd, 1) := by decide +kernel
theorem dX10_registerHere_61 : decode cX10_registerHere 61 = .ok (.invokevirtual 306, 3) := by decide +kernel
theorem dX10_registerHere_64 : decode cX10_registerHere 64 = .ok (.bipush 48, 2) := by decide +kernel
theorem dX10_registerHere_66 : decode cX10_registerHere 66 = .ok (.isub, 1) := by decide +kernel
theorem dX10_registerHere_67 : decode cX10_registerHere 67 = .ok (.goto 4, 3) := by decide +kernel
theorem dX10_registerHere_70 : decode cX10_registerHere 70 = .ok (.iconst (-1), 1) := by decide +kernel
theorem dX10_registerHere_71 : decode cX10_registerHere 71 = .ok (.ireturn, 1) := by decide +kernel
set_option maxRecDepth 20000 in
theorem wp_X10_registerHere (E : En) (d : Nat) (h : Hp) (P : Int32 → Hp → Prop) (t : (¬ (h.1 63 46) = (1 : Int32) → (P (-1 : Int32) h)) ∧ ((h.1 63 46) = (1 : Int32) → ((¬ ((h.1 63 45) - (h.1 63 44)) = (2 : Int32) → (P (-1 : Int32) h)) ∧ (((h.1 63 45) - (h.1 63 44)) = (2 : Int32) → (SpI E d MX10_byteAt [.ref (eA E 63), .int (h.1 63 44)] h (fun v3 h3 => (¬ v3 = (114 : Int32) → (P (-1 : Int32) h3)) ∧ (v3 = (114 : Int32) → (SpI E d MX10_byteAt [.ref (eA E 63), .int ((h3.1 63 44) + (1 : Int32))] h3 (fun v5 h5 => SpI E d MX10_isIn [.int v5, .int (48 : Int32), .int (55 : Int32)] h5 (fun v6 h6 => (v6 = 0 → (P (-1 : Int32) h6)) ∧ (¬ v6 = 0 → (SpI E d MX10_byteAt [.ref (eA E 63), .int ((h6.1 63 44) + (1 : Int32))] h6 (fun v8 h8 => P (v8 - (48 : Int32)) h8))))))))))))) : SpI E (d + 1) MX10_registerHere [.ref (eA E 63)] h P := by
  refine SpI.of (lv0 := [(0, .ref (eA E 63))]) (by decide) (Nat.le_of_ble_eq_true rfl) rfl (fun g => ?_)
  refine r_aload_n (q := 0) dX10_registerHere_0 rfl rfl ?_
  refine r_getI (c := 63) dX10_registerHere_1 flX10_312 lay_63 rfl ?_
  refine r_iconst (v := (1 : Int32)) dX10_registerHere_4 rfl ?_
  refine r_icmp_ne (tgt := 70) dX10_registerHere_5 (by decide) (fun q1 => ?_) (fun q1 => ?_)
  · have t := t.1 q1
    refine r_iconst (v := (-1 : Int32)) dX10_registerHere_70 rfl ?_
    exact r_iret dX10_registerHere_71 rfl t
  · have t := t.2 q1
    refine r_aload_n (q := 0) dX10_registerHere_8 rfl rfl ?_
    refine r_getI (c := 63) dX10_registerHere_9 flX10_303 lay_63 rfl ?_
    refine r_aload_n (q := 0) dX10_registerHere_12 rfl rfl ?_
    refine r_getI (c := 63) dX10_registerHere_13 flX10_309 lay_63 rfl ?_
    refine r_isub dX10_registerHere_16 ?_
    refine r_iconst (v := (2 : Int32)) dX10_registerHere_17 rfl ?_
    refine r_icmp_ne (tgt := 70) dX10_registerHere_18 (by decide) (fun q2 => ?_) (fun q2 => ?_)
    · have t := t.1 q2
      refine r_iconst (v := (-1 : Int32)) dX10_registerHere_70 rfl ?_
      exact r_iret dX10_registerHere_71 rfl t
    · have t := t.2 q2
      refine r_aload_n (q := 0) dX10_registerHere_21 rfl rfl ?_
      refine r_aload_n (q := 0) dX10_registerHere_22 rfl rfl ?_
      refine r_getI (c := 63) dX10_registerHere_23 flX10_309 lay_63 rfl ?_
      refine r_cVI (c := 63) (As := [.int (h.1 63 44)]) dX10_registerHere_26 mkX10_byteAt lkX10_306 lay_63 rfl rfl rfl (by decide) rfl (Nat.le_of_ble_eq_true rfl) z00 t ?_
      intro v3 h3 t
      refine r_bipush (v := (114 : Int32)) dX10_registerHere_29 rfl ?_
      refine r_icmp_ne (tgt := 70) dX10_registerHere_31 (by decide) (fun q4 => ?_) (fun q4 => ?_)
      · have t := t.1 q4
        refine r_iconst (v := (-1 : Int32)) dX10_registerHere_70 rfl ?_
        exact r_iret dX10_registerHere_71 rfl t
      · have t := t.2 q4
        refine r_aload_n (q := 0) dX10_registerHere_34 rfl rfl ?_
        refine r_aload_n (q := 0) dX10_registerHere_35 rfl rfl ?_
        refine r_getI (c := 63) dX10_registerHere_36 flX10_309 lay_63 rfl ?_
        refine r_iconst (v := (1 : Int32)) dX10_registerHere_39 rfl ?_
        refine r_iadd dX10_registerHere_40 ?_
        refine r_cVI (c := 63) (As := [.int ((h3.1 63 44) + (1 : Int32))]) dX10_registerHere_41 mkX10_byteAt lkX10_306 lay_63 rfl rfl rfl (by decide) rfl (Nat.le_of_ble_eq_true rfl) z00 t ?_
        intro v5 h5 t
        refine r_bipush (v := (48 : Int32)) dX10_registerHere_44 rfl ?_
        refine r_bipush (v := (55 : Int32)) dX10_registerHere_46 rfl ?_
        refine r_cSI (As := [.int v5, .int (48 : Int32), .int (55 : Int32)]) dX10_registerHere_48 mkX10_isIn lkX10_124 rfl (by decide) rfl (Nat.le_of_ble_eq_true rfl) z00 t ?_
        intro v6 h6 t
        refine r_if_eq (tgt := 70) dX10_registerHere_51 (by decide) (fun q7 => ?_) (fun q7 => ?_)
        · have t := t.1 q7
          refine r_iconst (v := (-1 : Int32)) dX10_registerHere_70 rfl ?_
          exact r_iret dX10_registerHere_71 rfl t
        · have t := t.2 q7
          refine r_aload_n (q := 0) dX10_registerHere_54 rfl rfl ?_
          refine r_aload_n (q := 0) dX10_registerHere_55 rfl rfl ?_
          refine r_getI (c := 63) dX10_registerHere_56 flX10_309 lay_63 rfl ?_
          refine r_iconst (v := (1 : Int32)) dX10_registerHere_59 rfl ?_
          refine r_iadd dX10_registerHere_60 ?_
          refine r_cVI (c := 63) (As := [.int ((h6.1 63 44) + (1 : Int32))]) dX10_registerHere_61 mkX10_byteAt lkX10_306 lay_63 rfl rfl rfl (by decide) rfl (Nat.le_of_ble_eq_true rfl) z00 t ?_
          intro v8 h8 t
          refine r_bipush (v := (48 : Int32)) dX10_registerHere_64 rfl ?_
          refine r_isub dX10_registerHere_66 ?_
          refine r_goto (tgt := 71) dX10_registerHere_67 (by decide) ?_
          exact r_iret dX10_registerHere_71 rfl t
theorem dX10_isName_0 : decode cX10_isName 0 = .ok (.aload_n 0, 1) := by decide +kernel
theorem dX10_isName_1 : decode cX10_isName 1 = .ok (.getfield 312, 3) := by decide +kernel
theorem dX10_isName_4 : decode cX10_isName 4 = .ok (.iconst 1, 1) := by decide +kernel
theorem dX10_isName_5 : decode cX10_isName 5 = .ok (.if_icmp .ne 58, 3) := by decide +kernel
theorem dX10_isName_8 : decode cX10_isName 8 = .ok (.aload_n 0, 1) := by decide +kernel
theorem dX10_isName_9 : decode cX10_isName 9 = .ok (.getfield 303, 3) := by decide +kernel
theorem dX10_isName_12 : decode cX10_isName 12 = .ok (.aload_n 0, 1) := by decide +kernel
theorem dX10_isName_13 : decode cX10_isName 13 = .ok (.getfield 309, 3) := by decide +kernel
theorem dX10_isName_16 : decode cX10_isName 16 = .ok (.isub, 1) := by decide +kernel
theorem dX10_isName_17 : decode cX10_isName 17 = .ok (.bipush 8, 2) := by decide +kernel
theorem dX10_isName_19 : decode cX10_isName 19 = .ok (.if_icmp .gt 44, 3) := by decide +kernel
theorem dX10_isName_22 : decode cX10_isName 22 = .ok (.aload_n 0, 1) := by decide +kernel
theorem dX10_isName_23 : decode cX10_isName 23 = .ok (.invokevirtual 350, 3) := by decide +kernel
theorem dX10_isName_26 : decode cX10_isName 26 = .ok (.ifCond .ge 37, 3) := by decide +kernel
theorem dX10_isName_29 : decode cX10_isName 29 = .ok (.aload_n 0, 1) := by decide +kernel
theorem dX10_isName_30 : decode cX10_isName 30 = .ok (.ldc_w 353, 3) := by decide +kernel
theorem dX10_isName_33 : decode cX10_isName 33 = .ok (.invokevirtual 355, 3) := by decide +kernel
theorem dX10_isName_36 : decode cX10_isName 36 = .ok (.ifCond .ne 27, 3) := by decide +kernel
theorem dX10_isName_39 : decode cX10_isName 39 = .ok (.aload_n 0, 1) := by decide +kernel
theorem dX10_isName_40 : decode cX10_isName 40 = .ok (.ldc_w 359, 3) := by decide +kernel
theorem dX10_isName_43 : decode cX10_isName 43 = .ok (.invokevirtual 355, 3) := by decide +kernel
theorem dX10_isName_46 : decode cX10_isName 46 = .ok (.ifCond .ne 17, 3) := by decide +kernel
theorem dX10_isName_49 : decode cX10_isName 49 = .ok (.aload_n 0, 1) := by decide +kernel
theorem dX10_isName_50 : decode cX10_isName 50 = .ok (.ldc_w 360, 3) := by decide +kernel
theorem dX10_isName_53 : decode cX10_isName 53 = .ok (.invokevirtual 355, 3) := by decide +kernel
theorem dX10_isName_56 : decode cX10_isName 56 = .ok (.ifCond .ne 7, 3) := by decide +kernel
theorem dX10_isName_59 : decode cX10_isName 59 = .ok (.iconst 1, 1) := by decide +kernel
theorem dX10_isName_60 : decode cX10_isName 60 = .ok (.goto 4, 3) := by decide +kernel
theorem dX10_isName_63 : decode cX10_isName 63 = .ok (.iconst 0, 1) := by decide +kernel
theorem dX10_isName_64 : decode cX10_isName 64 = .ok (.ireturn, 1) := by decide +kernel
set_option maxRecDepth 20000 in
theorem wp_X10_isName (E : En) (d : Nat) (h : Hp) (P : Int32 → Hp → Prop) (t : (¬ (h.1 63 46) = (1 : Int32) → (P (0 : Int32) h)) ∧ ((h.1 63 46) = (1 : Int32) → (((8 : Int32) < ((h.1 63 45) - (h.1 63 44)) → (P (0 : Int32) h)) ∧ (¬ (8 : Int32) < ((h.1 63 45) - (h.1 63 44)) → (SpI E d MX10_registerHere [.ref (eA E 63)] h (fun v3 h3 => (0 ≤ v3 → (P (0 : Int32) h3)) ∧ (¬ 0 ≤ v3 → (SpI E d MX10_isWord [.ref (eA E 63), .ref (eK E 5)] h3 (fun v5 h5 => (¬ v5 = 0 → (P (0 : Int32) h5)) ∧ (v5 = 0 → (SpI E d MX10_isWord [.ref (eA E 63), .ref (eK E 6)] h5 (fun v7 h7 => (¬ v7 = 0 → (P (0 : Int32) h7)) ∧ (v7 = 0 → (SpI E d MX10_isWord [.ref (eA E 63), .ref (eK E 7)] h7 (fun v9 h9 => (¬ v9 = 0 → (P (0 : Int32) h9)) ∧ (v9 = 0 → (P (1 : Int32) h9))))))))))))))))) : SpI E (d + 1) MX10_isName [.ref (eA E 63)] h P := by
  refine SpI.of (lv0 := [(0, .ref (eA E 63))]) (by decide) (Nat.le_of_ble_eq_true rfl) rfl (fun g => ?_)
  refine r_aload_n (q := 0) dX10_isName_0 rfl rfl ?_
  refine r_getI (c := 63) dX10_isName_1 flX10_312 lay_63 rfl ?_
  refine r_iconst (v := (1 : Int32)) dX10_isName_4 rfl ?_
  refine r_icmp_ne (tgt := 63) dX10_isName_5 (by decide) (fun q1 => ?_) (fun q1 => ?_)
  · have t := t.1 q1
    refine r_iconst (v := (0 : Int32)) dX10_isName_63 rfl ?_
    exact r_zret dX10_isName_64 rfl (Or.inl rfl) t
  · have t := t.2 q1
    refine r_aload_n (q := 0) dX10_isName_8 rfl rfl ?_
    refine r_getI (c := 63) dX10_isName_9 flX10_303 lay_63 rfl ?_
    refine r_aload_n (q := 0) dX10_isName_12 rfl rfl ?_
    refine r_getI (c := 63) dX10_isName_13 flX10_309 lay_63 rfl ?_
    refine r_isub dX10_isName_16 ?_
    refine r_bipush (v := (8 : Int32)) dX10_isName_17 rfl ?_
    refine r_icmp_gt (tgt := 63) dX10_isName_19 (by decide) (fun q2 => ?_) (fun q2 => ?_)
    · have t := t.1 q2
      refine r_iconst (v := (0 : Int32)) dX10_isName_63 rfl ?_
      exact r_zret dX10_isName_64 rfl (Or.inl rfl) t
    · have t := t.2 q2
      refine r_aload_n (q := 0) dX10_isName_22 rfl rfl ?_
      refine r_cVI (c := 63) (As := []) dX10_isName_23 mkX10_registerHere lkX10_350 lay_63 rfl rfl rfl (by decide) rfl (Nat.le_of_ble_eq_true rfl) z00 t ?_
      intro v3 h3 t
      refine r_if_ge (tgt := 63) dX10_isName_26 (by decide) (fun q4 => ?_) (fun q4 => ?_)
      · have t := t.1 q4
        refine r_iconst (v := (0 : Int32)) dX10_isName_63 rfl ?_
        exact r_zret dX10_isName_64 rfl (Or.inl rfl) t
      · have t := t.2 q4
        refine r_aload_n (q := 0) dX10_isName_29 rfl rfl ?_
        refine r_ldcSw (i := 5) (tx := "op") dX10_isName_30 (by decide) ?_
        refine r_cVI (c := 63) (As := [.ref (eK E 5)]) dX10_isName_33 mkX10_isWord lkX10_355 lay_63 rfl rfl rfl (by decide) rfl (Nat.le_of_ble_eq_true rfl) z00 t ?_
        intro v5 h5 t
        refine r_if_ne (tgt := 63) dX10_isName_36 (by decide) (fun q6 => ?_) (fun q6 => ?_)
        · have t := t.1 q6
          refine r_iconst (v := (0 : Int32)) dX10_isName_63 rfl ?_
          exact r_zret dX10_isName_64 rfl (Or.inl rfl) t
        · have t := t.2 q6
          refine r_aload_n (q := 0) dX10_isName_39 rfl rfl ?_
          refine r_ldcSw (i := 6) (tx := "unit") dX10_isName_40 (by decide) ?_
          refine r_cVI (c := 63) (As := [.ref (eK E 6)]) dX10_isName_43 mkX10_isWord lkX10_355 lay_63 rfl rfl rfl (by decide) rfl (Nat.le_of_ble_eq_true rfl) z00 t ?_
          intro v7 h7 t
          refine r_if_ne (tgt := 63) dX10_isName_46 (by decide) (fun q8 => ?_) (fun q8 => ?_)
          · have t := t.1 q8
            refine r_iconst (v := (0 : Int32)) dX10_isName_63 rfl ?_
            exact r_zret dX10_isName_64 rfl (Or.inl rfl) t
          · have t := t.2 q8
            refine r_aload_n (q := 0) dX10_isName_49 rfl rfl ?_
            refine r_ldcSw (i := 7) (tx := "instr") dX10_isName_50 (by decide) ?_
            refine r_cVI (c := 63) (As := [.ref (eK E 7)]) dX10_isName_53 mkX10_isWord lkX10_355 lay_63 rfl rfl rfl (by decide) rfl (Nat.le_of_ble_eq_true rfl) z00 t ?_
            intro v9 h9 t
            refine r_if_ne (tgt := 63) dX10_isName_56 (by decide) (fun q10 => ?_) (fun q10 => ?_)
            · have t := t.1 q10
              refine r_iconst (v := (0 : Int32)) dX10_isName_63 rfl ?_
              exact r_zret dX10_isName_64 rfl (Or.inl rfl) t
            · have t := t.2 q10
              refine r_iconst (v := (1 : Int32)) dX10_isName_59 rfl ?_
              refine r_goto (tgt := 64) dX10_isName_60 (by decide) ?_
              exact r_zret dX10_isName_64 rfl (Or.inr rfl) t
theorem dX10_letterHere_0 : decode cX10_letterHere 0 = .ok (.aload_n 0, 1) := by decide +kernel
theorem dX10_letterHere_1 : decode cX10_letterHere 1 = .ok (.getfield 309, 3) := by decide +kernel
theorem dX10_letterHere_4 : decode cX10_letterHere 4 = .ok (.iload_n 1, 1) := by decide +kernel
theorem dX10_letterHere_5 : decode cX10_letterHere 5 = .ok (.iadd, 1) := by decide +kernel
theorem dX10_letterHere_6 : decode cX10_letterHere 6 = .ok (.aload_n 0, 1) := by decide +kernel
theorem dX10_letterHere_7 : decode cX10_letterHere 7 = .ok (.getfield 303, 3) := by decide +kernel
theorem dX10_letterHere_10 : decode cX10_letterHere 10 = .ok (.if_icmp .ge 16, 3) := by decide +kernel
theorem dX10_letterHere_13 : decode cX10_letterHere 13 = .ok (.aload_n 0, 1) := by decide +kernel
theorem dX10_letterHere_14 : decode cX10_letterHere 14 = .ok (.aload_n 0, 1) := by decide +kernel
theorem dX10_letterHere_15 : decode cX10_letterHere 15 = .ok (.getfield 309, 3) := by decide +kernel
theorem dX10_letterHere_18 : decode cX10_letterHere 18 = .ok (.iload_n 1, 1) := by decide +kernel
theorem dX10_letterHere_19 : decode cX10_letterHere 19 = .ok (.iadd, 1) := by decide +kernel
theorem dX10_letterHere_20 : decode cX10_letterHere 20 = .ok (.invokevirtual 306, 3) := by decide +kernel
theorem dX10_letterHere_23 : decode cX10_letterHere 23 = .ok (.goto 4, 3) := by decide +kernel
theorem dX10_letterHere_26 : decode cX10_letterHere 26 = .ok (.iconst 0, 1) := by decide +kernel
theorem dX10_letterHere_27 : decode cX10_letterHere 27 = .ok (.ireturn, 1) := by decide +kernel
set_option maxRecDepth 20000 in
theorem wp_X10_letterHere (E : En) (d : Nat) (a1 : Int32) (h : Hp) (P : Int32 → Hp → Prop) (t : ((h.1 63 45) ≤ ((h.1 63 44) + a1) → (P (0 : Int32) h)) ∧ (¬ (h.1 63 45) ≤ ((h.1 63 44) + a1) → (SpI E d MX10_byteAt [.ref (eA E 63), .int ((h.1 63 44) + a1)] h (fun v2 h2 => P v2 h2)))) : SpI E (d + 1) MX10_letterHere [.ref (eA E 63), .int a1] h P := by
  refine SpI.of (lv0 := [(0, .ref (eA E 63)), (1, .int a1)]) (by decide) (Nat.le_of_ble_eq_true rfl) rfl (fun g => ?_)
  refine r_aload_n (q := 0) dX10_letterHere_0 rfl rfl ?_
  refine r_getI (c := 63) dX10_letterHere_1 flX10_309 lay_63 rfl ?_
  refine r_iload_n (q := 1) dX10_letterHere_4 rfl rfl ?_
  refine r_iadd dX10_letterHere_5 ?_
  refine r_aload_n (q := 0) dX10_letterHere_6 rfl rfl ?_
  refine r_getI (c := 63) dX10_letterHere_7 flX10_303 lay_63 rfl ?_
  refine r_icmp_ge (tgt := 26) dX10_letterHere_10 (by decide) (fun q1 => ?_) (fun q1 => ?_)
  · have t := t.1 q1
    refine r_iconst (v := (0 : Int32)) dX10_letterHere_26 rfl ?_
    exact r_iret dX10_letterHere_27 rfl t
  · have t := t.2 q1
    refine r_aload_n (q := 0) dX10_letterHere_13 rfl rfl ?_
    refine r_aload_n (q := 0) dX10_letterHere_14 rfl rfl ?_
    refine r_getI (c := 63) dX10_letterHere_15 flX10_309 lay_63 rfl ?_
    refine r_iload_n (q := 1) dX10_letterHere_18 rfl rfl ?_
    refine r_iadd dX10_letterHere_19 ?_
    refine r_cVI (c := 63) (As := [.int ((h.1 63 44) + a1)]) dX10_letterHere_20 mkX10_byteAt lkX10_306 lay_63 rfl rfl rfl (by decide) rfl (Nat.le_of_ble_eq_true rfl) z00 t ?_
    intro v2 h2 t
    refine r_goto (tgt := 27) dX10_letterHere_23 (by decide) ?_
    exact r_iret dX10_letterHere_27 rfl t
theorem dX10_named_0 : decode cX10_named 0 = .ok (.iconst 0, 1) := by decide +kernel
theorem dX10_named_1 : decode cX10_named 1 = .ok (.istore_n 1, 1) := by decide +kernel
theorem dX10_named_2 : decode cX10_named 2 = .ok (.iload_n 1, 1) := by decide +kernel
theorem dX10_named_3 : decode cX10_named 3 = .ok (.bipush 12, 2) := by decide +kernel
theorem dX10_named_5 : decode cX10_named 5 = .ok (.aload_n 0, 1) := by decide +kernel
theorem dX10_named_6 : decode cX10_named 6 = .ok (.getfield 121, 3) := by decide +kernel
theorem dX10_named_9 : decode cX10_named 9 = .ok (.iadd, 1) := by decide +kernel
theorem dX10_named_10 : decode cX10_named 10 = .ok (.if_icmp .ge 78, 3) := by decide +kernel
theorem dX10_named_13 : decode cX10_named 13 = .ok (.iload_n 1, 1) := by decide +kernel
theorem dX10_named_14 : decode cX10_named 14 = .ok (.aload_n 0, 1) := by decide +kernel
theorem dX10_named_15 : decode cX10_named 15 = .ok (.getfield 144, 3) := by decide +kernel
theorem dX10_named_18 : decode cX10_named 18 = .ok (.if_icmp .lt 9, 3) := by decide +kernel
theorem dX10_named_21 : decode cX10_named 21 = .ok (.iload_n 1, 1) := by decide +kernel
theorem dX10_named_22 : decode cX10_named 22 = .ok (.bipush 12, 2) := by decide +kernel
theorem dX10_named_24 : decode cX10_named 24 = .ok (.if_icmp .lt 7, 3) := by decide +kernel
theorem dX10_named_27 : decode cX10_named 27 = .ok (.iconst 1, 1) := by decide +kernel
theorem dX10_named_28 : decode cX10_named 28 = .ok (.goto 4, 3) := by decide +kernel
theorem dX10_named_31 : decode cX10_named 31 = .ok (.iconst 0, 1) := by decide +kernel
theorem dX10_named_32 : decode cX10_named 32 = .ok (.istore_n 2, 1) := by decide +kernel
theorem dX10_named_33 : decode cX10_named 33 = .ok (.iconst 0, 1) := by decide +kernel
theorem dX10_named_34 : decode cX10_named 34 = .ok (.istore_n 3, 1) := by decide +kernel
theorem dX10_named_35 : decode cX10_named 35 = .ok (.iload_n 3, 1) := by decide +kernel
theorem dX10_named_36 : decode cX10_named 36 = .ok (.bipush 8, 2) := by decide +kernel
theorem dX10_named_38 : decode cX10_named 38 = .ok (.if_icmp .ge 38, 3) := by decide +kernel
theorem dX10_named_41 : decode cX10_named 41 = .ok (.iload_n 2, 1) := by decide +kernel
theorem dX10_named_42 : decode cX10_named 42 = .ok (.ifCond .eq 34, 3) := by decide +kernel
theorem dX10_named_45 : decode cX10_named 45 = .ok (.aload_n 0, 1) := by decide +kernel
theorem dX10_named_46 : decode cX10_named 46 = .ok (.getfield 13, 3) := by decide +kernel
theorem dX10_named_49 : decode cX10_named 49 = .ok (.bipush 8, 2) := by decide +kernel
theorem dX10_named_51 : decode cX10_named 51 = .ok (.iload_n 1, 1) := by decide +kernel
theorem dX10_named_52 : decode cX10_named 52 = .ok (.imul, 1) := by decide +kernel
theorem dX10_named_53 : decode cX10_named 53 = .ok (.iload_n 3, 1) := by decide +kernel
theorem dX10_named_54 : decode cX10_named 54 = .ok (.iadd, 1) := by decide +kernel
theorem dX10_named_55 : decode cX10_named 55 = .ok (.iaload, 1) := by decide +kernel
theorem dX10_named_56 : decode cX10_named 56 = .ok (.aload_n 0, 1) := by decide +kernel
theorem dX10_named_57 : decode cX10_named 57 = .ok (.iload_n 3, 1) := by decide +kernel
theorem dX10_named_58 : decode cX10_named 58 = .ok (.invokevirtual 362, 3) := by decide +kernel
theorem dX10_named_61 : decode cX10_named 61 = .ok (.if_icmp .ne 7, 3) := by decide +kernel
theorem dX10_named_64 : decode cX10_named 64 = .ok (.iconst 1, 1) := by decide +kernel
theorem dX10_named_65 : decode cX10_named 65 = .ok (.goto 4, 3) := by decide +kernel
theorem dX10_named_68 : decode cX10_named 68 = .ok (.iconst 0, 1) := by decide +kernel
theorem dX10_named_69 : decode cX10_named 69 = .ok (.istore_n 2, 1) := by decide +kernel
theorem dX10_named_70 : decode cX10_named 70 = .ok (.iinc 3 1, 3) := by decide +kernel
theorem dX10_named_73 : decode cX10_named 73 = .ok (.goto (-38), 3) := by decide +kernel
theorem dX10_named_76 : decode cX10_named 76 = .ok (.iload_n 2, 1) := by decide +kernel
theorem dX10_named_77 : decode cX10_named 77 = .ok (.ifCond .eq 5, 3) := by decide +kernel
theorem dX10_named_80 : decode cX10_named 80 = .ok (.iload_n 1, 1) := by decide +kernel
theorem dX10_named_81 : decode cX10_named 81 = .ok (.ireturn, 1) := by decide +kernel
theorem dX10_named_82 : decode cX10_named 82 = .ok (.iinc 1 1, 3) := by decide +kernel
theorem dX10_named_85 : decode cX10_named 85 = .ok (.goto (-83), 3) := by decide +kernel
theorem dX10_named_88 : decode cX10_named 88 = .ok (.iconst (-1), 1) := by decide +kernel
theorem dX10_named_89 : decode cX10_named 89 = .ok (.ireturn, 1) := by decide +kernel
abbrev VX10_named_2 (E : En) (d : Nat) (g : Ga) (P : Int32 → Hp → Prop) (x1 : Int32) (h : Hp) : Prop := V E MX10_named (RM (d + 1) 0) g (QQ E g (QI E P) 0 0) 0 0 h 2 [(0, .ref (eA E 63)), (1, .int x1)] []
abbrev VX10_named_35 (E : En) (d : Nat) (g : Ga) (P : Int32 → Hp → Prop) (x1 : Int32) (x2 : Int32) (x3 : Int32) (h : Hp) : Prop := V E MX10_named (RM (d + 1) 0) g (QQ E g (QI E P) 0 0) 0 0 h 35 [(0, .ref (eA E 63)), (1, .int x1), (2, .int x2), (3, .int x3)] []
set_option maxRecDepth 20000 in
theorem wp_X10_named (E : En) (d : Nat) (h : Hp) (P : Int32 → Hp → Prop) (t : ∀ g : Ga, VX10_named_2 E d g P (0 : Int32) h) : SpI E (d + 1) MX10_named [.ref (eA E 63)] h P := by
  refine SpI.of (lv0 := [(0, .ref (eA E 63))]) (by decide) (Nat.le_of_ble_eq_true rfl) rfl (fun g => ?_)
  have t := t g
  refine r_iconst (v := (0 : Int32)) dX10_named_0 rfl ?_
  refine r_istore_n (lv' := [(1, .int (0 : Int32)), (0, .ref (eA E 63))]) dX10_named_1 rfl (by decide) rfl ?_
  refine r_sub [1, 0] rfl ?_
  exact t
set_option maxRecDepth 20000 in
theorem sg_X10_named_2 (E : En) (d : Nat) (g : Ga) (x1 : Int32) (h : Hp) (P : Int32 → Hp → Prop) (t : (((12 : Int32) + (h.1 63 2)) ≤ x1 → (P (-1 : Int32) h)) ∧ (¬ ((12 : Int32) + (h.1 63 2)) ≤ x1 → ((x1 < (h.1 63 1) → (VX10_named_35 E d g P x1 (1 : Int32) (0 : Int32) h)) ∧ (¬ x1 < (h.1 63 1) → ((x1 < (12 : Int32) → (VX10_named_35 E d g P x1 (0 : Int32) (0 : Int32) h)) ∧ (¬ x1 < (12 : Int32) → (VX10_named_35 E d g P x1 (1 : Int32) (0 : Int32) h))))))) : VX10_named_2 E d g P x1 h := by
  refine r_iload_n (q := 1) dX10_named_2 rfl rfl ?_
  refine r_bipush (v := (12 : Int32)) dX10_named_3 rfl ?_
  refine r_aload_n (q := 0) dX10_named_5 rfl rfl ?_
  refine r_getI (c := 63) dX10_named_6 flX10_121 lay_63 rfl ?_
  refine r_iadd dX10_named_9 ?_
  refine r_icmp_ge (tgt := 88) dX10_named_10 (by decide) (fun q1 => ?_) (fun q1 => ?_)
  · have t := t.1 q1
    refine r_iconst (v := (-1 : Int32)) dX10_named_88 rfl ?_
    exact r_iret dX10_named_89 rfl t
  · have t := t.2 q1
    refine r_iload_n (q := 1) dX10_named_13 rfl rfl ?_
    refine r_aload_n (q := 0) dX10_named_14 rfl rfl ?_
    refine r_getI (c := 63) dX10_named_15 flX10_144 lay_63 rfl ?_
    refine r_icmp_lt (tgt := 27) dX10_named_18 (by decide) (fun q2 => ?_) (fun q2 => ?_)
    · have t := t.1 q2
      refine r_iconst (v := (1 : Int32)) dX10_named_27 rfl ?_
      refine r_goto (tgt := 32) dX10_named_28 (by decide) ?_
      refine r_istore_n (lv' := [(2, .int (1 : Int32)), (0, .ref (eA E 63)), (1, .int x1)]) dX10_named_32 rfl (by decide) rfl ?_
      refine r_iconst (v := (0 : Int32)) dX10_named_33 rfl ?_
      refine r_istore_n (lv' := [(3, .int (0 : Int32)), (2, .int (1 : Int32)), (0, .ref (eA E 63)), (1, .int x1)]) dX10_named_34 rfl (by decide) rfl ?_
      refine r_sub [2, 3, 1, 0] rfl ?_
      exact t
    · have t := t.2 q2
      refine r_iload_n (q := 1) dX10_named_21 rfl rfl ?_
      refine r_bipush (v := (12 : Int32)) dX10_named_22 rfl ?_
      refine r_icmp_lt (tgt := 31) dX10_named_24 (by decide) (fun q3 => ?_) (fun q3 => ?_)
      · have t := t.1 q3
        refine r_iconst (v := (0 : Int32)) dX10_named_31 rfl ?_
        refine r_istore_n (lv' := [(2, .int (0 : Int32)), (0, .ref (eA E 63)), (1, .int x1)]) dX10_named_32 rfl (by decide) rfl ?_
        refine r_iconst (v := (0 : Int32)) dX10_named_33 rfl ?_
        refine r_istore_n (lv' := [(3, .int (0 : Int32)), (2, .int (0 : Int32)), (0, .ref (eA E 63)), (1, .int x1)]) dX10_named_34 rfl (by decide) rfl ?_
        refine r_sub [2, 3, 1, 0] rfl ?_
        exact t
      · have t := t.2 q3
        refine r_iconst (v := (1 : Int32)) dX10_named_27 rfl ?_
        refine r_goto (tgt := 32) dX10_named_28 (by decide) ?_
        refine r_istore_n (lv' := [(2, .int (1 : Int32)), (0, .ref (eA E 63)), (1, .int x1)]) dX10_named_32 rfl (by decide) rfl ?_
        refine r_iconst (v := (0 : Int32)) dX10_named_33 rfl ?_
        refine r_istore_n (lv' := [(3, .int (0 : Int32)), (2, .int (1 : Int32)), (0, .ref (eA E 63)), (1, .int x1)]) dX10_named_34 rfl (by decide) rfl ?_
        refine r_sub [2, 3, 1, 0] rfl ?_
        exact t
set_option maxRecDepth 20000 in
theorem sg_X10_named_35 (E : En) (d : Nat) (g : Ga) (x1 : Int32) (x2 : Int32) (x3 : Int32) (h : Hp) (P : Int32 → Hp → Prop) (t : ((8 : Int32) ≤ x3 → ((x2 = 0 → (VX10_named_2 E d g P (x1 + (1 : Int32)) h)) ∧ (¬ x2 = 0 → (P x1 h)))) ∧ (¬ (8 : Int32) ≤ x3 → ((x2 = 0 → ((x2 = 0 → (VX10_named_2 E d g P (x1 + (1 : Int32)) h)) ∧ (¬ x2 = 0 → (P x1 h)))) ∧ (¬ x2 = 0 → (vp_in (((8 : Int32) * x1) + x3) 160 ∧ (SpI E d MX10_letterHere [.ref (eA E 63), .int x3] h (fun v6 h6 => (¬ (h.1 65 ((((8 : Int32) * x1) + x3).toNatClampNeg)) = v6 → (VX10_named_35 E d g P x1 (0 : Int32) (x3 + (1 : Int32)) h6)) ∧ ((h.1 65 ((((8 : Int32) * x1) + x3).toNatClampNeg)) = v6 → (VX10_named_35 E d g P x1 (1 : Int32) (x3 + (1 : Int32)) h6))))))))) : VX10_named_35 E d g P x1 x2 x3 h := by
  refine r_iload_n (q := 3) dX10_named_35 rfl rfl ?_
  refine r_bipush (v := (8 : Int32)) dX10_named_36 rfl ?_
  refine r_icmp_ge (tgt := 76) dX10_named_38 (by decide) (fun q1 => ?_) (fun q1 => ?_)
  · have t := t.1 q1
    refine r_iload_n (q := 2) dX10_named_76 rfl rfl ?_
    refine r_if_eq (tgt := 82) dX10_named_77 (by decide) (fun q2 => ?_) (fun q2 => ?_)
    · have t := t.1 q2
      refine r_iinc (k := 1) (v := x1 + (1 : Int32)) (lv' := [(1, .int (x1 + (1 : Int32))), (0, .ref (eA E 63)), (2, .int x2), (3, .int x3)]) dX10_named_82 rfl rfl (by decide) rfl ?_
      refine r_goto (tgt := 2) dX10_named_85 (by decide) ?_
      refine r_sub [1, 0] rfl ?_
      exact t
    · have t := t.2 q2
      refine r_iload_n (q := 1) dX10_named_80 rfl rfl ?_
      exact r_iret dX10_named_81 rfl t
  · have t := t.2 q1
    refine r_iload_n (q := 2) dX10_named_41 rfl rfl ?_
    refine r_if_eq (tgt := 76) dX10_named_42 (by decide) (fun q3 => ?_) (fun q3 => ?_)
    · have t := t.1 q3
      refine r_iload_n (q := 2) dX10_named_76 rfl rfl ?_
      refine r_if_eq (tgt := 82) dX10_named_77 (by decide) (fun q4 => ?_) (fun q4 => ?_)
      · have t := t.1 q4
        refine r_iinc (k := 1) (v := x1 + (1 : Int32)) (lv' := [(1, .int (x1 + (1 : Int32))), (0, .ref (eA E 63)), (2, .int x2), (3, .int x3)]) dX10_named_82 rfl rfl (by decide) rfl ?_
        refine r_goto (tgt := 2) dX10_named_85 (by decide) ?_
        refine r_sub [1, 0] rfl ?_
        exact t
      · have t := t.2 q4
        refine r_iload_n (q := 1) dX10_named_80 rfl rfl ?_
        exact r_iret dX10_named_81 rfl t
    · have t := t.2 q3
      refine r_aload_n (q := 0) dX10_named_45 rfl rfl ?_
      refine r_getR (c := 63) (c2 := 65) dX10_named_46 flX10_13 lay_63 rfl ?_
      refine r_bipush (v := (8 : Int32)) dX10_named_49 rfl ?_
      refine r_iload_n (q := 1) dX10_named_51 rfl rfl ?_
      refine r_imul dX10_named_52 ?_
      refine r_iload_n (q := 3) dX10_named_53 rfl rfl ?_
      refine r_iadd dX10_named_54 ?_
      obtain ⟨c5, t⟩ := t
      refine r_iald (c := 65) dX10_named_55 lay_65 c5 ?_
      refine r_aload_n (q := 0) dX10_named_56 rfl rfl ?_
      refine r_iload_n (q := 3) dX10_named_57 rfl rfl ?_
      refine r_cVI (c := 63) (As := [.int x3]) dX10_named_58 mkX10_letterHere lkX10_362 lay_63 rfl rfl rfl (by decide) rfl (Nat.le_of_ble_eq_true rfl) z00 t ?_
      intro v6 h6 t
      refine r_icmp_ne (tgt := 68) dX10_named_61 (by decide) (fun q7 => ?_) (fun q7 => ?_)
      · have t := t.1 q7
        refine r_iconst (v := (0 : Int32)) dX10_named_68 rfl ?_
        refine r_istore_n (lv' := [(2, .int (0 : Int32)), (0, .ref (eA E 63)), (1, .int x1), (3, .int x3)]) dX10_named_69 rfl (by decide) rfl ?_
        refine r_iinc (k := 3) (v := x3 + (1 : Int32)) (lv' := [(3, .int (x3 + (1 : Int32))), (2, .int (0 : Int32)), (0, .ref (eA E 63)), (1, .int x1)]) dX10_named_70 rfl rfl (by decide) rfl ?_
        refine r_goto (tgt := 35) dX10_named_73 (by decide) ?_
        refine r_sub [2, 3, 1, 0] rfl ?_
        exact t
      · have t := t.2 q7
        refine r_iconst (v := (1 : Int32)) dX10_named_64 rfl ?_
        refine r_goto (tgt := 69) dX10_named_65 (by decide) ?_
        refine r_istore_n (lv' := [(2, .int (1 : Int32)), (0, .ref (eA E 63)), (1, .int x1), (3, .int x3)]) dX10_named_69 rfl (by decide) rfl ?_
        refine r_iinc (k := 3) (v := x3 + (1 : Int32)) (lv' := [(3, .int (x3 + (1 : Int32))), (2, .int (1 : Int32)), (0, .ref (eA E 63)), (1, .int x1)]) dX10_named_70 rfl rfl (by decide) rfl ?_
        refine r_goto (tgt := 35) dX10_named_73 (by decide) ?_
        refine r_sub [2, 3, 1, 0] rfl ?_
        exact t
theorem dX10_takesNewName_0 : decode cX10_takesNewName 0 = .ok (.aload_n 0, 1) := by decide +kernel
theorem dX10_takesNewName_1 : decode cX10_takesNewName 1 = .ok (.invokevirtual 365, 3) := by decide +kernel
theorem dX10_takesNewName_4 : decode cX10_takesNewName 4 = .ok (.ifCond .ne 9, 3) := by decide +kernel
theorem dX10_takesNewName_7 : decode cX10_takesNewName 7 = .ok (.aload_n 0, 1) := by decide +kernel
theorem dX10_takesNewName_8 : decode cX10_takesNewName 8 = .ok (.iconst 1, 1) := by decide +kernel
theorem dX10_takesNewName_9 : decode cX10_takesNewName 9 = .ok (.invokevirtual 336, 3) := by decide +kernel
theorem dX10_takesNewName_12 : decode cX10_takesNewName 12 = .ok (.ireturn, 1) := by decide +kernel
theorem dX10_takesNewName_13 : decode cX10_takesNewName 13 = .ok (.aload_n 0, 1) := by decide +kernel
theorem dX10_takesNewName_14 : decode cX10_takesNewName 14 = .ok (.invokevirtual 369, 3) := by decide +kernel
theorem dX10_takesNewName_17 : decode cX10_takesNewName 17 = .ok (.iconst (-1), 1) := by decide +kernel
theorem dX10_takesNewName_18 : decode cX10_takesNewName 18 = .ok (.if_icmp .eq 9, 3) := by decide +kernel
theorem dX10_takesNewName_21 : decode cX10_takesNewName 21 = .ok (.aload_n 0, 1) := by decide +kernel
theorem dX10_takesNewName_22 : decode cX10_takesNewName 22 = .ok (.iconst 3, 1) := by decide +kernel
theorem dX10_takesNewName_23 : decode cX10_takesNewName 23 = .ok (.invokevirtual 336, 3) := by decide +kernel
theorem dX10_takesNewName_26 : decode cX10_takesNewName 26 = .ok (.ireturn, 1) := by decide +kernel
theorem dX10_takesNewName_27 : decode cX10_takesNewName 27 = .ok (.iconst 0, 1) := by decide +kernel
theorem dX10_takesNewName_28 : decode cX10_takesNewName 28 = .ok (.istore_n 2, 1) := by decide +kernel
theorem dX10_takesNewName_29 : decode cX10_takesNewName 29 = .ok (.iload_n 2, 1) := by decide +kernel
theorem dX10_takesNewName_30 : decode cX10_takesNewName 30 = .ok (.bipush 8, 2) := by decide +kernel
theorem dX10_takesNewName_32 : decode cX10_takesNewName 32 = .ok (.if_icmp .ge 25, 3) := by decide +kernel
theorem dX10_takesNewName_35 : decode cX10_takesNewName 35 = .ok (.aload_n 0, 1) := by decide +kernel
theorem dX10_takesNewName_36 : decode cX10_takesNewName 36 = .ok (.getfield 13, 3) := by decide +kernel
theorem dX10_takesNewName_39 : decode cX10_takesNewName 39 = .ok (.bipush 8, 2) := by decide +kernel
theorem dX10_takesNewName_41 : decode cX10_takesNewName 41 = .ok (.iload_n 1, 1) := by decide +kernel
theorem dX10_takesNewName_42 : decode cX10_takesNewName 42 = .ok (.imul, 1) := by decide +kernel
theorem dX10_takesNewName_43 : decode cX10_takesNewName 43 = .ok (.iload_n 2, 1) := by decide +kernel
theorem dX10_takesNewName_44 : decode cX10_takesNewName 44 = .ok (.iadd, 1) := by decide +kernel
theorem dX10_takesNewName_45 : decode cX10_takesNewName 45 = .ok (.aload_n 0, 1) := by decide +kernel
theorem dX10_takesNewName_46 : decode cX10_takesNewName 46 = .ok (.iload_n 2, 1) := by decide +kernel
theorem dX10_takesNewName_47 : decode cX10_takesNewName 47 = .ok (.invokevirtual 362, 3) := by decide +kernel
theorem dX10_takesNewName_50 : decode cX10_takesNewName 50 = .ok (.iastore, 1) := by decide +kernel
theorem dX10_takesNewName_51 : decode cX10_takesNewName 51 = .ok (.iinc 2 1, 3) := by decide +kernel
theorem dX10_takesNewName_54 : decode cX10_takesNewName 54 = .ok (.goto (-25), 3) := by decide +kernel
theorem dX10_takesNewName_57 : decode cX10_takesNewName 57 = .ok (.aload_n 0, 1) := by decide +kernel
theorem dX10_takesNewName_58 : decode cX10_takesNewName 58 = .ok (.invokevirtual 339, 3) := by decide +kernel
theorem dX10_takesNewName_61 : decode cX10_takesNewName 61 = .ok (.iconst 1, 1) := by decide +kernel
theorem dX10_takesNewName_62 : decode cX10_takesNewName 62 = .ok (.ireturn, 1) := by decide +kernel
abbrev VX10_takesNewName_29 (E : En) (d : Nat) (g : Ga) (P : Int32 → Hp → Prop) (x1 : Int32) (x2 : Int32) (h : Hp) : Prop := V E MX10_takesNewName (RM (d + 1) 0) g (QQ E g (QI E P) 0 0) 0 0 h 29 [(0, .ref (eA E 63)), (1, .int x1), (2, .int x2)] []
set_option maxRecDepth 20000 in
theorem wp_X10_takesNewName (E : En) (d : Nat) (a1 : Int32) (h : Hp) (P : Int32 → Hp → Prop) (t : ∀ g : Ga, SpI E d MX10_isName [.ref (eA E 63)] h (fun v1 h1 => (¬ v1 = 0 → (SpI E d MX10_named [.ref (eA E 63)] h1 (fun v3 h3 => (v3 = (-1 : Int32) → (VX10_takesNewName_29 E d g P a1 (0 : Int32) h3)) ∧ (¬ v3 = (-1 : Int32) → (SpI E d MX10_bad [.ref (eA E 63), .int (3 : Int32)] h3 (fun v5 h5 => (v5 = 0 ∨ v5 = 1) ∧ P v5 h5)))))) ∧ (v1 = 0 → (SpI E d MX10_bad [.ref (eA E 63), .int (1 : Int32)] h1 (fun v6 h6 => (v6 = 0 ∨ v6 = 1) ∧ P v6 h6))))) : SpI E (d + 1) MX10_takesNewName [.ref (eA E 63), .int a1] h P := by
  refine SpI.of (lv0 := [(0, .ref (eA E 63)), (1, .int a1)]) (by decide) (Nat.le_of_ble_eq_true rfl) rfl (fun g => ?_)
  have t := t g
  refine r_aload_n (q := 0) dX10_takesNewName_0 rfl rfl ?_
  refine r_cVI (c := 63) (As := []) dX10_takesNewName_1 mkX10_isName lkX10_365 lay_63 rfl rfl rfl (by decide) rfl (Nat.le_of_ble_eq_true rfl) z00 t ?_
  intro v1 h1 t
  refine r_if_ne (tgt := 13) dX10_takesNewName_4 (by decide) (fun q2 => ?_) (fun q2 => ?_)
  · have t := t.1 q2
    refine r_aload_n (q := 0) dX10_takesNewName_13 rfl rfl ?_
    refine r_cVI (c := 63) (As := []) dX10_takesNewName_14 mkX10_named lkX10_369 lay_63 rfl rfl rfl (by decide) rfl (Nat.le_of_ble_eq_true rfl) z00 t ?_
    intro v3 h3 t
    refine r_iconst (v := (-1 : Int32)) dX10_takesNewName_17 rfl ?_
    refine r_icmp_eq (tgt := 27) dX10_takesNewName_18 (by decide) (fun q4 => ?_) (fun q4 => ?_)
    · have t := t.1 q4
      refine r_iconst (v := (0 : Int32)) dX10_takesNewName_27 rfl ?_
      refine r_istore_n (lv' := [(2, .int (0 : Int32)), (0, .ref (eA E 63)), (1, .int a1)]) dX10_takesNewName_28 rfl (by decide) rfl ?_
      refine r_sub [1, 2, 0] rfl ?_
      exact t
    · have t := t.2 q4
      refine r_aload_n (q := 0) dX10_takesNewName_21 rfl rfl ?_
      refine r_iconst (v := (3 : Int32)) dX10_takesNewName_22 rfl ?_
      refine r_cVI (c := 63) (As := [.int (3 : Int32)]) dX10_takesNewName_23 mkX10_bad lkX10_336 lay_63 rfl rfl rfl (by decide) rfl (Nat.le_of_ble_eq_true rfl) z00 t ?_
      intro v5 h5 t
      exact r_zret dX10_takesNewName_26 rfl t.1 t.2
  · have t := t.2 q2
    refine r_aload_n (q := 0) dX10_takesNewName_7 rfl rfl ?_
    refine r_iconst (v := (1 : Int32)) dX10_takesNewName_8 rfl ?_
    refine r_cVI (c := 63) (As := [.int (1 : Int32)]) dX10_takesNewName_9 mkX10_bad lkX10_336 lay_63 rfl rfl rfl (by decide) rfl (Nat.le_of_ble_eq_true rfl) z00 t ?_
    intro v6 h6 t
    exact r_zret dX10_takesNewName_12 rfl t.1 t.2
set_option maxRecDepth 20000 in
theorem sg_X10_takesNewName_29 (E : En) (d : Nat) (g : Ga) (x1 : Int32) (x2 : Int32) (h : Hp) (P : Int32 → Hp → Prop) (t : ((8 : Int32) ≤ x2 → (SpV E d MX10_step [.ref (eA E 63)] h (fun h2 => P (1 : Int32) h2))) ∧ (¬ (8 : Int32) ≤ x2 → (SpI E d MX10_letterHere [.ref (eA E 63), .int x2] h (fun v3 h3 => vp_in (((8 : Int32) * x1) + x2) 160 ∧ (VX10_takesNewName_29 E d g P x1 (x2 + (1 : Int32)) (sI h3 65 ((((8 : Int32) * x1) + x2).toNatClampNeg) v3)))))) : VX10_takesNewName_29 E d g P x1 x2 h := by
  refine r_iload_n (q := 2) dX10_takesNewName_29 rfl rfl ?_
  refine r_bipush (v := (8 : Int32)) dX10_takesNewName_30 rfl ?_
  refine r_icmp_ge (tgt := 57) dX10_takesNewName_32 (by decide) (fun q1 => ?_) (fun q1 => ?_)
  · have t := t.1 q1
    refine r_aload_n (q := 0) dX10_takesNewName_57 rfl rfl ?_
    refine r_cVV (c := 63) (As := []) dX10_takesNewName_58 mkX10_step lkX10_339 lay_63 rfl rfl rfl (by decide) rfl (Nat.le_of_ble_eq_true rfl) z00 t ?_
    intro h2 t
    refine r_iconst (v := (1 : Int32)) dX10_takesNewName_61 rfl ?_
    exact r_zret dX10_takesNewName_62 rfl (Or.inr rfl) t
  · have t := t.2 q1
    refine r_aload_n (q := 0) dX10_takesNewName_35 rfl rfl ?_
    refine r_getR (c := 63) (c2 := 65) dX10_takesNewName_36 flX10_13 lay_63 rfl ?_
    refine r_bipush (v := (8 : Int32)) dX10_takesNewName_39 rfl ?_
    refine r_iload_n (q := 1) dX10_takesNewName_41 rfl rfl ?_
    refine r_imul dX10_takesNewName_42 ?_
    refine r_iload_n (q := 2) dX10_takesNewName_43 rfl rfl ?_
    refine r_iadd dX10_takesNewName_44 ?_
    refine r_aload_n (q := 0) dX10_takesNewName_45 rfl rfl ?_
    refine r_iload_n (q := 2) dX10_takesNewName_46 rfl rfl ?_
    refine r_cVI (c := 63) (As := [.int x2]) dX10_takesNewName_47 mkX10_letterHere lkX10_362 lay_63 rfl rfl rfl (by decide) rfl (Nat.le_of_ble_eq_true rfl) z00 t ?_
    intro v3 h3 t
    obtain ⟨c4, t⟩ := t
    refine r_iast (c := 65) dX10_takesNewName_50 lay_65 c4 ?_
    refine r_iinc (k := 2) (v := x2 + (1 : Int32)) (lv' := [(2, .int (x2 + (1 : Int32))), (0, .ref (eA E 63)), (1, .int x1)]) dX10_takesNewName_51 rfl rfl (by decide) rfl ?_
    refine r_goto (tgt := 29) dX10_takesNewName_54 (by decide) ?_
    refine r_sub [1, 2, 0] rfl ?_
    exact t
theorem dX10_takesOperand_0 : decode cX10_takesOperand 0 = .ok (.aload_n 0, 1) := by decide +kernel
theorem dX10_takesOperand_1 : decode cX10_takesOperand 1 = .ok (.getfield 312, 3) := by decide +kernel
theorem dX10_takesOperand_4 : decode cX10_takesOperand 4 = .ok (.iconst 2, 1) := by decide +kernel
theorem dX10_takesOperand_5 : decode cX10_takesOperand 5 = .ok (.if_icmp .eq 16, 3) := by decide +kernel
theorem dX10_takesOperand_8 : decode cX10_takesOperand 8 = .ok (.aload_n 0, 1) := by decide +kernel
theorem dX10_takesOperand_9 : decode cX10_takesOperand 9 = .ok (.invokevirtual 350, 3) := by decide +kernel
theorem dX10_takesOperand_12 : decode cX10_takesOperand 12 = .ok (.ifCond .ge 9, 3) := by decide +kernel
theorem dX10_takesOperand_15 : decode cX10_takesOperand 15 = .ok (.aload_n 0, 1) := by decide +kernel
theorem dX10_takesOperand_16 : decode cX10_takesOperand 16 = .ok (.iconst 1, 1) := by decide +kernel
theorem dX10_takesOperand_17 : decode cX10_takesOperand 17 = .ok (.invokevirtual 336, 3) := by decide +kernel
theorem dX10_takesOperand_20 : decode cX10_takesOperand 20 = .ok (.ireturn, 1) := by decide +kernel
theorem dX10_takesOperand_21 : decode cX10_takesOperand 21 = .ok (.aload_n 0, 1) := by decide +kernel
theorem dX10_takesOperand_22 : decode cX10_takesOperand 22 = .ok (.getfield 7, 3) := by decide +kernel
theorem dX10_takesOperand_25 : decode cX10_takesOperand 25 = .ok (.iconst 5, 1) := by decide +kernel
theorem dX10_takesOperand_26 : decode cX10_takesOperand 26 = .ok (.aload_n 0, 1) := by decide +kernel
theorem dX10_takesOperand_27 : decode cX10_takesOperand 27 = .ok (.getfield 144, 3) := by decide +kernel
theorem dX10_takesOperand_30 : decode cX10_takesOperand 30 = .ok (.imul, 1) := by decide +kernel
theorem dX10_takesOperand_31 : decode cX10_takesOperand 31 = .ok (.iload_n 1, 1) := by decide +kernel
theorem dX10_takesOperand_32 : decode cX10_takesOperand 32 = .ok (.iadd, 1) := by decide +kernel
theorem dX10_takesOperand_33 : decode cX10_takesOperand 33 = .ok (.aload_n 0, 1) := by decide +kernel
theorem dX10_takesOperand_34 : decode cX10_takesOperand 34 = .ok (.getfield 312, 3) := by decide +kernel
theorem dX10_takesOperand_37 : decode cX10_takesOperand 37 = .ok (.iconst 2, 1) := by decide +kernel
theorem dX10_takesOperand_38 : decode cX10_takesOperand 38 = .ok (.if_icmp .ne 13, 3) := by decide +kernel
theorem dX10_takesOperand_41 : decode cX10_takesOperand 41 = .ok (.bipush 8, 2) := by decide +kernel
theorem dX10_takesOperand_43 : decode cX10_takesOperand 43 = .ok (.aload_n 0, 1) := by decide +kernel
theorem dX10_takesOperand_44 : decode cX10_takesOperand 44 = .ok (.getfield 321, 3) := by decide +kernel
theorem dX10_takesOperand_47 : decode cX10_takesOperand 47 = .ok (.iadd, 1) := by decide +kernel
theorem dX10_takesOperand_48 : decode cX10_takesOperand 48 = .ok (.goto 7, 3) := by decide +kernel
theorem dX10_takesOperand_51 : decode cX10_takesOperand 51 = .ok (.aload_n 0, 1) := by decide +kernel
theorem dX10_takesOperand_52 : decode cX10_takesOperand 52 = .ok (.invokevirtual 350, 3) := by decide +kernel
theorem dX10_takesOperand_55 : decode cX10_takesOperand 55 = .ok (.iastore, 1) := by decide +kernel
theorem dX10_takesOperand_56 : decode cX10_takesOperand 56 = .ok (.aload_n 0, 1) := by decide +kernel
theorem dX10_takesOperand_57 : decode cX10_takesOperand 57 = .ok (.invokevirtual 339, 3) := by decide +kernel
theorem dX10_takesOperand_60 : decode cX10_takesOperand 60 = .ok (.iconst 1, 1) := by decide +kernel
theorem dX10_takesOperand_61 : decode cX10_takesOperand 61 = .ok (.ireturn, 1) := by decide +kernel
set_option maxRecDepth 20000 in
theorem wp_X10_takesOperand (E : En) (d : Nat) (a1 : Int32) (h : Hp) (P : Int32 → Hp → Prop) (t : ((h.1 63 46) = (2 : Int32) → ((¬ (h.1 63 46) = (2 : Int32) → (SpI E d MX10_registerHere [.ref (eA E 63)] h (fun v3 h3 => vp_in (((5 : Int32) * (h.1 63 1)) + a1) 60 ∧ (SpV E d MX10_step [.ref (eA E 63)] (sI h3 64 ((((5 : Int32) * (h.1 63 1)) + a1).toNatClampNeg) v3) (fun h5 => P (1 : Int32) h5))))) ∧ ((h.1 63 46) = (2 : Int32) → (vp_in (((5 : Int32) * (h.1 63 1)) + a1) 60 ∧ (SpV E d MX10_step [.ref (eA E 63)] (sI h 64 ((((5 : Int32) * (h.1 63 1)) + a1).toNatClampNeg) ((8 : Int32) + (h.1 63 47))) (fun h7 => P (1 : Int32) h7)))))) ∧ (¬ (h.1 63 46) = (2 : Int32) → (SpI E d MX10_registerHere [.ref (eA E 63)] h (fun v8 h8 => (0 ≤ v8 → ((¬ (h8.1 63 46) = (2 : Int32) → (SpI E d MX10_registerHere [.ref (eA E 63)] h8 (fun v11 h11 => vp_in (((5 : Int32) * (h8.1 63 1)) + a1) 60 ∧ (SpV E d MX10_step [.ref (eA E 63)] (sI h11 64 ((((5 : Int32) * (h8.1 63 1)) + a1).toNatClampNeg) v11) (fun h13 => P (1 : Int32) h13))))) ∧ ((h8.1 63 46) = (2 : Int32) → (vp_in (((5 : Int32) * (h8.1 63 1)) + a1) 60 ∧ (SpV E d MX10_step [.ref (eA E 63)] (sI h8 64 ((((5 : Int32) * (h8.1 63 1)) + a1).toNatClampNeg) ((8 : Int32) + (h8.1 63 47))) (fun h15 => P (1 : Int32) h15)))))) ∧ (¬ 0 ≤ v8 → (SpI E d MX10_bad [.ref (eA E 63), .int (1 : Int32)] h8 (fun v16 h16 => (v16 = 0 ∨ v16 = 1) ∧ P v16 h16))))))) : SpI E (d + 1) MX10_takesOperand [.ref (eA E 63), .int a1] h P := by
  refine SpI.of (lv0 := [(0, .ref (eA E 63)), (1, .int a1)]) (by decide) (Nat.le_of_ble_eq_true rfl) rfl (fun g => ?_)
  refine r_aload_n (q := 0) dX10_takesOperand_0 rfl rfl ?_
  refine r_getI (c := 63) dX10_takesOperand_1 flX10_312 lay_63 rfl ?_
  refine r_iconst (v := (2 : Int32)) dX10_takesOperand_4 rfl ?_
  refine r_icmp_eq (tgt := 21) dX10_takesOperand_5 (by decide) (fun q1 => ?_) (fun q1 => ?_)
  · have t := t.1 q1
    refine r_aload_n (q := 0) dX10_takesOperand_21 rfl rfl ?_
    refine r_getR (c := 63) (c2 := 64) dX10_takesOperand_22 flX10_7 lay_63 rfl ?_
    refine r_iconst (v := (5 : Int32)) dX10_takesOperand_25 rfl ?_
    refine r_aload_n (q := 0) dX10_takesOperand_26 rfl rfl ?_
    refine r_getI (c := 63) dX10_takesOperand_27 flX10_144 lay_63 rfl ?_
    refine r_imul dX10_takesOperand_30 ?_
    refine r_iload_n (q := 1) dX10_takesOperand_31 rfl rfl ?_
    refine r_iadd dX10_takesOperand_32 ?_
    refine r_aload_n (q := 0) dX10_takesOperand_33 rfl rfl ?_
    refine r_getI (c := 63) dX10_takesOperand_34 flX10_312 lay_63 rfl ?_
    refine r_iconst (v := (2 : Int32)) dX10_takesOperand_37 rfl ?_
    refine r_icmp_ne (tgt := 51) dX10_takesOperand_38 (by decide) (fun q2 => ?_) (fun q2 => ?_)
    · have t := t.1 q2
      refine r_aload_n (q := 0) dX10_takesOperand_51 rfl rfl ?_
      refine r_cVI (c := 63) (As := []) dX10_takesOperand_52 mkX10_registerHere lkX10_350 lay_63 rfl rfl rfl (by decide) rfl (Nat.le_of_ble_eq_true rfl) z00 t ?_
      intro v3 h3 t
      obtain ⟨c4, t⟩ := t
      refine r_iast (c := 64) dX10_takesOperand_55 lay_64 c4 ?_
      refine r_aload_n (q := 0) dX10_takesOperand_56 rfl rfl ?_
      refine r_cVV (c := 63) (As := []) dX10_takesOperand_57 mkX10_step lkX10_339 lay_63 rfl rfl rfl (by decide) rfl (Nat.le_of_ble_eq_true rfl) z00 t ?_
      intro h5 t
      refine r_iconst (v := (1 : Int32)) dX10_takesOperand_60 rfl ?_
      exact r_zret dX10_takesOperand_61 rfl (Or.inr rfl) t
    · have t := t.2 q2
      refine r_bipush (v := (8 : Int32)) dX10_takesOperand_41 rfl ?_
      refine r_aload_n (q := 0) dX10_takesOperand_43 rfl rfl ?_
      refine r_getI (c := 63) dX10_takesOperand_44 flX10_321 lay_63 rfl ?_
      refine r_iadd dX10_takesOperand_47 ?_
      refine r_goto (tgt := 55) dX10_takesOperand_48 (by decide) ?_
      obtain ⟨c6, t⟩ := t
      refine r_iast (c := 64) dX10_takesOperand_55 lay_64 c6 ?_
      refine r_aload_n (q := 0) dX10_takesOperand_56 rfl rfl ?_
      refine r_cVV (c := 63) (As := []) dX10_takesOperand_57 mkX10_step lkX10_339 lay_63 rfl rfl rfl (by decide) rfl (Nat.le_of_ble_eq_true rfl) z00 t ?_
      intro h7 t
      refine r_iconst (v := (1 : Int32)) dX10_takesOperand_60 rfl ?_
      exact r_zret dX10_takesOperand_61 rfl (Or.inr rfl) t
  · have t := t.2 q1
    refine r_aload_n (q := 0) dX10_takesOperand_8 rfl rfl ?_
    refine r_cVI (c := 63) (As := []) dX10_takesOperand_9 mkX10_registerHere lkX10_350 lay_63 rfl rfl rfl (by decide) rfl (Nat.le_of_ble_eq_true rfl) z00 t ?_
    intro v8 h8 t
    refine r_if_ge (tgt := 21) dX10_takesOperand_12 (by decide) (fun q9 => ?_) (fun q9 => ?_)
    · have t := t.1 q9
      refine r_aload_n (q := 0) dX10_takesOperand_21 rfl rfl ?_
      refine r_getR (c := 63) (c2 := 64) dX10_takesOperand_22 flX10_7 lay_63 rfl ?_
      refine r_iconst (v := (5 : Int32)) dX10_takesOperand_25 rfl ?_
      refine r_aload_n (q := 0) dX10_takesOperand_26 rfl rfl ?_
      refine r_getI (c := 63) dX10_takesOperand_27 flX10_144 lay_63 rfl ?_
      refine r_imul dX10_takesOperand_30 ?_
      refine r_iload_n (q := 1) dX10_takesOperand_31 rfl rfl ?_
      refine r_iadd dX10_takesOperand_32 ?_
      refine r_aload_n (q := 0) dX10_takesOperand_33 rfl rfl ?_
      refine r_getI (c := 63) dX10_takesOperand_34 flX10_312 lay_63 rfl ?_
      refine r_iconst (v := (2 : Int32)) dX10_takesOperand_37 rfl ?_
      refine r_icmp_ne (tgt := 51) dX10_takesOperand_38 (by decide) (fun q10 => ?_) (fun q10 => ?_)
      · have t := t.1 q10
        refine r_aload_n (q := 0) dX10_takesOperand_51 rfl rfl ?_
        refine r_cVI (c := 63) (As := []) dX10_takesOperand_52 mkX10_registerHere lkX10_350 lay_63 rfl rfl rfl (by decide) rfl (Nat.le_of_ble_eq_true rfl) z00 t ?_
        intro v11 h11 t
        obtain ⟨c12, t⟩ := t
        refine r_iast (c := 64) dX10_takesOperand_55 lay_64 c12 ?_
        refine r_aload_n (q := 0) dX10_takesOperand_56 rfl rfl ?_
        refine r_cVV (c := 63) (As := []) dX10_takesOperand_57 mkX10_step lkX10_339 lay_63 rfl rfl rfl (by decide) rfl (Nat.le_of_ble_eq_true rfl) z00 t ?_
        intro h13 t
        refine r_iconst (v := (1 : Int32)) dX10_takesOperand_60 rfl ?_
        exact r_zret dX10_takesOperand_61 rfl (Or.inr rfl) t
      · have t := t.2 q10
        refine r_bipush (v := (8 : Int32)) dX10_takesOperand_41 rfl ?_
        refine r_aload_n (q := 0) dX10_takesOperand_43 rfl rfl ?_
        refine r_getI (c := 63) dX10_takesOperand_44 flX10_321 lay_63 rfl ?_
        refine r_iadd dX10_takesOperand_47 ?_
        refine r_goto (tgt := 55) dX10_takesOperand_48 (by decide) ?_
        obtain ⟨c14, t⟩ := t
        refine r_iast (c := 64) dX10_takesOperand_55 lay_64 c14 ?_
        refine r_aload_n (q := 0) dX10_takesOperand_56 rfl rfl ?_
        refine r_cVV (c := 63) (As := []) dX10_takesOperand_57 mkX10_step lkX10_339 lay_63 rfl rfl rfl (by decide) rfl (Nat.le_of_ble_eq_true rfl) z00 t ?_
        intro h15 t
        refine r_iconst (v := (1 : Int32)) dX10_takesOperand_60 rfl ?_
        exact r_zret dX10_takesOperand_61 rfl (Or.inr rfl) t
    · have t := t.2 q9
      refine r_aload_n (q := 0) dX10_takesOperand_15 rfl rfl ?_
      refine r_iconst (v := (1 : Int32)) dX10_takesOperand_16 rfl ?_
      refine r_cVI (c := 63) (As := [.int (1 : Int32)]) dX10_takesOperand_17 mkX10_bad lkX10_336 lay_63 rfl rfl rfl (by decide) rfl (Nat.le_of_ble_eq_true rfl) z00 t ?_
      intro v16 h16 t
      exact r_zret dX10_takesOperand_20 rfl t.1 t.2
theorem dX10_takesOperation_0 : decode cX10_takesOperation 0 = .ok (.aload_n 0, 1) := by decide +kernel
theorem dX10_takesOperation_1 : decode cX10_takesOperation 1 = .ok (.getfield 144, 3) := by decide +kernel
theorem dX10_takesOperation_4 : decode cX10_takesOperation 4 = .ok (.bipush 12, 2) := by decide +kernel
theorem dX10_takesOperation_6 : decode cX10_takesOperation 6 = .ok (.if_icmp .ne 9, 3) := by decide +kernel
theorem dX10_takesOperation_9 : decode cX10_takesOperation 9 = .ok (.aload_n 0, 1) := by decide +kernel
theorem dX10_takesOperation_10 : decode cX10_takesOperation 10 = .ok (.iconst 5, 1) := by decide +kernel
theorem dX10_takesOperation_11 : decode cX10_takesOperation 11 = .ok (.invokevirtual 336, 3) := by decide +kernel
theorem dX10_takesOperation_14 : decode cX10_takesOperation 14 = .ok (.ireturn, 1) := by decide +kernel
theorem dX10_takesOperation_15 : decode cX10_takesOperation 15 = .ok (.aload_n 0, 1) := by decide +kernel
theorem dX10_takesOperation_16 : decode cX10_takesOperation 16 = .ok (.invokevirtual 339, 3) := by decide +kernel
theorem dX10_takesOperation_19 : decode cX10_takesOperation 19 = .ok (.aload_n 0, 1) := by decide +kernel
theorem dX10_takesOperation_20 : decode cX10_takesOperation 20 = .ok (.aload_n 0, 1) := by decide +kernel
theorem dX10_takesOperation_21 : decode cX10_takesOperation 21 = .ok (.getfield 144, 3) := by decide +kernel
theorem dX10_takesOperation_24 : decode cX10_takesOperation 24 = .ok (.invokevirtual 372, 3) := by decide +kernel
theorem dX10_takesOperation_27 : decode cX10_takesOperation 27 = .ok (.ifCond .ne 5, 3) := by decide +kernel
theorem dX10_takesOperation_30 : decode cX10_takesOperation 30 = .ok (.iconst 0, 1) := by decide +kernel
theorem dX10_takesOperation_31 : decode cX10_takesOperation 31 = .ok (.ireturn, 1) := by decide +kernel
theorem dX10_takesOperation_32 : decode cX10_takesOperation 32 = .ok (.aload_n 0, 1) := by decide +kernel
theorem dX10_takesOperation_33 : decode cX10_takesOperation 33 = .ok (.ldc_w 359, 3) := by decide +kernel
theorem dX10_takesOperation_36 : decode cX10_takesOperation 36 = .ok (.invokevirtual 355, 3) := by decide +kernel
theorem dX10_takesOperation_39 : decode cX10_takesOperation 39 = .ok (.ifCond .ne 9, 3) := by decide +kernel
theorem dX10_takesOperation_42 : decode cX10_takesOperation 42 = .ok (.aload_n 0, 1) := by decide +kernel
theorem dX10_takesOperation_43 : decode cX10_takesOperation 43 = .ok (.iconst 1, 1) := by decide +kernel
theorem dX10_takesOperation_44 : decode cX10_takesOperation 44 = .ok (.invokevirtual 336, 3) := by decide +kernel
theorem dX10_takesOperation_47 : decode cX10_takesOperation 47 = .ok (.ireturn, 1) := by decide +kernel
theorem dX10_takesOperation_48 : decode cX10_takesOperation 48 = .ok (.aload_n 0, 1) := by decide +kernel
theorem dX10_takesOperation_49 : decode cX10_takesOperation 49 = .ok (.invokevirtual 339, 3) := by decide +kernel
theorem dX10_takesOperation_52 : decode cX10_takesOperation 52 = .ok (.aload_n 0, 1) := by decide +kernel
theorem dX10_takesOperation_53 : decode cX10_takesOperation 53 = .ok (.getfield 312, 3) := by decide +kernel
theorem dX10_takesOperation_56 : decode cX10_takesOperation 56 = .ok (.iconst 2, 1) := by decide +kernel
theorem dX10_takesOperation_57 : decode cX10_takesOperation 57 = .ok (.if_icmp .eq 9, 3) := by decide +kernel
theorem dX10_takesOperation_60 : decode cX10_takesOperation 60 = .ok (.aload_n 0, 1) := by decide +kernel
theorem dX10_takesOperation_61 : decode cX10_takesOperation 61 = .ok (.iconst 1, 1) := by decide +kernel
theorem dX10_takesOperation_62 : decode cX10_takesOperation 62 = .ok (.invokevirtual 336, 3) := by decide +kernel
theorem dX10_takesOperation_65 : decode cX10_takesOperation 65 = .ok (.ireturn, 1) := by decide +kernel
theorem dX10_takesOperation_66 : decode cX10_takesOperation 66 = .ok (.aload_n 0, 1) := by decide +kernel
theorem dX10_takesOperation_67 : decode cX10_takesOperation 67 = .ok (.getfield 321, 3) := by decide +kernel
theorem dX10_takesOperation_70 : decode cX10_takesOperation 70 = .ok (.iconst 5, 1) := by decide +kernel
theorem dX10_takesOperation_71 : decode cX10_takesOperation 71 = .ok (.if_icmp .le 9, 3) := by decide +kernel
theorem dX10_takesOperation_74 : decode cX10_takesOperation 74 = .ok (.aload_n 0, 1) := by decide +kernel
theorem dX10_takesOperation_75 : decode cX10_takesOperation 75 = .ok (.iconst 2, 1) := by decide +kernel
theorem dX10_takesOperation_76 : decode cX10_takesOperation 76 = .ok (.invokevirtual 336, 3) := by decide +kernel
theorem dX10_takesOperation_79 : decode cX10_takesOperation 79 = .ok (.ireturn, 1) := by decide +kernel
theorem dX10_takesOperation_80 : decode cX10_takesOperation 80 = .ok (.aload_n 0, 1) := by decide +kernel
theorem dX10_takesOperation_81 : decode cX10_takesOperation 81 = .ok (.getfield 7, 3) := by decide +kernel
theorem dX10_takesOperation_84 : decode cX10_takesOperation 84 = .ok (.iconst 5, 1) := by decide +kernel
theorem dX10_takesOperation_85 : decode cX10_takesOperation 85 = .ok (.aload_n 0, 1) := by decide +kernel
theorem dX10_takesOperation_86 : decode cX10_takesOperation 86 = .ok (.getfield 144, 3) := by decide +kernel
theorem dX10_takesOperation_89 : decode cX10_takesOperation 89 = .ok (.imul, 1) := by decide +kernel
theorem dX10_takesOperation_90 : decode cX10_takesOperation 90 = .ok (.iconst 0, 1) := by decide +kernel
theorem dX10_takesOperation_91 : decode cX10_takesOperation 91 = .ok (.iadd, 1) := by decide +kernel
theorem dX10_takesOperation_92 : decode cX10_takesOperation 92 = .ok (.aload_n 0, 1) := by decide +kernel
theorem dX10_takesOperation_93 : decode cX10_takesOperation 93 = .ok (.getfield 321, 3) := by decide +kernel
theorem dX10_takesOperation_96 : decode cX10_takesOperation 96 = .ok (.iastore, 1) := by decide +kernel
theorem dX10_takesOperation_97 : decode cX10_takesOperation 97 = .ok (.aload_n 0, 1) := by decide +kernel
theorem dX10_takesOperation_98 : decode cX10_takesOperation 98 = .ok (.invokevirtual 339, 3) := by decide +kernel
theorem dX10_takesOperation_101 : decode cX10_takesOperation 101 = .ok (.aload_n 0, 1) := by decide +kernel
theorem dX10_takesOperation_102 : decode cX10_takesOperation 102 = .ok (.invokevirtual 350, 3) := by decide +kernel
theorem dX10_takesOperation_105 : decode cX10_takesOperation 105 = .ok (.ifCond .ge 9, 3) := by decide +kernel
theorem dX10_takesOperation_108 : decode cX10_takesOperation 108 = .ok (.aload_n 0, 1) := by decide +kernel
theorem dX10_takesOperation_109 : decode cX10_takesOperation 109 = .ok (.iconst 1, 1) := by decide +kernel
theorem dX10_takesOperation_110 : decode cX10_takesOperation 110 = .ok (.invokevirtual 336, 3) := by decide +kernel
theorem dX10_takesOperation_113 : decode cX10_takesOperation 113 = .ok (.ireturn, 1) := by decide +kernel
theorem dX10_takesOperation_114 : decode cX10_takesOperation 114 = .ok (.aload_n 0, 1) := by decide +kernel
theorem dX10_takesOperation_115 : decode cX10_takesOperation 115 = .ok (.getfield 7, 3) := by decide +kernel
theorem dX10_takesOperation_118 : decode cX10_takesOperation 118 = .ok (.iconst 5, 1) := by decide +kernel
theorem dX10_takesOperation_119 : decode cX10_takesOperation 119 = .ok (.aload_n 0, 1) := by decide +kernel
theorem dX10_takesOperation_120 : decode cX10_takesOperation 120 = .ok (.getfield 144, 3) := by decide +kernel
theorem dX10_takesOperation_123 : decode cX10_takesOperation 123 = .ok (.imul, 1) := by decide +kernel
theorem dX10_takesOperation_124 : decode cX10_takesOperation 124 = .ok (.iconst 1, 1) := by decide +kernel
theorem dX10_takesOperation_125 : decode cX10_takesOperation 125 = .ok (.iadd, 1) := by decide +kernel
theorem dX10_takesOperation_126 : decode cX10_takesOperation 126 = .ok (.aload_n 0, 1) := by decide +kernel
theorem dX10_takesOperation_127 : decode cX10_takesOperation 127 = .ok (.invokevirtual 350, 3) := by decide +kernel
theorem dX10_takesOperation_130 : decode cX10_takesOperation 130 = .ok (.iastore, 1) := by decide +kernel
theorem dX10_takesOperation_131 : decode cX10_takesOperation 131 = .ok (.aload_n 0, 1) := by decide +kernel
theorem dX10_takesOperation_132 : decode cX10_takesOperation 132 = .ok (.invokevirtual 339, 3) := by decide +kernel
theorem dX10_takesOperation_135 : decode cX10_takesOperation 135 = .ok (.aload_n 0, 1) := by decide +kernel
theorem dX10_takesOperation_136 : decode cX10_takesOperation 136 = .ok (.bipush 61, 2) := by decide +kernel
theorem dX10_takesOperation_138 : decode cX10_takesOperation 138 = .ok (.invokevirtual 375, 3) := by decide +kernel
theorem dX10_takesOperation_141 : decode cX10_takesOperation 141 = .ok (.ifCond .eq 11, 3) := by decide +kernel
theorem dX10_takesOperation_144 : decode cX10_takesOperation 144 = .ok (.aload_n 0, 1) := by decide +kernel
theorem dX10_takesOperation_145 : decode cX10_takesOperation 145 = .ok (.iconst 3, 1) := by decide +kernel
theorem dX10_takesOperation_146 : decode cX10_takesOperation 146 = .ok (.invokevirtual 378, 3) := by decide +kernel
theorem dX10_takesOperation_149 : decode cX10_takesOperation 149 = .ok (.ifCond .ne 5, 3) := by decide +kernel
theorem dX10_takesOperation_152 : decode cX10_takesOperation 152 = .ok (.iconst 0, 1) := by decide +kernel
theorem dX10_takesOperation_153 : decode cX10_takesOperation 153 = .ok (.ireturn, 1) := by decide +kernel
theorem dX10_takesOperation_154 : decode cX10_takesOperation 154 = .ok (.aload_n 0, 1) := by decide +kernel
theorem dX10_takesOperation_155 : decode cX10_takesOperation 155 = .ok (.getfield 312, 3) := by decide +kernel
theorem dX10_takesOperation_158 : decode cX10_takesOperation 158 = .ok (.iconst 3, 1) := by decide +kernel
theorem dX10_takesOperation_159 : decode cX10_takesOperation 159 = .ok (.if_icmp .ne 13, 3) := by decide +kernel
theorem dX10_takesOperation_162 : decode cX10_takesOperation 162 = .ok (.aload_n 0, 1) := by decide +kernel
theorem dX10_takesOperation_163 : decode cX10_takesOperation 163 = .ok (.getfield 321, 3) := by decide +kernel
theorem dX10_takesOperation_166 : decode cX10_takesOperation 166 = .ok (.invokestatic 324, 3) := by decide +kernel
theorem dX10_takesOperation_169 : decode cX10_takesOperation 169 = .ok (.goto 4, 3) := by decide +kernel
theorem dX10_takesOperation_172 : decode cX10_takesOperation 172 = .ok (.iconst 0, 1) := by decide +kernel
theorem dX10_takesOperation_173 : decode cX10_takesOperation 173 = .ok (.istore_n 1, 1) := by decide +kernel
theorem dX10_takesOperation_174 : decode cX10_takesOperation 174 = .ok (.aload_n 0, 1) := by decide +kernel
theorem dX10_takesOperation_175 : decode cX10_takesOperation 175 = .ok (.getfield 7, 3) := by decide +kernel
theorem dX10_takesOperation_178 : decode cX10_takesOperation 178 = .ok (.iconst 5, 1) := by decide +kernel
theorem dX10_takesOperation_179 : decode cX10_takesOperation 179 = .ok (.aload_n 0, 1) := by decide +kernel
theorem dX10_takesOperation_180 : decode cX10_takesOperation 180 = .ok (.getfield 144, 3) := by decide +kernel
theorem dX10_takesOperation_183 : decode cX10_takesOperation 183 = .ok (.imul, 1) := by decide +kernel
theorem dX10_takesOperation_184 : decode cX10_takesOperation 184 = .ok (.iconst 2, 1) := by decide +kernel
theorem dX10_takesOperation_185 : decode cX10_takesOperation 185 = .ok (.iadd, 1) := by decide +kernel
theorem dX10_takesOperation_186 : decode cX10_takesOperation 186 = .ok (.iload_n 1, 1) := by decide +kernel
theorem dX10_takesOperation_187 : decode cX10_takesOperation 187 = .ok (.iastore, 1) := by decide +kernel
theorem dX10_takesOperation_188 : decode cX10_takesOperation 188 = .ok (.iload_n 1, 1) := by decide +kernel
theorem dX10_takesOperation_189 : decode cX10_takesOperation 189 = .ok (.ifCond .le 17, 3) := by decide +kernel
theorem dX10_takesOperation_192 : decode cX10_takesOperation 192 = .ok (.aload_n 0, 1) := by decide +kernel
theorem dX10_takesOperation_193 : decode cX10_takesOperation 193 = .ok (.invokevirtual 339, 3) := by decide +kernel
theorem dX10_takesOperation_196 : decode cX10_takesOperation 196 = .ok (.aload_n 0, 1) := by decide +kernel
theorem dX10_takesOperation_197 : decode cX10_takesOperation 197 = .ok (.iconst 4, 1) := by decide +kernel
theorem dX10_takesOperation_198 : decode cX10_takesOperation 198 = .ok (.invokevirtual 378, 3) := by decide +kernel
theorem dX10_takesOperation_201 : decode cX10_takesOperation 201 = .ok (.ifCond .ne 5, 3) := by decide +kernel
theorem dX10_takesOperation_204 : decode cX10_takesOperation 204 = .ok (.iconst 0, 1) := by decide +kernel
theorem dX10_takesOperation_205 : decode cX10_takesOperation 205 = .ok (.ireturn, 1) := by decide +kernel
theorem dX10_takesOperation_206 : decode cX10_takesOperation 206 = .ok (.aload_n 0, 1) := by decide +kernel
theorem dX10_takesOperation_207 : decode cX10_takesOperation 207 = .ok (.dup, 1) := by decide +kernel
theorem dX10_takesOperation_208 : decode cX10_takesOperation 208 = .ok (.getfield 144, 3) := by decide +kernel
theorem dX10_takesOperation_211 : decode cX10_takesOperation 211 = .ok (.iconst 1, 1) := by decide +kernel
theorem dX10_takesOperation_212 : decode cX10_takesOperation 212 = .ok (.iadd, 1) := by decide +kernel
theorem dX10_takesOperation_213 : decode cX10_takesOperation 213 = .ok (.putfield 144, 3) := by decide +kernel
theorem dX10_takesOperation_216 : decode cX10_takesOperation 216 = .ok (.aload_n 0, 1) := by decide +kernel
theorem dX10_takesOperation_217 : decode cX10_takesOperation 217 = .ok (.bipush 59, 2) := by decide +kernel
theorem dX10_takesOperation_219 : decode cX10_takesOperation 219 = .ok (.invokevirtual 375, 3) := by decide +kernel
theorem dX10_takesOperation_222 : decode cX10_takesOperation 222 = .ok (.ireturn, 1) := by decide +kernel
set_option maxRecDepth 20000 in
theorem wp_X10_takesOperation (E : En) (d : Nat) (h : Hp) (P : Int32 → Hp → Prop) (t : (¬ (h.1 63 1) = (12 : Int32) → (SpV E d MX10_step [.ref (eA E 63)] h (fun h2 => SpI E d MX10_takesNewName [.ref (eA E 63), .int (h2.1 63 1)] h2 (fun v3 h3 => (¬ v3 = 0 → (SpI E d MX10_isWord [.ref (eA E 63), .ref (eK E 6)] h3 (fun v5 h5 => (¬ v5 = 0 → (SpV E d MX10_step [.ref (eA E 63)] h5 (fun h7 => ((h7.1 63 46) = (2 : Int32) → (((h7.1 63 47) ≤ (5 : Int32) → (vp_in (((5 : Int32) * (h7.1 63 1)) + (0 : Int32)) 60 ∧ (SpV E d MX10_step [.ref (eA E 63)] (sI h7 64 ((((5 : Int32) * (h7.1 63 1)) + (0 : Int32)).toNatClampNeg) (h7.1 63 47)) (fun h11 => SpI E d MX10_registerHere [.ref (eA E 63)] h11 (fun v12 h12 => (0 ≤ v12 → (SpI E d MX10_registerHere [.ref (eA E 63)] h12 (fun v14 h14 => vp_in (((5 : Int32) * (h12.1 63 1)) + (1 : Int32)) 60 ∧ (SpV E d MX10_step [.ref (eA E 63)] (sI h14 64 ((((5 : Int32) * (h12.1 63 1)) + (1 : Int32)).toNatClampNeg) v14) (fun h16 => SpI E d MX10_takesSign [.ref (eA E 63), .int (61 : Int32)] h16 (fun v17 h17 => (v17 = 0 → (P (0 : Int32) h17)) ∧ (¬ v17 = 0 → (SpI E d MX10_takesOperand [.ref (eA E 63), .int (3 : Int32)] h17 (fun v19 h19 => (¬ v19 = 0 → ((¬ (h19.1 63 46) = (3 : Int32) → (vp_in (((5 : Int32) * (h19.1 63 1)) + (2 : Int32)) 60 ∧ (((0 : Int32) ≤ 0 → (SpI E d MX10_takesSign [.ref (eA E 63), .int (59 : Int32)] (sI (sI h19 64 ((((5 : Int32) * (h19.1 63 1)) + (2 : Int32)).toNatClampNeg) (0 : Int32)) 63 1 ((h19.1 63 1) + (1 : Int32))) (fun v24 h24 => (v24 = 0 ∨ v24 = 1) ∧ P v24 h24))) ∧ (¬ (0 : Int32) ≤ 0 → (SpV E d MX10_step [.ref (eA E 63)] (sI h19 64 ((((5 : Int32) * (h19.1 63 1)) + (2 : Int32)).toNatClampNeg) (0 : Int32)) (fun h25 => SpI E d MX10_takesOperand [.ref (eA E 63), .int (4 : Int32)] h25 (fun v26 h26 => (¬ v26 = 0 → (SpI E d MX10_takesSign [.ref (eA E 63), .int (59 : Int32)] (sI h26 63 1 ((h26.1 63 1) + (1 : Int32))) (fun v28 h28 => (v28 = 0 ∨ v28 = 1) ∧ P v28 h28))) ∧ (v26 = 0 → (P (0 : Int32) h26))))))))) ∧ ((h19.1 63 46) = (3 : Int32) → (SpI E d MX10_signOf [.int (h19.1 63 47)] h19 (fun v29 h29 => vp_in (((5 : Int32) * (h29.1 63 1)) + (2 : Int32)) 60 ∧ ((v29 ≤ 0 → (SpI E d MX10_takesSign [.ref (eA E 63), .int (59 : Int32)] (sI (sI h29 64 ((((5 : Int32) * (h29.1 63 1)) + (2 : Int32)).toNatClampNeg) v29) 63 1 ((h29.1 63 1) + (1 : Int32))) (fun v32 h32 => (v32 = 0 ∨ v32 = 1) ∧ P v32 h32))) ∧ (¬ v29 ≤ 0 → (SpV E d MX10_step [.ref (eA E 63)] (sI h29 64 ((((5 : Int32) * (h29.1 63 1)) + (2 : Int32)).toNatClampNeg) v29) (fun h33 => SpI E d MX10_takesOperand [.ref (eA E 63), .int (4 : Int32)] h33 (fun v34 h34 => (¬ v34 = 0 → (SpI E d MX10_takesSign [.ref (eA E 63), .int (59 : Int32)] (sI h34 63 1 ((h34.1 63 1) + (1 : Int32))) (fun v36 h36 => (v36 = 0 ∨ v36 = 1) ∧ P v36 h36))) ∧ (v34 = 0 → (P (0 : Int32) h34)))))))))))) ∧ (v19 = 0 → (P (0 : Int32) h19))))))))))) ∧ (¬ 0 ≤ v12 → (SpI E d MX10_bad [.ref (eA E 63), .int (1 : Int32)] h12 (fun v37 h37 => (v37 = 0 ∨ v37 = 1) ∧ P v37 h37)))))))) ∧ (¬ (h7.1 63 47) ≤ (5 : Int32) → (SpI E d MX10_bad [.ref (eA E 63), .int (2 : Int32)] h7 (fun v38 h38 => (v38 = 0 ∨ v38 = 1) ∧ P v38 h38))))) ∧ (¬ (h7.1 63 46) = (2 : Int32) → (SpI E d MX10_bad [.ref (eA E 63), .int (1 : Int32)] h7 (fun v39 h39 => (v39 = 0 ∨ v39 = 1) ∧ P v39 h39)))))) ∧ (v5 = 0 → (SpI E d MX10_bad [.ref (eA E 63), .int (1 : Int32)] h5 (fun v40 h40 => (v40 = 0 ∨ v40 = 1) ∧ P v40 h40)))))) ∧ (v3 = 0 → (P (0 : Int32) h3)))))) ∧ ((h.1 63 1) = (12 : Int32) → (SpI E d MX10_bad [.ref (eA E 63), .int (5 : Int32)] h (fun v41 h41 => (v41 = 0 ∨ v41 = 1) ∧ P v41 h41)))) : SpI E (d + 1) MX10_takesOperation [.ref (eA E 63)] h P := by
  refine SpI.of (lv0 := [(0, .ref (eA E 63))]) (by decide) (Nat.le_of_ble_eq_true rfl) rfl (fun g => ?_)
  refine r_aload_n (q := 0) dX10_takesOperation_0 rfl rfl ?_
  refine r_getI (c := 63) dX10_takesOperation_1 flX10_144 lay_63 rfl ?_
  refine r_bipush (v := (12 : Int32)) dX10_takesOperation_4 rfl ?_
  refine r_icmp_ne (tgt := 15) dX10_takesOperation_6 (by decide) (fun q1 => ?_) (fun q1 => ?_)
  · have t := t.1 q1
    refine r_aload_n (q := 0) dX10_takesOperation_15 rfl rfl ?_
    refine r_cVV (c := 63) (As := []) dX10_takesOperation_16 mkX10_step lkX10_339 lay_63 rfl rfl rfl (by decide) rfl (Nat.le_of_ble_eq_true rfl) z00 t ?_
    intro h2 t
    refine r_aload_n (q := 0) dX10_takesOperation_19 rfl rfl ?_
    refine r_aload_n (q := 0) dX10_takesOperation_20 rfl rfl ?_
    refine r_getI (c := 63) dX10_takesOperation_21 flX10_144 lay_63 rfl ?_
    refine r_cVI (c := 63) (As := [.int (h2.1 63 1)]) dX10_takesOperation_24 mkX10_takesNewName lkX10_372 lay_63 rfl rfl rfl (by decide) rfl (Nat.le_of_ble_eq_true rfl) z00 t ?_
    intro v3 h3 t
    refine r_if_ne (tgt := 32) dX10_takesOperation_27 (by decide) (fun q4 => ?_) (fun q4 => ?_)
    · have t := t.1 q4
      refine r_aload_n (q := 0) dX10_takesOperation_32 rfl rfl ?_
      refine r_ldcSw (i := 6) (tx := "unit") dX10_takesOperation_33 (by decide) ?_
      refine r_cVI (c := 63) (As := [.ref (eK E 6)]) dX10_takesOperation_36 mkX10_isWord lkX10_355 lay_63 rfl rfl rfl (by decide) rfl (Nat.le_of_ble_eq_true rfl) z00 t ?_
      intro v5 h5 t
      refine r_if_ne (tgt := 48) dX10_takesOperation_39 (by decide) (fun q6 => ?_) (fun q6 => ?_)
      · have t := t.1 q6
        refine r_aload_n (q := 0) dX10_takesOperation_48 rfl rfl ?_
        refine r_cVV (c := 63) (As := []) dX10_takesOperation_49 mkX10_step lkX10_339 lay_63 rfl rfl rfl (by decide) rfl (Nat.le_of_ble_eq_true rfl) z00 t ?_
        intro h7 t
        refine r_aload_n (q := 0) dX10_takesOperation_52 rfl rfl ?_
        refine r_getI (c := 63) dX10_takesOperation_53 flX10_312 lay_63 rfl ?_
        refine r_iconst (v := (2 : Int32)) dX10_takesOperation_56 rfl ?_
        refine r_icmp_eq (tgt := 66) dX10_takesOperation_57 (by decide) (fun q8 => ?_) (fun q8 => ?_)
        · have t := t.1 q8
          refine r_aload_n (q := 0) dX10_takesOperation_66 rfl rfl ?_
          refine r_getI (c := 63) dX10_takesOperation_67 flX10_321 lay_63 rfl ?_
          refine r_iconst (v := (5 : Int32)) dX10_takesOperation_70 rfl ?_
          refine r_icmp_le (tgt := 80) dX10_takesOperation_71 (by decide) (fun q9 => ?_) (fun q9 => ?_)
          · have t := t.1 q9
            refine r_aload_n (q := 0) dX10_takesOperation_80 rfl rfl ?_
            refine r_getR (c := 63) (c2 := 64) dX10_takesOperation_81 flX10_7 lay_63 rfl ?_
            refine r_iconst (v := (5 : Int32)) dX10_takesOperation_84 rfl ?_
            refine r_aload_n (q := 0) dX10_takesOperation_85 rfl rfl ?_
            refine r_getI (c := 63) dX10_takesOperation_86 flX10_144 lay_63 rfl ?_
            refine r_imul dX10_takesOperation_89 ?_
            refine r_iconst (v := (0 : Int32)) dX10_takesOperation_90 rfl ?_
            refine r_iadd dX10_takesOperation_91 ?_
            refine r_aload_n (q := 0) dX10_takesOperation_92 rfl rfl ?_
            refine r_getI (c := 63) dX10_takesOperation_93 flX10_321 lay_63 rfl ?_
            obtain ⟨c10, t⟩ := t
            refine r_iast (c := 64) dX10_takesOperation_96 lay_64 c10 ?_
            refine r_aload_n (q := 0) dX10_takesOperation_97 rfl rfl ?_
            refine r_cVV (c := 63) (As := []) dX10_takesOperation_98 mkX10_step lkX10_339 lay_63 rfl rfl rfl (by decide) rfl (Nat.le_of_ble_eq_true rfl) z00 t ?_
            intro h11 t
            refine r_aload_n (q := 0) dX10_takesOperation_101 rfl rfl ?_
            refine r_cVI (c := 63) (As := []) dX10_takesOperation_102 mkX10_registerHere lkX10_350 lay_63 rfl rfl rfl (by decide) rfl (Nat.le_of_ble_eq_true rfl) z00 t ?_
            intro v12 h12 t
            refine r_if_ge (tgt := 114) dX10_takesOperation_105 (by decide) (fun q13 => ?_) (fun q13 => ?_)
            · have t := t.1 q13
              refine r_aload_n (q := 0) dX10_takesOperation_114 rfl rfl ?_
              refine r_getR (c := 63) (c2 := 64) dX10_takesOperation_115 flX10_7 lay_63 rfl ?_
              refine r_iconst (v := (5 : Int32)) dX10_takesOperation_118 rfl ?_
              refine r_aload_n (q := 0) dX10_takesOperation_119 rfl rfl ?_
              refine r_getI (c := 63) dX10_takesOperation_120 flX10_144 lay_63 rfl ?_
              refine r_imul dX10_takesOperation_123 ?_
              refine r_iconst (v := (1 : Int32)) dX10_takesOperation_124 rfl ?_
              refine r_iadd dX10_takesOperation_125 ?_
              refine r_aload_n (q := 0) dX10_takesOperation_126 rfl rfl ?_
              refine r_cVI (c := 63) (As := []) dX10_takesOperation_127 mkX10_registerHere lkX10_350 lay_63 rfl rfl rfl (by decide) rfl (Nat.le_of_ble_eq_true rfl) z00 t ?_
              intro v14 h14 t
              obtain ⟨c15, t⟩ := t
              refine r_iast (c := 64) dX10_takesOperation_130 lay_64 c15 ?_
              refine r_aload_n (q := 0) dX10_takesOperation_131 rfl rfl ?_
              refine r_cVV (c := 63) (As := []) dX10_takesOperation_132 mkX10_step lkX10_339 lay_63 rfl rfl rfl (by decide) rfl (Nat.le_of_ble_eq_true rfl) z00 t ?_
              intro h16 t
              refine r_aload_n (q := 0) dX10_takesOperation_135 rfl rfl ?_
              refine r_bipush (v := (61 : Int32)) dX10_takesOperation_136 rfl ?_
              refine r_cVI (c := 63) (As := [.int (61 : Int32)]) dX10_takesOperation_138 mkX10_takesSign lkX10_375 lay_63 rfl rfl rfl (by decide) rfl (Nat.le_of_ble_eq_true rfl) z00 t ?_
              intro v17 h17 t
              refine r_if_eq (tgt := 152) dX10_takesOperation_141 (by decide) (fun q18 => ?_) (fun q18 => ?_)
              · have t := t.1 q18
                refine r_iconst (v := (0 : Int32)) dX10_takesOperation_152 rfl ?_
                exact r_zret dX10_takesOperation_153 rfl (Or.inl rfl) t
              · have t := t.2 q18
                refine r_aload_n (q := 0) dX10_takesOperation_144 rfl rfl ?_
                refine r_iconst (v := (3 : Int32)) dX10_takesOperation_145 rfl ?_
                refine r_cVI (c := 63) (As := [.int (3 : Int32)]) dX10_takesOperation_146 mkX10_takesOperand lkX10_378 lay_63 rfl rfl rfl (by decide) rfl (Nat.le_of_ble_eq_true rfl) z00 t ?_
                intro v19 h19 t
                refine r_if_ne (tgt := 154) dX10_takesOperation_149 (by decide) (fun q20 => ?_) (fun q20 => ?_)
                · have t := t.1 q20
                  refine r_aload_n (q := 0) dX10_takesOperation_154 rfl rfl ?_
                  refine r_getI (c := 63) dX10_takesOperation_155 flX10_312 lay_63 rfl ?_
                  refine r_iconst (v := (3 : Int32)) dX10_takesOperation_158 rfl ?_
                  refine r_icmp_ne (tgt := 172) dX10_takesOperation_159 (by decide) (fun q21 => ?_) (fun q21 => ?_)
                  · have t := t.1 q21
                    refine r_iconst (v := (0 : Int32)) dX10_takesOperation_172 rfl ?_
                    refine r_istore_n (lv' := [(1, .int (0 : Int32)), (0, .ref (eA E 63))]) dX10_takesOperation_173 rfl (by decide) rfl ?_
                    refine r_aload_n (q := 1) dX10_takesOperation_174 rfl rfl ?_
                    refine r_getR (c := 63) (c2 := 64) dX10_takesOperation_175 flX10_7 lay_63 rfl ?_
                    refine r_iconst (v := (5 : Int32)) dX10_takesOperation_178 rfl ?_
                    refine r_aload_n (q := 1) dX10_takesOperation_179 rfl rfl ?_
                    refine r_getI (c := 63) dX10_takesOperation_180 flX10_144 lay_63 rfl ?_
                    refine r_imul dX10_takesOperation_183 ?_
                    refine r_iconst (v := (2 : Int32)) dX10_takesOperation_184 rfl ?_
                    refine r_iadd dX10_takesOperation_185 ?_
                    refine r_iload_n (q := 0) dX10_takesOperation_186 rfl rfl ?_
                    obtain ⟨c22, t⟩ := t
                    refine r_iast (c := 64) dX10_takesOperation_187 lay_64 c22 ?_
                    refine r_iload_n (q := 0) dX10_takesOperation_188 rfl rfl ?_
                    refine r_if_le (tgt := 206) dX10_takesOperation_189 (by decide) (fun q23 => ?_) (fun q23 => ?_)
                    · have t := t.1 q23
                      refine r_aload_n (q := 1) dX10_takesOperation_206 rfl rfl ?_
                      refine r_dup dX10_takesOperation_207 rfl ?_
                      refine r_getIv (c := 63) (v := h19.1 63 1) dX10_takesOperation_208 flX10_144 lay_63 rfl rfl ?_
                      refine r_iconst (v := (1 : Int32)) dX10_takesOperation_211 rfl ?_
                      refine r_iadd dX10_takesOperation_212 ?_
                      refine r_putI (c := 63) dX10_takesOperation_213 flX10_144 lay_63 rfl ?_
                      refine r_aload_n (q := 1) dX10_takesOperation_216 rfl rfl ?_
                      refine r_bipush (v := (59 : Int32)) dX10_takesOperation_217 rfl ?_
                      refine r_cVI (c := 63) (As := [.int (59 : Int32)]) dX10_takesOperation_219 mkX10_takesSign lkX10_375 lay_63 rfl rfl rfl (by decide) rfl (Nat.le_of_ble_eq_true rfl) z00 t ?_
                      intro v24 h24 t
                      exact r_zret dX10_takesOperation_222 rfl t.1 t.2
                    · have t := t.2 q23
                      refine r_aload_n (q := 1) dX10_takesOperation_192 rfl rfl ?_
                      refine r_cVV (c := 63) (As := []) dX10_takesOperation_193 mkX10_step lkX10_339 lay_63 rfl rfl rfl (by decide) rfl (Nat.le_of_ble_eq_true rfl) z00 t ?_
                      intro h25 t
                      refine r_aload_n (q := 1) dX10_takesOperation_196 rfl rfl ?_
                      refine r_iconst (v := (4 : Int32)) dX10_takesOperation_197 rfl ?_
                      refine r_cVI (c := 63) (As := [.int (4 : Int32)]) dX10_takesOperation_198 mkX10_takesOperand lkX10_378 lay_63 rfl rfl rfl (by decide) rfl (Nat.le_of_ble_eq_true rfl) z00 t ?_
                      intro v26 h26 t
                      refine r_if_ne (tgt := 206) dX10_takesOperation_201 (by decide) (fun q27 => ?_) (fun q27 => ?_)
                      · have t := t.1 q27
                        refine r_aload_n (q := 1) dX10_takesOperation_206 rfl rfl ?_
                        refine r_dup dX10_takesOperation_207 rfl ?_
                        refine r_getI (c := 63) dX10_takesOperation_208 flX10_144 lay_63 rfl ?_
                        refine r_iconst (v := (1 : Int32)) dX10_takesOperation_211 rfl ?_
                        refine r_iadd dX10_takesOperation_212 ?_
                        refine r_putI (c := 63) dX10_takesOperation_213 flX10_144 lay_63 rfl ?_
                        refine r_aload_n (q := 1) dX10_takesOperation_216 rfl rfl ?_
                        refine r_bipush (v := (59 : Int32)) dX10_takesOperation_217 rfl ?_
                        refine r_cVI (c := 63) (As := [.int (59 : Int32)]) dX10_takesOperation_219 mkX10_takesSign lkX10_375 lay_63 rfl rfl rfl (by decide) rfl (Nat.le_of_ble_eq_true rfl) z00 t ?_
                        intro v28 h28 t
                        exact r_zret dX10_takesOperation_222 rfl t.1 t.2
                      · have t := t.2 q27
                        refine r_iconst (v := (0 : Int32)) dX10_takesOperation_204 rfl ?_
                        exact r_zret dX10_takesOperation_205 rfl (Or.inl rfl) t
                  · have t := t.2 q21
                    refine r_aload_n (q := 0) dX10_takesOperation_162 rfl rfl ?_
                    refine r_getI (c := 63) dX10_takesOperation_163 flX10_321 lay_63 rfl ?_
                    refine r_cSI (As := [.int (h19.1 63 47)]) dX10_takesOperation_166 mkX10_signOf lkX10_324 rfl (by decide) rfl (Nat.le_of_ble_eq_true rfl) z00 t ?_
                    intro v29 h29 t
                    refine r_goto (tgt := 173) dX10_takesOperation_169 (by decide) ?_
                    refine r_istore_n (lv' := [(1, .int v29), (0, .ref (eA E 63))]) dX10_takesOperation_173 rfl (by decide) rfl ?_
                    refine r_aload_n (q := 1) dX10_takesOperation_174 rfl rfl ?_
                    refine r_getR (c := 63) (c2 := 64) dX10_takesOperation_175 flX10_7 lay_63 rfl ?_
                    refine r_iconst (v := (5 : Int32)) dX10_takesOperation_178 rfl ?_
                    refine r_aload_n (q := 1) dX10_takesOperation_179 rfl rfl ?_
                    refine r_getI (c := 63) dX10_takesOperation_180 flX10_144 lay_63 rfl ?_
                    refine r_imul dX10_takesOperation_183 ?_
                    refine r_iconst (v := (2 : Int32)) dX10_takesOperation_184 rfl ?_
                    refine r_iadd dX10_takesOperation_185 ?_
                    refine r_iload_n (q := 0) dX10_takesOperation_186 rfl rfl ?_
                    obtain ⟨c30, t⟩ := t
                    refine r_iast (c := 64) dX10_takesOperation_187 lay_64 c30 ?_
                    refine r_iload_n (q := 0) dX10_takesOperation_188 rfl rfl ?_
                    refine r_if_le (tgt := 206) dX10_takesOperation_189 (by decide) (fun q31 => ?_) (fun q31 => ?_)
                    · have t := t.1 q31
                      refine r_aload_n (q := 1) dX10_takesOperation_206 rfl rfl ?_
                      refine r_dup dX10_takesOperation_207 rfl ?_
                      refine r_getIv (c := 63) (v := h29.1 63 1) dX10_takesOperation_208 flX10_144 lay_63 rfl rfl ?_
                      refine r_iconst (v := (1 : Int32)) dX10_takesOperation_211 rfl ?_
                      refine r_iadd dX10_takesOperation_212 ?_
                      refine r_putI (c := 63) dX10_takesOperation_213 flX10_144 lay_63 rfl ?_
                      refine r_aload_n (q := 1) dX10_takesOperation_216 rfl rfl ?_
                      refine r_bipush (v := (59 : Int32)) dX10_takesOperation_217 rfl ?_
                      refine r_cVI (c := 63) (As := [.int (59 : Int32)]) dX10_takesOperation_219 mkX10_takesSign lkX10_375 lay_63 rfl rfl rfl (by decide) rfl (Nat.le_of_ble_eq_true rfl) z00 t ?_
                      intro v32 h32 t
                      exact r_zret dX10_takesOperation_222 rfl t.1 t.2
                    · have t := t.2 q31
                      refine r_aload_n (q := 1) dX10_takesOperation_192 rfl rfl ?_
                      refine r_cVV (c := 63) (As := []) dX10_takesOperation_193 mkX10_step lkX10_339 lay_63 rfl rfl rfl (by decide) rfl (Nat.le_of_ble_eq_true rfl) z00 t ?_
                      intro h33 t
                      refine r_aload_n (q := 1) dX10_takesOperation_196 rfl rfl ?_
                      refine r_iconst (v := (4 : Int32)) dX10_takesOperation_197 rfl ?_
                      refine r_cVI (c := 63) (As := [.int (4 : Int32)]) dX10_takesOperation_198 mkX10_takesOperand lkX10_378 lay_63 rfl rfl rfl (by decide) rfl (Nat.le_of_ble_eq_true rfl) z00 t ?_
                      intro v34 h34 t
                      refine r_if_ne (tgt := 206) dX10_takesOperation_201 (by decide) (fun q35 => ?_) (fun q35 => ?_)
                      · have t := t.1 q35
                        refine r_aload_n (q := 1) dX10_takesOperation_206 rfl rfl ?_
                        refine r_dup dX10_takesOperation_207 rfl ?_
                        refine r_getI (c := 63) dX10_takesOperation_208 flX10_144 lay_63 rfl ?_
                        refine r_iconst (v := (1 : Int32)) dX10_takesOperation_211 rfl ?_
                        refine r_iadd dX10_takesOperation_212 ?_
                        refine r_putI (c := 63) dX10_takesOperation_213 flX10_144 lay_63 rfl ?_
                        refine r_aload_n (q := 1) dX10_takesOperation_216 rfl rfl ?_
                        refine r_bipush (v := (59 : Int32)) dX10_takesOperation_217 rfl ?_
                        refine r_cVI (c := 63) (As := [.int (59 : Int32)]) dX10_takesOperation_219 mkX10_takesSign lkX10_375 lay_63 rfl rfl rfl (by decide) rfl (Nat.le_of_ble_eq_true rfl) z00 t ?_
                        intro v36 h36 t
                        exact r_zret dX10_takesOperation_222 rfl t.1 t.2
                      · have t := t.2 q35
                        refine r_iconst (v := (0 : Int32)) dX10_takesOperation_204 rfl ?_
                        exact r_zret dX10_takesOperation_205 rfl (Or.inl rfl) t
                · have t := t.2 q20
                  refine r_iconst (v := (0 : Int32)) dX10_takesOperation_152 rfl ?_
                  exact r_zret dX10_takesOperation_153 rfl (Or.inl rfl) t
            · have t := t.2 q13
              refine r_aload_n (q := 0) dX10_takesOperation_108 rfl rfl ?_
              refine r_iconst (v := (1 : Int32)) dX10_takesOperation_109 rfl ?_
              refine r_cVI (c := 63) (As := [.int (1 : Int32)]) dX10_takesOperation_110 mkX10_bad lkX10_336 lay_63 rfl rfl rfl (by decide) rfl (Nat.le_of_ble_eq_true rfl) z00 t ?_
              intro v37 h37 t
              exact r_zret dX10_takesOperation_113 rfl t.1 t.2
          · have t := t.2 q9
            refine r_aload_n (q := 0) dX10_takesOperation_74 rfl rfl ?_
            refine r_iconst (v := (2 : Int32)) dX10_takesOperation_75 rfl ?_
            refine r_cVI (c := 63) (As := [.int (2 : Int32)]) dX10_takesOperation_76 mkX10_bad lkX10_336 lay_63 rfl rfl rfl (by decide) rfl (Nat.le_of_ble_eq_true rfl) z00 t ?_
            intro v38 h38 t
            exact r_zret dX10_takesOperation_79 rfl t.1 t.2
        · have t := t.2 q8
          refine r_aload_n (q := 0) dX10_takesOperation_60 rfl rfl ?_
          refine r_iconst (v := (1 : Int32)) dX10_takesOperation_61 rfl ?_
          refine r_cVI (c := 63) (As := [.int (1 : Int32)]) dX10_takesOperation_62 mkX10_bad lkX10_336 lay_63 rfl rfl rfl (by decide) rfl (Nat.le_of_ble_eq_true rfl) z00 t ?_
          intro v39 h39 t
          exact r_zret dX10_takesOperation_65 rfl t.1 t.2
      · have t := t.2 q6
        refine r_aload_n (q := 0) dX10_takesOperation_42 rfl rfl ?_
        refine r_iconst (v := (1 : Int32)) dX10_takesOperation_43 rfl ?_
        refine r_cVI (c := 63) (As := [.int (1 : Int32)]) dX10_takesOperation_44 mkX10_bad lkX10_336 lay_63 rfl rfl rfl (by decide) rfl (Nat.le_of_ble_eq_true rfl) z00 t ?_
        intro v40 h40 t
        exact r_zret dX10_takesOperation_47 rfl t.1 t.2
    · have t := t.2 q4
      refine r_iconst (v := (0 : Int32)) dX10_takesOperation_30 rfl ?_
      exact r_zret dX10_takesOperation_31 rfl (Or.inl rfl) t
  · have t := t.2 q1
    refine r_aload_n (q := 0) dX10_takesOperation_9 rfl rfl ?_
    refine r_iconst (v := (5 : Int32)) dX10_takesOperation_10 rfl ?_
    refine r_cVI (c := 63) (As := [.int (5 : Int32)]) dX10_takesOperation_11 mkX10_bad lkX10_336 lay_63 rfl rfl rfl (by decide) rfl (Nat.le_of_ble_eq_true rfl) z00 t ?_
    intro v41 h41 t
    exact r_zret dX10_takesOperation_14 rfl t.1 t.2
theorem dX10_takesInstruction_0 : decode cX10_takesInstruction 0 = .ok (.aload_n 0, 1) := by decide +kernel
theorem dX10_takesInstruction_1 : decode cX10_takesInstruction 1 = .ok (.getfield 121, 3) := by decide +kernel
theorem dX10_takesInstruction_4 : decode cX10_takesInstruction 4 = .ok (.bipush 8, 2) := by decide +kernel
theorem dX10_takesInstruction_6 : decode cX10_takesInstruction 6 = .ok (.if_icmp .ne 9, 3) := by decide +kernel
theorem dX10_takesInstruction_9 : decode cX10_takesInstruction 9 = .ok (.aload_n 0, 1) := by decide +kernel
theorem dX10_takesInstruction_10 : decode cX10_takesInstruction 10 = .ok (.iconst 5, 1) := by decide +kernel
theorem dX10_takesInstruction_11 : decode cX10_takesInstruction 11 = .ok (.invokevirtual 336, 3) := by decide +kernel
theorem dX10_takesInstruction_14 : decode cX10_takesInstruction 14 = .ok (.ireturn, 1) := by decide +kernel
theorem dX10_takesInstruction_15 : decode cX10_takesInstruction 15 = .ok (.aload_n 0, 1) := by decide +kernel
theorem dX10_takesInstruction_16 : decode cX10_takesInstruction 16 = .ok (.invokevirtual 339, 3) := by decide +kernel
theorem dX10_takesInstruction_19 : decode cX10_takesInstruction 19 = .ok (.aload_n 0, 1) := by decide +kernel
theorem dX10_takesInstruction_20 : decode cX10_takesInstruction 20 = .ok (.getfield 121, 3) := by decide +kernel
theorem dX10_takesInstruction_23 : decode cX10_takesInstruction 23 = .ok (.istore_n 1, 1) := by decide +kernel
theorem dX10_takesInstruction_24 : decode cX10_takesInstruction 24 = .ok (.aload_n 0, 1) := by decide +kernel
theorem dX10_takesInstruction_25 : decode cX10_takesInstruction 25 = .ok (.bipush 12, 2) := by decide +kernel
theorem dX10_takesInstruction_27 : decode cX10_takesInstruction 27 = .ok (.iload_n 1, 1) := by decide +kernel
theorem dX10_takesInstruction_28 : decode cX10_takesInstruction 28 = .ok (.iadd, 1) := by decide +kernel
theorem dX10_takesInstruction_29 : decode cX10_takesInstruction 29 = .ok (.invokevirtual 372, 3) := by decide +kernel
theorem dX10_takesInstruction_32 : decode cX10_takesInstruction 32 = .ok (.ifCond .eq 12, 3) := by decide +kernel
theorem dX10_takesInstruction_35 : decode cX10_takesInstruction 35 = .ok (.aload_n 0, 1) := by decide +kernel
theorem dX10_takesInstruction_36 : decode cX10_takesInstruction 36 = .ok (.bipush 58, 2) := by decide +kernel
theorem dX10_takesInstruction_38 : decode cX10_takesInstruction 38 = .ok (.invokevirtual 375, 3) := by decide +kernel
theorem dX10_takesInstruction_41 : decode cX10_takesInstruction 41 = .ok (.ifCond .ne 5, 3) := by decide +kernel
theorem dX10_takesInstruction_44 : decode cX10_takesInstruction 44 = .ok (.iconst 0, 1) := by decide +kernel
theorem dX10_takesInstruction_45 : decode cX10_takesInstruction 45 = .ok (.ireturn, 1) := by decide +kernel
theorem dX10_takesInstruction_46 : decode cX10_takesInstruction 46 = .ok (.iconst 0, 1) := by decide +kernel
theorem dX10_takesInstruction_47 : decode cX10_takesInstruction 47 = .ok (.istore_n 2, 1) := by decide +kernel
theorem dX10_takesInstruction_48 : decode cX10_takesInstruction 48 = .ok (.iconst 0, 1) := by decide +kernel
theorem dX10_takesInstruction_49 : decode cX10_takesInstruction 49 = .ok (.istore_n 3, 1) := by decide +kernel
theorem dX10_takesInstruction_50 : decode cX10_takesInstruction 50 = .ok (.iconst 0, 1) := by decide +kernel
theorem dX10_takesInstruction_51 : decode cX10_takesInstruction 51 = .ok (.istore 4, 2) := by decide +kernel
theorem dX10_takesInstruction_53 : decode cX10_takesInstruction 53 = .ok (.iconst 1, 1) := by decide +kernel
theorem dX10_takesInstruction_54 : decode cX10_takesInstruction 54 = .ok (.istore 5, 2) := by decide +kernel
theorem dX10_takesInstruction_56 : decode cX10_takesInstruction 56 = .ok (.iload 5, 2) := by decide +kernel
theorem dX10_takesInstruction_58 : decode cX10_takesInstruction 58 = .ok (.ifCond .eq 142, 3) := by decide +kernel
theorem dX10_takesInstruction_61 : decode cX10_takesInstruction 61 = .ok (.aload_n 0, 1) := by decide +kernel
theorem dX10_takesInstruction_62 : decode cX10_takesInstruction 62 = .ok (.invokevirtual 365, 3) := by decide +kernel
theorem dX10_takesInstruction_65 : decode cX10_takesInstruction 65 = .ok (.ifCond .ne 9, 3) := by decide +kernel
theorem dX10_takesInstruction_68 : decode cX10_takesInstruction 68 = .ok (.aload_n 0, 1) := by decide +kernel
theorem dX10_takesInstruction_69 : decode cX10_takesInstruction 69 = .ok (.iconst 1, 1) := by decide +kernel
theorem dX10_takesInstruction_70 : decode cX10_takesInstruction 70 = .ok (.invokevirtual 336, 3) := by decide +kernel
theorem dX10_takesInstruction_73 : decode cX10_takesInstruction 73 = .ok (.ireturn, 1) := by decide +kernel
theorem dX10_takesInstruction_74 : decode cX10_takesInstruction 74 = .ok (.aload_n 0, 1) := by decide +kernel
theorem dX10_takesInstruction_75 : decode cX10_takesInstruction 75 = .ok (.invokevirtual 369, 3) := by decide +kernel
theorem dX10_takesInstruction_78 : decode cX10_takesInstruction 78 = .ok (.istore 6, 2) := by decide +kernel
theorem dX10_takesInstruction_80 : decode cX10_takesInstruction 80 = .ok (.iload 6, 2) := by decide +kernel
theorem dX10_takesInstruction_82 : decode cX10_takesInstruction 82 = .ok (.iconst 0, 1) := by decide +kernel
theorem dX10_takesInstruction_83 : decode cX10_takesInstruction 83 = .ok (.aload_n 0, 1) := by decide +kernel
theorem dX10_takesInstruction_84 : decode cX10_takesInstruction 84 = .ok (.getfield 144, 3) := by decide +kernel
theorem dX10_takesInstruction_87 : decode cX10_takesInstruction 87 = .ok (.iconst 1, 1) := by decide +kernel
theorem dX10_takesInstruction_88 : decode cX10_takesInstruction 88 = .ok (.isub, 1) := by decide +kernel
theorem dX10_takesInstruction_89 : decode cX10_takesInstruction 89 = .ok (.invokestatic 124, 3) := by decide +kernel
theorem dX10_takesInstruction_92 : decode cX10_takesInstruction 92 = .ok (.ifCond .ne 9, 3) := by decide +kernel
theorem dX10_takesInstruction_95 : decode cX10_takesInstruction 95 = .ok (.aload_n 0, 1) := by decide +kernel
theorem dX10_takesInstruction_96 : decode cX10_takesInstruction 96 = .ok (.iconst 4, 1) := by decide +kernel
theorem dX10_takesInstruction_97 : decode cX10_takesInstruction 97 = .ok (.invokevirtual 336, 3) := by decide +kernel
theorem dX10_takesInstruction_100 : decode cX10_takesInstruction 100 = .ok (.ireturn, 1) := by decide +kernel
theorem dX10_takesInstruction_101 : decode cX10_takesInstruction 101 = .ok (.iload_n 2, 1) := by decide +kernel
theorem dX10_takesInstruction_102 : decode cX10_takesInstruction 102 = .ok (.bipush 24, 2) := by decide +kernel
theorem dX10_takesInstruction_104 : decode cX10_takesInstruction 104 = .ok (.if_icmp .eq 9, 3) := by decide +kernel
theorem dX10_takesInstruction_107 : decode cX10_takesInstruction 107 = .ok (.iload_n 3, 1) := by decide +kernel
theorem dX10_takesInstruction_108 : decode cX10_takesInstruction 108 = .ok (.bipush 10, 2) := by decide +kernel
theorem dX10_takesInstruction_110 : decode cX10_takesInstruction 110 = .ok (.if_icmp .ne 9, 3) := by decide +kernel
theorem dX10_takesInstruction_113 : decode cX10_takesInstruction 113 = .ok (.aload_n 0, 1) := by decide +kernel
theorem dX10_takesInstruction_114 : decode cX10_takesInstruction 114 = .ok (.iconst 5, 1) := by decide +kernel
theorem dX10_takesInstruction_115 : decode cX10_takesInstruction 115 = .ok (.invokevirtual 336, 3) := by decide +kernel
theorem dX10_takesInstruction_118 : decode cX10_takesInstruction 118 = .ok (.ireturn, 1) := by decide +kernel
theorem dX10_takesInstruction_119 : decode cX10_takesInstruction 119 = .ok (.aload_n 0, 1) := by decide +kernel
theorem dX10_takesInstruction_120 : decode cX10_takesInstruction 120 = .ok (.getfield 19, 3) := by decide +kernel
theorem dX10_takesInstruction_123 : decode cX10_takesInstruction 123 = .ok (.bipush 24, 2) := by decide +kernel
theorem dX10_takesInstruction_125 : decode cX10_takesInstruction 125 = .ok (.iload_n 1, 1) := by decide +kernel
theorem dX10_takesInstruction_126 : decode cX10_takesInstruction 126 = .ok (.imul, 1) := by decide +kernel
theorem dX10_takesInstruction_127 : decode cX10_takesInstruction 127 = .ok (.iload_n 2, 1) := by decide +kernel
theorem dX10_takesInstruction_128 : decode cX10_takesInstruction 128 = .ok (.iadd, 1) := by decide +kernel
theorem dX10_takesInstruction_129 : decode cX10_takesInstruction 129 = .ok (.iload 6, 2) := by decide +kernel
theorem dX10_takesInstruction_131 : decode cX10_takesInstruction 131 = .ok (.iastore, 1) := by decide +kernel
theorem dX10_takesInstruction_132 : decode cX10_takesInstruction 132 = .ok (.iinc 2 1, 3) := by decide +kernel
theorem dX10_takesInstruction_135 : decode cX10_takesInstruction 135 = .ok (.iinc 3 1, 3) := by decide +kernel
theorem dX10_takesInstruction_138 : decode cX10_takesInstruction 138 = .ok (.aload_n 0, 1) := by decide +kernel
theorem dX10_takesInstruction_139 : decode cX10_takesInstruction 139 = .ok (.invokevirtual 339, 3) := by decide +kernel
theorem dX10_takesInstruction_142 : decode cX10_takesInstruction 142 = .ok (.aload_n 0, 1) := by decide +kernel
theorem dX10_takesInstruction_143 : decode cX10_takesInstruction 143 = .ok (.bipush 44, 2) := by decide +kernel
theorem dX10_takesInstruction_145 : decode cX10_takesInstruction 145 = .ok (.invokevirtual 333, 3) := by decide +kernel
theorem dX10_takesInstruction_148 : decode cX10_takesInstruction 148 = .ok (.ifCond .ne 12, 3) := by decide +kernel
theorem dX10_takesInstruction_151 : decode cX10_takesInstruction 151 = .ok (.aload_n 0, 1) := by decide +kernel
theorem dX10_takesInstruction_152 : decode cX10_takesInstruction 152 = .ok (.bipush 33, 2) := by decide +kernel
theorem dX10_takesInstruction_154 : decode cX10_takesInstruction 154 = .ok (.invokevirtual 333, 3) := by decide +kernel
theorem dX10_takesInstruction_157 : decode cX10_takesInstruction 157 = .ok (.ifCond .eq 7, 3) := by decide +kernel
theorem dX10_takesInstruction_160 : decode cX10_takesInstruction 160 = .ok (.iconst 1, 1) := by decide +kernel
theorem dX10_takesInstruction_161 : decode cX10_takesInstruction 161 = .ok (.goto 4, 3) := by decide +kernel
theorem dX10_takesInstruction_164 : decode cX10_takesInstruction 164 = .ok (.iconst 0, 1) := by decide +kernel
theorem dX10_takesInstruction_165 : decode cX10_takesInstruction 165 = .ok (.istore 5, 2) := by decide +kernel
theorem dX10_takesInstruction_167 : decode cX10_takesInstruction 167 = .ok (.aload_n 0, 1) := by decide +kernel
theorem dX10_takesInstruction_168 : decode cX10_takesInstruction 168 = .ok (.bipush 33, 2) := by decide +kernel
theorem dX10_takesInstruction_170 : decode cX10_takesInstruction 170 = .ok (.invokevirtual 333, 3) := by decide +kernel
theorem dX10_takesInstruction_173 : decode cX10_takesInstruction 173 = .ok (.ifCond .eq 15, 3) := by decide +kernel
theorem dX10_takesInstruction_176 : decode cX10_takesInstruction 176 = .ok (.iload 4, 2) := by decide +kernel
theorem dX10_takesInstruction_178 : decode cX10_takesInstruction 178 = .ok (.iconst 1, 1) := by decide +kernel
theorem dX10_takesInstruction_179 : decode cX10_takesInstruction 179 = .ok (.iload_n 2, 1) := by decide +kernel
theorem dX10_takesInstruction_180 : decode cX10_takesInstruction 180 = .ok (.iconst 1, 1) := by decide +kernel
theorem dX10_takesInstruction_181 : decode cX10_takesInstruction 181 = .ok (.isub, 1) := by decide +kernel
theorem dX10_takesInstruction_182 : decode cX10_takesInstruction 182 = .ok (.ishl, 1) := by decide +kernel
theorem dX10_takesInstruction_183 : decode cX10_takesInstruction 183 = .ok (.ior, 1) := by decide +kernel
theorem dX10_takesInstruction_184 : decode cX10_takesInstruction 184 = .ok (.istore 4, 2) := by decide +kernel
theorem dX10_takesInstruction_186 : decode cX10_takesInstruction 186 = .ok (.iconst 0, 1) := by decide +kernel
theorem dX10_takesInstruction_187 : decode cX10_takesInstruction 187 = .ok (.istore_n 3, 1) := by decide +kernel
theorem dX10_takesInstruction_188 : decode cX10_takesInstruction 188 = .ok (.iload 5, 2) := by decide +kernel
theorem dX10_takesInstruction_190 : decode cX10_takesInstruction 190 = .ok (.ifCond .eq 7, 3) := by decide +kernel
theorem dX10_takesInstruction_193 : decode cX10_takesInstruction 193 = .ok (.aload_n 0, 1) := by decide +kernel
theorem dX10_takesInstruction_194 : decode cX10_takesInstruction 194 = .ok (.invokevirtual 339, 3) := by decide +kernel
theorem dX10_takesInstruction_197 : decode cX10_takesInstruction 197 = .ok (.goto (-141), 3) := by decide +kernel
theorem dX10_takesInstruction_200 : decode cX10_takesInstruction 200 = .ok (.aload_n 0, 1) := by decide +kernel
theorem dX10_takesInstruction_201 : decode cX10_takesInstruction 201 = .ok (.getfield 16, 3) := by decide +kernel
theorem dX10_takesInstruction_204 : decode cX10_takesInstruction 204 = .ok (.iload_n 1, 1) := by decide +kernel
theorem dX10_takesInstruction_205 : decode cX10_takesInstruction 205 = .ok (.iload_n 2, 1) := by decide +kernel
theorem dX10_takesInstruction_206 : decode cX10_takesInstruction 206 = .ok (.iastore, 1) := by decide +kernel
theorem dX10_takesInstruction_207 : decode cX10_takesInstruction 207 = .ok (.aload_n 0, 1) := by decide +kernel
theorem dX10_takesInstruction_208 : decode cX10_takesInstruction 208 = .ok (.getfield 22, 3) := by decide +kernel
theorem dX10_takesInstruction_211 : decode cX10_takesInstruction 211 = .ok (.iconst 1, 1) := by decide +kernel
theorem dX10_takesInstruction_212 : decode cX10_takesInstruction 212 = .ok (.iload_n 1, 1) := by decide +kernel
theorem dX10_takesInstruction_213 : decode cX10_takesInstruction 213 = .ok (.iadd, 1) := by decide +kernel
theorem dX10_takesInstruction_214 : decode cX10_takesInstruction 214 = .ok (.iload 4, 2) := by decide +kernel
theorem dX10_takesInstruction_216 : decode cX10_takesInstruction 216 = .ok (.iastore, 1) := by decide +kernel
theorem dX10_takesInstruction_217 : decode cX10_takesInstruction 217 = .ok (.aload_n 0, 1) := by decide +kernel
theorem dX10_takesInstruction_218 : decode cX10_takesInstruction 218 = .ok (.dup, 1) := by decide +kernel
theorem dX10_takesInstruction_219 : decode cX10_takesInstruction 219 = .ok (.getfield 121, 3) := by decide +kernel
theorem dX10_takesInstruction_222 : decode cX10_takesInstruction 222 = .ok (.iconst 1, 1) := by decide +kernel
theorem dX10_takesInstruction_223 : decode cX10_takesInstruction 223 = .ok (.iadd, 1) := by decide +kernel
theorem dX10_takesInstruction_224 : decode cX10_takesInstruction 224 = .ok (.putfield 121, 3) := by decide +kernel
theorem dX10_takesInstruction_227 : decode cX10_takesInstruction 227 = .ok (.aload_n 0, 1) := by decide +kernel
theorem dX10_takesInstruction_228 : decode cX10_takesInstruction 228 = .ok (.bipush 59, 2) := by decide +kernel
theorem dX10_takesInstruction_230 : decode cX10_takesInstruction 230 = .ok (.invokevirtual 375, 3) := by decide +kernel
theorem dX10_takesInstruction_233 : decode cX10_takesInstruction 233 = .ok (.ireturn, 1) := by decide +kernel
abbrev VX10_takesInstruction_56 (E : En) (d : Nat) (g : Ga) (P : Int32 → Hp → Prop) (x1 : Int32) (x2 : Int32) (x3 : Int32) (x4 : Int32) (x5 : Int32) (h : Hp) : Prop := V E MX10_takesInstruction (RM (d + 1) 0) g (QQ E g (QI E P) 0 0) 0 0 h 56 [(0, .ref (eA E 63)), (1, .int x1), (2, .int x2), (3, .int x3), (4, .int x4), (5, .int x5)] []
set_option maxRecDepth 20000 in
theorem wp_X10_takesInstruction (E : En) (d : Nat) (h : Hp) (P : Int32 → Hp → Prop) (t : ∀ g : Ga, (¬ (h.1 63 2) = (8 : Int32) → (SpV E d MX10_step [.ref (eA E 63)] h (fun h2 => SpI E d MX10_takesNewName [.ref (eA E 63), .int ((12 : Int32) + (h2.1 63 2))] h2 (fun v3 h3 => (v3 = 0 → (P (0 : Int32) h3)) ∧ (¬ v3 = 0 → (SpI E d MX10_takesSign [.ref (eA E 63), .int (58 : Int32)] h3 (fun v5 h5 => (¬ v5 = 0 → (VX10_takesInstruction_56 E d g P (h2.1 63 2) (0 : Int32) (0 : Int32) (0 : Int32) (1 : Int32) h5)) ∧ (v5 = 0 → (P (0 : Int32) h5))))))))) ∧ ((h.1 63 2) = (8 : Int32) → (SpI E d MX10_bad [.ref (eA E 63), .int (5 : Int32)] h (fun v7 h7 => (v7 = 0 ∨ v7 = 1) ∧ P v7 h7)))) : SpI E (d + 1) MX10_takesInstruction [.ref (eA E 63)] h P := by
  refine SpI.of (lv0 := [(0, .ref (eA E 63))]) (by decide) (Nat.le_of_ble_eq_true rfl) rfl (fun g => ?_)
  have t := t g
  refine r_aload_n (q := 0) dX10_takesInstruction_0 rfl rfl ?_
  refine r_getI (c := 63) dX10_takesInstruction_1 flX10_121 lay_63 rfl ?_
  refine r_bipush (v := (8 : Int32)) dX10_takesInstruction_4 rfl ?_
  refine r_icmp_ne (tgt := 15) dX10_takesInstruction_6 (by decide) (fun q1 => ?_) (fun q1 => ?_)
  · have t := t.1 q1
    refine r_aload_n (q := 0) dX10_takesInstruction_15 rfl rfl ?_
    refine r_cVV (c := 63) (As := []) dX10_takesInstruction_16 mkX10_step lkX10_339 lay_63 rfl rfl rfl (by decide) rfl (Nat.le_of_ble_eq_true rfl) z00 t ?_
    intro h2 t
    refine r_aload_n (q := 0) dX10_takesInstruction_19 rfl rfl ?_
    refine r_getI (c := 63) dX10_takesInstruction_20 flX10_121 lay_63 rfl ?_
    refine r_istore_n (lv' := [(1, .int (h2.1 63 2)), (0, .ref (eA E 63))]) dX10_takesInstruction_23 rfl (by decide) rfl ?_
    refine r_aload_n (q := 1) dX10_takesInstruction_24 rfl rfl ?_
    refine r_bipush (v := (12 : Int32)) dX10_takesInstruction_25 rfl ?_
    refine r_iload_n (q := 0) dX10_takesInstruction_27 rfl rfl ?_
    refine r_iadd dX10_takesInstruction_28 ?_
    refine r_cVI (c := 63) (As := [.int ((12 : Int32) + (h2.1 63 2))]) dX10_takesInstruction_29 mkX10_takesNewName lkX10_372 lay_63 rfl rfl rfl (by decide) rfl (Nat.le_of_ble_eq_true rfl) z00 t ?_
    intro v3 h3 t
    refine r_if_eq (tgt := 44) dX10_takesInstruction_32 (by decide) (fun q4 => ?_) (fun q4 => ?_)
    · have t := t.1 q4
      refine r_iconst (v := (0 : Int32)) dX10_takesInstruction_44 rfl ?_
      exact r_zret dX10_takesInstruction_45 rfl (Or.inl rfl) t
    · have t := t.2 q4
      refine r_aload_n (q := 1) dX10_takesInstruction_35 rfl rfl ?_
      refine r_bipush (v := (58 : Int32)) dX10_takesInstruction_36 rfl ?_
      refine r_cVI (c := 63) (As := [.int (58 : Int32)]) dX10_takesInstruction_38 mkX10_takesSign lkX10_375 lay_63 rfl rfl rfl (by decide) rfl (Nat.le_of_ble_eq_true rfl) z00 t ?_
      intro v5 h5 t
      refine r_if_ne (tgt := 46) dX10_takesInstruction_41 (by decide) (fun q6 => ?_) (fun q6 => ?_)
      · have t := t.1 q6
        refine r_iconst (v := (0 : Int32)) dX10_takesInstruction_46 rfl ?_
        refine r_istore_n (lv' := [(2, .int (0 : Int32)), (1, .int (h2.1 63 2)), (0, .ref (eA E 63))]) dX10_takesInstruction_47 rfl (by decide) rfl ?_
        refine r_iconst (v := (0 : Int32)) dX10_takesInstruction_48 rfl ?_
        refine r_istore_n (lv' := [(3, .int (0 : Int32)), (2, .int (0 : Int32)), (1, .int (h2.1 63 2)), (0, .ref (eA E 63))]) dX10_takesInstruction_49 rfl (by decide) rfl ?_
        refine r_iconst (v := (0 : Int32)) dX10_takesInstruction_50 rfl ?_
        refine r_istore (lv' := [(4, .int (0 : Int32)), (3, .int (0 : Int32)), (2, .int (0 : Int32)), (1, .int (h2.1 63 2)), (0, .ref (eA E 63))]) dX10_takesInstruction_51 (by decide) rfl ?_
        refine r_iconst (v := (1 : Int32)) dX10_takesInstruction_53 rfl ?_
        refine r_istore (lv' := [(5, .int (1 : Int32)), (4, .int (0 : Int32)), (3, .int (0 : Int32)), (2, .int (0 : Int32)), (1, .int (h2.1 63 2)), (0, .ref (eA E 63))]) dX10_takesInstruction_54 (by decide) rfl ?_
        refine r_sub [5, 4, 3, 2, 1, 0] rfl ?_
        exact t
      · have t := t.2 q6
        refine r_iconst (v := (0 : Int32)) dX10_takesInstruction_44 rfl ?_
        exact r_zret dX10_takesInstruction_45 rfl (Or.inl rfl) t
  · have t := t.2 q1
    refine r_aload_n (q := 0) dX10_takesInstruction_9 rfl rfl ?_
    refine r_iconst (v := (5 : Int32)) dX10_takesInstruction_10 rfl ?_
    refine r_cVI (c := 63) (As := [.int (5 : Int32)]) dX10_takesInstruction_11 mkX10_bad lkX10_336 lay_63 rfl rfl rfl (by decide) rfl (Nat.le_of_ble_eq_true rfl) z00 t ?_
    intro v7 h7 t
    exact r_zret dX10_takesInstruction_14 rfl t.1 t.2
set_option maxRecDepth 20000 in
theorem sg_X10_takesInstruction_56 (E : En) (d : Nat) (g : Ga) (x1 : Int32) (x2 : Int32) (x3 : Int32) (x4 : Int32) (x5 : Int32) (h : Hp) (P : Int32 → Hp → Prop) (t : (x5 = 0 → (vp_in x1 8 ∧ (vp_in ((1 : Int32) + x1) 9 ∧ (SpI E d MX10_takesSign [.ref (eA E 63), .int (59 : Int32)] (sI (sI (sI h 66 x1.toNatClampNeg x2) 68 (((1 : Int32) + x1).toNatClampNeg) x4) 63 2 ((h.1 63 2) + (1 : Int32))) (fun v4 h4 => (v4 = 0 ∨ v4 = 1) ∧ P v4 h4))))) ∧ (¬ x5 = 0 → (SpI E d MX10_isName [.ref (eA E 63)] h (fun v5 h5 => (¬ v5 = 0 → (SpI E d MX10_named [.ref (eA E 63)] h5 (fun v7 h7 => SpI E d MX10_isIn [.int v7, .int (0 : Int32), .int ((h7.1 63 1) - (1 : Int32))] h7 (fun v8 h8 => (¬ v8 = 0 → ((x2 = (24 : Int32) → (SpI E d MX10_bad [.ref (eA E 63), .int (5 : Int32)] h8 (fun v11 h11 => (v11 = 0 ∨ v11 = 1) ∧ P v11 h11))) ∧ (¬ x2 = (24 : Int32) → ((¬ x3 = (10 : Int32) → (vp_in (((24 : Int32) * x1) + x2) 192 ∧ (SpV E d MX10_step [.ref (eA E 63)] (sI h8 67 ((((24 : Int32) * x1) + x2).toNatClampNeg) v7) (fun h14 => SpI E d MX10_isSign [.ref (eA E 63), .int (44 : Int32)] h14 (fun v15 h15 => (¬ v15 = 0 → (SpI E d MX10_isSign [.ref (eA E 63), .int (33 : Int32)] h15 (fun v17 h17 => (v17 = 0 → (((1 : Int32) = 0 → (VX10_takesInstruction_56 E d g P x1 (x2 + (1 : Int32)) (x3 + (1 : Int32)) x4 (1 : Int32) h17)) ∧ (¬ (1 : Int32) = 0 → (SpV E d MX10_step [.ref (eA E 63)] h17 (fun h20 => VX10_takesInstruction_56 E d g P x1 (x2 + (1 : Int32)) (x3 + (1 : Int32)) x4 (1 : Int32) h20))))) ∧ (¬ v17 = 0 → (((1 : Int32) = 0 → (VX10_takesInstruction_56 E d g P x1 (x2 + (1 : Int32)) (0 : Int32) (x4 ||| ((1 : Int32) <<< (((x2 + (1 : Int32)) - (1 : Int32)) &&& 31))) (1 : Int32) h17)) ∧ (¬ (1 : Int32) = 0 → (SpV E d MX10_step [.ref (eA E 63)] h17 (fun h22 => VX10_takesInstruction_56 E d g P x1 (x2 + (1 : Int32)) (0 : Int32) (x4 ||| ((1 : Int32) <<< (((x2 + (1 : Int32)) - (1 : Int32)) &&& 31))) (1 : Int32) h22)))))))) ∧ (v15 = 0 → (SpI E d MX10_isSign [.ref (eA E 63), .int (33 : Int32)] h15 (fun v23 h23 => (v23 = 0 → (SpI E d MX10_isSign [.ref (eA E 63), .int (33 : Int32)] h23 (fun v25 h25 => (v25 = 0 → (((0 : Int32) = 0 → (VX10_takesInstruction_56 E d g P x1 (x2 + (1 : Int32)) (x3 + (1 : Int32)) x4 (0 : Int32) h25)) ∧ (¬ (0 : Int32) = 0 → (SpV E d MX10_step [.ref (eA E 63)] h25 (fun h28 => VX10_takesInstruction_56 E d g P x1 (x2 + (1 : Int32)) (x3 + (1 : Int32)) x4 (0 : Int32) h28))))) ∧ (¬ v25 = 0 → (((0 : Int32) = 0 → (VX10_takesInstruction_56 E d g P x1 (x2 + (1 : Int32)) (0 : Int32) (x4 ||| ((1 : Int32) <<< (((x2 + (1 : Int32)) - (1 : Int32)) &&& 31))) (0 : Int32) h25)) ∧ (¬ (0 : Int32) = 0 → (SpV E d MX10_step [.ref (eA E 63)] h25 (fun h30 => VX10_takesInstruction_56 E d g P x1 (x2 + (1 : Int32)) (0 : Int32) (x4 ||| ((1 : Int32) <<< (((x2 + (1 : Int32)) - (1 : Int32)) &&& 31))) (0 : Int32) h30)))))))) ∧ (¬ v23 = 0 → (SpI E d MX10_isSign [.ref (eA E 63), .int (33 : Int32)] h23 (fun v31 h31 => (v31 = 0 → (((1 : Int32) = 0 → (VX10_takesInstruction_56 E d g P x1 (x2 + (1 : Int32)) (x3 + (1 : Int32)) x4 (1 : Int32) h31)) ∧ (¬ (1 : Int32) = 0 → (SpV E d MX10_step [.ref (eA E 63)] h31 (fun h34 => VX10_takesInstruction_56 E d g P x1 (x2 + (1 : Int32)) (x3 + (1 : Int32)) x4 (1 : Int32) h34))))) ∧ (¬ v31 = 0 → (((1 : Int32) = 0 → (VX10_takesInstruction_56 E d g P x1 (x2 + (1 : Int32)) (0 : Int32) (x4 ||| ((1 : Int32) <<< (((x2 + (1 : Int32)) - (1 : Int32)) &&& 31))) (1 : Int32) h31)) ∧ (¬ (1 : Int32) = 0 → (SpV E d MX10_step [.ref (eA E 63)] h31 (fun h36 => VX10_takesInstruction_56 E d g P x1 (x2 + (1 : Int32)) (0 : Int32) (x4 ||| ((1 : Int32) <<< (((x2 + (1 : Int32)) - (1 : Int32)) &&& 31))) (1 : Int32) h36)))))))))))))))) ∧ (x3 = (10 : Int32) → (SpI E d MX10_bad [.ref (eA E 63), .int (5 : Int32)] h8 (fun v37 h37 => (v37 = 0 ∨ v37 = 1) ∧ P v37 h37))))))) ∧ (v8 = 0 → (SpI E d MX10_bad [.ref (eA E 63), .int (4 : Int32)] h8 (fun v38 h38 => (v38 = 0 ∨ v38 = 1) ∧ P v38 h38))))))) ∧ (v5 = 0 → (SpI E d MX10_bad [.ref (eA E 63), .int (1 : Int32)] h5 (fun v39 h39 => (v39 = 0 ∨ v39 = 1) ∧ P v39 h39))))))) : VX10_takesInstruction_56 E d g P x1 x2 x3 x4 x5 h := by
  refine r_iload (q := 5) dX10_takesInstruction_56 rfl ?_
  refine r_if_eq (tgt := 200) dX10_takesInstruction_58 (by decide) (fun q1 => ?_) (fun q1 => ?_)
  · have t := t.1 q1
    refine r_aload_n (q := 0) dX10_takesInstruction_200 rfl rfl ?_
    refine r_getR (c := 63) (c2 := 66) dX10_takesInstruction_201 flX10_16 lay_63 rfl ?_
    refine r_iload_n (q := 1) dX10_takesInstruction_204 rfl rfl ?_
    refine r_iload_n (q := 2) dX10_takesInstruction_205 rfl rfl ?_
    obtain ⟨c2, t⟩ := t
    refine r_iast (c := 66) dX10_takesInstruction_206 lay_66 c2 ?_
    refine r_aload_n (q := 0) dX10_takesInstruction_207 rfl rfl ?_
    refine r_getR (c := 63) (c2 := 68) dX10_takesInstruction_208 flX10_22 lay_63 rfl ?_
    refine r_iconst (v := (1 : Int32)) dX10_takesInstruction_211 rfl ?_
    refine r_iload_n (q := 1) dX10_takesInstruction_212 rfl rfl ?_
    refine r_iadd dX10_takesInstruction_213 ?_
    refine r_iload (q := 4) dX10_takesInstruction_214 rfl ?_
    obtain ⟨c3, t⟩ := t
    refine r_iast (c := 68) dX10_takesInstruction_216 lay_68 c3 ?_
    refine r_aload_n (q := 0) dX10_takesInstruction_217 rfl rfl ?_
    refine r_dup dX10_takesInstruction_218 rfl ?_
    refine r_getIv (c := 63) (v := h.1 63 2) dX10_takesInstruction_219 flX10_121 lay_63 rfl rfl ?_
    refine r_iconst (v := (1 : Int32)) dX10_takesInstruction_222 rfl ?_
    refine r_iadd dX10_takesInstruction_223 ?_
    refine r_putI (c := 63) dX10_takesInstruction_224 flX10_121 lay_63 rfl ?_
    refine r_aload_n (q := 0) dX10_takesInstruction_227 rfl rfl ?_
    refine r_bipush (v := (59 : Int32)) dX10_takesInstruction_228 rfl ?_
    refine r_cVI (c := 63) (As := [.int (59 : Int32)]) dX10_takesInstruction_230 mkX10_takesSign lkX10_375 lay_63 rfl rfl rfl (by decide) rfl (Nat.le_of_ble_eq_true rfl) z00 t ?_
    intro v4 h4 t
    exact r_zret dX10_takesInstruction_233 rfl t.1 t.2
  · have t := t.2 q1
    refine r_aload_n (q := 0) dX10_takesInstruction_61 rfl rfl ?_
    refine r_cVI (c := 63) (As := []) dX10_takesInstruction_62 mkX10_isName lkX10_365 lay_63 rfl rfl rfl (by decide) rfl (Nat.le_of_ble_eq_true rfl) z00 t ?_
    intro v5 h5 t
    refine r_if_ne (tgt := 74) dX10_takesInstruction_65 (by decide) (fun q6 => ?_) (fun q6 => ?_)
    · have t := t.1 q6
      refine r_aload_n (q := 0) dX10_takesInstruction_74 rfl rfl ?_
      refine r_cVI (c := 63) (As := []) dX10_takesInstruction_75 mkX10_named lkX10_369 lay_63 rfl rfl rfl (by decide) rfl (Nat.le_of_ble_eq_true rfl) z00 t ?_
      intro v7 h7 t
      refine r_istore (lv' := [(6, .int v7), (0, .ref (eA E 63)), (1, .int x1), (2, .int x2), (3, .int x3), (4, .int x4), (5, .int x5)]) dX10_takesInstruction_78 (by decide) rfl ?_
      refine r_iload (q := 0) dX10_takesInstruction_80 rfl ?_
      refine r_iconst (v := (0 : Int32)) dX10_takesInstruction_82 rfl ?_
      refine r_aload_n (q := 1) dX10_takesInstruction_83 rfl rfl ?_
      refine r_getI (c := 63) dX10_takesInstruction_84 flX10_144 lay_63 rfl ?_
      refine r_iconst (v := (1 : Int32)) dX10_takesInstruction_87 rfl ?_
      refine r_isub dX10_takesInstruction_88 ?_
      refine r_cSI (As := [.int v7, .int (0 : Int32), .int ((h7.1 63 1) - (1 : Int32))]) dX10_takesInstruction_89 mkX10_isIn lkX10_124 rfl (by decide) rfl (Nat.le_of_ble_eq_true rfl) z00 t ?_
      intro v8 h8 t
      refine r_if_ne (tgt := 101) dX10_takesInstruction_92 (by decide) (fun q9 => ?_) (fun q9 => ?_)
      · have t := t.1 q9
        refine r_iload_n (q := 3) dX10_takesInstruction_101 rfl rfl ?_
        refine r_bipush (v := (24 : Int32)) dX10_takesInstruction_102 rfl ?_
        refine r_icmp_eq (tgt := 113) dX10_takesInstruction_104 (by decide) (fun q10 => ?_) (fun q10 => ?_)
        · have t := t.1 q10
          refine r_aload_n (q := 1) dX10_takesInstruction_113 rfl rfl ?_
          refine r_iconst (v := (5 : Int32)) dX10_takesInstruction_114 rfl ?_
          refine r_cVI (c := 63) (As := [.int (5 : Int32)]) dX10_takesInstruction_115 mkX10_bad lkX10_336 lay_63 rfl rfl rfl (by decide) rfl (Nat.le_of_ble_eq_true rfl) z00 t ?_
          intro v11 h11 t
          exact r_zret dX10_takesInstruction_118 rfl t.1 t.2
        · have t := t.2 q10
          refine r_iload_n (q := 4) dX10_takesInstruction_107 rfl rfl ?_
          refine r_bipush (v := (10 : Int32)) dX10_takesInstruction_108 rfl ?_
          refine r_icmp_ne (tgt := 119) dX10_takesInstruction_110 (by decide) (fun q12 => ?_) (fun q12 => ?_)
          · have t := t.1 q12
            refine r_aload_n (q := 1) dX10_takesInstruction_119 rfl rfl ?_
            refine r_getR (c := 63) (c2 := 67) dX10_takesInstruction_120 flX10_19 lay_63 rfl ?_
            refine r_bipush (v := (24 : Int32)) dX10_takesInstruction_123 rfl ?_
            refine r_iload_n (q := 2) dX10_takesInstruction_125 rfl rfl ?_
            refine r_imul dX10_takesInstruction_126 ?_
            refine r_iload_n (q := 3) dX10_takesInstruction_127 rfl rfl ?_
            refine r_iadd dX10_takesInstruction_128 ?_
            refine r_iload (q := 0) dX10_takesInstruction_129 rfl ?_
            obtain ⟨c13, t⟩ := t
            refine r_iast (c := 67) dX10_takesInstruction_131 lay_67 c13 ?_
            refine r_iinc (k := 3) (v := x2 + (1 : Int32)) (lv' := [(2, .int (x2 + (1 : Int32))), (6, .int v7), (0, .ref (eA E 63)), (1, .int x1), (3, .int x3), (4, .int x4), (5, .int x5)]) dX10_takesInstruction_132 rfl rfl (by decide) rfl ?_
            refine r_iinc (k := 4) (v := x3 + (1 : Int32)) (lv' := [(3, .int (x3 + (1 : Int32))), (2, .int (x2 + (1 : Int32))), (6, .int v7), (0, .ref (eA E 63)), (1, .int x1), (4, .int x4), (5, .int x5)]) dX10_takesInstruction_135 rfl rfl (by decide) rfl ?_
            refine r_aload_n (q := 3) dX10_takesInstruction_138 rfl rfl ?_
            refine r_cVV (c := 63) (As := []) dX10_takesInstruction_139 mkX10_step lkX10_339 lay_63 rfl rfl rfl (by decide) rfl (Nat.le_of_ble_eq_true rfl) z00 t ?_
            intro h14 t
            refine r_aload_n (q := 3) dX10_takesInstruction_142 rfl rfl ?_
            refine r_bipush (v := (44 : Int32)) dX10_takesInstruction_143 rfl ?_
            refine r_cVI (c := 63) (As := [.int (44 : Int32)]) dX10_takesInstruction_145 mkX10_isSign lkX10_333 lay_63 rfl rfl rfl (by decide) rfl (Nat.le_of_ble_eq_true rfl) z00 t ?_
            intro v15 h15 t
            refine r_if_ne (tgt := 160) dX10_takesInstruction_148 (by decide) (fun q16 => ?_) (fun q16 => ?_)
            · have t := t.1 q16
              refine r_iconst (v := (1 : Int32)) dX10_takesInstruction_160 rfl ?_
              refine r_goto (tgt := 165) dX10_takesInstruction_161 (by decide) ?_
              refine r_istore (lv' := [(5, .int (1 : Int32)), (3, .int (x3 + (1 : Int32))), (2, .int (x2 + (1 : Int32))), (6, .int v7), (0, .ref (eA E 63)), (1, .int x1), (4, .int x4)]) dX10_takesInstruction_165 (by decide) rfl ?_
              refine r_aload_n (q := 4) dX10_takesInstruction_167 rfl rfl ?_
              refine r_bipush (v := (33 : Int32)) dX10_takesInstruction_168 rfl ?_
              refine r_cVI (c := 63) (As := [.int (33 : Int32)]) dX10_takesInstruction_170 mkX10_isSign lkX10_333 lay_63 rfl rfl rfl (by decide) rfl (Nat.le_of_ble_eq_true rfl) z00 t ?_
              intro v17 h17 t
              refine r_if_eq (tgt := 188) dX10_takesInstruction_173 (by decide) (fun q18 => ?_) (fun q18 => ?_)
              · have t := t.1 q18
                refine r_iload (q := 0) dX10_takesInstruction_188 rfl ?_
                refine r_if_eq (tgt := 197) dX10_takesInstruction_190 (by decide) (fun q19 => ?_) (fun q19 => ?_)
                · have t := t.1 q19
                  refine r_goto (tgt := 56) dX10_takesInstruction_197 (by decide) ?_
                  refine r_sub [4, 5, 2, 1, 6, 0] rfl ?_
                  exact t
                · have t := t.2 q19
                  refine r_aload_n (q := 4) dX10_takesInstruction_193 rfl rfl ?_
                  refine r_cVV (c := 63) (As := []) dX10_takesInstruction_194 mkX10_step lkX10_339 lay_63 rfl rfl rfl (by decide) rfl (Nat.le_of_ble_eq_true rfl) z00 t ?_
                  intro h20 t
                  refine r_goto (tgt := 56) dX10_takesInstruction_197 (by decide) ?_
                  refine r_sub [4, 5, 2, 1, 6, 0] rfl ?_
                  exact t
              · have t := t.2 q18
                refine r_iload (q := 6) dX10_takesInstruction_176 rfl ?_
                refine r_iconst (v := (1 : Int32)) dX10_takesInstruction_178 rfl ?_
                refine r_iload_n (q := 2) dX10_takesInstruction_179 rfl rfl ?_
                refine r_iconst (v := (1 : Int32)) dX10_takesInstruction_180 rfl ?_
                refine r_isub dX10_takesInstruction_181 ?_
                refine r_ishl dX10_takesInstruction_182 ?_
                refine r_ior dX10_takesInstruction_183 ?_
                refine r_istore (lv' := [(4, .int (x4 ||| ((1 : Int32) <<< (((x2 + (1 : Int32)) - (1 : Int32)) &&& 31)))), (5, .int (1 : Int32)), (3, .int (x3 + (1 : Int32))), (2, .int (x2 + (1 : Int32))), (6, .int v7), (0, .ref (eA E 63)), (1, .int x1)]) dX10_takesInstruction_184 (by decide) rfl ?_
                refine r_iconst (v := (0 : Int32)) dX10_takesInstruction_186 rfl ?_
                refine r_istore_n (lv' := [(3, .int (0 : Int32)), (4, .int (x4 ||| ((1 : Int32) <<< (((x2 + (1 : Int32)) - (1 : Int32)) &&& 31)))), (5, .int (1 : Int32)), (2, .int (x2 + (1 : Int32))), (6, .int v7), (0, .ref (eA E 63)), (1, .int x1)]) dX10_takesInstruction_187 rfl (by decide) rfl ?_
                refine r_iload (q := 2) dX10_takesInstruction_188 rfl ?_
                refine r_if_eq (tgt := 197) dX10_takesInstruction_190 (by decide) (fun q21 => ?_) (fun q21 => ?_)
                · have t := t.1 q21
                  refine r_goto (tgt := 56) dX10_takesInstruction_197 (by decide) ?_
                  refine r_sub [5, 6, 3, 0, 1, 2] rfl ?_
                  exact t
                · have t := t.2 q21
                  refine r_aload_n (q := 5) dX10_takesInstruction_193 rfl rfl ?_
                  refine r_cVV (c := 63) (As := []) dX10_takesInstruction_194 mkX10_step lkX10_339 lay_63 rfl rfl rfl (by decide) rfl (Nat.le_of_ble_eq_true rfl) z00 t ?_
                  intro h22 t
                  refine r_goto (tgt := 56) dX10_takesInstruction_197 (by decide) ?_
                  refine r_sub [5, 6, 3, 0, 1, 2] rfl ?_
                  exact t
            · have t := t.2 q16
              refine r_aload_n (q := 3) dX10_takesInstruction_151 rfl rfl ?_
              refine r_bipush (v := (33 : Int32)) dX10_takesInstruction_152 rfl ?_
              refine r_cVI (c := 63) (As := [.int (33 : Int32)]) dX10_takesInstruction_154 mkX10_isSign lkX10_333 lay_63 rfl rfl rfl (by decide) rfl (Nat.le_of_ble_eq_true rfl) z00 t ?_
              intro v23 h23 t
              refine r_if_eq (tgt := 164) dX10_takesInstruction_157 (by decide) (fun q24 => ?_) (fun q24 => ?_)
              · have t := t.1 q24
                refine r_iconst (v := (0 : Int32)) dX10_takesInstruction_164 rfl ?_
                refine r_istore (lv' := [(5, .int (0 : Int32)), (3, .int (x3 + (1 : Int32))), (2, .int (x2 + (1 : Int32))), (6, .int v7), (0, .ref (eA E 63)), (1, .int x1), (4, .int x4)]) dX10_takesInstruction_165 (by decide) rfl ?_
                refine r_aload_n (q := 4) dX10_takesInstruction_167 rfl rfl ?_
                refine r_bipush (v := (33 : Int32)) dX10_takesInstruction_168 rfl ?_
                refine r_cVI (c := 63) (As := [.int (33 : Int32)]) dX10_takesInstruction_170 mkX10_isSign lkX10_333 lay_63 rfl rfl rfl (by decide) rfl (Nat.le_of_ble_eq_true rfl) z00 t ?_
                intro v25 h25 t
                refine r_if_eq (tgt := 188) dX10_takesInstruction_173 (by decide) (fun q26 => ?_) (fun q26 => ?_)
                · have t := t.1 q26
                  refine r_iload (q := 0) dX10_takesInstruction_188 rfl ?_
                  refine r_if_eq (tgt := 197) dX10_takesInstruction_190 (by decide) (fun q27 => ?_) (fun q27 => ?_)
                  · have t := t.1 q27
                    refine r_goto (tgt := 56) dX10_takesInstruction_197 (by decide) ?_
                    refine r_sub [4, 5, 2, 1, 6, 0] rfl ?_
                    exact t
                  · have t := t.2 q27
                    refine r_aload_n (q := 4) dX10_takesInstruction_193 rfl rfl ?_
                    refine r_cVV (c := 63) (As := []) dX10_takesInstruction_194 mkX10_step lkX10_339 lay_63 rfl rfl rfl (by decide) rfl (Nat.le_of_ble_eq_true rfl) z00 t ?_
                    intro h28 t
                    refine r_goto (tgt := 56) dX10_takesInstruction_197 (by decide) ?_
                    refine r_sub [4, 5, 2, 1, 6, 0] rfl ?_
                    exact t
                · have t := t.2 q26
                  refine r_iload (q := 6) dX10_takesInstruction_176 rfl ?_
                  refine r_iconst (v := (1 : Int32)) dX10_takesInstruction_178 rfl ?_
                  refine r_iload_n (q := 2) dX10_takesInstruction_179 rfl rfl ?_
                  refine r_iconst (v := (1 : Int32)) dX10_takesInstruction_180 rfl ?_
                  refine r_isub dX10_takesInstruction_181 ?_
                  refine r_ishl dX10_takesInstruction_182 ?_
                  refine r_ior dX10_takesInstruction_183 ?_
                  refine r_istore (lv' := [(4, .int (x4 ||| ((1 : Int32) <<< (((x2 + (1 : Int32)) - (1 : Int32)) &&& 31)))), (5, .int (0 : Int32)), (3, .int (x3 + (1 : Int32))), (2, .int (x2 + (1 : Int32))), (6, .int v7), (0, .ref (eA E 63)), (1, .int x1)]) dX10_takesInstruction_184 (by decide) rfl ?_
                  refine r_iconst (v := (0 : Int32)) dX10_takesInstruction_186 rfl ?_
                  refine r_istore_n (lv' := [(3, .int (0 : Int32)), (4, .int (x4 ||| ((1 : Int32) <<< (((x2 + (1 : Int32)) - (1 : Int32)) &&& 31)))), (5, .int (0 : Int32)), (2, .int (x2 + (1 : Int32))), (6, .int v7), (0, .ref (eA E 63)), (1, .int x1)]) dX10_takesInstruction_187 rfl (by decide) rfl ?_
                  refine r_iload (q := 2) dX10_takesInstruction_188 rfl ?_
                  refine r_if_eq (tgt := 197) dX10_takesInstruction_190 (by decide) (fun q29 => ?_) (fun q29 => ?_)
                  · have t := t.1 q29
                    refine r_goto (tgt := 56) dX10_takesInstruction_197 (by decide) ?_
                    refine r_sub [5, 6, 3, 0, 1, 2] rfl ?_
                    exact t
                  · have t := t.2 q29
                    refine r_aload_n (q := 5) dX10_takesInstruction_193 rfl rfl ?_
                    refine r_cVV (c := 63) (As := []) dX10_takesInstruction_194 mkX10_step lkX10_339 lay_63 rfl rfl rfl (by decide) rfl (Nat.le_of_ble_eq_true rfl) z00 t ?_
                    intro h30 t
                    refine r_goto (tgt := 56) dX10_takesInstruction_197 (by decide) ?_
                    refine r_sub [5, 6, 3, 0, 1, 2] rfl ?_
                    exact t
              · have t := t.2 q24
                refine r_iconst (v := (1 : Int32)) dX10_takesInstruction_160 rfl ?_
                refine r_goto (tgt := 165) dX10_takesInstruction_161 (by decide) ?_
                refine r_istore (lv' := [(5, .int (1 : Int32)), (3, .int (x3 + (1 : Int32))), (2, .int (x2 + (1 : Int32))), (6, .int v7), (0, .ref (eA E 63)), (1, .int x1), (4, .int x4)]) dX10_takesInstruction_165 (by decide) rfl ?_
                refine r_aload_n (q := 4) dX10_takesInstruction_167 rfl rfl ?_
                refine r_bipush (v := (33 : Int32)) dX10_takesInstruction_168 rfl ?_
                refine r_cVI (c := 63) (As := [.int (33 : Int32)]) dX10_takesInstruction_170 mkX10_isSign lkX10_333 lay_63 rfl rfl rfl (by decide) rfl (Nat.le_of_ble_eq_true rfl) z00 t ?_
                intro v31 h31 t
                refine r_if_eq (tgt := 188) dX10_takesInstruction_173 (by decide) (fun q32 => ?_) (fun q32 => ?_)
                · have t := t.1 q32
                  refine r_iload (q := 0) dX10_takesInstruction_188 rfl ?_
                  refine r_if_eq (tgt := 197) dX10_takesInstruction_190 (by decide) (fun q33 => ?_) (fun q33 => ?_)
                  · have t := t.1 q33
                    refine r_goto (tgt := 56) dX10_takesInstruction_197 (by decide) ?_
                    refine r_sub [4, 5, 2, 1, 6, 0] rfl ?_
                    exact t
                  · have t := t.2 q33
                    refine r_aload_n (q := 4) dX10_takesInstruction_193 rfl rfl ?_
                    refine r_cVV (c := 63) (As := []) dX10_takesInstruction_194 mkX10_step lkX10_339 lay_63 rfl rfl rfl (by decide) rfl (Nat.le_of_ble_eq_true rfl) z00 t ?_
                    intro h34 t
                    refine r_goto (tgt := 56) dX10_takesInstruction_197 (by decide) ?_
                    refine r_sub [4, 5, 2, 1, 6, 0] rfl ?_
                    exact t
                · have t := t.2 q32
                  refine r_iload (q := 6) dX10_takesInstruction_176 rfl ?_
                  refine r_iconst (v := (1 : Int32)) dX10_takesInstruction_178 rfl ?_
                  refine r_iload_n (q := 2) dX10_takesInstruction_179 rfl rfl ?_
                  refine r_iconst (v := (1 : Int32)) dX10_takesInstruction_180 rfl ?_
                  refine r_isub dX10_takesInstruction_181 ?_
                  refine r_ishl dX10_takesInstruction_182 ?_
                  refine r_ior dX10_takesInstruction_183 ?_
                  refine r_istore (lv' := [(4, .int (x4 ||| ((1 : Int32) <<< (((x2 + (1 : Int32)) - (1 : Int32)) &&& 31)))), (5, .int (1 : Int32)), (3, .int (x3 + (1 : Int32))), (2, .int (x2 + (1 : Int32))), (6, .int v7), (0, .ref (eA E 63)), (1, .int x1)]) dX10_takesInstruction_184 (by decide) rfl ?_
                  refine r_iconst (v := (0 : Int32)) dX10_takesInstruction_186 rfl ?_
                  refine r_istore_n (lv' := [(3, .int (0 : Int32)), (4, .int (x4 ||| ((1 : Int32) <<< (((x2 + (1 : Int32)) - (1 : Int32)) &&& 31)))), (5, .int (1 : Int32)), (2, .int (x2 + (1 : Int32))), (6, .int v7), (0, .ref (eA E 63)), (1, .int x1)]) dX10_takesInstruction_187 rfl (by decide) rfl ?_
                  refine r_iload (q := 2) dX10_takesInstruction_188 rfl ?_
                  refine r_if_eq (tgt := 197) dX10_takesInstruction_190 (by decide) (fun q35 => ?_) (fun q35 => ?_)
                  · have t := t.1 q35
                    refine r_goto (tgt := 56) dX10_takesInstruction_197 (by decide) ?_
                    refine r_sub [5, 6, 3, 0, 1, 2] rfl ?_
                    exact t
                  · have t := t.2 q35
                    refine r_aload_n (q := 5) dX10_takesInstruction_193 rfl rfl ?_
                    refine r_cVV (c := 63) (As := []) dX10_takesInstruction_194 mkX10_step lkX10_339 lay_63 rfl rfl rfl (by decide) rfl (Nat.le_of_ble_eq_true rfl) z00 t ?_
                    intro h36 t
                    refine r_goto (tgt := 56) dX10_takesInstruction_197 (by decide) ?_
                    refine r_sub [5, 6, 3, 0, 1, 2] rfl ?_
                    exact t
          · have t := t.2 q12
            refine r_aload_n (q := 1) dX10_takesInstruction_113 rfl rfl ?_
            refine r_iconst (v := (5 : Int32)) dX10_takesInstruction_114 rfl ?_
            refine r_cVI (c := 63) (As := [.int (5 : Int32)]) dX10_takesInstruction_115 mkX10_bad lkX10_336 lay_63 rfl rfl rfl (by decide) rfl (Nat.le_of_ble_eq_true rfl) z00 t ?_
            intro v37 h37 t
            exact r_zret dX10_takesInstruction_118 rfl t.1 t.2
      · have t := t.2 q9
        refine r_aload_n (q := 1) dX10_takesInstruction_95 rfl rfl ?_
        refine r_iconst (v := (4 : Int32)) dX10_takesInstruction_96 rfl ?_
        refine r_cVI (c := 63) (As := [.int (4 : Int32)]) dX10_takesInstruction_97 mkX10_bad lkX10_336 lay_63 rfl rfl rfl (by decide) rfl (Nat.le_of_ble_eq_true rfl) z00 t ?_
        intro v38 h38 t
        exact r_zret dX10_takesInstruction_100 rfl t.1 t.2
    · have t := t.2 q6
      refine r_aload_n (q := 0) dX10_takesInstruction_68 rfl rfl ?_
      refine r_iconst (v := (1 : Int32)) dX10_takesInstruction_69 rfl ?_
      refine r_cVI (c := 63) (As := [.int (1 : Int32)]) dX10_takesInstruction_70 mkX10_bad lkX10_336 lay_63 rfl rfl rfl (by decide) rfl (Nat.le_of_ble_eq_true rfl) z00 t ?_
      intro v39 h39 t
      exact r_zret dX10_takesInstruction_73 rfl t.1 t.2
theorem dX10_takesAll_0 : decode cX10_takesAll 0 = .ok (.aload_n 0, 1) := by decide +kernel
theorem dX10_takesAll_1 : decode cX10_takesAll 1 = .ok (.iconst 0, 1) := by decide +kernel
theorem dX10_takesAll_2 : decode cX10_takesAll 2 = .ok (.putfield 303, 3) := by decide +kernel
theorem dX10_takesAll_5 : decode cX10_takesAll 5 = .ok (.aload_n 0, 1) := by decide +kernel
theorem dX10_takesAll_6 : decode cX10_takesAll 6 = .ok (.iconst 0, 1) := by decide +kernel
theorem dX10_takesAll_7 : decode cX10_takesAll 7 = .ok (.putfield 144, 3) := by decide +kernel
theorem dX10_takesAll_10 : decode cX10_takesAll 10 = .ok (.aload_n 0, 1) := by decide +kernel
theorem dX10_takesAll_11 : decode cX10_takesAll 11 = .ok (.iconst 0, 1) := by decide +kernel
theorem dX10_takesAll_12 : decode cX10_takesAll 12 = .ok (.putfield 121, 3) := by decide +kernel
theorem dX10_takesAll_15 : decode cX10_takesAll 15 = .ok (.aload_n 0, 1) := by decide +kernel
theorem dX10_takesAll_16 : decode cX10_takesAll 16 = .ok (.invokevirtual 339, 3) := by decide +kernel
theorem dX10_takesAll_19 : decode cX10_takesAll 19 = .ok (.aload_n 0, 1) := by decide +kernel
theorem dX10_takesAll_20 : decode cX10_takesAll 20 = .ok (.ldc_w 353, 3) := by decide +kernel
theorem dX10_takesAll_23 : decode cX10_takesAll 23 = .ok (.invokevirtual 355, 3) := by decide +kernel
theorem dX10_takesAll_26 : decode cX10_takesAll 26 = .ok (.ifCond .eq 12, 3) := by decide +kernel
theorem dX10_takesAll_29 : decode cX10_takesAll 29 = .ok (.aload_n 0, 1) := by decide +kernel
theorem dX10_takesAll_30 : decode cX10_takesAll 30 = .ok (.invokevirtual 381, 3) := by decide +kernel
theorem dX10_takesAll_33 : decode cX10_takesAll 33 = .ok (.ifCond .ne (-14), 3) := by decide +kernel
theorem dX10_takesAll_36 : decode cX10_takesAll 36 = .ok (.iconst 0, 1) := by decide +kernel
theorem dX10_takesAll_37 : decode cX10_takesAll 37 = .ok (.ireturn, 1) := by decide +kernel
theorem dX10_takesAll_38 : decode cX10_takesAll 38 = .ok (.aload_n 0, 1) := by decide +kernel
theorem dX10_takesAll_39 : decode cX10_takesAll 39 = .ok (.ldc_w 360, 3) := by decide +kernel
theorem dX10_takesAll_42 : decode cX10_takesAll 42 = .ok (.invokevirtual 355, 3) := by decide +kernel
theorem dX10_takesAll_45 : decode cX10_takesAll 45 = .ok (.ifCond .eq 12, 3) := by decide +kernel
theorem dX10_takesAll_48 : decode cX10_takesAll 48 = .ok (.aload_n 0, 1) := by decide +kernel
theorem dX10_takesAll_49 : decode cX10_takesAll 49 = .ok (.invokevirtual 384, 3) := by decide +kernel
theorem dX10_takesAll_52 : decode cX10_takesAll 52 = .ok (.ifCond .ne (-14), 3) := by decide +kernel
theorem dX10_takesAll_55 : decode cX10_takesAll 55 = .ok (.iconst 0, 1) := by decide +kernel
theorem dX10_takesAll_56 : decode cX10_takesAll 56 = .ok (.ireturn, 1) := by decide +kernel
theorem dX10_takesAll_57 : decode cX10_takesAll 57 = .ok (.aload_n 0, 1) := by decide +kernel
theorem dX10_takesAll_58 : decode cX10_takesAll 58 = .ok (.getfield 312, 3) := by decide +kernel
theorem dX10_takesAll_61 : decode cX10_takesAll 61 = .ok (.ifCond .eq 11, 3) := by decide +kernel
theorem dX10_takesAll_64 : decode cX10_takesAll 64 = .ok (.aload_n 0, 1) := by decide +kernel
theorem dX10_takesAll_65 : decode cX10_takesAll 65 = .ok (.iconst 1, 1) := by decide +kernel
theorem dX10_takesAll_66 : decode cX10_takesAll 66 = .ok (.invokevirtual 336, 3) := by decide +kernel
theorem dX10_takesAll_69 : decode cX10_takesAll 69 = .ok (.ifCond .eq 7, 3) := by decide +kernel
theorem dX10_takesAll_72 : decode cX10_takesAll 72 = .ok (.iconst 1, 1) := by decide +kernel
theorem dX10_takesAll_73 : decode cX10_takesAll 73 = .ok (.goto 4, 3) := by decide +kernel
theorem dX10_takesAll_76 : decode cX10_takesAll 76 = .ok (.iconst 0, 1) := by decide +kernel
theorem dX10_takesAll_77 : decode cX10_takesAll 77 = .ok (.ireturn, 1) := by decide +kernel
abbrev VX10_takesAll_19 (E : En) (d : Nat) (g : Ga) (P : Int32 → Hp → Prop) (h : Hp) : Prop := V E MX10_takesAll (RM (d + 1) 0) g (QQ E g (QI E P) 0 0) 0 0 h 19 [(0, .ref (eA E 63))] []
abbrev VX10_takesAll_38 (E : En) (d : Nat) (g : Ga) (P : Int32 → Hp → Prop) (h : Hp) : Prop := V E MX10_takesAll (RM (d + 1) 0) g (QQ E g (QI E P) 0 0) 0 0 h 38 [(0, .ref (eA E 63))] []
set_option maxRecDepth 20000 in
theorem wp_X10_takesAll (E : En) (d : Nat) (h : Hp) (P : Int32 → Hp → Prop) (t : ∀ g : Ga, SpV E d MX10_step [.ref (eA E 63)] (sI (sI (sI h 63 45 (0 : Int32)) 63 1 (0 : Int32)) 63 2 (0 : Int32)) (fun h1 => VX10_takesAll_19 E d g P h1)) : SpI E (d + 1) MX10_takesAll [.ref (eA E 63)] h P := by
  refine SpI.of (lv0 := [(0, .ref (eA E 63))]) (by decide) (Nat.le_of_ble_eq_true rfl) rfl (fun g => ?_)
  have t := t g
  refine r_aload_n (q := 0) dX10_takesAll_0 rfl rfl ?_
  refine r_iconst (v := (0 : Int32)) dX10_takesAll_1 rfl ?_
  refine r_putI (c := 63) dX10_takesAll_2 flX10_303 lay_63 rfl ?_
  refine r_aload_n (q := 0) dX10_takesAll_5 rfl rfl ?_
  refine r_iconst (v := (0 : Int32)) dX10_takesAll_6 rfl ?_
  refine r_putI (c := 63) dX10_takesAll_7 flX10_144 lay_63 rfl ?_
  refine r_aload_n (q := 0) dX10_takesAll_10 rfl rfl ?_
  refine r_iconst (v := (0 : Int32)) dX10_takesAll_11 rfl ?_
  refine r_putI (c := 63) dX10_takesAll_12 flX10_121 lay_63 rfl ?_
  refine r_aload_n (q := 0) dX10_takesAll_15 rfl rfl ?_
  refine r_cVV (c := 63) (As := []) dX10_takesAll_16 mkX10_step lkX10_339 lay_63 rfl rfl rfl (by decide) rfl (Nat.le_of_ble_eq_true rfl) z00 t ?_
  intro h1 t
  exact t
set_option maxRecDepth 20000 in
theorem sg_X10_takesAll_19 (E : En) (d : Nat) (g : Ga) (h : Hp) (P : Int32 → Hp → Prop) (t : SpI E d MX10_isWord [.ref (eA E 63), .ref (eK E 5)] h (fun v1 h1 => (v1 = 0 → (VX10_takesAll_38 E d g P h1)) ∧ (¬ v1 = 0 → (SpI E d MX10_takesOperation [.ref (eA E 63)] h1 (fun v3 h3 => (¬ v3 = 0 → (VX10_takesAll_19 E d g P h3)) ∧ (v3 = 0 → (P (0 : Int32) h3))))))) : VX10_takesAll_19 E d g P h := by
  refine r_aload_n (q := 0) dX10_takesAll_19 rfl rfl ?_
  refine r_ldcSw (i := 5) (tx := "op") dX10_takesAll_20 (by decide) ?_
  refine r_cVI (c := 63) (As := [.ref (eK E 5)]) dX10_takesAll_23 mkX10_isWord lkX10_355 lay_63 rfl rfl rfl (by decide) rfl (Nat.le_of_ble_eq_true rfl) z00 t ?_
  intro v1 h1 t
  refine r_if_eq (tgt := 38) dX10_takesAll_26 (by decide) (fun q2 => ?_) (fun q2 => ?_)
  · have t := t.1 q2
    exact t
  · have t := t.2 q2
    refine r_aload_n (q := 0) dX10_takesAll_29 rfl rfl ?_
    refine r_cVI (c := 63) (As := []) dX10_takesAll_30 mkX10_takesOperation lkX10_381 lay_63 rfl rfl rfl (by decide) rfl (Nat.le_of_ble_eq_true rfl) z00 t ?_
    intro v3 h3 t
    refine r_if_ne (tgt := 19) dX10_takesAll_33 (by decide) (fun q4 => ?_) (fun q4 => ?_)
    · have t := t.1 q4
      exact t
    · have t := t.2 q4
      refine r_iconst (v := (0 : Int32)) dX10_takesAll_36 rfl ?_
      exact r_zret dX10_takesAll_37 rfl (Or.inl rfl) t
set_option maxRecDepth 20000 in
theorem sg_X10_takesAll_38 (E : En) (d : Nat) (g : Ga) (h : Hp) (P : Int32 → Hp → Prop) (t : SpI E d MX10_isWord [.ref (eA E 63), .ref (eK E 7)] h (fun v1 h1 => (v1 = 0 → (((h1.1 63 46) = 0 → (P (1 : Int32) h1)) ∧ (¬ (h1.1 63 46) = 0 → (SpI E d MX10_bad [.ref (eA E 63), .int (1 : Int32)] h1 (fun v4 h4 => (v4 = 0 → (P (0 : Int32) h4)) ∧ (¬ v4 = 0 → (P (1 : Int32) h4))))))) ∧ (¬ v1 = 0 → (SpI E d MX10_takesInstruction [.ref (eA E 63)] h1 (fun v6 h6 => (¬ v6 = 0 → (VX10_takesAll_38 E d g P h6)) ∧ (v6 = 0 → (P (0 : Int32) h6))))))) : VX10_takesAll_38 E d g P h := by
  refine r_aload_n (q := 0) dX10_takesAll_38 rfl rfl ?_
  refine r_ldcSw (i := 7) (tx := "instr") dX10_takesAll_39 (by decide) ?_
  refine r_cVI (c := 63) (As := [.ref (eK E 7)]) dX10_takesAll_42 mkX10_isWord lkX10_355 lay_63 rfl rfl rfl (by decide) rfl (Nat.le_of_ble_eq_true rfl) z00 t ?_
  intro v1 h1 t
  refine r_if_eq (tgt := 57) dX10_takesAll_45 (by decide) (fun q2 => ?_) (fun q2 => ?_)
  · have t := t.1 q2
    refine r_aload_n (q := 0) dX10_takesAll_57 rfl rfl ?_
    refine r_getI (c := 63) dX10_takesAll_58 flX10_312 lay_63 rfl ?_
    refine r_if_eq (tgt := 72) dX10_takesAll_61 (by decide) (fun q3 => ?_) (fun q3 => ?_)
    · have t := t.1 q3
      refine r_iconst (v := (1 : Int32)) dX10_takesAll_72 rfl ?_
      refine r_goto (tgt := 77) dX10_takesAll_73 (by decide) ?_
      exact r_zret dX10_takesAll_77 rfl (Or.inr rfl) t
    · have t := t.2 q3
      refine r_aload_n (q := 0) dX10_takesAll_64 rfl rfl ?_
      refine r_iconst (v := (1 : Int32)) dX10_takesAll_65 rfl ?_
      refine r_cVI (c := 63) (As := [.int (1 : Int32)]) dX10_takesAll_66 mkX10_bad lkX10_336 lay_63 rfl rfl rfl (by decide) rfl (Nat.le_of_ble_eq_true rfl) z00 t ?_
      intro v4 h4 t
      refine r_if_eq (tgt := 76) dX10_takesAll_69 (by decide) (fun q5 => ?_) (fun q5 => ?_)
      · have t := t.1 q5
        refine r_iconst (v := (0 : Int32)) dX10_takesAll_76 rfl ?_
        exact r_zret dX10_takesAll_77 rfl (Or.inl rfl) t
      · have t := t.2 q5
        refine r_iconst (v := (1 : Int32)) dX10_takesAll_72 rfl ?_
        refine r_goto (tgt := 77) dX10_takesAll_73 (by decide) ?_
        exact r_zret dX10_takesAll_77 rfl (Or.inr rfl) t
  · have t := t.2 q2
    refine r_aload_n (q := 0) dX10_takesAll_48 rfl rfl ?_
    refine r_cVI (c := 63) (As := []) dX10_takesAll_49 mkX10_takesInstruction lkX10_384 lay_63 rfl rfl rfl (by decide) rfl (Nat.le_of_ble_eq_true rfl) z00 t ?_
    intro v6 h6 t
    refine r_if_ne (tgt := 38) dX10_takesAll_52 (by decide) (fun q7 => ?_) (fun q7 => ?_)
    · have t := t.1 q7
      exact t
    · have t := t.2 q7
      refine r_iconst (v := (0 : Int32)) dX10_takesAll_55 rfl ?_
      exact r_zret dX10_takesAll_56 rfl (Or.inl rfl) t
theorem dX10_moves_0 : decode cX10_moves 0 = .ok (.iconst 0, 1) := by decide +kernel
theorem dX10_moves_1 : decode cX10_moves 1 = .ok (.istore_n 3, 1) := by decide +kernel
theorem dX10_moves_2 : decode cX10_moves 2 = .ok (.iload_n 3, 1) := by decide +kernel
theorem dX10_moves_3 : decode cX10_moves 3 = .ok (.iload_n 2, 1) := by decide +kernel
theorem dX10_moves_4 : decode cX10_moves 4 = .ok (.if_icmp .ge 15, 3) := by decide +kernel
theorem dX10_moves_7 : decode cX10_moves 7 = .ok (.aload_n 1, 1) := by decide +kernel
theorem dX10_moves_8 : decode cX10_moves 8 = .ok (.iload_n 3, 1) := by decide +kernel
theorem dX10_moves_9 : decode cX10_moves 9 = .ok (.aload_n 0, 1) := by decide +kernel
theorem dX10_moves_10 : decode cX10_moves 10 = .ok (.iload_n 3, 1) := by decide +kernel
theorem dX10_moves_11 : decode cX10_moves 11 = .ok (.iaload, 1) := by decide +kernel
theorem dX10_moves_12 : decode cX10_moves 12 = .ok (.iastore, 1) := by decide +kernel
theorem dX10_moves_13 : decode cX10_moves 13 = .ok (.iinc 3 1, 3) := by decide +kernel
theorem dX10_moves_16 : decode cX10_moves 16 = .ok (.goto (-14), 3) := by decide +kernel
theorem dX10_moves_19 : decode cX10_moves 19 = .ok (.return_, 1) := by decide +kernel
abbrev VX10_moves_2 (E : En) (d : Nat) (g : Ga) (P : Hp → Prop) (ca : Nat) (cb : Nat) (x2 : Int32) (x3 : Int32) (h : Hp) : Prop := V E MX10_moves (RM d 0) g (QQ E g (QV E P) 0 0) 0 0 h 2 [(0, .ref (eA E ca)), (1, .ref (eA E cb)), (2, .int x2), (3, .int x3)] []
set_option maxRecDepth 20000 in
theorem wp_X10_moves (E : En) (d : Nat) (ca nca : Nat) (hca : lay[ca]? = some (.inr (0, nca))) (cb ncb : Nat) (hcb : lay[cb]? = some (.inr (0, ncb))) (a3 : Int32) (h : Hp) (P : Hp → Prop) (t : ∀ g : Ga, VX10_moves_2 E d g P ca cb a3 (0 : Int32) h) : SpV E d MX10_moves [.ref (eA E ca), .ref (eA E cb), .int a3] h P := by
  refine SpV.of (lv0 := [(0, .ref (eA E ca)), (1, .ref (eA E cb)), (2, .int a3)]) (by decide) (Nat.le_of_ble_eq_true rfl) rfl (fun g => ?_)
  have t := t g
  refine r_iconst (v := (0 : Int32)) dX10_moves_0 rfl ?_
  refine r_istore_n (lv' := [(3, .int (0 : Int32)), (0, .ref (eA E ca)), (1, .ref (eA E cb)), (2, .int a3)]) dX10_moves_1 rfl (by decide) rfl ?_
  refine r_sub [1, 2, 3, 0] rfl ?_
  exact t
set_option maxRecDepth 20000 in
theorem sg_X10_moves_2 (E : En) (d : Nat) (g : Ga) (ca nca : Nat) (hca : lay[ca]? = some (.inr (0, nca))) (cb ncb : Nat) (hcb : lay[cb]? = some (.inr (0, ncb))) (x2 : Int32) (x3 : Int32) (h : Hp) (P : Hp → Prop) (t : (x2 ≤ x3 → (P h)) ∧ (¬ x2 ≤ x3 → (vp_in x3 nca ∧ (vp_in x3 ncb ∧ (VX10_moves_2 E d g P ca cb x2 (x3 + (1 : Int32)) (sI h cb x3.toNatClampNeg (h.1 ca x3.toNatClampNeg))))))) : VX10_moves_2 E d g P ca cb x2 x3 h := by
  refine r_iload_n (q := 3) dX10_moves_2 rfl rfl ?_
  refine r_iload_n (q := 2) dX10_moves_3 rfl rfl ?_
  refine r_icmp_ge (tgt := 19) dX10_moves_4 (by decide) (fun q1 => ?_) (fun q1 => ?_)
  · have t := t.1 q1
    exact r_vret dX10_moves_19 rfl t
  · have t := t.2 q1
    refine r_aload_n (q := 1) dX10_moves_7 rfl rfl ?_
    refine r_iload_n (q := 3) dX10_moves_8 rfl rfl ?_
    refine r_aload_n (q := 0) dX10_moves_9 rfl rfl ?_
    refine r_iload_n (q := 3) dX10_moves_10 rfl rfl ?_
    obtain ⟨c2, t⟩ := t
    refine r_iald (c := ca) dX10_moves_11 hca c2 ?_
    obtain ⟨c3, t⟩ := t
    refine r_iast (c := cb) dX10_moves_12 hcb c3 ?_
    refine r_iinc (k := 3) (v := x3 + (1 : Int32)) (lv' := [(3, .int (x3 + (1 : Int32))), (0, .ref (eA E ca)), (1, .ref (eA E cb)), (2, .int x2)]) dX10_moves_13 rfl rfl (by decide) rfl ?_
    refine r_goto (tgt := 2) dX10_moves_16 (by decide) ?_
    refine r_sub [1, 2, 3, 0] rfl ?_
    exact t
theorem dX10_load_0 : decode cX10_load 0 = .ok (.aload_n 0, 1) := by decide +kernel
theorem dX10_load_1 : decode cX10_load 1 = .ok (.iconst 0, 1) := by decide +kernel
theorem dX10_load_2 : decode cX10_load 2 = .ok (.putfield 118, 3) := by decide +kernel
theorem dX10_load_5 : decode cX10_load 5 = .ok (.aload_n 0, 1) := by decide +kernel
theorem dX10_load_6 : decode cX10_load 6 = .ok (.aload_n 0, 1) := by decide +kernel
theorem dX10_load_7 : decode cX10_load 7 = .ok (.getfield 294, 3) := by decide +kernel
theorem dX10_load_10 : decode cX10_load 10 = .ok (.putfield 300, 3) := by decide +kernel
theorem dX10_load_13 : decode cX10_load 13 = .ok (.aload_n 0, 1) := by decide +kernel
theorem dX10_load_14 : decode cX10_load 14 = .ok (.iconst 0, 1) := by decide +kernel
theorem dX10_load_15 : decode cX10_load 15 = .ok (.putfield 294, 3) := by decide +kernel
theorem dX10_load_18 : decode cX10_load 18 = .ok (.aload_n 0, 1) := by decide +kernel
theorem dX10_load_19 : decode cX10_load 19 = .ok (.getfield 144, 3) := by decide +kernel
theorem dX10_load_22 : decode cX10_load 22 = .ok (.istore_n 1, 1) := by decide +kernel
theorem dX10_load_23 : decode cX10_load 23 = .ok (.aload_n 0, 1) := by decide +kernel
theorem dX10_load_24 : decode cX10_load 24 = .ok (.getfield 121, 3) := by decide +kernel
theorem dX10_load_27 : decode cX10_load 27 = .ok (.istore_n 2, 1) := by decide +kernel
theorem dX10_load_28 : decode cX10_load 28 = .ok (.aload_n 0, 1) := by decide +kernel
theorem dX10_load_29 : decode cX10_load 29 = .ok (.getfield 7, 3) := by decide +kernel
theorem dX10_load_32 : decode cX10_load 32 = .ok (.aload_n 0, 1) := by decide +kernel
theorem dX10_load_33 : decode cX10_load 33 = .ok (.getfield 103, 3) := by decide +kernel
theorem dX10_load_36 : decode cX10_load 36 = .ok (.bipush 60, 2) := by decide +kernel
theorem dX10_load_38 : decode cX10_load 38 = .ok (.invokestatic 387, 3) := by decide +kernel
theorem dX10_load_41 : decode cX10_load 41 = .ok (.aload_n 0, 1) := by decide +kernel
theorem dX10_load_42 : decode cX10_load 42 = .ok (.getfield 13, 3) := by decide +kernel
theorem dX10_load_45 : decode cX10_load 45 = .ok (.aload_n 0, 1) := by decide +kernel
theorem dX10_load_46 : decode cX10_load 46 = .ok (.getfield 106, 3) := by decide +kernel
theorem dX10_load_49 : decode cX10_load 49 = .ok (.sipush 160, 3) := by decide +kernel
theorem dX10_load_52 : decode cX10_load 52 = .ok (.invokestatic 387, 3) := by decide +kernel
theorem dX10_load_55 : decode cX10_load 55 = .ok (.aload_n 0, 1) := by decide +kernel
theorem dX10_load_56 : decode cX10_load 56 = .ok (.getfield 16, 3) := by decide +kernel
theorem dX10_load_59 : decode cX10_load 59 = .ok (.aload_n 0, 1) := by decide +kernel
theorem dX10_load_60 : decode cX10_load 60 = .ok (.getfield 109, 3) := by decide +kernel
theorem dX10_load_63 : decode cX10_load 63 = .ok (.bipush 8, 2) := by decide +kernel
theorem dX10_load_65 : decode cX10_load 65 = .ok (.invokestatic 387, 3) := by decide +kernel
theorem dX10_load_68 : decode cX10_load 68 = .ok (.aload_n 0, 1) := by decide +kernel
theorem dX10_load_69 : decode cX10_load 69 = .ok (.getfield 19, 3) := by decide +kernel
theorem dX10_load_72 : decode cX10_load 72 = .ok (.aload_n 0, 1) := by decide +kernel
theorem dX10_load_73 : decode cX10_load 73 = .ok (.getfield 112, 3) := by decide +kernel
theorem dX10_load_76 : decode cX10_load 76 = .ok (.sipush 192, 3) := by decide +kernel
theorem dX10_load_79 : decode cX10_load 79 = .ok (.invokestatic 387, 3) := by decide +kernel
theorem dX10_load_82 : decode cX10_load 82 = .ok (.aload_n 0, 1) := by decide +kernel
theorem dX10_load_83 : decode cX10_load 83 = .ok (.getfield 22, 3) := by decide +kernel
theorem dX10_load_86 : decode cX10_load 86 = .ok (.aload_n 0, 1) := by decide +kernel
theorem dX10_load_87 : decode cX10_load 87 = .ok (.getfield 115, 3) := by decide +kernel
theorem dX10_load_90 : decode cX10_load 90 = .ok (.bipush 9, 2) := by decide +kernel
theorem dX10_load_92 : decode cX10_load 92 = .ok (.invokestatic 387, 3) := by decide +kernel
theorem dX10_load_95 : decode cX10_load 95 = .ok (.aload_n 0, 1) := by decide +kernel
theorem dX10_load_96 : decode cX10_load 96 = .ok (.invokevirtual 391, 3) := by decide +kernel
theorem dX10_load_99 : decode cX10_load 99 = .ok (.ifCond .eq 17, 3) := by decide +kernel
theorem dX10_load_102 : decode cX10_load 102 = .ok (.aload_n 0, 1) := by decide +kernel
theorem dX10_load_103 : decode cX10_load 103 = .ok (.iconst 0, 1) := by decide +kernel
theorem dX10_load_104 : decode cX10_load 104 = .ok (.putfield 248, 3) := by decide +kernel
theorem dX10_load_107 : decode cX10_load 107 = .ok (.aload_n 0, 1) := by decide +kernel
theorem dX10_load_108 : decode cX10_load 108 = .ok (.invokevirtual 254, 3) := by decide +kernel
theorem dX10_load_111 : decode cX10_load 111 = .ok (.aload_n 0, 1) := by decide +kernel
theorem dX10_load_112 : decode cX10_load 112 = .ok (.getfield 121, 3) := by decide +kernel
theorem dX10_load_115 : decode cX10_load 115 = .ok (.ireturn, 1) := by decide +kernel
theorem dX10_load_116 : decode cX10_load 116 = .ok (.aload_n 0, 1) := by decide +kernel
theorem dX10_load_117 : decode cX10_load 117 = .ok (.iload_n 1, 1) := by decide +kernel
theorem dX10_load_118 : decode cX10_load 118 = .ok (.putfield 144, 3) := by decide +kernel
theorem dX10_load_121 : decode cX10_load 121 = .ok (.aload_n 0, 1) := by decide +kernel
theorem dX10_load_122 : decode cX10_load 122 = .ok (.iload_n 2, 1) := by decide +kernel
theorem dX10_load_123 : decode cX10_load 123 = .ok (.putfield 121, 3) := by decide +kernel
theorem dX10_load_126 : decode cX10_load 126 = .ok (.aload_n 0, 1) := by decide +kernel
theorem dX10_load_127 : decode cX10_load 127 = .ok (.getfield 103, 3) := by decide +kernel
theorem dX10_load_130 : decode cX10_load 130 = .ok (.aload_n 0, 1) := by decide +kernel
theorem dX10_load_131 : decode cX10_load 131 = .ok (.getfield 7, 3) := by decide +kernel
theorem dX10_load_134 : decode cX10_load 134 = .ok (.bipush 60, 2) := by decide +kernel
theorem dX10_load_136 : decode cX10_load 136 = .ok (.invokestatic 387, 3) := by decide +kernel
theorem dX10_load_139 : decode cX10_load 139 = .ok (.aload_n 0, 1) := by decide +kernel
theorem dX10_load_140 : decode cX10_load 140 = .ok (.getfield 106, 3) := by decide +kernel
theorem dX10_load_143 : decode cX10_load 143 = .ok (.aload_n 0, 1) := by decide +kernel
theorem dX10_load_144 : decode cX10_load 144 = .ok (.getfield 13, 3) := by decide +kernel
theorem dX10_load_147 : decode cX10_load 147 = .ok (.sipush 160, 3) := by decide +kernel
theorem dX10_load_150 : decode cX10_load 150 = .ok (.invokestatic 387, 3) := by decide +kernel
theorem dX10_load_153 : decode cX10_load 153 = .ok (.aload_n 0, 1) := by decide +kernel
theorem dX10_load_154 : decode cX10_load 154 = .ok (.getfield 109, 3) := by decide +kernel
theorem dX10_load_157 : decode cX10_load 157 = .ok (.aload_n 0, 1) := by decide +kernel
theorem dX10_load_158 : decode cX10_load 158 = .ok (.getfield 16, 3) := by decide +kernel
theorem dX10_load_161 : decode cX10_load 161 = .ok (.bipush 8, 2) := by decide +kernel
theorem dX10_load_163 : decode cX10_load 163 = .ok (.invokestatic 387, 3) := by decide +kernel
theorem dX10_load_166 : decode cX10_load 166 = .ok (.aload_n 0, 1) := by decide +kernel
theorem dX10_load_167 : decode cX10_load 167 = .ok (.getfield 112, 3) := by decide +kernel
theorem dX10_load_170 : decode cX10_load 170 = .ok (.aload_n 0, 1) := by decide +kernel
theorem dX10_load_171 : decode cX10_load 171 = .ok (.getfield 19, 3) := by decide +kernel
theorem dX10_load_174 : decode cX10_load 174 = .ok (.sipush 192, 3) := by decide +kernel
theorem dX10_load_177 : decode cX10_load 177 = .ok (.invokestatic 387, 3) := by decide +kernel
theorem dX10_load_180 : decode cX10_load 180 = .ok (.aload_n 0, 1) := by decide +kernel
theorem dX10_load_181 : decode cX10_load 181 = .ok (.getfield 115, 3) := by decide +kernel
theorem dX10_load_184 : decode cX10_load 184 = .ok (.aload_n 0, 1) := by decide +kernel
theorem dX10_load_185 : decode cX10_load 185 = .ok (.getfield 22, 3) := by decide +kernel
theorem dX10_load_188 : decode cX10_load 188 = .ok (.bipush 9, 2) := by decide +kernel
theorem dX10_load_190 : decode cX10_load 190 = .ok (.invokestatic 387, 3) := by decide +kernel
theorem dX10_load_193 : decode cX10_load 193 = .ok (.bipush 8, 2) := by decide +kernel
theorem dX10_load_195 : decode cX10_load 195 = .ok (.aload_n 0, 1) := by decide +kernel
theorem dX10_load_196 : decode cX10_load 196 = .ok (.getfield 330, 3) := by decide +kernel
theorem dX10_load_199 : decode cX10_load 199 = .ok (.imul, 1) := by decide +kernel
theorem dX10_load_200 : decode cX10_load 200 = .ok (.aload_n 0, 1) := by decide +kernel
theorem dX10_load_201 : decode cX10_load 201 = .ok (.getfield 327, 3) := by decide +kernel
theorem dX10_load_204 : decode cX10_load 204 = .ok (.iadd, 1) := by decide +kernel
theorem dX10_load_205 : decode cX10_load 205 = .ok (.ineg, 1) := by decide +kernel
theorem dX10_load_206 : decode cX10_load 206 = .ok (.ireturn, 1) := by decide +kernel
set_option maxRecDepth 20000 in
theorem wp_X10_load (E : En) (d : Nat) (h : Hp) (P : Int32 → Hp → Prop) (t : SpV E d MX10_moves [.ref (eA E 64), .ref (eA E 93), .int (60 : Int32)] (sI (sI (sI h 63 0 (0 : Int32)) 63 42 (h.1 63 41)) 63 41 (0 : Int32)) (fun h1 => SpV E d MX10_moves [.ref (eA E 65), .ref (eA E 94), .int (160 : Int32)] h1 (fun h2 => SpV E d MX10_moves [.ref (eA E 66), .ref (eA E 95), .int (8 : Int32)] h2 (fun h3 => SpV E d MX10_moves [.ref (eA E 67), .ref (eA E 96), .int (192 : Int32)] h3 (fun h4 => SpV E d MX10_moves [.ref (eA E 68), .ref (eA E 97), .int (9 : Int32)] h4 (fun h5 => SpI E d MX10_takesAll [.ref (eA E 63)] h5 (fun v6 h6 => (v6 = 0 → (SpV E d MX10_moves [.ref (eA E 93), .ref (eA E 64), .int (60 : Int32)] (sI (sI h6 63 1 (h.1 63 1)) 63 2 (h.1 63 2)) (fun h8 => SpV E d MX10_moves [.ref (eA E 94), .ref (eA E 65), .int (160 : Int32)] h8 (fun h9 => SpV E d MX10_moves [.ref (eA E 95), .ref (eA E 66), .int (8 : Int32)] h9 (fun h10 => SpV E d MX10_moves [.ref (eA E 96), .ref (eA E 67), .int (192 : Int32)] h10 (fun h11 => SpV E d MX10_moves [.ref (eA E 97), .ref (eA E 68), .int (9 : Int32)] h11 (fun h12 => P (-(((8 : Int32) * (h12.1 63 49)) + (h12.1 63 48))) h12))))))) ∧ (¬ v6 = 0 → (SpV E d MX10_laysAll [.ref (eA E 63)] (sI h6 63 33 (0 : Int32)) (fun h13 => P (h13.1 63 2) h13)))))))))) : SpI E (d + 1) MX10_load [.ref (eA E 63)] h P := by
  refine SpI.of (lv0 := [(0, .ref (eA E 63))]) (by decide) (Nat.le_of_ble_eq_true rfl) rfl (fun g => ?_)
  refine r_aload_n (q := 0) dX10_load_0 rfl rfl ?_
  refine r_iconst (v := (0 : Int32)) dX10_load_1 rfl ?_
  refine r_putI (c := 63) dX10_load_2 flX10_118 lay_63 rfl ?_
  refine r_aload_n (q := 0) dX10_load_5 rfl rfl ?_
  refine r_aload_n (q := 0) dX10_load_6 rfl rfl ?_
  refine r_getIv (c := 63) (v := h.1 63 41) dX10_load_7 flX10_294 lay_63 rfl rfl ?_
  refine r_putI (c := 63) dX10_load_10 flX10_300 lay_63 rfl ?_
  refine r_aload_n (q := 0) dX10_load_13 rfl rfl ?_
  refine r_iconst (v := (0 : Int32)) dX10_load_14 rfl ?_
  refine r_putI (c := 63) dX10_load_15 flX10_294 lay_63 rfl ?_
  refine r_aload_n (q := 0) dX10_load_18 rfl rfl ?_
  refine r_getIv (c := 63) (v := h.1 63 1) dX10_load_19 flX10_144 lay_63 rfl rfl ?_
  refine r_istore_n (lv' := [(1, .int (h.1 63 1)), (0, .ref (eA E 63))]) dX10_load_22 rfl (by decide) rfl ?_
  refine r_aload_n (q := 1) dX10_load_23 rfl rfl ?_
  refine r_getIv (c := 63) (v := h.1 63 2) dX10_load_24 flX10_121 lay_63 rfl rfl ?_
  refine r_istore_n (lv' := [(2, .int (h.1 63 2)), (1, .int (h.1 63 1)), (0, .ref (eA E 63))]) dX10_load_27 rfl (by decide) rfl ?_
  refine r_aload_n (q := 2) dX10_load_28 rfl rfl ?_
  refine r_getR (c := 63) (c2 := 64) dX10_load_29 flX10_7 lay_63 rfl ?_
  refine r_aload_n (q := 2) dX10_load_32 rfl rfl ?_
  refine r_getR (c := 63) (c2 := 93) dX10_load_33 flX10_103 lay_63 rfl ?_
  refine r_bipush (v := (60 : Int32)) dX10_load_36 rfl ?_
  refine r_cSV (As := [.ref (eA E 64), .ref (eA E 93), .int (60 : Int32)]) dX10_load_38 mkX10_moves lkX10_387 rfl (by decide) rfl (Nat.le_of_ble_eq_true rfl) z00 t ?_
  intro h1 t
  refine r_aload_n (q := 2) dX10_load_41 rfl rfl ?_
  refine r_getR (c := 63) (c2 := 65) dX10_load_42 flX10_13 lay_63 rfl ?_
  refine r_aload_n (q := 2) dX10_load_45 rfl rfl ?_
  refine r_getR (c := 63) (c2 := 94) dX10_load_46 flX10_106 lay_63 rfl ?_
  refine r_sipush (v := (160 : Int32)) dX10_load_49 rfl ?_
  refine r_cSV (As := [.ref (eA E 65), .ref (eA E 94), .int (160 : Int32)]) dX10_load_52 mkX10_moves lkX10_387 rfl (by decide) rfl (Nat.le_of_ble_eq_true rfl) z00 t ?_
  intro h2 t
  refine r_aload_n (q := 2) dX10_load_55 rfl rfl ?_
  refine r_getR (c := 63) (c2 := 66) dX10_load_56 flX10_16 lay_63 rfl ?_
  refine r_aload_n (q := 2) dX10_load_59 rfl rfl ?_
  refine r_getR (c := 63) (c2 := 95) dX10_load_60 flX10_109 lay_63 rfl ?_
  refine r_bipush (v := (8 : Int32)) dX10_load_63 rfl ?_
  refine r_cSV (As := [.ref (eA E 66), .ref (eA E 95), .int (8 : Int32)]) dX10_load_65 mkX10_moves lkX10_387 rfl (by decide) rfl (Nat.le_of_ble_eq_true rfl) z00 t ?_
  intro h3 t
  refine r_aload_n (q := 2) dX10_load_68 rfl rfl ?_
  refine r_getR (c := 63) (c2 := 67) dX10_load_69 flX10_19 lay_63 rfl ?_
  refine r_aload_n (q := 2) dX10_load_72 rfl rfl ?_
  refine r_getR (c := 63) (c2 := 96) dX10_load_73 flX10_112 lay_63 rfl ?_
  refine r_sipush (v := (192 : Int32)) dX10_load_76 rfl ?_
  refine r_cSV (As := [.ref (eA E 67), .ref (eA E 96), .int (192 : Int32)]) dX10_load_79 mkX10_moves lkX10_387 rfl (by decide) rfl (Nat.le_of_ble_eq_true rfl) z00 t ?_
  intro h4 t
  refine r_aload_n (q := 2) dX10_load_82 rfl rfl ?_
  refine r_getR (c := 63) (c2 := 68) dX10_load_83 flX10_22 lay_63 rfl ?_
  refine r_aload_n (q := 2) dX10_load_86 rfl rfl ?_
  refine r_getR (c := 63) (c2 := 97) dX10_load_87 flX10_115 lay_63 rfl ?_
  refine r_bipush (v := (9 : Int32)) dX10_load_90 rfl ?_
  refine r_cSV (As := [.ref (eA E 68), .ref (eA E 97), .int (9 : Int32)]) dX10_load_92 mkX10_moves lkX10_387 rfl (by decide) rfl (Nat.le_of_ble_eq_true rfl) z00 t ?_
  intro h5 t
  refine r_aload_n (q := 2) dX10_load_95 rfl rfl ?_
  refine r_cVI (c := 63) (As := []) dX10_load_96 mkX10_takesAll lkX10_391 lay_63 rfl rfl rfl (by decide) rfl (Nat.le_of_ble_eq_true rfl) z00 t ?_
  intro v6 h6 t
  refine r_if_eq (tgt := 116) dX10_load_99 (by decide) (fun q7 => ?_) (fun q7 => ?_)
  · have t := t.1 q7
    refine r_aload_n (q := 2) dX10_load_116 rfl rfl ?_
    refine r_iload_n (q := 1) dX10_load_117 rfl rfl ?_
    refine r_putI (c := 63) dX10_load_118 flX10_144 lay_63 rfl ?_
    refine r_aload_n (q := 2) dX10_load_121 rfl rfl ?_
    refine r_iload_n (q := 0) dX10_load_122 rfl rfl ?_
    refine r_putI (c := 63) dX10_load_123 flX10_121 lay_63 rfl ?_
    refine r_aload_n (q := 2) dX10_load_126 rfl rfl ?_
    refine r_getR (c := 63) (c2 := 93) dX10_load_127 flX10_103 lay_63 rfl ?_
    refine r_aload_n (q := 2) dX10_load_130 rfl rfl ?_
    refine r_getR (c := 63) (c2 := 64) dX10_load_131 flX10_7 lay_63 rfl ?_
    refine r_bipush (v := (60 : Int32)) dX10_load_134 rfl ?_
    refine r_cSV (As := [.ref (eA E 93), .ref (eA E 64), .int (60 : Int32)]) dX10_load_136 mkX10_moves lkX10_387 rfl (by decide) rfl (Nat.le_of_ble_eq_true rfl) z00 t ?_
    intro h8 t
    refine r_aload_n (q := 2) dX10_load_139 rfl rfl ?_
    refine r_getR (c := 63) (c2 := 94) dX10_load_140 flX10_106 lay_63 rfl ?_
    refine r_aload_n (q := 2) dX10_load_143 rfl rfl ?_
    refine r_getR (c := 63) (c2 := 65) dX10_load_144 flX10_13 lay_63 rfl ?_
    refine r_sipush (v := (160 : Int32)) dX10_load_147 rfl ?_
    refine r_cSV (As := [.ref (eA E 94), .ref (eA E 65), .int (160 : Int32)]) dX10_load_150 mkX10_moves lkX10_387 rfl (by decide) rfl (Nat.le_of_ble_eq_true rfl) z00 t ?_
    intro h9 t
    refine r_aload_n (q := 2) dX10_load_153 rfl rfl ?_
    refine r_getR (c := 63) (c2 := 95) dX10_load_154 flX10_109 lay_63 rfl ?_
    refine r_aload_n (q := 2) dX10_load_157 rfl rfl ?_
    refine r_getR (c := 63) (c2 := 66) dX10_load_158 flX10_16 lay_63 rfl ?_
    refine r_bipush (v := (8 : Int32)) dX10_load_161 rfl ?_
    refine r_cSV (As := [.ref (eA E 95), .ref (eA E 66), .int (8 : Int32)]) dX10_load_163 mkX10_moves lkX10_387 rfl (by decide) rfl (Nat.le_of_ble_eq_true rfl) z00 t ?_
    intro h10 t
    refine r_aload_n (q := 2) dX10_load_166 rfl rfl ?_
    refine r_getR (c := 63) (c2 := 96) dX10_load_167 flX10_112 lay_63 rfl ?_
    refine r_aload_n (q := 2) dX10_load_170 rfl rfl ?_
    refine r_getR (c := 63) (c2 := 67) dX10_load_171 flX10_19 lay_63 rfl ?_
    refine r_sipush (v := (192 : Int32)) dX10_load_174 rfl ?_
    refine r_cSV (As := [.ref (eA E 96), .ref (eA E 67), .int (192 : Int32)]) dX10_load_177 mkX10_moves lkX10_387 rfl (by decide) rfl (Nat.le_of_ble_eq_true rfl) z00 t ?_
    intro h11 t
    refine r_aload_n (q := 2) dX10_load_180 rfl rfl ?_
    refine r_getR (c := 63) (c2 := 97) dX10_load_181 flX10_115 lay_63 rfl ?_
    refine r_aload_n (q := 2) dX10_load_184 rfl rfl ?_
    refine r_getR (c := 63) (c2 := 68) dX10_load_185 flX10_22 lay_63 rfl ?_
    refine r_bipush (v := (9 : Int32)) dX10_load_188 rfl ?_
    refine r_cSV (As := [.ref (eA E 97), .ref (eA E 68), .int (9 : Int32)]) dX10_load_190 mkX10_moves lkX10_387 rfl (by decide) rfl (Nat.le_of_ble_eq_true rfl) z00 t ?_
    intro h12 t
    refine r_bipush (v := (8 : Int32)) dX10_load_193 rfl ?_
    refine r_aload_n (q := 2) dX10_load_195 rfl rfl ?_
    refine r_getI (c := 63) dX10_load_196 flX10_330 lay_63 rfl ?_
    refine r_imul dX10_load_199 ?_
    refine r_aload_n (q := 2) dX10_load_200 rfl rfl ?_
    refine r_getI (c := 63) dX10_load_201 flX10_327 lay_63 rfl ?_
    refine r_iadd dX10_load_204 ?_
    refine r_ineg dX10_load_205 ?_
    exact r_iret dX10_load_206 rfl t
  · have t := t.2 q7
    refine r_aload_n (q := 2) dX10_load_102 rfl rfl ?_
    refine r_iconst (v := (0 : Int32)) dX10_load_103 rfl ?_
    refine r_putI (c := 63) dX10_load_104 flX10_248 lay_63 rfl ?_
    refine r_aload_n (q := 2) dX10_load_107 rfl rfl ?_
    refine r_cVV (c := 63) (As := []) dX10_load_108 mkX10_laysAll lkX10_254 lay_63 rfl rfl rfl (by decide) rfl (Nat.le_of_ble_eq_true rfl) z00 t ?_
    intro h13 t
    refine r_aload_n (q := 2) dX10_load_111 rfl rfl ?_
    refine r_getI (c := 63) dX10_load_112 flX10_121 lay_63 rfl ?_
    exact r_iret dX10_load_115 rfl t
theorem dX10_find_0 : decode cX10_find 0 = .ok (.aload_n 0, 1) := by decide +kernel
theorem dX10_find_1 : decode cX10_find 1 = .ok (.iconst 0, 1) := by decide +kernel
theorem dX10_find_2 : decode cX10_find 2 = .ok (.putfield 118, 3) := by decide +kernel
theorem dX10_find_5 : decode cX10_find 5 = .ok (.aload_n 0, 1) := by decide +kernel
theorem dX10_find_6 : decode cX10_find 6 = .ok (.aload_n 0, 1) := by decide +kernel
theorem dX10_find_7 : decode cX10_find 7 = .ok (.getfield 294, 3) := by decide +kernel
theorem dX10_find_10 : decode cX10_find 10 = .ok (.putfield 300, 3) := by decide +kernel
theorem dX10_find_13 : decode cX10_find 13 = .ok (.aload_n 0, 1) := by decide +kernel
theorem dX10_find_14 : decode cX10_find 14 = .ok (.iconst 0, 1) := by decide +kernel
theorem dX10_find_15 : decode cX10_find 15 = .ok (.putfield 294, 3) := by decide +kernel
theorem dX10_find_18 : decode cX10_find 18 = .ok (.aload_n 0, 1) := by decide +kernel
theorem dX10_find_19 : decode cX10_find 19 = .ok (.getfield 300, 3) := by decide +kernel
theorem dX10_find_22 : decode cX10_find 22 = .ok (.iconst 1, 1) := by decide +kernel
theorem dX10_find_23 : decode cX10_find 23 = .ok (.bipush 8, 2) := by decide +kernel
theorem dX10_find_25 : decode cX10_find 25 = .ok (.invokestatic 124, 3) := by decide +kernel
theorem dX10_find_28 : decode cX10_find 28 = .ok (.ifCond .ne 5, 3) := by decide +kernel
theorem dX10_find_31 : decode cX10_find 31 = .ok (.iconst (-1), 1) := by decide +kernel
theorem dX10_find_32 : decode cX10_find 32 = .ok (.ireturn, 1) := by decide +kernel
theorem dX10_find_33 : decode cX10_find 33 = .ok (.iconst 0, 1) := by decide +kernel
theorem dX10_find_34 : decode cX10_find 34 = .ok (.istore_n 1, 1) := by decide +kernel
theorem dX10_find_35 : decode cX10_find 35 = .ok (.iload_n 1, 1) := by decide +kernel
theorem dX10_find_36 : decode cX10_find 36 = .ok (.aload_n 0, 1) := by decide +kernel
theorem dX10_find_37 : decode cX10_find 37 = .ok (.getfield 300, 3) := by decide +kernel
theorem dX10_find_40 : decode cX10_find 40 = .ok (.if_icmp .ge 20, 3) := by decide +kernel
theorem dX10_find_43 : decode cX10_find 43 = .ok (.aload_n 0, 1) := by decide +kernel
theorem dX10_find_44 : decode cX10_find 44 = .ok (.getfield 96, 3) := by decide +kernel
theorem dX10_find_47 : decode cX10_find 47 = .ok (.iload_n 1, 1) := by decide +kernel
theorem dX10_find_48 : decode cX10_find 48 = .ok (.baload, 1) := by decide +kernel
theorem dX10_find_49 : decode cX10_find 49 = .ok (.ifCond .ne 5, 3) := by decide +kernel
theorem dX10_find_52 : decode cX10_find 52 = .ok (.iconst (-1), 1) := by decide +kernel
theorem dX10_find_53 : decode cX10_find 53 = .ok (.ireturn, 1) := by decide +kernel
theorem dX10_find_54 : decode cX10_find 54 = .ok (.iinc 1 1, 3) := by decide +kernel
theorem dX10_find_57 : decode cX10_find 57 = .ok (.goto (-22), 3) := by decide +kernel
theorem dX10_find_60 : decode cX10_find 60 = .ok (.aload_n 0, 1) := by decide +kernel
theorem dX10_find_61 : decode cX10_find 61 = .ok (.iconst 0, 1) := by decide +kernel
theorem dX10_find_62 : decode cX10_find 62 = .ok (.putfield 309, 3) := by decide +kernel
theorem dX10_find_65 : decode cX10_find 65 = .ok (.aload_n 0, 1) := by decide +kernel
theorem dX10_find_66 : decode cX10_find 66 = .ok (.aload_n 0, 1) := by decide +kernel
theorem dX10_find_67 : decode cX10_find 67 = .ok (.getfield 300, 3) := by decide +kernel
theorem dX10_find_70 : decode cX10_find 70 = .ok (.putfield 303, 3) := by decide +kernel
theorem dX10_find_73 : decode cX10_find 73 = .ok (.aload_n 0, 1) := by decide +kernel
theorem dX10_find_74 : decode cX10_find 74 = .ok (.invokevirtual 369, 3) := by decide +kernel
theorem dX10_find_77 : decode cX10_find 77 = .ok (.istore_n 1, 1) := by decide +kernel
theorem dX10_find_78 : decode cX10_find 78 = .ok (.iload_n 1, 1) := by decide +kernel
theorem dX10_find_79 : decode cX10_find 79 = .ok (.bipush 12, 2) := by decide +kernel
theorem dX10_find_81 : decode cX10_find 81 = .ok (.if_icmp .ge 7, 3) := by decide +kernel
theorem dX10_find_84 : decode cX10_find 84 = .ok (.iload_n 1, 1) := by decide +kernel
theorem dX10_find_85 : decode cX10_find 85 = .ok (.goto 10, 3) := by decide +kernel
theorem dX10_find_88 : decode cX10_find 88 = .ok (.bipush 100, 2) := by decide +kernel
theorem dX10_find_90 : decode cX10_find 90 = .ok (.iload_n 1, 1) := by decide +kernel
theorem dX10_find_91 : decode cX10_find 91 = .ok (.iadd, 1) := by decide +kernel
theorem dX10_find_92 : decode cX10_find 92 = .ok (.bipush 12, 2) := by decide +kernel
theorem dX10_find_94 : decode cX10_find 94 = .ok (.isub, 1) := by decide +kernel
theorem dX10_find_95 : decode cX10_find 95 = .ok (.ireturn, 1) := by decide +kernel
abbrev VX10_find_35 (E : En) (d : Nat) (g : Ga) (P : Int32 → Hp → Prop) (x1 : Int32) (h : Hp) : Prop := V E MX10_find (RM (d + 1) 0) g (QQ E g (QI E P) 0 0) 0 0 h 35 [(0, .ref (eA E 63)), (1, .int x1)] []
set_option maxRecDepth 20000 in
theorem wp_X10_find (E : En) (d : Nat) (h : Hp) (P : Int32 → Hp → Prop) (t : ∀ g : Ga, SpI E d MX10_isIn [.int (h.1 63 41), .int (1 : Int32), .int (8 : Int32)] (sI (sI (sI h 63 0 (0 : Int32)) 63 42 (h.1 63 41)) 63 41 (0 : Int32)) (fun v1 h1 => (¬ v1 = 0 → (VX10_find_35 E d g P (0 : Int32) h1)) ∧ (v1 = 0 → (P (-1 : Int32) h1)))) : SpI E (d + 1) MX10_find [.ref (eA E 63)] h P := by
  refine SpI.of (lv0 := [(0, .ref (eA E 63))]) (by decide) (Nat.le_of_ble_eq_true rfl) rfl (fun g => ?_)
  have t := t g
  refine r_aload_n (q := 0) dX10_find_0 rfl rfl ?_
  refine r_iconst (v := (0 : Int32)) dX10_find_1 rfl ?_
  refine r_putI (c := 63) dX10_find_2 flX10_118 lay_63 rfl ?_
  refine r_aload_n (q := 0) dX10_find_5 rfl rfl ?_
  refine r_aload_n (q := 0) dX10_find_6 rfl rfl ?_
  refine r_getIv (c := 63) (v := h.1 63 41) dX10_find_7 flX10_294 lay_63 rfl rfl ?_
  refine r_putI (c := 63) dX10_find_10 flX10_300 lay_63 rfl ?_
  refine r_aload_n (q := 0) dX10_find_13 rfl rfl ?_
  refine r_iconst (v := (0 : Int32)) dX10_find_14 rfl ?_
  refine r_putI (c := 63) dX10_find_15 flX10_294 lay_63 rfl ?_
  refine r_aload_n (q := 0) dX10_find_18 rfl rfl ?_
  refine r_getIv (c := 63) (v := h.1 63 41) dX10_find_19 flX10_300 lay_63 rfl rfl ?_
  refine r_iconst (v := (1 : Int32)) dX10_find_22 rfl ?_
  refine r_bipush (v := (8 : Int32)) dX10_find_23 rfl ?_
  refine r_cSI (As := [.int (h.1 63 41), .int (1 : Int32), .int (8 : Int32)]) dX10_find_25 mkX10_isIn lkX10_124 rfl (by decide) rfl (Nat.le_of_ble_eq_true rfl) z00 t ?_
  intro v1 h1 t
  refine r_if_ne (tgt := 33) dX10_find_28 (by decide) (fun q2 => ?_) (fun q2 => ?_)
  · have t := t.1 q2
    refine r_iconst (v := (0 : Int32)) dX10_find_33 rfl ?_
    refine r_istore_n (lv' := [(1, .int (0 : Int32)), (0, .ref (eA E 63))]) dX10_find_34 rfl (by decide) rfl ?_
    refine r_sub [1, 0] rfl ?_
    exact t
  · have t := t.2 q2
    refine r_iconst (v := (-1 : Int32)) dX10_find_31 rfl ?_
    exact r_iret dX10_find_32 rfl t
set_option maxRecDepth 20000 in
theorem sg_X10_find_35 (E : En) (d : Nat) (g : Ga) (x1 : Int32) (h : Hp) (P : Int32 → Hp → Prop) (t : ((h.1 63 42) ≤ x1 → (SpI E d MX10_named [.ref (eA E 63)] (sI (sI h 63 44 (0 : Int32)) 63 45 (h.1 63 42)) (fun v2 h2 => ((12 : Int32) ≤ v2 → (P (((100 : Int32) + v2) - (12 : Int32)) h2)) ∧ (¬ (12 : Int32) ≤ v2 → (P v2 h2))))) ∧ (¬ (h.1 63 42) ≤ x1 → (vp_in x1 1200 ∧ ((¬ (h.1 91 x1.toNatClampNeg) = 0 → (VX10_find_35 E d g P (x1 + (1 : Int32)) h)) ∧ ((h.1 91 x1.toNatClampNeg) = 0 → (P (-1 : Int32) h)))))) : VX10_find_35 E d g P x1 h := by
  refine r_iload_n (q := 1) dX10_find_35 rfl rfl ?_
  refine r_aload_n (q := 0) dX10_find_36 rfl rfl ?_
  refine r_getI (c := 63) dX10_find_37 flX10_300 lay_63 rfl ?_
  refine r_icmp_ge (tgt := 60) dX10_find_40 (by decide) (fun q1 => ?_) (fun q1 => ?_)
  · have t := t.1 q1
    refine r_aload_n (q := 0) dX10_find_60 rfl rfl ?_
    refine r_iconst (v := (0 : Int32)) dX10_find_61 rfl ?_
    refine r_putI (c := 63) dX10_find_62 flX10_309 lay_63 rfl ?_
    refine r_aload_n (q := 0) dX10_find_65 rfl rfl ?_
    refine r_aload_n (q := 0) dX10_find_66 rfl rfl ?_
    refine r_getIv (c := 63) (v := h.1 63 42) dX10_find_67 flX10_300 lay_63 rfl rfl ?_
    refine r_putI (c := 63) dX10_find_70 flX10_303 lay_63 rfl ?_
    refine r_aload_n (q := 0) dX10_find_73 rfl rfl ?_
    refine r_cVI (c := 63) (As := []) dX10_find_74 mkX10_named lkX10_369 lay_63 rfl rfl rfl (by decide) rfl (Nat.le_of_ble_eq_true rfl) z00 t ?_
    intro v2 h2 t
    refine r_istore_n (lv' := [(1, .int v2), (0, .ref (eA E 63))]) dX10_find_77 rfl (by decide) rfl ?_
    refine r_iload_n (q := 0) dX10_find_78 rfl rfl ?_
    refine r_bipush (v := (12 : Int32)) dX10_find_79 rfl ?_
    refine r_icmp_ge (tgt := 88) dX10_find_81 (by decide) (fun q3 => ?_) (fun q3 => ?_)
    · have t := t.1 q3
      refine r_bipush (v := (100 : Int32)) dX10_find_88 rfl ?_
      refine r_iload_n (q := 0) dX10_find_90 rfl rfl ?_
      refine r_iadd dX10_find_91 ?_
      refine r_bipush (v := (12 : Int32)) dX10_find_92 rfl ?_
      refine r_isub dX10_find_94 ?_
      exact r_iret dX10_find_95 rfl t
    · have t := t.2 q3
      refine r_iload_n (q := 0) dX10_find_84 rfl rfl ?_
      refine r_goto (tgt := 95) dX10_find_85 (by decide) ?_
      exact r_iret dX10_find_95 rfl t
  · have t := t.2 q1
    refine r_aload_n (q := 0) dX10_find_43 rfl rfl ?_
    refine r_getR (c := 63) (c2 := 91) dX10_find_44 flX10_96 lay_63 rfl ?_
    refine r_iload_n (q := 1) dX10_find_47 rfl rfl ?_
    obtain ⟨c4, t⟩ := t
    refine r_bald (c := 91) dX10_find_48 lay_91 c4 ?_
    refine r_if_ne (tgt := 54) dX10_find_49 (by decide) (fun q5 => ?_) (fun q5 => ?_)
    · have t := t.1 q5
      refine r_iinc (k := 1) (v := x1 + (1 : Int32)) (lv' := [(1, .int (x1 + (1 : Int32))), (0, .ref (eA E 63))]) dX10_find_54 rfl rfl (by decide) rfl ?_
      refine r_goto (tgt := 35) dX10_find_57 (by decide) ?_
      refine r_sub [1, 0] rfl ?_
      exact t
    · have t := t.2 q5
      refine r_iconst (v := (-1 : Int32)) dX10_find_52 rfl ?_
      exact r_iret dX10_find_53 rfl t
theorem dX10_says_0 : decode cX10_says 0 = .ok (.aload_n 0, 1) := by decide +kernel
theorem dX10_says_1 : decode cX10_says 1 = .ok (.getfield 100, 3) := by decide +kernel
theorem dX10_says_4 : decode cX10_says 4 = .ok (.aload_n 0, 1) := by decide +kernel
theorem dX10_says_5 : decode cX10_says 5 = .ok (.getfield 394, 3) := by decide +kernel
theorem dX10_says_8 : decode cX10_says 8 = .ok (.iload_n 1, 1) := by decide +kernel
theorem dX10_says_9 : decode cX10_says 9 = .ok (.i2b, 1) := by decide +kernel
theorem dX10_says_10 : decode cX10_says 10 = .ok (.bastore, 1) := by decide +kernel
theorem dX10_says_11 : decode cX10_says 11 = .ok (.aload_n 0, 1) := by decide +kernel
theorem dX10_says_12 : decode cX10_says 12 = .ok (.dup, 1) := by decide +kernel
theorem dX10_says_13 : decode cX10_says 13 = .ok (.getfield 394, 3) := by decide +kernel
theorem dX10_says_16 : decode cX10_says 16 = .ok (.iconst 1, 1) := by decide +kernel
theorem dX10_says_17 : decode cX10_says 17 = .ok (.iadd, 1) := by decide +kernel
theorem dX10_says_18 : decode cX10_says 18 = .ok (.putfield 394, 3) := by decide +kernel
theorem dX10_says_21 : decode cX10_says 21 = .ok (.return_, 1) := by decide +kernel
set_option maxRecDepth 20000 in
theorem wp_X10_says (E : En) (d : Nat) (a1 : Int32) (h : Hp) (P : Hp → Prop) (t : vp_in (h.1 63 43) 3000 ∧ (P (sI (sI h 92 ((h.1 63 43).toNatClampNeg) (vp_nar .byte a1.toInt8.toInt32)) 63 43 ((h.1 63 43) + (1 : Int32))))) : SpV E d MX10_says [.ref (eA E 63), .int a1] h P := by
  refine SpV.of (lv0 := [(0, .ref (eA E 63)), (1, .int a1)]) (by decide) (Nat.le_of_ble_eq_true rfl) rfl (fun g => ?_)
  refine r_aload_n (q := 0) dX10_says_0 rfl rfl ?_
  refine r_getR (c := 63) (c2 := 92) dX10_says_1 flX10_100 lay_63 rfl ?_
  refine r_aload_n (q := 0) dX10_says_4 rfl rfl ?_
  refine r_getI (c := 63) dX10_says_5 flX10_394 lay_63 rfl ?_
  refine r_iload_n (q := 1) dX10_says_8 rfl rfl ?_
  refine r_i2b dX10_says_9 ?_
  obtain ⟨c1, t⟩ := t
  refine r_bast (c := 92) dX10_says_10 lay_92 c1 ?_
  refine r_aload_n (q := 0) dX10_says_11 rfl rfl ?_
  refine r_dup dX10_says_12 rfl ?_
  refine r_getIv (c := 63) (v := h.1 63 43) dX10_says_13 flX10_394 lay_63 rfl rfl ?_
  refine r_iconst (v := (1 : Int32)) dX10_says_16 rfl ?_
  refine r_iadd dX10_says_17 ?_
  refine r_putI (c := 63) dX10_says_18 flX10_394 lay_63 rfl ?_
  exact r_vret dX10_says_21 rfl t
theorem dX10_saysNumber_0 : decode cX10_saysNumber 0 = .ok (.iconst 1, 1) := by decide +kernel
theorem dX10_saysNumber_1 : decode cX10_saysNumber 1 = .ok (.istore_n 2, 1) := by decide +kernel
theorem dX10_saysNumber_2 : decode cX10_saysNumber 2 = .ok (.iload_n 1, 1) := by decide +kernel
theorem dX10_saysNumber_3 : decode cX10_saysNumber 3 = .ok (.iload_n 2, 1) := by decide +kernel
theorem dX10_saysNumber_4 : decode cX10_saysNumber 4 = .ok (.idiv, 1) := by decide +kernel
theorem dX10_saysNumber_5 : decode cX10_saysNumber 5 = .ok (.bipush 9, 2) := by decide +kernel
theorem dX10_saysNumber_7 : decode cX10_saysNumber 7 = .ok (.if_icmp .le 11, 3) := by decide +kernel
theorem dX10_saysNumber_10 : decode cX10_saysNumber 10 = .ok (.iload_n 2, 1) := by decide +kernel
theorem dX10_saysNumber_11 : decode cX10_saysNumber 11 = .ok (.bipush 10, 2) := by decide +kernel
theorem dX10_saysNumber_13 : decode cX10_saysNumber 13 = .ok (.imul, 1) := by decide +kernel
theorem dX10_saysNumber_14 : decode cX10_saysNumber 14 = .ok (.istore_n 2, 1) := by decide +kernel
theorem dX10_saysNumber_15 : decode cX10_saysNumber 15 = .ok (.goto (-13), 3) := by decide +kernel
theorem dX10_saysNumber_18 : decode cX10_saysNumber 18 = .ok (.iload_n 2, 1) := by decide +kernel
theorem dX10_saysNumber_19 : decode cX10_saysNumber 19 = .ok (.ifCond .le 24, 3) := by decide +kernel
theorem dX10_saysNumber_22 : decode cX10_saysNumber 22 = .ok (.aload_n 0, 1) := by decide +kernel
theorem dX10_saysNumber_23 : decode cX10_saysNumber 23 = .ok (.bipush 48, 2) := by decide +kernel
theorem dX10_saysNumber_25 : decode cX10_saysNumber 25 = .ok (.iload_n 1, 1) := by decide +kernel
theorem dX10_saysNumber_26 : decode cX10_saysNumber 26 = .ok (.iload_n 2, 1) := by decide +kernel
theorem dX10_saysNumber_27 : decode cX10_saysNumber 27 = .ok (.idiv, 1) := by decide +kernel
theorem dX10_saysNumber_28 : decode cX10_saysNumber 28 = .ok (.bipush 10, 2) := by decide +kernel
theorem dX10_saysNumber_30 : decode cX10_saysNumber 30 = .ok (.irem, 1) := by decide +kernel
theorem dX10_saysNumber_31 : decode cX10_saysNumber 31 = .ok (.iadd, 1) := by decide +kernel
theorem dX10_saysNumber_32 : decode cX10_saysNumber 32 = .ok (.invokevirtual 397, 3) := by decide +kernel
theorem dX10_saysNumber_35 : decode cX10_saysNumber 35 = .ok (.iload_n 2, 1) := by decide +kernel
theorem dX10_saysNumber_36 : decode cX10_saysNumber 36 = .ok (.bipush 10, 2) := by decide +kernel
theorem dX10_saysNumber_38 : decode cX10_saysNumber 38 = .ok (.idiv, 1) := by decide +kernel
theorem dX10_saysNumber_39 : decode cX10_saysNumber 39 = .ok (.istore_n 2, 1) := by decide +kernel
theorem dX10_saysNumber_40 : decode cX10_saysNumber 40 = .ok (.goto (-22), 3) := by decide +kernel
theorem dX10_saysNumber_43 : decode cX10_saysNumber 43 = .ok (.return_, 1) := by decide +kernel
abbrev VX10_saysNumber_2 (E : En) (d : Nat) (g : Ga) (P : Hp → Prop) (x1 : Int32) (x2 : Int32) (h : Hp) : Prop := V E MX10_saysNumber (RM (d + 1) 0) g (QQ E g (QV E P) 0 0) 0 0 h 2 [(0, .ref (eA E 63)), (1, .int x1), (2, .int x2)] []
abbrev VX10_saysNumber_18 (E : En) (d : Nat) (g : Ga) (P : Hp → Prop) (x1 : Int32) (x2 : Int32) (h : Hp) : Prop := V E MX10_saysNumber (RM (d + 1) 0) g (QQ E g (QV E P) 0 0) 0 0 h 18 [(0, .ref (eA E 63)), (1, .int x1), (2, .int x2)] []
set_option maxRecDepth 20000 in
theorem wp_X10_saysNumber (E : En) (d : Nat) (a1 : Int32) (h : Hp) (P : Hp → Prop) (t : ∀ g : Ga, VX10_saysNumber_2 E d g P a1 (1 : Int32) h) : SpV E (d + 1) MX10_saysNumber [.ref (eA E 63), .int a1] h P := by
  refine SpV.of (lv0 := [(0, .ref (eA E 63)), (1, .int a1)]) (by decide) (Nat.le_of_ble_eq_true rfl) rfl (fun g => ?_)
  have t := t g
  refine r_iconst (v := (1 : Int32)) dX10_saysNumber_0 rfl ?_
  refine r_istore_n (lv' := [(2, .int (1 : Int32)), (0, .ref (eA E 63)), (1, .int a1)]) dX10_saysNumber_1 rfl (by decide) rfl ?_
  refine r_sub [1, 2, 0] rfl ?_
  exact t
set_option maxRecDepth 20000 in
theorem sg_X10_saysNumber_2 (E : En) (d : Nat) (g : Ga) (x1 : Int32) (x2 : Int32) (h : Hp) (P : Hp → Prop) (t : ¬ x2 = 0 ∧ (((x1 / x2) ≤ (9 : Int32) → (VX10_saysNumber_18 E d g P x1 x2 h)) ∧ (¬ (x1 / x2) ≤ (9 : Int32) → (VX10_saysNumber_2 E d g P x1 (x2 * (10 : Int32)) h)))) : VX10_saysNumber_2 E d g P x1 x2 h := by
  refine r_iload_n (q := 1) dX10_saysNumber_2 rfl rfl ?_
  refine r_iload_n (q := 2) dX10_saysNumber_3 rfl rfl ?_
  obtain ⟨c0, t⟩ := t
  refine r_idiv dX10_saysNumber_4 c0 ?_
  refine r_bipush (v := (9 : Int32)) dX10_saysNumber_5 rfl ?_
  refine r_icmp_le (tgt := 18) dX10_saysNumber_7 (by decide) (fun q1 => ?_) (fun q1 => ?_)
  · have t := t.1 q1
    exact t
  · have t := t.2 q1
    refine r_iload_n (q := 2) dX10_saysNumber_10 rfl rfl ?_
    refine r_bipush (v := (10 : Int32)) dX10_saysNumber_11 rfl ?_
    refine r_imul dX10_saysNumber_13 ?_
    refine r_istore_n (lv' := [(2, .int (x2 * (10 : Int32))), (0, .ref (eA E 63)), (1, .int x1)]) dX10_saysNumber_14 rfl (by decide) rfl ?_
    refine r_goto (tgt := 2) dX10_saysNumber_15 (by decide) ?_
    refine r_sub [1, 2, 0] rfl ?_
    exact t
set_option maxRecDepth 20000 in
theorem sg_X10_saysNumber_18 (E : En) (d : Nat) (g : Ga) (x1 : Int32) (x2 : Int32) (h : Hp) (P : Hp → Prop) (t : (x2 ≤ 0 → (P h)) ∧ (¬ x2 ≤ 0 → (¬ x2 = 0 ∧ (SpV E d MX10_says [.ref (eA E 63), .int ((48 : Int32) + ((x1 / x2) - (x1 / x2) / (10 : Int32) * (10 : Int32)))] h (fun h2 => VX10_saysNumber_18 E d g P x1 (x2 / (10 : Int32)) h2))))) : VX10_saysNumber_18 E d g P x1 x2 h := by
  refine r_iload_n (q := 2) dX10_saysNumber_18 rfl rfl ?_
  refine r_if_le (tgt := 43) dX10_saysNumber_19 (by decide) (fun q1 => ?_) (fun q1 => ?_)
  · have t := t.1 q1
    exact r_vret dX10_saysNumber_43 rfl t
  · have t := t.2 q1
    refine r_aload_n (q := 0) dX10_saysNumber_22 rfl rfl ?_
    refine r_bipush (v := (48 : Int32)) dX10_saysNumber_23 rfl ?_
    refine r_iload_n (q := 1) dX10_saysNumber_25 rfl rfl ?_
    refine r_iload_n (q := 2) dX10_saysNumber_26 rfl rfl ?_
    obtain ⟨c0, t⟩ := t
    refine r_idiv dX10_saysNumber_27 c0 ?_
    refine r_bipush (v := (10 : Int32)) dX10_saysNumber_28 rfl ?_
    refine r_irem dX10_saysNumber_30 (by decide) ?_
    refine r_iadd dX10_saysNumber_31 ?_
    refine r_cVV (c := 63) (As := [.int ((48 : Int32) + ((x1 / x2) - (x1 / x2) / (10 : Int32) * (10 : Int32)))]) dX10_saysNumber_32 mkX10_says lkX10_397 lay_63 rfl rfl rfl (by decide) rfl (Nat.le_of_ble_eq_true rfl) z00 t ?_
    intro h2 t
    refine r_iload_n (q := 2) dX10_saysNumber_35 rfl rfl ?_
    refine r_bipush (v := (10 : Int32)) dX10_saysNumber_36 rfl ?_
    refine r_idiv dX10_saysNumber_38 (by decide) ?_
    refine r_istore_n (lv' := [(2, .int (x2 / (10 : Int32))), (0, .ref (eA E 63)), (1, .int x1)]) dX10_saysNumber_39 rfl (by decide) rfl ?_
    refine r_goto (tgt := 18) dX10_saysNumber_40 (by decide) ?_
    refine r_sub [1, 2, 0] rfl ?_
    exact t
theorem dX10_saysName_0 : decode cX10_saysName 0 = .ok (.iconst 0, 1) := by decide +kernel
theorem dX10_saysName_1 : decode cX10_saysName 1 = .ok (.istore_n 2, 1) := by decide +kernel
theorem dX10_saysName_2 : decode cX10_saysName 2 = .ok (.iload_n 2, 1) := by decide +kernel
theorem dX10_saysName_3 : decode cX10_saysName 3 = .ok (.bipush 8, 2) := by decide +kernel
theorem dX10_saysName_5 : decode cX10_saysName 5 = .ok (.if_icmp .ge 38, 3) := by decide +kernel
theorem dX10_saysName_8 : decode cX10_saysName 8 = .ok (.aload_n 0, 1) := by decide +kernel
theorem dX10_saysName_9 : decode cX10_saysName 9 = .ok (.getfield 13, 3) := by decide +kernel
theorem dX10_saysName_12 : decode cX10_saysName 12 = .ok (.bipush 8, 2) := by decide +kernel
theorem dX10_saysName_14 : decode cX10_saysName 14 = .ok (.iload_n 1, 1) := by decide +kernel
theorem dX10_saysName_15 : decode cX10_saysName 15 = .ok (.imul, 1) := by decide +kernel
theorem dX10_saysName_16 : decode cX10_saysName 16 = .ok (.iload_n 2, 1) := by decide +kernel
theorem dX10_saysName_17 : decode cX10_saysName 17 = .ok (.iadd, 1) := by decide +kernel
theorem dX10_saysName_18 : decode cX10_saysName 18 = .ok (.iaload, 1) := by decide +kernel
theorem dX10_saysName_19 : decode cX10_saysName 19 = .ok (.ifCond .le 18, 3) := by decide +kernel
theorem dX10_saysName_22 : decode cX10_saysName 22 = .ok (.aload_n 0, 1) := by decide +kernel
theorem dX10_saysName_23 : decode cX10_saysName 23 = .ok (.aload_n 0, 1) := by decide +kernel
theorem dX10_saysName_24 : decode cX10_saysName 24 = .ok (.getfield 13, 3) := by decide +kernel
theorem dX10_saysName_27 : decode cX10_saysName 27 = .ok (.bipush 8, 2) := by decide +kernel
theorem dX10_saysName_29 : decode cX10_saysName 29 = .ok (.iload_n 1, 1) := by decide +kernel
theorem dX10_saysName_30 : decode cX10_saysName 30 = .ok (.imul, 1) := by decide +kernel
theorem dX10_saysName_31 : decode cX10_saysName 31 = .ok (.iload_n 2, 1) := by decide +kernel
theorem dX10_saysName_32 : decode cX10_saysName 32 = .ok (.iadd, 1) := by decide +kernel
theorem dX10_saysName_33 : decode cX10_saysName 33 = .ok (.iaload, 1) := by decide +kernel
theorem dX10_saysName_34 : decode cX10_saysName 34 = .ok (.invokevirtual 397, 3) := by decide +kernel
theorem dX10_saysName_37 : decode cX10_saysName 37 = .ok (.iinc 2 1, 3) := by decide +kernel
theorem dX10_saysName_40 : decode cX10_saysName 40 = .ok (.goto (-38), 3) := by decide +kernel
theorem dX10_saysName_43 : decode cX10_saysName 43 = .ok (.return_, 1) := by decide +kernel
abbrev VX10_saysName_2 (E : En) (d : Nat) (g : Ga) (P : Hp → Prop) (x1 : Int32) (x2 : Int32) (h : Hp) : Prop := V E MX10_saysName (RM (d + 1) 0) g (QQ E g (QV E P) 0 0) 0 0 h 2 [(0, .ref (eA E 63)), (1, .int x1), (2, .int x2)] []
set_option maxRecDepth 20000 in
theorem wp_X10_saysName (E : En) (d : Nat) (a1 : Int32) (h : Hp) (P : Hp → Prop) (t : ∀ g : Ga, VX10_saysName_2 E d g P a1 (0 : Int32) h) : SpV E (d + 1) MX10_saysName [.ref (eA E 63), .int a1] h P := by
  refine SpV.of (lv0 := [(0, .ref (eA E 63)), (1, .int a1)]) (by decide) (Nat.le_of_ble_eq_true rfl) rfl (fun g => ?_)
  have t := t g
  refine r_iconst (v := (0 : Int32)) dX10_saysName_0 rfl ?_
  refine r_istore_n (lv' := [(2, .int (0 : Int32)), (0, .ref (eA E 63)), (1, .int a1)]) dX10_saysName_1 rfl (by decide) rfl ?_
  refine r_sub [1, 2, 0] rfl ?_
  exact t
set_option maxRecDepth 20000 in
theorem sg_X10_saysName_2 (E : En) (d : Nat) (g : Ga) (x1 : Int32) (x2 : Int32) (h : Hp) (P : Hp → Prop) (t : ((8 : Int32) ≤ x2 → (P h)) ∧ (¬ (8 : Int32) ≤ x2 → (vp_in (((8 : Int32) * x1) + x2) 160 ∧ (((h.1 65 ((((8 : Int32) * x1) + x2).toNatClampNeg)) ≤ 0 → (VX10_saysName_2 E d g P x1 (x2 + (1 : Int32)) h)) ∧ (¬ (h.1 65 ((((8 : Int32) * x1) + x2).toNatClampNeg)) ≤ 0 → (vp_in (((8 : Int32) * x1) + x2) 160 ∧ (SpV E d MX10_says [.ref (eA E 63), .int (h.1 65 ((((8 : Int32) * x1) + x2).toNatClampNeg))] h (fun h5 => VX10_saysName_2 E d g P x1 (x2 + (1 : Int32)) h5)))))))) : VX10_saysName_2 E d g P x1 x2 h := by
  refine r_iload_n (q := 2) dX10_saysName_2 rfl rfl ?_
  refine r_bipush (v := (8 : Int32)) dX10_saysName_3 rfl ?_
  refine r_icmp_ge (tgt := 43) dX10_saysName_5 (by decide) (fun q1 => ?_) (fun q1 => ?_)
  · have t := t.1 q1
    exact r_vret dX10_saysName_43 rfl t
  · have t := t.2 q1
    refine r_aload_n (q := 0) dX10_saysName_8 rfl rfl ?_
    refine r_getR (c := 63) (c2 := 65) dX10_saysName_9 flX10_13 lay_63 rfl ?_
    refine r_bipush (v := (8 : Int32)) dX10_saysName_12 rfl ?_
    refine r_iload_n (q := 1) dX10_saysName_14 rfl rfl ?_
    refine r_imul dX10_saysName_15 ?_
    refine r_iload_n (q := 2) dX10_saysName_16 rfl rfl ?_
    refine r_iadd dX10_saysName_17 ?_
    obtain ⟨c2, t⟩ := t
    refine r_iald (c := 65) dX10_saysName_18 lay_65 c2 ?_
    refine r_if_le (tgt := 37) dX10_saysName_19 (by decide) (fun q3 => ?_) (fun q3 => ?_)
    · have t := t.1 q3
      refine r_iinc (k := 2) (v := x2 + (1 : Int32)) (lv' := [(2, .int (x2 + (1 : Int32))), (0, .ref (eA E 63)), (1, .int x1)]) dX10_saysName_37 rfl rfl (by decide) rfl ?_
      refine r_goto (tgt := 2) dX10_saysName_40 (by decide) ?_
      refine r_sub [1, 2, 0] rfl ?_
      exact t
    · have t := t.2 q3
      refine r_aload_n (q := 0) dX10_saysName_22 rfl rfl ?_
      refine r_aload_n (q := 0) dX10_saysName_23 rfl rfl ?_
      refine r_getR (c := 63) (c2 := 65) dX10_saysName_24 flX10_13 lay_63 rfl ?_
      refine r_bipush (v := (8 : Int32)) dX10_saysName_27 rfl ?_
      refine r_iload_n (q := 1) dX10_saysName_29 rfl rfl ?_
      refine r_imul dX10_saysName_30 ?_
      refine r_iload_n (q := 2) dX10_saysName_31 rfl rfl ?_
      refine r_iadd dX10_saysName_32 ?_
      obtain ⟨c4, t⟩ := t
      refine r_iald (c := 65) dX10_saysName_33 lay_65 c4 ?_
      refine r_cVV (c := 63) (As := [.int (h.1 65 ((((8 : Int32) * x1) + x2).toNatClampNeg))]) dX10_saysName_34 mkX10_says lkX10_397 lay_63 rfl rfl rfl (by decide) rfl (Nat.le_of_ble_eq_true rfl) z00 t ?_
      intro h5 t
      refine r_iinc (k := 2) (v := x2 + (1 : Int32)) (lv' := [(2, .int (x2 + (1 : Int32))), (0, .ref (eA E 63)), (1, .int x1)]) dX10_saysName_37 rfl rfl (by decide) rfl ?_
      refine r_goto (tgt := 2) dX10_saysName_40 (by decide) ?_
      refine r_sub [1, 2, 0] rfl ?_
      exact t
theorem dX10_saysOperand_0 : decode cX10_saysOperand 0 = .ok (.iload_n 1, 1) := by decide +kernel
theorem dX10_saysOperand_1 : decode cX10_saysOperand 1 = .ok (.bipush 8, 2) := by decide +kernel
theorem dX10_saysOperand_3 : decode cX10_saysOperand 3 = .ok (.if_icmp .ge 9, 3) := by decide +kernel
theorem dX10_saysOperand_6 : decode cX10_saysOperand 6 = .ok (.aload_n 0, 1) := by decide +kernel
theorem dX10_saysOperand_7 : decode cX10_saysOperand 7 = .ok (.bipush 114, 2) := by decide +kernel
theorem dX10_saysOperand_9 : decode cX10_saysOperand 9 = .ok (.invokevirtual 397, 3) := by decide +kernel
theorem dX10_saysOperand_12 : decode cX10_saysOperand 12 = .ok (.aload_n 0, 1) := by decide +kernel
theorem dX10_saysOperand_13 : decode cX10_saysOperand 13 = .ok (.iload_n 1, 1) := by decide +kernel
theorem dX10_saysOperand_14 : decode cX10_saysOperand 14 = .ok (.bipush 8, 2) := by decide +kernel
theorem dX10_saysOperand_16 : decode cX10_saysOperand 16 = .ok (.if_icmp .ge 7, 3) := by decide +kernel
theorem dX10_saysOperand_19 : decode cX10_saysOperand 19 = .ok (.iload_n 1, 1) := by decide +kernel
theorem dX10_saysOperand_20 : decode cX10_saysOperand 20 = .ok (.goto 7, 3) := by decide +kernel
theorem dX10_saysOperand_23 : decode cX10_saysOperand 23 = .ok (.iload_n 1, 1) := by decide +kernel
theorem dX10_saysOperand_24 : decode cX10_saysOperand 24 = .ok (.bipush 8, 2) := by decide +kernel
theorem dX10_saysOperand_26 : decode cX10_saysOperand 26 = .ok (.isub, 1) := by decide +kernel
theorem dX10_saysOperand_27 : decode cX10_saysOperand 27 = .ok (.invokevirtual 400, 3) := by decide +kernel
theorem dX10_saysOperand_30 : decode cX10_saysOperand 30 = .ok (.return_, 1) := by decide +kernel
set_option maxRecDepth 20000 in
theorem wp_X10_saysOperand (E : En) (d : Nat) (a1 : Int32) (h : Hp) (P : Hp → Prop) (t : ((8 : Int32) ≤ a1 → (((8 : Int32) ≤ a1 → (SpV E d MX10_saysNumber [.ref (eA E 63), .int (a1 - (8 : Int32))] h (fun h3 => P h3))) ∧ (¬ (8 : Int32) ≤ a1 → (SpV E d MX10_saysNumber [.ref (eA E 63), .int a1] h (fun h4 => P h4))))) ∧ (¬ (8 : Int32) ≤ a1 → (SpV E d MX10_says [.ref (eA E 63), .int (114 : Int32)] h (fun h5 => ((8 : Int32) ≤ a1 → (SpV E d MX10_saysNumber [.ref (eA E 63), .int (a1 - (8 : Int32))] h5 (fun h7 => P h7))) ∧ (¬ (8 : Int32) ≤ a1 → (SpV E d MX10_saysNumber [.ref (eA E 63), .int a1] h5 (fun h8 => P h8))))))) : SpV E (d + 1) MX10_saysOperand [.ref (eA E 63), .int a1] h P := by
  refine SpV.of (lv0 := [(0, .ref (eA E 63)), (1, .int a1)]) (by decide) (Nat.le_of_ble_eq_true rfl) rfl (fun g => ?_)
  refine r_iload_n (q := 1) dX10_saysOperand_0 rfl rfl ?_
  refine r_bipush (v := (8 : Int32)) dX10_saysOperand_1 rfl ?_
  refine r_icmp_ge (tgt := 12) dX10_saysOperand_3 (by decide) (fun q1 => ?_) (fun q1 => ?_)
  · have t := t.1 q1
    refine r_aload_n (q := 0) dX10_saysOperand_12 rfl rfl ?_
    refine r_iload_n (q := 1) dX10_saysOperand_13 rfl rfl ?_
    refine r_bipush (v := (8 : Int32)) dX10_saysOperand_14 rfl ?_
    refine r_icmp_ge (tgt := 23) dX10_saysOperand_16 (by decide) (fun q2 => ?_) (fun q2 => ?_)
    · have t := t.1 q2
      refine r_iload_n (q := 1) dX10_saysOperand_23 rfl rfl ?_
      refine r_bipush (v := (8 : Int32)) dX10_saysOperand_24 rfl ?_
      refine r_isub dX10_saysOperand_26 ?_
      refine r_cVV (c := 63) (As := [.int (a1 - (8 : Int32))]) dX10_saysOperand_27 mkX10_saysNumber lkX10_400 lay_63 rfl rfl rfl (by decide) rfl (Nat.le_of_ble_eq_true rfl) z00 t ?_
      intro h3 t
      exact r_vret dX10_saysOperand_30 rfl t
    · have t := t.2 q2
      refine r_iload_n (q := 1) dX10_saysOperand_19 rfl rfl ?_
      refine r_goto (tgt := 27) dX10_saysOperand_20 (by decide) ?_
      refine r_cVV (c := 63) (As := [.int a1]) dX10_saysOperand_27 mkX10_saysNumber lkX10_400 lay_63 rfl rfl rfl (by decide) rfl (Nat.le_of_ble_eq_true rfl) z00 t ?_
      intro h4 t
      exact r_vret dX10_saysOperand_30 rfl t
  · have t := t.2 q1
    refine r_aload_n (q := 0) dX10_saysOperand_6 rfl rfl ?_
    refine r_bipush (v := (114 : Int32)) dX10_saysOperand_7 rfl ?_
    refine r_cVV (c := 63) (As := [.int (114 : Int32)]) dX10_saysOperand_9 mkX10_says lkX10_397 lay_63 rfl rfl rfl (by decide) rfl (Nat.le_of_ble_eq_true rfl) z00 t ?_
    intro h5 t
    refine r_aload_n (q := 0) dX10_saysOperand_12 rfl rfl ?_
    refine r_iload_n (q := 1) dX10_saysOperand_13 rfl rfl ?_
    refine r_bipush (v := (8 : Int32)) dX10_saysOperand_14 rfl ?_
    refine r_icmp_ge (tgt := 23) dX10_saysOperand_16 (by decide) (fun q6 => ?_) (fun q6 => ?_)
    · have t := t.1 q6
      refine r_iload_n (q := 1) dX10_saysOperand_23 rfl rfl ?_
      refine r_bipush (v := (8 : Int32)) dX10_saysOperand_24 rfl ?_
      refine r_isub dX10_saysOperand_26 ?_
      refine r_cVV (c := 63) (As := [.int (a1 - (8 : Int32))]) dX10_saysOperand_27 mkX10_saysNumber lkX10_400 lay_63 rfl rfl rfl (by decide) rfl (Nat.le_of_ble_eq_true rfl) z00 t ?_
      intro h7 t
      exact r_vret dX10_saysOperand_30 rfl t
    · have t := t.2 q6
      refine r_iload_n (q := 1) dX10_saysOperand_19 rfl rfl ?_
      refine r_goto (tgt := 27) dX10_saysOperand_20 (by decide) ?_
      refine r_cVV (c := 63) (As := [.int a1]) dX10_saysOperand_27 mkX10_saysNumber lkX10_400 lay_63 rfl rfl rfl (by decide) rfl (Nat.le_of_ble_eq_true rfl) z00 t ?_
      intro h8 t
      exact r_vret dX10_saysOperand_30 rfl t
theorem dX10_write_0 : decode cX10_write 0 = .ok (.aload_n 0, 1) := by decide +kernel
theorem dX10_write_1 : decode cX10_write 1 = .ok (.iconst 0, 1) := by decide +kernel
theorem dX10_write_2 : decode cX10_write 2 = .ok (.putfield 118, 3) := by decide +kernel
theorem dX10_write_5 : decode cX10_write 5 = .ok (.aload_n 0, 1) := by decide +kernel
theorem dX10_write_6 : decode cX10_write 6 = .ok (.iconst 0, 1) := by decide +kernel
theorem dX10_write_7 : decode cX10_write 7 = .ok (.putfield 394, 3) := by decide +kernel
theorem dX10_write_10 : decode cX10_write 10 = .ok (.iconst 0, 1) := by decide +kernel
theorem dX10_write_11 : decode cX10_write 11 = .ok (.istore_n 1, 1) := by decide +kernel
theorem dX10_write_12 : decode cX10_write 12 = .ok (.iload_n 1, 1) := by decide +kernel
theorem dX10_write_13 : decode cX10_write 13 = .ok (.aload_n 0, 1) := by decide +kernel
theorem dX10_write_14 : decode cX10_write 14 = .ok (.getfield 144, 3) := by decide +kernel
theorem dX10_write_17 : decode cX10_write 17 = .ok (.if_icmp .ge 113, 3) := by decide +kernel
theorem dX10_write_20 : decode cX10_write 20 = .ok (.aload_n 0, 1) := by decide +kernel
theorem dX10_write_21 : decode cX10_write 21 = .ok (.ldc_w 403, 3) := by decide +kernel
theorem dX10_write_24 : decode cX10_write 24 = .ok (.invokevirtual 405, 3) := by decide +kernel
theorem dX10_write_27 : decode cX10_write 27 = .ok (.aload_n 0, 1) := by decide +kernel
theorem dX10_write_28 : decode cX10_write 28 = .ok (.iload_n 1, 1) := by decide +kernel
theorem dX10_write_29 : decode cX10_write 29 = .ok (.invokevirtual 409, 3) := by decide +kernel
theorem dX10_write_32 : decode cX10_write 32 = .ok (.aload_n 0, 1) := by decide +kernel
theorem dX10_write_33 : decode cX10_write 33 = .ok (.ldc_w 412, 3) := by decide +kernel
theorem dX10_write_36 : decode cX10_write 36 = .ok (.invokevirtual 405, 3) := by decide +kernel
theorem dX10_write_39 : decode cX10_write 39 = .ok (.aload_n 0, 1) := by decide +kernel
theorem dX10_write_40 : decode cX10_write 40 = .ok (.aload_n 0, 1) := by decide +kernel
theorem dX10_write_41 : decode cX10_write 41 = .ok (.iload_n 1, 1) := by decide +kernel
theorem dX10_write_42 : decode cX10_write 42 = .ok (.iconst 0, 1) := by decide +kernel
theorem dX10_write_43 : decode cX10_write 43 = .ok (.invokevirtual 132, 3) := by decide +kernel
theorem dX10_write_46 : decode cX10_write 46 = .ok (.invokevirtual 400, 3) := by decide +kernel
theorem dX10_write_49 : decode cX10_write 49 = .ok (.aload_n 0, 1) := by decide +kernel
theorem dX10_write_50 : decode cX10_write 50 = .ok (.bipush 32, 2) := by decide +kernel
theorem dX10_write_52 : decode cX10_write 52 = .ok (.invokevirtual 397, 3) := by decide +kernel
theorem dX10_write_55 : decode cX10_write 55 = .ok (.aload_n 0, 1) := by decide +kernel
theorem dX10_write_56 : decode cX10_write 56 = .ok (.aload_n 0, 1) := by decide +kernel
theorem dX10_write_57 : decode cX10_write 57 = .ok (.iload_n 1, 1) := by decide +kernel
theorem dX10_write_58 : decode cX10_write 58 = .ok (.iconst 1, 1) := by decide +kernel
theorem dX10_write_59 : decode cX10_write 59 = .ok (.invokevirtual 132, 3) := by decide +kernel
theorem dX10_write_62 : decode cX10_write 62 = .ok (.invokevirtual 414, 3) := by decide +kernel
theorem dX10_write_65 : decode cX10_write 65 = .ok (.aload_n 0, 1) := by decide +kernel
theorem dX10_write_66 : decode cX10_write 66 = .ok (.bipush 61, 2) := by decide +kernel
theorem dX10_write_68 : decode cX10_write 68 = .ok (.invokevirtual 397, 3) := by decide +kernel
theorem dX10_write_71 : decode cX10_write 71 = .ok (.aload_n 0, 1) := by decide +kernel
theorem dX10_write_72 : decode cX10_write 72 = .ok (.aload_n 0, 1) := by decide +kernel
theorem dX10_write_73 : decode cX10_write 73 = .ok (.iload_n 1, 1) := by decide +kernel
theorem dX10_write_74 : decode cX10_write 74 = .ok (.iconst 3, 1) := by decide +kernel
theorem dX10_write_75 : decode cX10_write 75 = .ok (.invokevirtual 132, 3) := by decide +kernel
theorem dX10_write_78 : decode cX10_write 78 = .ok (.invokevirtual 414, 3) := by decide +kernel
theorem dX10_write_81 : decode cX10_write 81 = .ok (.aload_n 0, 1) := by decide +kernel
theorem dX10_write_82 : decode cX10_write 82 = .ok (.iload_n 1, 1) := by decide +kernel
theorem dX10_write_83 : decode cX10_write 83 = .ok (.iconst 2, 1) := by decide +kernel
theorem dX10_write_84 : decode cX10_write 84 = .ok (.invokevirtual 132, 3) := by decide +kernel
theorem dX10_write_87 : decode cX10_write 87 = .ok (.ifCond .le 31, 3) := by decide +kernel
theorem dX10_write_90 : decode cX10_write 90 = .ok (.aload_n 0, 1) := by decide +kernel
theorem dX10_write_91 : decode cX10_write 91 = .ok (.ldc_w 417, 3) := by decide +kernel
theorem dX10_write_94 : decode cX10_write 94 = .ok (.aload_n 0, 1) := by decide +kernel
theorem dX10_write_95 : decode cX10_write 95 = .ok (.iload_n 1, 1) := by decide +kernel
theorem dX10_write_96 : decode cX10_write 96 = .ok (.iconst 2, 1) := by decide +kernel
theorem dX10_write_97 : decode cX10_write 97 = .ok (.invokevirtual 132, 3) := by decide +kernel
theorem dX10_write_100 : decode cX10_write 100 = .ok (.iconst 1, 1) := by decide +kernel
theorem dX10_write_101 : decode cX10_write 101 = .ok (.isub, 1) := by decide +kernel
theorem dX10_write_102 : decode cX10_write 102 = .ok (.invokevirtual 346, 3) := by decide +kernel
theorem dX10_write_105 : decode cX10_write 105 = .ok (.invokevirtual 397, 3) := by decide +kernel
theorem dX10_write_108 : decode cX10_write 108 = .ok (.aload_n 0, 1) := by decide +kernel
theorem dX10_write_109 : decode cX10_write 109 = .ok (.aload_n 0, 1) := by decide +kernel
theorem dX10_write_110 : decode cX10_write 110 = .ok (.iload_n 1, 1) := by decide +kernel
theorem dX10_write_111 : decode cX10_write 111 = .ok (.iconst 4, 1) := by decide +kernel
theorem dX10_write_112 : decode cX10_write 112 = .ok (.invokevirtual 132, 3) := by decide +kernel
theorem dX10_write_115 : decode cX10_write 115 = .ok (.invokevirtual 414, 3) := by decide +kernel
theorem dX10_write_118 : decode cX10_write 118 = .ok (.aload_n 0, 1) := by decide +kernel
theorem dX10_write_119 : decode cX10_write 119 = .ok (.bipush 59, 2) := by decide +kernel
theorem dX10_write_121 : decode cX10_write 121 = .ok (.invokevirtual 397, 3) := by decide +kernel
theorem dX10_write_124 : decode cX10_write 124 = .ok (.iinc 1 1, 3) := by decide +kernel
theorem dX10_write_127 : decode cX10_write 127 = .ok (.goto (-115), 3) := by decide +kernel
theorem dX10_write_130 : decode cX10_write 130 = .ok (.iconst 0, 1) := by decide +kernel
theorem dX10_write_131 : decode cX10_write 131 = .ok (.istore_n 1, 1) := by decide +kernel
theorem dX10_write_132 : decode cX10_write 132 = .ok (.iload_n 1, 1) := by decide +kernel
theorem dX10_write_133 : decode cX10_write 133 = .ok (.aload_n 0, 1) := by decide +kernel
theorem dX10_write_134 : decode cX10_write 134 = .ok (.getfield 121, 3) := by decide +kernel
theorem dX10_write_137 : decode cX10_write 137 = .ok (.if_icmp .ge 95, 3) := by decide +kernel
theorem dX10_write_140 : decode cX10_write 140 = .ok (.aload_n 0, 1) := by decide +kernel
theorem dX10_write_141 : decode cX10_write 141 = .ok (.ldc_w 419, 3) := by decide +kernel
theorem dX10_write_144 : decode cX10_write 144 = .ok (.invokevirtual 405, 3) := by decide +kernel
theorem dX10_write_147 : decode cX10_write 147 = .ok (.aload_n 0, 1) := by decide +kernel
theorem dX10_write_148 : decode cX10_write 148 = .ok (.bipush 12, 2) := by decide +kernel
theorem dX10_write_150 : decode cX10_write 150 = .ok (.iload_n 1, 1) := by decide +kernel
theorem dX10_write_151 : decode cX10_write 151 = .ok (.iadd, 1) := by decide +kernel
theorem dX10_write_152 : decode cX10_write 152 = .ok (.invokevirtual 409, 3) := by decide +kernel
theorem dX10_write_155 : decode cX10_write 155 = .ok (.aload_n 0, 1) := by decide +kernel
theorem dX10_write_156 : decode cX10_write 156 = .ok (.bipush 58, 2) := by decide +kernel
theorem dX10_write_158 : decode cX10_write 158 = .ok (.invokevirtual 397, 3) := by decide +kernel
theorem dX10_write_161 : decode cX10_write 161 = .ok (.iconst 0, 1) := by decide +kernel
theorem dX10_write_162 : decode cX10_write 162 = .ok (.istore_n 2, 1) := by decide +kernel
theorem dX10_write_163 : decode cX10_write 163 = .ok (.iload_n 2, 1) := by decide +kernel
theorem dX10_write_164 : decode cX10_write 164 = .ok (.aload_n 0, 1) := by decide +kernel
theorem dX10_write_165 : decode cX10_write 165 = .ok (.getfield 16, 3) := by decide +kernel
theorem dX10_write_168 : decode cX10_write 168 = .ok (.iload_n 1, 1) := by decide +kernel
theorem dX10_write_169 : decode cX10_write 169 = .ok (.iaload, 1) := by decide +kernel
theorem dX10_write_170 : decode cX10_write 170 = .ok (.if_icmp .ge 56, 3) := by decide +kernel
theorem dX10_write_173 : decode cX10_write 173 = .ok (.aload_n 0, 1) := by decide +kernel
theorem dX10_write_174 : decode cX10_write 174 = .ok (.aload_n 0, 1) := by decide +kernel
theorem dX10_write_175 : decode cX10_write 175 = .ok (.iload_n 1, 1) := by decide +kernel
theorem dX10_write_176 : decode cX10_write 176 = .ok (.iload_n 2, 1) := by decide +kernel
theorem dX10_write_177 : decode cX10_write 177 = .ok (.invokevirtual 150, 3) := by decide +kernel
theorem dX10_write_180 : decode cX10_write 180 = .ok (.invokevirtual 409, 3) := by decide +kernel
theorem dX10_write_183 : decode cX10_write 183 = .ok (.aload_n 0, 1) := by decide +kernel
theorem dX10_write_184 : decode cX10_write 184 = .ok (.iload_n 2, 1) := by decide +kernel
theorem dX10_write_185 : decode cX10_write 185 = .ok (.iconst 1, 1) := by decide +kernel
theorem dX10_write_186 : decode cX10_write 186 = .ok (.iadd, 1) := by decide +kernel
theorem dX10_write_187 : decode cX10_write 187 = .ok (.aload_n 0, 1) := by decide +kernel
theorem dX10_write_188 : decode cX10_write 188 = .ok (.getfield 16, 3) := by decide +kernel
theorem dX10_write_191 : decode cX10_write 191 = .ok (.iload_n 1, 1) := by decide +kernel
theorem dX10_write_192 : decode cX10_write 192 = .ok (.iaload, 1) := by decide +kernel
theorem dX10_write_193 : decode cX10_write 193 = .ok (.if_icmp .ne 8, 3) := by decide +kernel
theorem dX10_write_196 : decode cX10_write 196 = .ok (.bipush 59, 2) := by decide +kernel
theorem dX10_write_198 : decode cX10_write 198 = .ok (.goto 19, 3) := by decide +kernel
theorem dX10_write_201 : decode cX10_write 201 = .ok (.aload_n 0, 1) := by decide +kernel
theorem dX10_write_202 : decode cX10_write 202 = .ok (.iload_n 1, 1) := by decide +kernel
theorem dX10_write_203 : decode cX10_write 203 = .ok (.iload_n 2, 1) := by decide +kernel
theorem dX10_write_204 : decode cX10_write 204 = .ok (.invokevirtual 156, 3) := by decide +kernel
theorem dX10_write_207 : decode cX10_write 207 = .ok (.ifCond .eq 8, 3) := by decide +kernel
theorem dX10_write_210 : decode cX10_write 210 = .ok (.bipush 33, 2) := by decide +kernel
theorem dX10_write_212 : decode cX10_write 212 = .ok (.goto 5, 3) := by decide +kernel
theorem dX10_write_215 : decode cX10_write 215 = .ok (.bipush 44, 2) := by decide +kernel
theorem dX10_write_217 : decode cX10_write 217 = .ok (.invokevirtual 397, 3) := by decide +kernel
theorem dX10_write_220 : decode cX10_write 220 = .ok (.iinc 2 1, 3) := by decide +kernel
theorem dX10_write_223 : decode cX10_write 223 = .ok (.goto (-60), 3) := by decide +kernel
theorem dX10_write_226 : decode cX10_write 226 = .ok (.iinc 1 1, 3) := by decide +kernel
theorem dX10_write_229 : decode cX10_write 229 = .ok (.goto (-97), 3) := by decide +kernel
theorem dX10_write_232 : decode cX10_write 232 = .ok (.aload_n 0, 1) := by decide +kernel
theorem dX10_write_233 : decode cX10_write 233 = .ok (.getfield 394, 3) := by decide +kernel
theorem dX10_write_236 : decode cX10_write 236 = .ok (.ireturn, 1) := by decide +kernel
abbrev VX10_write_12 (E : En) (d : Nat) (g : Ga) (P : Int32 → Hp → Prop) (x1 : Int32) (h : Hp) : Prop := V E MX10_write (RM (d + 1) 0) g (QQ E g (QI E P) 0 0) 0 0 h 12 [(0, .ref (eA E 63)), (1, .int x1)] []
abbrev VX10_write_132 (E : En) (d : Nat) (g : Ga) (P : Int32 → Hp → Prop) (x1 : Int32) (h : Hp) : Prop := V E MX10_write (RM (d + 1) 0) g (QQ E g (QI E P) 0 0) 0 0 h 132 [(0, .ref (eA E 63)), (1, .int x1)] []
abbrev VX10_write_163 (E : En) (d : Nat) (g : Ga) (P : Int32 → Hp → Prop) (x1 : Int32) (x2 : Int32) (h : Hp) : Prop := V E MX10_write (RM (d + 1) 0) g (QQ E g (QI E P) 0 0) 0 0 h 163 [(0, .ref (eA E 63)), (1, .int x1), (2, .int x2)] []
set_option maxRecDepth 20000 in
theorem wp_X10_write (E : En) (d : Nat) (h : Hp) (P : Int32 → Hp → Prop) (t : ∀ g : Ga, VX10_write_12 E d g P (0 : Int32) (sI (sI h 63 0 (0 : Int32)) 63 43 (0 : Int32))) : SpI E (d + 1) MX10_write [.ref (eA E 63)] h P := by
  refine SpI.of (lv0 := [(0, .ref (eA E 63))]) (by decide) (Nat.le_of_ble_eq_true rfl) rfl (fun g => ?_)
  have t := t g
  refine r_aload_n (q := 0) dX10_write_0 rfl rfl ?_
  refine r_iconst (v := (0 : Int32)) dX10_write_1 rfl ?_
  refine r_putI (c := 63) dX10_write_2 flX10_118 lay_63 rfl ?_
  refine r_aload_n (q := 0) dX10_write_5 rfl rfl ?_
  refine r_iconst (v := (0 : Int32)) dX10_write_6 rfl ?_
  refine r_putI (c := 63) dX10_write_7 flX10_394 lay_63 rfl ?_
  refine r_iconst (v := (0 : Int32)) dX10_write_10 rfl ?_
  refine r_istore_n (lv' := [(1, .int (0 : Int32)), (0, .ref (eA E 63))]) dX10_write_11 rfl (by decide) rfl ?_
  refine r_sub [1, 0] rfl ?_
  exact t
set_option maxRecDepth 20000 in
theorem sg_X10_write_12 (E : En) (d : Nat) (g : Ga) (x1 : Int32) (h : Hp) (P : Int32 → Hp → Prop) (t : ((h.1 63 1) ≤ x1 → (VX10_write_132 E d g P (0 : Int32) h)) ∧ (¬ (h.1 63 1) ≤ x1 → (SpV E d MX10_saysWord [.ref (eA E 63), .ref (eK E 2)] h (fun h2 => SpV E d MX10_saysName [.ref (eA E 63), .int x1] h2 (fun h3 => SpV E d MX10_saysWord [.ref (eA E 63), .ref (eK E 3)] h3 (fun h4 => SpI E d MX10_of [.ref (eA E 63), .int x1, .int (0 : Int32)] h4 (fun v5 h5 => SpV E d MX10_saysNumber [.ref (eA E 63), .int v5] h5 (fun h6 => SpV E d MX10_says [.ref (eA E 63), .int (32 : Int32)] h6 (fun h7 => SpI E d MX10_of [.ref (eA E 63), .int x1, .int (1 : Int32)] h7 (fun v8 h8 => SpV E d MX10_saysOperand [.ref (eA E 63), .int v8] h8 (fun h9 => SpV E d MX10_says [.ref (eA E 63), .int (61 : Int32)] h9 (fun h10 => SpI E d MX10_of [.ref (eA E 63), .int x1, .int (3 : Int32)] h10 (fun v11 h11 => SpV E d MX10_saysOperand [.ref (eA E 63), .int v11] h11 (fun h12 => SpI E d MX10_of [.ref (eA E 63), .int x1, .int (2 : Int32)] h12 (fun v13 h13 => (v13 ≤ 0 → (SpV E d MX10_says [.ref (eA E 63), .int (59 : Int32)] h13 (fun h15 => VX10_write_12 E d g P (x1 + (1 : Int32)) h15))) ∧ (¬ v13 ≤ 0 → (SpI E d MX10_of [.ref (eA E 63), .int x1, .int (2 : Int32)] h13 (fun v16 h16 => SpI E d MJ0_charAt_5068e [.ref (eK E 1), .int (v16 - (1 : Int32))] h16 (fun v17 h17 => SpV E d MX10_says [.ref (eA E 63), .int v17] h17 (fun h18 => SpI E d MX10_of [.ref (eA E 63), .int x1, .int (4 : Int32)] h18 (fun v19 h19 => SpV E d MX10_saysOperand [.ref (eA E 63), .int v19] h19 (fun h20 => SpV E d MX10_says [.ref (eA E 63), .int (59 : Int32)] h20 (fun h21 => VX10_write_12 E d g P (x1 + (1 : Int32)) h21))))))))))))))))))))))) : VX10_write_12 E d g P x1 h := by
  refine r_iload_n (q := 1) dX10_write_12 rfl rfl ?_
  refine r_aload_n (q := 0) dX10_write_13 rfl rfl ?_
  refine r_getI (c := 63) dX10_write_14 flX10_144 lay_63 rfl ?_
  refine r_icmp_ge (tgt := 130) dX10_write_17 (by decide) (fun q1 => ?_) (fun q1 => ?_)
  · have t := t.1 q1
    refine r_iconst (v := (0 : Int32)) dX10_write_130 rfl ?_
    refine r_istore_n (lv' := [(1, .int (0 : Int32)), (0, .ref (eA E 63))]) dX10_write_131 rfl (by decide) rfl ?_
    refine r_sub [1, 0] rfl ?_
    exact t
  · have t := t.2 q1
    refine r_aload_n (q := 0) dX10_write_20 rfl rfl ?_
    refine r_ldcSw (i := 2) (tx := "op ") dX10_write_21 (by decide) ?_
    refine r_cVV (c := 63) (As := [.ref (eK E 2)]) dX10_write_24 mkX10_saysWord lkX10_405 lay_63 rfl rfl rfl (by decide) rfl (Nat.le_of_ble_eq_true rfl) z00 t ?_
    intro h2 t
    refine r_aload_n (q := 0) dX10_write_27 rfl rfl ?_
    refine r_iload_n (q := 1) dX10_write_28 rfl rfl ?_
    refine r_cVV (c := 63) (As := [.int x1]) dX10_write_29 mkX10_saysName lkX10_409 lay_63 rfl rfl rfl (by decide) rfl (Nat.le_of_ble_eq_true rfl) z00 t ?_
    intro h3 t
    refine r_aload_n (q := 0) dX10_write_32 rfl rfl ?_
    refine r_ldcSw (i := 3) (tx := " unit ") dX10_write_33 (by decide) ?_
    refine r_cVV (c := 63) (As := [.ref (eK E 3)]) dX10_write_36 mkX10_saysWord lkX10_405 lay_63 rfl rfl rfl (by decide) rfl (Nat.le_of_ble_eq_true rfl) z00 t ?_
    intro h4 t
    refine r_aload_n (q := 0) dX10_write_39 rfl rfl ?_
    refine r_aload_n (q := 0) dX10_write_40 rfl rfl ?_
    refine r_iload_n (q := 1) dX10_write_41 rfl rfl ?_
    refine r_iconst (v := (0 : Int32)) dX10_write_42 rfl ?_
    refine r_cVI (c := 63) (As := [.int x1, .int (0 : Int32)]) dX10_write_43 mkX10_of lkX10_132 lay_63 rfl rfl rfl (by decide) rfl (Nat.le_of_ble_eq_true rfl) z00 t ?_
    intro v5 h5 t
    refine r_cVV (c := 63) (As := [.int v5]) dX10_write_46 mkX10_saysNumber lkX10_400 lay_63 rfl rfl rfl (by decide) rfl (Nat.le_of_ble_eq_true rfl) z00 t ?_
    intro h6 t
    refine r_aload_n (q := 0) dX10_write_49 rfl rfl ?_
    refine r_bipush (v := (32 : Int32)) dX10_write_50 rfl ?_
    refine r_cVV (c := 63) (As := [.int (32 : Int32)]) dX10_write_52 mkX10_says lkX10_397 lay_63 rfl rfl rfl (by decide) rfl (Nat.le_of_ble_eq_true rfl) z00 t ?_
    intro h7 t
    refine r_aload_n (q := 0) dX10_write_55 rfl rfl ?_
    refine r_aload_n (q := 0) dX10_write_56 rfl rfl ?_
    refine r_iload_n (q := 1) dX10_write_57 rfl rfl ?_
    refine r_iconst (v := (1 : Int32)) dX10_write_58 rfl ?_
    refine r_cVI (c := 63) (As := [.int x1, .int (1 : Int32)]) dX10_write_59 mkX10_of lkX10_132 lay_63 rfl rfl rfl (by decide) rfl (Nat.le_of_ble_eq_true rfl) z00 t ?_
    intro v8 h8 t
    refine r_cVV (c := 63) (As := [.int v8]) dX10_write_62 mkX10_saysOperand lkX10_414 lay_63 rfl rfl rfl (by decide) rfl (Nat.le_of_ble_eq_true rfl) z00 t ?_
    intro h9 t
    refine r_aload_n (q := 0) dX10_write_65 rfl rfl ?_
    refine r_bipush (v := (61 : Int32)) dX10_write_66 rfl ?_
    refine r_cVV (c := 63) (As := [.int (61 : Int32)]) dX10_write_68 mkX10_says lkX10_397 lay_63 rfl rfl rfl (by decide) rfl (Nat.le_of_ble_eq_true rfl) z00 t ?_
    intro h10 t
    refine r_aload_n (q := 0) dX10_write_71 rfl rfl ?_
    refine r_aload_n (q := 0) dX10_write_72 rfl rfl ?_
    refine r_iload_n (q := 1) dX10_write_73 rfl rfl ?_
    refine r_iconst (v := (3 : Int32)) dX10_write_74 rfl ?_
    refine r_cVI (c := 63) (As := [.int x1, .int (3 : Int32)]) dX10_write_75 mkX10_of lkX10_132 lay_63 rfl rfl rfl (by decide) rfl (Nat.le_of_ble_eq_true rfl) z00 t ?_
    intro v11 h11 t
    refine r_cVV (c := 63) (As := [.int v11]) dX10_write_78 mkX10_saysOperand lkX10_414 lay_63 rfl rfl rfl (by decide) rfl (Nat.le_of_ble_eq_true rfl) z00 t ?_
    intro h12 t
    refine r_aload_n (q := 0) dX10_write_81 rfl rfl ?_
    refine r_iload_n (q := 1) dX10_write_82 rfl rfl ?_
    refine r_iconst (v := (2 : Int32)) dX10_write_83 rfl ?_
    refine r_cVI (c := 63) (As := [.int x1, .int (2 : Int32)]) dX10_write_84 mkX10_of lkX10_132 lay_63 rfl rfl rfl (by decide) rfl (Nat.le_of_ble_eq_true rfl) z00 t ?_
    intro v13 h13 t
    refine r_if_le (tgt := 118) dX10_write_87 (by decide) (fun q14 => ?_) (fun q14 => ?_)
    · have t := t.1 q14
      refine r_aload_n (q := 0) dX10_write_118 rfl rfl ?_
      refine r_bipush (v := (59 : Int32)) dX10_write_119 rfl ?_
      refine r_cVV (c := 63) (As := [.int (59 : Int32)]) dX10_write_121 mkX10_says lkX10_397 lay_63 rfl rfl rfl (by decide) rfl (Nat.le_of_ble_eq_true rfl) z00 t ?_
      intro h15 t
      refine r_iinc (k := 1) (v := x1 + (1 : Int32)) (lv' := [(1, .int (x1 + (1 : Int32))), (0, .ref (eA E 63))]) dX10_write_124 rfl rfl (by decide) rfl ?_
      refine r_goto (tgt := 12) dX10_write_127 (by decide) ?_
      refine r_sub [1, 0] rfl ?_
      exact t
    · have t := t.2 q14
      refine r_aload_n (q := 0) dX10_write_90 rfl rfl ?_
      refine r_ldcSw (i := 1) (tx := "+-*&|^") dX10_write_91 (by decide) ?_
      refine r_aload_n (q := 0) dX10_write_94 rfl rfl ?_
      refine r_iload_n (q := 1) dX10_write_95 rfl rfl ?_
      refine r_iconst (v := (2 : Int32)) dX10_write_96 rfl ?_
      refine r_cVI (c := 63) (As := [.int x1, .int (2 : Int32)]) dX10_write_97 mkX10_of lkX10_132 lay_63 rfl rfl rfl (by decide) rfl (Nat.le_of_ble_eq_true rfl) z00 t ?_
      intro v16 h16 t
      refine r_iconst (v := (1 : Int32)) dX10_write_100 rfl ?_
      refine r_isub dX10_write_101 ?_
      refine r_kVI (i := 1) (As := [.int (v16 - (1 : Int32))]) dX10_write_102 mkJ0_charAt_5068e lkX10_346 (by decide) rfl (by decide) rfl (Nat.le_of_ble_eq_true rfl) z00 rfl t ?_
      intro v17 h17 t
      refine r_cVV (c := 63) (As := [.int v17]) dX10_write_105 mkX10_says lkX10_397 lay_63 rfl rfl rfl (by decide) rfl (Nat.le_of_ble_eq_true rfl) z00 t ?_
      intro h18 t
      refine r_aload_n (q := 0) dX10_write_108 rfl rfl ?_
      refine r_aload_n (q := 0) dX10_write_109 rfl rfl ?_
      refine r_iload_n (q := 1) dX10_write_110 rfl rfl ?_
      refine r_iconst (v := (4 : Int32)) dX10_write_111 rfl ?_
      refine r_cVI (c := 63) (As := [.int x1, .int (4 : Int32)]) dX10_write_112 mkX10_of lkX10_132 lay_63 rfl rfl rfl (by decide) rfl (Nat.le_of_ble_eq_true rfl) z00 t ?_
      intro v19 h19 t
      refine r_cVV (c := 63) (As := [.int v19]) dX10_write_115 mkX10_saysOperand lkX10_414 lay_63 rfl rfl rfl (by decide) rfl (Nat.le_of_ble_eq_true rfl) z00 t ?_
      intro h20 t
      refine r_aload_n (q := 0) dX10_write_118 rfl rfl ?_
      refine r_bipush (v := (59 : Int32)) dX10_write_119 rfl ?_
      refine r_cVV (c := 63) (As := [.int (59 : Int32)]) dX10_write_121 mkX10_says lkX10_397 lay_63 rfl rfl rfl (by decide) rfl (Nat.le_of_ble_eq_true rfl) z00 t ?_
      intro h21 t
      refine r_iinc (k := 1) (v := x1 + (1 : Int32)) (lv' := [(1, .int (x1 + (1 : Int32))), (0, .ref (eA E 63))]) dX10_write_124 rfl rfl (by decide) rfl ?_
      refine r_goto (tgt := 12) dX10_write_127 (by decide) ?_
      refine r_sub [1, 0] rfl ?_
      exact t
set_option maxRecDepth 20000 in
theorem sg_X10_write_132 (E : En) (d : Nat) (g : Ga) (x1 : Int32) (h : Hp) (P : Int32 → Hp → Prop) (t : ((h.1 63 2) ≤ x1 → (P (h.1 63 43) h)) ∧ (¬ (h.1 63 2) ≤ x1 → (SpV E d MX10_saysWord [.ref (eA E 63), .ref (eK E 4)] h (fun h2 => SpV E d MX10_saysName [.ref (eA E 63), .int ((12 : Int32) + x1)] h2 (fun h3 => SpV E d MX10_says [.ref (eA E 63), .int (58 : Int32)] h3 (fun h4 => VX10_write_163 E d g P x1 (0 : Int32) h4)))))) : VX10_write_132 E d g P x1 h := by
  refine r_iload_n (q := 1) dX10_write_132 rfl rfl ?_
  refine r_aload_n (q := 0) dX10_write_133 rfl rfl ?_
  refine r_getI (c := 63) dX10_write_134 flX10_121 lay_63 rfl ?_
  refine r_icmp_ge (tgt := 232) dX10_write_137 (by decide) (fun q1 => ?_) (fun q1 => ?_)
  · have t := t.1 q1
    refine r_aload_n (q := 0) dX10_write_232 rfl rfl ?_
    refine r_getI (c := 63) dX10_write_233 flX10_394 lay_63 rfl ?_
    exact r_iret dX10_write_236 rfl t
  · have t := t.2 q1
    refine r_aload_n (q := 0) dX10_write_140 rfl rfl ?_
    refine r_ldcSw (i := 4) (tx := "instr ") dX10_write_141 (by decide) ?_
    refine r_cVV (c := 63) (As := [.ref (eK E 4)]) dX10_write_144 mkX10_saysWord lkX10_405 lay_63 rfl rfl rfl (by decide) rfl (Nat.le_of_ble_eq_true rfl) z00 t ?_
    intro h2 t
    refine r_aload_n (q := 0) dX10_write_147 rfl rfl ?_
    refine r_bipush (v := (12 : Int32)) dX10_write_148 rfl ?_
    refine r_iload_n (q := 1) dX10_write_150 rfl rfl ?_
    refine r_iadd dX10_write_151 ?_
    refine r_cVV (c := 63) (As := [.int ((12 : Int32) + x1)]) dX10_write_152 mkX10_saysName lkX10_409 lay_63 rfl rfl rfl (by decide) rfl (Nat.le_of_ble_eq_true rfl) z00 t ?_
    intro h3 t
    refine r_aload_n (q := 0) dX10_write_155 rfl rfl ?_
    refine r_bipush (v := (58 : Int32)) dX10_write_156 rfl ?_
    refine r_cVV (c := 63) (As := [.int (58 : Int32)]) dX10_write_158 mkX10_says lkX10_397 lay_63 rfl rfl rfl (by decide) rfl (Nat.le_of_ble_eq_true rfl) z00 t ?_
    intro h4 t
    refine r_iconst (v := (0 : Int32)) dX10_write_161 rfl ?_
    refine r_istore_n (lv' := [(2, .int (0 : Int32)), (0, .ref (eA E 63)), (1, .int x1)]) dX10_write_162 rfl (by decide) rfl ?_
    refine r_sub [1, 2, 0] rfl ?_
    exact t
set_option maxRecDepth 20000 in
theorem sg_X10_write_163 (E : En) (d : Nat) (g : Ga) (x1 : Int32) (x2 : Int32) (h : Hp) (P : Int32 → Hp → Prop) (t : vp_in x1 8 ∧ (((h.1 66 x1.toNatClampNeg) ≤ x2 → (VX10_write_132 E d g P (x1 + (1 : Int32)) h)) ∧ (¬ (h.1 66 x1.toNatClampNeg) ≤ x2 → (SpI E d MX10_at [.ref (eA E 63), .int x1, .int x2] h (fun v3 h3 => SpV E d MX10_saysName [.ref (eA E 63), .int v3] h3 (fun h4 => vp_in x1 8 ∧ ((¬ (x2 + (1 : Int32)) = (h4.1 66 x1.toNatClampNeg) → (SpI E d MX10_isMarked [.ref (eA E 63), .int x1, .int x2] h4 (fun v7 h7 => (v7 = 0 → (SpV E d MX10_says [.ref (eA E 63), .int (44 : Int32)] h7 (fun h9 => VX10_write_163 E d g P x1 (x2 + (1 : Int32)) h9))) ∧ (¬ v7 = 0 → (SpV E d MX10_says [.ref (eA E 63), .int (33 : Int32)] h7 (fun h10 => VX10_write_163 E d g P x1 (x2 + (1 : Int32)) h10)))))) ∧ ((x2 + (1 : Int32)) = (h4.1 66 x1.toNatClampNeg) → (SpV E d MX10_says [.ref (eA E 63), .int (59 : Int32)] h4 (fun h11 => VX10_write_163 E d g P x1 (x2 + (1 : Int32)) h11)))))))))) : VX10_write_163 E d g P x1 x2 h := by
  refine r_iload_n (q := 2) dX10_write_163 rfl rfl ?_
  refine r_aload_n (q := 0) dX10_write_164 rfl rfl ?_
  refine r_getR (c := 63) (c2 := 66) dX10_write_165 flX10_16 lay_63 rfl ?_
  refine r_iload_n (q := 1) dX10_write_168 rfl rfl ?_
  obtain ⟨c1, t⟩ := t
  refine r_iald (c := 66) dX10_write_169 lay_66 c1 ?_
  refine r_icmp_ge (tgt := 226) dX10_write_170 (by decide) (fun q2 => ?_) (fun q2 => ?_)
  · have t := t.1 q2
    refine r_iinc (k := 1) (v := x1 + (1 : Int32)) (lv' := [(1, .int (x1 + (1 : Int32))), (0, .ref (eA E 63)), (2, .int x2)]) dX10_write_226 rfl rfl (by decide) rfl ?_
    refine r_goto (tgt := 132) dX10_write_229 (by decide) ?_
    refine r_sub [1, 0] rfl ?_
    exact t
  · have t := t.2 q2
    refine r_aload_n (q := 0) dX10_write_173 rfl rfl ?_
    refine r_aload_n (q := 0) dX10_write_174 rfl rfl ?_
    refine r_iload_n (q := 1) dX10_write_175 rfl rfl ?_
    refine r_iload_n (q := 2) dX10_write_176 rfl rfl ?_
    refine r_cVI (c := 63) (As := [.int x1, .int x2]) dX10_write_177 mkX10_at lkX10_150 lay_63 rfl rfl rfl (by decide) rfl (Nat.le_of_ble_eq_true rfl) z00 t ?_
    intro v3 h3 t
    refine r_cVV (c := 63) (As := [.int v3]) dX10_write_180 mkX10_saysName lkX10_409 lay_63 rfl rfl rfl (by decide) rfl (Nat.le_of_ble_eq_true rfl) z00 t ?_
    intro h4 t
    refine r_aload_n (q := 0) dX10_write_183 rfl rfl ?_
    refine r_iload_n (q := 2) dX10_write_184 rfl rfl ?_
    refine r_iconst (v := (1 : Int32)) dX10_write_185 rfl ?_
    refine r_iadd dX10_write_186 ?_
    refine r_aload_n (q := 0) dX10_write_187 rfl rfl ?_
    refine r_getR (c := 63) (c2 := 66) dX10_write_188 flX10_16 lay_63 rfl ?_
    refine r_iload_n (q := 1) dX10_write_191 rfl rfl ?_
    obtain ⟨c5, t⟩ := t
    refine r_iald (c := 66) dX10_write_192 lay_66 c5 ?_
    refine r_icmp_ne (tgt := 201) dX10_write_193 (by decide) (fun q6 => ?_) (fun q6 => ?_)
    · have t := t.1 q6
      refine r_aload_n (q := 0) dX10_write_201 rfl rfl ?_
      refine r_iload_n (q := 1) dX10_write_202 rfl rfl ?_
      refine r_iload_n (q := 2) dX10_write_203 rfl rfl ?_
      refine r_cVI (c := 63) (As := [.int x1, .int x2]) dX10_write_204 mkX10_isMarked lkX10_156 lay_63 rfl rfl rfl (by decide) rfl (Nat.le_of_ble_eq_true rfl) z00 t ?_
      intro v7 h7 t
      refine r_if_eq (tgt := 215) dX10_write_207 (by decide) (fun q8 => ?_) (fun q8 => ?_)
      · have t := t.1 q8
        refine r_bipush (v := (44 : Int32)) dX10_write_215 rfl ?_
        refine r_cVV (c := 63) (As := [.int (44 : Int32)]) dX10_write_217 mkX10_says lkX10_397 lay_63 rfl rfl rfl (by decide) rfl (Nat.le_of_ble_eq_true rfl) z00 t ?_
        intro h9 t
        refine r_iinc (k := 2) (v := x2 + (1 : Int32)) (lv' := [(2, .int (x2 + (1 : Int32))), (0, .ref (eA E 63)), (1, .int x1)]) dX10_write_220 rfl rfl (by decide) rfl ?_
        refine r_goto (tgt := 163) dX10_write_223 (by decide) ?_
        refine r_sub [1, 2, 0] rfl ?_
        exact t
      · have t := t.2 q8
        refine r_bipush (v := (33 : Int32)) dX10_write_210 rfl ?_
        refine r_goto (tgt := 217) dX10_write_212 (by decide) ?_
        refine r_cVV (c := 63) (As := [.int (33 : Int32)]) dX10_write_217 mkX10_says lkX10_397 lay_63 rfl rfl rfl (by decide) rfl (Nat.le_of_ble_eq_true rfl) z00 t ?_
        intro h10 t
        refine r_iinc (k := 2) (v := x2 + (1 : Int32)) (lv' := [(2, .int (x2 + (1 : Int32))), (0, .ref (eA E 63)), (1, .int x1)]) dX10_write_220 rfl rfl (by decide) rfl ?_
        refine r_goto (tgt := 163) dX10_write_223 (by decide) ?_
        refine r_sub [1, 2, 0] rfl ?_
        exact t
    · have t := t.2 q6
      refine r_bipush (v := (59 : Int32)) dX10_write_196 rfl ?_
      refine r_goto (tgt := 217) dX10_write_198 (by decide) ?_
      refine r_cVV (c := 63) (As := [.int (59 : Int32)]) dX10_write_217 mkX10_says lkX10_397 lay_63 rfl rfl rfl (by decide) rfl (Nat.le_of_ble_eq_true rfl) z00 t ?_
      intro h11 t
      refine r_iinc (k := 2) (v := x2 + (1 : Int32)) (lv' := [(2, .int (x2 + (1 : Int32))), (0, .ref (eA E 63)), (1, .int x1)]) dX10_write_220 rfl rfl (by decide) rfl ?_
      refine r_goto (tgt := 163) dX10_write_223 (by decide) ?_
      refine r_sub [1, 2, 0] rfl ?_
      exact t
theorem dX10_outputByte_0 : decode cX10_outputByte 0 = .ok (.aload_n 0, 1) := by decide +kernel
theorem dX10_outputByte_1 : decode cX10_outputByte 1 = .ok (.iload_n 1, 1) := by decide +kernel
theorem dX10_outputByte_2 : decode cX10_outputByte 2 = .ok (.iconst 0, 1) := by decide +kernel
theorem dX10_outputByte_3 : decode cX10_outputByte 3 = .ok (.aload_n 0, 1) := by decide +kernel
theorem dX10_outputByte_4 : decode cX10_outputByte 4 = .ok (.getfield 394, 3) := by decide +kernel
theorem dX10_outputByte_7 : decode cX10_outputByte 7 = .ok (.iconst 1, 1) := by decide +kernel
theorem dX10_outputByte_8 : decode cX10_outputByte 8 = .ok (.isub, 1) := by decide +kernel
theorem dX10_outputByte_9 : decode cX10_outputByte 9 = .ok (.invokestatic 124, 3) := by decide +kernel
theorem dX10_outputByte_12 : decode cX10_outputByte 12 = .ok (.ifCond .eq 7, 3) := by decide +kernel
theorem dX10_outputByte_15 : decode cX10_outputByte 15 = .ok (.iconst 0, 1) := by decide +kernel
theorem dX10_outputByte_16 : decode cX10_outputByte 16 = .ok (.goto 4, 3) := by decide +kernel
theorem dX10_outputByte_19 : decode cX10_outputByte 19 = .ok (.iconst 1, 1) := by decide +kernel
theorem dX10_outputByte_20 : decode cX10_outputByte 20 = .ok (.invokevirtual 147, 3) := by decide +kernel
theorem dX10_outputByte_23 : decode cX10_outputByte 23 = .ok (.ifCond .eq 7, 3) := by decide +kernel
theorem dX10_outputByte_26 : decode cX10_outputByte 26 = .ok (.iconst 0, 1) := by decide +kernel
theorem dX10_outputByte_27 : decode cX10_outputByte 27 = .ok (.goto 9, 3) := by decide +kernel
theorem dX10_outputByte_30 : decode cX10_outputByte 30 = .ok (.aload_n 0, 1) := by decide +kernel
theorem dX10_outputByte_31 : decode cX10_outputByte 31 = .ok (.getfield 100, 3) := by decide +kernel
theorem dX10_outputByte_34 : decode cX10_outputByte 34 = .ok (.iload_n 1, 1) := by decide +kernel
theorem dX10_outputByte_35 : decode cX10_outputByte 35 = .ok (.baload, 1) := by decide +kernel
theorem dX10_outputByte_36 : decode cX10_outputByte 36 = .ok (.ireturn, 1) := by decide +kernel
set_option maxRecDepth 20000 in
theorem wp_X10_outputByte (E : En) (d : Nat) (a1 : Int32) (h : Hp) (P : Int32 → Hp → Prop) (t : SpI E d MX10_isIn [.int a1, .int (0 : Int32), .int ((h.1 63 43) - (1 : Int32))] h (fun v1 h1 => (v1 = 0 → (SpI E d MX10_throwsAs [.ref (eA E 63), .int (1 : Int32)] h1 (fun v3 h3 => (v3 = 0 → (vp_in a1 3000 ∧ (P (h3.1 92 a1.toNatClampNeg) h3))) ∧ (¬ v3 = 0 → (P (0 : Int32) h3))))) ∧ (¬ v1 = 0 → (SpI E d MX10_throwsAs [.ref (eA E 63), .int (0 : Int32)] h1 (fun v6 h6 => (v6 = 0 → (vp_in a1 3000 ∧ (P (h6.1 92 a1.toNatClampNeg) h6))) ∧ (¬ v6 = 0 → (P (0 : Int32) h6))))))) : SpI E (d + 1) MX10_outputByte [.ref (eA E 63), .int a1] h P := by
  refine SpI.of (lv0 := [(0, .ref (eA E 63)), (1, .int a1)]) (by decide) (Nat.le_of_ble_eq_true rfl) rfl (fun g => ?_)
  refine r_aload_n (q := 0) dX10_outputByte_0 rfl rfl ?_
  refine r_iload_n (q := 1) dX10_outputByte_1 rfl rfl ?_
  refine r_iconst (v := (0 : Int32)) dX10_outputByte_2 rfl ?_
  refine r_aload_n (q := 0) dX10_outputByte_3 rfl rfl ?_
  refine r_getI (c := 63) dX10_outputByte_4 flX10_394 lay_63 rfl ?_
  refine r_iconst (v := (1 : Int32)) dX10_outputByte_7 rfl ?_
  refine r_isub dX10_outputByte_8 ?_
  refine r_cSI (As := [.int a1, .int (0 : Int32), .int ((h.1 63 43) - (1 : Int32))]) dX10_outputByte_9 mkX10_isIn lkX10_124 rfl (by decide) rfl (Nat.le_of_ble_eq_true rfl) z00 t ?_
  intro v1 h1 t
  refine r_if_eq (tgt := 19) dX10_outputByte_12 (by decide) (fun q2 => ?_) (fun q2 => ?_)
  · have t := t.1 q2
    refine r_iconst (v := (1 : Int32)) dX10_outputByte_19 rfl ?_
    refine r_cVI (c := 63) (As := [.int (1 : Int32)]) dX10_outputByte_20 mkX10_throwsAs lkX10_147 lay_63 rfl rfl rfl (by decide) rfl (Nat.le_of_ble_eq_true rfl) z00 t ?_
    intro v3 h3 t
    refine r_if_eq (tgt := 30) dX10_outputByte_23 (by decide) (fun q4 => ?_) (fun q4 => ?_)
    · have t := t.1 q4
      refine r_aload_n (q := 0) dX10_outputByte_30 rfl rfl ?_
      refine r_getR (c := 63) (c2 := 92) dX10_outputByte_31 flX10_100 lay_63 rfl ?_
      refine r_iload_n (q := 1) dX10_outputByte_34 rfl rfl ?_
      obtain ⟨c5, t⟩ := t
      refine r_bald (c := 92) dX10_outputByte_35 lay_92 c5 ?_
      exact r_iret dX10_outputByte_36 rfl t
    · have t := t.2 q4
      refine r_iconst (v := (0 : Int32)) dX10_outputByte_26 rfl ?_
      refine r_goto (tgt := 36) dX10_outputByte_27 (by decide) ?_
      exact r_iret dX10_outputByte_36 rfl t
  · have t := t.2 q2
    refine r_iconst (v := (0 : Int32)) dX10_outputByte_15 rfl ?_
    refine r_goto (tgt := 20) dX10_outputByte_16 (by decide) ?_
    refine r_cVI (c := 63) (As := [.int (0 : Int32)]) dX10_outputByte_20 mkX10_throwsAs lkX10_147 lay_63 rfl rfl rfl (by decide) rfl (Nat.le_of_ble_eq_true rfl) z00 t ?_
    intro v6 h6 t
    refine r_if_eq (tgt := 30) dX10_outputByte_23 (by decide) (fun q7 => ?_) (fun q7 => ?_)
    · have t := t.1 q7
      refine r_aload_n (q := 0) dX10_outputByte_30 rfl rfl ?_
      refine r_getR (c := 63) (c2 := 92) dX10_outputByte_31 flX10_100 lay_63 rfl ?_
      refine r_iload_n (q := 1) dX10_outputByte_34 rfl rfl ?_
      obtain ⟨c8, t⟩ := t
      refine r_bald (c := 92) dX10_outputByte_35 lay_92 c8 ?_
      exact r_iret dX10_outputByte_36 rfl t
    · have t := t.2 q7
      refine r_iconst (v := (0 : Int32)) dX10_outputByte_26 rfl ?_
      refine r_goto (tgt := 36) dX10_outputByte_27 (by decide) ?_
      exact r_iret dX10_outputByte_36 rfl t
