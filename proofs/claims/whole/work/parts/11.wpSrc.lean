theorem dX6_operationNamed_0 : decode cX6_operationNamed 0 = .ok (.lload_n 1, 1) := by decide +kernel
theorem dX6_operationNamed_1 : decode cX6_operationNamed 1 = .ok (.aload_n 0, 1) := by decide +kernel
theorem dX6_operationNamed_2 : decode cX6_operationNamed 2 = .ok (.getfield 15, 3) := by decide +kernel
theorem dX6_operationNamed_5 : decode cX6_operationNamed 5 = .ok (.aload_n 0, 1) := by decide +kernel
theorem dX6_operationNamed_6 : decode cX6_operationNamed 6 = .ok (.getfield 9, 3) := by decide +kernel
theorem dX6_operationNamed_9 : decode cX6_operationNamed 9 = .ok (.invokestatic 54, 3) := by decide +kernel
theorem dX6_operationNamed_12 : decode cX6_operationNamed 12 = .ok (.ireturn, 1) := by decide +kernel
set_option maxRecDepth 20000 in
theorem wp_X6_operationNamed_5 (E : En) (d : Nat) (a1 : Int64) (h : Hp) (P : Int32 → Hp → Prop) (t : SpI E d MX6_indexOf [.long a1, .ref (eA E 6), .int (h.1 5 0)] h (fun v1 h1 => P v1 h1)) : SpI E (d + 1) MX6_operationNamed [.ref (eA E 5), .long a1] h P := by
  refine SpI.of (lv0 := [(0, .ref (eA E 5)), (1, .long a1)]) (by decide) (Nat.le_of_ble_eq_true rfl) rfl (fun g => ?_)
  refine r_lload_n (q := 1) dX6_operationNamed_0 rfl rfl ?_
  refine r_aload_n (q := 0) dX6_operationNamed_1 rfl rfl ?_
  refine r_getR (c := 5) (c2 := 6) dX6_operationNamed_2 flX6_15 lay_5 rfl ?_
  refine r_aload_n (q := 0) dX6_operationNamed_5 rfl rfl ?_
  refine r_getI (c := 5) dX6_operationNamed_6 flX6_9 lay_5 rfl ?_
  refine r_cSI (As := [.long a1, .ref (eA E 6), .int (h.1 5 0)]) dX6_operationNamed_9 mkX6_indexOf lkX6_54 rfl (by decide) rfl (Nat.le_of_ble_eq_true rfl) z00 t ?_
  intro v1 h1 t
  exact r_iret dX6_operationNamed_12 rfl t
theorem dX6_instructionNamed_0 : decode cX6_instructionNamed 0 = .ok (.lload_n 1, 1) := by decide +kernel
theorem dX6_instructionNamed_1 : decode cX6_instructionNamed 1 = .ok (.aload_n 0, 1) := by decide +kernel
theorem dX6_instructionNamed_2 : decode cX6_instructionNamed 2 = .ok (.getfield 41, 3) := by decide +kernel
theorem dX6_instructionNamed_5 : decode cX6_instructionNamed 5 = .ok (.aload_n 0, 1) := by decide +kernel
theorem dX6_instructionNamed_6 : decode cX6_instructionNamed 6 = .ok (.getfield 38, 3) := by decide +kernel
theorem dX6_instructionNamed_9 : decode cX6_instructionNamed 9 = .ok (.invokestatic 54, 3) := by decide +kernel
theorem dX6_instructionNamed_12 : decode cX6_instructionNamed 12 = .ok (.ireturn, 1) := by decide +kernel
set_option maxRecDepth 20000 in
theorem wp_X6_instructionNamed_5 (E : En) (d : Nat) (a1 : Int64) (h : Hp) (P : Int32 → Hp → Prop) (t : SpI E d MX6_indexOf [.long a1, .ref (eA E 13), .int (h.1 5 8)] h (fun v1 h1 => P v1 h1)) : SpI E (d + 1) MX6_instructionNamed [.ref (eA E 5), .long a1] h P := by
  refine SpI.of (lv0 := [(0, .ref (eA E 5)), (1, .long a1)]) (by decide) (Nat.le_of_ble_eq_true rfl) rfl (fun g => ?_)
  refine r_lload_n (q := 1) dX6_instructionNamed_0 rfl rfl ?_
  refine r_aload_n (q := 0) dX6_instructionNamed_1 rfl rfl ?_
  refine r_getR (c := 5) (c2 := 13) dX6_instructionNamed_2 flX6_41 lay_5 rfl ?_
  refine r_aload_n (q := 0) dX6_instructionNamed_5 rfl rfl ?_
  refine r_getI (c := 5) dX6_instructionNamed_6 flX6_38 lay_5 rfl ?_
  refine r_cSI (As := [.long a1, .ref (eA E 13), .int (h.1 5 8)]) dX6_instructionNamed_9 mkX6_indexOf lkX6_54 rfl (by decide) rfl (Nat.le_of_ble_eq_true rfl) z00 t ?_
  intro v1 h1 t
  exact r_iret dX6_instructionNamed_12 rfl t
set_option maxRecDepth 20000 in
theorem wp_X6_operationNamed_17 (E : En) (d : Nat) (a1 : Int64) (h : Hp) (P : Int32 → Hp → Prop) (t : SpI E d MX6_indexOf [.long a1, .ref (eA E 18), .int (h.1 17 0)] h (fun v1 h1 => P v1 h1)) : SpI E (d + 1) MX6_operationNamed [.ref (eA E 17), .long a1] h P := by
  refine SpI.of (lv0 := [(0, .ref (eA E 17)), (1, .long a1)]) (by decide) (Nat.le_of_ble_eq_true rfl) rfl (fun g => ?_)
  refine r_lload_n (q := 1) dX6_operationNamed_0 rfl rfl ?_
  refine r_aload_n (q := 0) dX6_operationNamed_1 rfl rfl ?_
  refine r_getR (c := 17) (c2 := 18) dX6_operationNamed_2 flX6_15 lay_17 rfl ?_
  refine r_aload_n (q := 0) dX6_operationNamed_5 rfl rfl ?_
  refine r_getI (c := 17) dX6_operationNamed_6 flX6_9 lay_17 rfl ?_
  refine r_cSI (As := [.long a1, .ref (eA E 18), .int (h.1 17 0)]) dX6_operationNamed_9 mkX6_indexOf lkX6_54 rfl (by decide) rfl (Nat.le_of_ble_eq_true rfl) z00 t ?_
  intro v1 h1 t
  exact r_iret dX6_operationNamed_12 rfl t
set_option maxRecDepth 20000 in
theorem wp_X6_instructionNamed_17 (E : En) (d : Nat) (a1 : Int64) (h : Hp) (P : Int32 → Hp → Prop) (t : SpI E d MX6_indexOf [.long a1, .ref (eA E 25), .int (h.1 17 8)] h (fun v1 h1 => P v1 h1)) : SpI E (d + 1) MX6_instructionNamed [.ref (eA E 17), .long a1] h P := by
  refine SpI.of (lv0 := [(0, .ref (eA E 17)), (1, .long a1)]) (by decide) (Nat.le_of_ble_eq_true rfl) rfl (fun g => ?_)
  refine r_lload_n (q := 1) dX6_instructionNamed_0 rfl rfl ?_
  refine r_aload_n (q := 0) dX6_instructionNamed_1 rfl rfl ?_
  refine r_getR (c := 17) (c2 := 25) dX6_instructionNamed_2 flX6_41 lay_17 rfl ?_
  refine r_aload_n (q := 0) dX6_instructionNamed_5 rfl rfl ?_
  refine r_getI (c := 17) dX6_instructionNamed_6 flX6_38 lay_17 rfl ?_
  refine r_cSI (As := [.long a1, .ref (eA E 25), .int (h.1 17 8)]) dX6_instructionNamed_9 mkX6_indexOf lkX6_54 rfl (by decide) rfl (Nat.le_of_ble_eq_true rfl) z00 t ?_
  intro v1 h1 t
  exact r_iret dX6_instructionNamed_12 rfl t
theorem dX6_indexOf_0 : decode cX6_indexOf 0 = .ok (.iconst 0, 1) := by decide +kernel
theorem dX6_indexOf_1 : decode cX6_indexOf 1 = .ok (.istore 4, 2) := by decide +kernel
theorem dX6_indexOf_3 : decode cX6_indexOf 3 = .ok (.iload 4, 2) := by decide +kernel
theorem dX6_indexOf_5 : decode cX6_indexOf 5 = .ok (.iload_n 3, 1) := by decide +kernel
theorem dX6_indexOf_6 : decode cX6_indexOf 6 = .ok (.if_icmp .ge 21, 3) := by decide +kernel
theorem dX6_indexOf_9 : decode cX6_indexOf 9 = .ok (.aload_n 2, 1) := by decide +kernel
theorem dX6_indexOf_10 : decode cX6_indexOf 10 = .ok (.iload 4, 2) := by decide +kernel
theorem dX6_indexOf_12 : decode cX6_indexOf 12 = .ok (.laload, 1) := by decide +kernel
theorem dX6_indexOf_13 : decode cX6_indexOf 13 = .ok (.lload_n 0, 1) := by decide +kernel
theorem dX6_indexOf_14 : decode cX6_indexOf 14 = .ok (.lcmp, 1) := by decide +kernel
theorem dX6_indexOf_15 : decode cX6_indexOf 15 = .ok (.ifCond .ne 6, 3) := by decide +kernel
theorem dX6_indexOf_18 : decode cX6_indexOf 18 = .ok (.iload 4, 2) := by decide +kernel
theorem dX6_indexOf_20 : decode cX6_indexOf 20 = .ok (.ireturn, 1) := by decide +kernel
theorem dX6_indexOf_21 : decode cX6_indexOf 21 = .ok (.iinc 4 1, 3) := by decide +kernel
theorem dX6_indexOf_24 : decode cX6_indexOf 24 = .ok (.goto (-21), 3) := by decide +kernel
theorem dX6_indexOf_27 : decode cX6_indexOf 27 = .ok (.iconst (-1), 1) := by decide +kernel
theorem dX6_indexOf_28 : decode cX6_indexOf 28 = .ok (.ireturn, 1) := by decide +kernel
abbrev VX6_indexOf_3 (E : En) (d : Nat) (g : Ga) (P : Int32 → Hp → Prop) (cn : Nat) (x0 : Int64) (x3 : Int32) (x4 : Int32) (h : Hp) : Prop := V E MX6_indexOf (RM d 0) g (QQ E g (QI E P) 0 0) 0 0 h 3 [(0, .long x0), (2, .ref (eA E cn)), (3, .int x3), (4, .int x4)] []
set_option maxRecDepth 20000 in
theorem wp_X6_indexOf (E : En) (d : Nat) (cn ncn : Nat) (hcn : lay[cn]? = some (.inr (3, ncn))) (a1 : Int64) (a3 : Int32) (h : Hp) (P : Int32 → Hp → Prop) (t : ∀ g : Ga, VX6_indexOf_3 E d g P cn a1 a3 (0 : Int32) h) : SpI E d MX6_indexOf [.long a1, .ref (eA E cn), .int a3] h P := by
  refine SpI.of (lv0 := [(0, .long a1), (2, .ref (eA E cn)), (3, .int a3)]) (by decide) (Nat.le_of_ble_eq_true rfl) rfl (fun g => ?_)
  have t := t g
  refine r_iconst (v := (0 : Int32)) dX6_indexOf_0 rfl ?_
  refine r_istore (lv' := [(4, .int (0 : Int32)), (0, .long a1), (2, .ref (eA E cn)), (3, .int a3)]) dX6_indexOf_1 (by decide) rfl ?_
  refine r_sub [1, 2, 3, 0] rfl ?_
  exact t
set_option maxRecDepth 20000 in
theorem sg_X6_indexOf_3 (E : En) (d : Nat) (g : Ga) (cn ncn : Nat) (hcn : lay[cn]? = some (.inr (3, ncn))) (x0 : Int64) (x3 : Int32) (x4 : Int32) (h : Hp) (P : Int32 → Hp → Prop) (t : (x3 ≤ x4 → (P (-1 : Int32) h)) ∧ (¬ x3 ≤ x4 → (vp_in x4 ncn ∧ ((¬ (lg_cmp (h.2 cn x4.toNatClampNeg) x0) = 0 → (VX6_indexOf_3 E d g P cn x0 x3 (x4 + (1 : Int32)) h)) ∧ ((lg_cmp (h.2 cn x4.toNatClampNeg) x0) = 0 → (P x4 h)))))) : VX6_indexOf_3 E d g P cn x0 x3 x4 h := by
  refine r_iload (q := 3) dX6_indexOf_3 rfl ?_
  refine r_iload_n (q := 2) dX6_indexOf_5 rfl rfl ?_
  refine r_icmp_ge (tgt := 27) dX6_indexOf_6 (by decide) (fun q1 => ?_) (fun q1 => ?_)
  · have t := t.1 q1
    refine r_iconst (v := (-1 : Int32)) dX6_indexOf_27 rfl ?_
    exact r_iret dX6_indexOf_28 rfl t
  · have t := t.2 q1
    refine r_aload_n (q := 1) dX6_indexOf_9 rfl rfl ?_
    refine r_iload (q := 3) dX6_indexOf_10 rfl ?_
    obtain ⟨c2, t⟩ := t
    refine r_lald (c := cn) dX6_indexOf_12 hcn c2 ?_
    refine r_lload_n (q := 0) dX6_indexOf_13 rfl rfl ?_
    refine r_lcmp dX6_indexOf_14 ?_
    refine r_if_ne (tgt := 21) dX6_indexOf_15 (by decide) (fun q3 => ?_) (fun q3 => ?_)
    · have t := t.1 q3
      refine r_iinc (k := 3) (v := x4 + (1 : Int32)) (lv' := [(4, .int (x4 + (1 : Int32))), (0, .long x0), (2, .ref (eA E cn)), (3, .int x3)]) dX6_indexOf_21 rfl rfl (by decide) rfl ?_
      refine r_goto (tgt := 3) dX6_indexOf_24 (by decide) ?_
      refine r_sub [1, 2, 3, 0] rfl ?_
      exact t
    · have t := t.2 q3
      refine r_iload (q := 3) dX6_indexOf_18 rfl ?_
      exact r_iret dX6_indexOf_20 rfl t
theorem dX6_occurrences_0 : decode cX6_occurrences 0 = .ok (.iconst 0, 1) := by decide +kernel
theorem dX6_occurrences_1 : decode cX6_occurrences 1 = .ok (.istore_n 2, 1) := by decide +kernel
theorem dX6_occurrences_2 : decode cX6_occurrences 2 = .ok (.iconst 0, 1) := by decide +kernel
theorem dX6_occurrences_3 : decode cX6_occurrences 3 = .ok (.istore_n 3, 1) := by decide +kernel
theorem dX6_occurrences_4 : decode cX6_occurrences 4 = .ok (.iload_n 3, 1) := by decide +kernel
theorem dX6_occurrences_5 : decode cX6_occurrences 5 = .ok (.aload_n 0, 1) := by decide +kernel
theorem dX6_occurrences_6 : decode cX6_occurrences 6 = .ok (.getfield 38, 3) := by decide +kernel
theorem dX6_occurrences_9 : decode cX6_occurrences 9 = .ok (.if_icmp .ge 52, 3) := by decide +kernel
theorem dX6_occurrences_12 : decode cX6_occurrences 12 = .ok (.iload_n 3, 1) := by decide +kernel
theorem dX6_occurrences_13 : decode cX6_occurrences 13 = .ok (.bipush 24, 2) := by decide +kernel
theorem dX6_occurrences_15 : decode cX6_occurrences 15 = .ok (.imul, 1) := by decide +kernel
theorem dX6_occurrences_16 : decode cX6_occurrences 16 = .ok (.istore 4, 2) := by decide +kernel
theorem dX6_occurrences_18 : decode cX6_occurrences 18 = .ok (.iconst 0, 1) := by decide +kernel
theorem dX6_occurrences_19 : decode cX6_occurrences 19 = .ok (.istore 5, 2) := by decide +kernel
theorem dX6_occurrences_21 : decode cX6_occurrences 21 = .ok (.iload 5, 2) := by decide +kernel
theorem dX6_occurrences_23 : decode cX6_occurrences 23 = .ok (.aload_n 0, 1) := by decide +kernel
theorem dX6_occurrences_24 : decode cX6_occurrences 24 = .ok (.getfield 44, 3) := by decide +kernel
theorem dX6_occurrences_27 : decode cX6_occurrences 27 = .ok (.iload_n 3, 1) := by decide +kernel
theorem dX6_occurrences_28 : decode cX6_occurrences 28 = .ok (.iaload, 1) := by decide +kernel
theorem dX6_occurrences_29 : decode cX6_occurrences 29 = .ok (.if_icmp .ge 26, 3) := by decide +kernel
theorem dX6_occurrences_32 : decode cX6_occurrences 32 = .ok (.aload_n 0, 1) := by decide +kernel
theorem dX6_occurrences_33 : decode cX6_occurrences 33 = .ok (.getfield 47, 3) := by decide +kernel
theorem dX6_occurrences_36 : decode cX6_occurrences 36 = .ok (.iload 4, 2) := by decide +kernel
theorem dX6_occurrences_38 : decode cX6_occurrences 38 = .ok (.iload 5, 2) := by decide +kernel
theorem dX6_occurrences_40 : decode cX6_occurrences 40 = .ok (.iadd, 1) := by decide +kernel
theorem dX6_occurrences_41 : decode cX6_occurrences 41 = .ok (.iaload, 1) := by decide +kernel
theorem dX6_occurrences_42 : decode cX6_occurrences 42 = .ok (.iload_n 1, 1) := by decide +kernel
theorem dX6_occurrences_43 : decode cX6_occurrences 43 = .ok (.if_icmp .ne 6, 3) := by decide +kernel
theorem dX6_occurrences_46 : decode cX6_occurrences 46 = .ok (.iinc 2 1, 3) := by decide +kernel
theorem dX6_occurrences_49 : decode cX6_occurrences 49 = .ok (.iinc 5 1, 3) := by decide +kernel
theorem dX6_occurrences_52 : decode cX6_occurrences 52 = .ok (.goto (-31), 3) := by decide +kernel
theorem dX6_occurrences_55 : decode cX6_occurrences 55 = .ok (.iinc 3 1, 3) := by decide +kernel
theorem dX6_occurrences_58 : decode cX6_occurrences 58 = .ok (.goto (-54), 3) := by decide +kernel
theorem dX6_occurrences_61 : decode cX6_occurrences 61 = .ok (.iload_n 2, 1) := by decide +kernel
theorem dX6_occurrences_62 : decode cX6_occurrences 62 = .ok (.ireturn, 1) := by decide +kernel
abbrev VX6_occurrences_4 (E : En) (d : Nat) (g : Ga) (P : Int32 → Hp → Prop) (x1 : Int32) (x2 : Int32) (x3 : Int32) (h : Hp) : Prop := V E MX6_occurrences (RM d 0) g (QQ E g (QI E P) 0 0) 0 0 h 4 [(0, .ref (eA E 5)), (1, .int x1), (2, .int x2), (3, .int x3)] []
abbrev VX6_occurrences_21 (E : En) (d : Nat) (g : Ga) (P : Int32 → Hp → Prop) (x1 : Int32) (x2 : Int32) (x3 : Int32) (x4 : Int32) (x5 : Int32) (h : Hp) : Prop := V E MX6_occurrences (RM d 0) g (QQ E g (QI E P) 0 0) 0 0 h 21 [(0, .ref (eA E 5)), (1, .int x1), (2, .int x2), (3, .int x3), (4, .int x4), (5, .int x5)] []
set_option maxRecDepth 20000 in
theorem wp_X6_occurrences (E : En) (d : Nat) (a1 : Int32) (h : Hp) (P : Int32 → Hp → Prop) (t : ∀ g : Ga, VX6_occurrences_4 E d g P a1 (0 : Int32) (0 : Int32) h) : SpI E d MX6_occurrences [.ref (eA E 5), .int a1] h P := by
  refine SpI.of (lv0 := [(0, .ref (eA E 5)), (1, .int a1)]) (by decide) (Nat.le_of_ble_eq_true rfl) rfl (fun g => ?_)
  have t := t g
  refine r_iconst (v := (0 : Int32)) dX6_occurrences_0 rfl ?_
  refine r_istore_n (lv' := [(2, .int (0 : Int32)), (0, .ref (eA E 5)), (1, .int a1)]) dX6_occurrences_1 rfl (by decide) rfl ?_
  refine r_iconst (v := (0 : Int32)) dX6_occurrences_2 rfl ?_
  refine r_istore_n (lv' := [(3, .int (0 : Int32)), (2, .int (0 : Int32)), (0, .ref (eA E 5)), (1, .int a1)]) dX6_occurrences_3 rfl (by decide) rfl ?_
  refine r_sub [2, 3, 1, 0] rfl ?_
  exact t
set_option maxRecDepth 20000 in
theorem sg_X6_occurrences_4 (E : En) (d : Nat) (g : Ga) (x1 : Int32) (x2 : Int32) (x3 : Int32) (h : Hp) (P : Int32 → Hp → Prop) (t : ((h.1 5 8) ≤ x3 → (P x2 h)) ∧ (¬ (h.1 5 8) ≤ x3 → (VX6_occurrences_21 E d g P x1 x2 x3 (x3 * (24 : Int32)) (0 : Int32) h))) : VX6_occurrences_4 E d g P x1 x2 x3 h := by
  refine r_iload_n (q := 3) dX6_occurrences_4 rfl rfl ?_
  refine r_aload_n (q := 0) dX6_occurrences_5 rfl rfl ?_
  refine r_getI (c := 5) dX6_occurrences_6 flX6_38 lay_5 rfl ?_
  refine r_icmp_ge (tgt := 61) dX6_occurrences_9 (by decide) (fun q1 => ?_) (fun q1 => ?_)
  · have t := t.1 q1
    refine r_iload_n (q := 2) dX6_occurrences_61 rfl rfl ?_
    exact r_iret dX6_occurrences_62 rfl t
  · have t := t.2 q1
    refine r_iload_n (q := 3) dX6_occurrences_12 rfl rfl ?_
    refine r_bipush (v := (24 : Int32)) dX6_occurrences_13 rfl ?_
    refine r_imul dX6_occurrences_15 ?_
    refine r_istore (lv' := [(4, .int (x3 * (24 : Int32))), (0, .ref (eA E 5)), (1, .int x1), (2, .int x2), (3, .int x3)]) dX6_occurrences_16 (by decide) rfl ?_
    refine r_iconst (v := (0 : Int32)) dX6_occurrences_18 rfl ?_
    refine r_istore (lv' := [(5, .int (0 : Int32)), (4, .int (x3 * (24 : Int32))), (0, .ref (eA E 5)), (1, .int x1), (2, .int x2), (3, .int x3)]) dX6_occurrences_19 (by decide) rfl ?_
    refine r_sub [2, 3, 4, 5, 1, 0] rfl ?_
    exact t
set_option maxRecDepth 20000 in
theorem sg_X6_occurrences_21 (E : En) (d : Nat) (g : Ga) (x1 : Int32) (x2 : Int32) (x3 : Int32) (x4 : Int32) (x5 : Int32) (h : Hp) (P : Int32 → Hp → Prop) (t : vp_in x3 8 ∧ (((h.1 14 x3.toNatClampNeg) ≤ x5 → (VX6_occurrences_4 E d g P x1 x2 (x3 + (1 : Int32)) h)) ∧ (¬ (h.1 14 x3.toNatClampNeg) ≤ x5 → (vp_in (x4 + x5) 192 ∧ ((¬ (h.1 15 ((x4 + x5).toNatClampNeg)) = x1 → (VX6_occurrences_21 E d g P x1 x2 x3 x4 (x5 + (1 : Int32)) h)) ∧ ((h.1 15 ((x4 + x5).toNatClampNeg)) = x1 → (VX6_occurrences_21 E d g P x1 (x2 + (1 : Int32)) x3 x4 (x5 + (1 : Int32)) h))))))) : VX6_occurrences_21 E d g P x1 x2 x3 x4 x5 h := by
  refine r_iload (q := 5) dX6_occurrences_21 rfl ?_
  refine r_aload_n (q := 0) dX6_occurrences_23 rfl rfl ?_
  refine r_getR (c := 5) (c2 := 14) dX6_occurrences_24 flX6_44 lay_5 rfl ?_
  refine r_iload_n (q := 3) dX6_occurrences_27 rfl rfl ?_
  obtain ⟨c1, t⟩ := t
  refine r_iald (c := 14) dX6_occurrences_28 lay_14 c1 ?_
  refine r_icmp_ge (tgt := 55) dX6_occurrences_29 (by decide) (fun q2 => ?_) (fun q2 => ?_)
  · have t := t.1 q2
    refine r_iinc (k := 3) (v := x3 + (1 : Int32)) (lv' := [(3, .int (x3 + (1 : Int32))), (0, .ref (eA E 5)), (1, .int x1), (2, .int x2), (4, .int x4), (5, .int x5)]) dX6_occurrences_55 rfl rfl (by decide) rfl ?_
    refine r_goto (tgt := 4) dX6_occurrences_58 (by decide) ?_
    refine r_sub [1, 2, 3, 0] rfl ?_
    exact t
  · have t := t.2 q2
    refine r_aload_n (q := 0) dX6_occurrences_32 rfl rfl ?_
    refine r_getR (c := 5) (c2 := 15) dX6_occurrences_33 flX6_47 lay_5 rfl ?_
    refine r_iload (q := 4) dX6_occurrences_36 rfl ?_
    refine r_iload (q := 5) dX6_occurrences_38 rfl ?_
    refine r_iadd dX6_occurrences_40 ?_
    obtain ⟨c3, t⟩ := t
    refine r_iald (c := 15) dX6_occurrences_41 lay_15 c3 ?_
    refine r_iload_n (q := 1) dX6_occurrences_42 rfl rfl ?_
    refine r_icmp_ne (tgt := 49) dX6_occurrences_43 (by decide) (fun q4 => ?_) (fun q4 => ?_)
    · have t := t.1 q4
      refine r_iinc (k := 5) (v := x5 + (1 : Int32)) (lv' := [(5, .int (x5 + (1 : Int32))), (0, .ref (eA E 5)), (1, .int x1), (2, .int x2), (3, .int x3), (4, .int x4)]) dX6_occurrences_49 rfl rfl (by decide) rfl ?_
      refine r_goto (tgt := 21) dX6_occurrences_52 (by decide) ?_
      refine r_sub [1, 2, 3, 4, 5, 0] rfl ?_
      exact t
    · have t := t.2 q4
      refine r_iinc (k := 2) (v := x2 + (1 : Int32)) (lv' := [(2, .int (x2 + (1 : Int32))), (0, .ref (eA E 5)), (1, .int x1), (3, .int x3), (4, .int x4), (5, .int x5)]) dX6_occurrences_46 rfl rfl (by decide) rfl ?_
      refine r_iinc (k := 5) (v := x5 + (1 : Int32)) (lv' := [(5, .int (x5 + (1 : Int32))), (2, .int (x2 + (1 : Int32))), (0, .ref (eA E 5)), (1, .int x1), (3, .int x3), (4, .int x4)]) dX6_occurrences_49 rfl rfl (by decide) rfl ?_
      refine r_goto (tgt := 21) dX6_occurrences_52 (by decide) ?_
      refine r_sub [2, 3, 1, 4, 5, 0] rfl ?_
      exact t
theorem dX6_tie_0 : decode cX6_tie 0 = .ok (.aload_n 0, 1) := by decide +kernel
theorem dX6_tie_1 : decode cX6_tie 1 = .ok (.getfield 23, 3) := by decide +kernel
theorem dX6_tie_4 : decode cX6_tie 4 = .ok (.iload_n 1, 1) := by decide +kernel
theorem dX6_tie_5 : decode cX6_tie 5 = .ok (.iaload, 1) := by decide +kernel
theorem dX6_tie_6 : decode cX6_tie 6 = .ok (.aload_n 0, 1) := by decide +kernel
theorem dX6_tie_7 : decode cX6_tie 7 = .ok (.getfield 23, 3) := by decide +kernel
theorem dX6_tie_10 : decode cX6_tie 10 = .ok (.iload_n 2, 1) := by decide +kernel
theorem dX6_tie_11 : decode cX6_tie 11 = .ok (.iaload, 1) := by decide +kernel
theorem dX6_tie_12 : decode cX6_tie 12 = .ok (.if_icmp .eq 21, 3) := by decide +kernel
theorem dX6_tie_15 : decode cX6_tie 15 = .ok (.aload_n 0, 1) := by decide +kernel
theorem dX6_tie_16 : decode cX6_tie 16 = .ok (.getfield 35, 3) := by decide +kernel
theorem dX6_tie_19 : decode cX6_tie 19 = .ok (.iload_n 2, 1) := by decide +kernel
theorem dX6_tie_20 : decode cX6_tie 20 = .ok (.iaload, 1) := by decide +kernel
theorem dX6_tie_21 : decode cX6_tie 21 = .ok (.iconst 1, 1) := by decide +kernel
theorem dX6_tie_22 : decode cX6_tie 22 = .ok (.aload_n 0, 1) := by decide +kernel
theorem dX6_tie_23 : decode cX6_tie 23 = .ok (.getfield 23, 3) := by decide +kernel
theorem dX6_tie_26 : decode cX6_tie 26 = .ok (.iload_n 1, 1) := by decide +kernel
theorem dX6_tie_27 : decode cX6_tie 27 = .ok (.iaload, 1) := by decide +kernel
theorem dX6_tie_28 : decode cX6_tie 28 = .ok (.ishl, 1) := by decide +kernel
theorem dX6_tie_29 : decode cX6_tie 29 = .ok (.iand, 1) := by decide +kernel
theorem dX6_tie_30 : decode cX6_tie 30 = .ok (.ifCond .eq 5, 3) := by decide +kernel
theorem dX6_tie_33 : decode cX6_tie 33 = .ok (.iconst 2, 1) := by decide +kernel
theorem dX6_tie_34 : decode cX6_tie 34 = .ok (.ireturn, 1) := by decide +kernel
theorem dX6_tie_35 : decode cX6_tie 35 = .ok (.aload_n 0, 1) := by decide +kernel
theorem dX6_tie_36 : decode cX6_tie 36 = .ok (.getfield 35, 3) := by decide +kernel
theorem dX6_tie_39 : decode cX6_tie 39 = .ok (.iload_n 1, 1) := by decide +kernel
theorem dX6_tie_40 : decode cX6_tie 40 = .ok (.iaload, 1) := by decide +kernel
theorem dX6_tie_41 : decode cX6_tie 41 = .ok (.iconst 1, 1) := by decide +kernel
theorem dX6_tie_42 : decode cX6_tie 42 = .ok (.aload_n 0, 1) := by decide +kernel
theorem dX6_tie_43 : decode cX6_tie 43 = .ok (.getfield 23, 3) := by decide +kernel
theorem dX6_tie_46 : decode cX6_tie 46 = .ok (.iload_n 2, 1) := by decide +kernel
theorem dX6_tie_47 : decode cX6_tie 47 = .ok (.iaload, 1) := by decide +kernel
theorem dX6_tie_48 : decode cX6_tie 48 = .ok (.ishl, 1) := by decide +kernel
theorem dX6_tie_49 : decode cX6_tie 49 = .ok (.iand, 1) := by decide +kernel
theorem dX6_tie_50 : decode cX6_tie 50 = .ok (.ifCond .eq 7, 3) := by decide +kernel
theorem dX6_tie_53 : decode cX6_tie 53 = .ok (.iconst 1, 1) := by decide +kernel
theorem dX6_tie_54 : decode cX6_tie 54 = .ok (.goto 4, 3) := by decide +kernel
theorem dX6_tie_57 : decode cX6_tie 57 = .ok (.iconst 0, 1) := by decide +kernel
theorem dX6_tie_58 : decode cX6_tie 58 = .ok (.ireturn, 1) := by decide +kernel
set_option maxRecDepth 20000 in
theorem wp_X6_tie (E : En) (d : Nat) (a1 : Int32) (a2 : Int32) (h : Hp) (P : Int32 → Hp → Prop) (t : vp_in a1 12 ∧ (vp_in a2 12 ∧ (((h.1 8 a1.toNatClampNeg) = (h.1 8 a2.toNatClampNeg) → (P (2 : Int32) h)) ∧ (¬ (h.1 8 a1.toNatClampNeg) = (h.1 8 a2.toNatClampNeg) → (vp_in a2 12 ∧ (vp_in a1 12 ∧ ((((h.1 12 a2.toNatClampNeg) &&& ((1 : Int32) <<< ((h.1 8 a1.toNatClampNeg) &&& 31))) = 0 → (vp_in a1 12 ∧ (vp_in a2 12 ∧ ((((h.1 12 a1.toNatClampNeg) &&& ((1 : Int32) <<< ((h.1 8 a2.toNatClampNeg) &&& 31))) = 0 → (P (0 : Int32) h)) ∧ (¬ ((h.1 12 a1.toNatClampNeg) &&& ((1 : Int32) <<< ((h.1 8 a2.toNatClampNeg) &&& 31))) = 0 → (P (1 : Int32) h)))))) ∧ (¬ ((h.1 12 a2.toNatClampNeg) &&& ((1 : Int32) <<< ((h.1 8 a1.toNatClampNeg) &&& 31))) = 0 → (P (2 : Int32) h))))))))) : SpI E d MX6_tie [.ref (eA E 5), .int a1, .int a2] h P := by
  refine SpI.of (lv0 := [(0, .ref (eA E 5)), (1, .int a1), (2, .int a2)]) (by decide) (Nat.le_of_ble_eq_true rfl) rfl (fun g => ?_)
  refine r_aload_n (q := 0) dX6_tie_0 rfl rfl ?_
  refine r_getR (c := 5) (c2 := 8) dX6_tie_1 flX6_23 lay_5 rfl ?_
  refine r_iload_n (q := 1) dX6_tie_4 rfl rfl ?_
  obtain ⟨c1, t⟩ := t
  refine r_iald (c := 8) dX6_tie_5 lay_8 c1 ?_
  refine r_aload_n (q := 0) dX6_tie_6 rfl rfl ?_
  refine r_getR (c := 5) (c2 := 8) dX6_tie_7 flX6_23 lay_5 rfl ?_
  refine r_iload_n (q := 2) dX6_tie_10 rfl rfl ?_
  obtain ⟨c2, t⟩ := t
  refine r_iald (c := 8) dX6_tie_11 lay_8 c2 ?_
  refine r_icmp_eq (tgt := 33) dX6_tie_12 (by decide) (fun q3 => ?_) (fun q3 => ?_)
  · have t := t.1 q3
    refine r_iconst (v := (2 : Int32)) dX6_tie_33 rfl ?_
    exact r_iret dX6_tie_34 rfl t
  · have t := t.2 q3
    refine r_aload_n (q := 0) dX6_tie_15 rfl rfl ?_
    refine r_getR (c := 5) (c2 := 12) dX6_tie_16 flX6_35 lay_5 rfl ?_
    refine r_iload_n (q := 2) dX6_tie_19 rfl rfl ?_
    obtain ⟨c4, t⟩ := t
    refine r_iald (c := 12) dX6_tie_20 lay_12 c4 ?_
    refine r_iconst (v := (1 : Int32)) dX6_tie_21 rfl ?_
    refine r_aload_n (q := 0) dX6_tie_22 rfl rfl ?_
    refine r_getR (c := 5) (c2 := 8) dX6_tie_23 flX6_23 lay_5 rfl ?_
    refine r_iload_n (q := 1) dX6_tie_26 rfl rfl ?_
    obtain ⟨c5, t⟩ := t
    refine r_iald (c := 8) dX6_tie_27 lay_8 c5 ?_
    refine r_ishl dX6_tie_28 ?_
    refine r_iand dX6_tie_29 ?_
    refine r_if_eq (tgt := 35) dX6_tie_30 (by decide) (fun q6 => ?_) (fun q6 => ?_)
    · have t := t.1 q6
      refine r_aload_n (q := 0) dX6_tie_35 rfl rfl ?_
      refine r_getR (c := 5) (c2 := 12) dX6_tie_36 flX6_35 lay_5 rfl ?_
      refine r_iload_n (q := 1) dX6_tie_39 rfl rfl ?_
      obtain ⟨c7, t⟩ := t
      refine r_iald (c := 12) dX6_tie_40 lay_12 c7 ?_
      refine r_iconst (v := (1 : Int32)) dX6_tie_41 rfl ?_
      refine r_aload_n (q := 0) dX6_tie_42 rfl rfl ?_
      refine r_getR (c := 5) (c2 := 8) dX6_tie_43 flX6_23 lay_5 rfl ?_
      refine r_iload_n (q := 2) dX6_tie_46 rfl rfl ?_
      obtain ⟨c8, t⟩ := t
      refine r_iald (c := 8) dX6_tie_47 lay_8 c8 ?_
      refine r_ishl dX6_tie_48 ?_
      refine r_iand dX6_tie_49 ?_
      refine r_if_eq (tgt := 57) dX6_tie_50 (by decide) (fun q9 => ?_) (fun q9 => ?_)
      · have t := t.1 q9
        refine r_iconst (v := (0 : Int32)) dX6_tie_57 rfl ?_
        exact r_iret dX6_tie_58 rfl t
      · have t := t.2 q9
        refine r_iconst (v := (1 : Int32)) dX6_tie_53 rfl ?_
        refine r_goto (tgt := 58) dX6_tie_54 (by decide) ?_
        exact r_iret dX6_tie_58 rfl t
    · have t := t.2 q6
      refine r_iconst (v := (2 : Int32)) dX6_tie_33 rfl ?_
      exact r_iret dX6_tie_34 rfl t
theorem dX6_segmentEnd_0 : decode cX6_segmentEnd 0 = .ok (.iload_n 1, 1) := by decide +kernel
theorem dX6_segmentEnd_1 : decode cX6_segmentEnd 1 = .ok (.bipush 24, 2) := by decide +kernel
theorem dX6_segmentEnd_3 : decode cX6_segmentEnd 3 = .ok (.imul, 1) := by decide +kernel
theorem dX6_segmentEnd_4 : decode cX6_segmentEnd 4 = .ok (.istore_n 3, 1) := by decide +kernel
theorem dX6_segmentEnd_5 : decode cX6_segmentEnd 5 = .ok (.aload_n 0, 1) := by decide +kernel
theorem dX6_segmentEnd_6 : decode cX6_segmentEnd 6 = .ok (.getfield 44, 3) := by decide +kernel
theorem dX6_segmentEnd_9 : decode cX6_segmentEnd 9 = .ok (.iload_n 1, 1) := by decide +kernel
theorem dX6_segmentEnd_10 : decode cX6_segmentEnd 10 = .ok (.iaload, 1) := by decide +kernel
theorem dX6_segmentEnd_11 : decode cX6_segmentEnd 11 = .ok (.iconst 1, 1) := by decide +kernel
theorem dX6_segmentEnd_12 : decode cX6_segmentEnd 12 = .ok (.isub, 1) := by decide +kernel
theorem dX6_segmentEnd_13 : decode cX6_segmentEnd 13 = .ok (.istore 4, 2) := by decide +kernel
theorem dX6_segmentEnd_15 : decode cX6_segmentEnd 15 = .ok (.iload_n 2, 1) := by decide +kernel
theorem dX6_segmentEnd_16 : decode cX6_segmentEnd 16 = .ok (.istore 5, 2) := by decide +kernel
theorem dX6_segmentEnd_18 : decode cX6_segmentEnd 18 = .ok (.iload 5, 2) := by decide +kernel
theorem dX6_segmentEnd_20 : decode cX6_segmentEnd 20 = .ok (.iload 4, 2) := by decide +kernel
theorem dX6_segmentEnd_22 : decode cX6_segmentEnd 22 = .ok (.if_icmp .ge 26, 3) := by decide +kernel
theorem dX6_segmentEnd_25 : decode cX6_segmentEnd 25 = .ok (.aload_n 0, 1) := by decide +kernel
theorem dX6_segmentEnd_26 : decode cX6_segmentEnd 26 = .ok (.getfield 50, 3) := by decide +kernel
theorem dX6_segmentEnd_29 : decode cX6_segmentEnd 29 = .ok (.iload_n 3, 1) := by decide +kernel
theorem dX6_segmentEnd_30 : decode cX6_segmentEnd 30 = .ok (.iload 5, 2) := by decide +kernel
theorem dX6_segmentEnd_32 : decode cX6_segmentEnd 32 = .ok (.iadd, 1) := by decide +kernel
theorem dX6_segmentEnd_33 : decode cX6_segmentEnd 33 = .ok (.baload, 1) := by decide +kernel
theorem dX6_segmentEnd_34 : decode cX6_segmentEnd 34 = .ok (.ifCond .eq 8, 3) := by decide +kernel
theorem dX6_segmentEnd_37 : decode cX6_segmentEnd 37 = .ok (.iload 5, 2) := by decide +kernel
theorem dX6_segmentEnd_39 : decode cX6_segmentEnd 39 = .ok (.iconst 1, 1) := by decide +kernel
theorem dX6_segmentEnd_40 : decode cX6_segmentEnd 40 = .ok (.iadd, 1) := by decide +kernel
theorem dX6_segmentEnd_41 : decode cX6_segmentEnd 41 = .ok (.ireturn, 1) := by decide +kernel
theorem dX6_segmentEnd_42 : decode cX6_segmentEnd 42 = .ok (.iinc 5 1, 3) := by decide +kernel
theorem dX6_segmentEnd_45 : decode cX6_segmentEnd 45 = .ok (.goto (-27), 3) := by decide +kernel
theorem dX6_segmentEnd_48 : decode cX6_segmentEnd 48 = .ok (.iload 4, 2) := by decide +kernel
theorem dX6_segmentEnd_50 : decode cX6_segmentEnd 50 = .ok (.iconst 1, 1) := by decide +kernel
theorem dX6_segmentEnd_51 : decode cX6_segmentEnd 51 = .ok (.iadd, 1) := by decide +kernel
theorem dX6_segmentEnd_52 : decode cX6_segmentEnd 52 = .ok (.ireturn, 1) := by decide +kernel
abbrev VX6_segmentEnd_18 (E : En) (d : Nat) (g : Ga) (P : Int32 → Hp → Prop) (x1 : Int32) (x2 : Int32) (x3 : Int32) (x4 : Int32) (x5 : Int32) (h : Hp) : Prop := V E MX6_segmentEnd (RM d 0) g (QQ E g (QI E P) 0 0) 0 0 h 18 [(0, .ref (eA E 5)), (1, .int x1), (2, .int x2), (3, .int x3), (4, .int x4), (5, .int x5)] []
set_option maxRecDepth 20000 in
theorem wp_X6_segmentEnd (E : En) (d : Nat) (a1 : Int32) (a2 : Int32) (h : Hp) (P : Int32 → Hp → Prop) (t : ∀ g : Ga, vp_in a1 8 ∧ (VX6_segmentEnd_18 E d g P a1 a2 (a1 * (24 : Int32)) ((h.1 14 a1.toNatClampNeg) - (1 : Int32)) a2 h)) : SpI E d MX6_segmentEnd [.ref (eA E 5), .int a1, .int a2] h P := by
  refine SpI.of (lv0 := [(0, .ref (eA E 5)), (1, .int a1), (2, .int a2)]) (by decide) (Nat.le_of_ble_eq_true rfl) rfl (fun g => ?_)
  have t := t g
  refine r_iload_n (q := 1) dX6_segmentEnd_0 rfl rfl ?_
  refine r_bipush (v := (24 : Int32)) dX6_segmentEnd_1 rfl ?_
  refine r_imul dX6_segmentEnd_3 ?_
  refine r_istore_n (lv' := [(3, .int (a1 * (24 : Int32))), (0, .ref (eA E 5)), (1, .int a1), (2, .int a2)]) dX6_segmentEnd_4 rfl (by decide) rfl ?_
  refine r_aload_n (q := 1) dX6_segmentEnd_5 rfl rfl ?_
  refine r_getR (c := 5) (c2 := 14) dX6_segmentEnd_6 flX6_44 lay_5 rfl ?_
  refine r_iload_n (q := 2) dX6_segmentEnd_9 rfl rfl ?_
  obtain ⟨c1, t⟩ := t
  refine r_iald (c := 14) dX6_segmentEnd_10 lay_14 c1 ?_
  refine r_iconst (v := (1 : Int32)) dX6_segmentEnd_11 rfl ?_
  refine r_isub dX6_segmentEnd_12 ?_
  refine r_istore (lv' := [(4, .int ((h.1 14 a1.toNatClampNeg) - (1 : Int32))), (3, .int (a1 * (24 : Int32))), (0, .ref (eA E 5)), (1, .int a1), (2, .int a2)]) dX6_segmentEnd_13 (by decide) rfl ?_
  refine r_iload_n (q := 4) dX6_segmentEnd_15 rfl rfl ?_
  refine r_istore (lv' := [(5, .int a2), (4, .int ((h.1 14 a1.toNatClampNeg) - (1 : Int32))), (3, .int (a1 * (24 : Int32))), (0, .ref (eA E 5)), (1, .int a1), (2, .int a2)]) dX6_segmentEnd_16 (by decide) rfl ?_
  refine r_sub [3, 4, 5, 2, 1, 0] rfl ?_
  exact t
set_option maxRecDepth 20000 in
theorem sg_X6_segmentEnd_18 (E : En) (d : Nat) (g : Ga) (x1 : Int32) (x2 : Int32) (x3 : Int32) (x4 : Int32) (x5 : Int32) (h : Hp) (P : Int32 → Hp → Prop) (t : (x4 ≤ x5 → (P (x4 + (1 : Int32)) h)) ∧ (¬ x4 ≤ x5 → (vp_in (x3 + x5) 192 ∧ (((h.1 16 ((x3 + x5).toNatClampNeg)) = 0 → (VX6_segmentEnd_18 E d g P x1 x2 x3 x4 (x5 + (1 : Int32)) h)) ∧ (¬ (h.1 16 ((x3 + x5).toNatClampNeg)) = 0 → (P (x5 + (1 : Int32)) h)))))) : VX6_segmentEnd_18 E d g P x1 x2 x3 x4 x5 h := by
  refine r_iload (q := 5) dX6_segmentEnd_18 rfl ?_
  refine r_iload (q := 4) dX6_segmentEnd_20 rfl ?_
  refine r_icmp_ge (tgt := 48) dX6_segmentEnd_22 (by decide) (fun q1 => ?_) (fun q1 => ?_)
  · have t := t.1 q1
    refine r_iload (q := 4) dX6_segmentEnd_48 rfl ?_
    refine r_iconst (v := (1 : Int32)) dX6_segmentEnd_50 rfl ?_
    refine r_iadd dX6_segmentEnd_51 ?_
    exact r_iret dX6_segmentEnd_52 rfl t
  · have t := t.2 q1
    refine r_aload_n (q := 0) dX6_segmentEnd_25 rfl rfl ?_
    refine r_getR (c := 5) (c2 := 16) dX6_segmentEnd_26 flX6_50 lay_5 rfl ?_
    refine r_iload_n (q := 3) dX6_segmentEnd_29 rfl rfl ?_
    refine r_iload (q := 5) dX6_segmentEnd_30 rfl ?_
    refine r_iadd dX6_segmentEnd_32 ?_
    obtain ⟨c2, t⟩ := t
    refine r_zald (c := 16) dX6_segmentEnd_33 lay_16 c2 ?_
    refine r_if_eq (tgt := 42) dX6_segmentEnd_34 (by decide) (fun q3 => ?_) (fun q3 => ?_)
    · have t := t.1 q3
      refine r_iinc (k := 5) (v := x5 + (1 : Int32)) (lv' := [(5, .int (x5 + (1 : Int32))), (0, .ref (eA E 5)), (1, .int x1), (2, .int x2), (3, .int x3), (4, .int x4)]) dX6_segmentEnd_42 rfl rfl (by decide) rfl ?_
      refine r_goto (tgt := 18) dX6_segmentEnd_45 (by decide) ?_
      refine r_sub [1, 2, 3, 4, 5, 0] rfl ?_
      exact t
    · have t := t.2 q3
      refine r_iload (q := 5) dX6_segmentEnd_37 rfl ?_
      refine r_iconst (v := (1 : Int32)) dX6_segmentEnd_39 rfl ?_
      refine r_iadd dX6_segmentEnd_40 ?_
      exact r_iret dX6_segmentEnd_41 rfl t
theorem dX6_joinedLength_0 : decode cX6_joinedLength 0 = .ok (.iload_n 1, 1) := by decide +kernel
theorem dX6_joinedLength_1 : decode cX6_joinedLength 1 = .ok (.bipush 24, 2) := by decide +kernel
theorem dX6_joinedLength_3 : decode cX6_joinedLength 3 = .ok (.imul, 1) := by decide +kernel
theorem dX6_joinedLength_4 : decode cX6_joinedLength 4 = .ok (.istore_n 3, 1) := by decide +kernel
theorem dX6_joinedLength_5 : decode cX6_joinedLength 5 = .ok (.iload_n 2, 1) := by decide +kernel
theorem dX6_joinedLength_6 : decode cX6_joinedLength 6 = .ok (.istore 4, 2) := by decide +kernel
theorem dX6_joinedLength_8 : decode cX6_joinedLength 8 = .ok (.iload_n 2, 1) := by decide +kernel
theorem dX6_joinedLength_9 : decode cX6_joinedLength 9 = .ok (.iconst 1, 1) := by decide +kernel
theorem dX6_joinedLength_10 : decode cX6_joinedLength 10 = .ok (.isub, 1) := by decide +kernel
theorem dX6_joinedLength_11 : decode cX6_joinedLength 11 = .ok (.istore 5, 2) := by decide +kernel
theorem dX6_joinedLength_13 : decode cX6_joinedLength 13 = .ok (.iload 5, 2) := by decide +kernel
theorem dX6_joinedLength_15 : decode cX6_joinedLength 15 = .ok (.ifCond .lt 25, 3) := by decide +kernel
theorem dX6_joinedLength_18 : decode cX6_joinedLength 18 = .ok (.aload_n 0, 1) := by decide +kernel
theorem dX6_joinedLength_19 : decode cX6_joinedLength 19 = .ok (.getfield 50, 3) := by decide +kernel
theorem dX6_joinedLength_22 : decode cX6_joinedLength 22 = .ok (.iload_n 3, 1) := by decide +kernel
theorem dX6_joinedLength_23 : decode cX6_joinedLength 23 = .ok (.iload 5, 2) := by decide +kernel
theorem dX6_joinedLength_25 : decode cX6_joinedLength 25 = .ok (.iadd, 1) := by decide +kernel
theorem dX6_joinedLength_26 : decode cX6_joinedLength 26 = .ok (.baload, 1) := by decide +kernel
theorem dX6_joinedLength_27 : decode cX6_joinedLength 27 = .ok (.ifCond .ne 13, 3) := by decide +kernel
theorem dX6_joinedLength_30 : decode cX6_joinedLength 30 = .ok (.iload 5, 2) := by decide +kernel
theorem dX6_joinedLength_32 : decode cX6_joinedLength 32 = .ok (.istore 4, 2) := by decide +kernel
theorem dX6_joinedLength_34 : decode cX6_joinedLength 34 = .ok (.iinc 5 (-1), 3) := by decide +kernel
theorem dX6_joinedLength_37 : decode cX6_joinedLength 37 = .ok (.goto (-24), 3) := by decide +kernel
theorem dX6_joinedLength_40 : decode cX6_joinedLength 40 = .ok (.aload_n 0, 1) := by decide +kernel
theorem dX6_joinedLength_41 : decode cX6_joinedLength 41 = .ok (.iload_n 1, 1) := by decide +kernel
theorem dX6_joinedLength_42 : decode cX6_joinedLength 42 = .ok (.iload_n 2, 1) := by decide +kernel
theorem dX6_joinedLength_43 : decode cX6_joinedLength 43 = .ok (.iconst 1, 1) := by decide +kernel
theorem dX6_joinedLength_44 : decode cX6_joinedLength 44 = .ok (.iadd, 1) := by decide +kernel
theorem dX6_joinedLength_45 : decode cX6_joinedLength 45 = .ok (.invokevirtual 58, 3) := by decide +kernel
theorem dX6_joinedLength_48 : decode cX6_joinedLength 48 = .ok (.iload 4, 2) := by decide +kernel
theorem dX6_joinedLength_50 : decode cX6_joinedLength 50 = .ok (.isub, 1) := by decide +kernel
theorem dX6_joinedLength_51 : decode cX6_joinedLength 51 = .ok (.ireturn, 1) := by decide +kernel
abbrev VX6_joinedLength_13 (E : En) (d : Nat) (g : Ga) (P : Int32 → Hp → Prop) (x1 : Int32) (x2 : Int32) (x3 : Int32) (x4 : Int32) (x5 : Int32) (h : Hp) : Prop := V E MX6_joinedLength (RM (d + 1) 0) g (QQ E g (QI E P) 0 0) 0 0 h 13 [(0, .ref (eA E 5)), (1, .int x1), (2, .int x2), (3, .int x3), (4, .int x4), (5, .int x5)] []
set_option maxRecDepth 20000 in
theorem wp_X6_joinedLength (E : En) (d : Nat) (a1 : Int32) (a2 : Int32) (h : Hp) (P : Int32 → Hp → Prop) (t : ∀ g : Ga, VX6_joinedLength_13 E d g P a1 a2 (a1 * (24 : Int32)) a2 (a2 - (1 : Int32)) h) : SpI E (d + 1) MX6_joinedLength [.ref (eA E 5), .int a1, .int a2] h P := by
  refine SpI.of (lv0 := [(0, .ref (eA E 5)), (1, .int a1), (2, .int a2)]) (by decide) (Nat.le_of_ble_eq_true rfl) rfl (fun g => ?_)
  have t := t g
  refine r_iload_n (q := 1) dX6_joinedLength_0 rfl rfl ?_
  refine r_bipush (v := (24 : Int32)) dX6_joinedLength_1 rfl ?_
  refine r_imul dX6_joinedLength_3 ?_
  refine r_istore_n (lv' := [(3, .int (a1 * (24 : Int32))), (0, .ref (eA E 5)), (1, .int a1), (2, .int a2)]) dX6_joinedLength_4 rfl (by decide) rfl ?_
  refine r_iload_n (q := 3) dX6_joinedLength_5 rfl rfl ?_
  refine r_istore (lv' := [(4, .int a2), (3, .int (a1 * (24 : Int32))), (0, .ref (eA E 5)), (1, .int a1), (2, .int a2)]) dX6_joinedLength_6 (by decide) rfl ?_
  refine r_iload_n (q := 4) dX6_joinedLength_8 rfl rfl ?_
  refine r_iconst (v := (1 : Int32)) dX6_joinedLength_9 rfl ?_
  refine r_isub dX6_joinedLength_10 ?_
  refine r_istore (lv' := [(5, .int (a2 - (1 : Int32))), (4, .int a2), (3, .int (a1 * (24 : Int32))), (0, .ref (eA E 5)), (1, .int a1), (2, .int a2)]) dX6_joinedLength_11 (by decide) rfl ?_
  refine r_sub [3, 4, 5, 2, 1, 0] rfl ?_
  exact t
set_option maxRecDepth 20000 in
theorem sg_X6_joinedLength_13 (E : En) (d : Nat) (g : Ga) (x1 : Int32) (x2 : Int32) (x3 : Int32) (x4 : Int32) (x5 : Int32) (h : Hp) (P : Int32 → Hp → Prop) (t : (x5 < 0 → (SpI E d MX6_segmentEnd [.ref (eA E 5), .int x1, .int (x2 + (1 : Int32))] h (fun v2 h2 => P (v2 - x4) h2))) ∧ (¬ x5 < 0 → (vp_in (x3 + x5) 192 ∧ ((¬ (h.1 16 ((x3 + x5).toNatClampNeg)) = 0 → (SpI E d MX6_segmentEnd [.ref (eA E 5), .int x1, .int (x2 + (1 : Int32))] h (fun v5 h5 => P (v5 - x4) h5))) ∧ ((h.1 16 ((x3 + x5).toNatClampNeg)) = 0 → (VX6_joinedLength_13 E d g P x1 x2 x3 x5 (x5 + (-1 : Int32)) h)))))) : VX6_joinedLength_13 E d g P x1 x2 x3 x4 x5 h := by
  refine r_iload (q := 5) dX6_joinedLength_13 rfl ?_
  refine r_if_lt (tgt := 40) dX6_joinedLength_15 (by decide) (fun q1 => ?_) (fun q1 => ?_)
  · have t := t.1 q1
    refine r_aload_n (q := 0) dX6_joinedLength_40 rfl rfl ?_
    refine r_iload_n (q := 1) dX6_joinedLength_41 rfl rfl ?_
    refine r_iload_n (q := 2) dX6_joinedLength_42 rfl rfl ?_
    refine r_iconst (v := (1 : Int32)) dX6_joinedLength_43 rfl ?_
    refine r_iadd dX6_joinedLength_44 ?_
    refine r_cVI (c := 5) (As := [.int x1, .int (x2 + (1 : Int32))]) dX6_joinedLength_45 mkX6_segmentEnd lkX6_58 lay_5 rfl rfl rfl (by decide) rfl (Nat.le_of_ble_eq_true rfl) z00 t ?_
    intro v2 h2 t
    refine r_iload (q := 4) dX6_joinedLength_48 rfl ?_
    refine r_isub dX6_joinedLength_50 ?_
    exact r_iret dX6_joinedLength_51 rfl t
  · have t := t.2 q1
    refine r_aload_n (q := 0) dX6_joinedLength_18 rfl rfl ?_
    refine r_getR (c := 5) (c2 := 16) dX6_joinedLength_19 flX6_50 lay_5 rfl ?_
    refine r_iload_n (q := 3) dX6_joinedLength_22 rfl rfl ?_
    refine r_iload (q := 5) dX6_joinedLength_23 rfl ?_
    refine r_iadd dX6_joinedLength_25 ?_
    obtain ⟨c3, t⟩ := t
    refine r_zald (c := 16) dX6_joinedLength_26 lay_16 c3 ?_
    refine r_if_ne (tgt := 40) dX6_joinedLength_27 (by decide) (fun q4 => ?_) (fun q4 => ?_)
    · have t := t.1 q4
      refine r_aload_n (q := 0) dX6_joinedLength_40 rfl rfl ?_
      refine r_iload_n (q := 1) dX6_joinedLength_41 rfl rfl ?_
      refine r_iload_n (q := 2) dX6_joinedLength_42 rfl rfl ?_
      refine r_iconst (v := (1 : Int32)) dX6_joinedLength_43 rfl ?_
      refine r_iadd dX6_joinedLength_44 ?_
      refine r_cVI (c := 5) (As := [.int x1, .int (x2 + (1 : Int32))]) dX6_joinedLength_45 mkX6_segmentEnd lkX6_58 lay_5 rfl rfl rfl (by decide) rfl (Nat.le_of_ble_eq_true rfl) z00 t ?_
      intro v5 h5 t
      refine r_iload (q := 4) dX6_joinedLength_48 rfl ?_
      refine r_isub dX6_joinedLength_50 ?_
      exact r_iret dX6_joinedLength_51 rfl t
    · have t := t.2 q4
      refine r_iload (q := 5) dX6_joinedLength_30 rfl ?_
      refine r_istore (lv' := [(4, .int x5), (0, .ref (eA E 5)), (1, .int x1), (2, .int x2), (3, .int x3), (5, .int x5)]) dX6_joinedLength_32 (by decide) rfl ?_
      refine r_iinc (k := 5) (v := x5 + (-1 : Int32)) (lv' := [(5, .int (x5 + (-1 : Int32))), (4, .int x5), (0, .ref (eA E 5)), (1, .int x1), (2, .int x2), (3, .int x3)]) dX6_joinedLength_34 rfl rfl (by decide) rfl ?_
      refine r_goto (tgt := 13) dX6_joinedLength_37 (by decide) ?_
      refine r_sub [2, 3, 4, 5, 1, 0] rfl ?_
      exact t
theorem dX1_forget_0 : decode cX1_forget 0 = .ok (.aload_n 0, 1) := by decide +kernel
theorem dX1_forget_1 : decode cX1_forget 1 = .ok (.iconst 0, 1) := by decide +kernel
theorem dX1_forget_2 : decode cX1_forget 2 = .ok (.putfield 18, 3) := by decide +kernel
theorem dX1_forget_5 : decode cX1_forget 5 = .ok (.return_, 1) := by decide +kernel
set_option maxRecDepth 20000 in
theorem wp_X1_forget (E : En) (d : Nat) (h : Hp) (P : Hp → Prop) (t : P (sI h 29 2 (0 : Int32))) : SpV E d MX1_forget [.ref (eA E 29)] h P := by
  refine SpV.of (lv0 := [(0, .ref (eA E 29))]) (by decide) (Nat.le_of_ble_eq_true rfl) rfl (fun g => ?_)
  refine r_aload_n (q := 0) dX1_forget_0 rfl rfl ?_
  refine r_iconst (v := (0 : Int32)) dX1_forget_1 rfl ?_
  refine r_putI (c := 29) dX1_forget_2 flX1_18 lay_29 rfl ?_
  exact r_vret dX1_forget_5 rfl t
theorem dX1_remember_0 : decode cX1_remember 0 = .ok (.aload_n 0, 1) := by decide +kernel
theorem dX1_remember_1 : decode cX1_remember 1 = .ok (.getfield 18, 3) := by decide +kernel
theorem dX1_remember_4 : decode cX1_remember 4 = .ok (.bipush 8, 2) := by decide +kernel
theorem dX1_remember_6 : decode cX1_remember 6 = .ok (.if_icmp .ne 55, 3) := by decide +kernel
theorem dX1_remember_9 : decode cX1_remember 9 = .ok (.iconst 1, 1) := by decide +kernel
theorem dX1_remember_10 : decode cX1_remember 10 = .ok (.istore_n 3, 1) := by decide +kernel
theorem dX1_remember_11 : decode cX1_remember 11 = .ok (.iload_n 3, 1) := by decide +kernel
theorem dX1_remember_12 : decode cX1_remember 12 = .ok (.bipush 8, 2) := by decide +kernel
theorem dX1_remember_14 : decode cX1_remember 14 = .ok (.if_icmp .ge 37, 3) := by decide +kernel
theorem dX1_remember_17 : decode cX1_remember 17 = .ok (.aload_n 0, 1) := by decide +kernel
theorem dX1_remember_18 : decode cX1_remember 18 = .ok (.getfield 9, 3) := by decide +kernel
theorem dX1_remember_21 : decode cX1_remember 21 = .ok (.iload_n 3, 1) := by decide +kernel
theorem dX1_remember_22 : decode cX1_remember 22 = .ok (.iconst 1, 1) := by decide +kernel
theorem dX1_remember_23 : decode cX1_remember 23 = .ok (.isub, 1) := by decide +kernel
theorem dX1_remember_24 : decode cX1_remember 24 = .ok (.aload_n 0, 1) := by decide +kernel
theorem dX1_remember_25 : decode cX1_remember 25 = .ok (.getfield 9, 3) := by decide +kernel
theorem dX1_remember_28 : decode cX1_remember 28 = .ok (.iload_n 3, 1) := by decide +kernel
theorem dX1_remember_29 : decode cX1_remember 29 = .ok (.iaload, 1) := by decide +kernel
theorem dX1_remember_30 : decode cX1_remember 30 = .ok (.iastore, 1) := by decide +kernel
theorem dX1_remember_31 : decode cX1_remember 31 = .ok (.aload_n 0, 1) := by decide +kernel
theorem dX1_remember_32 : decode cX1_remember 32 = .ok (.getfield 15, 3) := by decide +kernel
theorem dX1_remember_35 : decode cX1_remember 35 = .ok (.iload_n 3, 1) := by decide +kernel
theorem dX1_remember_36 : decode cX1_remember 36 = .ok (.iconst 1, 1) := by decide +kernel
theorem dX1_remember_37 : decode cX1_remember 37 = .ok (.isub, 1) := by decide +kernel
theorem dX1_remember_38 : decode cX1_remember 38 = .ok (.aload_n 0, 1) := by decide +kernel
theorem dX1_remember_39 : decode cX1_remember 39 = .ok (.getfield 15, 3) := by decide +kernel
theorem dX1_remember_42 : decode cX1_remember 42 = .ok (.iload_n 3, 1) := by decide +kernel
theorem dX1_remember_43 : decode cX1_remember 43 = .ok (.iaload, 1) := by decide +kernel
theorem dX1_remember_44 : decode cX1_remember 44 = .ok (.iastore, 1) := by decide +kernel
theorem dX1_remember_45 : decode cX1_remember 45 = .ok (.iinc 3 1, 3) := by decide +kernel
theorem dX1_remember_48 : decode cX1_remember 48 = .ok (.goto (-37), 3) := by decide +kernel
theorem dX1_remember_51 : decode cX1_remember 51 = .ok (.aload_n 0, 1) := by decide +kernel
theorem dX1_remember_52 : decode cX1_remember 52 = .ok (.dup, 1) := by decide +kernel
theorem dX1_remember_53 : decode cX1_remember 53 = .ok (.getfield 18, 3) := by decide +kernel
theorem dX1_remember_56 : decode cX1_remember 56 = .ok (.iconst 1, 1) := by decide +kernel
theorem dX1_remember_57 : decode cX1_remember 57 = .ok (.isub, 1) := by decide +kernel
theorem dX1_remember_58 : decode cX1_remember 58 = .ok (.putfield 18, 3) := by decide +kernel
theorem dX1_remember_61 : decode cX1_remember 61 = .ok (.aload_n 0, 1) := by decide +kernel
theorem dX1_remember_62 : decode cX1_remember 62 = .ok (.getfield 9, 3) := by decide +kernel
theorem dX1_remember_65 : decode cX1_remember 65 = .ok (.aload_n 0, 1) := by decide +kernel
theorem dX1_remember_66 : decode cX1_remember 66 = .ok (.getfield 18, 3) := by decide +kernel
theorem dX1_remember_69 : decode cX1_remember 69 = .ok (.iload_n 1, 1) := by decide +kernel
theorem dX1_remember_70 : decode cX1_remember 70 = .ok (.iastore, 1) := by decide +kernel
theorem dX1_remember_71 : decode cX1_remember 71 = .ok (.aload_n 0, 1) := by decide +kernel
theorem dX1_remember_72 : decode cX1_remember 72 = .ok (.getfield 15, 3) := by decide +kernel
theorem dX1_remember_75 : decode cX1_remember 75 = .ok (.aload_n 0, 1) := by decide +kernel
theorem dX1_remember_76 : decode cX1_remember 76 = .ok (.getfield 18, 3) := by decide +kernel
theorem dX1_remember_79 : decode cX1_remember 79 = .ok (.iload_n 2, 1) := by decide +kernel
theorem dX1_remember_80 : decode cX1_remember 80 = .ok (.iastore, 1) := by decide +kernel
theorem dX1_remember_81 : decode cX1_remember 81 = .ok (.aload_n 0, 1) := by decide +kernel
theorem dX1_remember_82 : decode cX1_remember 82 = .ok (.dup, 1) := by decide +kernel
theorem dX1_remember_83 : decode cX1_remember 83 = .ok (.getfield 18, 3) := by decide +kernel
theorem dX1_remember_86 : decode cX1_remember 86 = .ok (.iconst 1, 1) := by decide +kernel
theorem dX1_remember_87 : decode cX1_remember 87 = .ok (.iadd, 1) := by decide +kernel
theorem dX1_remember_88 : decode cX1_remember 88 = .ok (.putfield 18, 3) := by decide +kernel
theorem dX1_remember_91 : decode cX1_remember 91 = .ok (.return_, 1) := by decide +kernel
abbrev VX1_remember_11 (E : En) (d : Nat) (g : Ga) (P : Hp → Prop) (x1 : Int32) (x2 : Int32) (x3 : Int32) (h : Hp) : Prop := V E MX1_remember (RM d 0) g (QQ E g (QV E P) 0 0) 0 0 h 11 [(0, .ref (eA E 29)), (1, .int x1), (2, .int x2), (3, .int x3)] []
set_option maxRecDepth 20000 in
theorem wp_X1_remember (E : En) (d : Nat) (a1 : Int32) (a2 : Int32) (h : Hp) (P : Hp → Prop) (t : ∀ g : Ga, (¬ (h.1 29 2) = (8 : Int32) → (vp_in (h.1 29 2) 8 ∧ (vp_in (h.1 29 2) 8 ∧ (P (sI (sI (sI h 30 ((h.1 29 2).toNatClampNeg) a1) 31 ((h.1 29 2).toNatClampNeg) a2) 29 2 ((h.1 29 2) + (1 : Int32))))))) ∧ ((h.1 29 2) = (8 : Int32) → (VX1_remember_11 E d g P a1 a2 (1 : Int32) h))) : SpV E d MX1_remember [.ref (eA E 29), .int a1, .int a2] h P := by
  refine SpV.of (lv0 := [(0, .ref (eA E 29)), (1, .int a1), (2, .int a2)]) (by decide) (Nat.le_of_ble_eq_true rfl) rfl (fun g => ?_)
  have t := t g
  refine r_aload_n (q := 0) dX1_remember_0 rfl rfl ?_
  refine r_getI (c := 29) dX1_remember_1 flX1_18 lay_29 rfl ?_
  refine r_bipush (v := (8 : Int32)) dX1_remember_4 rfl ?_
  refine r_icmp_ne (tgt := 61) dX1_remember_6 (by decide) (fun q1 => ?_) (fun q1 => ?_)
  · have t := t.1 q1
    refine r_aload_n (q := 0) dX1_remember_61 rfl rfl ?_
    refine r_getR (c := 29) (c2 := 30) dX1_remember_62 flX1_9 lay_29 rfl ?_
    refine r_aload_n (q := 0) dX1_remember_65 rfl rfl ?_
    refine r_getI (c := 29) dX1_remember_66 flX1_18 lay_29 rfl ?_
    refine r_iload_n (q := 1) dX1_remember_69 rfl rfl ?_
    obtain ⟨c2, t⟩ := t
    refine r_iast (c := 30) dX1_remember_70 lay_30 c2 ?_
    refine r_aload_n (q := 0) dX1_remember_71 rfl rfl ?_
    refine r_getR (c := 29) (c2 := 31) dX1_remember_72 flX1_15 lay_29 rfl ?_
    refine r_aload_n (q := 0) dX1_remember_75 rfl rfl ?_
    refine r_getIv (c := 29) (v := h.1 29 2) dX1_remember_76 flX1_18 lay_29 rfl rfl ?_
    refine r_iload_n (q := 2) dX1_remember_79 rfl rfl ?_
    obtain ⟨c3, t⟩ := t
    refine r_iast (c := 31) dX1_remember_80 lay_31 c3 ?_
    refine r_aload_n (q := 0) dX1_remember_81 rfl rfl ?_
    refine r_dup dX1_remember_82 rfl ?_
    refine r_getIv (c := 29) (v := h.1 29 2) dX1_remember_83 flX1_18 lay_29 rfl rfl ?_
    refine r_iconst (v := (1 : Int32)) dX1_remember_86 rfl ?_
    refine r_iadd dX1_remember_87 ?_
    refine r_putI (c := 29) dX1_remember_88 flX1_18 lay_29 rfl ?_
    exact r_vret dX1_remember_91 rfl t
  · have t := t.2 q1
    refine r_iconst (v := (1 : Int32)) dX1_remember_9 rfl ?_
    refine r_istore_n (lv' := [(3, .int (1 : Int32)), (0, .ref (eA E 29)), (1, .int a1), (2, .int a2)]) dX1_remember_10 rfl (by decide) rfl ?_
    refine r_sub [1, 2, 3, 0] rfl ?_
    exact t
set_option maxRecDepth 20000 in
theorem sg_X1_remember_11 (E : En) (d : Nat) (g : Ga) (x1 : Int32) (x2 : Int32) (x3 : Int32) (h : Hp) (P : Hp → Prop) (t : ((8 : Int32) ≤ x3 → (vp_in ((h.1 29 2) - (1 : Int32)) 8 ∧ (vp_in ((h.1 29 2) - (1 : Int32)) 8 ∧ (P (sI (sI (sI (sI h 29 2 ((h.1 29 2) - (1 : Int32))) 30 (((h.1 29 2) - (1 : Int32)).toNatClampNeg) x1) 31 (((h.1 29 2) - (1 : Int32)).toNatClampNeg) x2) 29 2 (((h.1 29 2) - (1 : Int32)) + (1 : Int32))))))) ∧ (¬ (8 : Int32) ≤ x3 → (vp_in x3 8 ∧ (vp_in (x3 - (1 : Int32)) 8 ∧ (vp_in x3 8 ∧ (vp_in (x3 - (1 : Int32)) 8 ∧ (VX1_remember_11 E d g P x1 x2 (x3 + (1 : Int32)) (sI (sI h 30 ((x3 - (1 : Int32)).toNatClampNeg) (h.1 30 x3.toNatClampNeg)) 31 ((x3 - (1 : Int32)).toNatClampNeg) (h.1 31 x3.toNatClampNeg))))))))) : VX1_remember_11 E d g P x1 x2 x3 h := by
  refine r_iload_n (q := 3) dX1_remember_11 rfl rfl ?_
  refine r_bipush (v := (8 : Int32)) dX1_remember_12 rfl ?_
  refine r_icmp_ge (tgt := 51) dX1_remember_14 (by decide) (fun q1 => ?_) (fun q1 => ?_)
  · have t := t.1 q1
    refine r_aload_n (q := 0) dX1_remember_51 rfl rfl ?_
    refine r_dup dX1_remember_52 rfl ?_
    refine r_getI (c := 29) dX1_remember_53 flX1_18 lay_29 rfl ?_
    refine r_iconst (v := (1 : Int32)) dX1_remember_56 rfl ?_
    refine r_isub dX1_remember_57 ?_
    refine r_putI (c := 29) dX1_remember_58 flX1_18 lay_29 rfl ?_
    refine r_aload_n (q := 0) dX1_remember_61 rfl rfl ?_
    refine r_getR (c := 29) (c2 := 30) dX1_remember_62 flX1_9 lay_29 rfl ?_
    refine r_aload_n (q := 0) dX1_remember_65 rfl rfl ?_
    refine r_getIv (c := 29) (v := (h.1 29 2) - (1 : Int32)) dX1_remember_66 flX1_18 lay_29 rfl rfl ?_
    refine r_iload_n (q := 1) dX1_remember_69 rfl rfl ?_
    obtain ⟨c2, t⟩ := t
    refine r_iast (c := 30) dX1_remember_70 lay_30 c2 ?_
    refine r_aload_n (q := 0) dX1_remember_71 rfl rfl ?_
    refine r_getR (c := 29) (c2 := 31) dX1_remember_72 flX1_15 lay_29 rfl ?_
    refine r_aload_n (q := 0) dX1_remember_75 rfl rfl ?_
    refine r_getIv (c := 29) (v := (h.1 29 2) - (1 : Int32)) dX1_remember_76 flX1_18 lay_29 rfl rfl ?_
    refine r_iload_n (q := 2) dX1_remember_79 rfl rfl ?_
    obtain ⟨c3, t⟩ := t
    refine r_iast (c := 31) dX1_remember_80 lay_31 c3 ?_
    refine r_aload_n (q := 0) dX1_remember_81 rfl rfl ?_
    refine r_dup dX1_remember_82 rfl ?_
    refine r_getIv (c := 29) (v := (h.1 29 2) - (1 : Int32)) dX1_remember_83 flX1_18 lay_29 rfl rfl ?_
    refine r_iconst (v := (1 : Int32)) dX1_remember_86 rfl ?_
    refine r_iadd dX1_remember_87 ?_
    refine r_putI (c := 29) dX1_remember_88 flX1_18 lay_29 rfl ?_
    exact r_vret dX1_remember_91 rfl t
  · have t := t.2 q1
    refine r_aload_n (q := 0) dX1_remember_17 rfl rfl ?_
    refine r_getR (c := 29) (c2 := 30) dX1_remember_18 flX1_9 lay_29 rfl ?_
    refine r_iload_n (q := 3) dX1_remember_21 rfl rfl ?_
    refine r_iconst (v := (1 : Int32)) dX1_remember_22 rfl ?_
    refine r_isub dX1_remember_23 ?_
    refine r_aload_n (q := 0) dX1_remember_24 rfl rfl ?_
    refine r_getR (c := 29) (c2 := 30) dX1_remember_25 flX1_9 lay_29 rfl ?_
    refine r_iload_n (q := 3) dX1_remember_28 rfl rfl ?_
    obtain ⟨c4, t⟩ := t
    refine r_iald (c := 30) dX1_remember_29 lay_30 c4 ?_
    obtain ⟨c5, t⟩ := t
    refine r_iast (c := 30) dX1_remember_30 lay_30 c5 ?_
    refine r_aload_n (q := 0) dX1_remember_31 rfl rfl ?_
    refine r_getR (c := 29) (c2 := 31) dX1_remember_32 flX1_15 lay_29 rfl ?_
    refine r_iload_n (q := 3) dX1_remember_35 rfl rfl ?_
    refine r_iconst (v := (1 : Int32)) dX1_remember_36 rfl ?_
    refine r_isub dX1_remember_37 ?_
    refine r_aload_n (q := 0) dX1_remember_38 rfl rfl ?_
    refine r_getR (c := 29) (c2 := 31) dX1_remember_39 flX1_15 lay_29 rfl ?_
    refine r_iload_n (q := 3) dX1_remember_42 rfl rfl ?_
    obtain ⟨c6, t⟩ := t
    refine r_ialdv (c := 31) (v := h.1 31 x3.toNatClampNeg) dX1_remember_43 lay_31 c6 rfl ?_
    obtain ⟨c7, t⟩ := t
    refine r_iast (c := 31) dX1_remember_44 lay_31 c7 ?_
    refine r_iinc (k := 3) (v := x3 + (1 : Int32)) (lv' := [(3, .int (x3 + (1 : Int32))), (0, .ref (eA E 29)), (1, .int x1), (2, .int x2)]) dX1_remember_45 rfl rfl (by decide) rfl ?_
    refine r_goto (tgt := 11) dX1_remember_48 (by decide) ?_
    refine r_sub [1, 2, 3, 0] rfl ?_
    exact t
