theorem dX0_know_0 : decode cX0_know 0 = .ok (.aload_n 0, 1) := by decide +kernel
theorem dX0_know_1 : decode cX0_know 1 = .ok (.getfield 9, 3) := by decide +kernel
theorem dX0_know_4 : decode cX0_know 4 = .ok (.ifCond .ne 24, 3) := by decide +kernel
theorem dX0_know_7 : decode cX0_know 7 = .ok (.aload_n 0, 1) := by decide +kernel
theorem dX0_know_8 : decode cX0_know 8 = .ok (.iconst 1, 1) := by decide +kernel
theorem dX0_know_9 : decode cX0_know 9 = .ok (.putfield 9, 3) := by decide +kernel
theorem dX0_know_12 : decode cX0_know 12 = .ok (.aload_n 0, 1) := by decide +kernel
theorem dX0_know_13 : decode cX0_know 13 = .ok (.aload_n 1, 1) := by decide +kernel
theorem dX0_know_14 : decode cX0_know 14 = .ok (.invokevirtual 41, 3) := by decide +kernel
theorem dX0_know_17 : decode cX0_know 17 = .ok (.istore_n 2, 1) := by decide +kernel
theorem dX0_know_18 : decode cX0_know 18 = .ok (.aload_n 0, 1) := by decide +kernel
theorem dX0_know_19 : decode cX0_know 19 = .ok (.iload_n 2, 1) := by decide +kernel
theorem dX0_know_20 : decode cX0_know 20 = .ok (.invokevirtual 45, 3) := by decide +kernel
theorem dX0_know_23 : decode cX0_know 23 = .ok (.aload_n 0, 1) := by decide +kernel
theorem dX0_know_24 : decode cX0_know 24 = .ok (.iload_n 2, 1) := by decide +kernel
theorem dX0_know_25 : decode cX0_know 25 = .ok (.invokevirtual 49, 3) := by decide +kernel
theorem dX0_know_28 : decode cX0_know 28 = .ok (.return_, 1) := by decide +kernel
set_option maxRecDepth 20000 in
theorem wp_X0_know (E : En) (d : Nat) (h : Hp) (P : Hp → Prop) (t : (¬ (h.1 51 0) = 0 → (P h)) ∧ ((h.1 51 0) = 0 → (SpI E d MX0_collect [.ref (eA E 51), .ref (eA E 46)] (sI h 51 0 (1 : Int32)) (fun v2 h2 => SpV E d MX0_search [.ref (eA E 51), .int v2] h2 (fun h3 => SpV E d MX0_divide [.ref (eA E 51), .int v2] h3 (fun h4 => P h4)))))) : SpV E (d + 1) MX0_know [.ref (eA E 51), .ref (eA E 46)] h P := by
  refine SpV.of (lv0 := [(0, .ref (eA E 51)), (1, .ref (eA E 46))]) (by decide) (Nat.le_of_ble_eq_true rfl) rfl (fun g => ?_)
  refine r_aload_n (q := 0) dX0_know_0 rfl rfl ?_
  refine r_getI (c := 51) dX0_know_1 flX0_9 lay_51 rfl ?_
  refine r_if_ne (tgt := 28) dX0_know_4 (by decide) (fun q1 => ?_) (fun q1 => ?_)
  · have t := t.1 q1
    exact r_vret dX0_know_28 rfl t
  · have t := t.2 q1
    refine r_aload_n (q := 0) dX0_know_7 rfl rfl ?_
    refine r_iconst (v := (1 : Int32)) dX0_know_8 rfl ?_
    refine r_putZ (c := 51) dX0_know_9 flX0_9 lay_51 rfl (Or.inr rfl) ?_
    refine r_aload_n (q := 0) dX0_know_12 rfl rfl ?_
    refine r_aload_n (q := 1) dX0_know_13 rfl rfl ?_
    refine r_cVI (c := 51) (As := [.ref (eA E 46)]) dX0_know_14 mkX0_collect lkX0_41 lay_51 rfl rfl rfl (by decide) rfl (Nat.le_of_ble_eq_true rfl) z00 t ?_
    intro v2 h2 t
    refine r_istore_n (lv' := [(2, .int v2), (0, .ref (eA E 51)), (1, .ref (eA E 46))]) dX0_know_17 rfl (by decide) rfl ?_
    refine r_aload_n (q := 1) dX0_know_18 rfl rfl ?_
    refine r_iload_n (q := 0) dX0_know_19 rfl rfl ?_
    refine r_cVV (c := 51) (As := [.int v2]) dX0_know_20 mkX0_search lkX0_45 lay_51 rfl rfl rfl (by decide) rfl (Nat.le_of_ble_eq_true rfl) z00 t ?_
    intro h3 t
    refine r_aload_n (q := 1) dX0_know_23 rfl rfl ?_
    refine r_iload_n (q := 0) dX0_know_24 rfl rfl ?_
    refine r_cVV (c := 51) (As := [.int v2]) dX0_know_25 mkX0_divide lkX0_49 lay_51 rfl rfl rfl (by decide) rfl (Nat.le_of_ble_eq_true rfl) z00 t ?_
    intro h4 t
    exact r_vret dX0_know_28 rfl t
theorem dX0_collect_0 : decode cX0_collect 0 = .ok (.aload_n 0, 1) := by decide +kernel
theorem dX0_collect_1 : decode cX0_collect 1 = .ok (.getfield 32, 3) := by decide +kernel
theorem dX0_collect_4 : decode cX0_collect 4 = .ok (.iconst 0, 1) := by decide +kernel
theorem dX0_collect_5 : decode cX0_collect 5 = .ok (.invokestatic 52, 3) := by decide +kernel
theorem dX0_collect_8 : decode cX0_collect 8 = .ok (.iconst 0, 1) := by decide +kernel
theorem dX0_collect_9 : decode cX0_collect 9 = .ok (.istore_n 2, 1) := by decide +kernel
theorem dX0_collect_10 : decode cX0_collect 10 = .ok (.iconst 0, 1) := by decide +kernel
theorem dX0_collect_11 : decode cX0_collect 11 = .ok (.istore_n 3, 1) := by decide +kernel
theorem dX0_collect_12 : decode cX0_collect 12 = .ok (.iload_n 3, 1) := by decide +kernel
theorem dX0_collect_13 : decode cX0_collect 13 = .ok (.aload_n 1, 1) := by decide +kernel
theorem dX0_collect_14 : decode cX0_collect 14 = .ok (.getfield 58, 3) := by decide +kernel
theorem dX0_collect_17 : decode cX0_collect 17 = .ok (.if_icmp .ge 67, 3) := by decide +kernel
theorem dX0_collect_20 : decode cX0_collect 20 = .ok (.aload_n 1, 1) := by decide +kernel
theorem dX0_collect_21 : decode cX0_collect 21 = .ok (.getfield 63, 3) := by decide +kernel
theorem dX0_collect_24 : decode cX0_collect 24 = .ok (.iload_n 3, 1) := by decide +kernel
theorem dX0_collect_25 : decode cX0_collect 25 = .ok (.iaload, 1) := by decide +kernel
theorem dX0_collect_26 : decode cX0_collect 26 = .ok (.istore 4, 2) := by decide +kernel
theorem dX0_collect_28 : decode cX0_collect 28 = .ok (.iload_n 2, 1) := by decide +kernel
theorem dX0_collect_29 : decode cX0_collect 29 = .ok (.iload 4, 2) := by decide +kernel
theorem dX0_collect_31 : decode cX0_collect 31 = .ok (.ior, 1) := by decide +kernel
theorem dX0_collect_32 : decode cX0_collect 32 = .ok (.istore_n 2, 1) := by decide +kernel
theorem dX0_collect_33 : decode cX0_collect 33 = .ok (.iconst 0, 1) := by decide +kernel
theorem dX0_collect_34 : decode cX0_collect 34 = .ok (.istore 5, 2) := by decide +kernel
theorem dX0_collect_36 : decode cX0_collect 36 = .ok (.iload 5, 2) := by decide +kernel
theorem dX0_collect_38 : decode cX0_collect 38 = .ok (.bipush 12, 2) := by decide +kernel
theorem dX0_collect_40 : decode cX0_collect 40 = .ok (.if_icmp .ge 38, 3) := by decide +kernel
theorem dX0_collect_43 : decode cX0_collect 43 = .ok (.iload 4, 2) := by decide +kernel
theorem dX0_collect_45 : decode cX0_collect 45 = .ok (.iconst 1, 1) := by decide +kernel
theorem dX0_collect_46 : decode cX0_collect 46 = .ok (.iload 5, 2) := by decide +kernel
theorem dX0_collect_48 : decode cX0_collect 48 = .ok (.ishl, 1) := by decide +kernel
theorem dX0_collect_49 : decode cX0_collect 49 = .ok (.iand, 1) := by decide +kernel
theorem dX0_collect_50 : decode cX0_collect 50 = .ok (.ifCond .eq 22, 3) := by decide +kernel
theorem dX0_collect_53 : decode cX0_collect 53 = .ok (.aload_n 0, 1) := by decide +kernel
theorem dX0_collect_54 : decode cX0_collect 54 = .ok (.getfield 32, 3) := by decide +kernel
theorem dX0_collect_57 : decode cX0_collect 57 = .ok (.iload 5, 2) := by decide +kernel
theorem dX0_collect_59 : decode cX0_collect 59 = .ok (.dup2, 1) := by decide +kernel
theorem dX0_collect_60 : decode cX0_collect 60 = .ok (.iaload, 1) := by decide +kernel
theorem dX0_collect_61 : decode cX0_collect 61 = .ok (.iload 4, 2) := by decide +kernel
theorem dX0_collect_63 : decode cX0_collect 63 = .ok (.iconst 1, 1) := by decide +kernel
theorem dX0_collect_64 : decode cX0_collect 64 = .ok (.iload 5, 2) := by decide +kernel
theorem dX0_collect_66 : decode cX0_collect 66 = .ok (.ishl, 1) := by decide +kernel
theorem dX0_collect_67 : decode cX0_collect 67 = .ok (.iconst (-1), 1) := by decide +kernel
theorem dX0_collect_68 : decode cX0_collect 68 = .ok (.ixor, 1) := by decide +kernel
theorem dX0_collect_69 : decode cX0_collect 69 = .ok (.iand, 1) := by decide +kernel
theorem dX0_collect_70 : decode cX0_collect 70 = .ok (.ior, 1) := by decide +kernel
theorem dX0_collect_71 : decode cX0_collect 71 = .ok (.iastore, 1) := by decide +kernel
theorem dX0_collect_72 : decode cX0_collect 72 = .ok (.iinc 5 1, 3) := by decide +kernel
theorem dX0_collect_75 : decode cX0_collect 75 = .ok (.goto (-39), 3) := by decide +kernel
theorem dX0_collect_78 : decode cX0_collect 78 = .ok (.iinc 3 1, 3) := by decide +kernel
theorem dX0_collect_81 : decode cX0_collect 81 = .ok (.goto (-69), 3) := by decide +kernel
theorem dX0_collect_84 : decode cX0_collect 84 = .ok (.iload_n 2, 1) := by decide +kernel
theorem dX0_collect_85 : decode cX0_collect 85 = .ok (.ireturn, 1) := by decide +kernel
abbrev VX0_collect_12 (E : En) (d : Nat) (g : Ga) (P : Int32 → Hp → Prop) (x2 : Int32) (x3 : Int32) (h : Hp) : Prop := V E MX0_collect (RM (d + 1) 0) g (QQ E g (QI E P) 0 0) 0 0 h 12 [(0, .ref (eA E 51)), (1, .ref (eA E 46)), (2, .int x2), (3, .int x3)] []
abbrev VX0_collect_36 (E : En) (d : Nat) (g : Ga) (P : Int32 → Hp → Prop) (x2 : Int32) (x3 : Int32) (x4 : Int32) (x5 : Int32) (h : Hp) : Prop := V E MX0_collect (RM (d + 1) 0) g (QQ E g (QI E P) 0 0) 0 0 h 36 [(0, .ref (eA E 51)), (1, .ref (eA E 46)), (2, .int x2), (3, .int x3), (4, .int x4), (5, .int x5)] []
set_option maxRecDepth 20000 in
theorem wp_X0_collect (E : En) (d : Nat) (h : Hp) (P : Int32 → Hp → Prop) (t : ∀ g : Ga, SpV E d MJ7_fill_53178 [.ref (eA E 55), .int (0 : Int32)] h (fun h1 => VX0_collect_12 E d g P (0 : Int32) (0 : Int32) h1)) : SpI E (d + 1) MX0_collect [.ref (eA E 51), .ref (eA E 46)] h P := by
  refine SpI.of (lv0 := [(0, .ref (eA E 51)), (1, .ref (eA E 46))]) (by decide) (Nat.le_of_ble_eq_true rfl) rfl (fun g => ?_)
  have t := t g
  refine r_aload_n (q := 0) dX0_collect_0 rfl rfl ?_
  refine r_getR (c := 51) (c2 := 55) dX0_collect_1 flX0_32 lay_51 rfl ?_
  refine r_iconst (v := (0 : Int32)) dX0_collect_4 rfl ?_
  refine r_cSV (As := [.ref (eA E 55), .int (0 : Int32)]) dX0_collect_5 mkJ7_fill_53178 lkX0_52 rfl (by decide) rfl (Nat.le_of_ble_eq_true rfl) z00 t ?_
  intro h1 t
  refine r_iconst (v := (0 : Int32)) dX0_collect_8 rfl ?_
  refine r_istore_n (lv' := [(2, .int (0 : Int32)), (0, .ref (eA E 51)), (1, .ref (eA E 46))]) dX0_collect_9 rfl (by decide) rfl ?_
  refine r_iconst (v := (0 : Int32)) dX0_collect_10 rfl ?_
  refine r_istore_n (lv' := [(3, .int (0 : Int32)), (2, .int (0 : Int32)), (0, .ref (eA E 51)), (1, .ref (eA E 46))]) dX0_collect_11 rfl (by decide) rfl ?_
  refine r_sub [2, 3, 1, 0] rfl ?_
  exact t
set_option maxRecDepth 20000 in
theorem sg_X0_collect_12 (E : En) (d : Nat) (g : Ga) (x2 : Int32) (x3 : Int32) (h : Hp) (P : Int32 → Hp → Prop) (t : ((h.1 46 4) ≤ x3 → (P x2 h)) ∧ (¬ (h.1 46 4) ≤ x3 → (vp_in x3 192 ∧ (VX0_collect_36 E d g P (x2 ||| (h.1 47 x3.toNatClampNeg)) x3 (h.1 47 x3.toNatClampNeg) (0 : Int32) h)))) : VX0_collect_12 E d g P x2 x3 h := by
  refine r_iload_n (q := 3) dX0_collect_12 rfl rfl ?_
  refine r_aload_n (q := 1) dX0_collect_13 rfl rfl ?_
  refine r_getI (c := 46) dX0_collect_14 flX0_58 lay_46 rfl ?_
  refine r_icmp_ge (tgt := 84) dX0_collect_17 (by decide) (fun q1 => ?_) (fun q1 => ?_)
  · have t := t.1 q1
    refine r_iload_n (q := 2) dX0_collect_84 rfl rfl ?_
    exact r_iret dX0_collect_85 rfl t
  · have t := t.2 q1
    refine r_aload_n (q := 1) dX0_collect_20 rfl rfl ?_
    refine r_getR (c := 46) (c2 := 47) dX0_collect_21 flX0_63 lay_46 rfl ?_
    refine r_iload_n (q := 3) dX0_collect_24 rfl rfl ?_
    obtain ⟨c2, t⟩ := t
    refine r_iald (c := 47) dX0_collect_25 lay_47 c2 ?_
    refine r_istore (lv' := [(4, .int (h.1 47 x3.toNatClampNeg)), (0, .ref (eA E 51)), (1, .ref (eA E 46)), (2, .int x2), (3, .int x3)]) dX0_collect_26 (by decide) rfl ?_
    refine r_iload_n (q := 3) dX0_collect_28 rfl rfl ?_
    refine r_iload (q := 0) dX0_collect_29 rfl ?_
    refine r_ior dX0_collect_31 ?_
    refine r_istore_n (lv' := [(2, .int (x2 ||| (h.1 47 x3.toNatClampNeg))), (4, .int (h.1 47 x3.toNatClampNeg)), (0, .ref (eA E 51)), (1, .ref (eA E 46)), (3, .int x3)]) dX0_collect_32 rfl (by decide) rfl ?_
    refine r_iconst (v := (0 : Int32)) dX0_collect_33 rfl ?_
    refine r_istore (lv' := [(5, .int (0 : Int32)), (2, .int (x2 ||| (h.1 47 x3.toNatClampNeg))), (4, .int (h.1 47 x3.toNatClampNeg)), (0, .ref (eA E 51)), (1, .ref (eA E 46)), (3, .int x3)]) dX0_collect_34 (by decide) rfl ?_
    refine r_sub [3, 4, 1, 5, 2, 0] rfl ?_
    exact t
set_option maxRecDepth 20000 in
theorem sg_X0_collect_36 (E : En) (d : Nat) (g : Ga) (x2 : Int32) (x3 : Int32) (x4 : Int32) (x5 : Int32) (h : Hp) (P : Int32 → Hp → Prop) (t : ((12 : Int32) ≤ x5 → (VX0_collect_12 E d g P x2 (x3 + (1 : Int32)) h)) ∧ (¬ (12 : Int32) ≤ x5 → (((x4 &&& ((1 : Int32) <<< (x5 &&& 31))) = 0 → (VX0_collect_36 E d g P x2 x3 x4 (x5 + (1 : Int32)) h)) ∧ (¬ (x4 &&& ((1 : Int32) <<< (x5 &&& 31))) = 0 → (vp_in x5 12 ∧ (vp_in x5 12 ∧ (VX0_collect_36 E d g P x2 x3 x4 (x5 + (1 : Int32)) (sI h 55 x5.toNatClampNeg ((h.1 55 x5.toNatClampNeg) ||| (x4 &&& (((1 : Int32) <<< (x5 &&& 31)) ^^^ (-1 : Int32)))))))))))) : VX0_collect_36 E d g P x2 x3 x4 x5 h := by
  refine r_iload (q := 5) dX0_collect_36 rfl ?_
  refine r_bipush (v := (12 : Int32)) dX0_collect_38 rfl ?_
  refine r_icmp_ge (tgt := 78) dX0_collect_40 (by decide) (fun q1 => ?_) (fun q1 => ?_)
  · have t := t.1 q1
    refine r_iinc (k := 3) (v := x3 + (1 : Int32)) (lv' := [(3, .int (x3 + (1 : Int32))), (0, .ref (eA E 51)), (1, .ref (eA E 46)), (2, .int x2), (4, .int x4), (5, .int x5)]) dX0_collect_78 rfl rfl (by decide) rfl ?_
    refine r_goto (tgt := 12) dX0_collect_81 (by decide) ?_
    refine r_sub [1, 2, 3, 0] rfl ?_
    exact t
  · have t := t.2 q1
    refine r_iload (q := 4) dX0_collect_43 rfl ?_
    refine r_iconst (v := (1 : Int32)) dX0_collect_45 rfl ?_
    refine r_iload (q := 5) dX0_collect_46 rfl ?_
    refine r_ishl dX0_collect_48 ?_
    refine r_iand dX0_collect_49 ?_
    refine r_if_eq (tgt := 72) dX0_collect_50 (by decide) (fun q2 => ?_) (fun q2 => ?_)
    · have t := t.1 q2
      refine r_iinc (k := 5) (v := x5 + (1 : Int32)) (lv' := [(5, .int (x5 + (1 : Int32))), (0, .ref (eA E 51)), (1, .ref (eA E 46)), (2, .int x2), (3, .int x3), (4, .int x4)]) dX0_collect_72 rfl rfl (by decide) rfl ?_
      refine r_goto (tgt := 36) dX0_collect_75 (by decide) ?_
      refine r_sub [1, 2, 3, 4, 5, 0] rfl ?_
      exact t
    · have t := t.2 q2
      refine r_aload_n (q := 0) dX0_collect_53 rfl rfl ?_
      refine r_getR (c := 51) (c2 := 55) dX0_collect_54 flX0_32 lay_51 rfl ?_
      refine r_iload (q := 5) dX0_collect_57 rfl ?_
      refine r_dup2 dX0_collect_59 rfl rfl ?_
      obtain ⟨c3, t⟩ := t
      refine r_iald (c := 55) dX0_collect_60 lay_55 c3 ?_
      refine r_iload (q := 4) dX0_collect_61 rfl ?_
      refine r_iconst (v := (1 : Int32)) dX0_collect_63 rfl ?_
      refine r_iload (q := 5) dX0_collect_64 rfl ?_
      refine r_ishl dX0_collect_66 ?_
      refine r_iconst (v := (-1 : Int32)) dX0_collect_67 rfl ?_
      refine r_ixor dX0_collect_68 ?_
      refine r_iand dX0_collect_69 ?_
      refine r_ior dX0_collect_70 ?_
      obtain ⟨c4, t⟩ := t
      refine r_iast (c := 55) dX0_collect_71 lay_55 c4 ?_
      refine r_iinc (k := 5) (v := x5 + (1 : Int32)) (lv' := [(5, .int (x5 + (1 : Int32))), (0, .ref (eA E 51)), (1, .ref (eA E 46)), (2, .int x2), (3, .int x3), (4, .int x4)]) dX0_collect_72 rfl rfl (by decide) rfl ?_
      refine r_goto (tgt := 36) dX0_collect_75 (by decide) ?_
      refine r_sub [1, 2, 3, 4, 5, 0] rfl ?_
      exact t
theorem dX0_divide_0 : decode cX0_divide 0 = .ok (.aload_n 0, 1) := by decide +kernel
theorem dX0_divide_1 : decode cX0_divide 1 = .ok (.getfield 22, 3) := by decide +kernel
theorem dX0_divide_4 : decode cX0_divide 4 = .ok (.iconst (-1), 1) := by decide +kernel
theorem dX0_divide_5 : decode cX0_divide 5 = .ok (.invokestatic 52, 3) := by decide +kernel
theorem dX0_divide_8 : decode cX0_divide 8 = .ok (.aload_n 0, 1) := by decide +kernel
theorem dX0_divide_9 : decode cX0_divide 9 = .ok (.getfield 26, 3) := by decide +kernel
theorem dX0_divide_12 : decode cX0_divide 12 = .ok (.iconst 0, 1) := by decide +kernel
theorem dX0_divide_13 : decode cX0_divide 13 = .ok (.invokestatic 52, 3) := by decide +kernel
theorem dX0_divide_16 : decode cX0_divide 16 = .ok (.aload_n 0, 1) := by decide +kernel
theorem dX0_divide_17 : decode cX0_divide 17 = .ok (.iconst 0, 1) := by decide +kernel
theorem dX0_divide_18 : decode cX0_divide 18 = .ok (.putfield 15, 3) := by decide +kernel
theorem dX0_divide_21 : decode cX0_divide 21 = .ok (.aload_n 0, 1) := by decide +kernel
theorem dX0_divide_22 : decode cX0_divide 22 = .ok (.iconst 0, 1) := by decide +kernel
theorem dX0_divide_23 : decode cX0_divide 23 = .ok (.putfield 19, 3) := by decide +kernel
theorem dX0_divide_26 : decode cX0_divide 26 = .ok (.iload_n 1, 1) := by decide +kernel
theorem dX0_divide_27 : decode cX0_divide 27 = .ok (.istore_n 2, 1) := by decide +kernel
theorem dX0_divide_28 : decode cX0_divide 28 = .ok (.iconst 0, 1) := by decide +kernel
theorem dX0_divide_29 : decode cX0_divide 29 = .ok (.istore_n 3, 1) := by decide +kernel
theorem dX0_divide_30 : decode cX0_divide 30 = .ok (.iload_n 3, 1) := by decide +kernel
theorem dX0_divide_31 : decode cX0_divide 31 = .ok (.bipush 12, 2) := by decide +kernel
theorem dX0_divide_33 : decode cX0_divide 33 = .ok (.if_icmp .ge 34, 3) := by decide +kernel
theorem dX0_divide_36 : decode cX0_divide 36 = .ok (.iload_n 2, 1) := by decide +kernel
theorem dX0_divide_37 : decode cX0_divide 37 = .ok (.ifCond .eq 30, 3) := by decide +kernel
theorem dX0_divide_40 : decode cX0_divide 40 = .ok (.aload_n 0, 1) := by decide +kernel
theorem dX0_divide_41 : decode cX0_divide 41 = .ok (.getfield 38, 3) := by decide +kernel
theorem dX0_divide_44 : decode cX0_divide 44 = .ok (.iload_n 2, 1) := by decide +kernel
theorem dX0_divide_45 : decode cX0_divide 45 = .ok (.iaload, 1) := by decide +kernel
theorem dX0_divide_46 : decode cX0_divide 46 = .ok (.istore 4, 2) := by decide +kernel
theorem dX0_divide_48 : decode cX0_divide 48 = .ok (.aload_n 0, 1) := by decide +kernel
theorem dX0_divide_49 : decode cX0_divide 49 = .ok (.iload 4, 2) := by decide +kernel
theorem dX0_divide_51 : decode cX0_divide 51 = .ok (.invokevirtual 66, 3) := by decide +kernel
theorem dX0_divide_54 : decode cX0_divide 54 = .ok (.iload_n 2, 1) := by decide +kernel
theorem dX0_divide_55 : decode cX0_divide 55 = .ok (.iload 4, 2) := by decide +kernel
theorem dX0_divide_57 : decode cX0_divide 57 = .ok (.iconst (-1), 1) := by decide +kernel
theorem dX0_divide_58 : decode cX0_divide 58 = .ok (.ixor, 1) := by decide +kernel
theorem dX0_divide_59 : decode cX0_divide 59 = .ok (.iand, 1) := by decide +kernel
theorem dX0_divide_60 : decode cX0_divide 60 = .ok (.istore_n 2, 1) := by decide +kernel
theorem dX0_divide_61 : decode cX0_divide 61 = .ok (.iinc 3 1, 3) := by decide +kernel
theorem dX0_divide_64 : decode cX0_divide 64 = .ok (.goto (-34), 3) := by decide +kernel
theorem dX0_divide_67 : decode cX0_divide 67 = .ok (.return_, 1) := by decide +kernel
abbrev VX0_divide_30 (E : En) (d : Nat) (g : Ga) (P : Hp → Prop) (x1 : Int32) (x2 : Int32) (x3 : Int32) (h : Hp) : Prop := V E MX0_divide (RM (d + 1) 0) g (QQ E g (QV E P) 0 0) 0 0 h 30 [(0, .ref (eA E 51)), (1, .int x1), (2, .int x2), (3, .int x3)] []
set_option maxRecDepth 20000 in
theorem wp_X0_divide (E : En) (d : Nat) (a1 : Int32) (h : Hp) (P : Hp → Prop) (t : ∀ g : Ga, SpV E d MJ7_fill_53178 [.ref (eA E 52), .int (-1 : Int32)] h (fun h1 => SpV E d MJ7_fill_53178 [.ref (eA E 53), .int (0 : Int32)] h1 (fun h2 => VX0_divide_30 E d g P a1 a1 (0 : Int32) (sI (sI h2 51 1 (0 : Int32)) 51 2 (0 : Int32))))) : SpV E (d + 1) MX0_divide [.ref (eA E 51), .int a1] h P := by
  refine SpV.of (lv0 := [(0, .ref (eA E 51)), (1, .int a1)]) (by decide) (Nat.le_of_ble_eq_true rfl) rfl (fun g => ?_)
  have t := t g
  refine r_aload_n (q := 0) dX0_divide_0 rfl rfl ?_
  refine r_getR (c := 51) (c2 := 52) dX0_divide_1 flX0_22 lay_51 rfl ?_
  refine r_iconst (v := (-1 : Int32)) dX0_divide_4 rfl ?_
  refine r_cSV (As := [.ref (eA E 52), .int (-1 : Int32)]) dX0_divide_5 mkJ7_fill_53178 lkX0_52 rfl (by decide) rfl (Nat.le_of_ble_eq_true rfl) z00 t ?_
  intro h1 t
  refine r_aload_n (q := 0) dX0_divide_8 rfl rfl ?_
  refine r_getR (c := 51) (c2 := 53) dX0_divide_9 flX0_26 lay_51 rfl ?_
  refine r_iconst (v := (0 : Int32)) dX0_divide_12 rfl ?_
  refine r_cSV (As := [.ref (eA E 53), .int (0 : Int32)]) dX0_divide_13 mkJ7_fill_53178 lkX0_52 rfl (by decide) rfl (Nat.le_of_ble_eq_true rfl) z00 t ?_
  intro h2 t
  refine r_aload_n (q := 0) dX0_divide_16 rfl rfl ?_
  refine r_iconst (v := (0 : Int32)) dX0_divide_17 rfl ?_
  refine r_putI (c := 51) dX0_divide_18 flX0_15 lay_51 rfl ?_
  refine r_aload_n (q := 0) dX0_divide_21 rfl rfl ?_
  refine r_iconst (v := (0 : Int32)) dX0_divide_22 rfl ?_
  refine r_putI (c := 51) dX0_divide_23 flX0_19 lay_51 rfl ?_
  refine r_iload_n (q := 1) dX0_divide_26 rfl rfl ?_
  refine r_istore_n (lv' := [(2, .int a1), (0, .ref (eA E 51)), (1, .int a1)]) dX0_divide_27 rfl (by decide) rfl ?_
  refine r_iconst (v := (0 : Int32)) dX0_divide_28 rfl ?_
  refine r_istore_n (lv' := [(3, .int (0 : Int32)), (2, .int a1), (0, .ref (eA E 51)), (1, .int a1)]) dX0_divide_29 rfl (by decide) rfl ?_
  refine r_sub [2, 3, 1, 0] rfl ?_
  exact t
set_option maxRecDepth 20000 in
theorem sg_X0_divide_30 (E : En) (d : Nat) (g : Ga) (x1 : Int32) (x2 : Int32) (x3 : Int32) (h : Hp) (P : Hp → Prop) (t : ((12 : Int32) ≤ x3 → (P h)) ∧ (¬ (12 : Int32) ≤ x3 → ((x2 = 0 → (P h)) ∧ (¬ x2 = 0 → (vp_in x2 4096 ∧ (SpV E d MX0_addField [.ref (eA E 51), .int (h.1 57 x2.toNatClampNeg)] h (fun h4 => VX0_divide_30 E d g P x1 (x2 &&& ((h.1 57 x2.toNatClampNeg) ^^^ (-1 : Int32))) (x3 + (1 : Int32)) h4))))))) : VX0_divide_30 E d g P x1 x2 x3 h := by
  refine r_iload_n (q := 3) dX0_divide_30 rfl rfl ?_
  refine r_bipush (v := (12 : Int32)) dX0_divide_31 rfl ?_
  refine r_icmp_ge (tgt := 67) dX0_divide_33 (by decide) (fun q1 => ?_) (fun q1 => ?_)
  · have t := t.1 q1
    exact r_vret dX0_divide_67 rfl t
  · have t := t.2 q1
    refine r_iload_n (q := 2) dX0_divide_36 rfl rfl ?_
    refine r_if_eq (tgt := 67) dX0_divide_37 (by decide) (fun q2 => ?_) (fun q2 => ?_)
    · have t := t.1 q2
      exact r_vret dX0_divide_67 rfl t
    · have t := t.2 q2
      refine r_aload_n (q := 0) dX0_divide_40 rfl rfl ?_
      refine r_getR (c := 51) (c2 := 57) dX0_divide_41 flX0_38 lay_51 rfl ?_
      refine r_iload_n (q := 2) dX0_divide_44 rfl rfl ?_
      obtain ⟨c3, t⟩ := t
      refine r_iald (c := 57) dX0_divide_45 lay_57 c3 ?_
      refine r_istore (lv' := [(4, .int (h.1 57 x2.toNatClampNeg)), (0, .ref (eA E 51)), (1, .int x1), (2, .int x2), (3, .int x3)]) dX0_divide_46 (by decide) rfl ?_
      refine r_aload_n (q := 1) dX0_divide_48 rfl rfl ?_
      refine r_iload (q := 0) dX0_divide_49 rfl ?_
      refine r_cVV (c := 51) (As := [.int (h.1 57 x2.toNatClampNeg)]) dX0_divide_51 mkX0_addField lkX0_66 lay_51 rfl rfl rfl (by decide) rfl (Nat.le_of_ble_eq_true rfl) z00 t ?_
      intro h4 t
      refine r_iload_n (q := 3) dX0_divide_54 rfl rfl ?_
      refine r_iload (q := 0) dX0_divide_55 rfl ?_
      refine r_iconst (v := (-1 : Int32)) dX0_divide_57 rfl ?_
      refine r_ixor dX0_divide_58 ?_
      refine r_iand dX0_divide_59 ?_
      refine r_istore_n (lv' := [(2, .int (x2 &&& ((h.1 57 x2.toNatClampNeg) ^^^ (-1 : Int32)))), (4, .int (h.1 57 x2.toNatClampNeg)), (0, .ref (eA E 51)), (1, .int x1), (3, .int x3)]) dX0_divide_60 rfl (by decide) rfl ?_
      refine r_iinc (k := 4) (v := x3 + (1 : Int32)) (lv' := [(3, .int (x3 + (1 : Int32))), (2, .int (x2 &&& ((h.1 57 x2.toNatClampNeg) ^^^ (-1 : Int32)))), (4, .int (h.1 57 x2.toNatClampNeg)), (0, .ref (eA E 51)), (1, .int x1)]) dX0_divide_61 rfl rfl (by decide) rfl ?_
      refine r_goto (tgt := 30) dX0_divide_64 (by decide) ?_
      refine r_sub [3, 4, 1, 0] rfl ?_
      exact t
theorem dX0_addField_0 : decode cX0_addField 0 = .ok (.iconst 0, 1) := by decide +kernel
theorem dX0_addField_1 : decode cX0_addField 1 = .ok (.istore_n 2, 1) := by decide +kernel
theorem dX0_addField_2 : decode cX0_addField 2 = .ok (.iconst 0, 1) := by decide +kernel
theorem dX0_addField_3 : decode cX0_addField 3 = .ok (.istore_n 3, 1) := by decide +kernel
theorem dX0_addField_4 : decode cX0_addField 4 = .ok (.iload_n 3, 1) := by decide +kernel
theorem dX0_addField_5 : decode cX0_addField 5 = .ok (.bipush 12, 2) := by decide +kernel
theorem dX0_addField_7 : decode cX0_addField 7 = .ok (.if_icmp .ge 47, 3) := by decide +kernel
theorem dX0_addField_10 : decode cX0_addField 10 = .ok (.iload_n 1, 1) := by decide +kernel
theorem dX0_addField_11 : decode cX0_addField 11 = .ok (.iconst 1, 1) := by decide +kernel
theorem dX0_addField_12 : decode cX0_addField 12 = .ok (.iload_n 3, 1) := by decide +kernel
theorem dX0_addField_13 : decode cX0_addField 13 = .ok (.ishl, 1) := by decide +kernel
theorem dX0_addField_14 : decode cX0_addField 14 = .ok (.iand, 1) := by decide +kernel
theorem dX0_addField_15 : decode cX0_addField 15 = .ok (.ifCond .eq 33, 3) := by decide +kernel
theorem dX0_addField_18 : decode cX0_addField 18 = .ok (.iinc 2 1, 3) := by decide +kernel
theorem dX0_addField_21 : decode cX0_addField 21 = .ok (.aload_n 0, 1) := by decide +kernel
theorem dX0_addField_22 : decode cX0_addField 22 = .ok (.getfield 22, 3) := by decide +kernel
theorem dX0_addField_25 : decode cX0_addField 25 = .ok (.iload_n 3, 1) := by decide +kernel
theorem dX0_addField_26 : decode cX0_addField 26 = .ok (.aload_n 0, 1) := by decide +kernel
theorem dX0_addField_27 : decode cX0_addField 27 = .ok (.getfield 15, 3) := by decide +kernel
theorem dX0_addField_30 : decode cX0_addField 30 = .ok (.iastore, 1) := by decide +kernel
theorem dX0_addField_31 : decode cX0_addField 31 = .ok (.aload_n 0, 1) := by decide +kernel
theorem dX0_addField_32 : decode cX0_addField 32 = .ok (.getfield 26, 3) := by decide +kernel
theorem dX0_addField_35 : decode cX0_addField 35 = .ok (.iload_n 3, 1) := by decide +kernel
theorem dX0_addField_36 : decode cX0_addField 36 = .ok (.iload_n 2, 1) := by decide +kernel
theorem dX0_addField_37 : decode cX0_addField 37 = .ok (.iastore, 1) := by decide +kernel
theorem dX0_addField_38 : decode cX0_addField 38 = .ok (.aload_n 0, 1) := by decide +kernel
theorem dX0_addField_39 : decode cX0_addField 39 = .ok (.getfield 29, 3) := by decide +kernel
theorem dX0_addField_42 : decode cX0_addField 42 = .ok (.iload_n 3, 1) := by decide +kernel
theorem dX0_addField_43 : decode cX0_addField 43 = .ok (.aload_n 0, 1) := by decide +kernel
theorem dX0_addField_44 : decode cX0_addField 44 = .ok (.getfield 19, 3) := by decide +kernel
theorem dX0_addField_47 : decode cX0_addField 47 = .ok (.iastore, 1) := by decide +kernel
theorem dX0_addField_48 : decode cX0_addField 48 = .ok (.iinc 3 1, 3) := by decide +kernel
theorem dX0_addField_51 : decode cX0_addField 51 = .ok (.goto (-47), 3) := by decide +kernel
theorem dX0_addField_54 : decode cX0_addField 54 = .ok (.aload_n 0, 1) := by decide +kernel
theorem dX0_addField_55 : decode cX0_addField 55 = .ok (.dup, 1) := by decide +kernel
theorem dX0_addField_56 : decode cX0_addField 56 = .ok (.getfield 19, 3) := by decide +kernel
theorem dX0_addField_59 : decode cX0_addField 59 = .ok (.getstatic 69, 3) := by decide +kernel
theorem dX0_addField_62 : decode cX0_addField 62 = .ok (.iload_n 2, 1) := by decide +kernel
theorem dX0_addField_63 : decode cX0_addField 63 = .ok (.iaload, 1) := by decide +kernel
theorem dX0_addField_64 : decode cX0_addField 64 = .ok (.iadd, 1) := by decide +kernel
theorem dX0_addField_65 : decode cX0_addField 65 = .ok (.putfield 19, 3) := by decide +kernel
theorem dX0_addField_68 : decode cX0_addField 68 = .ok (.aload_n 0, 1) := by decide +kernel
theorem dX0_addField_69 : decode cX0_addField 69 = .ok (.dup, 1) := by decide +kernel
theorem dX0_addField_70 : decode cX0_addField 70 = .ok (.getfield 15, 3) := by decide +kernel
theorem dX0_addField_73 : decode cX0_addField 73 = .ok (.iconst 1, 1) := by decide +kernel
theorem dX0_addField_74 : decode cX0_addField 74 = .ok (.iadd, 1) := by decide +kernel
theorem dX0_addField_75 : decode cX0_addField 75 = .ok (.putfield 15, 3) := by decide +kernel
theorem dX0_addField_78 : decode cX0_addField 78 = .ok (.return_, 1) := by decide +kernel
abbrev VX0_addField_4 (E : En) (d : Nat) (g : Ga) (P : Hp → Prop) (x1 : Int32) (x2 : Int32) (x3 : Int32) (h : Hp) : Prop := V E MX0_addField (RM d 0) g (QQ E g (QV E P) 0 0) 0 0 h 4 [(0, .ref (eA E 51)), (1, .int x1), (2, .int x2), (3, .int x3)] []
set_option maxRecDepth 20000 in
theorem wp_X0_addField (E : En) (d : Nat) (a1 : Int32) (h : Hp) (P : Hp → Prop) (t : ∀ g : Ga, VX0_addField_4 E d g P a1 (0 : Int32) (0 : Int32) h) : SpV E d MX0_addField [.ref (eA E 51), .int a1] h P := by
  refine SpV.of (lv0 := [(0, .ref (eA E 51)), (1, .int a1)]) (by decide) (Nat.le_of_ble_eq_true rfl) rfl (fun g => ?_)
  have t := t g
  refine r_iconst (v := (0 : Int32)) dX0_addField_0 rfl ?_
  refine r_istore_n (lv' := [(2, .int (0 : Int32)), (0, .ref (eA E 51)), (1, .int a1)]) dX0_addField_1 rfl (by decide) rfl ?_
  refine r_iconst (v := (0 : Int32)) dX0_addField_2 rfl ?_
  refine r_istore_n (lv' := [(3, .int (0 : Int32)), (2, .int (0 : Int32)), (0, .ref (eA E 51)), (1, .int a1)]) dX0_addField_3 rfl (by decide) rfl ?_
  refine r_sub [2, 3, 1, 0] rfl ?_
  exact t
set_option maxRecDepth 20000 in
theorem sg_X0_addField_4 (E : En) (d : Nat) (g : Ga) (x1 : Int32) (x2 : Int32) (x3 : Int32) (h : Hp) (P : Hp → Prop) (t : ((12 : Int32) ≤ x3 → (vp_in x2 13 ∧ (P (sI (sI h 51 2 ((h.1 51 2) + (BITS.getD x2.toNatClampNeg 0))) 51 1 ((h.1 51 1) + (1 : Int32)))))) ∧ (¬ (12 : Int32) ≤ x3 → (((x1 &&& ((1 : Int32) <<< (x3 &&& 31))) = 0 → (VX0_addField_4 E d g P x1 x2 (x3 + (1 : Int32)) h)) ∧ (¬ (x1 &&& ((1 : Int32) <<< (x3 &&& 31))) = 0 → (vp_in x3 12 ∧ (vp_in x3 12 ∧ (vp_in x3 12 ∧ (VX0_addField_4 E d g P x1 (x2 + (1 : Int32)) (x3 + (1 : Int32)) (sI (sI (sI h 52 x3.toNatClampNeg (h.1 51 1)) 53 x3.toNatClampNeg (x2 + (1 : Int32))) 54 x3.toNatClampNeg (h.1 51 2)))))))))) : VX0_addField_4 E d g P x1 x2 x3 h := by
  refine r_iload_n (q := 3) dX0_addField_4 rfl rfl ?_
  refine r_bipush (v := (12 : Int32)) dX0_addField_5 rfl ?_
  refine r_icmp_ge (tgt := 54) dX0_addField_7 (by decide) (fun q1 => ?_) (fun q1 => ?_)
  · have t := t.1 q1
    refine r_aload_n (q := 0) dX0_addField_54 rfl rfl ?_
    refine r_dup dX0_addField_55 rfl ?_
    refine r_getI (c := 51) dX0_addField_56 flX0_19 lay_51 rfl ?_
    refine r_getT dX0_addField_59 fsX0_69 ?_
    refine r_iload_n (q := 2) dX0_addField_62 rfl rfl ?_
    obtain ⟨c2, t⟩ := t
    refine r_Tald dX0_addField_63 c2 ?_
    refine r_iadd dX0_addField_64 ?_
    refine r_putI (c := 51) dX0_addField_65 flX0_19 lay_51 rfl ?_
    refine r_aload_n (q := 0) dX0_addField_68 rfl rfl ?_
    refine r_dup dX0_addField_69 rfl ?_
    refine r_getIv (c := 51) (v := h.1 51 1) dX0_addField_70 flX0_15 lay_51 rfl rfl ?_
    refine r_iconst (v := (1 : Int32)) dX0_addField_73 rfl ?_
    refine r_iadd dX0_addField_74 ?_
    refine r_putI (c := 51) dX0_addField_75 flX0_15 lay_51 rfl ?_
    exact r_vret dX0_addField_78 rfl t
  · have t := t.2 q1
    refine r_iload_n (q := 1) dX0_addField_10 rfl rfl ?_
    refine r_iconst (v := (1 : Int32)) dX0_addField_11 rfl ?_
    refine r_iload_n (q := 3) dX0_addField_12 rfl rfl ?_
    refine r_ishl dX0_addField_13 ?_
    refine r_iand dX0_addField_14 ?_
    refine r_if_eq (tgt := 48) dX0_addField_15 (by decide) (fun q3 => ?_) (fun q3 => ?_)
    · have t := t.1 q3
      refine r_iinc (k := 3) (v := x3 + (1 : Int32)) (lv' := [(3, .int (x3 + (1 : Int32))), (0, .ref (eA E 51)), (1, .int x1), (2, .int x2)]) dX0_addField_48 rfl rfl (by decide) rfl ?_
      refine r_goto (tgt := 4) dX0_addField_51 (by decide) ?_
      refine r_sub [1, 2, 3, 0] rfl ?_
      exact t
    · have t := t.2 q3
      refine r_iinc (k := 2) (v := x2 + (1 : Int32)) (lv' := [(2, .int (x2 + (1 : Int32))), (0, .ref (eA E 51)), (1, .int x1), (3, .int x3)]) dX0_addField_18 rfl rfl (by decide) rfl ?_
      refine r_aload_n (q := 1) dX0_addField_21 rfl rfl ?_
      refine r_getR (c := 51) (c2 := 52) dX0_addField_22 flX0_22 lay_51 rfl ?_
      refine r_iload_n (q := 3) dX0_addField_25 rfl rfl ?_
      refine r_aload_n (q := 1) dX0_addField_26 rfl rfl ?_
      refine r_getI (c := 51) dX0_addField_27 flX0_15 lay_51 rfl ?_
      obtain ⟨c4, t⟩ := t
      refine r_iast (c := 52) dX0_addField_30 lay_52 c4 ?_
      refine r_aload_n (q := 1) dX0_addField_31 rfl rfl ?_
      refine r_getR (c := 51) (c2 := 53) dX0_addField_32 flX0_26 lay_51 rfl ?_
      refine r_iload_n (q := 3) dX0_addField_35 rfl rfl ?_
      refine r_iload_n (q := 0) dX0_addField_36 rfl rfl ?_
      obtain ⟨c5, t⟩ := t
      refine r_iast (c := 53) dX0_addField_37 lay_53 c5 ?_
      refine r_aload_n (q := 1) dX0_addField_38 rfl rfl ?_
      refine r_getR (c := 51) (c2 := 54) dX0_addField_39 flX0_29 lay_51 rfl ?_
      refine r_iload_n (q := 3) dX0_addField_42 rfl rfl ?_
      refine r_aload_n (q := 1) dX0_addField_43 rfl rfl ?_
      refine r_getIv (c := 51) (v := h.1 51 2) dX0_addField_44 flX0_19 lay_51 rfl rfl ?_
      obtain ⟨c6, t⟩ := t
      refine r_iast (c := 54) dX0_addField_47 lay_54 c6 ?_
      refine r_iinc (k := 3) (v := x3 + (1 : Int32)) (lv' := [(3, .int (x3 + (1 : Int32))), (2, .int (x2 + (1 : Int32))), (0, .ref (eA E 51)), (1, .int x1)]) dX0_addField_48 rfl rfl (by decide) rfl ?_
      refine r_goto (tgt := 4) dX0_addField_51 (by decide) ?_
      refine r_sub [2, 3, 1, 0] rfl ?_
      exact t
theorem dX0_search_0 : decode cX0_search 0 = .ok (.aload_n 0, 1) := by decide +kernel
theorem dX0_search_1 : decode cX0_search 1 = .ok (.getfield 35, 3) := by decide +kernel
theorem dX0_search_4 : decode cX0_search 4 = .ok (.iconst 0, 1) := by decide +kernel
theorem dX0_search_5 : decode cX0_search 5 = .ok (.invokestatic 52, 3) := by decide +kernel
theorem dX0_search_8 : decode cX0_search 8 = .ok (.iconst 0, 1) := by decide +kernel
theorem dX0_search_9 : decode cX0_search 9 = .ok (.istore_n 2, 1) := by decide +kernel
theorem dX0_search_10 : decode cX0_search 10 = .ok (.iconst 0, 1) := by decide +kernel
theorem dX0_search_11 : decode cX0_search 11 = .ok (.istore_n 3, 1) := by decide +kernel
theorem dX0_search_12 : decode cX0_search 12 = .ok (.iload_n 3, 1) := by decide +kernel
theorem dX0_search_13 : decode cX0_search 13 = .ok (.sipush 208, 3) := by decide +kernel
theorem dX0_search_16 : decode cX0_search 16 = .ok (.if_icmp .ge 39, 3) := by decide +kernel
theorem dX0_search_19 : decode cX0_search 19 = .ok (.iload_n 2, 1) := by decide +kernel
theorem dX0_search_20 : decode cX0_search 20 = .ok (.ifCond .ne 35, 3) := by decide +kernel
theorem dX0_search_23 : decode cX0_search 23 = .ok (.aload_n 0, 1) := by decide +kernel
theorem dX0_search_24 : decode cX0_search 24 = .ok (.iload_n 1, 1) := by decide +kernel
theorem dX0_search_25 : decode cX0_search 25 = .ok (.invokevirtual 72, 3) := by decide +kernel
theorem dX0_search_28 : decode cX0_search 28 = .ok (.istore 4, 2) := by decide +kernel
theorem dX0_search_30 : decode cX0_search 30 = .ok (.aload_n 0, 1) := by decide +kernel
theorem dX0_search_31 : decode cX0_search 31 = .ok (.iload_n 1, 1) := by decide +kernel
theorem dX0_search_32 : decode cX0_search 32 = .ok (.iload 4, 2) := by decide +kernel
theorem dX0_search_34 : decode cX0_search 34 = .ok (.iconst 0, 1) := by decide +kernel
theorem dX0_search_35 : decode cX0_search 35 = .ok (.invokevirtual 76, 3) := by decide +kernel
theorem dX0_search_38 : decode cX0_search 38 = .ok (.iload 4, 2) := by decide +kernel
theorem dX0_search_40 : decode cX0_search 40 = .ok (.if_icmp .gt 7, 3) := by decide +kernel
theorem dX0_search_43 : decode cX0_search 43 = .ok (.iconst 1, 1) := by decide +kernel
theorem dX0_search_44 : decode cX0_search 44 = .ok (.goto 4, 3) := by decide +kernel
theorem dX0_search_47 : decode cX0_search 47 = .ok (.iconst 0, 1) := by decide +kernel
theorem dX0_search_48 : decode cX0_search 48 = .ok (.istore_n 2, 1) := by decide +kernel
theorem dX0_search_49 : decode cX0_search 49 = .ok (.iinc 3 1, 3) := by decide +kernel
theorem dX0_search_52 : decode cX0_search 52 = .ok (.goto (-40), 3) := by decide +kernel
theorem dX0_search_55 : decode cX0_search 55 = .ok (.return_, 1) := by decide +kernel
abbrev VX0_search_12 (E : En) (d : Nat) (g : Ga) (P : Hp → Prop) (x1 : Int32) (x2 : Int32) (x3 : Int32) (h : Hp) : Prop := V E MX0_search (RM (d + 1) 0) g (QQ E g (QV E P) 0 0) 0 0 h 12 [(0, .ref (eA E 51)), (1, .int x1), (2, .int x2), (3, .int x3)] []
set_option maxRecDepth 20000 in
theorem wp_X0_search (E : En) (d : Nat) (a1 : Int32) (h : Hp) (P : Hp → Prop) (t : ∀ g : Ga, SpV E d MJ7_fill_53178 [.ref (eA E 56), .int (0 : Int32)] h (fun h1 => VX0_search_12 E d g P a1 (0 : Int32) (0 : Int32) h1)) : SpV E (d + 1) MX0_search [.ref (eA E 51), .int a1] h P := by
  refine SpV.of (lv0 := [(0, .ref (eA E 51)), (1, .int a1)]) (by decide) (Nat.le_of_ble_eq_true rfl) rfl (fun g => ?_)
  have t := t g
  refine r_aload_n (q := 0) dX0_search_0 rfl rfl ?_
  refine r_getR (c := 51) (c2 := 56) dX0_search_1 flX0_35 lay_51 rfl ?_
  refine r_iconst (v := (0 : Int32)) dX0_search_4 rfl ?_
  refine r_cSV (As := [.ref (eA E 56), .int (0 : Int32)]) dX0_search_5 mkJ7_fill_53178 lkX0_52 rfl (by decide) rfl (Nat.le_of_ble_eq_true rfl) z00 t ?_
  intro h1 t
  refine r_iconst (v := (0 : Int32)) dX0_search_8 rfl ?_
  refine r_istore_n (lv' := [(2, .int (0 : Int32)), (0, .ref (eA E 51)), (1, .int a1)]) dX0_search_9 rfl (by decide) rfl ?_
  refine r_iconst (v := (0 : Int32)) dX0_search_10 rfl ?_
  refine r_istore_n (lv' := [(3, .int (0 : Int32)), (2, .int (0 : Int32)), (0, .ref (eA E 51)), (1, .int a1)]) dX0_search_11 rfl (by decide) rfl ?_
  refine r_sub [2, 3, 1, 0] rfl ?_
  exact t
set_option maxRecDepth 20000 in
theorem sg_X0_search_12 (E : En) (d : Nat) (g : Ga) (x1 : Int32) (x2 : Int32) (x3 : Int32) (h : Hp) (P : Hp → Prop) (t : ((208 : Int32) ≤ x3 → (P h)) ∧ (¬ (208 : Int32) ≤ x3 → ((¬ x2 = 0 → (P h)) ∧ (x2 = 0 → (SpI E d MX0_costAtLeast [.ref (eA E 51), .int x1] h (fun v3 h3 => SpI E d MX0_costWithin [.ref (eA E 51), .int x1, .int v3, .int (0 : Int32)] h3 (fun v4 h4 => (v3 < v4 → (VX0_search_12 E d g P x1 (0 : Int32) (x3 + (1 : Int32)) h4)) ∧ (¬ v3 < v4 → (VX0_search_12 E d g P x1 (1 : Int32) (x3 + (1 : Int32)) h4))))))))) : VX0_search_12 E d g P x1 x2 x3 h := by
  refine r_iload_n (q := 3) dX0_search_12 rfl rfl ?_
  refine r_sipush (v := (208 : Int32)) dX0_search_13 rfl ?_
  refine r_icmp_ge (tgt := 55) dX0_search_16 (by decide) (fun q1 => ?_) (fun q1 => ?_)
  · have t := t.1 q1
    exact r_vret dX0_search_55 rfl t
  · have t := t.2 q1
    refine r_iload_n (q := 2) dX0_search_19 rfl rfl ?_
    refine r_if_ne (tgt := 55) dX0_search_20 (by decide) (fun q2 => ?_) (fun q2 => ?_)
    · have t := t.1 q2
      exact r_vret dX0_search_55 rfl t
    · have t := t.2 q2
      refine r_aload_n (q := 0) dX0_search_23 rfl rfl ?_
      refine r_iload_n (q := 1) dX0_search_24 rfl rfl ?_
      refine r_cVI (c := 51) (As := [.int x1]) dX0_search_25 mkX0_costAtLeast lkX0_72 lay_51 rfl rfl rfl (by decide) rfl (Nat.le_of_ble_eq_true rfl) z00 t ?_
      intro v3 h3 t
      refine r_istore (lv' := [(4, .int v3), (0, .ref (eA E 51)), (1, .int x1), (2, .int x2), (3, .int x3)]) dX0_search_28 (by decide) rfl ?_
      refine r_aload_n (q := 1) dX0_search_30 rfl rfl ?_
      refine r_iload_n (q := 2) dX0_search_31 rfl rfl ?_
      refine r_iload (q := 0) dX0_search_32 rfl ?_
      refine r_iconst (v := (0 : Int32)) dX0_search_34 rfl ?_
      refine r_cVI (c := 51) (As := [.int x1, .int v3, .int (0 : Int32)]) dX0_search_35 mkX0_costWithin lkX0_76 lay_51 rfl rfl rfl (by decide) rfl (Nat.le_of_ble_eq_true rfl) z00 t ?_
      intro v4 h4 t
      refine r_iload (q := 0) dX0_search_38 rfl ?_
      refine r_icmp_gt (tgt := 47) dX0_search_40 (by decide) (fun q5 => ?_) (fun q5 => ?_)
      · have t := t.1 q5
        refine r_iconst (v := (0 : Int32)) dX0_search_47 rfl ?_
        refine r_istore_n (lv' := [(2, .int (0 : Int32)), (4, .int v3), (0, .ref (eA E 51)), (1, .int x1), (3, .int x3)]) dX0_search_48 rfl (by decide) rfl ?_
        refine r_iinc (k := 4) (v := x3 + (1 : Int32)) (lv' := [(3, .int (x3 + (1 : Int32))), (2, .int (0 : Int32)), (4, .int v3), (0, .ref (eA E 51)), (1, .int x1)]) dX0_search_49 rfl rfl (by decide) rfl ?_
        refine r_goto (tgt := 12) dX0_search_52 (by decide) ?_
        refine r_sub [3, 4, 1, 0] rfl ?_
        exact t
      · have t := t.2 q5
        refine r_iconst (v := (1 : Int32)) dX0_search_43 rfl ?_
        refine r_goto (tgt := 48) dX0_search_44 (by decide) ?_
        refine r_istore_n (lv' := [(2, .int (1 : Int32)), (4, .int v3), (0, .ref (eA E 51)), (1, .int x1), (3, .int x3)]) dX0_search_48 rfl (by decide) rfl ?_
        refine r_iinc (k := 4) (v := x3 + (1 : Int32)) (lv' := [(3, .int (x3 + (1 : Int32))), (2, .int (1 : Int32)), (4, .int v3), (0, .ref (eA E 51)), (1, .int x1)]) dX0_search_49 rfl rfl (by decide) rfl ?_
        refine r_goto (tgt := 12) dX0_search_52 (by decide) ?_
        refine r_sub [3, 4, 1, 0] rfl ?_
        exact t
theorem dX0_costWithin_0 : decode cX0_costWithin 0 = .ok (.aload_n 0, 1) := by decide +kernel
theorem dX0_costWithin_1 : decode cX0_costWithin 1 = .ok (.iload_n 1, 1) := by decide +kernel
theorem dX0_costWithin_2 : decode cX0_costWithin 2 = .ok (.invokevirtual 72, 3) := by decide +kernel
theorem dX0_costWithin_5 : decode cX0_costWithin 5 = .ok (.istore 4, 2) := by decide +kernel
theorem dX0_costWithin_7 : decode cX0_costWithin 7 = .ok (.iload 4, 2) := by decide +kernel
theorem dX0_costWithin_9 : decode cX0_costWithin 9 = .ok (.iload_n 2, 1) := by decide +kernel
theorem dX0_costWithin_10 : decode cX0_costWithin 10 = .ok (.if_icmp .gt 7, 3) := by decide +kernel
theorem dX0_costWithin_13 : decode cX0_costWithin 13 = .ok (.iload_n 1, 1) := by decide +kernel
theorem dX0_costWithin_14 : decode cX0_costWithin 14 = .ok (.ifCond .ne 6, 3) := by decide +kernel
theorem dX0_costWithin_17 : decode cX0_costWithin 17 = .ok (.iload 4, 2) := by decide +kernel
theorem dX0_costWithin_19 : decode cX0_costWithin 19 = .ok (.ireturn, 1) := by decide +kernel
theorem dX0_costWithin_20 : decode cX0_costWithin 20 = .ok (.iload_n 3, 1) := by decide +kernel
theorem dX0_costWithin_21 : decode cX0_costWithin 21 = .ok (.bipush 24, 2) := by decide +kernel
theorem dX0_costWithin_23 : decode cX0_costWithin 23 = .ok (.if_icmp .le 6, 3) := by decide +kernel
theorem dX0_costWithin_26 : decode cX0_costWithin 26 = .ok (.ldc 80, 2) := by decide +kernel
theorem dX0_costWithin_28 : decode cX0_costWithin 28 = .ok (.ireturn, 1) := by decide +kernel
theorem dX0_costWithin_29 : decode cX0_costWithin 29 = .ok (.aload_n 0, 1) := by decide +kernel
theorem dX0_costWithin_30 : decode cX0_costWithin 30 = .ok (.iload_n 1, 1) := by decide +kernel
theorem dX0_costWithin_31 : decode cX0_costWithin 31 = .ok (.invokevirtual 81, 3) := by decide +kernel
theorem dX0_costWithin_34 : decode cX0_costWithin 34 = .ok (.ifCond .eq 13, 3) := by decide +kernel
theorem dX0_costWithin_37 : decode cX0_costWithin 37 = .ok (.aload_n 0, 1) := by decide +kernel
theorem dX0_costWithin_38 : decode cX0_costWithin 38 = .ok (.getfield 38, 3) := by decide +kernel
theorem dX0_costWithin_41 : decode cX0_costWithin 41 = .ok (.iload_n 1, 1) := by decide +kernel
theorem dX0_costWithin_42 : decode cX0_costWithin 42 = .ok (.iload_n 1, 1) := by decide +kernel
theorem dX0_costWithin_43 : decode cX0_costWithin 43 = .ok (.iastore, 1) := by decide +kernel
theorem dX0_costWithin_44 : decode cX0_costWithin 44 = .ok (.iload 4, 2) := by decide +kernel
theorem dX0_costWithin_46 : decode cX0_costWithin 46 = .ok (.ireturn, 1) := by decide +kernel
theorem dX0_costWithin_47 : decode cX0_costWithin 47 = .ok (.iload_n 1, 1) := by decide +kernel
theorem dX0_costWithin_48 : decode cX0_costWithin 48 = .ok (.iload_n 1, 1) := by decide +kernel
theorem dX0_costWithin_49 : decode cX0_costWithin 49 = .ok (.ineg, 1) := by decide +kernel
theorem dX0_costWithin_50 : decode cX0_costWithin 50 = .ok (.iand, 1) := by decide +kernel
theorem dX0_costWithin_51 : decode cX0_costWithin 51 = .ok (.istore 5, 2) := by decide +kernel
theorem dX0_costWithin_53 : decode cX0_costWithin 53 = .ok (.iload_n 1, 1) := by decide +kernel
theorem dX0_costWithin_54 : decode cX0_costWithin 54 = .ok (.iload 5, 2) := by decide +kernel
theorem dX0_costWithin_56 : decode cX0_costWithin 56 = .ok (.iconst (-1), 1) := by decide +kernel
theorem dX0_costWithin_57 : decode cX0_costWithin 57 = .ok (.ixor, 1) := by decide +kernel
theorem dX0_costWithin_58 : decode cX0_costWithin 58 = .ok (.iand, 1) := by decide +kernel
theorem dX0_costWithin_59 : decode cX0_costWithin 59 = .ok (.aload_n 0, 1) := by decide +kernel
theorem dX0_costWithin_60 : decode cX0_costWithin 60 = .ok (.getfield 32, 3) := by decide +kernel
theorem dX0_costWithin_63 : decode cX0_costWithin 63 = .ok (.iload 5, 2) := by decide +kernel
theorem dX0_costWithin_65 : decode cX0_costWithin 65 = .ok (.iconst 1, 1) := by decide +kernel
theorem dX0_costWithin_66 : decode cX0_costWithin 66 = .ok (.isub, 1) := by decide +kernel
theorem dX0_costWithin_67 : decode cX0_costWithin 67 = .ok (.invokestatic 85, 3) := by decide +kernel
theorem dX0_costWithin_70 : decode cX0_costWithin 70 = .ok (.iaload, 1) := by decide +kernel
theorem dX0_costWithin_71 : decode cX0_costWithin 71 = .ok (.iconst (-1), 1) := by decide +kernel
theorem dX0_costWithin_72 : decode cX0_costWithin 72 = .ok (.ixor, 1) := by decide +kernel
theorem dX0_costWithin_73 : decode cX0_costWithin 73 = .ok (.iand, 1) := by decide +kernel
theorem dX0_costWithin_74 : decode cX0_costWithin 74 = .ok (.istore 6, 2) := by decide +kernel
theorem dX0_costWithin_76 : decode cX0_costWithin 76 = .ok (.aload_n 0, 1) := by decide +kernel
theorem dX0_costWithin_77 : decode cX0_costWithin 77 = .ok (.getfield 35, 3) := by decide +kernel
theorem dX0_costWithin_80 : decode cX0_costWithin 80 = .ok (.iload_n 1, 1) := by decide +kernel
theorem dX0_costWithin_81 : decode cX0_costWithin 81 = .ok (.aload_n 0, 1) := by decide +kernel
theorem dX0_costWithin_82 : decode cX0_costWithin 82 = .ok (.iload_n 1, 1) := by decide +kernel
theorem dX0_costWithin_83 : decode cX0_costWithin 83 = .ok (.iload 5, 2) := by decide +kernel
theorem dX0_costWithin_85 : decode cX0_costWithin 85 = .ok (.iload 6, 2) := by decide +kernel
theorem dX0_costWithin_87 : decode cX0_costWithin 87 = .ok (.iload_n 2, 1) := by decide +kernel
theorem dX0_costWithin_88 : decode cX0_costWithin 88 = .ok (.iload_n 3, 1) := by decide +kernel
theorem dX0_costWithin_89 : decode cX0_costWithin 89 = .ok (.iconst 1, 1) := by decide +kernel
theorem dX0_costWithin_90 : decode cX0_costWithin 90 = .ok (.iadd, 1) := by decide +kernel
theorem dX0_costWithin_91 : decode cX0_costWithin 91 = .ok (.invokevirtual 90, 3) := by decide +kernel
theorem dX0_costWithin_94 : decode cX0_costWithin 94 = .ok (.iastore, 1) := by decide +kernel
theorem dX0_costWithin_95 : decode cX0_costWithin 95 = .ok (.aload_n 0, 1) := by decide +kernel
theorem dX0_costWithin_96 : decode cX0_costWithin 96 = .ok (.getfield 35, 3) := by decide +kernel
theorem dX0_costWithin_99 : decode cX0_costWithin 99 = .ok (.iload_n 1, 1) := by decide +kernel
theorem dX0_costWithin_100 : decode cX0_costWithin 100 = .ok (.iaload, 1) := by decide +kernel
theorem dX0_costWithin_101 : decode cX0_costWithin 101 = .ok (.ireturn, 1) := by decide +kernel
set_option maxRecDepth 20000 in
theorem wp_X0_costWithin (E : En) (d : Nat) (a1 : Int32) (a2 : Int32) (a3 : Int32) (h : Hp) (P : Int32 → Hp → Prop) (t : SpI E d MX0_costAtLeast [.ref (eA E 51), .int a1] h (fun v1 h1 => (a2 < v1 → (P v1 h1)) ∧ (¬ a2 < v1 → ((¬ a1 = 0 → ((a3 ≤ (24 : Int32) → (SpI E d MX0_isField [.ref (eA E 51), .int a1] h1 (fun v5 h5 => (v5 = 0 → (SpI E d MJ6_bitCount_0f7a4 [.int ((a1 &&& (-a1)) - (1 : Int32))] h5 (fun v7 h7 => vp_in v7 12 ∧ (SpI E d MX0_growField [.ref (eA E 51), .int a1, .int (a1 &&& (-a1)), .int ((a1 &&& ((a1 &&& (-a1)) ^^^ (-1 : Int32))) &&& ((h7.1 55 v7.toNatClampNeg) ^^^ (-1 : Int32))), .int a2, .int (a3 + (1 : Int32))] h7 (fun v9 h9 => vp_in a1 4096 ∧ (vp_in a1 4096 ∧ (P v9 (sI h9 56 a1.toNatClampNeg v9)))))))) ∧ (¬ v5 = 0 → (vp_in a1 4096 ∧ (P v1 (sI h5 57 a1.toNatClampNeg a1))))))) ∧ (¬ a3 ≤ (24 : Int32) → (P (1048576 : Int32) h1)))) ∧ (a1 = 0 → (P v1 h1)))))) : SpI E (d + 1) MX0_costWithin [.ref (eA E 51), .int a1, .int a2, .int a3] h P := by
  refine SpI.of (lv0 := [(0, .ref (eA E 51)), (1, .int a1), (2, .int a2), (3, .int a3)]) (by decide) (Nat.le_of_ble_eq_true rfl) rfl (fun g => ?_)
  refine r_aload_n (q := 0) dX0_costWithin_0 rfl rfl ?_
  refine r_iload_n (q := 1) dX0_costWithin_1 rfl rfl ?_
  refine r_cVI (c := 51) (As := [.int a1]) dX0_costWithin_2 mkX0_costAtLeast lkX0_72 lay_51 rfl rfl rfl (by decide) rfl (Nat.le_of_ble_eq_true rfl) z00 t ?_
  intro v1 h1 t
  refine r_istore (lv' := [(4, .int v1), (0, .ref (eA E 51)), (1, .int a1), (2, .int a2), (3, .int a3)]) dX0_costWithin_5 (by decide) rfl ?_
  refine r_iload (q := 0) dX0_costWithin_7 rfl ?_
  refine r_iload_n (q := 3) dX0_costWithin_9 rfl rfl ?_
  refine r_icmp_gt (tgt := 17) dX0_costWithin_10 (by decide) (fun q2 => ?_) (fun q2 => ?_)
  · have t := t.1 q2
    refine r_iload (q := 0) dX0_costWithin_17 rfl ?_
    exact r_iret dX0_costWithin_19 rfl t
  · have t := t.2 q2
    refine r_iload_n (q := 2) dX0_costWithin_13 rfl rfl ?_
    refine r_if_ne (tgt := 20) dX0_costWithin_14 (by decide) (fun q3 => ?_) (fun q3 => ?_)
    · have t := t.1 q3
      refine r_iload_n (q := 4) dX0_costWithin_20 rfl rfl ?_
      refine r_bipush (v := (24 : Int32)) dX0_costWithin_21 rfl ?_
      refine r_icmp_le (tgt := 29) dX0_costWithin_23 (by decide) (fun q4 => ?_) (fun q4 => ?_)
      · have t := t.1 q4
        refine r_aload_n (q := 1) dX0_costWithin_29 rfl rfl ?_
        refine r_iload_n (q := 2) dX0_costWithin_30 rfl rfl ?_
        refine r_cVI (c := 51) (As := [.int a1]) dX0_costWithin_31 mkX0_isField lkX0_81 lay_51 rfl rfl rfl (by decide) rfl (Nat.le_of_ble_eq_true rfl) z00 t ?_
        intro v5 h5 t
        refine r_if_eq (tgt := 47) dX0_costWithin_34 (by decide) (fun q6 => ?_) (fun q6 => ?_)
        · have t := t.1 q6
          refine r_iload_n (q := 2) dX0_costWithin_47 rfl rfl ?_
          refine r_iload_n (q := 2) dX0_costWithin_48 rfl rfl ?_
          refine r_ineg dX0_costWithin_49 ?_
          refine r_iand dX0_costWithin_50 ?_
          refine r_istore (lv' := [(5, .int (a1 &&& (-a1))), (4, .int v1), (0, .ref (eA E 51)), (1, .int a1), (2, .int a2), (3, .int a3)]) dX0_costWithin_51 (by decide) rfl ?_
          refine r_iload_n (q := 3) dX0_costWithin_53 rfl rfl ?_
          refine r_iload (q := 0) dX0_costWithin_54 rfl ?_
          refine r_iconst (v := (-1 : Int32)) dX0_costWithin_56 rfl ?_
          refine r_ixor dX0_costWithin_57 ?_
          refine r_iand dX0_costWithin_58 ?_
          refine r_aload_n (q := 2) dX0_costWithin_59 rfl rfl ?_
          refine r_getR (c := 51) (c2 := 55) dX0_costWithin_60 flX0_32 lay_51 rfl ?_
          refine r_iload (q := 0) dX0_costWithin_63 rfl ?_
          refine r_iconst (v := (1 : Int32)) dX0_costWithin_65 rfl ?_
          refine r_isub dX0_costWithin_66 ?_
          refine r_cSI (As := [.int ((a1 &&& (-a1)) - (1 : Int32))]) dX0_costWithin_67 mkJ6_bitCount_0f7a4 lkX0_85 rfl (by decide) rfl (Nat.le_of_ble_eq_true rfl) z00 t ?_
          intro v7 h7 t
          obtain ⟨c8, t⟩ := t
          refine r_iald (c := 55) dX0_costWithin_70 lay_55 c8 ?_
          refine r_iconst (v := (-1 : Int32)) dX0_costWithin_71 rfl ?_
          refine r_ixor dX0_costWithin_72 ?_
          refine r_iand dX0_costWithin_73 ?_
          refine r_istore (lv' := [(6, .int ((a1 &&& ((a1 &&& (-a1)) ^^^ (-1 : Int32))) &&& ((h7.1 55 v7.toNatClampNeg) ^^^ (-1 : Int32)))), (5, .int (a1 &&& (-a1))), (4, .int v1), (0, .ref (eA E 51)), (1, .int a1), (2, .int a2), (3, .int a3)]) dX0_costWithin_74 (by decide) rfl ?_
          refine r_aload_n (q := 3) dX0_costWithin_76 rfl rfl ?_
          refine r_getR (c := 51) (c2 := 56) dX0_costWithin_77 flX0_35 lay_51 rfl ?_
          refine r_iload_n (q := 4) dX0_costWithin_80 rfl rfl ?_
          refine r_aload_n (q := 3) dX0_costWithin_81 rfl rfl ?_
          refine r_iload_n (q := 4) dX0_costWithin_82 rfl rfl ?_
          refine r_iload (q := 1) dX0_costWithin_83 rfl ?_
          refine r_iload (q := 0) dX0_costWithin_85 rfl ?_
          refine r_iload_n (q := 5) dX0_costWithin_87 rfl rfl ?_
          refine r_iload_n (q := 6) dX0_costWithin_88 rfl rfl ?_
          refine r_iconst (v := (1 : Int32)) dX0_costWithin_89 rfl ?_
          refine r_iadd dX0_costWithin_90 ?_
          refine r_cVI (c := 51) (As := [.int a1, .int (a1 &&& (-a1)), .int ((a1 &&& ((a1 &&& (-a1)) ^^^ (-1 : Int32))) &&& ((h7.1 55 v7.toNatClampNeg) ^^^ (-1 : Int32))), .int a2, .int (a3 + (1 : Int32))]) dX0_costWithin_91 mkX0_growField lkX0_90 lay_51 rfl rfl rfl (by decide) rfl (Nat.le_of_ble_eq_true rfl) z00 t ?_
          intro v9 h9 t
          obtain ⟨c10, t⟩ := t
          refine r_iast (c := 56) dX0_costWithin_94 lay_56 c10 ?_
          refine r_aload_n (q := 3) dX0_costWithin_95 rfl rfl ?_
          refine r_getR (c := 51) (c2 := 56) dX0_costWithin_96 flX0_35 lay_51 rfl ?_
          refine r_iload_n (q := 4) dX0_costWithin_99 rfl rfl ?_
          obtain ⟨c11, t⟩ := t
          refine r_ialdv (c := 56) (v := v9) dX0_costWithin_100 lay_56 c11 (sI_self _ _ _ _) ?_
          exact r_iret dX0_costWithin_101 rfl t
        · have t := t.2 q6
          refine r_aload_n (q := 1) dX0_costWithin_37 rfl rfl ?_
          refine r_getR (c := 51) (c2 := 57) dX0_costWithin_38 flX0_38 lay_51 rfl ?_
          refine r_iload_n (q := 2) dX0_costWithin_41 rfl rfl ?_
          refine r_iload_n (q := 2) dX0_costWithin_42 rfl rfl ?_
          obtain ⟨c12, t⟩ := t
          refine r_iast (c := 57) dX0_costWithin_43 lay_57 c12 ?_
          refine r_iload (q := 0) dX0_costWithin_44 rfl ?_
          exact r_iret dX0_costWithin_46 rfl t
      · have t := t.2 q4
        refine r_ldc (v := (1048576 : Int32)) dX0_costWithin_26 cnX0_80 ?_
        exact r_iret dX0_costWithin_28 rfl t
    · have t := t.2 q3
      refine r_iload (q := 0) dX0_costWithin_17 rfl ?_
      exact r_iret dX0_costWithin_19 rfl t
theorem dX0_growField_0 : decode cX0_growField 0 = .ok (.iload_n 2, 1) := by decide +kernel
theorem dX0_growField_1 : decode cX0_growField 1 = .ok (.invokestatic 94, 3) := by decide +kernel
theorem dX0_growField_4 : decode cX0_growField 4 = .ok (.istore 6, 2) := by decide +kernel
theorem dX0_growField_6 : decode cX0_growField 6 = .ok (.iload 6, 2) := by decide +kernel
theorem dX0_growField_8 : decode cX0_growField 8 = .ok (.aload_n 0, 1) := by decide +kernel
theorem dX0_growField_9 : decode cX0_growField 9 = .ok (.iload_n 1, 1) := by decide +kernel
theorem dX0_growField_10 : decode cX0_growField 10 = .ok (.iload_n 2, 1) := by decide +kernel
theorem dX0_growField_11 : decode cX0_growField 11 = .ok (.iload_n 3, 1) := by decide +kernel
theorem dX0_growField_12 : decode cX0_growField 12 = .ok (.ior, 1) := by decide +kernel
theorem dX0_growField_13 : decode cX0_growField 13 = .ok (.iconst (-1), 1) := by decide +kernel
theorem dX0_growField_14 : decode cX0_growField 14 = .ok (.ixor, 1) := by decide +kernel
theorem dX0_growField_15 : decode cX0_growField 15 = .ok (.iand, 1) := by decide +kernel
theorem dX0_growField_16 : decode cX0_growField 16 = .ok (.invokevirtual 72, 3) := by decide +kernel
theorem dX0_growField_19 : decode cX0_growField 19 = .ok (.iadd, 1) := by decide +kernel
theorem dX0_growField_20 : decode cX0_growField 20 = .ok (.istore 7, 2) := by decide +kernel
theorem dX0_growField_22 : decode cX0_growField 22 = .ok (.iload 7, 2) := by decide +kernel
theorem dX0_growField_24 : decode cX0_growField 24 = .ok (.iload 4, 2) := by decide +kernel
theorem dX0_growField_26 : decode cX0_growField 26 = .ok (.if_icmp .le 6, 3) := by decide +kernel
theorem dX0_growField_29 : decode cX0_growField 29 = .ok (.iload 7, 2) := by decide +kernel
theorem dX0_growField_31 : decode cX0_growField 31 = .ok (.ireturn, 1) := by decide +kernel
theorem dX0_growField_32 : decode cX0_growField 32 = .ok (.iload 5, 2) := by decide +kernel
theorem dX0_growField_34 : decode cX0_growField 34 = .ok (.bipush 24, 2) := by decide +kernel
theorem dX0_growField_36 : decode cX0_growField 36 = .ok (.if_icmp .le 6, 3) := by decide +kernel
theorem dX0_growField_39 : decode cX0_growField 39 = .ok (.ldc 80, 2) := by decide +kernel
theorem dX0_growField_41 : decode cX0_growField 41 = .ok (.ireturn, 1) := by decide +kernel
theorem dX0_growField_42 : decode cX0_growField 42 = .ok (.iload 6, 2) := by decide +kernel
theorem dX0_growField_44 : decode cX0_growField 44 = .ok (.aload_n 0, 1) := by decide +kernel
theorem dX0_growField_45 : decode cX0_growField 45 = .ok (.iload_n 1, 1) := by decide +kernel
theorem dX0_growField_46 : decode cX0_growField 46 = .ok (.iload_n 2, 1) := by decide +kernel
theorem dX0_growField_47 : decode cX0_growField 47 = .ok (.iconst (-1), 1) := by decide +kernel
theorem dX0_growField_48 : decode cX0_growField 48 = .ok (.ixor, 1) := by decide +kernel
theorem dX0_growField_49 : decode cX0_growField 49 = .ok (.iand, 1) := by decide +kernel
theorem dX0_growField_50 : decode cX0_growField 50 = .ok (.iload 4, 2) := by decide +kernel
theorem dX0_growField_52 : decode cX0_growField 52 = .ok (.iload 6, 2) := by decide +kernel
theorem dX0_growField_54 : decode cX0_growField 54 = .ok (.isub, 1) := by decide +kernel
theorem dX0_growField_55 : decode cX0_growField 55 = .ok (.iload 5, 2) := by decide +kernel
theorem dX0_growField_57 : decode cX0_growField 57 = .ok (.iconst 1, 1) := by decide +kernel
theorem dX0_growField_58 : decode cX0_growField 58 = .ok (.iadd, 1) := by decide +kernel
theorem dX0_growField_59 : decode cX0_growField 59 = .ok (.invokevirtual 76, 3) := by decide +kernel
theorem dX0_growField_62 : decode cX0_growField 62 = .ok (.iadd, 1) := by decide +kernel
theorem dX0_growField_63 : decode cX0_growField 63 = .ok (.istore 7, 2) := by decide +kernel
theorem dX0_growField_65 : decode cX0_growField 65 = .ok (.iload 7, 2) := by decide +kernel
theorem dX0_growField_67 : decode cX0_growField 67 = .ok (.iload 4, 2) := by decide +kernel
theorem dX0_growField_69 : decode cX0_growField 69 = .ok (.if_icmp .gt 13, 3) := by decide +kernel
theorem dX0_growField_72 : decode cX0_growField 72 = .ok (.aload_n 0, 1) := by decide +kernel
theorem dX0_growField_73 : decode cX0_growField 73 = .ok (.getfield 38, 3) := by decide +kernel
theorem dX0_growField_76 : decode cX0_growField 76 = .ok (.iload_n 1, 1) := by decide +kernel
theorem dX0_growField_77 : decode cX0_growField 77 = .ok (.iload_n 2, 1) := by decide +kernel
theorem dX0_growField_78 : decode cX0_growField 78 = .ok (.iastore, 1) := by decide +kernel
theorem dX0_growField_79 : decode cX0_growField 79 = .ok (.iload 7, 2) := by decide +kernel
theorem dX0_growField_81 : decode cX0_growField 81 = .ok (.ireturn, 1) := by decide +kernel
theorem dX0_growField_82 : decode cX0_growField 82 = .ok (.iconst 0, 1) := by decide +kernel
theorem dX0_growField_83 : decode cX0_growField 83 = .ok (.istore 8, 2) := by decide +kernel
theorem dX0_growField_85 : decode cX0_growField 85 = .ok (.iload 8, 2) := by decide +kernel
theorem dX0_growField_87 : decode cX0_growField 87 = .ok (.bipush 12, 2) := by decide +kernel
theorem dX0_growField_89 : decode cX0_growField 89 = .ok (.if_icmp .ge 71, 3) := by decide +kernel
theorem dX0_growField_92 : decode cX0_growField 92 = .ok (.iload 7, 2) := by decide +kernel
theorem dX0_growField_94 : decode cX0_growField 94 = .ok (.iload 4, 2) := by decide +kernel
theorem dX0_growField_96 : decode cX0_growField 96 = .ok (.if_icmp .le 64, 3) := by decide +kernel
theorem dX0_growField_99 : decode cX0_growField 99 = .ok (.iconst 1, 1) := by decide +kernel
theorem dX0_growField_100 : decode cX0_growField 100 = .ok (.iload 8, 2) := by decide +kernel
theorem dX0_growField_102 : decode cX0_growField 102 = .ok (.ishl, 1) := by decide +kernel
theorem dX0_growField_103 : decode cX0_growField 103 = .ok (.istore 9, 2) := by decide +kernel
theorem dX0_growField_105 : decode cX0_growField 105 = .ok (.iload_n 3, 1) := by decide +kernel
theorem dX0_growField_106 : decode cX0_growField 106 = .ok (.iload 9, 2) := by decide +kernel
theorem dX0_growField_108 : decode cX0_growField 108 = .ok (.iand, 1) := by decide +kernel
theorem dX0_growField_109 : decode cX0_growField 109 = .ok (.ifCond .eq 45, 3) := by decide +kernel
theorem dX0_growField_112 : decode cX0_growField 112 = .ok (.iload_n 3, 1) := by decide +kernel
theorem dX0_growField_113 : decode cX0_growField 113 = .ok (.iload 9, 2) := by decide +kernel
theorem dX0_growField_115 : decode cX0_growField 115 = .ok (.iconst 1, 1) := by decide +kernel
theorem dX0_growField_116 : decode cX0_growField 116 = .ok (.isub, 1) := by decide +kernel
theorem dX0_growField_117 : decode cX0_growField 117 = .ok (.iand, 1) := by decide +kernel
theorem dX0_growField_118 : decode cX0_growField 118 = .ok (.aload_n 0, 1) := by decide +kernel
theorem dX0_growField_119 : decode cX0_growField 119 = .ok (.getfield 32, 3) := by decide +kernel
theorem dX0_growField_122 : decode cX0_growField 122 = .ok (.iload 8, 2) := by decide +kernel
theorem dX0_growField_124 : decode cX0_growField 124 = .ok (.iaload, 1) := by decide +kernel
theorem dX0_growField_125 : decode cX0_growField 125 = .ok (.iconst (-1), 1) := by decide +kernel
theorem dX0_growField_126 : decode cX0_growField 126 = .ok (.ixor, 1) := by decide +kernel
theorem dX0_growField_127 : decode cX0_growField 127 = .ok (.iand, 1) := by decide +kernel
theorem dX0_growField_128 : decode cX0_growField 128 = .ok (.istore 10, 2) := by decide +kernel
theorem dX0_growField_130 : decode cX0_growField 130 = .ok (.iload 7, 2) := by decide +kernel
theorem dX0_growField_132 : decode cX0_growField 132 = .ok (.aload_n 0, 1) := by decide +kernel
theorem dX0_growField_133 : decode cX0_growField 133 = .ok (.iload_n 1, 1) := by decide +kernel
theorem dX0_growField_134 : decode cX0_growField 134 = .ok (.iload_n 2, 1) := by decide +kernel
theorem dX0_growField_135 : decode cX0_growField 135 = .ok (.iload 9, 2) := by decide +kernel
theorem dX0_growField_137 : decode cX0_growField 137 = .ok (.ior, 1) := by decide +kernel
theorem dX0_growField_138 : decode cX0_growField 138 = .ok (.iload 10, 2) := by decide +kernel
theorem dX0_growField_140 : decode cX0_growField 140 = .ok (.iload 4, 2) := by decide +kernel
theorem dX0_growField_142 : decode cX0_growField 142 = .ok (.iload 5, 2) := by decide +kernel
theorem dX0_growField_144 : decode cX0_growField 144 = .ok (.iconst 1, 1) := by decide +kernel
theorem dX0_growField_145 : decode cX0_growField 145 = .ok (.iadd, 1) := by decide +kernel
theorem dX0_growField_146 : decode cX0_growField 146 = .ok (.invokevirtual 90, 3) := by decide +kernel
theorem dX0_growField_149 : decode cX0_growField 149 = .ok (.invokestatic 97, 3) := by decide +kernel
theorem dX0_growField_152 : decode cX0_growField 152 = .ok (.istore 7, 2) := by decide +kernel
theorem dX0_growField_154 : decode cX0_growField 154 = .ok (.iinc 8 1, 3) := by decide +kernel
theorem dX0_growField_157 : decode cX0_growField 157 = .ok (.goto (-72), 3) := by decide +kernel
theorem dX0_growField_160 : decode cX0_growField 160 = .ok (.iload 7, 2) := by decide +kernel
theorem dX0_growField_162 : decode cX0_growField 162 = .ok (.ireturn, 1) := by decide +kernel
abbrev VX0_growField_85 (E : En) (d : Nat) (g : Ga) (P : Int32 → Hp → Prop) (x1 : Int32) (x2 : Int32) (x3 : Int32) (x4 : Int32) (x5 : Int32) (x6 : Int32) (x7 : Int32) (x8 : Int32) (h : Hp) : Prop := V E MX0_growField (RM (d + 1) 0) g (QQ E g (QI E P) 0 0) 0 0 h 85 [(0, .ref (eA E 51)), (1, .int x1), (2, .int x2), (3, .int x3), (4, .int x4), (5, .int x5), (6, .int x6), (7, .int x7), (8, .int x8)] []
set_option maxRecDepth 20000 in
theorem wp_X0_growField (E : En) (d : Nat) (a1 : Int32) (a2 : Int32) (a3 : Int32) (a4 : Int32) (a5 : Int32) (h : Hp) (P : Int32 → Hp → Prop) (t : ∀ g : Ga, SpI E d MX0_costOf [.int a2] h (fun v1 h1 => SpI E d MX0_costAtLeast [.ref (eA E 51), .int (a1 &&& ((a2 ||| a3) ^^^ (-1 : Int32)))] h1 (fun v2 h2 => ((v1 + v2) ≤ a4 → ((a5 ≤ (24 : Int32) → (SpI E d MX0_costWithin [.ref (eA E 51), .int (a1 &&& (a2 ^^^ (-1 : Int32))), .int (a4 - v1), .int (a5 + (1 : Int32))] h2 (fun v5 h5 => (a4 < (v1 + v5) → (VX0_growField_85 E d g P a1 a2 a3 a4 a5 v1 (v1 + v5) (0 : Int32) h5)) ∧ (¬ a4 < (v1 + v5) → (vp_in a1 4096 ∧ (P (v1 + v5) (sI h5 57 a1.toNatClampNeg a2))))))) ∧ (¬ a5 ≤ (24 : Int32) → (P (1048576 : Int32) h2)))) ∧ (¬ (v1 + v2) ≤ a4 → (P (v1 + v2) h2))))) : SpI E (d + 1) MX0_growField [.ref (eA E 51), .int a1, .int a2, .int a3, .int a4, .int a5] h P := by
  refine SpI.of (lv0 := [(0, .ref (eA E 51)), (1, .int a1), (2, .int a2), (3, .int a3), (4, .int a4), (5, .int a5)]) (by decide) (Nat.le_of_ble_eq_true rfl) rfl (fun g => ?_)
  have t := t g
  refine r_iload_n (q := 2) dX0_growField_0 rfl rfl ?_
  refine r_cSI (As := [.int a2]) dX0_growField_1 mkX0_costOf lkX0_94 rfl (by decide) rfl (Nat.le_of_ble_eq_true rfl) z00 t ?_
  intro v1 h1 t
  refine r_istore (lv' := [(6, .int v1), (0, .ref (eA E 51)), (1, .int a1), (2, .int a2), (3, .int a3), (4, .int a4), (5, .int a5)]) dX0_growField_4 (by decide) rfl ?_
  refine r_iload (q := 0) dX0_growField_6 rfl ?_
  refine r_aload_n (q := 1) dX0_growField_8 rfl rfl ?_
  refine r_iload_n (q := 2) dX0_growField_9 rfl rfl ?_
  refine r_iload_n (q := 3) dX0_growField_10 rfl rfl ?_
  refine r_iload_n (q := 4) dX0_growField_11 rfl rfl ?_
  refine r_ior dX0_growField_12 ?_
  refine r_iconst (v := (-1 : Int32)) dX0_growField_13 rfl ?_
  refine r_ixor dX0_growField_14 ?_
  refine r_iand dX0_growField_15 ?_
  refine r_cVI (c := 51) (As := [.int (a1 &&& ((a2 ||| a3) ^^^ (-1 : Int32)))]) dX0_growField_16 mkX0_costAtLeast lkX0_72 lay_51 rfl rfl rfl (by decide) rfl (Nat.le_of_ble_eq_true rfl) z00 t ?_
  intro v2 h2 t
  refine r_iadd dX0_growField_19 ?_
  refine r_istore (lv' := [(7, .int (v1 + v2)), (6, .int v1), (0, .ref (eA E 51)), (1, .int a1), (2, .int a2), (3, .int a3), (4, .int a4), (5, .int a5)]) dX0_growField_20 (by decide) rfl ?_
  refine r_iload (q := 0) dX0_growField_22 rfl ?_
  refine r_iload (q := 6) dX0_growField_24 rfl ?_
  refine r_icmp_le (tgt := 32) dX0_growField_26 (by decide) (fun q3 => ?_) (fun q3 => ?_)
  · have t := t.1 q3
    refine r_iload (q := 7) dX0_growField_32 rfl ?_
    refine r_bipush (v := (24 : Int32)) dX0_growField_34 rfl ?_
    refine r_icmp_le (tgt := 42) dX0_growField_36 (by decide) (fun q4 => ?_) (fun q4 => ?_)
    · have t := t.1 q4
      refine r_iload (q := 1) dX0_growField_42 rfl ?_
      refine r_aload_n (q := 2) dX0_growField_44 rfl rfl ?_
      refine r_iload_n (q := 3) dX0_growField_45 rfl rfl ?_
      refine r_iload_n (q := 4) dX0_growField_46 rfl rfl ?_
      refine r_iconst (v := (-1 : Int32)) dX0_growField_47 rfl ?_
      refine r_ixor dX0_growField_48 ?_
      refine r_iand dX0_growField_49 ?_
      refine r_iload (q := 6) dX0_growField_50 rfl ?_
      refine r_iload (q := 1) dX0_growField_52 rfl ?_
      refine r_isub dX0_growField_54 ?_
      refine r_iload (q := 7) dX0_growField_55 rfl ?_
      refine r_iconst (v := (1 : Int32)) dX0_growField_57 rfl ?_
      refine r_iadd dX0_growField_58 ?_
      refine r_cVI (c := 51) (As := [.int (a1 &&& (a2 ^^^ (-1 : Int32))), .int (a4 - v1), .int (a5 + (1 : Int32))]) dX0_growField_59 mkX0_costWithin lkX0_76 lay_51 rfl rfl rfl (by decide) rfl (Nat.le_of_ble_eq_true rfl) z00 t ?_
      intro v5 h5 t
      refine r_iadd dX0_growField_62 ?_
      refine r_istore (lv' := [(7, .int (v1 + v5)), (6, .int v1), (0, .ref (eA E 51)), (1, .int a1), (2, .int a2), (3, .int a3), (4, .int a4), (5, .int a5)]) dX0_growField_63 (by decide) rfl ?_
      refine r_iload (q := 0) dX0_growField_65 rfl ?_
      refine r_iload (q := 6) dX0_growField_67 rfl ?_
      refine r_icmp_gt (tgt := 82) dX0_growField_69 (by decide) (fun q6 => ?_) (fun q6 => ?_)
      · have t := t.1 q6
        refine r_iconst (v := (0 : Int32)) dX0_growField_82 rfl ?_
        refine r_istore (lv' := [(8, .int (0 : Int32)), (7, .int (v1 + v5)), (6, .int v1), (0, .ref (eA E 51)), (1, .int a1), (2, .int a2), (3, .int a3), (4, .int a4), (5, .int a5)]) dX0_growField_83 (by decide) rfl ?_
        refine r_sub [3, 4, 5, 6, 7, 8, 2, 1, 0] rfl ?_
        exact t
      · have t := t.2 q6
        refine r_aload_n (q := 2) dX0_growField_72 rfl rfl ?_
        refine r_getR (c := 51) (c2 := 57) dX0_growField_73 flX0_38 lay_51 rfl ?_
        refine r_iload_n (q := 3) dX0_growField_76 rfl rfl ?_
        refine r_iload_n (q := 4) dX0_growField_77 rfl rfl ?_
        obtain ⟨c7, t⟩ := t
        refine r_iast (c := 57) dX0_growField_78 lay_57 c7 ?_
        refine r_iload (q := 0) dX0_growField_79 rfl ?_
        exact r_iret dX0_growField_81 rfl t
    · have t := t.2 q4
      refine r_ldc (v := (1048576 : Int32)) dX0_growField_39 cnX0_80 ?_
      exact r_iret dX0_growField_41 rfl t
  · have t := t.2 q3
    refine r_iload (q := 0) dX0_growField_29 rfl ?_
    exact r_iret dX0_growField_31 rfl t
set_option maxRecDepth 20000 in
theorem sg_X0_growField_85 (E : En) (d : Nat) (g : Ga) (x1 : Int32) (x2 : Int32) (x3 : Int32) (x4 : Int32) (x5 : Int32) (x6 : Int32) (x7 : Int32) (x8 : Int32) (h : Hp) (P : Int32 → Hp → Prop) (t : ((12 : Int32) ≤ x8 → (P x7 h)) ∧ (¬ (12 : Int32) ≤ x8 → ((x7 ≤ x4 → (P x7 h)) ∧ (¬ x7 ≤ x4 → (((x3 &&& ((1 : Int32) <<< (x8 &&& 31))) = 0 → (VX0_growField_85 E d g P x1 x2 x3 x4 x5 x6 x7 (x8 + (1 : Int32)) h)) ∧ (¬ (x3 &&& ((1 : Int32) <<< (x8 &&& 31))) = 0 → (vp_in x8 12 ∧ (SpI E d MX0_growField [.ref (eA E 51), .int x1, .int (x2 ||| ((1 : Int32) <<< (x8 &&& 31))), .int ((x3 &&& (((1 : Int32) <<< (x8 &&& 31)) - (1 : Int32))) &&& ((h.1 55 x8.toNatClampNeg) ^^^ (-1 : Int32))), .int x4, .int (x5 + (1 : Int32))] h (fun v5 h5 => VX0_growField_85 E d g P x1 x2 x3 x4 x5 x6 (if v5 < x7 then v5 else x7) (x8 + (1 : Int32)) h5))))))))) : VX0_growField_85 E d g P x1 x2 x3 x4 x5 x6 x7 x8 h := by
  refine r_iload (q := 8) dX0_growField_85 rfl ?_
  refine r_bipush (v := (12 : Int32)) dX0_growField_87 rfl ?_
  refine r_icmp_ge (tgt := 160) dX0_growField_89 (by decide) (fun q1 => ?_) (fun q1 => ?_)
  · have t := t.1 q1
    refine r_iload (q := 7) dX0_growField_160 rfl ?_
    exact r_iret dX0_growField_162 rfl t
  · have t := t.2 q1
    refine r_iload (q := 7) dX0_growField_92 rfl ?_
    refine r_iload (q := 4) dX0_growField_94 rfl ?_
    refine r_icmp_le (tgt := 160) dX0_growField_96 (by decide) (fun q2 => ?_) (fun q2 => ?_)
    · have t := t.1 q2
      refine r_iload (q := 7) dX0_growField_160 rfl ?_
      exact r_iret dX0_growField_162 rfl t
    · have t := t.2 q2
      refine r_iconst (v := (1 : Int32)) dX0_growField_99 rfl ?_
      refine r_iload (q := 8) dX0_growField_100 rfl ?_
      refine r_ishl dX0_growField_102 ?_
      refine r_istore (lv' := [(9, .int ((1 : Int32) <<< (x8 &&& 31))), (0, .ref (eA E 51)), (1, .int x1), (2, .int x2), (3, .int x3), (4, .int x4), (5, .int x5), (6, .int x6), (7, .int x7), (8, .int x8)]) dX0_growField_103 (by decide) rfl ?_
      refine r_iload_n (q := 4) dX0_growField_105 rfl rfl ?_
      refine r_iload (q := 0) dX0_growField_106 rfl ?_
      refine r_iand dX0_growField_108 ?_
      refine r_if_eq (tgt := 154) dX0_growField_109 (by decide) (fun q3 => ?_) (fun q3 => ?_)
      · have t := t.1 q3
        refine r_iinc (k := 9) (v := x8 + (1 : Int32)) (lv' := [(8, .int (x8 + (1 : Int32))), (9, .int ((1 : Int32) <<< (x8 &&& 31))), (0, .ref (eA E 51)), (1, .int x1), (2, .int x2), (3, .int x3), (4, .int x4), (5, .int x5), (6, .int x6), (7, .int x7)]) dX0_growField_154 rfl rfl (by decide) rfl ?_
        refine r_goto (tgt := 85) dX0_growField_157 (by decide) ?_
        refine r_sub [2, 3, 4, 5, 6, 7, 8, 9, 0] rfl ?_
        exact t
      · have t := t.2 q3
        refine r_iload_n (q := 4) dX0_growField_112 rfl rfl ?_
        refine r_iload (q := 0) dX0_growField_113 rfl ?_
        refine r_iconst (v := (1 : Int32)) dX0_growField_115 rfl ?_
        refine r_isub dX0_growField_116 ?_
        refine r_iand dX0_growField_117 ?_
        refine r_aload_n (q := 1) dX0_growField_118 rfl rfl ?_
        refine r_getR (c := 51) (c2 := 55) dX0_growField_119 flX0_32 lay_51 rfl ?_
        refine r_iload (q := 9) dX0_growField_122 rfl ?_
        obtain ⟨c4, t⟩ := t
        refine r_iald (c := 55) dX0_growField_124 lay_55 c4 ?_
        refine r_iconst (v := (-1 : Int32)) dX0_growField_125 rfl ?_
        refine r_ixor dX0_growField_126 ?_
        refine r_iand dX0_growField_127 ?_
        refine r_istore (lv' := [(10, .int ((x3 &&& (((1 : Int32) <<< (x8 &&& 31)) - (1 : Int32))) &&& ((h.1 55 x8.toNatClampNeg) ^^^ (-1 : Int32)))), (9, .int ((1 : Int32) <<< (x8 &&& 31))), (0, .ref (eA E 51)), (1, .int x1), (2, .int x2), (3, .int x3), (4, .int x4), (5, .int x5), (6, .int x6), (7, .int x7), (8, .int x8)]) dX0_growField_128 (by decide) rfl ?_
        refine r_iload (q := 9) dX0_growField_130 rfl ?_
        refine r_aload_n (q := 2) dX0_growField_132 rfl rfl ?_
        refine r_iload_n (q := 3) dX0_growField_133 rfl rfl ?_
        refine r_iload_n (q := 4) dX0_growField_134 rfl rfl ?_
        refine r_iload (q := 1) dX0_growField_135 rfl ?_
        refine r_ior dX0_growField_137 ?_
        refine r_iload (q := 0) dX0_growField_138 rfl ?_
        refine r_iload (q := 6) dX0_growField_140 rfl ?_
        refine r_iload (q := 7) dX0_growField_142 rfl ?_
        refine r_iconst (v := (1 : Int32)) dX0_growField_144 rfl ?_
        refine r_iadd dX0_growField_145 ?_
        refine r_cVI (c := 51) (As := [.int x1, .int (x2 ||| ((1 : Int32) <<< (x8 &&& 31))), .int ((x3 &&& (((1 : Int32) <<< (x8 &&& 31)) - (1 : Int32))) &&& ((h.1 55 x8.toNatClampNeg) ^^^ (-1 : Int32))), .int x4, .int (x5 + (1 : Int32))]) dX0_growField_146 mkX0_growField lkX0_90 lay_51 rfl rfl rfl (by decide) rfl (Nat.le_of_ble_eq_true rfl) z00 t ?_
        intro v5 h5 t
        refine r_min dX0_growField_149 lkX0_97 (Nat.le_of_ble_eq_true rfl) z00 ?_
        refine r_istore (lv' := [(7, .int (if v5 < x7 then v5 else x7)), (10, .int ((x3 &&& (((1 : Int32) <<< (x8 &&& 31)) - (1 : Int32))) &&& ((h.1 55 x8.toNatClampNeg) ^^^ (-1 : Int32)))), (9, .int ((1 : Int32) <<< (x8 &&& 31))), (0, .ref (eA E 51)), (1, .int x1), (2, .int x2), (3, .int x3), (4, .int x4), (5, .int x5), (6, .int x6), (8, .int x8)]) dX0_growField_152 (by decide) rfl ?_
        refine r_iinc (k := 10) (v := x8 + (1 : Int32)) (lv' := [(8, .int (x8 + (1 : Int32))), (7, .int (if v5 < x7 then v5 else x7)), (10, .int ((x3 &&& (((1 : Int32) <<< (x8 &&& 31)) - (1 : Int32))) &&& ((h.1 55 x8.toNatClampNeg) ^^^ (-1 : Int32)))), (9, .int ((1 : Int32) <<< (x8 &&& 31))), (0, .ref (eA E 51)), (1, .int x1), (2, .int x2), (3, .int x3), (4, .int x4), (5, .int x5), (6, .int x6)]) dX0_growField_154 rfl rfl (by decide) rfl ?_
        refine r_goto (tgt := 85) dX0_growField_157 (by decide) ?_
        refine r_sub [4, 5, 6, 7, 8, 9, 10, 1, 0] rfl ?_
        exact t
theorem dX0_isField_0 : decode cX0_isField 0 = .ok (.iconst 0, 1) := by decide +kernel
theorem dX0_isField_1 : decode cX0_isField 1 = .ok (.istore_n 2, 1) := by decide +kernel
theorem dX0_isField_2 : decode cX0_isField 2 = .ok (.iload_n 2, 1) := by decide +kernel
theorem dX0_isField_3 : decode cX0_isField 3 = .ok (.bipush 12, 2) := by decide +kernel
theorem dX0_isField_5 : decode cX0_isField 5 = .ok (.if_icmp .ge 30, 3) := by decide +kernel
theorem dX0_isField_8 : decode cX0_isField 8 = .ok (.iload_n 1, 1) := by decide +kernel
theorem dX0_isField_9 : decode cX0_isField 9 = .ok (.iconst 1, 1) := by decide +kernel
theorem dX0_isField_10 : decode cX0_isField 10 = .ok (.iload_n 2, 1) := by decide +kernel
theorem dX0_isField_11 : decode cX0_isField 11 = .ok (.ishl, 1) := by decide +kernel
theorem dX0_isField_12 : decode cX0_isField 12 = .ok (.iand, 1) := by decide +kernel
theorem dX0_isField_13 : decode cX0_isField 13 = .ok (.ifCond .eq 16, 3) := by decide +kernel
theorem dX0_isField_16 : decode cX0_isField 16 = .ok (.iload_n 1, 1) := by decide +kernel
theorem dX0_isField_17 : decode cX0_isField 17 = .ok (.aload_n 0, 1) := by decide +kernel
theorem dX0_isField_18 : decode cX0_isField 18 = .ok (.getfield 32, 3) := by decide +kernel
theorem dX0_isField_21 : decode cX0_isField 21 = .ok (.iload_n 2, 1) := by decide +kernel
theorem dX0_isField_22 : decode cX0_isField 22 = .ok (.iaload, 1) := by decide +kernel
theorem dX0_isField_23 : decode cX0_isField 23 = .ok (.iand, 1) := by decide +kernel
theorem dX0_isField_24 : decode cX0_isField 24 = .ok (.ifCond .eq 5, 3) := by decide +kernel
theorem dX0_isField_27 : decode cX0_isField 27 = .ok (.iconst 0, 1) := by decide +kernel
theorem dX0_isField_28 : decode cX0_isField 28 = .ok (.ireturn, 1) := by decide +kernel
theorem dX0_isField_29 : decode cX0_isField 29 = .ok (.iinc 2 1, 3) := by decide +kernel
theorem dX0_isField_32 : decode cX0_isField 32 = .ok (.goto (-30), 3) := by decide +kernel
theorem dX0_isField_35 : decode cX0_isField 35 = .ok (.iconst 1, 1) := by decide +kernel
theorem dX0_isField_36 : decode cX0_isField 36 = .ok (.ireturn, 1) := by decide +kernel
abbrev VX0_isField_2 (E : En) (d : Nat) (g : Ga) (P : Int32 → Hp → Prop) (x1 : Int32) (x2 : Int32) (h : Hp) : Prop := V E MX0_isField (RM d 0) g (QQ E g (QI E P) 0 0) 0 0 h 2 [(0, .ref (eA E 51)), (1, .int x1), (2, .int x2)] []
set_option maxRecDepth 20000 in
theorem wp_X0_isField (E : En) (d : Nat) (a1 : Int32) (h : Hp) (P : Int32 → Hp → Prop) (t : ∀ g : Ga, VX0_isField_2 E d g P a1 (0 : Int32) h) : SpI E d MX0_isField [.ref (eA E 51), .int a1] h P := by
  refine SpI.of (lv0 := [(0, .ref (eA E 51)), (1, .int a1)]) (by decide) (Nat.le_of_ble_eq_true rfl) rfl (fun g => ?_)
  have t := t g
  refine r_iconst (v := (0 : Int32)) dX0_isField_0 rfl ?_
  refine r_istore_n (lv' := [(2, .int (0 : Int32)), (0, .ref (eA E 51)), (1, .int a1)]) dX0_isField_1 rfl (by decide) rfl ?_
  refine r_sub [1, 2, 0] rfl ?_
  exact t
set_option maxRecDepth 20000 in
theorem sg_X0_isField_2 (E : En) (d : Nat) (g : Ga) (x1 : Int32) (x2 : Int32) (h : Hp) (P : Int32 → Hp → Prop) (t : ((12 : Int32) ≤ x2 → (P (1 : Int32) h)) ∧ (¬ (12 : Int32) ≤ x2 → (((x1 &&& ((1 : Int32) <<< (x2 &&& 31))) = 0 → (VX0_isField_2 E d g P x1 (x2 + (1 : Int32)) h)) ∧ (¬ (x1 &&& ((1 : Int32) <<< (x2 &&& 31))) = 0 → (vp_in x2 12 ∧ (((x1 &&& (h.1 55 x2.toNatClampNeg)) = 0 → (VX0_isField_2 E d g P x1 (x2 + (1 : Int32)) h)) ∧ (¬ (x1 &&& (h.1 55 x2.toNatClampNeg)) = 0 → (P (0 : Int32) h)))))))) : VX0_isField_2 E d g P x1 x2 h := by
  refine r_iload_n (q := 2) dX0_isField_2 rfl rfl ?_
  refine r_bipush (v := (12 : Int32)) dX0_isField_3 rfl ?_
  refine r_icmp_ge (tgt := 35) dX0_isField_5 (by decide) (fun q1 => ?_) (fun q1 => ?_)
  · have t := t.1 q1
    refine r_iconst (v := (1 : Int32)) dX0_isField_35 rfl ?_
    exact r_zret dX0_isField_36 rfl (Or.inr rfl) t
  · have t := t.2 q1
    refine r_iload_n (q := 1) dX0_isField_8 rfl rfl ?_
    refine r_iconst (v := (1 : Int32)) dX0_isField_9 rfl ?_
    refine r_iload_n (q := 2) dX0_isField_10 rfl rfl ?_
    refine r_ishl dX0_isField_11 ?_
    refine r_iand dX0_isField_12 ?_
    refine r_if_eq (tgt := 29) dX0_isField_13 (by decide) (fun q2 => ?_) (fun q2 => ?_)
    · have t := t.1 q2
      refine r_iinc (k := 2) (v := x2 + (1 : Int32)) (lv' := [(2, .int (x2 + (1 : Int32))), (0, .ref (eA E 51)), (1, .int x1)]) dX0_isField_29 rfl rfl (by decide) rfl ?_
      refine r_goto (tgt := 2) dX0_isField_32 (by decide) ?_
      refine r_sub [1, 2, 0] rfl ?_
      exact t
    · have t := t.2 q2
      refine r_iload_n (q := 1) dX0_isField_16 rfl rfl ?_
      refine r_aload_n (q := 0) dX0_isField_17 rfl rfl ?_
      refine r_getR (c := 51) (c2 := 55) dX0_isField_18 flX0_32 lay_51 rfl ?_
      refine r_iload_n (q := 2) dX0_isField_21 rfl rfl ?_
      obtain ⟨c3, t⟩ := t
      refine r_iald (c := 55) dX0_isField_22 lay_55 c3 ?_
      refine r_iand dX0_isField_23 ?_
      refine r_if_eq (tgt := 29) dX0_isField_24 (by decide) (fun q4 => ?_) (fun q4 => ?_)
      · have t := t.1 q4
        refine r_iinc (k := 2) (v := x2 + (1 : Int32)) (lv' := [(2, .int (x2 + (1 : Int32))), (0, .ref (eA E 51)), (1, .int x1)]) dX0_isField_29 rfl rfl (by decide) rfl ?_
        refine r_goto (tgt := 2) dX0_isField_32 (by decide) ?_
        refine r_sub [1, 2, 0] rfl ?_
        exact t
      · have t := t.2 q4
        refine r_iconst (v := (0 : Int32)) dX0_isField_27 rfl ?_
        exact r_zret dX0_isField_28 rfl (Or.inl rfl) t
theorem dX0_costAtLeast_0 : decode cX0_costAtLeast 0 = .ok (.aload_n 0, 1) := by decide +kernel
theorem dX0_costAtLeast_1 : decode cX0_costAtLeast 1 = .ok (.getfield 35, 3) := by decide +kernel
theorem dX0_costAtLeast_4 : decode cX0_costAtLeast 4 = .ok (.iload_n 1, 1) := by decide +kernel
theorem dX0_costAtLeast_5 : decode cX0_costAtLeast 5 = .ok (.iaload, 1) := by decide +kernel
theorem dX0_costAtLeast_6 : decode cX0_costAtLeast 6 = .ok (.ifCond .ne 41, 3) := by decide +kernel
theorem dX0_costAtLeast_9 : decode cX0_costAtLeast 9 = .ok (.iload_n 1, 1) := by decide +kernel
theorem dX0_costAtLeast_10 : decode cX0_costAtLeast 10 = .ok (.ifCond .eq 37, 3) := by decide +kernel
theorem dX0_costAtLeast_13 : decode cX0_costAtLeast 13 = .ok (.aload_n 0, 1) := by decide +kernel
theorem dX0_costAtLeast_14 : decode cX0_costAtLeast 14 = .ok (.getfield 35, 3) := by decide +kernel
theorem dX0_costAtLeast_17 : decode cX0_costAtLeast 17 = .ok (.iload_n 1, 1) := by decide +kernel
theorem dX0_costAtLeast_18 : decode cX0_costAtLeast 18 = .ok (.aload_n 0, 1) := by decide +kernel
theorem dX0_costAtLeast_19 : decode cX0_costAtLeast 19 = .ok (.iload_n 1, 1) := by decide +kernel
theorem dX0_costAtLeast_20 : decode cX0_costAtLeast 20 = .ok (.invokevirtual 81, 3) := by decide +kernel
theorem dX0_costAtLeast_23 : decode cX0_costAtLeast 23 = .ok (.ifCond .eq 10, 3) := by decide +kernel
theorem dX0_costAtLeast_26 : decode cX0_costAtLeast 26 = .ok (.iload_n 1, 1) := by decide +kernel
theorem dX0_costAtLeast_27 : decode cX0_costAtLeast 27 = .ok (.invokestatic 94, 3) := by decide +kernel
theorem dX0_costAtLeast_30 : decode cX0_costAtLeast 30 = .ok (.goto 16, 3) := by decide +kernel
theorem dX0_costAtLeast_33 : decode cX0_costAtLeast 33 = .ok (.bipush 16, 2) := by decide +kernel
theorem dX0_costAtLeast_35 : decode cX0_costAtLeast 35 = .ok (.getstatic 103, 3) := by decide +kernel
theorem dX0_costAtLeast_38 : decode cX0_costAtLeast 38 = .ok (.iload_n 1, 1) := by decide +kernel
theorem dX0_costAtLeast_39 : decode cX0_costAtLeast 39 = .ok (.invokestatic 85, 3) := by decide +kernel
theorem dX0_costAtLeast_42 : decode cX0_costAtLeast 42 = .ok (.iaload, 1) := by decide +kernel
theorem dX0_costAtLeast_43 : decode cX0_costAtLeast 43 = .ok (.imul, 1) := by decide +kernel
theorem dX0_costAtLeast_44 : decode cX0_costAtLeast 44 = .ok (.iconst 2, 1) := by decide +kernel
theorem dX0_costAtLeast_45 : decode cX0_costAtLeast 45 = .ok (.iadd, 1) := by decide +kernel
theorem dX0_costAtLeast_46 : decode cX0_costAtLeast 46 = .ok (.iastore, 1) := by decide +kernel
theorem dX0_costAtLeast_47 : decode cX0_costAtLeast 47 = .ok (.aload_n 0, 1) := by decide +kernel
theorem dX0_costAtLeast_48 : decode cX0_costAtLeast 48 = .ok (.getfield 35, 3) := by decide +kernel
theorem dX0_costAtLeast_51 : decode cX0_costAtLeast 51 = .ok (.iload_n 1, 1) := by decide +kernel
theorem dX0_costAtLeast_52 : decode cX0_costAtLeast 52 = .ok (.iaload, 1) := by decide +kernel
theorem dX0_costAtLeast_53 : decode cX0_costAtLeast 53 = .ok (.ireturn, 1) := by decide +kernel
set_option maxRecDepth 20000 in
theorem wp_X0_costAtLeast (E : En) (d : Nat) (a1 : Int32) (h : Hp) (P : Int32 → Hp → Prop) (t : vp_in a1 4096 ∧ ((¬ (h.1 56 a1.toNatClampNeg) = 0 → (vp_in a1 4096 ∧ (P (h.1 56 a1.toNatClampNeg) h))) ∧ ((h.1 56 a1.toNatClampNeg) = 0 → ((a1 = 0 → (vp_in a1 4096 ∧ (P (h.1 56 a1.toNatClampNeg) h))) ∧ (¬ a1 = 0 → (SpI E d MX0_isField [.ref (eA E 51), .int a1] h (fun v6 h6 => (v6 = 0 → (SpI E d MJ6_bitCount_0f7a4 [.int a1] h6 (fun v8 h8 => vp_in v8 13 ∧ (vp_in a1 4096 ∧ (vp_in a1 4096 ∧ (P (((16 : Int32) * (PBITS.getD v8.toNatClampNeg 0)) + (2 : Int32)) (sI h8 56 a1.toNatClampNeg (((16 : Int32) * (PBITS.getD v8.toNatClampNeg 0)) + (2 : Int32))))))))) ∧ (¬ v6 = 0 → (SpI E d MX0_costOf [.int a1] h6 (fun v12 h12 => vp_in a1 4096 ∧ (vp_in a1 4096 ∧ (P v12 (sI h12 56 a1.toNatClampNeg v12))))))))))))) : SpI E (d + 1) MX0_costAtLeast [.ref (eA E 51), .int a1] h P := by
  refine SpI.of (lv0 := [(0, .ref (eA E 51)), (1, .int a1)]) (by decide) (Nat.le_of_ble_eq_true rfl) rfl (fun g => ?_)
  refine r_aload_n (q := 0) dX0_costAtLeast_0 rfl rfl ?_
  refine r_getR (c := 51) (c2 := 56) dX0_costAtLeast_1 flX0_35 lay_51 rfl ?_
  refine r_iload_n (q := 1) dX0_costAtLeast_4 rfl rfl ?_
  obtain ⟨c1, t⟩ := t
  refine r_iald (c := 56) dX0_costAtLeast_5 lay_56 c1 ?_
  refine r_if_ne (tgt := 47) dX0_costAtLeast_6 (by decide) (fun q2 => ?_) (fun q2 => ?_)
  · have t := t.1 q2
    refine r_aload_n (q := 0) dX0_costAtLeast_47 rfl rfl ?_
    refine r_getR (c := 51) (c2 := 56) dX0_costAtLeast_48 flX0_35 lay_51 rfl ?_
    refine r_iload_n (q := 1) dX0_costAtLeast_51 rfl rfl ?_
    obtain ⟨c3, t⟩ := t
    refine r_iald (c := 56) dX0_costAtLeast_52 lay_56 c3 ?_
    exact r_iret dX0_costAtLeast_53 rfl t
  · have t := t.2 q2
    refine r_iload_n (q := 1) dX0_costAtLeast_9 rfl rfl ?_
    refine r_if_eq (tgt := 47) dX0_costAtLeast_10 (by decide) (fun q4 => ?_) (fun q4 => ?_)
    · have t := t.1 q4
      refine r_aload_n (q := 0) dX0_costAtLeast_47 rfl rfl ?_
      refine r_getR (c := 51) (c2 := 56) dX0_costAtLeast_48 flX0_35 lay_51 rfl ?_
      refine r_iload_n (q := 1) dX0_costAtLeast_51 rfl rfl ?_
      obtain ⟨c5, t⟩ := t
      refine r_iald (c := 56) dX0_costAtLeast_52 lay_56 c5 ?_
      exact r_iret dX0_costAtLeast_53 rfl t
    · have t := t.2 q4
      refine r_aload_n (q := 0) dX0_costAtLeast_13 rfl rfl ?_
      refine r_getR (c := 51) (c2 := 56) dX0_costAtLeast_14 flX0_35 lay_51 rfl ?_
      refine r_iload_n (q := 1) dX0_costAtLeast_17 rfl rfl ?_
      refine r_aload_n (q := 0) dX0_costAtLeast_18 rfl rfl ?_
      refine r_iload_n (q := 1) dX0_costAtLeast_19 rfl rfl ?_
      refine r_cVI (c := 51) (As := [.int a1]) dX0_costAtLeast_20 mkX0_isField lkX0_81 lay_51 rfl rfl rfl (by decide) rfl (Nat.le_of_ble_eq_true rfl) z00 t ?_
      intro v6 h6 t
      refine r_if_eq (tgt := 33) dX0_costAtLeast_23 (by decide) (fun q7 => ?_) (fun q7 => ?_)
      · have t := t.1 q7
        refine r_bipush (v := (16 : Int32)) dX0_costAtLeast_33 rfl ?_
        refine r_getU dX0_costAtLeast_35 fsX0_103 ?_
        refine r_iload_n (q := 1) dX0_costAtLeast_38 rfl rfl ?_
        refine r_cSI (As := [.int a1]) dX0_costAtLeast_39 mkJ6_bitCount_0f7a4 lkX0_85 rfl (by decide) rfl (Nat.le_of_ble_eq_true rfl) z00 t ?_
        intro v8 h8 t
        obtain ⟨c9, t⟩ := t
        refine r_Uald dX0_costAtLeast_42 c9 ?_
        refine r_imul dX0_costAtLeast_43 ?_
        refine r_iconst (v := (2 : Int32)) dX0_costAtLeast_44 rfl ?_
        refine r_iadd dX0_costAtLeast_45 ?_
        obtain ⟨c10, t⟩ := t
        refine r_iast (c := 56) dX0_costAtLeast_46 lay_56 c10 ?_
        refine r_aload_n (q := 0) dX0_costAtLeast_47 rfl rfl ?_
        refine r_getR (c := 51) (c2 := 56) dX0_costAtLeast_48 flX0_35 lay_51 rfl ?_
        refine r_iload_n (q := 1) dX0_costAtLeast_51 rfl rfl ?_
        obtain ⟨c11, t⟩ := t
        refine r_ialdv (c := 56) (v := ((16 : Int32) * (PBITS.getD v8.toNatClampNeg 0)) + (2 : Int32)) dX0_costAtLeast_52 lay_56 c11 (sI_self _ _ _ _) ?_
        exact r_iret dX0_costAtLeast_53 rfl t
      · have t := t.2 q7
        refine r_iload_n (q := 1) dX0_costAtLeast_26 rfl rfl ?_
        refine r_cSI (As := [.int a1]) dX0_costAtLeast_27 mkX0_costOf lkX0_94 rfl (by decide) rfl (Nat.le_of_ble_eq_true rfl) z00 t ?_
        intro v12 h12 t
        refine r_goto (tgt := 46) dX0_costAtLeast_30 (by decide) ?_
        obtain ⟨c13, t⟩ := t
        refine r_iast (c := 56) dX0_costAtLeast_46 lay_56 c13 ?_
        refine r_aload_n (q := 0) dX0_costAtLeast_47 rfl rfl ?_
        refine r_getR (c := 51) (c2 := 56) dX0_costAtLeast_48 flX0_35 lay_51 rfl ?_
        refine r_iload_n (q := 1) dX0_costAtLeast_51 rfl rfl ?_
        obtain ⟨c14, t⟩ := t
        refine r_ialdv (c := 56) (v := v12) dX0_costAtLeast_52 lay_56 c14 (sI_self _ _ _ _) ?_
        exact r_iret dX0_costAtLeast_53 rfl t
theorem dX0_encode_0 : decode cX0_encode 0 = .ok (.iload_n 2, 1) := by decide +kernel
theorem dX0_encode_1 : decode cX0_encode 1 = .ok (.ifCond .eq 12, 3) := by decide +kernel
theorem dX0_encode_4 : decode cX0_encode 4 = .ok (.lconst 1, 1) := by decide +kernel
theorem dX0_encode_5 : decode cX0_encode 5 = .ok (.aload_n 0, 1) := by decide +kernel
theorem dX0_encode_6 : decode cX0_encode 6 = .ok (.getfield 19, 3) := by decide +kernel
theorem dX0_encode_9 : decode cX0_encode 9 = .ok (.lshl, 1) := by decide +kernel
theorem dX0_encode_10 : decode cX0_encode 10 = .ok (.goto 4, 3) := by decide +kernel
theorem dX0_encode_13 : decode cX0_encode 13 = .ok (.lconst 0, 1) := by decide +kernel
theorem dX0_encode_14 : decode cX0_encode 14 = .ok (.lstore_n 3, 1) := by decide +kernel
theorem dX0_encode_15 : decode cX0_encode 15 = .ok (.iconst 0, 1) := by decide +kernel
theorem dX0_encode_16 : decode cX0_encode 16 = .ok (.istore 5, 2) := by decide +kernel
theorem dX0_encode_18 : decode cX0_encode 18 = .ok (.iload 5, 2) := by decide +kernel
theorem dX0_encode_20 : decode cX0_encode 20 = .ok (.bipush 12, 2) := by decide +kernel
theorem dX0_encode_22 : decode cX0_encode 22 = .ok (.if_icmp .ge 37, 3) := by decide +kernel
theorem dX0_encode_25 : decode cX0_encode 25 = .ok (.iload_n 1, 1) := by decide +kernel
theorem dX0_encode_26 : decode cX0_encode 26 = .ok (.iconst 1, 1) := by decide +kernel
theorem dX0_encode_27 : decode cX0_encode 27 = .ok (.iload 5, 2) := by decide +kernel
theorem dX0_encode_29 : decode cX0_encode 29 = .ok (.ishl, 1) := by decide +kernel
theorem dX0_encode_30 : decode cX0_encode 30 = .ok (.iand, 1) := by decide +kernel
theorem dX0_encode_31 : decode cX0_encode 31 = .ok (.ifCond .eq 22, 3) := by decide +kernel
theorem dX0_encode_34 : decode cX0_encode 34 = .ok (.lload_n 3, 1) := by decide +kernel
theorem dX0_encode_35 : decode cX0_encode 35 = .ok (.aload_n 0, 1) := by decide +kernel
theorem dX0_encode_36 : decode cX0_encode 36 = .ok (.getfield 26, 3) := by decide +kernel
theorem dX0_encode_39 : decode cX0_encode 39 = .ok (.iload 5, 2) := by decide +kernel
theorem dX0_encode_41 : decode cX0_encode 41 = .ok (.iaload, 1) := by decide +kernel
theorem dX0_encode_42 : decode cX0_encode 42 = .ok (.i2l, 1) := by decide +kernel
theorem dX0_encode_43 : decode cX0_encode 43 = .ok (.aload_n 0, 1) := by decide +kernel
theorem dX0_encode_44 : decode cX0_encode 44 = .ok (.getfield 29, 3) := by decide +kernel
theorem dX0_encode_47 : decode cX0_encode 47 = .ok (.iload 5, 2) := by decide +kernel
theorem dX0_encode_49 : decode cX0_encode 49 = .ok (.iaload, 1) := by decide +kernel
theorem dX0_encode_50 : decode cX0_encode 50 = .ok (.lshl, 1) := by decide +kernel
theorem dX0_encode_51 : decode cX0_encode 51 = .ok (.lor, 1) := by decide +kernel
theorem dX0_encode_52 : decode cX0_encode 52 = .ok (.lstore_n 3, 1) := by decide +kernel
theorem dX0_encode_53 : decode cX0_encode 53 = .ok (.iinc 5 1, 3) := by decide +kernel
theorem dX0_encode_56 : decode cX0_encode 56 = .ok (.goto (-38), 3) := by decide +kernel
theorem dX0_encode_59 : decode cX0_encode 59 = .ok (.lload_n 3, 1) := by decide +kernel
theorem dX0_encode_60 : decode cX0_encode 60 = .ok (.lreturn, 1) := by decide +kernel
abbrev VX0_encode_18 (E : En) (d : Nat) (g : Ga) (P : Int64 → Hp → Prop) (x1 : Int32) (x2 : Int32) (x3 : Int64) (x5 : Int32) (h : Hp) : Prop := V E MX0_encode (RM d 0) g (QQ E g (QL E P) 0 0) 0 0 h 18 [(0, .ref (eA E 51)), (1, .int x1), (2, .int x2), (3, .long x3), (5, .int x5)] []
set_option maxRecDepth 20000 in
theorem wp_X0_encode (E : En) (d : Nat) (a1 : Int32) (a2 : Int32) (h : Hp) (P : Int64 → Hp → Prop) (t : ∀ g : Ga, (a2 = 0 → (VX0_encode_18 E d g P a1 a2 (0 : Int64) (0 : Int32) h)) ∧ (¬ a2 = 0 → (VX0_encode_18 E d g P a1 a2 ((1 : Int64) <<< ((h.1 51 2).toInt64 &&& 63)) (0 : Int32) h))) : SpL E d MX0_encode [.ref (eA E 51), .int a1, .int a2] h P := by
  refine SpL.of (lv0 := [(0, .ref (eA E 51)), (1, .int a1), (2, .int a2)]) (by decide) (Nat.le_of_ble_eq_true rfl) rfl (fun g => ?_)
  have t := t g
  refine r_iload_n (q := 2) dX0_encode_0 rfl rfl ?_
  refine r_if_eq (tgt := 13) dX0_encode_1 (by decide) (fun q1 => ?_) (fun q1 => ?_)
  · have t := t.1 q1
    refine r_lconst (v := (0 : Int64)) dX0_encode_13 rfl ?_
    refine r_lstore_n (lv' := [(3, .long (0 : Int64)), (0, .ref (eA E 51)), (1, .int a1), (2, .int a2)]) dX0_encode_14 rfl (by decide) rfl ?_
    refine r_iconst (v := (0 : Int32)) dX0_encode_15 rfl ?_
    refine r_istore (lv' := [(5, .int (0 : Int32)), (3, .long (0 : Int64)), (0, .ref (eA E 51)), (1, .int a1), (2, .int a2)]) dX0_encode_16 (by decide) rfl ?_
    refine r_sub [2, 3, 4, 1, 0] rfl ?_
    exact t
  · have t := t.2 q1
    refine r_lconst (v := (1 : Int64)) dX0_encode_4 rfl ?_
    refine r_aload_n (q := 0) dX0_encode_5 rfl rfl ?_
    refine r_getI (c := 51) dX0_encode_6 flX0_19 lay_51 rfl ?_
    refine r_lshl dX0_encode_9 ?_
    refine r_goto (tgt := 14) dX0_encode_10 (by decide) ?_
    refine r_lstore_n (lv' := [(3, .long ((1 : Int64) <<< ((h.1 51 2).toInt64 &&& 63))), (0, .ref (eA E 51)), (1, .int a1), (2, .int a2)]) dX0_encode_14 rfl (by decide) rfl ?_
    refine r_iconst (v := (0 : Int32)) dX0_encode_15 rfl ?_
    refine r_istore (lv' := [(5, .int (0 : Int32)), (3, .long ((1 : Int64) <<< ((h.1 51 2).toInt64 &&& 63))), (0, .ref (eA E 51)), (1, .int a1), (2, .int a2)]) dX0_encode_16 (by decide) rfl ?_
    refine r_sub [2, 3, 4, 1, 0] rfl ?_
    exact t
set_option maxRecDepth 20000 in
theorem sg_X0_encode_18 (E : En) (d : Nat) (g : Ga) (x1 : Int32) (x2 : Int32) (x3 : Int64) (x5 : Int32) (h : Hp) (P : Int64 → Hp → Prop) (t : ((12 : Int32) ≤ x5 → (P x3 h)) ∧ (¬ (12 : Int32) ≤ x5 → (((x1 &&& ((1 : Int32) <<< (x5 &&& 31))) = 0 → (VX0_encode_18 E d g P x1 x2 x3 (x5 + (1 : Int32)) h)) ∧ (¬ (x1 &&& ((1 : Int32) <<< (x5 &&& 31))) = 0 → (vp_in x5 12 ∧ (vp_in x5 12 ∧ (VX0_encode_18 E d g P x1 x2 (x3 ||| (((h.1 53 x5.toNatClampNeg).toInt64) <<< ((h.1 54 x5.toNatClampNeg).toInt64 &&& 63))) (x5 + (1 : Int32)) h))))))) : VX0_encode_18 E d g P x1 x2 x3 x5 h := by
  refine r_iload (q := 4) dX0_encode_18 rfl ?_
  refine r_bipush (v := (12 : Int32)) dX0_encode_20 rfl ?_
  refine r_icmp_ge (tgt := 59) dX0_encode_22 (by decide) (fun q1 => ?_) (fun q1 => ?_)
  · have t := t.1 q1
    refine r_lload_n (q := 3) dX0_encode_59 rfl rfl ?_
    exact r_lret dX0_encode_60 rfl t
  · have t := t.2 q1
    refine r_iload_n (q := 1) dX0_encode_25 rfl rfl ?_
    refine r_iconst (v := (1 : Int32)) dX0_encode_26 rfl ?_
    refine r_iload (q := 4) dX0_encode_27 rfl ?_
    refine r_ishl dX0_encode_29 ?_
    refine r_iand dX0_encode_30 ?_
    refine r_if_eq (tgt := 53) dX0_encode_31 (by decide) (fun q2 => ?_) (fun q2 => ?_)
    · have t := t.1 q2
      refine r_iinc (k := 4) (v := x5 + (1 : Int32)) (lv' := [(5, .int (x5 + (1 : Int32))), (0, .ref (eA E 51)), (1, .int x1), (2, .int x2), (3, .long x3)]) dX0_encode_53 rfl rfl (by decide) rfl ?_
      refine r_goto (tgt := 18) dX0_encode_56 (by decide) ?_
      refine r_sub [1, 2, 3, 4, 0] rfl ?_
      exact t
    · have t := t.2 q2
      refine r_lload_n (q := 3) dX0_encode_34 rfl rfl ?_
      refine r_aload_n (q := 0) dX0_encode_35 rfl rfl ?_
      refine r_getR (c := 51) (c2 := 53) dX0_encode_36 flX0_26 lay_51 rfl ?_
      refine r_iload (q := 4) dX0_encode_39 rfl ?_
      obtain ⟨c3, t⟩ := t
      refine r_iald (c := 53) dX0_encode_41 lay_53 c3 ?_
      refine r_i2l dX0_encode_42 ?_
      refine r_aload_n (q := 0) dX0_encode_43 rfl rfl ?_
      refine r_getR (c := 51) (c2 := 54) dX0_encode_44 flX0_29 lay_51 rfl ?_
      refine r_iload (q := 4) dX0_encode_47 rfl ?_
      obtain ⟨c4, t⟩ := t
      refine r_iald (c := 54) dX0_encode_49 lay_54 c4 ?_
      refine r_lshl dX0_encode_50 ?_
      refine r_lor dX0_encode_51 ?_
      refine r_lstore_n (lv' := [(3, .long (x3 ||| (((h.1 53 x5.toNatClampNeg).toInt64) <<< ((h.1 54 x5.toNatClampNeg).toInt64 &&& 63)))), (0, .ref (eA E 51)), (1, .int x1), (2, .int x2), (5, .int x5)]) dX0_encode_52 rfl (by decide) rfl ?_
      refine r_iinc (k := 4) (v := x5 + (1 : Int32)) (lv' := [(5, .int (x5 + (1 : Int32))), (3, .long (x3 ||| (((h.1 53 x5.toNatClampNeg).toInt64) <<< ((h.1 54 x5.toNatClampNeg).toInt64 &&& 63)))), (0, .ref (eA E 51)), (1, .int x1), (2, .int x2)]) dX0_encode_53 rfl rfl (by decide) rfl ?_
      refine r_goto (tgt := 18) dX0_encode_56 (by decide) ?_
      refine r_sub [2, 3, 4, 1, 0] rfl ?_
      exact t
theorem dX0_costOf_0 : decode cX0_costOf 0 = .ok (.bipush 16, 2) := by decide +kernel
theorem dX0_costOf_2 : decode cX0_costOf 2 = .ok (.getstatic 69, 3) := by decide +kernel
theorem dX0_costOf_5 : decode cX0_costOf 5 = .ok (.iload_n 0, 1) := by decide +kernel
theorem dX0_costOf_6 : decode cX0_costOf 6 = .ok (.invokestatic 85, 3) := by decide +kernel
theorem dX0_costOf_9 : decode cX0_costOf 9 = .ok (.iaload, 1) := by decide +kernel
theorem dX0_costOf_10 : decode cX0_costOf 10 = .ok (.imul, 1) := by decide +kernel
theorem dX0_costOf_11 : decode cX0_costOf 11 = .ok (.iconst 1, 1) := by decide +kernel
theorem dX0_costOf_12 : decode cX0_costOf 12 = .ok (.iadd, 1) := by decide +kernel
theorem dX0_costOf_13 : decode cX0_costOf 13 = .ok (.ireturn, 1) := by decide +kernel
set_option maxRecDepth 20000 in
theorem wp_X0_costOf (E : En) (d : Nat) (a1 : Int32) (h : Hp) (P : Int32 → Hp → Prop) (t : SpI E d MJ6_bitCount_0f7a4 [.int a1] h (fun v1 h1 => vp_in v1 13 ∧ (P (((16 : Int32) * (BITS.getD v1.toNatClampNeg 0)) + (1 : Int32)) h1))) : SpI E (d + 1) MX0_costOf [.int a1] h P := by
  refine SpI.of (lv0 := [(0, .int a1)]) (by decide) (Nat.le_of_ble_eq_true rfl) rfl (fun g => ?_)
  refine r_bipush (v := (16 : Int32)) dX0_costOf_0 rfl ?_
  refine r_getT dX0_costOf_2 fsX0_69 ?_
  refine r_iload_n (q := 0) dX0_costOf_5 rfl rfl ?_
  refine r_cSI (As := [.int a1]) dX0_costOf_6 mkJ6_bitCount_0f7a4 lkX0_85 rfl (by decide) rfl (Nat.le_of_ble_eq_true rfl) z00 t ?_
  intro v1 h1 t
  obtain ⟨c2, t⟩ := t
  refine r_Tald dX0_costOf_9 c2 ?_
  refine r_imul dX0_costOf_10 ?_
  refine r_iconst (v := (1 : Int32)) dX0_costOf_11 rfl ?_
  refine r_iadd dX0_costOf_12 ?_
  exact r_iret dX0_costOf_13 rfl t
