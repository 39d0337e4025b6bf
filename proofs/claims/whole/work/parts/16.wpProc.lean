theorem dX5_operandValue_0 : decode cX5_operandValue 0 = .ok (.iload_n 0, 1) := by decide +kernel
theorem dX5_operandValue_1 : decode cX5_operandValue 1 = .ok (.ifCond .ge 11, 3) := by decide +kernel
theorem dX5_operandValue_4 : decode cX5_operandValue 4 = .ok (.aload_n 1, 1) := by decide +kernel
theorem dX5_operandValue_5 : decode cX5_operandValue 5 = .ok (.iload_n 0, 1) := by decide +kernel
theorem dX5_operandValue_6 : decode cX5_operandValue 6 = .ok (.iconst (-1), 1) := by decide +kernel
theorem dX5_operandValue_7 : decode cX5_operandValue 7 = .ok (.ixor, 1) := by decide +kernel
theorem dX5_operandValue_8 : decode cX5_operandValue 8 = .ok (.iaload, 1) := by decide +kernel
theorem dX5_operandValue_9 : decode cX5_operandValue 9 = .ok (.goto 4, 3) := by decide +kernel
theorem dX5_operandValue_12 : decode cX5_operandValue 12 = .ok (.iload_n 0, 1) := by decide +kernel
theorem dX5_operandValue_13 : decode cX5_operandValue 13 = .ok (.ireturn, 1) := by decide +kernel
set_option maxRecDepth 20000 in
theorem wp_X5_operandValue (E : En) (d : Nat) (co : Nat) (hco : lay[co]? = some (.inr (0, 8))) (a1 : Int32) (h : Hp) (P : Int32 → Hp → Prop) (t : (0 ≤ a1 → (P a1 h)) ∧ (¬ 0 ≤ a1 → (vp_in (a1 ^^^ (-1 : Int32)) 8 ∧ (P (h.1 co ((a1 ^^^ (-1 : Int32)).toNatClampNeg)) h)))) : SpI E d MX5_operandValue [.int a1, .ref (eA E co)] h P := by
  refine SpI.of (lv0 := [(0, .int a1), (1, .ref (eA E co))]) (by decide) (Nat.le_of_ble_eq_true rfl) rfl (fun g => ?_)
  refine r_iload_n (q := 0) dX5_operandValue_0 rfl rfl ?_
  refine r_if_ge (tgt := 12) dX5_operandValue_1 (by decide) (fun q1 => ?_) (fun q1 => ?_)
  · have t := t.1 q1
    refine r_iload_n (q := 0) dX5_operandValue_12 rfl rfl ?_
    exact r_iret dX5_operandValue_13 rfl t
  · have t := t.2 q1
    refine r_aload_n (q := 1) dX5_operandValue_4 rfl rfl ?_
    refine r_iload_n (q := 0) dX5_operandValue_5 rfl rfl ?_
    refine r_iconst (v := (-1 : Int32)) dX5_operandValue_6 rfl ?_
    refine r_ixor dX5_operandValue_7 ?_
    obtain ⟨c2, t⟩ := t
    refine r_iald (c := co) dX5_operandValue_8 hco c2 ?_
    refine r_goto (tgt := 13) dX5_operandValue_9 (by decide) ?_
    exact r_iret dX5_operandValue_13 rfl t
theorem dX5_valueOf_0 : decode cX5_valueOf 0 = .ok (.aload_n 0, 1) := by decide +kernel
theorem dX5_valueOf_1 : decode cX5_valueOf 1 = .ok (.getfield 71, 3) := by decide +kernel
theorem dX5_valueOf_4 : decode cX5_valueOf 4 = .ok (.iload_n 1, 1) := by decide +kernel
theorem dX5_valueOf_5 : decode cX5_valueOf 5 = .ok (.iaload, 1) := by decide +kernel
theorem dX5_valueOf_6 : decode cX5_valueOf 6 = .ok (.aload_n 2, 1) := by decide +kernel
theorem dX5_valueOf_7 : decode cX5_valueOf 7 = .ok (.invokestatic 74, 3) := by decide +kernel
theorem dX5_valueOf_10 : decode cX5_valueOf 10 = .ok (.istore_n 3, 1) := by decide +kernel
theorem dX5_valueOf_11 : decode cX5_valueOf 11 = .ok (.aload_n 0, 1) := by decide +kernel
theorem dX5_valueOf_12 : decode cX5_valueOf 12 = .ok (.getfield 78, 3) := by decide +kernel
theorem dX5_valueOf_15 : decode cX5_valueOf 15 = .ok (.iload_n 1, 1) := by decide +kernel
theorem dX5_valueOf_16 : decode cX5_valueOf 16 = .ok (.iaload, 1) := by decide +kernel
theorem dX5_valueOf_17 : decode cX5_valueOf 17 = .ok (.aload_n 2, 1) := by decide +kernel
theorem dX5_valueOf_18 : decode cX5_valueOf 18 = .ok (.invokestatic 74, 3) := by decide +kernel
theorem dX5_valueOf_21 : decode cX5_valueOf 21 = .ok (.istore 4, 2) := by decide +kernel
theorem dX5_valueOf_23 : decode cX5_valueOf 23 = .ok (.aload_n 0, 1) := by decide +kernel
theorem dX5_valueOf_24 : decode cX5_valueOf 24 = .ok (.getfield 81, 3) := by decide +kernel
theorem dX5_valueOf_27 : decode cX5_valueOf 27 = .ok (.iload_n 1, 1) := by decide +kernel
theorem dX5_valueOf_28 : decode cX5_valueOf 28 = .ok (.iaload, 1) := by decide +kernel
theorem dX5_valueOf_29 : decode cX5_valueOf 29 = .ok (.tableswitch 66 0 5 #[39, 41, 46, 51, 56, 61], 39) := by decide +kernel
theorem dX5_valueOf_68 : decode cX5_valueOf 68 = .ok (.iload_n 3, 1) := by decide +kernel
theorem dX5_valueOf_69 : decode cX5_valueOf 69 = .ok (.ireturn, 1) := by decide +kernel
theorem dX5_valueOf_70 : decode cX5_valueOf 70 = .ok (.iload_n 3, 1) := by decide +kernel
theorem dX5_valueOf_71 : decode cX5_valueOf 71 = .ok (.iload 4, 2) := by decide +kernel
theorem dX5_valueOf_73 : decode cX5_valueOf 73 = .ok (.iadd, 1) := by decide +kernel
theorem dX5_valueOf_74 : decode cX5_valueOf 74 = .ok (.ireturn, 1) := by decide +kernel
theorem dX5_valueOf_75 : decode cX5_valueOf 75 = .ok (.iload_n 3, 1) := by decide +kernel
theorem dX5_valueOf_76 : decode cX5_valueOf 76 = .ok (.iload 4, 2) := by decide +kernel
theorem dX5_valueOf_78 : decode cX5_valueOf 78 = .ok (.isub, 1) := by decide +kernel
theorem dX5_valueOf_79 : decode cX5_valueOf 79 = .ok (.ireturn, 1) := by decide +kernel
theorem dX5_valueOf_80 : decode cX5_valueOf 80 = .ok (.iload_n 3, 1) := by decide +kernel
theorem dX5_valueOf_81 : decode cX5_valueOf 81 = .ok (.iload 4, 2) := by decide +kernel
theorem dX5_valueOf_83 : decode cX5_valueOf 83 = .ok (.imul, 1) := by decide +kernel
theorem dX5_valueOf_84 : decode cX5_valueOf 84 = .ok (.ireturn, 1) := by decide +kernel
theorem dX5_valueOf_85 : decode cX5_valueOf 85 = .ok (.iload_n 3, 1) := by decide +kernel
theorem dX5_valueOf_86 : decode cX5_valueOf 86 = .ok (.iload 4, 2) := by decide +kernel
theorem dX5_valueOf_88 : decode cX5_valueOf 88 = .ok (.iand, 1) := by decide +kernel
theorem dX5_valueOf_89 : decode cX5_valueOf 89 = .ok (.ireturn, 1) := by decide +kernel
theorem dX5_valueOf_90 : decode cX5_valueOf 90 = .ok (.iload_n 3, 1) := by decide +kernel
theorem dX5_valueOf_91 : decode cX5_valueOf 91 = .ok (.iload 4, 2) := by decide +kernel
theorem dX5_valueOf_93 : decode cX5_valueOf 93 = .ok (.ior, 1) := by decide +kernel
theorem dX5_valueOf_94 : decode cX5_valueOf 94 = .ok (.ireturn, 1) := by decide +kernel
theorem dX5_valueOf_95 : decode cX5_valueOf 95 = .ok (.iload_n 3, 1) := by decide +kernel
theorem dX5_valueOf_96 : decode cX5_valueOf 96 = .ok (.iload 4, 2) := by decide +kernel
theorem dX5_valueOf_98 : decode cX5_valueOf 98 = .ok (.ixor, 1) := by decide +kernel
theorem dX5_valueOf_99 : decode cX5_valueOf 99 = .ok (.ireturn, 1) := by decide +kernel
set_option maxRecDepth 20000 in
theorem wp_X5_valueOf (E : En) (d : Nat) (co : Nat) (hco : lay[co]? = some (.inr (0, 8))) (a2 : Int32) (h : Hp) (P : Int32 → Hp → Prop) (t : vp_in a2 12 ∧ (SpI E d MX5_operandValue [.int (h.1 10 a2.toNatClampNeg), .ref (eA E co)] h (fun v2 h2 => vp_in a2 12 ∧ (SpI E d MX5_operandValue [.int (h2.1 11 a2.toNatClampNeg), .ref (eA E co)] h2 (fun v4 h4 => vp_in a2 12 ∧ (((h4.1 9 a2.toNatClampNeg) = 0 → (P v2 h4)) ∧ ((h4.1 9 a2.toNatClampNeg) = 1 → (P (v2 + v4) h4)) ∧ ((h4.1 9 a2.toNatClampNeg) = 2 → (P (v2 - v4) h4)) ∧ ((h4.1 9 a2.toNatClampNeg) = 3 → (P (v2 * v4) h4)) ∧ ((h4.1 9 a2.toNatClampNeg) = 4 → (P (v2 &&& v4) h4)) ∧ ((h4.1 9 a2.toNatClampNeg) = 5 → (P (v2 ||| v4) h4)) ∧ (¬ (h4.1 9 a2.toNatClampNeg) = 0 → ¬ (h4.1 9 a2.toNatClampNeg) = 1 → ¬ (h4.1 9 a2.toNatClampNeg) = 2 → ¬ (h4.1 9 a2.toNatClampNeg) = 3 → ¬ (h4.1 9 a2.toNatClampNeg) = 4 → ¬ (h4.1 9 a2.toNatClampNeg) = 5 → (P (v2 ^^^ v4) h4)))))))) : SpI E (d + 1) MX5_valueOf [.ref (eA E 5), .int a2, .ref (eA E co)] h P := by
  refine SpI.of (lv0 := [(0, .ref (eA E 5)), (1, .int a2), (2, .ref (eA E co))]) (by decide) (Nat.le_of_ble_eq_true rfl) rfl (fun g => ?_)
  refine r_aload_n (q := 0) dX5_valueOf_0 rfl rfl ?_
  refine r_getR (c := 5) (c2 := 10) dX5_valueOf_1 flX5_71 lay_5 rfl ?_
  refine r_iload_n (q := 1) dX5_valueOf_4 rfl rfl ?_
  obtain ⟨c1, t⟩ := t
  refine r_iald (c := 10) dX5_valueOf_5 lay_10 c1 ?_
  refine r_aload_n (q := 2) dX5_valueOf_6 rfl rfl ?_
  refine r_cSI (As := [.int (h.1 10 a2.toNatClampNeg), .ref (eA E co)]) dX5_valueOf_7 mkX5_operandValue lkX5_74 rfl (by decide) rfl (Nat.le_of_ble_eq_true rfl) z00 t ?_
  intro v2 h2 t
  refine r_istore_n (lv' := [(3, .int v2), (0, .ref (eA E 5)), (1, .int a2), (2, .ref (eA E co))]) dX5_valueOf_10 rfl (by decide) rfl ?_
  refine r_aload_n (q := 1) dX5_valueOf_11 rfl rfl ?_
  refine r_getR (c := 5) (c2 := 11) dX5_valueOf_12 flX5_78 lay_5 rfl ?_
  refine r_iload_n (q := 2) dX5_valueOf_15 rfl rfl ?_
  obtain ⟨c3, t⟩ := t
  refine r_iald (c := 11) dX5_valueOf_16 lay_11 c3 ?_
  refine r_aload_n (q := 3) dX5_valueOf_17 rfl rfl ?_
  refine r_cSI (As := [.int (h2.1 11 a2.toNatClampNeg), .ref (eA E co)]) dX5_valueOf_18 mkX5_operandValue lkX5_74 rfl (by decide) rfl (Nat.le_of_ble_eq_true rfl) z00 t ?_
  intro v4 h4 t
  refine r_istore (lv' := [(4, .int v4), (3, .int v2), (0, .ref (eA E 5)), (1, .int a2), (2, .ref (eA E co))]) dX5_valueOf_21 (by decide) rfl ?_
  refine r_aload_n (q := 2) dX5_valueOf_23 rfl rfl ?_
  refine r_getR (c := 5) (c2 := 9) dX5_valueOf_24 flX5_81 lay_5 rfl ?_
  refine r_iload_n (q := 3) dX5_valueOf_27 rfl rfl ?_
  obtain ⟨c5, t⟩ := t
  refine r_iald (c := 9) dX5_valueOf_28 lay_9 c5 ?_
  by_cases q6_0 : (h4.1 9 a2.toNatClampNeg) = 0
  · have t := t.1 q6_0
    refine r_tswI (x := (h4.1 9 a2.toNatClampNeg)) (v := 0) (off := 39) (tgt := 68) dX5_valueOf_29 q6_0 (by decide) (by decide) (by decide) (by decide) ?_
    refine r_iload_n (q := 1) dX5_valueOf_68 rfl rfl ?_
    exact r_iret dX5_valueOf_69 rfl t
  have t := t.2
  by_cases q6_1 : (h4.1 9 a2.toNatClampNeg) = 1
  · have t := t.1 q6_1
    refine r_tswI (x := (h4.1 9 a2.toNatClampNeg)) (v := 1) (off := 41) (tgt := 70) dX5_valueOf_29 q6_1 (by decide) (by decide) (by decide) (by decide) ?_
    refine r_iload_n (q := 1) dX5_valueOf_70 rfl rfl ?_
    refine r_iload (q := 0) dX5_valueOf_71 rfl ?_
    refine r_iadd dX5_valueOf_73 ?_
    exact r_iret dX5_valueOf_74 rfl t
  have t := t.2
  by_cases q6_2 : (h4.1 9 a2.toNatClampNeg) = 2
  · have t := t.1 q6_2
    refine r_tswI (x := (h4.1 9 a2.toNatClampNeg)) (v := 2) (off := 46) (tgt := 75) dX5_valueOf_29 q6_2 (by decide) (by decide) (by decide) (by decide) ?_
    refine r_iload_n (q := 1) dX5_valueOf_75 rfl rfl ?_
    refine r_iload (q := 0) dX5_valueOf_76 rfl ?_
    refine r_isub dX5_valueOf_78 ?_
    exact r_iret dX5_valueOf_79 rfl t
  have t := t.2
  by_cases q6_3 : (h4.1 9 a2.toNatClampNeg) = 3
  · have t := t.1 q6_3
    refine r_tswI (x := (h4.1 9 a2.toNatClampNeg)) (v := 3) (off := 51) (tgt := 80) dX5_valueOf_29 q6_3 (by decide) (by decide) (by decide) (by decide) ?_
    refine r_iload_n (q := 1) dX5_valueOf_80 rfl rfl ?_
    refine r_iload (q := 0) dX5_valueOf_81 rfl ?_
    refine r_imul dX5_valueOf_83 ?_
    exact r_iret dX5_valueOf_84 rfl t
  have t := t.2
  by_cases q6_4 : (h4.1 9 a2.toNatClampNeg) = 4
  · have t := t.1 q6_4
    refine r_tswI (x := (h4.1 9 a2.toNatClampNeg)) (v := 4) (off := 56) (tgt := 85) dX5_valueOf_29 q6_4 (by decide) (by decide) (by decide) (by decide) ?_
    refine r_iload_n (q := 1) dX5_valueOf_85 rfl rfl ?_
    refine r_iload (q := 0) dX5_valueOf_86 rfl ?_
    refine r_iand dX5_valueOf_88 ?_
    exact r_iret dX5_valueOf_89 rfl t
  have t := t.2
  by_cases q6_5 : (h4.1 9 a2.toNatClampNeg) = 5
  · have t := t.1 q6_5
    refine r_tswI (x := (h4.1 9 a2.toNatClampNeg)) (v := 5) (off := 61) (tgt := 90) dX5_valueOf_29 q6_5 (by decide) (by decide) (by decide) (by decide) ?_
    refine r_iload_n (q := 1) dX5_valueOf_90 rfl rfl ?_
    refine r_iload (q := 0) dX5_valueOf_91 rfl ?_
    refine r_ior dX5_valueOf_93 ?_
    exact r_iret dX5_valueOf_94 rfl t
  have t := t.2
  have t := t q6_0 q6_1 q6_2 q6_3 q6_4 q6_5
  refine r_tswO (x := (h4.1 9 a2.toNatClampNeg)) (tgt := 95) dX5_valueOf_29 (sw_out 5 (by decide) (fun k hk => by rcases (show k = 0 ∨ k = 1 ∨ k = 2 ∨ k = 3 ∨ k = 4 ∨ k = 5 by omega) with rfl | rfl | rfl | rfl | rfl | rfl <;> assumption)) (by decide) ?_
  refine r_iload_n (q := 1) dX5_valueOf_95 rfl rfl ?_
  refine r_iload (q := 0) dX5_valueOf_96 rfl ?_
  refine r_ixor dX5_valueOf_98 ?_
  exact r_iret dX5_valueOf_99 rfl t
theorem dX5_execute_0 : decode cX5_execute 0 = .ok (.iconst 0, 1) := by decide +kernel
theorem dX5_execute_1 : decode cX5_execute 1 = .ok (.istore 4, 2) := by decide +kernel
theorem dX5_execute_3 : decode cX5_execute 3 = .ok (.iload 4, 2) := by decide +kernel
theorem dX5_execute_5 : decode cX5_execute 5 = .ok (.bipush 12, 2) := by decide +kernel
theorem dX5_execute_7 : decode cX5_execute 7 = .ok (.if_icmp .ge 32, 3) := by decide +kernel
theorem dX5_execute_10 : decode cX5_execute 10 = .ok (.iload_n 2, 1) := by decide +kernel
theorem dX5_execute_11 : decode cX5_execute 11 = .ok (.iconst 1, 1) := by decide +kernel
theorem dX5_execute_12 : decode cX5_execute 12 = .ok (.iload 4, 2) := by decide +kernel
theorem dX5_execute_14 : decode cX5_execute 14 = .ok (.ishl, 1) := by decide +kernel
theorem dX5_execute_15 : decode cX5_execute 15 = .ok (.iand, 1) := by decide +kernel
theorem dX5_execute_16 : decode cX5_execute 16 = .ok (.ifCond .eq 17, 3) := by decide +kernel
theorem dX5_execute_19 : decode cX5_execute 19 = .ok (.aload_n 0, 1) := by decide +kernel
theorem dX5_execute_20 : decode cX5_execute 20 = .ok (.getfield 19, 3) := by decide +kernel
theorem dX5_execute_23 : decode cX5_execute 23 = .ok (.iload 4, 2) := by decide +kernel
theorem dX5_execute_25 : decode cX5_execute 25 = .ok (.aload_n 1, 1) := by decide +kernel
theorem dX5_execute_26 : decode cX5_execute 26 = .ok (.iload 4, 2) := by decide +kernel
theorem dX5_execute_28 : decode cX5_execute 28 = .ok (.aload_n 3, 1) := by decide +kernel
theorem dX5_execute_29 : decode cX5_execute 29 = .ok (.invokestatic 39, 3) := by decide +kernel
theorem dX5_execute_32 : decode cX5_execute 32 = .ok (.iastore, 1) := by decide +kernel
theorem dX5_execute_33 : decode cX5_execute 33 = .ok (.iinc 4 1, 3) := by decide +kernel
theorem dX5_execute_36 : decode cX5_execute 36 = .ok (.goto (-33), 3) := by decide +kernel
theorem dX5_execute_39 : decode cX5_execute 39 = .ok (.iconst 0, 1) := by decide +kernel
theorem dX5_execute_40 : decode cX5_execute 40 = .ok (.istore 4, 2) := by decide +kernel
theorem dX5_execute_42 : decode cX5_execute 42 = .ok (.iload 4, 2) := by decide +kernel
theorem dX5_execute_44 : decode cX5_execute 44 = .ok (.bipush 12, 2) := by decide +kernel
theorem dX5_execute_46 : decode cX5_execute 46 = .ok (.if_icmp .ge 34, 3) := by decide +kernel
theorem dX5_execute_49 : decode cX5_execute 49 = .ok (.iload_n 2, 1) := by decide +kernel
theorem dX5_execute_50 : decode cX5_execute 50 = .ok (.iconst 1, 1) := by decide +kernel
theorem dX5_execute_51 : decode cX5_execute 51 = .ok (.iload 4, 2) := by decide +kernel
theorem dX5_execute_53 : decode cX5_execute 53 = .ok (.ishl, 1) := by decide +kernel
theorem dX5_execute_54 : decode cX5_execute 54 = .ok (.iand, 1) := by decide +kernel
theorem dX5_execute_55 : decode cX5_execute 55 = .ok (.ifCond .eq 19, 3) := by decide +kernel
theorem dX5_execute_58 : decode cX5_execute 58 = .ok (.aload_n 3, 1) := by decide +kernel
theorem dX5_execute_59 : decode cX5_execute 59 = .ok (.aload_n 1, 1) := by decide +kernel
theorem dX5_execute_60 : decode cX5_execute 60 = .ok (.getfield 36, 3) := by decide +kernel
theorem dX5_execute_63 : decode cX5_execute 63 = .ok (.iload 4, 2) := by decide +kernel
theorem dX5_execute_65 : decode cX5_execute 65 = .ok (.iaload, 1) := by decide +kernel
theorem dX5_execute_66 : decode cX5_execute 66 = .ok (.aload_n 0, 1) := by decide +kernel
theorem dX5_execute_67 : decode cX5_execute 67 = .ok (.getfield 19, 3) := by decide +kernel
theorem dX5_execute_70 : decode cX5_execute 70 = .ok (.iload 4, 2) := by decide +kernel
theorem dX5_execute_72 : decode cX5_execute 72 = .ok (.iaload, 1) := by decide +kernel
theorem dX5_execute_73 : decode cX5_execute 73 = .ok (.iastore, 1) := by decide +kernel
theorem dX5_execute_74 : decode cX5_execute 74 = .ok (.iinc 4 1, 3) := by decide +kernel
theorem dX5_execute_77 : decode cX5_execute 77 = .ok (.goto (-35), 3) := by decide +kernel
theorem dX5_execute_80 : decode cX5_execute 80 = .ok (.return_, 1) := by decide +kernel
abbrev VX5_execute_3 (E : En) (d : Nat) (g : Ga) (P : Hp → Prop) (co : Nat) (x2 : Int32) (x4 : Int32) (h : Hp) : Prop := V E MX5_execute (RM (d + 1) 0) g (QQ E g (QV E P) 0 0) 0 0 h 3 [(0, .ref (eA E 58)), (1, .ref (eA E 5)), (2, .int x2), (3, .ref (eA E co)), (4, .int x4)] []
abbrev VX5_execute_42 (E : En) (d : Nat) (g : Ga) (P : Hp → Prop) (co : Nat) (x2 : Int32) (x4 : Int32) (h : Hp) : Prop := V E MX5_execute (RM (d + 1) 0) g (QQ E g (QV E P) 0 0) 0 0 h 42 [(0, .ref (eA E 58)), (1, .ref (eA E 5)), (2, .int x2), (3, .ref (eA E co)), (4, .int x4)] []
set_option maxRecDepth 20000 in
theorem wp_X5_execute (E : En) (d : Nat) (co : Nat) (hco : lay[co]? = some (.inr (0, 8))) (a2 : Int32) (h : Hp) (P : Hp → Prop) (t : ∀ g : Ga, VX5_execute_3 E d g P co a2 (0 : Int32) h) : SpV E (d + 1) MX5_execute [.ref (eA E 58), .ref (eA E 5), .int a2, .ref (eA E co)] h P := by
  refine SpV.of (lv0 := [(0, .ref (eA E 58)), (1, .ref (eA E 5)), (2, .int a2), (3, .ref (eA E co))]) (by decide) (Nat.le_of_ble_eq_true rfl) rfl (fun g => ?_)
  have t := t g
  refine r_iconst (v := (0 : Int32)) dX5_execute_0 rfl ?_
  refine r_istore (lv' := [(4, .int (0 : Int32)), (0, .ref (eA E 58)), (1, .ref (eA E 5)), (2, .int a2), (3, .ref (eA E co))]) dX5_execute_1 (by decide) rfl ?_
  refine r_sub [1, 2, 3, 4, 0] rfl ?_
  exact t
set_option maxRecDepth 20000 in
theorem sg_X5_execute_3 (E : En) (d : Nat) (g : Ga) (co : Nat) (hco : lay[co]? = some (.inr (0, 8))) (x2 : Int32) (x4 : Int32) (h : Hp) (P : Hp → Prop) (t : ((12 : Int32) ≤ x4 → (VX5_execute_42 E d g P co x2 (0 : Int32) h)) ∧ (¬ (12 : Int32) ≤ x4 → (((x2 &&& ((1 : Int32) <<< (x4 &&& 31))) = 0 → (VX5_execute_3 E d g P co x2 (x4 + (1 : Int32)) h)) ∧ (¬ (x2 &&& ((1 : Int32) <<< (x4 &&& 31))) = 0 → (SpI E d MX5_valueOf [.ref (eA E 5), .int x4, .ref (eA E co)] h (fun v3 h3 => vp_in x4 12 ∧ (VX5_execute_3 E d g P co x2 (x4 + (1 : Int32)) (sI h3 60 x4.toNatClampNeg v3)))))))) : VX5_execute_3 E d g P co x2 x4 h := by
  refine r_iload (q := 4) dX5_execute_3 rfl ?_
  refine r_bipush (v := (12 : Int32)) dX5_execute_5 rfl ?_
  refine r_icmp_ge (tgt := 39) dX5_execute_7 (by decide) (fun q1 => ?_) (fun q1 => ?_)
  · have t := t.1 q1
    refine r_iconst (v := (0 : Int32)) dX5_execute_39 rfl ?_
    refine r_istore (lv' := [(4, .int (0 : Int32)), (0, .ref (eA E 58)), (1, .ref (eA E 5)), (2, .int x2), (3, .ref (eA E co))]) dX5_execute_40 (by decide) rfl ?_
    refine r_sub [1, 2, 3, 4, 0] rfl ?_
    exact t
  · have t := t.2 q1
    refine r_iload_n (q := 2) dX5_execute_10 rfl rfl ?_
    refine r_iconst (v := (1 : Int32)) dX5_execute_11 rfl ?_
    refine r_iload (q := 4) dX5_execute_12 rfl ?_
    refine r_ishl dX5_execute_14 ?_
    refine r_iand dX5_execute_15 ?_
    refine r_if_eq (tgt := 33) dX5_execute_16 (by decide) (fun q2 => ?_) (fun q2 => ?_)
    · have t := t.1 q2
      refine r_iinc (k := 4) (v := x4 + (1 : Int32)) (lv' := [(4, .int (x4 + (1 : Int32))), (0, .ref (eA E 58)), (1, .ref (eA E 5)), (2, .int x2), (3, .ref (eA E co))]) dX5_execute_33 rfl rfl (by decide) rfl ?_
      refine r_goto (tgt := 3) dX5_execute_36 (by decide) ?_
      refine r_sub [1, 2, 3, 4, 0] rfl ?_
      exact t
    · have t := t.2 q2
      refine r_aload_n (q := 0) dX5_execute_19 rfl rfl ?_
      refine r_getR (c := 58) (c2 := 60) dX5_execute_20 flX5_19 lay_58 rfl ?_
      refine r_iload (q := 4) dX5_execute_23 rfl ?_
      refine r_aload_n (q := 1) dX5_execute_25 rfl rfl ?_
      refine r_iload (q := 4) dX5_execute_26 rfl ?_
      refine r_aload_n (q := 3) dX5_execute_28 rfl rfl ?_
      refine r_cSI (As := [.ref (eA E 5), .int x4, .ref (eA E co)]) dX5_execute_29 mkX5_valueOf lkX5_39 rfl (by decide) rfl (Nat.le_of_ble_eq_true rfl) z00 t ?_
      intro v3 h3 t
      obtain ⟨c4, t⟩ := t
      refine r_iast (c := 60) dX5_execute_32 lay_60 c4 ?_
      refine r_iinc (k := 4) (v := x4 + (1 : Int32)) (lv' := [(4, .int (x4 + (1 : Int32))), (0, .ref (eA E 58)), (1, .ref (eA E 5)), (2, .int x2), (3, .ref (eA E co))]) dX5_execute_33 rfl rfl (by decide) rfl ?_
      refine r_goto (tgt := 3) dX5_execute_36 (by decide) ?_
      refine r_sub [1, 2, 3, 4, 0] rfl ?_
      exact t
set_option maxRecDepth 20000 in
theorem sg_X5_execute_42 (E : En) (d : Nat) (g : Ga) (co : Nat) (hco : lay[co]? = some (.inr (0, 8))) (x2 : Int32) (x4 : Int32) (h : Hp) (P : Hp → Prop) (t : ((12 : Int32) ≤ x4 → (P h)) ∧ (¬ (12 : Int32) ≤ x4 → (((x2 &&& ((1 : Int32) <<< (x4 &&& 31))) = 0 → (VX5_execute_42 E d g P co x2 (x4 + (1 : Int32)) h)) ∧ (¬ (x2 &&& ((1 : Int32) <<< (x4 &&& 31))) = 0 → (vp_in x4 12 ∧ (vp_in x4 12 ∧ (vp_in (h.1 8 x4.toNatClampNeg) 8 ∧ (VX5_execute_42 E d g P co x2 (x4 + (1 : Int32)) (sI h co ((h.1 8 x4.toNatClampNeg).toNatClampNeg) (h.1 60 x4.toNatClampNeg)))))))))) : VX5_execute_42 E d g P co x2 x4 h := by
  refine r_iload (q := 4) dX5_execute_42 rfl ?_
  refine r_bipush (v := (12 : Int32)) dX5_execute_44 rfl ?_
  refine r_icmp_ge (tgt := 80) dX5_execute_46 (by decide) (fun q1 => ?_) (fun q1 => ?_)
  · have t := t.1 q1
    exact r_vret dX5_execute_80 rfl t
  · have t := t.2 q1
    refine r_iload_n (q := 2) dX5_execute_49 rfl rfl ?_
    refine r_iconst (v := (1 : Int32)) dX5_execute_50 rfl ?_
    refine r_iload (q := 4) dX5_execute_51 rfl ?_
    refine r_ishl dX5_execute_53 ?_
    refine r_iand dX5_execute_54 ?_
    refine r_if_eq (tgt := 74) dX5_execute_55 (by decide) (fun q2 => ?_) (fun q2 => ?_)
    · have t := t.1 q2
      refine r_iinc (k := 4) (v := x4 + (1 : Int32)) (lv' := [(4, .int (x4 + (1 : Int32))), (0, .ref (eA E 58)), (1, .ref (eA E 5)), (2, .int x2), (3, .ref (eA E co))]) dX5_execute_74 rfl rfl (by decide) rfl ?_
      refine r_goto (tgt := 42) dX5_execute_77 (by decide) ?_
      refine r_sub [1, 2, 3, 4, 0] rfl ?_
      exact t
    · have t := t.2 q2
      refine r_aload_n (q := 3) dX5_execute_58 rfl rfl ?_
      refine r_aload_n (q := 1) dX5_execute_59 rfl rfl ?_
      refine r_getR (c := 5) (c2 := 8) dX5_execute_60 flX5_36 lay_5 rfl ?_
      refine r_iload (q := 4) dX5_execute_63 rfl ?_
      obtain ⟨c3, t⟩ := t
      refine r_iald (c := 8) dX5_execute_65 lay_8 c3 ?_
      refine r_aload_n (q := 0) dX5_execute_66 rfl rfl ?_
      refine r_getR (c := 58) (c2 := 60) dX5_execute_67 flX5_19 lay_58 rfl ?_
      refine r_iload (q := 4) dX5_execute_70 rfl ?_
      obtain ⟨c4, t⟩ := t
      refine r_iald (c := 60) dX5_execute_72 lay_60 c4 ?_
      obtain ⟨c5, t⟩ := t
      refine r_iast (c := co) dX5_execute_73 hco c5 ?_
      refine r_iinc (k := 4) (v := x4 + (1 : Int32)) (lv' := [(4, .int (x4 + (1 : Int32))), (0, .ref (eA E 58)), (1, .ref (eA E 5)), (2, .int x2), (3, .ref (eA E co))]) dX5_execute_74 rfl rfl (by decide) rfl ?_
      refine r_goto (tgt := 42) dX5_execute_77 (by decide) ?_
      refine r_sub [1, 2, 3, 4, 0] rfl ?_
      exact t
theorem dX5_runSequence_0 : decode cX5_runSequence 0 = .ok (.iload_n 2, 1) := by decide +kernel
theorem dX5_runSequence_1 : decode cX5_runSequence 1 = .ok (.bipush 24, 2) := by decide +kernel
theorem dX5_runSequence_3 : decode cX5_runSequence 3 = .ok (.imul, 1) := by decide +kernel
theorem dX5_runSequence_4 : decode cX5_runSequence 4 = .ok (.istore 4, 2) := by decide +kernel
theorem dX5_runSequence_6 : decode cX5_runSequence 6 = .ok (.iconst 0, 1) := by decide +kernel
theorem dX5_runSequence_7 : decode cX5_runSequence 7 = .ok (.istore 5, 2) := by decide +kernel
theorem dX5_runSequence_9 : decode cX5_runSequence 9 = .ok (.iload 5, 2) := by decide +kernel
theorem dX5_runSequence_11 : decode cX5_runSequence 11 = .ok (.aload_n 1, 1) := by decide +kernel
theorem dX5_runSequence_12 : decode cX5_runSequence 12 = .ok (.getfield 28, 3) := by decide +kernel
theorem dX5_runSequence_15 : decode cX5_runSequence 15 = .ok (.iload_n 2, 1) := by decide +kernel
theorem dX5_runSequence_16 : decode cX5_runSequence 16 = .ok (.iaload, 1) := by decide +kernel
theorem dX5_runSequence_17 : decode cX5_runSequence 17 = .ok (.if_icmp .ge 37, 3) := by decide +kernel
theorem dX5_runSequence_20 : decode cX5_runSequence 20 = .ok (.aload_n 1, 1) := by decide +kernel
theorem dX5_runSequence_21 : decode cX5_runSequence 21 = .ok (.getfield 33, 3) := by decide +kernel
theorem dX5_runSequence_24 : decode cX5_runSequence 24 = .ok (.iload 4, 2) := by decide +kernel
theorem dX5_runSequence_26 : decode cX5_runSequence 26 = .ok (.iload 5, 2) := by decide +kernel
theorem dX5_runSequence_28 : decode cX5_runSequence 28 = .ok (.iadd, 1) := by decide +kernel
theorem dX5_runSequence_29 : decode cX5_runSequence 29 = .ok (.iaload, 1) := by decide +kernel
theorem dX5_runSequence_30 : decode cX5_runSequence 30 = .ok (.istore 6, 2) := by decide +kernel
theorem dX5_runSequence_32 : decode cX5_runSequence 32 = .ok (.aload_n 3, 1) := by decide +kernel
theorem dX5_runSequence_33 : decode cX5_runSequence 33 = .ok (.aload_n 1, 1) := by decide +kernel
theorem dX5_runSequence_34 : decode cX5_runSequence 34 = .ok (.getfield 36, 3) := by decide +kernel
theorem dX5_runSequence_37 : decode cX5_runSequence 37 = .ok (.iload 6, 2) := by decide +kernel
theorem dX5_runSequence_39 : decode cX5_runSequence 39 = .ok (.iaload, 1) := by decide +kernel
theorem dX5_runSequence_40 : decode cX5_runSequence 40 = .ok (.aload_n 1, 1) := by decide +kernel
theorem dX5_runSequence_41 : decode cX5_runSequence 41 = .ok (.iload 6, 2) := by decide +kernel
theorem dX5_runSequence_43 : decode cX5_runSequence 43 = .ok (.aload_n 3, 1) := by decide +kernel
theorem dX5_runSequence_44 : decode cX5_runSequence 44 = .ok (.invokestatic 39, 3) := by decide +kernel
theorem dX5_runSequence_47 : decode cX5_runSequence 47 = .ok (.iastore, 1) := by decide +kernel
theorem dX5_runSequence_48 : decode cX5_runSequence 48 = .ok (.iinc 5 1, 3) := by decide +kernel
theorem dX5_runSequence_51 : decode cX5_runSequence 51 = .ok (.goto (-42), 3) := by decide +kernel
theorem dX5_runSequence_54 : decode cX5_runSequence 54 = .ok (.return_, 1) := by decide +kernel
abbrev VX5_runSequence_9 (E : En) (d : Nat) (g : Ga) (P : Hp → Prop) (co : Nat) (x2 : Int32) (x4 : Int32) (x5 : Int32) (h : Hp) : Prop := V E MX5_runSequence (RM (d + 1) 0) g (QQ E g (QV E P) 0 0) 0 0 h 9 [(0, .ref (eA E 58)), (1, .ref (eA E 5)), (2, .int x2), (3, .ref (eA E co)), (4, .int x4), (5, .int x5)] []
set_option maxRecDepth 20000 in
theorem wp_X5_runSequence (E : En) (d : Nat) (co : Nat) (hco : lay[co]? = some (.inr (0, 8))) (a2 : Int32) (h : Hp) (P : Hp → Prop) (t : ∀ g : Ga, VX5_runSequence_9 E d g P co a2 (a2 * (24 : Int32)) (0 : Int32) h) : SpV E (d + 1) MX5_runSequence [.ref (eA E 58), .ref (eA E 5), .int a2, .ref (eA E co)] h P := by
  refine SpV.of (lv0 := [(0, .ref (eA E 58)), (1, .ref (eA E 5)), (2, .int a2), (3, .ref (eA E co))]) (by decide) (Nat.le_of_ble_eq_true rfl) rfl (fun g => ?_)
  have t := t g
  refine r_iload_n (q := 2) dX5_runSequence_0 rfl rfl ?_
  refine r_bipush (v := (24 : Int32)) dX5_runSequence_1 rfl ?_
  refine r_imul dX5_runSequence_3 ?_
  refine r_istore (lv' := [(4, .int (a2 * (24 : Int32))), (0, .ref (eA E 58)), (1, .ref (eA E 5)), (2, .int a2), (3, .ref (eA E co))]) dX5_runSequence_4 (by decide) rfl ?_
  refine r_iconst (v := (0 : Int32)) dX5_runSequence_6 rfl ?_
  refine r_istore (lv' := [(5, .int (0 : Int32)), (4, .int (a2 * (24 : Int32))), (0, .ref (eA E 58)), (1, .ref (eA E 5)), (2, .int a2), (3, .ref (eA E co))]) dX5_runSequence_7 (by decide) rfl ?_
  refine r_sub [2, 3, 4, 5, 1, 0] rfl ?_
  exact t
set_option maxRecDepth 20000 in
theorem sg_X5_runSequence_9 (E : En) (d : Nat) (g : Ga) (co : Nat) (hco : lay[co]? = some (.inr (0, 8))) (x2 : Int32) (x4 : Int32) (x5 : Int32) (h : Hp) (P : Hp → Prop) (t : vp_in x2 8 ∧ (((h.1 14 x2.toNatClampNeg) ≤ x5 → (P h)) ∧ (¬ (h.1 14 x2.toNatClampNeg) ≤ x5 → (vp_in (x4 + x5) 192 ∧ (vp_in (h.1 15 ((x4 + x5).toNatClampNeg)) 12 ∧ (SpI E d MX5_valueOf [.ref (eA E 5), .int (h.1 15 ((x4 + x5).toNatClampNeg)), .ref (eA E co)] h (fun v5 h5 => vp_in (h.1 8 ((h.1 15 ((x4 + x5).toNatClampNeg)).toNatClampNeg)) 8 ∧ (VX5_runSequence_9 E d g P co x2 x4 (x5 + (1 : Int32)) (sI h5 co ((h.1 8 ((h.1 15 ((x4 + x5).toNatClampNeg)).toNatClampNeg)).toNatClampNeg) v5))))))))) : VX5_runSequence_9 E d g P co x2 x4 x5 h := by
  refine r_iload (q := 5) dX5_runSequence_9 rfl ?_
  refine r_aload_n (q := 1) dX5_runSequence_11 rfl rfl ?_
  refine r_getR (c := 5) (c2 := 14) dX5_runSequence_12 flX5_28 lay_5 rfl ?_
  refine r_iload_n (q := 2) dX5_runSequence_15 rfl rfl ?_
  obtain ⟨c1, t⟩ := t
  refine r_iald (c := 14) dX5_runSequence_16 lay_14 c1 ?_
  refine r_icmp_ge (tgt := 54) dX5_runSequence_17 (by decide) (fun q2 => ?_) (fun q2 => ?_)
  · have t := t.1 q2
    exact r_vret dX5_runSequence_54 rfl t
  · have t := t.2 q2
    refine r_aload_n (q := 1) dX5_runSequence_20 rfl rfl ?_
    refine r_getR (c := 5) (c2 := 15) dX5_runSequence_21 flX5_33 lay_5 rfl ?_
    refine r_iload (q := 4) dX5_runSequence_24 rfl ?_
    refine r_iload (q := 5) dX5_runSequence_26 rfl ?_
    refine r_iadd dX5_runSequence_28 ?_
    obtain ⟨c3, t⟩ := t
    refine r_iald (c := 15) dX5_runSequence_29 lay_15 c3 ?_
    refine r_istore (lv' := [(6, .int (h.1 15 ((x4 + x5).toNatClampNeg))), (0, .ref (eA E 58)), (1, .ref (eA E 5)), (2, .int x2), (3, .ref (eA E co)), (4, .int x4), (5, .int x5)]) dX5_runSequence_30 (by decide) rfl ?_
    refine r_aload_n (q := 4) dX5_runSequence_32 rfl rfl ?_
    refine r_aload_n (q := 2) dX5_runSequence_33 rfl rfl ?_
    refine r_getR (c := 5) (c2 := 8) dX5_runSequence_34 flX5_36 lay_5 rfl ?_
    refine r_iload (q := 0) dX5_runSequence_37 rfl ?_
    obtain ⟨c4, t⟩ := t
    refine r_iald (c := 8) dX5_runSequence_39 lay_8 c4 ?_
    refine r_aload_n (q := 2) dX5_runSequence_40 rfl rfl ?_
    refine r_iload (q := 0) dX5_runSequence_41 rfl ?_
    refine r_aload_n (q := 4) dX5_runSequence_43 rfl rfl ?_
    refine r_cSI (As := [.ref (eA E 5), .int (h.1 15 ((x4 + x5).toNatClampNeg)), .ref (eA E co)]) dX5_runSequence_44 mkX5_valueOf lkX5_39 rfl (by decide) rfl (Nat.le_of_ble_eq_true rfl) z00 t ?_
    intro v5 h5 t
    obtain ⟨c6, t⟩ := t
    refine r_iast (c := co) dX5_runSequence_47 hco c6 ?_
    refine r_iinc (k := 6) (v := x5 + (1 : Int32)) (lv' := [(5, .int (x5 + (1 : Int32))), (6, .int (h.1 15 ((x4 + x5).toNatClampNeg))), (0, .ref (eA E 58)), (1, .ref (eA E 5)), (2, .int x2), (3, .ref (eA E co)), (4, .int x4)]) dX5_runSequence_48 rfl rfl (by decide) rfl ?_
    refine r_goto (tgt := 9) dX5_runSequence_51 (by decide) ?_
    refine r_sub [2, 3, 4, 5, 6, 0] rfl ?_
    exact t
theorem dX5_runWords_0 : decode cX5_runWords 0 = .ok (.iconst 0, 1) := by decide +kernel
theorem dX5_runWords_1 : decode cX5_runWords 1 = .ok (.istore 4, 2) := by decide +kernel
theorem dX5_runWords_3 : decode cX5_runWords 3 = .ok (.iconst 0, 1) := by decide +kernel
theorem dX5_runWords_4 : decode cX5_runWords 4 = .ok (.istore 5, 2) := by decide +kernel
theorem dX5_runWords_6 : decode cX5_runWords 6 = .ok (.aload_n 0, 1) := by decide +kernel
theorem dX5_runWords_7 : decode cX5_runWords 7 = .ok (.getfield 15, 3) := by decide +kernel
theorem dX5_runWords_10 : decode cX5_runWords 10 = .ok (.iconst (-1), 1) := by decide +kernel
theorem dX5_runWords_11 : decode cX5_runWords 11 = .ok (.if_icmp .eq 77, 3) := by decide +kernel
theorem dX5_runWords_14 : decode cX5_runWords 14 = .ok (.iload 5, 2) := by decide +kernel
theorem dX5_runWords_16 : decode cX5_runWords 16 = .ok (.ifCond .ne 72, 3) := by decide +kernel
theorem dX5_runWords_19 : decode cX5_runWords 19 = .ok (.iload 4, 2) := by decide +kernel
theorem dX5_runWords_21 : decode cX5_runWords 21 = .ok (.bipush 24, 2) := by decide +kernel
theorem dX5_runWords_23 : decode cX5_runWords 23 = .ok (.if_icmp .ge 65, 3) := by decide +kernel
theorem dX5_runWords_26 : decode cX5_runWords 26 = .ok (.aload_n 0, 1) := by decide +kernel
theorem dX5_runWords_27 : decode cX5_runWords 27 = .ok (.getfield 15, 3) := by decide +kernel
theorem dX5_runWords_30 : decode cX5_runWords 30 = .ok (.istore 6, 2) := by decide +kernel
theorem dX5_runWords_32 : decode cX5_runWords 32 = .ok (.aload_n 0, 1) := by decide +kernel
theorem dX5_runWords_33 : decode cX5_runWords 33 = .ok (.aload_n 1, 1) := by decide +kernel
theorem dX5_runWords_34 : decode cX5_runWords 34 = .ok (.aload_n 2, 1) := by decide +kernel
theorem dX5_runWords_35 : decode cX5_runWords 35 = .ok (.getfield 43, 3) := by decide +kernel
theorem dX5_runWords_38 : decode cX5_runWords 38 = .ok (.iload 6, 2) := by decide +kernel
theorem dX5_runWords_40 : decode cX5_runWords 40 = .ok (.iaload, 1) := by decide +kernel
theorem dX5_runWords_41 : decode cX5_runWords 41 = .ok (.aload_n 0, 1) := by decide +kernel
theorem dX5_runWords_42 : decode cX5_runWords 42 = .ok (.getfield 9, 3) := by decide +kernel
theorem dX5_runWords_45 : decode cX5_runWords 45 = .ok (.invokevirtual 48, 3) := by decide +kernel
theorem dX5_runWords_48 : decode cX5_runWords 48 = .ok (.iinc 4 1, 3) := by decide +kernel
theorem dX5_runWords_51 : decode cX5_runWords 51 = .ok (.aload_n 0, 1) := by decide +kernel
theorem dX5_runWords_52 : decode cX5_runWords 52 = .ok (.aload_n 2, 1) := by decide +kernel
theorem dX5_runWords_53 : decode cX5_runWords 53 = .ok (.getfield 52, 3) := by decide +kernel
theorem dX5_runWords_56 : decode cX5_runWords 56 = .ok (.iload 6, 2) := by decide +kernel
theorem dX5_runWords_58 : decode cX5_runWords 58 = .ok (.iaload, 1) := by decide +kernel
theorem dX5_runWords_59 : decode cX5_runWords 59 = .ok (.putfield 15, 3) := by decide +kernel
theorem dX5_runWords_62 : decode cX5_runWords 62 = .ok (.iload 4, 2) := by decide +kernel
theorem dX5_runWords_64 : decode cX5_runWords 64 = .ok (.iload_n 3, 1) := by decide +kernel
theorem dX5_runWords_65 : decode cX5_runWords 65 = .ok (.if_icmp .lt 17, 3) := by decide +kernel
theorem dX5_runWords_68 : decode cX5_runWords 68 = .ok (.aload_n 2, 1) := by decide +kernel
theorem dX5_runWords_69 : decode cX5_runWords 69 = .ok (.getfield 55, 3) := by decide +kernel
theorem dX5_runWords_72 : decode cX5_runWords 72 = .ok (.iload 6, 2) := by decide +kernel
theorem dX5_runWords_74 : decode cX5_runWords 74 = .ok (.baload, 1) := by decide +kernel
theorem dX5_runWords_75 : decode cX5_runWords 75 = .ok (.ifCond .eq 7, 3) := by decide +kernel
theorem dX5_runWords_78 : decode cX5_runWords 78 = .ok (.iconst 1, 1) := by decide +kernel
theorem dX5_runWords_79 : decode cX5_runWords 79 = .ok (.goto 4, 3) := by decide +kernel
theorem dX5_runWords_82 : decode cX5_runWords 82 = .ok (.iconst 0, 1) := by decide +kernel
theorem dX5_runWords_83 : decode cX5_runWords 83 = .ok (.istore 5, 2) := by decide +kernel
theorem dX5_runWords_85 : decode cX5_runWords 85 = .ok (.goto (-79), 3) := by decide +kernel
theorem dX5_runWords_88 : decode cX5_runWords 88 = .ok (.iload 4, 2) := by decide +kernel
theorem dX5_runWords_90 : decode cX5_runWords 90 = .ok (.ireturn, 1) := by decide +kernel
abbrev VX5_runWords_6 (E : En) (d : Nat) (g : Ga) (P : Int32 → Hp → Prop) (x3 : Int32) (x4 : Int32) (x5 : Int32) (h : Hp) : Prop := V E MX5_runWords (RM (d + 1) 0) g (QQ E g (QI E P) 0 0) 0 0 h 6 [(0, .ref (eA E 58)), (1, .ref (eA E 5)), (2, .ref (eA E 46)), (3, .int x3), (4, .int x4), (5, .int x5)] []
set_option maxRecDepth 20000 in
theorem wp_X5_runWords (E : En) (d : Nat) (a3 : Int32) (h : Hp) (P : Int32 → Hp → Prop) (t : ∀ g : Ga, VX5_runWords_6 E d g P a3 (0 : Int32) (0 : Int32) h) : SpI E (d + 1) MX5_runWords [.ref (eA E 58), .ref (eA E 5), .ref (eA E 46), .int a3] h P := by
  refine SpI.of (lv0 := [(0, .ref (eA E 58)), (1, .ref (eA E 5)), (2, .ref (eA E 46)), (3, .int a3)]) (by decide) (Nat.le_of_ble_eq_true rfl) rfl (fun g => ?_)
  have t := t g
  refine r_iconst (v := (0 : Int32)) dX5_runWords_0 rfl ?_
  refine r_istore (lv' := [(4, .int (0 : Int32)), (0, .ref (eA E 58)), (1, .ref (eA E 5)), (2, .ref (eA E 46)), (3, .int a3)]) dX5_runWords_1 (by decide) rfl ?_
  refine r_iconst (v := (0 : Int32)) dX5_runWords_3 rfl ?_
  refine r_istore (lv' := [(5, .int (0 : Int32)), (4, .int (0 : Int32)), (0, .ref (eA E 58)), (1, .ref (eA E 5)), (2, .ref (eA E 46)), (3, .int a3)]) dX5_runWords_4 (by decide) rfl ?_
  refine r_sub [2, 3, 4, 5, 1, 0] rfl ?_
  exact t
set_option maxRecDepth 20000 in
theorem sg_X5_runWords_6 (E : En) (d : Nat) (g : Ga) (x3 : Int32) (x4 : Int32) (x5 : Int32) (h : Hp) (P : Int32 → Hp → Prop) (t : ((h.1 58 1) = (-1 : Int32) → (P x4 h)) ∧ (¬ (h.1 58 1) = (-1 : Int32) → ((¬ x5 = 0 → (P x4 h)) ∧ (x5 = 0 → (((24 : Int32) ≤ x4 → (P x4 h)) ∧ (¬ (24 : Int32) ≤ x4 → (vp_in (h.1 58 1) 192 ∧ (SpV E d MX5_execute [.ref (eA E 58), .ref (eA E 5), .int (h.1 47 ((h.1 58 1).toNatClampNeg)), .ref (eA E 59)] h (fun h5 => vp_in (h.1 58 1) 192 ∧ (((x4 + (1 : Int32)) < x3 → (VX5_runWords_6 E d g P x3 (x4 + (1 : Int32)) (0 : Int32) (sI h5 58 1 (h5.1 49 ((h.1 58 1).toNatClampNeg))))) ∧ (¬ (x4 + (1 : Int32)) < x3 → (vp_in (h.1 58 1) 192 ∧ (((h5.1 48 ((h.1 58 1).toNatClampNeg)) = 0 → (VX5_runWords_6 E d g P x3 (x4 + (1 : Int32)) (0 : Int32) (sI h5 58 1 (h5.1 49 ((h.1 58 1).toNatClampNeg))))) ∧ (¬ (h5.1 48 ((h.1 58 1).toNatClampNeg)) = 0 → (VX5_runWords_6 E d g P x3 (x4 + (1 : Int32)) (1 : Int32) (sI h5 58 1 (h5.1 49 ((h.1 58 1).toNatClampNeg)))))))))))))))))) : VX5_runWords_6 E d g P x3 x4 x5 h := by
  refine r_aload_n (q := 0) dX5_runWords_6 rfl rfl ?_
  refine r_getI (c := 58) dX5_runWords_7 flX5_15 lay_58 rfl ?_
  refine r_iconst (v := (-1 : Int32)) dX5_runWords_10 rfl ?_
  refine r_icmp_eq (tgt := 88) dX5_runWords_11 (by decide) (fun q1 => ?_) (fun q1 => ?_)
  · have t := t.1 q1
    refine r_iload (q := 4) dX5_runWords_88 rfl ?_
    exact r_iret dX5_runWords_90 rfl t
  · have t := t.2 q1
    refine r_iload (q := 5) dX5_runWords_14 rfl ?_
    refine r_if_ne (tgt := 88) dX5_runWords_16 (by decide) (fun q2 => ?_) (fun q2 => ?_)
    · have t := t.1 q2
      refine r_iload (q := 4) dX5_runWords_88 rfl ?_
      exact r_iret dX5_runWords_90 rfl t
    · have t := t.2 q2
      refine r_iload (q := 4) dX5_runWords_19 rfl ?_
      refine r_bipush (v := (24 : Int32)) dX5_runWords_21 rfl ?_
      refine r_icmp_ge (tgt := 88) dX5_runWords_23 (by decide) (fun q3 => ?_) (fun q3 => ?_)
      · have t := t.1 q3
        refine r_iload (q := 4) dX5_runWords_88 rfl ?_
        exact r_iret dX5_runWords_90 rfl t
      · have t := t.2 q3
        refine r_aload_n (q := 0) dX5_runWords_26 rfl rfl ?_
        refine r_getI (c := 58) dX5_runWords_27 flX5_15 lay_58 rfl ?_
        refine r_istore (lv' := [(6, .int (h.1 58 1)), (0, .ref (eA E 58)), (1, .ref (eA E 5)), (2, .ref (eA E 46)), (3, .int x3), (4, .int x4), (5, .int x5)]) dX5_runWords_30 (by decide) rfl ?_
        refine r_aload_n (q := 1) dX5_runWords_32 rfl rfl ?_
        refine r_aload_n (q := 2) dX5_runWords_33 rfl rfl ?_
        refine r_aload_n (q := 3) dX5_runWords_34 rfl rfl ?_
        refine r_getR (c := 46) (c2 := 47) dX5_runWords_35 flX5_43 lay_46 rfl ?_
        refine r_iload (q := 0) dX5_runWords_38 rfl ?_
        obtain ⟨c4, t⟩ := t
        refine r_iald (c := 47) dX5_runWords_40 lay_47 c4 ?_
        refine r_aload_n (q := 1) dX5_runWords_41 rfl rfl ?_
        refine r_getR (c := 58) (c2 := 59) dX5_runWords_42 flX5_9 lay_58 rfl ?_
        refine r_cVV (c := 58) (As := [.ref (eA E 5), .int (h.1 47 ((h.1 58 1).toNatClampNeg)), .ref (eA E 59)]) dX5_runWords_45 mkX5_execute lkX5_48 lay_58 rfl rfl rfl (by decide) rfl (Nat.le_of_ble_eq_true rfl) z00 t ?_
        intro h5 t
        refine r_iinc (k := 5) (v := x4 + (1 : Int32)) (lv' := [(4, .int (x4 + (1 : Int32))), (6, .int (h.1 58 1)), (0, .ref (eA E 58)), (1, .ref (eA E 5)), (2, .ref (eA E 46)), (3, .int x3), (5, .int x5)]) dX5_runWords_48 rfl rfl (by decide) rfl ?_
        refine r_aload_n (q := 2) dX5_runWords_51 rfl rfl ?_
        refine r_aload_n (q := 4) dX5_runWords_52 rfl rfl ?_
        refine r_getR (c := 46) (c2 := 49) dX5_runWords_53 flX5_52 lay_46 rfl ?_
        refine r_iload (q := 1) dX5_runWords_56 rfl ?_
        obtain ⟨c6, t⟩ := t
        refine r_iald (c := 49) dX5_runWords_58 lay_49 c6 ?_
        refine r_putI (c := 58) dX5_runWords_59 flX5_15 lay_58 rfl ?_
        refine r_iload (q := 0) dX5_runWords_62 rfl ?_
        refine r_iload_n (q := 5) dX5_runWords_64 rfl rfl ?_
        refine r_icmp_lt (tgt := 82) dX5_runWords_65 (by decide) (fun q7 => ?_) (fun q7 => ?_)
        · have t := t.1 q7
          refine r_iconst (v := (0 : Int32)) dX5_runWords_82 rfl ?_
          refine r_istore (lv' := [(5, .int (0 : Int32)), (4, .int (x4 + (1 : Int32))), (6, .int (h.1 58 1)), (0, .ref (eA E 58)), (1, .ref (eA E 5)), (2, .ref (eA E 46)), (3, .int x3)]) dX5_runWords_83 (by decide) rfl ?_
          refine r_goto (tgt := 6) dX5_runWords_85 (by decide) ?_
          refine r_sub [3, 4, 5, 6, 1, 0] rfl ?_
          exact t
        · have t := t.2 q7
          refine r_aload_n (q := 4) dX5_runWords_68 rfl rfl ?_
          refine r_getR (c := 46) (c2 := 48) dX5_runWords_69 flX5_55 lay_46 rfl ?_
          refine r_iload (q := 1) dX5_runWords_72 rfl ?_
          obtain ⟨c8, t⟩ := t
          refine r_zaldv (c := 48) (v := h5.1 48 ((h.1 58 1).toNatClampNeg)) dX5_runWords_74 lay_48 c8 rfl ?_
          refine r_if_eq (tgt := 82) dX5_runWords_75 (by decide) (fun q9 => ?_) (fun q9 => ?_)
          · have t := t.1 q9
            refine r_iconst (v := (0 : Int32)) dX5_runWords_82 rfl ?_
            refine r_istore (lv' := [(5, .int (0 : Int32)), (4, .int (x4 + (1 : Int32))), (6, .int (h.1 58 1)), (0, .ref (eA E 58)), (1, .ref (eA E 5)), (2, .ref (eA E 46)), (3, .int x3)]) dX5_runWords_83 (by decide) rfl ?_
            refine r_goto (tgt := 6) dX5_runWords_85 (by decide) ?_
            refine r_sub [3, 4, 5, 6, 1, 0] rfl ?_
            exact t
          · have t := t.2 q9
            refine r_iconst (v := (1 : Int32)) dX5_runWords_78 rfl ?_
            refine r_goto (tgt := 83) dX5_runWords_79 (by decide) ?_
            refine r_istore (lv' := [(5, .int (1 : Int32)), (4, .int (x4 + (1 : Int32))), (6, .int (h.1 58 1)), (0, .ref (eA E 58)), (1, .ref (eA E 5)), (2, .ref (eA E 46)), (3, .int x3)]) dX5_runWords_83 (by decide) rfl ?_
            refine r_goto (tgt := 6) dX5_runWords_85 (by decide) ?_
            refine r_sub [3, 4, 5, 6, 1, 0] rfl ?_
            exact t
theorem dX5_agreesOn_0 : decode cX5_agreesOn 0 = .ok (.aload_n 0, 1) := by decide +kernel
theorem dX5_agreesOn_1 : decode cX5_agreesOn 1 = .ok (.getfield 9, 3) := by decide +kernel
theorem dX5_agreesOn_4 : decode cX5_agreesOn 4 = .ok (.iconst 0, 1) := by decide +kernel
theorem dX5_agreesOn_5 : decode cX5_agreesOn 5 = .ok (.aload_n 0, 1) := by decide +kernel
theorem dX5_agreesOn_6 : decode cX5_agreesOn 6 = .ok (.getfield 22, 3) := by decide +kernel
theorem dX5_agreesOn_9 : decode cX5_agreesOn 9 = .ok (.iconst 0, 1) := by decide +kernel
theorem dX5_agreesOn_10 : decode cX5_agreesOn 10 = .ok (.bipush 8, 2) := by decide +kernel
theorem dX5_agreesOn_12 : decode cX5_agreesOn 12 = .ok (.invokestatic 59, 3) := by decide +kernel
theorem dX5_agreesOn_15 : decode cX5_agreesOn 15 = .ok (.aload_n 0, 1) := by decide +kernel
theorem dX5_agreesOn_16 : decode cX5_agreesOn 16 = .ok (.getfield 9, 3) := by decide +kernel
theorem dX5_agreesOn_19 : decode cX5_agreesOn 19 = .ok (.iconst 0, 1) := by decide +kernel
theorem dX5_agreesOn_20 : decode cX5_agreesOn 20 = .ok (.aload_n 0, 1) := by decide +kernel
theorem dX5_agreesOn_21 : decode cX5_agreesOn 21 = .ok (.getfield 25, 3) := by decide +kernel
theorem dX5_agreesOn_24 : decode cX5_agreesOn 24 = .ok (.iconst 0, 1) := by decide +kernel
theorem dX5_agreesOn_25 : decode cX5_agreesOn 25 = .ok (.bipush 8, 2) := by decide +kernel
theorem dX5_agreesOn_27 : decode cX5_agreesOn 27 = .ok (.invokestatic 59, 3) := by decide +kernel
theorem dX5_agreesOn_30 : decode cX5_agreesOn 30 = .ok (.aload_n 0, 1) := by decide +kernel
theorem dX5_agreesOn_31 : decode cX5_agreesOn 31 = .ok (.aload_n 1, 1) := by decide +kernel
theorem dX5_agreesOn_32 : decode cX5_agreesOn 32 = .ok (.iload_n 3, 1) := by decide +kernel
theorem dX5_agreesOn_33 : decode cX5_agreesOn 33 = .ok (.aload_n 0, 1) := by decide +kernel
theorem dX5_agreesOn_34 : decode cX5_agreesOn 34 = .ok (.getfield 22, 3) := by decide +kernel
theorem dX5_agreesOn_37 : decode cX5_agreesOn 37 = .ok (.invokevirtual 65, 3) := by decide +kernel
theorem dX5_agreesOn_40 : decode cX5_agreesOn 40 = .ok (.aload_n 2, 1) := by decide +kernel
theorem dX5_agreesOn_41 : decode cX5_agreesOn 41 = .ok (.getfield 68, 3) := by decide +kernel
theorem dX5_agreesOn_44 : decode cX5_agreesOn 44 = .ok (.iload_n 3, 1) := by decide +kernel
theorem dX5_agreesOn_45 : decode cX5_agreesOn 45 = .ok (.iaload, 1) := by decide +kernel
theorem dX5_agreesOn_46 : decode cX5_agreesOn 46 = .ok (.istore 4, 2) := by decide +kernel
theorem dX5_agreesOn_48 : decode cX5_agreesOn 48 = .ok (.iconst 0, 1) := by decide +kernel
theorem dX5_agreesOn_49 : decode cX5_agreesOn 49 = .ok (.istore 5, 2) := by decide +kernel
theorem dX5_agreesOn_51 : decode cX5_agreesOn 51 = .ok (.iload 5, 2) := by decide +kernel
theorem dX5_agreesOn_53 : decode cX5_agreesOn 53 = .ok (.bipush 24, 2) := by decide +kernel
theorem dX5_agreesOn_55 : decode cX5_agreesOn 55 = .ok (.if_icmp .ge 40, 3) := by decide +kernel
theorem dX5_agreesOn_58 : decode cX5_agreesOn 58 = .ok (.iload 4, 2) := by decide +kernel
theorem dX5_agreesOn_60 : decode cX5_agreesOn 60 = .ok (.iconst (-1), 1) := by decide +kernel
theorem dX5_agreesOn_61 : decode cX5_agreesOn 61 = .ok (.if_icmp .eq 34, 3) := by decide +kernel
theorem dX5_agreesOn_64 : decode cX5_agreesOn 64 = .ok (.aload_n 0, 1) := by decide +kernel
theorem dX5_agreesOn_65 : decode cX5_agreesOn 65 = .ok (.aload_n 1, 1) := by decide +kernel
theorem dX5_agreesOn_66 : decode cX5_agreesOn 66 = .ok (.aload_n 2, 1) := by decide +kernel
theorem dX5_agreesOn_67 : decode cX5_agreesOn 67 = .ok (.getfield 43, 3) := by decide +kernel
theorem dX5_agreesOn_70 : decode cX5_agreesOn 70 = .ok (.iload 4, 2) := by decide +kernel
theorem dX5_agreesOn_72 : decode cX5_agreesOn 72 = .ok (.iaload, 1) := by decide +kernel
theorem dX5_agreesOn_73 : decode cX5_agreesOn 73 = .ok (.aload_n 0, 1) := by decide +kernel
theorem dX5_agreesOn_74 : decode cX5_agreesOn 74 = .ok (.getfield 25, 3) := by decide +kernel
theorem dX5_agreesOn_77 : decode cX5_agreesOn 77 = .ok (.invokevirtual 48, 3) := by decide +kernel
theorem dX5_agreesOn_80 : decode cX5_agreesOn 80 = .ok (.aload_n 2, 1) := by decide +kernel
theorem dX5_agreesOn_81 : decode cX5_agreesOn 81 = .ok (.getfield 52, 3) := by decide +kernel
theorem dX5_agreesOn_84 : decode cX5_agreesOn 84 = .ok (.iload 4, 2) := by decide +kernel
theorem dX5_agreesOn_86 : decode cX5_agreesOn 86 = .ok (.iaload, 1) := by decide +kernel
theorem dX5_agreesOn_87 : decode cX5_agreesOn 87 = .ok (.istore 4, 2) := by decide +kernel
theorem dX5_agreesOn_89 : decode cX5_agreesOn 89 = .ok (.iinc 5 1, 3) := by decide +kernel
theorem dX5_agreesOn_92 : decode cX5_agreesOn 92 = .ok (.goto (-41), 3) := by decide +kernel
theorem dX5_agreesOn_95 : decode cX5_agreesOn 95 = .ok (.iconst 0, 1) := by decide +kernel
theorem dX5_agreesOn_96 : decode cX5_agreesOn 96 = .ok (.istore 5, 2) := by decide +kernel
theorem dX5_agreesOn_98 : decode cX5_agreesOn 98 = .ok (.iload 5, 2) := by decide +kernel
theorem dX5_agreesOn_100 : decode cX5_agreesOn 100 = .ok (.bipush 8, 2) := by decide +kernel
theorem dX5_agreesOn_102 : decode cX5_agreesOn 102 = .ok (.if_icmp .ge 28, 3) := by decide +kernel
theorem dX5_agreesOn_105 : decode cX5_agreesOn 105 = .ok (.aload_n 0, 1) := by decide +kernel
theorem dX5_agreesOn_106 : decode cX5_agreesOn 106 = .ok (.getfield 22, 3) := by decide +kernel
theorem dX5_agreesOn_109 : decode cX5_agreesOn 109 = .ok (.iload 5, 2) := by decide +kernel
theorem dX5_agreesOn_111 : decode cX5_agreesOn 111 = .ok (.iaload, 1) := by decide +kernel
theorem dX5_agreesOn_112 : decode cX5_agreesOn 112 = .ok (.aload_n 0, 1) := by decide +kernel
theorem dX5_agreesOn_113 : decode cX5_agreesOn 113 = .ok (.getfield 25, 3) := by decide +kernel
theorem dX5_agreesOn_116 : decode cX5_agreesOn 116 = .ok (.iload 5, 2) := by decide +kernel
theorem dX5_agreesOn_118 : decode cX5_agreesOn 118 = .ok (.iaload, 1) := by decide +kernel
theorem dX5_agreesOn_119 : decode cX5_agreesOn 119 = .ok (.if_icmp .eq 5, 3) := by decide +kernel
theorem dX5_agreesOn_122 : decode cX5_agreesOn 122 = .ok (.iconst 0, 1) := by decide +kernel
theorem dX5_agreesOn_123 : decode cX5_agreesOn 123 = .ok (.ireturn, 1) := by decide +kernel
theorem dX5_agreesOn_124 : decode cX5_agreesOn 124 = .ok (.iinc 5 1, 3) := by decide +kernel
theorem dX5_agreesOn_127 : decode cX5_agreesOn 127 = .ok (.goto (-29), 3) := by decide +kernel
theorem dX5_agreesOn_130 : decode cX5_agreesOn 130 = .ok (.iconst 1, 1) := by decide +kernel
theorem dX5_agreesOn_131 : decode cX5_agreesOn 131 = .ok (.ireturn, 1) := by decide +kernel
abbrev VX5_agreesOn_51 (E : En) (d : Nat) (g : Ga) (P : Int32 → Hp → Prop) (x3 : Int32) (x4 : Int32) (x5 : Int32) (h : Hp) : Prop := V E MX5_agreesOn (RM (d + 1) 0) g (QQ E g (QI E P) 0 0) 0 0 h 51 [(0, .ref (eA E 58)), (1, .ref (eA E 5)), (2, .ref (eA E 46)), (3, .int x3), (4, .int x4), (5, .int x5)] []
abbrev VX5_agreesOn_98 (E : En) (d : Nat) (g : Ga) (P : Int32 → Hp → Prop) (x3 : Int32) (x4 : Int32) (x5 : Int32) (h : Hp) : Prop := V E MX5_agreesOn (RM (d + 1) 0) g (QQ E g (QI E P) 0 0) 0 0 h 98 [(0, .ref (eA E 58)), (1, .ref (eA E 5)), (2, .ref (eA E 46)), (3, .int x3), (4, .int x4), (5, .int x5)] []
set_option maxRecDepth 20000 in
theorem wp_X5_agreesOn (E : En) (d : Nat) (a3 : Int32) (h : Hp) (P : Int32 → Hp → Prop) (t : ∀ g : Ga, SpV E d MX5_runSequence [.ref (eA E 58), .ref (eA E 5), .int a3, .ref (eA E 61)] (sA (sA h 61 (va_cpy (h.1 59) (h.1 61) (0 : Int32).toNatClampNeg (0 : Int32).toNatClampNeg (8 : Int32).toNatClampNeg)) 62 (va_cpy ((sA h 61 (va_cpy (h.1 59) (h.1 61) (0 : Int32).toNatClampNeg (0 : Int32).toNatClampNeg (8 : Int32).toNatClampNeg)).1 59) ((sA h 61 (va_cpy (h.1 59) (h.1 61) (0 : Int32).toNatClampNeg (0 : Int32).toNatClampNeg (8 : Int32).toNatClampNeg)).1 62) (0 : Int32).toNatClampNeg (0 : Int32).toNatClampNeg (8 : Int32).toNatClampNeg)) (fun h1 => vp_in a3 8 ∧ (VX5_agreesOn_51 E d g P a3 (h1.1 50 a3.toNatClampNeg) (0 : Int32) h1))) : SpI E (d + 1) MX5_agreesOn [.ref (eA E 58), .ref (eA E 5), .ref (eA E 46), .int a3] h P := by
  refine SpI.of (lv0 := [(0, .ref (eA E 58)), (1, .ref (eA E 5)), (2, .ref (eA E 46)), (3, .int a3)]) (by decide) (Nat.le_of_ble_eq_true rfl) rfl (fun g => ?_)
  have t := t g
  refine r_aload_n (q := 0) dX5_agreesOn_0 rfl rfl ?_
  refine r_getR (c := 58) (c2 := 59) dX5_agreesOn_1 flX5_9 lay_58 rfl ?_
  refine r_iconst (v := (0 : Int32)) dX5_agreesOn_4 rfl ?_
  refine r_aload_n (q := 0) dX5_agreesOn_5 rfl rfl ?_
  refine r_getR (c := 58) (c2 := 61) dX5_agreesOn_6 flX5_22 lay_58 rfl ?_
  refine r_iconst (v := (0 : Int32)) dX5_agreesOn_9 rfl ?_
  refine r_bipush (v := (8 : Int32)) dX5_agreesOn_10 rfl ?_
  refine r_copy (c1 := 59) (c2 := 61) dX5_agreesOn_12 lksX5_59 ac_nat ac_stat ac_ini lay_59 lay_61 (by decide) (by decide) (by decide) (by decide) (by decide) (Nat.le_of_ble_eq_true rfl) ?_
  refine r_aload_n (q := 0) dX5_agreesOn_15 rfl rfl ?_
  refine r_getR (c := 58) (c2 := 59) dX5_agreesOn_16 flX5_9 lay_58 rfl ?_
  refine r_iconst (v := (0 : Int32)) dX5_agreesOn_19 rfl ?_
  refine r_aload_n (q := 0) dX5_agreesOn_20 rfl rfl ?_
  refine r_getR (c := 58) (c2 := 62) dX5_agreesOn_21 flX5_25 lay_58 rfl ?_
  refine r_iconst (v := (0 : Int32)) dX5_agreesOn_24 rfl ?_
  refine r_bipush (v := (8 : Int32)) dX5_agreesOn_25 rfl ?_
  refine r_copy (c1 := 59) (c2 := 62) dX5_agreesOn_27 lksX5_59 ac_nat ac_stat ac_ini lay_59 lay_62 (by decide) (by decide) (by decide) (by decide) (by decide) (Nat.le_of_ble_eq_true rfl) ?_
  refine r_aload_n (q := 0) dX5_agreesOn_30 rfl rfl ?_
  refine r_aload_n (q := 1) dX5_agreesOn_31 rfl rfl ?_
  refine r_iload_n (q := 3) dX5_agreesOn_32 rfl rfl ?_
  refine r_aload_n (q := 0) dX5_agreesOn_33 rfl rfl ?_
  refine r_getR (c := 58) (c2 := 61) dX5_agreesOn_34 flX5_22 lay_58 rfl ?_
  refine r_cVV (c := 58) (As := [.ref (eA E 5), .int a3, .ref (eA E 61)]) dX5_agreesOn_37 mkX5_runSequence lkX5_65 lay_58 rfl rfl rfl (by decide) rfl (Nat.le_of_ble_eq_true rfl) z00 t ?_
  intro h1 t
  refine r_aload_n (q := 2) dX5_agreesOn_40 rfl rfl ?_
  refine r_getR (c := 46) (c2 := 50) dX5_agreesOn_41 flX5_68 lay_46 rfl ?_
  refine r_iload_n (q := 3) dX5_agreesOn_44 rfl rfl ?_
  obtain ⟨c2, t⟩ := t
  refine r_iald (c := 50) dX5_agreesOn_45 lay_50 c2 ?_
  refine r_istore (lv' := [(4, .int (h1.1 50 a3.toNatClampNeg)), (0, .ref (eA E 58)), (1, .ref (eA E 5)), (2, .ref (eA E 46)), (3, .int a3)]) dX5_agreesOn_46 (by decide) rfl ?_
  refine r_iconst (v := (0 : Int32)) dX5_agreesOn_48 rfl ?_
  refine r_istore (lv' := [(5, .int (0 : Int32)), (4, .int (h1.1 50 a3.toNatClampNeg)), (0, .ref (eA E 58)), (1, .ref (eA E 5)), (2, .ref (eA E 46)), (3, .int a3)]) dX5_agreesOn_49 (by decide) rfl ?_
  refine r_sub [2, 3, 4, 5, 1, 0] rfl ?_
  exact t
set_option maxRecDepth 20000 in
theorem sg_X5_agreesOn_51 (E : En) (d : Nat) (g : Ga) (x3 : Int32) (x4 : Int32) (x5 : Int32) (h : Hp) (P : Int32 → Hp → Prop) (t : ((24 : Int32) ≤ x5 → (VX5_agreesOn_98 E d g P x3 x4 (0 : Int32) h)) ∧ (¬ (24 : Int32) ≤ x5 → ((x4 = (-1 : Int32) → (VX5_agreesOn_98 E d g P x3 x4 (0 : Int32) h)) ∧ (¬ x4 = (-1 : Int32) → (vp_in x4 192 ∧ (SpV E d MX5_execute [.ref (eA E 58), .ref (eA E 5), .int (h.1 47 x4.toNatClampNeg), .ref (eA E 62)] h (fun h4 => vp_in x4 192 ∧ (VX5_agreesOn_51 E d g P x3 (h4.1 49 x4.toNatClampNeg) (x5 + (1 : Int32)) h4)))))))) : VX5_agreesOn_51 E d g P x3 x4 x5 h := by
  refine r_iload (q := 5) dX5_agreesOn_51 rfl ?_
  refine r_bipush (v := (24 : Int32)) dX5_agreesOn_53 rfl ?_
  refine r_icmp_ge (tgt := 95) dX5_agreesOn_55 (by decide) (fun q1 => ?_) (fun q1 => ?_)
  · have t := t.1 q1
    refine r_iconst (v := (0 : Int32)) dX5_agreesOn_95 rfl ?_
    refine r_istore (lv' := [(5, .int (0 : Int32)), (0, .ref (eA E 58)), (1, .ref (eA E 5)), (2, .ref (eA E 46)), (3, .int x3), (4, .int x4)]) dX5_agreesOn_96 (by decide) rfl ?_
    refine r_sub [1, 2, 3, 4, 5, 0] rfl ?_
    exact t
  · have t := t.2 q1
    refine r_iload (q := 4) dX5_agreesOn_58 rfl ?_
    refine r_iconst (v := (-1 : Int32)) dX5_agreesOn_60 rfl ?_
    refine r_icmp_eq (tgt := 95) dX5_agreesOn_61 (by decide) (fun q2 => ?_) (fun q2 => ?_)
    · have t := t.1 q2
      refine r_iconst (v := (0 : Int32)) dX5_agreesOn_95 rfl ?_
      refine r_istore (lv' := [(5, .int (0 : Int32)), (0, .ref (eA E 58)), (1, .ref (eA E 5)), (2, .ref (eA E 46)), (3, .int x3), (4, .int x4)]) dX5_agreesOn_96 (by decide) rfl ?_
      refine r_sub [1, 2, 3, 4, 5, 0] rfl ?_
      exact t
    · have t := t.2 q2
      refine r_aload_n (q := 0) dX5_agreesOn_64 rfl rfl ?_
      refine r_aload_n (q := 1) dX5_agreesOn_65 rfl rfl ?_
      refine r_aload_n (q := 2) dX5_agreesOn_66 rfl rfl ?_
      refine r_getR (c := 46) (c2 := 47) dX5_agreesOn_67 flX5_43 lay_46 rfl ?_
      refine r_iload (q := 4) dX5_agreesOn_70 rfl ?_
      obtain ⟨c3, t⟩ := t
      refine r_iald (c := 47) dX5_agreesOn_72 lay_47 c3 ?_
      refine r_aload_n (q := 0) dX5_agreesOn_73 rfl rfl ?_
      refine r_getR (c := 58) (c2 := 62) dX5_agreesOn_74 flX5_25 lay_58 rfl ?_
      refine r_cVV (c := 58) (As := [.ref (eA E 5), .int (h.1 47 x4.toNatClampNeg), .ref (eA E 62)]) dX5_agreesOn_77 mkX5_execute lkX5_48 lay_58 rfl rfl rfl (by decide) rfl (Nat.le_of_ble_eq_true rfl) z00 t ?_
      intro h4 t
      refine r_aload_n (q := 2) dX5_agreesOn_80 rfl rfl ?_
      refine r_getR (c := 46) (c2 := 49) dX5_agreesOn_81 flX5_52 lay_46 rfl ?_
      refine r_iload (q := 4) dX5_agreesOn_84 rfl ?_
      obtain ⟨c5, t⟩ := t
      refine r_iald (c := 49) dX5_agreesOn_86 lay_49 c5 ?_
      refine r_istore (lv' := [(4, .int (h4.1 49 x4.toNatClampNeg)), (0, .ref (eA E 58)), (1, .ref (eA E 5)), (2, .ref (eA E 46)), (3, .int x3), (5, .int x5)]) dX5_agreesOn_87 (by decide) rfl ?_
      refine r_iinc (k := 5) (v := x5 + (1 : Int32)) (lv' := [(5, .int (x5 + (1 : Int32))), (4, .int (h4.1 49 x4.toNatClampNeg)), (0, .ref (eA E 58)), (1, .ref (eA E 5)), (2, .ref (eA E 46)), (3, .int x3)]) dX5_agreesOn_89 rfl rfl (by decide) rfl ?_
      refine r_goto (tgt := 51) dX5_agreesOn_92 (by decide) ?_
      refine r_sub [2, 3, 4, 5, 1, 0] rfl ?_
      exact t
set_option maxRecDepth 20000 in
theorem sg_X5_agreesOn_98 (E : En) (d : Nat) (g : Ga) (x3 : Int32) (x4 : Int32) (x5 : Int32) (h : Hp) (P : Int32 → Hp → Prop) (t : ((8 : Int32) ≤ x5 → (P (1 : Int32) h)) ∧ (¬ (8 : Int32) ≤ x5 → (vp_in x5 8 ∧ (vp_in x5 8 ∧ (((h.1 61 x5.toNatClampNeg) = (h.1 62 x5.toNatClampNeg) → (VX5_agreesOn_98 E d g P x3 x4 (x5 + (1 : Int32)) h)) ∧ (¬ (h.1 61 x5.toNatClampNeg) = (h.1 62 x5.toNatClampNeg) → (P (0 : Int32) h))))))) : VX5_agreesOn_98 E d g P x3 x4 x5 h := by
  refine r_iload (q := 5) dX5_agreesOn_98 rfl ?_
  refine r_bipush (v := (8 : Int32)) dX5_agreesOn_100 rfl ?_
  refine r_icmp_ge (tgt := 130) dX5_agreesOn_102 (by decide) (fun q1 => ?_) (fun q1 => ?_)
  · have t := t.1 q1
    refine r_iconst (v := (1 : Int32)) dX5_agreesOn_130 rfl ?_
    exact r_zret dX5_agreesOn_131 rfl (Or.inr rfl) t
  · have t := t.2 q1
    refine r_aload_n (q := 0) dX5_agreesOn_105 rfl rfl ?_
    refine r_getR (c := 58) (c2 := 61) dX5_agreesOn_106 flX5_22 lay_58 rfl ?_
    refine r_iload (q := 5) dX5_agreesOn_109 rfl ?_
    obtain ⟨c2, t⟩ := t
    refine r_iald (c := 61) dX5_agreesOn_111 lay_61 c2 ?_
    refine r_aload_n (q := 0) dX5_agreesOn_112 rfl rfl ?_
    refine r_getR (c := 58) (c2 := 62) dX5_agreesOn_113 flX5_25 lay_58 rfl ?_
    refine r_iload (q := 5) dX5_agreesOn_116 rfl ?_
    obtain ⟨c3, t⟩ := t
    refine r_iald (c := 62) dX5_agreesOn_118 lay_62 c3 ?_
    refine r_icmp_eq (tgt := 124) dX5_agreesOn_119 (by decide) (fun q4 => ?_) (fun q4 => ?_)
    · have t := t.1 q4
      refine r_iinc (k := 5) (v := x5 + (1 : Int32)) (lv' := [(5, .int (x5 + (1 : Int32))), (0, .ref (eA E 58)), (1, .ref (eA E 5)), (2, .ref (eA E 46)), (3, .int x3), (4, .int x4)]) dX5_agreesOn_124 rfl rfl (by decide) rfl ?_
      refine r_goto (tgt := 98) dX5_agreesOn_127 (by decide) ?_
      refine r_sub [1, 2, 3, 4, 5, 0] rfl ?_
      exact t
    · have t := t.2 q4
      refine r_iconst (v := (0 : Int32)) dX5_agreesOn_122 rfl ?_
      exact r_zret dX5_agreesOn_123 rfl (Or.inl rfl) t
