theorem dX4_prepareHeights_0 : decode cX4_prepareHeights 0 = .ok (.aload_n 0, 1) := by decide +kernel
theorem dX4_prepareHeights_1 : decode cX4_prepareHeights 1 = .ok (.iconst 0, 1) := by decide +kernel
theorem dX4_prepareHeights_2 : decode cX4_prepareHeights 2 = .ok (.putfield 19, 3) := by decide +kernel
theorem dX4_prepareHeights_5 : decode cX4_prepareHeights 5 = .ok (.aload_n 0, 1) := by decide +kernel
theorem dX4_prepareHeights_6 : decode cX4_prepareHeights 6 = .ok (.getfield 22, 3) := by decide +kernel
theorem dX4_prepareHeights_9 : decode cX4_prepareHeights 9 = .ok (.iconst 1, 1) := by decide +kernel
theorem dX4_prepareHeights_10 : decode cX4_prepareHeights 10 = .ok (.isub, 1) := by decide +kernel
theorem dX4_prepareHeights_11 : decode cX4_prepareHeights 11 = .ok (.istore_n 1, 1) := by decide +kernel
theorem dX4_prepareHeights_12 : decode cX4_prepareHeights 12 = .ok (.iload_n 1, 1) := by decide +kernel
theorem dX4_prepareHeights_13 : decode cX4_prepareHeights 13 = .ok (.ifCond .lt 101, 3) := by decide +kernel
theorem dX4_prepareHeights_16 : decode cX4_prepareHeights 16 = .ok (.iconst 1, 1) := by decide +kernel
theorem dX4_prepareHeights_17 : decode cX4_prepareHeights 17 = .ok (.istore_n 2, 1) := by decide +kernel
theorem dX4_prepareHeights_18 : decode cX4_prepareHeights 18 = .ok (.iload_n 1, 1) := by decide +kernel
theorem dX4_prepareHeights_19 : decode cX4_prepareHeights 19 = .ok (.iconst 1, 1) := by decide +kernel
theorem dX4_prepareHeights_20 : decode cX4_prepareHeights 20 = .ok (.iadd, 1) := by decide +kernel
theorem dX4_prepareHeights_21 : decode cX4_prepareHeights 21 = .ok (.istore_n 3, 1) := by decide +kernel
theorem dX4_prepareHeights_22 : decode cX4_prepareHeights 22 = .ok (.iload_n 3, 1) := by decide +kernel
theorem dX4_prepareHeights_23 : decode cX4_prepareHeights 23 = .ok (.aload_n 0, 1) := by decide +kernel
theorem dX4_prepareHeights_24 : decode cX4_prepareHeights 24 = .ok (.getfield 22, 3) := by decide +kernel
theorem dX4_prepareHeights_27 : decode cX4_prepareHeights 27 = .ok (.if_icmp .ge 62, 3) := by decide +kernel
theorem dX4_prepareHeights_30 : decode cX4_prepareHeights 30 = .ok (.aload_n 0, 1) := by decide +kernel
theorem dX4_prepareHeights_31 : decode cX4_prepareHeights 31 = .ok (.getfield 28, 3) := by decide +kernel
theorem dX4_prepareHeights_34 : decode cX4_prepareHeights 34 = .ok (.iload_n 3, 1) := by decide +kernel
theorem dX4_prepareHeights_35 : decode cX4_prepareHeights 35 = .ok (.iaload, 1) := by decide +kernel
theorem dX4_prepareHeights_36 : decode cX4_prepareHeights 36 = .ok (.iconst 1, 1) := by decide +kernel
theorem dX4_prepareHeights_37 : decode cX4_prepareHeights 37 = .ok (.iload_n 1, 1) := by decide +kernel
theorem dX4_prepareHeights_38 : decode cX4_prepareHeights 38 = .ok (.ishl, 1) := by decide +kernel
theorem dX4_prepareHeights_39 : decode cX4_prepareHeights 39 = .ok (.iand, 1) := by decide +kernel
theorem dX4_prepareHeights_40 : decode cX4_prepareHeights 40 = .ok (.ifCond .eq 19, 3) := by decide +kernel
theorem dX4_prepareHeights_43 : decode cX4_prepareHeights 43 = .ok (.iload_n 2, 1) := by decide +kernel
theorem dX4_prepareHeights_44 : decode cX4_prepareHeights 44 = .ok (.aload_n 0, 1) := by decide +kernel
theorem dX4_prepareHeights_45 : decode cX4_prepareHeights 45 = .ok (.getfield 34, 3) := by decide +kernel
theorem dX4_prepareHeights_48 : decode cX4_prepareHeights 48 = .ok (.iload_n 3, 1) := by decide +kernel
theorem dX4_prepareHeights_49 : decode cX4_prepareHeights 49 = .ok (.iaload, 1) := by decide +kernel
theorem dX4_prepareHeights_50 : decode cX4_prepareHeights 50 = .ok (.iconst 1, 1) := by decide +kernel
theorem dX4_prepareHeights_51 : decode cX4_prepareHeights 51 = .ok (.iadd, 1) := by decide +kernel
theorem dX4_prepareHeights_52 : decode cX4_prepareHeights 52 = .ok (.invokestatic 80, 3) := by decide +kernel
theorem dX4_prepareHeights_55 : decode cX4_prepareHeights 55 = .ok (.istore_n 2, 1) := by decide +kernel
theorem dX4_prepareHeights_56 : decode cX4_prepareHeights 56 = .ok (.goto 27, 3) := by decide +kernel
theorem dX4_prepareHeights_59 : decode cX4_prepareHeights 59 = .ok (.aload_n 0, 1) := by decide +kernel
theorem dX4_prepareHeights_60 : decode cX4_prepareHeights 60 = .ok (.getfield 31, 3) := by decide +kernel
theorem dX4_prepareHeights_63 : decode cX4_prepareHeights 63 = .ok (.iload_n 3, 1) := by decide +kernel
theorem dX4_prepareHeights_64 : decode cX4_prepareHeights 64 = .ok (.iaload, 1) := by decide +kernel
theorem dX4_prepareHeights_65 : decode cX4_prepareHeights 65 = .ok (.iconst 1, 1) := by decide +kernel
theorem dX4_prepareHeights_66 : decode cX4_prepareHeights 66 = .ok (.iload_n 1, 1) := by decide +kernel
theorem dX4_prepareHeights_67 : decode cX4_prepareHeights 67 = .ok (.ishl, 1) := by decide +kernel
theorem dX4_prepareHeights_68 : decode cX4_prepareHeights 68 = .ok (.iand, 1) := by decide +kernel
theorem dX4_prepareHeights_69 : decode cX4_prepareHeights 69 = .ok (.ifCond .eq 14, 3) := by decide +kernel
theorem dX4_prepareHeights_72 : decode cX4_prepareHeights 72 = .ok (.iload_n 2, 1) := by decide +kernel
theorem dX4_prepareHeights_73 : decode cX4_prepareHeights 73 = .ok (.aload_n 0, 1) := by decide +kernel
theorem dX4_prepareHeights_74 : decode cX4_prepareHeights 74 = .ok (.getfield 34, 3) := by decide +kernel
theorem dX4_prepareHeights_77 : decode cX4_prepareHeights 77 = .ok (.iload_n 3, 1) := by decide +kernel
theorem dX4_prepareHeights_78 : decode cX4_prepareHeights 78 = .ok (.iaload, 1) := by decide +kernel
theorem dX4_prepareHeights_79 : decode cX4_prepareHeights 79 = .ok (.invokestatic 80, 3) := by decide +kernel
theorem dX4_prepareHeights_82 : decode cX4_prepareHeights 82 = .ok (.istore_n 2, 1) := by decide +kernel
theorem dX4_prepareHeights_83 : decode cX4_prepareHeights 83 = .ok (.iinc 3 1, 3) := by decide +kernel
theorem dX4_prepareHeights_86 : decode cX4_prepareHeights 86 = .ok (.goto (-64), 3) := by decide +kernel
theorem dX4_prepareHeights_89 : decode cX4_prepareHeights 89 = .ok (.aload_n 0, 1) := by decide +kernel
theorem dX4_prepareHeights_90 : decode cX4_prepareHeights 90 = .ok (.getfield 34, 3) := by decide +kernel
theorem dX4_prepareHeights_93 : decode cX4_prepareHeights 93 = .ok (.iload_n 1, 1) := by decide +kernel
theorem dX4_prepareHeights_94 : decode cX4_prepareHeights 94 = .ok (.iload_n 2, 1) := by decide +kernel
theorem dX4_prepareHeights_95 : decode cX4_prepareHeights 95 = .ok (.iastore, 1) := by decide +kernel
theorem dX4_prepareHeights_96 : decode cX4_prepareHeights 96 = .ok (.aload_n 0, 1) := by decide +kernel
theorem dX4_prepareHeights_97 : decode cX4_prepareHeights 97 = .ok (.aload_n 0, 1) := by decide +kernel
theorem dX4_prepareHeights_98 : decode cX4_prepareHeights 98 = .ok (.getfield 19, 3) := by decide +kernel
theorem dX4_prepareHeights_101 : decode cX4_prepareHeights 101 = .ok (.iload_n 2, 1) := by decide +kernel
theorem dX4_prepareHeights_102 : decode cX4_prepareHeights 102 = .ok (.invokestatic 80, 3) := by decide +kernel
theorem dX4_prepareHeights_105 : decode cX4_prepareHeights 105 = .ok (.putfield 19, 3) := by decide +kernel
theorem dX4_prepareHeights_108 : decode cX4_prepareHeights 108 = .ok (.iinc 1 (-1), 3) := by decide +kernel
theorem dX4_prepareHeights_111 : decode cX4_prepareHeights 111 = .ok (.goto (-99), 3) := by decide +kernel
theorem dX4_prepareHeights_114 : decode cX4_prepareHeights 114 = .ok (.return_, 1) := by decide +kernel
abbrev VX4_prepareHeights_12 (E : En) (d : Nat) (g : Ga) (P : Hp → Prop) (x1 : Int32) (h : Hp) : Prop := V E MX4_prepareHeights (RM (d + 1) 0) g (QQ E g (QV E P) 0 0) 0 0 h 12 [(0, .ref (eA E 32)), (1, .int x1)] []
abbrev VX4_prepareHeights_22 (E : En) (d : Nat) (g : Ga) (P : Hp → Prop) (x1 : Int32) (x2 : Int32) (x3 : Int32) (h : Hp) : Prop := V E MX4_prepareHeights (RM (d + 1) 0) g (QQ E g (QV E P) 0 0) 0 0 h 22 [(0, .ref (eA E 32)), (1, .int x1), (2, .int x2), (3, .int x3)] []
set_option maxRecDepth 20000 in
theorem wp_X4_prepareHeights (E : En) (d : Nat) (h : Hp) (P : Hp → Prop) (t : ∀ g : Ga, VX4_prepareHeights_12 E d g P ((h.1 32 3) - (1 : Int32)) (sI h 32 2 (0 : Int32))) : SpV E (d + 1) MX4_prepareHeights [.ref (eA E 32)] h P := by
  refine SpV.of (lv0 := [(0, .ref (eA E 32))]) (by decide) (Nat.le_of_ble_eq_true rfl) rfl (fun g => ?_)
  have t := t g
  refine r_aload_n (q := 0) dX4_prepareHeights_0 rfl rfl ?_
  refine r_iconst (v := (0 : Int32)) dX4_prepareHeights_1 rfl ?_
  refine r_putI (c := 32) dX4_prepareHeights_2 flX4_19 lay_32 rfl ?_
  refine r_aload_n (q := 0) dX4_prepareHeights_5 rfl rfl ?_
  refine r_getIv (c := 32) (v := h.1 32 3) dX4_prepareHeights_6 flX4_22 lay_32 rfl rfl ?_
  refine r_iconst (v := (1 : Int32)) dX4_prepareHeights_9 rfl ?_
  refine r_isub dX4_prepareHeights_10 ?_
  refine r_istore_n (lv' := [(1, .int ((h.1 32 3) - (1 : Int32))), (0, .ref (eA E 32))]) dX4_prepareHeights_11 rfl (by decide) rfl ?_
  refine r_sub [1, 0] rfl ?_
  exact t
set_option maxRecDepth 20000 in
theorem sg_X4_prepareHeights_12 (E : En) (d : Nat) (g : Ga) (x1 : Int32) (h : Hp) (P : Hp → Prop) (t : (x1 < 0 → (P h)) ∧ (¬ x1 < 0 → (VX4_prepareHeights_22 E d g P x1 (1 : Int32) (x1 + (1 : Int32)) h))) : VX4_prepareHeights_12 E d g P x1 h := by
  refine r_iload_n (q := 1) dX4_prepareHeights_12 rfl rfl ?_
  refine r_if_lt (tgt := 114) dX4_prepareHeights_13 (by decide) (fun q1 => ?_) (fun q1 => ?_)
  · have t := t.1 q1
    exact r_vret dX4_prepareHeights_114 rfl t
  · have t := t.2 q1
    refine r_iconst (v := (1 : Int32)) dX4_prepareHeights_16 rfl ?_
    refine r_istore_n (lv' := [(2, .int (1 : Int32)), (0, .ref (eA E 32)), (1, .int x1)]) dX4_prepareHeights_17 rfl (by decide) rfl ?_
    refine r_iload_n (q := 2) dX4_prepareHeights_18 rfl rfl ?_
    refine r_iconst (v := (1 : Int32)) dX4_prepareHeights_19 rfl ?_
    refine r_iadd dX4_prepareHeights_20 ?_
    refine r_istore_n (lv' := [(3, .int (x1 + (1 : Int32))), (2, .int (1 : Int32)), (0, .ref (eA E 32)), (1, .int x1)]) dX4_prepareHeights_21 rfl (by decide) rfl ?_
    refine r_sub [2, 3, 1, 0] rfl ?_
    exact t
set_option maxRecDepth 20000 in
theorem sg_X4_prepareHeights_22 (E : En) (d : Nat) (g : Ga) (x1 : Int32) (x2 : Int32) (x3 : Int32) (h : Hp) (P : Hp → Prop) (t : ((h.1 32 3) ≤ x3 → (vp_in x1 10 ∧ (VX4_prepareHeights_12 E d g P (x1 + (-1 : Int32)) (sI (sI h 37 x1.toNatClampNeg x2) 32 2 (if (h.1 32 2) < x2 then x2 else (h.1 32 2)))))) ∧ (¬ (h.1 32 3) ≤ x3 → (vp_in x3 10 ∧ ((((h.1 35 x3.toNatClampNeg) &&& ((1 : Int32) <<< (x1 &&& 31))) = 0 → (vp_in x3 10 ∧ ((((h.1 36 x3.toNatClampNeg) &&& ((1 : Int32) <<< (x1 &&& 31))) = 0 → (VX4_prepareHeights_22 E d g P x1 x2 (x3 + (1 : Int32)) h)) ∧ (¬ ((h.1 36 x3.toNatClampNeg) &&& ((1 : Int32) <<< (x1 &&& 31))) = 0 → (vp_in x3 10 ∧ (VX4_prepareHeights_22 E d g P x1 (if x2 < (h.1 37 x3.toNatClampNeg) then (h.1 37 x3.toNatClampNeg) else x2) (x3 + (1 : Int32)) h)))))) ∧ (¬ ((h.1 35 x3.toNatClampNeg) &&& ((1 : Int32) <<< (x1 &&& 31))) = 0 → (vp_in x3 10 ∧ (VX4_prepareHeights_22 E d g P x1 (if x2 < ((h.1 37 x3.toNatClampNeg) + (1 : Int32)) then ((h.1 37 x3.toNatClampNeg) + (1 : Int32)) else x2) (x3 + (1 : Int32)) h))))))) : VX4_prepareHeights_22 E d g P x1 x2 x3 h := by
  refine r_iload_n (q := 3) dX4_prepareHeights_22 rfl rfl ?_
  refine r_aload_n (q := 0) dX4_prepareHeights_23 rfl rfl ?_
  refine r_getI (c := 32) dX4_prepareHeights_24 flX4_22 lay_32 rfl ?_
  refine r_icmp_ge (tgt := 89) dX4_prepareHeights_27 (by decide) (fun q1 => ?_) (fun q1 => ?_)
  · have t := t.1 q1
    refine r_aload_n (q := 0) dX4_prepareHeights_89 rfl rfl ?_
    refine r_getR (c := 32) (c2 := 37) dX4_prepareHeights_90 flX4_34 lay_32 rfl ?_
    refine r_iload_n (q := 1) dX4_prepareHeights_93 rfl rfl ?_
    refine r_iload_n (q := 2) dX4_prepareHeights_94 rfl rfl ?_
    obtain ⟨c2, t⟩ := t
    refine r_iast (c := 37) dX4_prepareHeights_95 lay_37 c2 ?_
    refine r_aload_n (q := 0) dX4_prepareHeights_96 rfl rfl ?_
    refine r_aload_n (q := 0) dX4_prepareHeights_97 rfl rfl ?_
    refine r_getIv (c := 32) (v := h.1 32 2) dX4_prepareHeights_98 flX4_19 lay_32 rfl rfl ?_
    refine r_iload_n (q := 2) dX4_prepareHeights_101 rfl rfl ?_
    refine r_max dX4_prepareHeights_102 lkX4_80 (Nat.le_of_ble_eq_true rfl) z00 ?_
    refine r_putI (c := 32) dX4_prepareHeights_105 flX4_19 lay_32 rfl ?_
    refine r_iinc (k := 1) (v := x1 + (-1 : Int32)) (lv' := [(1, .int (x1 + (-1 : Int32))), (0, .ref (eA E 32)), (2, .int x2), (3, .int x3)]) dX4_prepareHeights_108 rfl rfl (by decide) rfl ?_
    refine r_goto (tgt := 12) dX4_prepareHeights_111 (by decide) ?_
    refine r_sub [1, 0] rfl ?_
    exact t
  · have t := t.2 q1
    refine r_aload_n (q := 0) dX4_prepareHeights_30 rfl rfl ?_
    refine r_getR (c := 32) (c2 := 35) dX4_prepareHeights_31 flX4_28 lay_32 rfl ?_
    refine r_iload_n (q := 3) dX4_prepareHeights_34 rfl rfl ?_
    obtain ⟨c3, t⟩ := t
    refine r_iald (c := 35) dX4_prepareHeights_35 lay_35 c3 ?_
    refine r_iconst (v := (1 : Int32)) dX4_prepareHeights_36 rfl ?_
    refine r_iload_n (q := 1) dX4_prepareHeights_37 rfl rfl ?_
    refine r_ishl dX4_prepareHeights_38 ?_
    refine r_iand dX4_prepareHeights_39 ?_
    refine r_if_eq (tgt := 59) dX4_prepareHeights_40 (by decide) (fun q4 => ?_) (fun q4 => ?_)
    · have t := t.1 q4
      refine r_aload_n (q := 0) dX4_prepareHeights_59 rfl rfl ?_
      refine r_getR (c := 32) (c2 := 36) dX4_prepareHeights_60 flX4_31 lay_32 rfl ?_
      refine r_iload_n (q := 3) dX4_prepareHeights_63 rfl rfl ?_
      obtain ⟨c5, t⟩ := t
      refine r_iald (c := 36) dX4_prepareHeights_64 lay_36 c5 ?_
      refine r_iconst (v := (1 : Int32)) dX4_prepareHeights_65 rfl ?_
      refine r_iload_n (q := 1) dX4_prepareHeights_66 rfl rfl ?_
      refine r_ishl dX4_prepareHeights_67 ?_
      refine r_iand dX4_prepareHeights_68 ?_
      refine r_if_eq (tgt := 83) dX4_prepareHeights_69 (by decide) (fun q6 => ?_) (fun q6 => ?_)
      · have t := t.1 q6
        refine r_iinc (k := 3) (v := x3 + (1 : Int32)) (lv' := [(3, .int (x3 + (1 : Int32))), (0, .ref (eA E 32)), (1, .int x1), (2, .int x2)]) dX4_prepareHeights_83 rfl rfl (by decide) rfl ?_
        refine r_goto (tgt := 22) dX4_prepareHeights_86 (by decide) ?_
        refine r_sub [1, 2, 3, 0] rfl ?_
        exact t
      · have t := t.2 q6
        refine r_iload_n (q := 2) dX4_prepareHeights_72 rfl rfl ?_
        refine r_aload_n (q := 0) dX4_prepareHeights_73 rfl rfl ?_
        refine r_getR (c := 32) (c2 := 37) dX4_prepareHeights_74 flX4_34 lay_32 rfl ?_
        refine r_iload_n (q := 3) dX4_prepareHeights_77 rfl rfl ?_
        obtain ⟨c7, t⟩ := t
        refine r_iald (c := 37) dX4_prepareHeights_78 lay_37 c7 ?_
        refine r_max dX4_prepareHeights_79 lkX4_80 (Nat.le_of_ble_eq_true rfl) z00 ?_
        refine r_istore_n (lv' := [(2, .int (if x2 < (h.1 37 x3.toNatClampNeg) then (h.1 37 x3.toNatClampNeg) else x2)), (0, .ref (eA E 32)), (1, .int x1), (3, .int x3)]) dX4_prepareHeights_82 rfl (by decide) rfl ?_
        refine r_iinc (k := 3) (v := x3 + (1 : Int32)) (lv' := [(3, .int (x3 + (1 : Int32))), (2, .int (if x2 < (h.1 37 x3.toNatClampNeg) then (h.1 37 x3.toNatClampNeg) else x2)), (0, .ref (eA E 32)), (1, .int x1)]) dX4_prepareHeights_83 rfl rfl (by decide) rfl ?_
        refine r_goto (tgt := 22) dX4_prepareHeights_86 (by decide) ?_
        refine r_sub [2, 3, 1, 0] rfl ?_
        exact t
    · have t := t.2 q4
      refine r_iload_n (q := 2) dX4_prepareHeights_43 rfl rfl ?_
      refine r_aload_n (q := 0) dX4_prepareHeights_44 rfl rfl ?_
      refine r_getR (c := 32) (c2 := 37) dX4_prepareHeights_45 flX4_34 lay_32 rfl ?_
      refine r_iload_n (q := 3) dX4_prepareHeights_48 rfl rfl ?_
      obtain ⟨c8, t⟩ := t
      refine r_iald (c := 37) dX4_prepareHeights_49 lay_37 c8 ?_
      refine r_iconst (v := (1 : Int32)) dX4_prepareHeights_50 rfl ?_
      refine r_iadd dX4_prepareHeights_51 ?_
      refine r_max dX4_prepareHeights_52 lkX4_80 (Nat.le_of_ble_eq_true rfl) z00 ?_
      refine r_istore_n (lv' := [(2, .int (if x2 < ((h.1 37 x3.toNatClampNeg) + (1 : Int32)) then ((h.1 37 x3.toNatClampNeg) + (1 : Int32)) else x2)), (0, .ref (eA E 32)), (1, .int x1), (3, .int x3)]) dX4_prepareHeights_55 rfl (by decide) rfl ?_
      refine r_goto (tgt := 83) dX4_prepareHeights_56 (by decide) ?_
      refine r_iinc (k := 3) (v := x3 + (1 : Int32)) (lv' := [(3, .int (x3 + (1 : Int32))), (2, .int (if x2 < ((h.1 37 x3.toNatClampNeg) + (1 : Int32)) then ((h.1 37 x3.toNatClampNeg) + (1 : Int32)) else x2)), (0, .ref (eA E 32)), (1, .int x1)]) dX4_prepareHeights_83 rfl rfl (by decide) rfl ?_
      refine r_goto (tgt := 22) dX4_prepareHeights_86 (by decide) ?_
      refine r_sub [2, 3, 1, 0] rfl ?_
      exact t
theorem dX4_packOneByOne_0 : decode cX4_packOneByOne 0 = .ok (.iconst 0, 1) := by decide +kernel
theorem dX4_packOneByOne_1 : decode cX4_packOneByOne 1 = .ok (.istore_n 1, 1) := by decide +kernel
theorem dX4_packOneByOne_2 : decode cX4_packOneByOne 2 = .ok (.iload_n 1, 1) := by decide +kernel
theorem dX4_packOneByOne_3 : decode cX4_packOneByOne 3 = .ok (.aload_n 0, 1) := by decide +kernel
theorem dX4_packOneByOne_4 : decode cX4_packOneByOne 4 = .ok (.getfield 22, 3) := by decide +kernel
theorem dX4_packOneByOne_7 : decode cX4_packOneByOne 7 = .ok (.if_icmp .ge 18, 3) := by decide +kernel
theorem dX4_packOneByOne_10 : decode cX4_packOneByOne 10 = .ok (.aload_n 0, 1) := by decide +kernel
theorem dX4_packOneByOne_11 : decode cX4_packOneByOne 11 = .ok (.getfield 9, 3) := by decide +kernel
theorem dX4_packOneByOne_14 : decode cX4_packOneByOne 14 = .ok (.iload_n 1, 1) := by decide +kernel
theorem dX4_packOneByOne_15 : decode cX4_packOneByOne 15 = .ok (.iconst 1, 1) := by decide +kernel
theorem dX4_packOneByOne_16 : decode cX4_packOneByOne 16 = .ok (.iload_n 1, 1) := by decide +kernel
theorem dX4_packOneByOne_17 : decode cX4_packOneByOne 17 = .ok (.ishl, 1) := by decide +kernel
theorem dX4_packOneByOne_18 : decode cX4_packOneByOne 18 = .ok (.iastore, 1) := by decide +kernel
theorem dX4_packOneByOne_19 : decode cX4_packOneByOne 19 = .ok (.iinc 1 1, 3) := by decide +kernel
theorem dX4_packOneByOne_22 : decode cX4_packOneByOne 22 = .ok (.goto (-20), 3) := by decide +kernel
theorem dX4_packOneByOne_25 : decode cX4_packOneByOne 25 = .ok (.aload_n 0, 1) := by decide +kernel
theorem dX4_packOneByOne_26 : decode cX4_packOneByOne 26 = .ok (.aload_n 0, 1) := by decide +kernel
theorem dX4_packOneByOne_27 : decode cX4_packOneByOne 27 = .ok (.getfield 22, 3) := by decide +kernel
theorem dX4_packOneByOne_30 : decode cX4_packOneByOne 30 = .ok (.putfield 15, 3) := by decide +kernel
theorem dX4_packOneByOne_33 : decode cX4_packOneByOne 33 = .ok (.return_, 1) := by decide +kernel
abbrev VX4_packOneByOne_2 (E : En) (d : Nat) (g : Ga) (P : Hp → Prop) (x1 : Int32) (h : Hp) : Prop := V E MX4_packOneByOne (RM d 0) g (QQ E g (QV E P) 0 0) 0 0 h 2 [(0, .ref (eA E 32)), (1, .int x1)] []
set_option maxRecDepth 20000 in
theorem wp_X4_packOneByOne (E : En) (d : Nat) (h : Hp) (P : Hp → Prop) (t : ∀ g : Ga, VX4_packOneByOne_2 E d g P (0 : Int32) h) : SpV E d MX4_packOneByOne [.ref (eA E 32)] h P := by
  refine SpV.of (lv0 := [(0, .ref (eA E 32))]) (by decide) (Nat.le_of_ble_eq_true rfl) rfl (fun g => ?_)
  have t := t g
  refine r_iconst (v := (0 : Int32)) dX4_packOneByOne_0 rfl ?_
  refine r_istore_n (lv' := [(1, .int (0 : Int32)), (0, .ref (eA E 32))]) dX4_packOneByOne_1 rfl (by decide) rfl ?_
  refine r_sub [1, 0] rfl ?_
  exact t
set_option maxRecDepth 20000 in
theorem sg_X4_packOneByOne_2 (E : En) (d : Nat) (g : Ga) (x1 : Int32) (h : Hp) (P : Hp → Prop) (t : ((h.1 32 3) ≤ x1 → (P (sI h 32 1 (h.1 32 3)))) ∧ (¬ (h.1 32 3) ≤ x1 → (vp_in x1 10 ∧ (VX4_packOneByOne_2 E d g P (x1 + (1 : Int32)) (sI h 33 x1.toNatClampNeg ((1 : Int32) <<< (x1 &&& 31))))))) : VX4_packOneByOne_2 E d g P x1 h := by
  refine r_iload_n (q := 1) dX4_packOneByOne_2 rfl rfl ?_
  refine r_aload_n (q := 0) dX4_packOneByOne_3 rfl rfl ?_
  refine r_getI (c := 32) dX4_packOneByOne_4 flX4_22 lay_32 rfl ?_
  refine r_icmp_ge (tgt := 25) dX4_packOneByOne_7 (by decide) (fun q1 => ?_) (fun q1 => ?_)
  · have t := t.1 q1
    refine r_aload_n (q := 0) dX4_packOneByOne_25 rfl rfl ?_
    refine r_aload_n (q := 0) dX4_packOneByOne_26 rfl rfl ?_
    refine r_getI (c := 32) dX4_packOneByOne_27 flX4_22 lay_32 rfl ?_
    refine r_putI (c := 32) dX4_packOneByOne_30 flX4_15 lay_32 rfl ?_
    exact r_vret dX4_packOneByOne_33 rfl t
  · have t := t.2 q1
    refine r_aload_n (q := 0) dX4_packOneByOne_10 rfl rfl ?_
    refine r_getR (c := 32) (c2 := 33) dX4_packOneByOne_11 flX4_9 lay_32 rfl ?_
    refine r_iload_n (q := 1) dX4_packOneByOne_14 rfl rfl ?_
    refine r_iconst (v := (1 : Int32)) dX4_packOneByOne_15 rfl ?_
    refine r_iload_n (q := 1) dX4_packOneByOne_16 rfl rfl ?_
    refine r_ishl dX4_packOneByOne_17 ?_
    obtain ⟨c2, t⟩ := t
    refine r_iast (c := 33) dX4_packOneByOne_18 lay_33 c2 ?_
    refine r_iinc (k := 1) (v := x1 + (1 : Int32)) (lv' := [(1, .int (x1 + (1 : Int32))), (0, .ref (eA E 32))]) dX4_packOneByOne_19 rfl rfl (by decide) rfl ?_
    refine r_goto (tgt := 2) dX4_packOneByOne_22 (by decide) ?_
    refine r_sub [1, 0] rfl ?_
    exact t
theorem dX4_packByList_0 : decode cX4_packByList 0 = .ok (.iconst 1, 1) := by decide +kernel
theorem dX4_packByList_1 : decode cX4_packByList 1 = .ok (.aload_n 0, 1) := by decide +kernel
theorem dX4_packByList_2 : decode cX4_packByList 2 = .ok (.getfield 22, 3) := by decide +kernel
theorem dX4_packByList_5 : decode cX4_packByList 5 = .ok (.ishl, 1) := by decide +kernel
theorem dX4_packByList_6 : decode cX4_packByList 6 = .ok (.iconst 1, 1) := by decide +kernel
theorem dX4_packByList_7 : decode cX4_packByList 7 = .ok (.isub, 1) := by decide +kernel
theorem dX4_packByList_8 : decode cX4_packByList 8 = .ok (.istore_n 1, 1) := by decide +kernel
theorem dX4_packByList_9 : decode cX4_packByList 9 = .ok (.iconst 0, 1) := by decide +kernel
theorem dX4_packByList_10 : decode cX4_packByList 10 = .ok (.istore_n 2, 1) := by decide +kernel
theorem dX4_packByList_11 : decode cX4_packByList 11 = .ok (.iconst 0, 1) := by decide +kernel
theorem dX4_packByList_12 : decode cX4_packByList 12 = .ok (.istore_n 3, 1) := by decide +kernel
theorem dX4_packByList_13 : decode cX4_packByList 13 = .ok (.iload_n 3, 1) := by decide +kernel
theorem dX4_packByList_14 : decode cX4_packByList 14 = .ok (.aload_n 0, 1) := by decide +kernel
theorem dX4_packByList_15 : decode cX4_packByList 15 = .ok (.getfield 22, 3) := by decide +kernel
theorem dX4_packByList_18 : decode cX4_packByList 18 = .ok (.if_icmp .ge 93, 3) := by decide +kernel
theorem dX4_packByList_21 : decode cX4_packByList 21 = .ok (.iload_n 2, 1) := by decide +kernel
theorem dX4_packByList_22 : decode cX4_packByList 22 = .ok (.iload_n 1, 1) := by decide +kernel
theorem dX4_packByList_23 : decode cX4_packByList 23 = .ok (.if_icmp .eq 88, 3) := by decide +kernel
theorem dX4_packByList_26 : decode cX4_packByList 26 = .ok (.iconst 0, 1) := by decide +kernel
theorem dX4_packByList_27 : decode cX4_packByList 27 = .ok (.istore 4, 2) := by decide +kernel
theorem dX4_packByList_29 : decode cX4_packByList 29 = .ok (.iconst 0, 1) := by decide +kernel
theorem dX4_packByList_30 : decode cX4_packByList 30 = .ok (.istore 5, 2) := by decide +kernel
theorem dX4_packByList_32 : decode cX4_packByList 32 = .ok (.iload 5, 2) := by decide +kernel
theorem dX4_packByList_34 : decode cX4_packByList 34 = .ok (.aload_n 0, 1) := by decide +kernel
theorem dX4_packByList_35 : decode cX4_packByList 35 = .ok (.getfield 22, 3) := by decide +kernel
theorem dX4_packByList_38 : decode cX4_packByList 38 = .ok (.if_icmp .ge 47, 3) := by decide +kernel
theorem dX4_packByList_41 : decode cX4_packByList 41 = .ok (.aload_n 0, 1) := by decide +kernel
theorem dX4_packByList_42 : decode cX4_packByList 42 = .ok (.iload 5, 2) := by decide +kernel
theorem dX4_packByList_44 : decode cX4_packByList 44 = .ok (.iload_n 2, 1) := by decide +kernel
theorem dX4_packByList_45 : decode cX4_packByList 45 = .ok (.iload 4, 2) := by decide +kernel
theorem dX4_packByList_47 : decode cX4_packByList 47 = .ok (.invokevirtual 85, 3) := by decide +kernel
theorem dX4_packByList_50 : decode cX4_packByList 50 = .ok (.ifCond .eq 29, 3) := by decide +kernel
theorem dX4_packByList_53 : decode cX4_packByList 53 = .ok (.aload_n 0, 1) := by decide +kernel
theorem dX4_packByList_54 : decode cX4_packByList 54 = .ok (.getfield 31, 3) := by decide +kernel
theorem dX4_packByList_57 : decode cX4_packByList 57 = .ok (.iload 5, 2) := by decide +kernel
theorem dX4_packByList_59 : decode cX4_packByList 59 = .ok (.iaload, 1) := by decide +kernel
theorem dX4_packByList_60 : decode cX4_packByList 60 = .ok (.iload_n 2, 1) := by decide +kernel
theorem dX4_packByList_61 : decode cX4_packByList 61 = .ok (.iload 4, 2) := by decide +kernel
theorem dX4_packByList_63 : decode cX4_packByList 63 = .ok (.ior, 1) := by decide +kernel
theorem dX4_packByList_64 : decode cX4_packByList 64 = .ok (.iconst (-1), 1) := by decide +kernel
theorem dX4_packByList_65 : decode cX4_packByList 65 = .ok (.ixor, 1) := by decide +kernel
theorem dX4_packByList_66 : decode cX4_packByList 66 = .ok (.iand, 1) := by decide +kernel
theorem dX4_packByList_67 : decode cX4_packByList 67 = .ok (.ifCond .ne 12, 3) := by decide +kernel
theorem dX4_packByList_70 : decode cX4_packByList 70 = .ok (.iload 4, 2) := by decide +kernel
theorem dX4_packByList_72 : decode cX4_packByList 72 = .ok (.iconst 1, 1) := by decide +kernel
theorem dX4_packByList_73 : decode cX4_packByList 73 = .ok (.iload 5, 2) := by decide +kernel
theorem dX4_packByList_75 : decode cX4_packByList 75 = .ok (.ishl, 1) := by decide +kernel
theorem dX4_packByList_76 : decode cX4_packByList 76 = .ok (.ior, 1) := by decide +kernel
theorem dX4_packByList_77 : decode cX4_packByList 77 = .ok (.istore 4, 2) := by decide +kernel
theorem dX4_packByList_79 : decode cX4_packByList 79 = .ok (.iinc 5 1, 3) := by decide +kernel
theorem dX4_packByList_82 : decode cX4_packByList 82 = .ok (.goto (-50), 3) := by decide +kernel
theorem dX4_packByList_85 : decode cX4_packByList 85 = .ok (.aload_n 0, 1) := by decide +kernel
theorem dX4_packByList_86 : decode cX4_packByList 86 = .ok (.getfield 9, 3) := by decide +kernel
theorem dX4_packByList_89 : decode cX4_packByList 89 = .ok (.iload_n 3, 1) := by decide +kernel
theorem dX4_packByList_90 : decode cX4_packByList 90 = .ok (.iload 4, 2) := by decide +kernel
theorem dX4_packByList_92 : decode cX4_packByList 92 = .ok (.iastore, 1) := by decide +kernel
theorem dX4_packByList_93 : decode cX4_packByList 93 = .ok (.iload_n 2, 1) := by decide +kernel
theorem dX4_packByList_94 : decode cX4_packByList 94 = .ok (.iload 4, 2) := by decide +kernel
theorem dX4_packByList_96 : decode cX4_packByList 96 = .ok (.ior, 1) := by decide +kernel
theorem dX4_packByList_97 : decode cX4_packByList 97 = .ok (.istore_n 2, 1) := by decide +kernel
theorem dX4_packByList_98 : decode cX4_packByList 98 = .ok (.aload_n 0, 1) := by decide +kernel
theorem dX4_packByList_99 : decode cX4_packByList 99 = .ok (.iload_n 3, 1) := by decide +kernel
theorem dX4_packByList_100 : decode cX4_packByList 100 = .ok (.iconst 1, 1) := by decide +kernel
theorem dX4_packByList_101 : decode cX4_packByList 101 = .ok (.iadd, 1) := by decide +kernel
theorem dX4_packByList_102 : decode cX4_packByList 102 = .ok (.putfield 15, 3) := by decide +kernel
theorem dX4_packByList_105 : decode cX4_packByList 105 = .ok (.iinc 3 1, 3) := by decide +kernel
theorem dX4_packByList_108 : decode cX4_packByList 108 = .ok (.goto (-95), 3) := by decide +kernel
theorem dX4_packByList_111 : decode cX4_packByList 111 = .ok (.return_, 1) := by decide +kernel
abbrev VX4_packByList_13 (E : En) (d : Nat) (g : Ga) (P : Hp → Prop) (x1 : Int32) (x2 : Int32) (x3 : Int32) (h : Hp) : Prop := V E MX4_packByList (RM (d + 1) 0) g (QQ E g (QV E P) 0 0) 0 0 h 13 [(0, .ref (eA E 32)), (1, .int x1), (2, .int x2), (3, .int x3)] []
abbrev VX4_packByList_32 (E : En) (d : Nat) (g : Ga) (P : Hp → Prop) (x1 : Int32) (x2 : Int32) (x3 : Int32) (x4 : Int32) (x5 : Int32) (h : Hp) : Prop := V E MX4_packByList (RM (d + 1) 0) g (QQ E g (QV E P) 0 0) 0 0 h 32 [(0, .ref (eA E 32)), (1, .int x1), (2, .int x2), (3, .int x3), (4, .int x4), (5, .int x5)] []
set_option maxRecDepth 20000 in
theorem wp_X4_packByList (E : En) (d : Nat) (h : Hp) (P : Hp → Prop) (t : ∀ g : Ga, VX4_packByList_13 E d g P (((1 : Int32) <<< ((h.1 32 3) &&& 31)) - (1 : Int32)) (0 : Int32) (0 : Int32) h) : SpV E (d + 1) MX4_packByList [.ref (eA E 32)] h P := by
  refine SpV.of (lv0 := [(0, .ref (eA E 32))]) (by decide) (Nat.le_of_ble_eq_true rfl) rfl (fun g => ?_)
  have t := t g
  refine r_iconst (v := (1 : Int32)) dX4_packByList_0 rfl ?_
  refine r_aload_n (q := 0) dX4_packByList_1 rfl rfl ?_
  refine r_getI (c := 32) dX4_packByList_2 flX4_22 lay_32 rfl ?_
  refine r_ishl dX4_packByList_5 ?_
  refine r_iconst (v := (1 : Int32)) dX4_packByList_6 rfl ?_
  refine r_isub dX4_packByList_7 ?_
  refine r_istore_n (lv' := [(1, .int (((1 : Int32) <<< ((h.1 32 3) &&& 31)) - (1 : Int32))), (0, .ref (eA E 32))]) dX4_packByList_8 rfl (by decide) rfl ?_
  refine r_iconst (v := (0 : Int32)) dX4_packByList_9 rfl ?_
  refine r_istore_n (lv' := [(2, .int (0 : Int32)), (1, .int (((1 : Int32) <<< ((h.1 32 3) &&& 31)) - (1 : Int32))), (0, .ref (eA E 32))]) dX4_packByList_10 rfl (by decide) rfl ?_
  refine r_iconst (v := (0 : Int32)) dX4_packByList_11 rfl ?_
  refine r_istore_n (lv' := [(3, .int (0 : Int32)), (2, .int (0 : Int32)), (1, .int (((1 : Int32) <<< ((h.1 32 3) &&& 31)) - (1 : Int32))), (0, .ref (eA E 32))]) dX4_packByList_12 rfl (by decide) rfl ?_
  refine r_sub [3, 2, 1, 0] rfl ?_
  exact t
set_option maxRecDepth 20000 in
theorem sg_X4_packByList_13 (E : En) (d : Nat) (g : Ga) (x1 : Int32) (x2 : Int32) (x3 : Int32) (h : Hp) (P : Hp → Prop) (t : ((h.1 32 3) ≤ x3 → (P h)) ∧ (¬ (h.1 32 3) ≤ x3 → ((x2 = x1 → (P h)) ∧ (¬ x2 = x1 → (VX4_packByList_32 E d g P x1 x2 x3 (0 : Int32) (0 : Int32) h))))) : VX4_packByList_13 E d g P x1 x2 x3 h := by
  refine r_iload_n (q := 3) dX4_packByList_13 rfl rfl ?_
  refine r_aload_n (q := 0) dX4_packByList_14 rfl rfl ?_
  refine r_getI (c := 32) dX4_packByList_15 flX4_22 lay_32 rfl ?_
  refine r_icmp_ge (tgt := 111) dX4_packByList_18 (by decide) (fun q1 => ?_) (fun q1 => ?_)
  · have t := t.1 q1
    exact r_vret dX4_packByList_111 rfl t
  · have t := t.2 q1
    refine r_iload_n (q := 2) dX4_packByList_21 rfl rfl ?_
    refine r_iload_n (q := 1) dX4_packByList_22 rfl rfl ?_
    refine r_icmp_eq (tgt := 111) dX4_packByList_23 (by decide) (fun q2 => ?_) (fun q2 => ?_)
    · have t := t.1 q2
      exact r_vret dX4_packByList_111 rfl t
    · have t := t.2 q2
      refine r_iconst (v := (0 : Int32)) dX4_packByList_26 rfl ?_
      refine r_istore (lv' := [(4, .int (0 : Int32)), (0, .ref (eA E 32)), (1, .int x1), (2, .int x2), (3, .int x3)]) dX4_packByList_27 (by decide) rfl ?_
      refine r_iconst (v := (0 : Int32)) dX4_packByList_29 rfl ?_
      refine r_istore (lv' := [(5, .int (0 : Int32)), (4, .int (0 : Int32)), (0, .ref (eA E 32)), (1, .int x1), (2, .int x2), (3, .int x3)]) dX4_packByList_30 (by decide) rfl ?_
      refine r_sub [2, 3, 4, 5, 1, 0] rfl ?_
      exact t
set_option maxRecDepth 20000 in
theorem sg_X4_packByList_32 (E : En) (d : Nat) (g : Ga) (x1 : Int32) (x2 : Int32) (x3 : Int32) (x4 : Int32) (x5 : Int32) (h : Hp) (P : Hp → Prop) (t : ((h.1 32 3) ≤ x5 → (vp_in x3 10 ∧ (VX4_packByList_13 E d g P x1 (x2 ||| x4) (x3 + (1 : Int32)) (sI (sI h 33 x3.toNatClampNeg x4) 32 1 (x3 + (1 : Int32)))))) ∧ (¬ (h.1 32 3) ≤ x5 → (SpI E d MX4_mayEnter [.ref (eA E 32), .int x5, .int x2, .int x4] h (fun v3 h3 => (v3 = 0 → (VX4_packByList_32 E d g P x1 x2 x3 x4 (x5 + (1 : Int32)) h3)) ∧ (¬ v3 = 0 → (vp_in x5 10 ∧ ((¬ ((h3.1 36 x5.toNatClampNeg) &&& ((x2 ||| x4) ^^^ (-1 : Int32))) = 0 → (VX4_packByList_32 E d g P x1 x2 x3 x4 (x5 + (1 : Int32)) h3)) ∧ (((h3.1 36 x5.toNatClampNeg) &&& ((x2 ||| x4) ^^^ (-1 : Int32))) = 0 → (VX4_packByList_32 E d g P x1 x2 x3 (x4 ||| ((1 : Int32) <<< (x5 &&& 31))) (x5 + (1 : Int32)) h3))))))))) : VX4_packByList_32 E d g P x1 x2 x3 x4 x5 h := by
  refine r_iload (q := 5) dX4_packByList_32 rfl ?_
  refine r_aload_n (q := 0) dX4_packByList_34 rfl rfl ?_
  refine r_getI (c := 32) dX4_packByList_35 flX4_22 lay_32 rfl ?_
  refine r_icmp_ge (tgt := 85) dX4_packByList_38 (by decide) (fun q1 => ?_) (fun q1 => ?_)
  · have t := t.1 q1
    refine r_aload_n (q := 0) dX4_packByList_85 rfl rfl ?_
    refine r_getR (c := 32) (c2 := 33) dX4_packByList_86 flX4_9 lay_32 rfl ?_
    refine r_iload_n (q := 3) dX4_packByList_89 rfl rfl ?_
    refine r_iload (q := 4) dX4_packByList_90 rfl ?_
    obtain ⟨c2, t⟩ := t
    refine r_iast (c := 33) dX4_packByList_92 lay_33 c2 ?_
    refine r_iload_n (q := 2) dX4_packByList_93 rfl rfl ?_
    refine r_iload (q := 4) dX4_packByList_94 rfl ?_
    refine r_ior dX4_packByList_96 ?_
    refine r_istore_n (lv' := [(2, .int (x2 ||| x4)), (0, .ref (eA E 32)), (1, .int x1), (3, .int x3), (4, .int x4), (5, .int x5)]) dX4_packByList_97 rfl (by decide) rfl ?_
    refine r_aload_n (q := 1) dX4_packByList_98 rfl rfl ?_
    refine r_iload_n (q := 3) dX4_packByList_99 rfl rfl ?_
    refine r_iconst (v := (1 : Int32)) dX4_packByList_100 rfl ?_
    refine r_iadd dX4_packByList_101 ?_
    refine r_putI (c := 32) dX4_packByList_102 flX4_15 lay_32 rfl ?_
    refine r_iinc (k := 3) (v := x3 + (1 : Int32)) (lv' := [(3, .int (x3 + (1 : Int32))), (2, .int (x2 ||| x4)), (0, .ref (eA E 32)), (1, .int x1), (4, .int x4), (5, .int x5)]) dX4_packByList_105 rfl rfl (by decide) rfl ?_
    refine r_goto (tgt := 13) dX4_packByList_108 (by decide) ?_
    refine r_sub [2, 3, 1, 0] rfl ?_
    exact t
  · have t := t.2 q1
    refine r_aload_n (q := 0) dX4_packByList_41 rfl rfl ?_
    refine r_iload (q := 5) dX4_packByList_42 rfl ?_
    refine r_iload_n (q := 2) dX4_packByList_44 rfl rfl ?_
    refine r_iload (q := 4) dX4_packByList_45 rfl ?_
    refine r_cVI (c := 32) (As := [.int x5, .int x2, .int x4]) dX4_packByList_47 mkX4_mayEnter lkX4_85 lay_32 rfl rfl rfl (by decide) rfl (Nat.le_of_ble_eq_true rfl) z00 t ?_
    intro v3 h3 t
    refine r_if_eq (tgt := 79) dX4_packByList_50 (by decide) (fun q4 => ?_) (fun q4 => ?_)
    · have t := t.1 q4
      refine r_iinc (k := 5) (v := x5 + (1 : Int32)) (lv' := [(5, .int (x5 + (1 : Int32))), (0, .ref (eA E 32)), (1, .int x1), (2, .int x2), (3, .int x3), (4, .int x4)]) dX4_packByList_79 rfl rfl (by decide) rfl ?_
      refine r_goto (tgt := 32) dX4_packByList_82 (by decide) ?_
      refine r_sub [1, 2, 3, 4, 5, 0] rfl ?_
      exact t
    · have t := t.2 q4
      refine r_aload_n (q := 0) dX4_packByList_53 rfl rfl ?_
      refine r_getR (c := 32) (c2 := 36) dX4_packByList_54 flX4_31 lay_32 rfl ?_
      refine r_iload (q := 5) dX4_packByList_57 rfl ?_
      obtain ⟨c5, t⟩ := t
      refine r_iald (c := 36) dX4_packByList_59 lay_36 c5 ?_
      refine r_iload_n (q := 2) dX4_packByList_60 rfl rfl ?_
      refine r_iload (q := 4) dX4_packByList_61 rfl ?_
      refine r_ior dX4_packByList_63 ?_
      refine r_iconst (v := (-1 : Int32)) dX4_packByList_64 rfl ?_
      refine r_ixor dX4_packByList_65 ?_
      refine r_iand dX4_packByList_66 ?_
      refine r_if_ne (tgt := 79) dX4_packByList_67 (by decide) (fun q6 => ?_) (fun q6 => ?_)
      · have t := t.1 q6
        refine r_iinc (k := 5) (v := x5 + (1 : Int32)) (lv' := [(5, .int (x5 + (1 : Int32))), (0, .ref (eA E 32)), (1, .int x1), (2, .int x2), (3, .int x3), (4, .int x4)]) dX4_packByList_79 rfl rfl (by decide) rfl ?_
        refine r_goto (tgt := 32) dX4_packByList_82 (by decide) ?_
        refine r_sub [1, 2, 3, 4, 5, 0] rfl ?_
        exact t
      · have t := t.2 q6
        refine r_iload (q := 4) dX4_packByList_70 rfl ?_
        refine r_iconst (v := (1 : Int32)) dX4_packByList_72 rfl ?_
        refine r_iload (q := 5) dX4_packByList_73 rfl ?_
        refine r_ishl dX4_packByList_75 ?_
        refine r_ior dX4_packByList_76 ?_
        refine r_istore (lv' := [(4, .int (x4 ||| ((1 : Int32) <<< (x5 &&& 31)))), (0, .ref (eA E 32)), (1, .int x1), (2, .int x2), (3, .int x3), (5, .int x5)]) dX4_packByList_77 (by decide) rfl ?_
        refine r_iinc (k := 5) (v := x5 + (1 : Int32)) (lv' := [(5, .int (x5 + (1 : Int32))), (4, .int (x4 ||| ((1 : Int32) <<< (x5 &&& 31)))), (0, .ref (eA E 32)), (1, .int x1), (2, .int x2), (3, .int x3)]) dX4_packByList_79 rfl rfl (by decide) rfl ?_
        refine r_goto (tgt := 32) dX4_packByList_82 (by decide) ?_
        refine r_sub [2, 3, 4, 5, 1, 0] rfl ?_
        exact t
theorem dX4_mayEnter_0 : decode cX4_mayEnter 0 = .ok (.iload_n 2, 1) := by decide +kernel
theorem dX4_mayEnter_1 : decode cX4_mayEnter 1 = .ok (.iload_n 3, 1) := by decide +kernel
theorem dX4_mayEnter_2 : decode cX4_mayEnter 2 = .ok (.ior, 1) := by decide +kernel
theorem dX4_mayEnter_3 : decode cX4_mayEnter 3 = .ok (.iconst 1, 1) := by decide +kernel
theorem dX4_mayEnter_4 : decode cX4_mayEnter 4 = .ok (.iload_n 1, 1) := by decide +kernel
theorem dX4_mayEnter_5 : decode cX4_mayEnter 5 = .ok (.ishl, 1) := by decide +kernel
theorem dX4_mayEnter_6 : decode cX4_mayEnter 6 = .ok (.iand, 1) := by decide +kernel
theorem dX4_mayEnter_7 : decode cX4_mayEnter 7 = .ok (.ifCond .ne 36, 3) := by decide +kernel
theorem dX4_mayEnter_10 : decode cX4_mayEnter 10 = .ok (.aload_n 0, 1) := by decide +kernel
theorem dX4_mayEnter_11 : decode cX4_mayEnter 11 = .ok (.getfield 28, 3) := by decide +kernel
theorem dX4_mayEnter_14 : decode cX4_mayEnter 14 = .ok (.iload_n 1, 1) := by decide +kernel
theorem dX4_mayEnter_15 : decode cX4_mayEnter 15 = .ok (.iaload, 1) := by decide +kernel
theorem dX4_mayEnter_16 : decode cX4_mayEnter 16 = .ok (.iload_n 2, 1) := by decide +kernel
theorem dX4_mayEnter_17 : decode cX4_mayEnter 17 = .ok (.iconst (-1), 1) := by decide +kernel
theorem dX4_mayEnter_18 : decode cX4_mayEnter 18 = .ok (.ixor, 1) := by decide +kernel
theorem dX4_mayEnter_19 : decode cX4_mayEnter 19 = .ok (.iand, 1) := by decide +kernel
theorem dX4_mayEnter_20 : decode cX4_mayEnter 20 = .ok (.ifCond .ne 23, 3) := by decide +kernel
theorem dX4_mayEnter_23 : decode cX4_mayEnter 23 = .ok (.aload_n 0, 1) := by decide +kernel
theorem dX4_mayEnter_24 : decode cX4_mayEnter 24 = .ok (.getfield 37, 3) := by decide +kernel
theorem dX4_mayEnter_27 : decode cX4_mayEnter 27 = .ok (.aload_n 0, 1) := by decide +kernel
theorem dX4_mayEnter_28 : decode cX4_mayEnter 28 = .ok (.getfield 25, 3) := by decide +kernel
theorem dX4_mayEnter_31 : decode cX4_mayEnter 31 = .ok (.iload_n 1, 1) := by decide +kernel
theorem dX4_mayEnter_32 : decode cX4_mayEnter 32 = .ok (.iaload, 1) := by decide +kernel
theorem dX4_mayEnter_33 : decode cX4_mayEnter 33 = .ok (.iaload, 1) := by decide +kernel
theorem dX4_mayEnter_34 : decode cX4_mayEnter 34 = .ok (.iload_n 3, 1) := by decide +kernel
theorem dX4_mayEnter_35 : decode cX4_mayEnter 35 = .ok (.iand, 1) := by decide +kernel
theorem dX4_mayEnter_36 : decode cX4_mayEnter 36 = .ok (.ifCond .ne 7, 3) := by decide +kernel
theorem dX4_mayEnter_39 : decode cX4_mayEnter 39 = .ok (.iconst 1, 1) := by decide +kernel
theorem dX4_mayEnter_40 : decode cX4_mayEnter 40 = .ok (.goto 4, 3) := by decide +kernel
theorem dX4_mayEnter_43 : decode cX4_mayEnter 43 = .ok (.iconst 0, 1) := by decide +kernel
theorem dX4_mayEnter_44 : decode cX4_mayEnter 44 = .ok (.ireturn, 1) := by decide +kernel
set_option maxRecDepth 20000 in
theorem wp_X4_mayEnter (E : En) (d : Nat) (a1 : Int32) (a2 : Int32) (a3 : Int32) (h : Hp) (P : Int32 → Hp → Prop) (t : (¬ ((a2 ||| a3) &&& ((1 : Int32) <<< (a1 &&& 31))) = 0 → (P (0 : Int32) h)) ∧ (((a2 ||| a3) &&& ((1 : Int32) <<< (a1 &&& 31))) = 0 → (vp_in a1 10 ∧ ((¬ ((h.1 35 a1.toNatClampNeg) &&& (a2 ^^^ (-1 : Int32))) = 0 → (P (0 : Int32) h)) ∧ (((h.1 35 a1.toNatClampNeg) &&& (a2 ^^^ (-1 : Int32))) = 0 → (vp_in a1 10 ∧ (vp_in (h.1 34 a1.toNatClampNeg) 6 ∧ ((¬ ((h.1 38 ((h.1 34 a1.toNatClampNeg).toNatClampNeg)) &&& a3) = 0 → (P (0 : Int32) h)) ∧ (((h.1 38 ((h.1 34 a1.toNatClampNeg).toNatClampNeg)) &&& a3) = 0 → (P (1 : Int32) h)))))))))) : SpI E d MX4_mayEnter [.ref (eA E 32), .int a1, .int a2, .int a3] h P := by
  refine SpI.of (lv0 := [(0, .ref (eA E 32)), (1, .int a1), (2, .int a2), (3, .int a3)]) (by decide) (Nat.le_of_ble_eq_true rfl) rfl (fun g => ?_)
  refine r_iload_n (q := 2) dX4_mayEnter_0 rfl rfl ?_
  refine r_iload_n (q := 3) dX4_mayEnter_1 rfl rfl ?_
  refine r_ior dX4_mayEnter_2 ?_
  refine r_iconst (v := (1 : Int32)) dX4_mayEnter_3 rfl ?_
  refine r_iload_n (q := 1) dX4_mayEnter_4 rfl rfl ?_
  refine r_ishl dX4_mayEnter_5 ?_
  refine r_iand dX4_mayEnter_6 ?_
  refine r_if_ne (tgt := 43) dX4_mayEnter_7 (by decide) (fun q1 => ?_) (fun q1 => ?_)
  · have t := t.1 q1
    refine r_iconst (v := (0 : Int32)) dX4_mayEnter_43 rfl ?_
    exact r_zret dX4_mayEnter_44 rfl (Or.inl rfl) t
  · have t := t.2 q1
    refine r_aload_n (q := 0) dX4_mayEnter_10 rfl rfl ?_
    refine r_getR (c := 32) (c2 := 35) dX4_mayEnter_11 flX4_28 lay_32 rfl ?_
    refine r_iload_n (q := 1) dX4_mayEnter_14 rfl rfl ?_
    obtain ⟨c2, t⟩ := t
    refine r_iald (c := 35) dX4_mayEnter_15 lay_35 c2 ?_
    refine r_iload_n (q := 2) dX4_mayEnter_16 rfl rfl ?_
    refine r_iconst (v := (-1 : Int32)) dX4_mayEnter_17 rfl ?_
    refine r_ixor dX4_mayEnter_18 ?_
    refine r_iand dX4_mayEnter_19 ?_
    refine r_if_ne (tgt := 43) dX4_mayEnter_20 (by decide) (fun q3 => ?_) (fun q3 => ?_)
    · have t := t.1 q3
      refine r_iconst (v := (0 : Int32)) dX4_mayEnter_43 rfl ?_
      exact r_zret dX4_mayEnter_44 rfl (Or.inl rfl) t
    · have t := t.2 q3
      refine r_aload_n (q := 0) dX4_mayEnter_23 rfl rfl ?_
      refine r_getR (c := 32) (c2 := 38) dX4_mayEnter_24 flX4_37 lay_32 rfl ?_
      refine r_aload_n (q := 0) dX4_mayEnter_27 rfl rfl ?_
      refine r_getR (c := 32) (c2 := 34) dX4_mayEnter_28 flX4_25 lay_32 rfl ?_
      refine r_iload_n (q := 1) dX4_mayEnter_31 rfl rfl ?_
      obtain ⟨c4, t⟩ := t
      refine r_iald (c := 34) dX4_mayEnter_32 lay_34 c4 ?_
      obtain ⟨c5, t⟩ := t
      refine r_iald (c := 38) dX4_mayEnter_33 lay_38 c5 ?_
      refine r_iload_n (q := 3) dX4_mayEnter_34 rfl rfl ?_
      refine r_iand dX4_mayEnter_35 ?_
      refine r_if_ne (tgt := 43) dX4_mayEnter_36 (by decide) (fun q6 => ?_) (fun q6 => ?_)
      · have t := t.1 q6
        refine r_iconst (v := (0 : Int32)) dX4_mayEnter_43 rfl ?_
        exact r_zret dX4_mayEnter_44 rfl (Or.inl rfl) t
      · have t := t.2 q6
        refine r_iconst (v := (1 : Int32)) dX4_mayEnter_39 rfl ?_
        refine r_goto (tgt := 44) dX4_mayEnter_40 (by decide) ?_
        exact r_zret dX4_mayEnter_44 rfl (Or.inr rfl) t
theorem dX4_packFewest_0 : decode cX4_packFewest 0 = .ok (.aload_n 0, 1) := by decide +kernel
theorem dX4_packFewest_1 : decode cX4_packFewest 1 = .ok (.dup, 1) := by decide +kernel
theorem dX4_packFewest_2 : decode cX4_packFewest 2 = .ok (.getfield 43, 3) := by decide +kernel
theorem dX4_packFewest_5 : decode cX4_packFewest 5 = .ok (.iconst 1, 1) := by decide +kernel
theorem dX4_packFewest_6 : decode cX4_packFewest 6 = .ok (.iadd, 1) := by decide +kernel
theorem dX4_packFewest_7 : decode cX4_packFewest 7 = .ok (.putfield 43, 3) := by decide +kernel
theorem dX4_packFewest_10 : decode cX4_packFewest 10 = .ok (.iconst 1, 1) := by decide +kernel
theorem dX4_packFewest_11 : decode cX4_packFewest 11 = .ok (.istore_n 1, 1) := by decide +kernel
theorem dX4_packFewest_12 : decode cX4_packFewest 12 = .ok (.iload_n 1, 1) := by decide +kernel
theorem dX4_packFewest_13 : decode cX4_packFewest 13 = .ok (.aload_n 0, 1) := by decide +kernel
theorem dX4_packFewest_14 : decode cX4_packFewest 14 = .ok (.getfield 22, 3) := by decide +kernel
theorem dX4_packFewest_17 : decode cX4_packFewest 17 = .ok (.if_icmp .gt 35, 3) := by decide +kernel
theorem dX4_packFewest_20 : decode cX4_packFewest 20 = .ok (.aload_n 0, 1) := by decide +kernel
theorem dX4_packFewest_21 : decode cX4_packFewest 21 = .ok (.getfield 15, 3) := by decide +kernel
theorem dX4_packFewest_24 : decode cX4_packFewest 24 = .ok (.ifCond .ne 28, 3) := by decide +kernel
theorem dX4_packFewest_27 : decode cX4_packFewest 27 = .ok (.aload_n 0, 1) := by decide +kernel
theorem dX4_packFewest_28 : decode cX4_packFewest 28 = .ok (.iload_n 1, 1) := by decide +kernel
theorem dX4_packFewest_29 : decode cX4_packFewest 29 = .ok (.putfield 46, 3) := by decide +kernel
theorem dX4_packFewest_32 : decode cX4_packFewest 32 = .ok (.aload_n 0, 1) := by decide +kernel
theorem dX4_packFewest_33 : decode cX4_packFewest 33 = .ok (.iconst 0, 1) := by decide +kernel
theorem dX4_packFewest_34 : decode cX4_packFewest 34 = .ok (.iconst 0, 1) := by decide +kernel
theorem dX4_packFewest_35 : decode cX4_packFewest 35 = .ok (.invokevirtual 89, 3) := by decide +kernel
theorem dX4_packFewest_38 : decode cX4_packFewest 38 = .ok (.ifCond .eq 8, 3) := by decide +kernel
theorem dX4_packFewest_41 : decode cX4_packFewest 41 = .ok (.aload_n 0, 1) := by decide +kernel
theorem dX4_packFewest_42 : decode cX4_packFewest 42 = .ok (.iload_n 1, 1) := by decide +kernel
theorem dX4_packFewest_43 : decode cX4_packFewest 43 = .ok (.putfield 15, 3) := by decide +kernel
theorem dX4_packFewest_46 : decode cX4_packFewest 46 = .ok (.iinc 1 1, 3) := by decide +kernel
theorem dX4_packFewest_49 : decode cX4_packFewest 49 = .ok (.goto (-37), 3) := by decide +kernel
theorem dX4_packFewest_52 : decode cX4_packFewest 52 = .ok (.return_, 1) := by decide +kernel
abbrev VX4_packFewest_12 (E : En) (d : Nat) (g : Ga) (P : Hp → Prop) (x1 : Int32) (h : Hp) : Prop := V E MX4_packFewest (RM (d + 1) 0) g (QQ E g (QV E P) 0 0) 0 0 h 12 [(0, .ref (eA E 32)), (1, .int x1)] []
set_option maxRecDepth 20000 in
theorem wp_X4_packFewest (E : En) (d : Nat) (h : Hp) (P : Hp → Prop) (t : ∀ g : Ga, VX4_packFewest_12 E d g P (1 : Int32) (sI h 32 10 ((h.1 32 10) + (1 : Int32)))) : SpV E (d + 1) MX4_packFewest [.ref (eA E 32)] h P := by
  refine SpV.of (lv0 := [(0, .ref (eA E 32))]) (by decide) (Nat.le_of_ble_eq_true rfl) rfl (fun g => ?_)
  have t := t g
  refine r_aload_n (q := 0) dX4_packFewest_0 rfl rfl ?_
  refine r_dup dX4_packFewest_1 rfl ?_
  refine r_getI (c := 32) dX4_packFewest_2 flX4_43 lay_32 rfl ?_
  refine r_iconst (v := (1 : Int32)) dX4_packFewest_5 rfl ?_
  refine r_iadd dX4_packFewest_6 ?_
  refine r_putI (c := 32) dX4_packFewest_7 flX4_43 lay_32 rfl ?_
  refine r_iconst (v := (1 : Int32)) dX4_packFewest_10 rfl ?_
  refine r_istore_n (lv' := [(1, .int (1 : Int32)), (0, .ref (eA E 32))]) dX4_packFewest_11 rfl (by decide) rfl ?_
  refine r_sub [1, 0] rfl ?_
  exact t
set_option maxRecDepth 20000 in
theorem sg_X4_packFewest_12 (E : En) (d : Nat) (g : Ga) (x1 : Int32) (h : Hp) (P : Hp → Prop) (t : ((h.1 32 3) < x1 → (P h)) ∧ (¬ (h.1 32 3) < x1 → ((¬ (h.1 32 1) = 0 → (P h)) ∧ ((h.1 32 1) = 0 → (SpI E d MX4_fits [.ref (eA E 32), .int (0 : Int32), .int (0 : Int32)] (sI h 32 11 x1) (fun v3 h3 => (v3 = 0 → (VX4_packFewest_12 E d g P (x1 + (1 : Int32)) h3)) ∧ (¬ v3 = 0 → (VX4_packFewest_12 E d g P (x1 + (1 : Int32)) (sI h3 32 1 x1))))))))) : VX4_packFewest_12 E d g P x1 h := by
  refine r_iload_n (q := 1) dX4_packFewest_12 rfl rfl ?_
  refine r_aload_n (q := 0) dX4_packFewest_13 rfl rfl ?_
  refine r_getI (c := 32) dX4_packFewest_14 flX4_22 lay_32 rfl ?_
  refine r_icmp_gt (tgt := 52) dX4_packFewest_17 (by decide) (fun q1 => ?_) (fun q1 => ?_)
  · have t := t.1 q1
    exact r_vret dX4_packFewest_52 rfl t
  · have t := t.2 q1
    refine r_aload_n (q := 0) dX4_packFewest_20 rfl rfl ?_
    refine r_getI (c := 32) dX4_packFewest_21 flX4_15 lay_32 rfl ?_
    refine r_if_ne (tgt := 52) dX4_packFewest_24 (by decide) (fun q2 => ?_) (fun q2 => ?_)
    · have t := t.1 q2
      exact r_vret dX4_packFewest_52 rfl t
    · have t := t.2 q2
      refine r_aload_n (q := 0) dX4_packFewest_27 rfl rfl ?_
      refine r_iload_n (q := 1) dX4_packFewest_28 rfl rfl ?_
      refine r_putI (c := 32) dX4_packFewest_29 flX4_46 lay_32 rfl ?_
      refine r_aload_n (q := 0) dX4_packFewest_32 rfl rfl ?_
      refine r_iconst (v := (0 : Int32)) dX4_packFewest_33 rfl ?_
      refine r_iconst (v := (0 : Int32)) dX4_packFewest_34 rfl ?_
      refine r_cVI (c := 32) (As := [.int (0 : Int32), .int (0 : Int32)]) dX4_packFewest_35 mkX4_fits lkX4_89 lay_32 rfl rfl rfl (by decide) rfl (Nat.le_of_ble_eq_true rfl) z00 t ?_
      intro v3 h3 t
      refine r_if_eq (tgt := 46) dX4_packFewest_38 (by decide) (fun q4 => ?_) (fun q4 => ?_)
      · have t := t.1 q4
        refine r_iinc (k := 1) (v := x1 + (1 : Int32)) (lv' := [(1, .int (x1 + (1 : Int32))), (0, .ref (eA E 32))]) dX4_packFewest_46 rfl rfl (by decide) rfl ?_
        refine r_goto (tgt := 12) dX4_packFewest_49 (by decide) ?_
        refine r_sub [1, 0] rfl ?_
        exact t
      · have t := t.2 q4
        refine r_aload_n (q := 0) dX4_packFewest_41 rfl rfl ?_
        refine r_iload_n (q := 1) dX4_packFewest_42 rfl rfl ?_
        refine r_putI (c := 32) dX4_packFewest_43 flX4_15 lay_32 rfl ?_
        refine r_iinc (k := 1) (v := x1 + (1 : Int32)) (lv' := [(1, .int (x1 + (1 : Int32))), (0, .ref (eA E 32))]) dX4_packFewest_46 rfl rfl (by decide) rfl ?_
        refine r_goto (tgt := 12) dX4_packFewest_49 (by decide) ?_
        refine r_sub [1, 0] rfl ?_
        exact t
theorem dX4_fits_0 : decode cX4_fits 0 = .ok (.iload_n 1, 1) := by decide +kernel
theorem dX4_fits_1 : decode cX4_fits 1 = .ok (.iconst 1, 1) := by decide +kernel
theorem dX4_fits_2 : decode cX4_fits 2 = .ok (.aload_n 0, 1) := by decide +kernel
theorem dX4_fits_3 : decode cX4_fits 3 = .ok (.getfield 22, 3) := by decide +kernel
theorem dX4_fits_6 : decode cX4_fits 6 = .ok (.ishl, 1) := by decide +kernel
theorem dX4_fits_7 : decode cX4_fits 7 = .ok (.iconst 1, 1) := by decide +kernel
theorem dX4_fits_8 : decode cX4_fits 8 = .ok (.isub, 1) := by decide +kernel
theorem dX4_fits_9 : decode cX4_fits 9 = .ok (.if_icmp .ne 5, 3) := by decide +kernel
theorem dX4_fits_12 : decode cX4_fits 12 = .ok (.iconst 1, 1) := by decide +kernel
theorem dX4_fits_13 : decode cX4_fits 13 = .ok (.ireturn, 1) := by decide +kernel
theorem dX4_fits_14 : decode cX4_fits 14 = .ok (.aload_n 0, 1) := by decide +kernel
theorem dX4_fits_15 : decode cX4_fits 15 = .ok (.getfield 46, 3) := by decide +kernel
theorem dX4_fits_18 : decode cX4_fits 18 = .ok (.iload_n 2, 1) := by decide +kernel
theorem dX4_fits_19 : decode cX4_fits 19 = .ok (.isub, 1) := by decide +kernel
theorem dX4_fits_20 : decode cX4_fits 20 = .ok (.istore_n 3, 1) := by decide +kernel
theorem dX4_fits_21 : decode cX4_fits 21 = .ok (.iload_n 3, 1) := by decide +kernel
theorem dX4_fits_22 : decode cX4_fits 22 = .ok (.ifCond .le 12, 3) := by decide +kernel
theorem dX4_fits_25 : decode cX4_fits 25 = .ok (.iload_n 3, 1) := by decide +kernel
theorem dX4_fits_26 : decode cX4_fits 26 = .ok (.aload_n 0, 1) := by decide +kernel
theorem dX4_fits_27 : decode cX4_fits 27 = .ok (.iload_n 1, 1) := by decide +kernel
theorem dX4_fits_28 : decode cX4_fits 28 = .ok (.invokevirtual 93, 3) := by decide +kernel
theorem dX4_fits_31 : decode cX4_fits 31 = .ok (.if_icmp .ge 5, 3) := by decide +kernel
theorem dX4_fits_34 : decode cX4_fits 34 = .ok (.iconst 0, 1) := by decide +kernel
theorem dX4_fits_35 : decode cX4_fits 35 = .ok (.ireturn, 1) := by decide +kernel
theorem dX4_fits_36 : decode cX4_fits 36 = .ok (.aload_n 0, 1) := by decide +kernel
theorem dX4_fits_37 : decode cX4_fits 37 = .ok (.getfield 40, 3) := by decide +kernel
theorem dX4_fits_40 : decode cX4_fits 40 = .ok (.iload_n 1, 1) := by decide +kernel
theorem dX4_fits_41 : decode cX4_fits 41 = .ok (.iaload, 1) := by decide +kernel
theorem dX4_fits_42 : decode cX4_fits 42 = .ok (.istore 4, 2) := by decide +kernel
theorem dX4_fits_44 : decode cX4_fits 44 = .ok (.iload 4, 2) := by decide +kernel
theorem dX4_fits_46 : decode cX4_fits 46 = .ok (.iconst 4, 1) := by decide +kernel
theorem dX4_fits_47 : decode cX4_fits 47 = .ok (.ishr, 1) := by decide +kernel
theorem dX4_fits_48 : decode cX4_fits 48 = .ok (.aload_n 0, 1) := by decide +kernel
theorem dX4_fits_49 : decode cX4_fits 49 = .ok (.getfield 43, 3) := by decide +kernel
theorem dX4_fits_52 : decode cX4_fits 52 = .ok (.if_icmp .ne 14, 3) := by decide +kernel
theorem dX4_fits_55 : decode cX4_fits 55 = .ok (.iload_n 3, 1) := by decide +kernel
theorem dX4_fits_56 : decode cX4_fits 56 = .ok (.iload 4, 2) := by decide +kernel
theorem dX4_fits_58 : decode cX4_fits 58 = .ok (.bipush 15, 2) := by decide +kernel
theorem dX4_fits_60 : decode cX4_fits 60 = .ok (.iand, 1) := by decide +kernel
theorem dX4_fits_61 : decode cX4_fits 61 = .ok (.if_icmp .gt 5, 3) := by decide +kernel
theorem dX4_fits_64 : decode cX4_fits 64 = .ok (.iconst 0, 1) := by decide +kernel
theorem dX4_fits_65 : decode cX4_fits 65 = .ok (.ireturn, 1) := by decide +kernel
theorem dX4_fits_66 : decode cX4_fits 66 = .ok (.aload_n 0, 1) := by decide +kernel
theorem dX4_fits_67 : decode cX4_fits 67 = .ok (.iload_n 1, 1) := by decide +kernel
theorem dX4_fits_68 : decode cX4_fits 68 = .ok (.iload_n 2, 1) := by decide +kernel
theorem dX4_fits_69 : decode cX4_fits 69 = .ok (.iconst 0, 1) := by decide +kernel
theorem dX4_fits_70 : decode cX4_fits 70 = .ok (.aload_n 0, 1) := by decide +kernel
theorem dX4_fits_71 : decode cX4_fits 71 = .ok (.iload_n 1, 1) := by decide +kernel
theorem dX4_fits_72 : decode cX4_fits 72 = .ok (.iload_n 3, 1) := by decide +kernel
theorem dX4_fits_73 : decode cX4_fits 73 = .ok (.invokevirtual 97, 3) := by decide +kernel
theorem dX4_fits_76 : decode cX4_fits 76 = .ok (.aload_n 0, 1) := by decide +kernel
theorem dX4_fits_77 : decode cX4_fits 77 = .ok (.getfield 22, 3) := by decide +kernel
theorem dX4_fits_80 : decode cX4_fits 80 = .ok (.invokevirtual 100, 3) := by decide +kernel
theorem dX4_fits_83 : decode cX4_fits 83 = .ok (.ifCond .eq 5, 3) := by decide +kernel
theorem dX4_fits_86 : decode cX4_fits 86 = .ok (.iconst 1, 1) := by decide +kernel
theorem dX4_fits_87 : decode cX4_fits 87 = .ok (.ireturn, 1) := by decide +kernel
theorem dX4_fits_88 : decode cX4_fits 88 = .ok (.aload_n 0, 1) := by decide +kernel
theorem dX4_fits_89 : decode cX4_fits 89 = .ok (.getfield 40, 3) := by decide +kernel
theorem dX4_fits_92 : decode cX4_fits 92 = .ok (.iload_n 1, 1) := by decide +kernel
theorem dX4_fits_93 : decode cX4_fits 93 = .ok (.aload_n 0, 1) := by decide +kernel
theorem dX4_fits_94 : decode cX4_fits 94 = .ok (.getfield 43, 3) := by decide +kernel
theorem dX4_fits_97 : decode cX4_fits 97 = .ok (.iconst 4, 1) := by decide +kernel
theorem dX4_fits_98 : decode cX4_fits 98 = .ok (.ishl, 1) := by decide +kernel
theorem dX4_fits_99 : decode cX4_fits 99 = .ok (.iload_n 3, 1) := by decide +kernel
theorem dX4_fits_100 : decode cX4_fits 100 = .ok (.ior, 1) := by decide +kernel
theorem dX4_fits_101 : decode cX4_fits 101 = .ok (.iastore, 1) := by decide +kernel
theorem dX4_fits_102 : decode cX4_fits 102 = .ok (.iconst 0, 1) := by decide +kernel
theorem dX4_fits_103 : decode cX4_fits 103 = .ok (.ireturn, 1) := by decide +kernel
set_option maxRecDepth 20000 in
theorem wp_X4_fits (E : En) (d : Nat) (a1 : Int32) (a2 : Int32) (h : Hp) (P : Int32 → Hp → Prop) (t : (¬ a1 = (((1 : Int32) <<< ((h.1 32 3) &&& 31)) - (1 : Int32)) → ((((h.1 32 11) - a2) ≤ 0 → (P (0 : Int32) h)) ∧ (¬ ((h.1 32 11) - a2) ≤ 0 → (SpI E d MX4_wordsNeeded [.ref (eA E 32), .int a1] h (fun v3 h3 => (v3 ≤ ((h.1 32 11) - a2) → (vp_in a1 1024 ∧ ((¬ ((h3.1 39 a1.toNatClampNeg) >>> ((4 : Int32) &&& 31)) = (h3.1 32 10) → (SpI E d MX4_urgent [.ref (eA E 32), .int a1, .int ((h.1 32 11) - a2)] h3 (fun v7 h7 => SpI E d MX4_extend [.ref (eA E 32), .int a1, .int a2, .int (0 : Int32), .int v7, .int (h7.1 32 3)] h7 (fun v8 h8 => (v8 = 0 → (vp_in a1 1024 ∧ (P (0 : Int32) (sI h8 39 a1.toNatClampNeg (((h8.1 32 10) <<< ((4 : Int32) &&& 31)) ||| ((h.1 32 11) - a2)))))) ∧ (¬ v8 = 0 → (P (1 : Int32) h8)))))) ∧ (((h3.1 39 a1.toNatClampNeg) >>> ((4 : Int32) &&& 31)) = (h3.1 32 10) → ((((h3.1 39 a1.toNatClampNeg) &&& (15 : Int32)) < ((h.1 32 11) - a2) → (SpI E d MX4_urgent [.ref (eA E 32), .int a1, .int ((h.1 32 11) - a2)] h3 (fun v12 h12 => SpI E d MX4_extend [.ref (eA E 32), .int a1, .int a2, .int (0 : Int32), .int v12, .int (h12.1 32 3)] h12 (fun v13 h13 => (v13 = 0 → (vp_in a1 1024 ∧ (P (0 : Int32) (sI h13 39 a1.toNatClampNeg (((h13.1 32 10) <<< ((4 : Int32) &&& 31)) ||| ((h.1 32 11) - a2)))))) ∧ (¬ v13 = 0 → (P (1 : Int32) h13)))))) ∧ (¬ ((h3.1 39 a1.toNatClampNeg) &&& (15 : Int32)) < ((h.1 32 11) - a2) → (P (0 : Int32) h3))))))) ∧ (¬ v3 ≤ ((h.1 32 11) - a2) → (P (0 : Int32) h3))))))) ∧ (a1 = (((1 : Int32) <<< ((h.1 32 3) &&& 31)) - (1 : Int32)) → (P (1 : Int32) h))) : SpI E (d + 1) MX4_fits [.ref (eA E 32), .int a1, .int a2] h P := by
  refine SpI.of (lv0 := [(0, .ref (eA E 32)), (1, .int a1), (2, .int a2)]) (by decide) (Nat.le_of_ble_eq_true rfl) rfl (fun g => ?_)
  refine r_iload_n (q := 1) dX4_fits_0 rfl rfl ?_
  refine r_iconst (v := (1 : Int32)) dX4_fits_1 rfl ?_
  refine r_aload_n (q := 0) dX4_fits_2 rfl rfl ?_
  refine r_getI (c := 32) dX4_fits_3 flX4_22 lay_32 rfl ?_
  refine r_ishl dX4_fits_6 ?_
  refine r_iconst (v := (1 : Int32)) dX4_fits_7 rfl ?_
  refine r_isub dX4_fits_8 ?_
  refine r_icmp_ne (tgt := 14) dX4_fits_9 (by decide) (fun q1 => ?_) (fun q1 => ?_)
  · have t := t.1 q1
    refine r_aload_n (q := 0) dX4_fits_14 rfl rfl ?_
    refine r_getI (c := 32) dX4_fits_15 flX4_46 lay_32 rfl ?_
    refine r_iload_n (q := 2) dX4_fits_18 rfl rfl ?_
    refine r_isub dX4_fits_19 ?_
    refine r_istore_n (lv' := [(3, .int ((h.1 32 11) - a2)), (0, .ref (eA E 32)), (1, .int a1), (2, .int a2)]) dX4_fits_20 rfl (by decide) rfl ?_
    refine r_iload_n (q := 0) dX4_fits_21 rfl rfl ?_
    refine r_if_le (tgt := 34) dX4_fits_22 (by decide) (fun q2 => ?_) (fun q2 => ?_)
    · have t := t.1 q2
      refine r_iconst (v := (0 : Int32)) dX4_fits_34 rfl ?_
      exact r_zret dX4_fits_35 rfl (Or.inl rfl) t
    · have t := t.2 q2
      refine r_iload_n (q := 0) dX4_fits_25 rfl rfl ?_
      refine r_aload_n (q := 1) dX4_fits_26 rfl rfl ?_
      refine r_iload_n (q := 2) dX4_fits_27 rfl rfl ?_
      refine r_cVI (c := 32) (As := [.int a1]) dX4_fits_28 mkX4_wordsNeeded lkX4_93 lay_32 rfl rfl rfl (by decide) rfl (Nat.le_of_ble_eq_true rfl) z00 t ?_
      intro v3 h3 t
      refine r_icmp_ge (tgt := 36) dX4_fits_31 (by decide) (fun q4 => ?_) (fun q4 => ?_)
      · have t := t.1 q4
        refine r_aload_n (q := 1) dX4_fits_36 rfl rfl ?_
        refine r_getR (c := 32) (c2 := 39) dX4_fits_37 flX4_40 lay_32 rfl ?_
        refine r_iload_n (q := 2) dX4_fits_40 rfl rfl ?_
        obtain ⟨c5, t⟩ := t
        refine r_iald (c := 39) dX4_fits_41 lay_39 c5 ?_
        refine r_istore (lv' := [(4, .int (h3.1 39 a1.toNatClampNeg)), (3, .int ((h.1 32 11) - a2)), (0, .ref (eA E 32)), (1, .int a1), (2, .int a2)]) dX4_fits_42 (by decide) rfl ?_
        refine r_iload (q := 0) dX4_fits_44 rfl ?_
        refine r_iconst (v := (4 : Int32)) dX4_fits_46 rfl ?_
        refine r_ishr dX4_fits_47 ?_
        refine r_aload_n (q := 2) dX4_fits_48 rfl rfl ?_
        refine r_getI (c := 32) dX4_fits_49 flX4_43 lay_32 rfl ?_
        refine r_icmp_ne (tgt := 66) dX4_fits_52 (by decide) (fun q6 => ?_) (fun q6 => ?_)
        · have t := t.1 q6
          refine r_aload_n (q := 2) dX4_fits_66 rfl rfl ?_
          refine r_iload_n (q := 3) dX4_fits_67 rfl rfl ?_
          refine r_iload_n (q := 4) dX4_fits_68 rfl rfl ?_
          refine r_iconst (v := (0 : Int32)) dX4_fits_69 rfl ?_
          refine r_aload_n (q := 2) dX4_fits_70 rfl rfl ?_
          refine r_iload_n (q := 3) dX4_fits_71 rfl rfl ?_
          refine r_iload_n (q := 1) dX4_fits_72 rfl rfl ?_
          refine r_cVI (c := 32) (As := [.int a1, .int ((h.1 32 11) - a2)]) dX4_fits_73 mkX4_urgent lkX4_97 lay_32 rfl rfl rfl (by decide) rfl (Nat.le_of_ble_eq_true rfl) z00 t ?_
          intro v7 h7 t
          refine r_aload_n (q := 2) dX4_fits_76 rfl rfl ?_
          refine r_getI (c := 32) dX4_fits_77 flX4_22 lay_32 rfl ?_
          refine r_cVI (c := 32) (As := [.int a1, .int a2, .int (0 : Int32), .int v7, .int (h7.1 32 3)]) dX4_fits_80 mkX4_extend lkX4_100 lay_32 rfl rfl rfl (by decide) rfl (Nat.le_of_ble_eq_true rfl) z00 t ?_
          intro v8 h8 t
          refine r_if_eq (tgt := 88) dX4_fits_83 (by decide) (fun q9 => ?_) (fun q9 => ?_)
          · have t := t.1 q9
            refine r_aload_n (q := 2) dX4_fits_88 rfl rfl ?_
            refine r_getR (c := 32) (c2 := 39) dX4_fits_89 flX4_40 lay_32 rfl ?_
            refine r_iload_n (q := 3) dX4_fits_92 rfl rfl ?_
            refine r_aload_n (q := 2) dX4_fits_93 rfl rfl ?_
            refine r_getI (c := 32) dX4_fits_94 flX4_43 lay_32 rfl ?_
            refine r_iconst (v := (4 : Int32)) dX4_fits_97 rfl ?_
            refine r_ishl dX4_fits_98 ?_
            refine r_iload_n (q := 1) dX4_fits_99 rfl rfl ?_
            refine r_ior dX4_fits_100 ?_
            obtain ⟨c10, t⟩ := t
            refine r_iast (c := 39) dX4_fits_101 lay_39 c10 ?_
            refine r_iconst (v := (0 : Int32)) dX4_fits_102 rfl ?_
            exact r_zret dX4_fits_103 rfl (Or.inl rfl) t
          · have t := t.2 q9
            refine r_iconst (v := (1 : Int32)) dX4_fits_86 rfl ?_
            exact r_zret dX4_fits_87 rfl (Or.inr rfl) t
        · have t := t.2 q6
          refine r_iload_n (q := 1) dX4_fits_55 rfl rfl ?_
          refine r_iload (q := 0) dX4_fits_56 rfl ?_
          refine r_bipush (v := (15 : Int32)) dX4_fits_58 rfl ?_
          refine r_iand dX4_fits_60 ?_
          refine r_icmp_gt (tgt := 66) dX4_fits_61 (by decide) (fun q11 => ?_) (fun q11 => ?_)
          · have t := t.1 q11
            refine r_aload_n (q := 2) dX4_fits_66 rfl rfl ?_
            refine r_iload_n (q := 3) dX4_fits_67 rfl rfl ?_
            refine r_iload_n (q := 4) dX4_fits_68 rfl rfl ?_
            refine r_iconst (v := (0 : Int32)) dX4_fits_69 rfl ?_
            refine r_aload_n (q := 2) dX4_fits_70 rfl rfl ?_
            refine r_iload_n (q := 3) dX4_fits_71 rfl rfl ?_
            refine r_iload_n (q := 1) dX4_fits_72 rfl rfl ?_
            refine r_cVI (c := 32) (As := [.int a1, .int ((h.1 32 11) - a2)]) dX4_fits_73 mkX4_urgent lkX4_97 lay_32 rfl rfl rfl (by decide) rfl (Nat.le_of_ble_eq_true rfl) z00 t ?_
            intro v12 h12 t
            refine r_aload_n (q := 2) dX4_fits_76 rfl rfl ?_
            refine r_getI (c := 32) dX4_fits_77 flX4_22 lay_32 rfl ?_
            refine r_cVI (c := 32) (As := [.int a1, .int a2, .int (0 : Int32), .int v12, .int (h12.1 32 3)]) dX4_fits_80 mkX4_extend lkX4_100 lay_32 rfl rfl rfl (by decide) rfl (Nat.le_of_ble_eq_true rfl) z00 t ?_
            intro v13 h13 t
            refine r_if_eq (tgt := 88) dX4_fits_83 (by decide) (fun q14 => ?_) (fun q14 => ?_)
            · have t := t.1 q14
              refine r_aload_n (q := 2) dX4_fits_88 rfl rfl ?_
              refine r_getR (c := 32) (c2 := 39) dX4_fits_89 flX4_40 lay_32 rfl ?_
              refine r_iload_n (q := 3) dX4_fits_92 rfl rfl ?_
              refine r_aload_n (q := 2) dX4_fits_93 rfl rfl ?_
              refine r_getI (c := 32) dX4_fits_94 flX4_43 lay_32 rfl ?_
              refine r_iconst (v := (4 : Int32)) dX4_fits_97 rfl ?_
              refine r_ishl dX4_fits_98 ?_
              refine r_iload_n (q := 1) dX4_fits_99 rfl rfl ?_
              refine r_ior dX4_fits_100 ?_
              obtain ⟨c15, t⟩ := t
              refine r_iast (c := 39) dX4_fits_101 lay_39 c15 ?_
              refine r_iconst (v := (0 : Int32)) dX4_fits_102 rfl ?_
              exact r_zret dX4_fits_103 rfl (Or.inl rfl) t
            · have t := t.2 q14
              refine r_iconst (v := (1 : Int32)) dX4_fits_86 rfl ?_
              exact r_zret dX4_fits_87 rfl (Or.inr rfl) t
          · have t := t.2 q11
            refine r_iconst (v := (0 : Int32)) dX4_fits_64 rfl ?_
            exact r_zret dX4_fits_65 rfl (Or.inl rfl) t
      · have t := t.2 q4
        refine r_iconst (v := (0 : Int32)) dX4_fits_34 rfl ?_
        exact r_zret dX4_fits_35 rfl (Or.inl rfl) t
  · have t := t.2 q1
    refine r_iconst (v := (1 : Int32)) dX4_fits_12 rfl ?_
    exact r_zret dX4_fits_13 rfl (Or.inr rfl) t
theorem dX4_extend_0 : decode cX4_extend 0 = .ok (.iload 5, 2) := by decide +kernel
theorem dX4_extend_2 : decode cX4_extend 2 = .ok (.iconst 1, 1) := by decide +kernel
theorem dX4_extend_3 : decode cX4_extend 3 = .ok (.isub, 1) := by decide +kernel
theorem dX4_extend_4 : decode cX4_extend 4 = .ok (.istore 6, 2) := by decide +kernel
theorem dX4_extend_6 : decode cX4_extend 6 = .ok (.iload 6, 2) := by decide +kernel
theorem dX4_extend_8 : decode cX4_extend 8 = .ok (.ifCond .lt 74, 3) := by decide +kernel
theorem dX4_extend_11 : decode cX4_extend 11 = .ok (.iconst 1, 1) := by decide +kernel
theorem dX4_extend_12 : decode cX4_extend 12 = .ok (.iload 6, 2) := by decide +kernel
theorem dX4_extend_14 : decode cX4_extend 14 = .ok (.ishl, 1) := by decide +kernel
theorem dX4_extend_15 : decode cX4_extend 15 = .ok (.istore 7, 2) := by decide +kernel
theorem dX4_extend_17 : decode cX4_extend 17 = .ok (.aload_n 0, 1) := by decide +kernel
theorem dX4_extend_18 : decode cX4_extend 18 = .ok (.iload 6, 2) := by decide +kernel
theorem dX4_extend_20 : decode cX4_extend 20 = .ok (.iload_n 1, 1) := by decide +kernel
theorem dX4_extend_21 : decode cX4_extend 21 = .ok (.iload_n 3, 1) := by decide +kernel
theorem dX4_extend_22 : decode cX4_extend 22 = .ok (.invokevirtual 85, 3) := by decide +kernel
theorem dX4_extend_25 : decode cX4_extend 25 = .ok (.ifCond .eq 41, 3) := by decide +kernel
theorem dX4_extend_28 : decode cX4_extend 28 = .ok (.iload 4, 2) := by decide +kernel
theorem dX4_extend_30 : decode cX4_extend 30 = .ok (.aload_n 0, 1) := by decide +kernel
theorem dX4_extend_31 : decode cX4_extend 31 = .ok (.getfield 31, 3) := by decide +kernel
theorem dX4_extend_34 : decode cX4_extend 34 = .ok (.iload 6, 2) := by decide +kernel
theorem dX4_extend_36 : decode cX4_extend 36 = .ok (.iaload, 1) := by decide +kernel
theorem dX4_extend_37 : decode cX4_extend 37 = .ok (.ior, 1) := by decide +kernel
theorem dX4_extend_38 : decode cX4_extend 38 = .ok (.iload_n 1, 1) := by decide +kernel
theorem dX4_extend_39 : decode cX4_extend 39 = .ok (.iload 7, 2) := by decide +kernel
theorem dX4_extend_41 : decode cX4_extend 41 = .ok (.ior, 1) := by decide +kernel
theorem dX4_extend_42 : decode cX4_extend 42 = .ok (.iconst (-1), 1) := by decide +kernel
theorem dX4_extend_43 : decode cX4_extend 43 = .ok (.ixor, 1) := by decide +kernel
theorem dX4_extend_44 : decode cX4_extend 44 = .ok (.iand, 1) := by decide +kernel
theorem dX4_extend_45 : decode cX4_extend 45 = .ok (.istore 8, 2) := by decide +kernel
theorem dX4_extend_47 : decode cX4_extend 47 = .ok (.aload_n 0, 1) := by decide +kernel
theorem dX4_extend_48 : decode cX4_extend 48 = .ok (.iload_n 1, 1) := by decide +kernel
theorem dX4_extend_49 : decode cX4_extend 49 = .ok (.iload_n 2, 1) := by decide +kernel
theorem dX4_extend_50 : decode cX4_extend 50 = .ok (.iload_n 3, 1) := by decide +kernel
theorem dX4_extend_51 : decode cX4_extend 51 = .ok (.iload 7, 2) := by decide +kernel
theorem dX4_extend_53 : decode cX4_extend 53 = .ok (.ior, 1) := by decide +kernel
theorem dX4_extend_54 : decode cX4_extend 54 = .ok (.iload 8, 2) := by decide +kernel
theorem dX4_extend_56 : decode cX4_extend 56 = .ok (.iload 6, 2) := by decide +kernel
theorem dX4_extend_58 : decode cX4_extend 58 = .ok (.invokevirtual 100, 3) := by decide +kernel
theorem dX4_extend_61 : decode cX4_extend 61 = .ok (.ifCond .eq 5, 3) := by decide +kernel
theorem dX4_extend_64 : decode cX4_extend 64 = .ok (.iconst 1, 1) := by decide +kernel
theorem dX4_extend_65 : decode cX4_extend 65 = .ok (.ireturn, 1) := by decide +kernel
theorem dX4_extend_66 : decode cX4_extend 66 = .ok (.iload 4, 2) := by decide +kernel
theorem dX4_extend_68 : decode cX4_extend 68 = .ok (.iload 7, 2) := by decide +kernel
theorem dX4_extend_70 : decode cX4_extend 70 = .ok (.iand, 1) := by decide +kernel
theorem dX4_extend_71 : decode cX4_extend 71 = .ok (.ifCond .eq 5, 3) := by decide +kernel
theorem dX4_extend_74 : decode cX4_extend 74 = .ok (.iconst 0, 1) := by decide +kernel
theorem dX4_extend_75 : decode cX4_extend 75 = .ok (.ireturn, 1) := by decide +kernel
theorem dX4_extend_76 : decode cX4_extend 76 = .ok (.iinc 6 (-1), 3) := by decide +kernel
theorem dX4_extend_79 : decode cX4_extend 79 = .ok (.goto (-73), 3) := by decide +kernel
theorem dX4_extend_82 : decode cX4_extend 82 = .ok (.iload_n 3, 1) := by decide +kernel
theorem dX4_extend_83 : decode cX4_extend 83 = .ok (.ifCond .eq 11, 3) := by decide +kernel
theorem dX4_extend_86 : decode cX4_extend 86 = .ok (.iload_n 2, 1) := by decide +kernel
theorem dX4_extend_87 : decode cX4_extend 87 = .ok (.aload_n 0, 1) := by decide +kernel
theorem dX4_extend_88 : decode cX4_extend 88 = .ok (.getfield 22, 3) := by decide +kernel
theorem dX4_extend_91 : decode cX4_extend 91 = .ok (.if_icmp .lt 5, 3) := by decide +kernel
theorem dX4_extend_94 : decode cX4_extend 94 = .ok (.iconst 0, 1) := by decide +kernel
theorem dX4_extend_95 : decode cX4_extend 95 = .ok (.ireturn, 1) := by decide +kernel
theorem dX4_extend_96 : decode cX4_extend 96 = .ok (.aload_n 0, 1) := by decide +kernel
theorem dX4_extend_97 : decode cX4_extend 97 = .ok (.getfield 9, 3) := by decide +kernel
theorem dX4_extend_100 : decode cX4_extend 100 = .ok (.iload_n 2, 1) := by decide +kernel
theorem dX4_extend_101 : decode cX4_extend 101 = .ok (.iload_n 3, 1) := by decide +kernel
theorem dX4_extend_102 : decode cX4_extend 102 = .ok (.iastore, 1) := by decide +kernel
theorem dX4_extend_103 : decode cX4_extend 103 = .ok (.aload_n 0, 1) := by decide +kernel
theorem dX4_extend_104 : decode cX4_extend 104 = .ok (.iload_n 1, 1) := by decide +kernel
theorem dX4_extend_105 : decode cX4_extend 105 = .ok (.iload_n 3, 1) := by decide +kernel
theorem dX4_extend_106 : decode cX4_extend 106 = .ok (.ior, 1) := by decide +kernel
theorem dX4_extend_107 : decode cX4_extend 107 = .ok (.iload_n 2, 1) := by decide +kernel
theorem dX4_extend_108 : decode cX4_extend 108 = .ok (.iconst 1, 1) := by decide +kernel
theorem dX4_extend_109 : decode cX4_extend 109 = .ok (.iadd, 1) := by decide +kernel
theorem dX4_extend_110 : decode cX4_extend 110 = .ok (.invokevirtual 89, 3) := by decide +kernel
theorem dX4_extend_113 : decode cX4_extend 113 = .ok (.ireturn, 1) := by decide +kernel
abbrev VX4_extend_6 (E : En) (d : Nat) (g : Ga) (P : Int32 → Hp → Prop) (x1 : Int32) (x2 : Int32) (x3 : Int32) (x4 : Int32) (x5 : Int32) (x6 : Int32) (h : Hp) : Prop := V E MX4_extend (RM (d + 1) 0) g (QQ E g (QI E P) 0 0) 0 0 h 6 [(0, .ref (eA E 32)), (1, .int x1), (2, .int x2), (3, .int x3), (4, .int x4), (5, .int x5), (6, .int x6)] []
set_option maxRecDepth 20000 in
theorem wp_X4_extend (E : En) (d : Nat) (a1 : Int32) (a2 : Int32) (a3 : Int32) (a4 : Int32) (a5 : Int32) (h : Hp) (P : Int32 → Hp → Prop) (t : ∀ g : Ga, VX4_extend_6 E d g P a1 a2 a3 a4 a5 (a5 - (1 : Int32)) h) : SpI E (d + 1) MX4_extend [.ref (eA E 32), .int a1, .int a2, .int a3, .int a4, .int a5] h P := by
  refine SpI.of (lv0 := [(0, .ref (eA E 32)), (1, .int a1), (2, .int a2), (3, .int a3), (4, .int a4), (5, .int a5)]) (by decide) (Nat.le_of_ble_eq_true rfl) rfl (fun g => ?_)
  have t := t g
  refine r_iload (q := 5) dX4_extend_0 rfl ?_
  refine r_iconst (v := (1 : Int32)) dX4_extend_2 rfl ?_
  refine r_isub dX4_extend_3 ?_
  refine r_istore (lv' := [(6, .int (a5 - (1 : Int32))), (0, .ref (eA E 32)), (1, .int a1), (2, .int a2), (3, .int a3), (4, .int a4), (5, .int a5)]) dX4_extend_4 (by decide) rfl ?_
  refine r_sub [1, 2, 3, 4, 5, 6, 0] rfl ?_
  exact t
set_option maxRecDepth 20000 in
theorem sg_X4_extend_6 (E : En) (d : Nat) (g : Ga) (x1 : Int32) (x2 : Int32) (x3 : Int32) (x4 : Int32) (x5 : Int32) (x6 : Int32) (h : Hp) (P : Int32 → Hp → Prop) (t : (x6 < 0 → ((x3 = 0 → (P (0 : Int32) h)) ∧ (¬ x3 = 0 → ((x2 < (h.1 32 3) → (vp_in x2 10 ∧ (SpI E d MX4_fits [.ref (eA E 32), .int (x1 ||| x3), .int (x2 + (1 : Int32))] (sI h 33 x2.toNatClampNeg x3) (fun v5 h5 => (v5 = 0 ∨ v5 = 1) ∧ P v5 h5)))) ∧ (¬ x2 < (h.1 32 3) → (P (0 : Int32) h)))))) ∧ (¬ x6 < 0 → (SpI E d MX4_mayEnter [.ref (eA E 32), .int x6, .int x1, .int x3] h (fun v6 h6 => (v6 = 0 → (((x4 &&& ((1 : Int32) <<< (x6 &&& 31))) = 0 → (VX4_extend_6 E d g P x1 x2 x3 x4 x5 (x6 + (-1 : Int32)) h6)) ∧ (¬ (x4 &&& ((1 : Int32) <<< (x6 &&& 31))) = 0 → (P (0 : Int32) h6)))) ∧ (¬ v6 = 0 → (vp_in x6 10 ∧ (SpI E d MX4_extend [.ref (eA E 32), .int x1, .int x2, .int (x3 ||| ((1 : Int32) <<< (x6 &&& 31))), .int ((x4 ||| (h6.1 36 x6.toNatClampNeg)) &&& ((x1 ||| ((1 : Int32) <<< (x6 &&& 31))) ^^^ (-1 : Int32))), .int x6] h6 (fun v10 h10 => (v10 = 0 → (((x4 &&& ((1 : Int32) <<< (x6 &&& 31))) = 0 → (VX4_extend_6 E d g P x1 x2 x3 x4 x5 (x6 + (-1 : Int32)) h10)) ∧ (¬ (x4 &&& ((1 : Int32) <<< (x6 &&& 31))) = 0 → (P (0 : Int32) h10)))) ∧ (¬ v10 = 0 → (P (1 : Int32) h10)))))))))) : VX4_extend_6 E d g P x1 x2 x3 x4 x5 x6 h := by
  refine r_iload (q := 6) dX4_extend_6 rfl ?_
  refine r_if_lt (tgt := 82) dX4_extend_8 (by decide) (fun q1 => ?_) (fun q1 => ?_)
  · have t := t.1 q1
    refine r_iload_n (q := 3) dX4_extend_82 rfl rfl ?_
    refine r_if_eq (tgt := 94) dX4_extend_83 (by decide) (fun q2 => ?_) (fun q2 => ?_)
    · have t := t.1 q2
      refine r_iconst (v := (0 : Int32)) dX4_extend_94 rfl ?_
      exact r_zret dX4_extend_95 rfl (Or.inl rfl) t
    · have t := t.2 q2
      refine r_iload_n (q := 2) dX4_extend_86 rfl rfl ?_
      refine r_aload_n (q := 0) dX4_extend_87 rfl rfl ?_
      refine r_getI (c := 32) dX4_extend_88 flX4_22 lay_32 rfl ?_
      refine r_icmp_lt (tgt := 96) dX4_extend_91 (by decide) (fun q3 => ?_) (fun q3 => ?_)
      · have t := t.1 q3
        refine r_aload_n (q := 0) dX4_extend_96 rfl rfl ?_
        refine r_getR (c := 32) (c2 := 33) dX4_extend_97 flX4_9 lay_32 rfl ?_
        refine r_iload_n (q := 2) dX4_extend_100 rfl rfl ?_
        refine r_iload_n (q := 3) dX4_extend_101 rfl rfl ?_
        obtain ⟨c4, t⟩ := t
        refine r_iast (c := 33) dX4_extend_102 lay_33 c4 ?_
        refine r_aload_n (q := 0) dX4_extend_103 rfl rfl ?_
        refine r_iload_n (q := 1) dX4_extend_104 rfl rfl ?_
        refine r_iload_n (q := 3) dX4_extend_105 rfl rfl ?_
        refine r_ior dX4_extend_106 ?_
        refine r_iload_n (q := 2) dX4_extend_107 rfl rfl ?_
        refine r_iconst (v := (1 : Int32)) dX4_extend_108 rfl ?_
        refine r_iadd dX4_extend_109 ?_
        refine r_cVI (c := 32) (As := [.int (x1 ||| x3), .int (x2 + (1 : Int32))]) dX4_extend_110 mkX4_fits lkX4_89 lay_32 rfl rfl rfl (by decide) rfl (Nat.le_of_ble_eq_true rfl) z00 t ?_
        intro v5 h5 t
        exact r_zret dX4_extend_113 rfl t.1 t.2
      · have t := t.2 q3
        refine r_iconst (v := (0 : Int32)) dX4_extend_94 rfl ?_
        exact r_zret dX4_extend_95 rfl (Or.inl rfl) t
  · have t := t.2 q1
    refine r_iconst (v := (1 : Int32)) dX4_extend_11 rfl ?_
    refine r_iload (q := 6) dX4_extend_12 rfl ?_
    refine r_ishl dX4_extend_14 ?_
    refine r_istore (lv' := [(7, .int ((1 : Int32) <<< (x6 &&& 31))), (0, .ref (eA E 32)), (1, .int x1), (2, .int x2), (3, .int x3), (4, .int x4), (5, .int x5), (6, .int x6)]) dX4_extend_15 (by decide) rfl ?_
    refine r_aload_n (q := 1) dX4_extend_17 rfl rfl ?_
    refine r_iload (q := 7) dX4_extend_18 rfl ?_
    refine r_iload_n (q := 2) dX4_extend_20 rfl rfl ?_
    refine r_iload_n (q := 4) dX4_extend_21 rfl rfl ?_
    refine r_cVI (c := 32) (As := [.int x6, .int x1, .int x3]) dX4_extend_22 mkX4_mayEnter lkX4_85 lay_32 rfl rfl rfl (by decide) rfl (Nat.le_of_ble_eq_true rfl) z00 t ?_
    intro v6 h6 t
    refine r_if_eq (tgt := 66) dX4_extend_25 (by decide) (fun q7 => ?_) (fun q7 => ?_)
    · have t := t.1 q7
      refine r_iload (q := 5) dX4_extend_66 rfl ?_
      refine r_iload (q := 0) dX4_extend_68 rfl ?_
      refine r_iand dX4_extend_70 ?_
      refine r_if_eq (tgt := 76) dX4_extend_71 (by decide) (fun q8 => ?_) (fun q8 => ?_)
      · have t := t.1 q8
        refine r_iinc (k := 7) (v := x6 + (-1 : Int32)) (lv' := [(6, .int (x6 + (-1 : Int32))), (7, .int ((1 : Int32) <<< (x6 &&& 31))), (0, .ref (eA E 32)), (1, .int x1), (2, .int x2), (3, .int x3), (4, .int x4), (5, .int x5)]) dX4_extend_76 rfl rfl (by decide) rfl ?_
        refine r_goto (tgt := 6) dX4_extend_79 (by decide) ?_
        refine r_sub [2, 3, 4, 5, 6, 7, 0] rfl ?_
        exact t
      · have t := t.2 q8
        refine r_iconst (v := (0 : Int32)) dX4_extend_74 rfl ?_
        exact r_zret dX4_extend_75 rfl (Or.inl rfl) t
    · have t := t.2 q7
      refine r_iload (q := 5) dX4_extend_28 rfl ?_
      refine r_aload_n (q := 1) dX4_extend_30 rfl rfl ?_
      refine r_getR (c := 32) (c2 := 36) dX4_extend_31 flX4_31 lay_32 rfl ?_
      refine r_iload (q := 7) dX4_extend_34 rfl ?_
      obtain ⟨c9, t⟩ := t
      refine r_iald (c := 36) dX4_extend_36 lay_36 c9 ?_
      refine r_ior dX4_extend_37 ?_
      refine r_iload_n (q := 2) dX4_extend_38 rfl rfl ?_
      refine r_iload (q := 0) dX4_extend_39 rfl ?_
      refine r_ior dX4_extend_41 ?_
      refine r_iconst (v := (-1 : Int32)) dX4_extend_42 rfl ?_
      refine r_ixor dX4_extend_43 ?_
      refine r_iand dX4_extend_44 ?_
      refine r_istore (lv' := [(8, .int ((x4 ||| (h6.1 36 x6.toNatClampNeg)) &&& ((x1 ||| ((1 : Int32) <<< (x6 &&& 31))) ^^^ (-1 : Int32)))), (7, .int ((1 : Int32) <<< (x6 &&& 31))), (0, .ref (eA E 32)), (1, .int x1), (2, .int x2), (3, .int x3), (4, .int x4), (5, .int x5), (6, .int x6)]) dX4_extend_45 (by decide) rfl ?_
      refine r_aload_n (q := 2) dX4_extend_47 rfl rfl ?_
      refine r_iload_n (q := 3) dX4_extend_48 rfl rfl ?_
      refine r_iload_n (q := 4) dX4_extend_49 rfl rfl ?_
      refine r_iload_n (q := 5) dX4_extend_50 rfl rfl ?_
      refine r_iload (q := 1) dX4_extend_51 rfl ?_
      refine r_ior dX4_extend_53 ?_
      refine r_iload (q := 0) dX4_extend_54 rfl ?_
      refine r_iload (q := 8) dX4_extend_56 rfl ?_
      refine r_cVI (c := 32) (As := [.int x1, .int x2, .int (x3 ||| ((1 : Int32) <<< (x6 &&& 31))), .int ((x4 ||| (h6.1 36 x6.toNatClampNeg)) &&& ((x1 ||| ((1 : Int32) <<< (x6 &&& 31))) ^^^ (-1 : Int32))), .int x6]) dX4_extend_58 mkX4_extend lkX4_100 lay_32 rfl rfl rfl (by decide) rfl (Nat.le_of_ble_eq_true rfl) z00 t ?_
      intro v10 h10 t
      refine r_if_eq (tgt := 66) dX4_extend_61 (by decide) (fun q11 => ?_) (fun q11 => ?_)
      · have t := t.1 q11
        refine r_iload (q := 6) dX4_extend_66 rfl ?_
        refine r_iload (q := 1) dX4_extend_68 rfl ?_
        refine r_iand dX4_extend_70 ?_
        refine r_if_eq (tgt := 76) dX4_extend_71 (by decide) (fun q12 => ?_) (fun q12 => ?_)
        · have t := t.1 q12
          refine r_iinc (k := 8) (v := x6 + (-1 : Int32)) (lv' := [(6, .int (x6 + (-1 : Int32))), (8, .int ((x4 ||| (h6.1 36 x6.toNatClampNeg)) &&& ((x1 ||| ((1 : Int32) <<< (x6 &&& 31))) ^^^ (-1 : Int32)))), (7, .int ((1 : Int32) <<< (x6 &&& 31))), (0, .ref (eA E 32)), (1, .int x1), (2, .int x2), (3, .int x3), (4, .int x4), (5, .int x5)]) dX4_extend_76 rfl rfl (by decide) rfl ?_
          refine r_goto (tgt := 6) dX4_extend_79 (by decide) ?_
          refine r_sub [3, 4, 5, 6, 7, 8, 0] rfl ?_
          exact t
        · have t := t.2 q12
          refine r_iconst (v := (0 : Int32)) dX4_extend_74 rfl ?_
          exact r_zret dX4_extend_75 rfl (Or.inl rfl) t
      · have t := t.2 q11
        refine r_iconst (v := (1 : Int32)) dX4_extend_64 rfl ?_
        exact r_zret dX4_extend_65 rfl (Or.inr rfl) t
theorem dX4_wordsNeeded_0 : decode cX4_wordsNeeded 0 = .ok (.iconst 0, 1) := by decide +kernel
theorem dX4_wordsNeeded_1 : decode cX4_wordsNeeded 1 = .ok (.istore_n 2, 1) := by decide +kernel
theorem dX4_wordsNeeded_2 : decode cX4_wordsNeeded 2 = .ok (.iconst 0, 1) := by decide +kernel
theorem dX4_wordsNeeded_3 : decode cX4_wordsNeeded 3 = .ok (.istore_n 3, 1) := by decide +kernel
theorem dX4_wordsNeeded_4 : decode cX4_wordsNeeded 4 = .ok (.iload_n 3, 1) := by decide +kernel
theorem dX4_wordsNeeded_5 : decode cX4_wordsNeeded 5 = .ok (.aload_n 0, 1) := by decide +kernel
theorem dX4_wordsNeeded_6 : decode cX4_wordsNeeded 6 = .ok (.getfield 22, 3) := by decide +kernel
theorem dX4_wordsNeeded_9 : decode cX4_wordsNeeded 9 = .ok (.if_icmp .ge 28, 3) := by decide +kernel
theorem dX4_wordsNeeded_12 : decode cX4_wordsNeeded 12 = .ok (.iload_n 1, 1) := by decide +kernel
theorem dX4_wordsNeeded_13 : decode cX4_wordsNeeded 13 = .ok (.iconst 1, 1) := by decide +kernel
theorem dX4_wordsNeeded_14 : decode cX4_wordsNeeded 14 = .ok (.iload_n 3, 1) := by decide +kernel
theorem dX4_wordsNeeded_15 : decode cX4_wordsNeeded 15 = .ok (.ishl, 1) := by decide +kernel
theorem dX4_wordsNeeded_16 : decode cX4_wordsNeeded 16 = .ok (.iand, 1) := by decide +kernel
theorem dX4_wordsNeeded_17 : decode cX4_wordsNeeded 17 = .ok (.ifCond .ne 14, 3) := by decide +kernel
theorem dX4_wordsNeeded_20 : decode cX4_wordsNeeded 20 = .ok (.iload_n 2, 1) := by decide +kernel
theorem dX4_wordsNeeded_21 : decode cX4_wordsNeeded 21 = .ok (.aload_n 0, 1) := by decide +kernel
theorem dX4_wordsNeeded_22 : decode cX4_wordsNeeded 22 = .ok (.getfield 34, 3) := by decide +kernel
theorem dX4_wordsNeeded_25 : decode cX4_wordsNeeded 25 = .ok (.iload_n 3, 1) := by decide +kernel
theorem dX4_wordsNeeded_26 : decode cX4_wordsNeeded 26 = .ok (.iaload, 1) := by decide +kernel
theorem dX4_wordsNeeded_27 : decode cX4_wordsNeeded 27 = .ok (.invokestatic 80, 3) := by decide +kernel
theorem dX4_wordsNeeded_30 : decode cX4_wordsNeeded 30 = .ok (.istore_n 2, 1) := by decide +kernel
theorem dX4_wordsNeeded_31 : decode cX4_wordsNeeded 31 = .ok (.iinc 3 1, 3) := by decide +kernel
theorem dX4_wordsNeeded_34 : decode cX4_wordsNeeded 34 = .ok (.goto (-30), 3) := by decide +kernel
theorem dX4_wordsNeeded_37 : decode cX4_wordsNeeded 37 = .ok (.iconst 0, 1) := by decide +kernel
theorem dX4_wordsNeeded_38 : decode cX4_wordsNeeded 38 = .ok (.istore_n 3, 1) := by decide +kernel
theorem dX4_wordsNeeded_39 : decode cX4_wordsNeeded 39 = .ok (.iload_n 3, 1) := by decide +kernel
theorem dX4_wordsNeeded_40 : decode cX4_wordsNeeded 40 = .ok (.bipush 6, 2) := by decide +kernel
theorem dX4_wordsNeeded_42 : decode cX4_wordsNeeded 42 = .ok (.if_icmp .ge 27, 3) := by decide +kernel
theorem dX4_wordsNeeded_45 : decode cX4_wordsNeeded 45 = .ok (.iload_n 2, 1) := by decide +kernel
theorem dX4_wordsNeeded_46 : decode cX4_wordsNeeded 46 = .ok (.aload_n 0, 1) := by decide +kernel
theorem dX4_wordsNeeded_47 : decode cX4_wordsNeeded 47 = .ok (.getfield 37, 3) := by decide +kernel
theorem dX4_wordsNeeded_50 : decode cX4_wordsNeeded 50 = .ok (.iload_n 3, 1) := by decide +kernel
theorem dX4_wordsNeeded_51 : decode cX4_wordsNeeded 51 = .ok (.iaload, 1) := by decide +kernel
theorem dX4_wordsNeeded_52 : decode cX4_wordsNeeded 52 = .ok (.iload_n 1, 1) := by decide +kernel
theorem dX4_wordsNeeded_53 : decode cX4_wordsNeeded 53 = .ok (.iconst (-1), 1) := by decide +kernel
theorem dX4_wordsNeeded_54 : decode cX4_wordsNeeded 54 = .ok (.ixor, 1) := by decide +kernel
theorem dX4_wordsNeeded_55 : decode cX4_wordsNeeded 55 = .ok (.iand, 1) := by decide +kernel
theorem dX4_wordsNeeded_56 : decode cX4_wordsNeeded 56 = .ok (.invokestatic 104, 3) := by decide +kernel
theorem dX4_wordsNeeded_59 : decode cX4_wordsNeeded 59 = .ok (.invokestatic 80, 3) := by decide +kernel
theorem dX4_wordsNeeded_62 : decode cX4_wordsNeeded 62 = .ok (.istore_n 2, 1) := by decide +kernel
theorem dX4_wordsNeeded_63 : decode cX4_wordsNeeded 63 = .ok (.iinc 3 1, 3) := by decide +kernel
theorem dX4_wordsNeeded_66 : decode cX4_wordsNeeded 66 = .ok (.goto (-27), 3) := by decide +kernel
theorem dX4_wordsNeeded_69 : decode cX4_wordsNeeded 69 = .ok (.iload_n 2, 1) := by decide +kernel
theorem dX4_wordsNeeded_70 : decode cX4_wordsNeeded 70 = .ok (.ireturn, 1) := by decide +kernel
abbrev VX4_wordsNeeded_4 (E : En) (d : Nat) (g : Ga) (P : Int32 → Hp → Prop) (x1 : Int32) (x2 : Int32) (x3 : Int32) (h : Hp) : Prop := V E MX4_wordsNeeded (RM (d + 1) 0) g (QQ E g (QI E P) 0 0) 0 0 h 4 [(0, .ref (eA E 32)), (1, .int x1), (2, .int x2), (3, .int x3)] []
abbrev VX4_wordsNeeded_39 (E : En) (d : Nat) (g : Ga) (P : Int32 → Hp → Prop) (x1 : Int32) (x2 : Int32) (x3 : Int32) (h : Hp) : Prop := V E MX4_wordsNeeded (RM (d + 1) 0) g (QQ E g (QI E P) 0 0) 0 0 h 39 [(0, .ref (eA E 32)), (1, .int x1), (2, .int x2), (3, .int x3)] []
set_option maxRecDepth 20000 in
theorem wp_X4_wordsNeeded (E : En) (d : Nat) (a1 : Int32) (h : Hp) (P : Int32 → Hp → Prop) (t : ∀ g : Ga, VX4_wordsNeeded_4 E d g P a1 (0 : Int32) (0 : Int32) h) : SpI E (d + 1) MX4_wordsNeeded [.ref (eA E 32), .int a1] h P := by
  refine SpI.of (lv0 := [(0, .ref (eA E 32)), (1, .int a1)]) (by decide) (Nat.le_of_ble_eq_true rfl) rfl (fun g => ?_)
  have t := t g
  refine r_iconst (v := (0 : Int32)) dX4_wordsNeeded_0 rfl ?_
  refine r_istore_n (lv' := [(2, .int (0 : Int32)), (0, .ref (eA E 32)), (1, .int a1)]) dX4_wordsNeeded_1 rfl (by decide) rfl ?_
  refine r_iconst (v := (0 : Int32)) dX4_wordsNeeded_2 rfl ?_
  refine r_istore_n (lv' := [(3, .int (0 : Int32)), (2, .int (0 : Int32)), (0, .ref (eA E 32)), (1, .int a1)]) dX4_wordsNeeded_3 rfl (by decide) rfl ?_
  refine r_sub [2, 3, 1, 0] rfl ?_
  exact t
set_option maxRecDepth 20000 in
theorem sg_X4_wordsNeeded_4 (E : En) (d : Nat) (g : Ga) (x1 : Int32) (x2 : Int32) (x3 : Int32) (h : Hp) (P : Int32 → Hp → Prop) (t : ((h.1 32 3) ≤ x3 → (VX4_wordsNeeded_39 E d g P x1 x2 (0 : Int32) h)) ∧ (¬ (h.1 32 3) ≤ x3 → ((¬ (x1 &&& ((1 : Int32) <<< (x3 &&& 31))) = 0 → (VX4_wordsNeeded_4 E d g P x1 x2 (x3 + (1 : Int32)) h)) ∧ ((x1 &&& ((1 : Int32) <<< (x3 &&& 31))) = 0 → (vp_in x3 10 ∧ (VX4_wordsNeeded_4 E d g P x1 (if x2 < (h.1 37 x3.toNatClampNeg) then (h.1 37 x3.toNatClampNeg) else x2) (x3 + (1 : Int32)) h)))))) : VX4_wordsNeeded_4 E d g P x1 x2 x3 h := by
  refine r_iload_n (q := 3) dX4_wordsNeeded_4 rfl rfl ?_
  refine r_aload_n (q := 0) dX4_wordsNeeded_5 rfl rfl ?_
  refine r_getI (c := 32) dX4_wordsNeeded_6 flX4_22 lay_32 rfl ?_
  refine r_icmp_ge (tgt := 37) dX4_wordsNeeded_9 (by decide) (fun q1 => ?_) (fun q1 => ?_)
  · have t := t.1 q1
    refine r_iconst (v := (0 : Int32)) dX4_wordsNeeded_37 rfl ?_
    refine r_istore_n (lv' := [(3, .int (0 : Int32)), (0, .ref (eA E 32)), (1, .int x1), (2, .int x2)]) dX4_wordsNeeded_38 rfl (by decide) rfl ?_
    refine r_sub [1, 2, 3, 0] rfl ?_
    exact t
  · have t := t.2 q1
    refine r_iload_n (q := 1) dX4_wordsNeeded_12 rfl rfl ?_
    refine r_iconst (v := (1 : Int32)) dX4_wordsNeeded_13 rfl ?_
    refine r_iload_n (q := 3) dX4_wordsNeeded_14 rfl rfl ?_
    refine r_ishl dX4_wordsNeeded_15 ?_
    refine r_iand dX4_wordsNeeded_16 ?_
    refine r_if_ne (tgt := 31) dX4_wordsNeeded_17 (by decide) (fun q2 => ?_) (fun q2 => ?_)
    · have t := t.1 q2
      refine r_iinc (k := 3) (v := x3 + (1 : Int32)) (lv' := [(3, .int (x3 + (1 : Int32))), (0, .ref (eA E 32)), (1, .int x1), (2, .int x2)]) dX4_wordsNeeded_31 rfl rfl (by decide) rfl ?_
      refine r_goto (tgt := 4) dX4_wordsNeeded_34 (by decide) ?_
      refine r_sub [1, 2, 3, 0] rfl ?_
      exact t
    · have t := t.2 q2
      refine r_iload_n (q := 2) dX4_wordsNeeded_20 rfl rfl ?_
      refine r_aload_n (q := 0) dX4_wordsNeeded_21 rfl rfl ?_
      refine r_getR (c := 32) (c2 := 37) dX4_wordsNeeded_22 flX4_34 lay_32 rfl ?_
      refine r_iload_n (q := 3) dX4_wordsNeeded_25 rfl rfl ?_
      obtain ⟨c3, t⟩ := t
      refine r_iald (c := 37) dX4_wordsNeeded_26 lay_37 c3 ?_
      refine r_max dX4_wordsNeeded_27 lkX4_80 (Nat.le_of_ble_eq_true rfl) z00 ?_
      refine r_istore_n (lv' := [(2, .int (if x2 < (h.1 37 x3.toNatClampNeg) then (h.1 37 x3.toNatClampNeg) else x2)), (0, .ref (eA E 32)), (1, .int x1), (3, .int x3)]) dX4_wordsNeeded_30 rfl (by decide) rfl ?_
      refine r_iinc (k := 3) (v := x3 + (1 : Int32)) (lv' := [(3, .int (x3 + (1 : Int32))), (2, .int (if x2 < (h.1 37 x3.toNatClampNeg) then (h.1 37 x3.toNatClampNeg) else x2)), (0, .ref (eA E 32)), (1, .int x1)]) dX4_wordsNeeded_31 rfl rfl (by decide) rfl ?_
      refine r_goto (tgt := 4) dX4_wordsNeeded_34 (by decide) ?_
      refine r_sub [2, 3, 1, 0] rfl ?_
      exact t
set_option maxRecDepth 20000 in
theorem sg_X4_wordsNeeded_39 (E : En) (d : Nat) (g : Ga) (x1 : Int32) (x2 : Int32) (x3 : Int32) (h : Hp) (P : Int32 → Hp → Prop) (t : ((6 : Int32) ≤ x3 → (P x2 h)) ∧ (¬ (6 : Int32) ≤ x3 → (vp_in x3 6 ∧ (SpI E d MJ6_bitCount_0f7a4 [.int ((h.1 38 x3.toNatClampNeg) &&& (x1 ^^^ (-1 : Int32)))] h (fun v3 h3 => VX4_wordsNeeded_39 E d g P x1 (if x2 < v3 then v3 else x2) (x3 + (1 : Int32)) h3))))) : VX4_wordsNeeded_39 E d g P x1 x2 x3 h := by
  refine r_iload_n (q := 3) dX4_wordsNeeded_39 rfl rfl ?_
  refine r_bipush (v := (6 : Int32)) dX4_wordsNeeded_40 rfl ?_
  refine r_icmp_ge (tgt := 69) dX4_wordsNeeded_42 (by decide) (fun q1 => ?_) (fun q1 => ?_)
  · have t := t.1 q1
    refine r_iload_n (q := 2) dX4_wordsNeeded_69 rfl rfl ?_
    exact r_iret dX4_wordsNeeded_70 rfl t
  · have t := t.2 q1
    refine r_iload_n (q := 2) dX4_wordsNeeded_45 rfl rfl ?_
    refine r_aload_n (q := 0) dX4_wordsNeeded_46 rfl rfl ?_
    refine r_getR (c := 32) (c2 := 38) dX4_wordsNeeded_47 flX4_37 lay_32 rfl ?_
    refine r_iload_n (q := 3) dX4_wordsNeeded_50 rfl rfl ?_
    obtain ⟨c2, t⟩ := t
    refine r_iald (c := 38) dX4_wordsNeeded_51 lay_38 c2 ?_
    refine r_iload_n (q := 1) dX4_wordsNeeded_52 rfl rfl ?_
    refine r_iconst (v := (-1 : Int32)) dX4_wordsNeeded_53 rfl ?_
    refine r_ixor dX4_wordsNeeded_54 ?_
    refine r_iand dX4_wordsNeeded_55 ?_
    refine r_cSI (As := [.int ((h.1 38 x3.toNatClampNeg) &&& (x1 ^^^ (-1 : Int32)))]) dX4_wordsNeeded_56 mkJ6_bitCount_0f7a4 lkX4_104 rfl (by decide) rfl (Nat.le_of_ble_eq_true rfl) z00 t ?_
    intro v3 h3 t
    refine r_max dX4_wordsNeeded_59 lkX4_80 (Nat.le_of_ble_eq_true rfl) z00 ?_
    refine r_istore_n (lv' := [(2, .int (if x2 < v3 then v3 else x2)), (0, .ref (eA E 32)), (1, .int x1), (3, .int x3)]) dX4_wordsNeeded_62 rfl (by decide) rfl ?_
    refine r_iinc (k := 3) (v := x3 + (1 : Int32)) (lv' := [(3, .int (x3 + (1 : Int32))), (2, .int (if x2 < v3 then v3 else x2)), (0, .ref (eA E 32)), (1, .int x1)]) dX4_wordsNeeded_63 rfl rfl (by decide) rfl ?_
    refine r_goto (tgt := 39) dX4_wordsNeeded_66 (by decide) ?_
    refine r_sub [2, 3, 1, 0] rfl ?_
    exact t
theorem dX4_urgent_0 : decode cX4_urgent 0 = .ok (.iconst 0, 1) := by decide +kernel
theorem dX4_urgent_1 : decode cX4_urgent 1 = .ok (.istore_n 3, 1) := by decide +kernel
theorem dX4_urgent_2 : decode cX4_urgent 2 = .ok (.iconst 0, 1) := by decide +kernel
theorem dX4_urgent_3 : decode cX4_urgent 3 = .ok (.istore 4, 2) := by decide +kernel
theorem dX4_urgent_5 : decode cX4_urgent 5 = .ok (.iload 4, 2) := by decide +kernel
theorem dX4_urgent_7 : decode cX4_urgent 7 = .ok (.aload_n 0, 1) := by decide +kernel
theorem dX4_urgent_8 : decode cX4_urgent 8 = .ok (.getfield 22, 3) := by decide +kernel
theorem dX4_urgent_11 : decode cX4_urgent 11 = .ok (.if_icmp .ge 27, 3) := by decide +kernel
theorem dX4_urgent_14 : decode cX4_urgent 14 = .ok (.aload_n 0, 1) := by decide +kernel
theorem dX4_urgent_15 : decode cX4_urgent 15 = .ok (.getfield 34, 3) := by decide +kernel
theorem dX4_urgent_18 : decode cX4_urgent 18 = .ok (.iload 4, 2) := by decide +kernel
theorem dX4_urgent_20 : decode cX4_urgent 20 = .ok (.iaload, 1) := by decide +kernel
theorem dX4_urgent_21 : decode cX4_urgent 21 = .ok (.iload_n 2, 1) := by decide +kernel
theorem dX4_urgent_22 : decode cX4_urgent 22 = .ok (.if_icmp .lt 10, 3) := by decide +kernel
theorem dX4_urgent_25 : decode cX4_urgent 25 = .ok (.iload_n 3, 1) := by decide +kernel
theorem dX4_urgent_26 : decode cX4_urgent 26 = .ok (.iconst 1, 1) := by decide +kernel
theorem dX4_urgent_27 : decode cX4_urgent 27 = .ok (.iload 4, 2) := by decide +kernel
theorem dX4_urgent_29 : decode cX4_urgent 29 = .ok (.ishl, 1) := by decide +kernel
theorem dX4_urgent_30 : decode cX4_urgent 30 = .ok (.ior, 1) := by decide +kernel
theorem dX4_urgent_31 : decode cX4_urgent 31 = .ok (.istore_n 3, 1) := by decide +kernel
theorem dX4_urgent_32 : decode cX4_urgent 32 = .ok (.iinc 4 1, 3) := by decide +kernel
theorem dX4_urgent_35 : decode cX4_urgent 35 = .ok (.goto (-30), 3) := by decide +kernel
theorem dX4_urgent_38 : decode cX4_urgent 38 = .ok (.iload_n 3, 1) := by decide +kernel
theorem dX4_urgent_39 : decode cX4_urgent 39 = .ok (.iload_n 1, 1) := by decide +kernel
theorem dX4_urgent_40 : decode cX4_urgent 40 = .ok (.iconst (-1), 1) := by decide +kernel
theorem dX4_urgent_41 : decode cX4_urgent 41 = .ok (.ixor, 1) := by decide +kernel
theorem dX4_urgent_42 : decode cX4_urgent 42 = .ok (.iand, 1) := by decide +kernel
theorem dX4_urgent_43 : decode cX4_urgent 43 = .ok (.ireturn, 1) := by decide +kernel
abbrev VX4_urgent_5 (E : En) (d : Nat) (g : Ga) (P : Int32 → Hp → Prop) (x1 : Int32) (x2 : Int32) (x3 : Int32) (x4 : Int32) (h : Hp) : Prop := V E MX4_urgent (RM d 0) g (QQ E g (QI E P) 0 0) 0 0 h 5 [(0, .ref (eA E 32)), (1, .int x1), (2, .int x2), (3, .int x3), (4, .int x4)] []
set_option maxRecDepth 20000 in
theorem wp_X4_urgent (E : En) (d : Nat) (a1 : Int32) (a2 : Int32) (h : Hp) (P : Int32 → Hp → Prop) (t : ∀ g : Ga, VX4_urgent_5 E d g P a1 a2 (0 : Int32) (0 : Int32) h) : SpI E d MX4_urgent [.ref (eA E 32), .int a1, .int a2] h P := by
  refine SpI.of (lv0 := [(0, .ref (eA E 32)), (1, .int a1), (2, .int a2)]) (by decide) (Nat.le_of_ble_eq_true rfl) rfl (fun g => ?_)
  have t := t g
  refine r_iconst (v := (0 : Int32)) dX4_urgent_0 rfl ?_
  refine r_istore_n (lv' := [(3, .int (0 : Int32)), (0, .ref (eA E 32)), (1, .int a1), (2, .int a2)]) dX4_urgent_1 rfl (by decide) rfl ?_
  refine r_iconst (v := (0 : Int32)) dX4_urgent_2 rfl ?_
  refine r_istore (lv' := [(4, .int (0 : Int32)), (3, .int (0 : Int32)), (0, .ref (eA E 32)), (1, .int a1), (2, .int a2)]) dX4_urgent_3 (by decide) rfl ?_
  refine r_sub [2, 3, 4, 1, 0] rfl ?_
  exact t
set_option maxRecDepth 20000 in
theorem sg_X4_urgent_5 (E : En) (d : Nat) (g : Ga) (x1 : Int32) (x2 : Int32) (x3 : Int32) (x4 : Int32) (h : Hp) (P : Int32 → Hp → Prop) (t : ((h.1 32 3) ≤ x4 → (P (x3 &&& (x1 ^^^ (-1 : Int32))) h)) ∧ (¬ (h.1 32 3) ≤ x4 → (vp_in x4 10 ∧ (((h.1 37 x4.toNatClampNeg) < x2 → (VX4_urgent_5 E d g P x1 x2 x3 (x4 + (1 : Int32)) h)) ∧ (¬ (h.1 37 x4.toNatClampNeg) < x2 → (VX4_urgent_5 E d g P x1 x2 (x3 ||| ((1 : Int32) <<< (x4 &&& 31))) (x4 + (1 : Int32)) h)))))) : VX4_urgent_5 E d g P x1 x2 x3 x4 h := by
  refine r_iload (q := 4) dX4_urgent_5 rfl ?_
  refine r_aload_n (q := 0) dX4_urgent_7 rfl rfl ?_
  refine r_getI (c := 32) dX4_urgent_8 flX4_22 lay_32 rfl ?_
  refine r_icmp_ge (tgt := 38) dX4_urgent_11 (by decide) (fun q1 => ?_) (fun q1 => ?_)
  · have t := t.1 q1
    refine r_iload_n (q := 3) dX4_urgent_38 rfl rfl ?_
    refine r_iload_n (q := 1) dX4_urgent_39 rfl rfl ?_
    refine r_iconst (v := (-1 : Int32)) dX4_urgent_40 rfl ?_
    refine r_ixor dX4_urgent_41 ?_
    refine r_iand dX4_urgent_42 ?_
    exact r_iret dX4_urgent_43 rfl t
  · have t := t.2 q1
    refine r_aload_n (q := 0) dX4_urgent_14 rfl rfl ?_
    refine r_getR (c := 32) (c2 := 37) dX4_urgent_15 flX4_34 lay_32 rfl ?_
    refine r_iload (q := 4) dX4_urgent_18 rfl ?_
    obtain ⟨c2, t⟩ := t
    refine r_iald (c := 37) dX4_urgent_20 lay_37 c2 ?_
    refine r_iload_n (q := 2) dX4_urgent_21 rfl rfl ?_
    refine r_icmp_lt (tgt := 32) dX4_urgent_22 (by decide) (fun q3 => ?_) (fun q3 => ?_)
    · have t := t.1 q3
      refine r_iinc (k := 4) (v := x4 + (1 : Int32)) (lv' := [(4, .int (x4 + (1 : Int32))), (0, .ref (eA E 32)), (1, .int x1), (2, .int x2), (3, .int x3)]) dX4_urgent_32 rfl rfl (by decide) rfl ?_
      refine r_goto (tgt := 5) dX4_urgent_35 (by decide) ?_
      refine r_sub [1, 2, 3, 4, 0] rfl ?_
      exact t
    · have t := t.2 q3
      refine r_iload_n (q := 3) dX4_urgent_25 rfl rfl ?_
      refine r_iconst (v := (1 : Int32)) dX4_urgent_26 rfl ?_
      refine r_iload (q := 4) dX4_urgent_27 rfl ?_
      refine r_ishl dX4_urgent_29 ?_
      refine r_ior dX4_urgent_30 ?_
      refine r_istore_n (lv' := [(3, .int (x3 ||| ((1 : Int32) <<< (x4 &&& 31)))), (0, .ref (eA E 32)), (1, .int x1), (2, .int x2), (4, .int x4)]) dX4_urgent_31 rfl (by decide) rfl ?_
      refine r_iinc (k := 4) (v := x4 + (1 : Int32)) (lv' := [(4, .int (x4 + (1 : Int32))), (3, .int (x3 ||| ((1 : Int32) <<< (x4 &&& 31)))), (0, .ref (eA E 32)), (1, .int x1), (2, .int x2)]) dX4_urgent_32 rfl rfl (by decide) rfl ?_
      refine r_goto (tgt := 5) dX4_urgent_35 (by decide) ?_
      refine r_sub [2, 3, 4, 1, 0] rfl ?_
      exact t
theorem dX4_prepareUnits_0 : decode cX4_prepareUnits 0 = .ok (.iconst 0, 1) := by decide +kernel
theorem dX4_prepareUnits_1 : decode cX4_prepareUnits 1 = .ok (.istore_n 3, 1) := by decide +kernel
theorem dX4_prepareUnits_2 : decode cX4_prepareUnits 2 = .ok (.iload_n 3, 1) := by decide +kernel
theorem dX4_prepareUnits_3 : decode cX4_prepareUnits 3 = .ok (.bipush 6, 2) := by decide +kernel
theorem dX4_prepareUnits_5 : decode cX4_prepareUnits 5 = .ok (.if_icmp .ge 16, 3) := by decide +kernel
theorem dX4_prepareUnits_8 : decode cX4_prepareUnits 8 = .ok (.aload_n 0, 1) := by decide +kernel
theorem dX4_prepareUnits_9 : decode cX4_prepareUnits 9 = .ok (.getfield 37, 3) := by decide +kernel
theorem dX4_prepareUnits_12 : decode cX4_prepareUnits 12 = .ok (.iload_n 3, 1) := by decide +kernel
theorem dX4_prepareUnits_13 : decode cX4_prepareUnits 13 = .ok (.iconst 0, 1) := by decide +kernel
theorem dX4_prepareUnits_14 : decode cX4_prepareUnits 14 = .ok (.iastore, 1) := by decide +kernel
theorem dX4_prepareUnits_15 : decode cX4_prepareUnits 15 = .ok (.iinc 3 1, 3) := by decide +kernel
theorem dX4_prepareUnits_18 : decode cX4_prepareUnits 18 = .ok (.goto (-16), 3) := by decide +kernel
theorem dX4_prepareUnits_21 : decode cX4_prepareUnits 21 = .ok (.iconst 0, 1) := by decide +kernel
theorem dX4_prepareUnits_22 : decode cX4_prepareUnits 22 = .ok (.istore_n 3, 1) := by decide +kernel
theorem dX4_prepareUnits_23 : decode cX4_prepareUnits 23 = .ok (.iload_n 3, 1) := by decide +kernel
theorem dX4_prepareUnits_24 : decode cX4_prepareUnits 24 = .ok (.aload_n 0, 1) := by decide +kernel
theorem dX4_prepareUnits_25 : decode cX4_prepareUnits 25 = .ok (.getfield 22, 3) := by decide +kernel
theorem dX4_prepareUnits_28 : decode cX4_prepareUnits 28 = .ok (.if_icmp .ge 45, 3) := by decide +kernel
theorem dX4_prepareUnits_31 : decode cX4_prepareUnits 31 = .ok (.aload_n 1, 1) := by decide +kernel
theorem dX4_prepareUnits_32 : decode cX4_prepareUnits 32 = .ok (.getfield 68, 3) := by decide +kernel
theorem dX4_prepareUnits_35 : decode cX4_prepareUnits 35 = .ok (.aload_n 1, 1) := by decide +kernel
theorem dX4_prepareUnits_36 : decode cX4_prepareUnits 36 = .ok (.getfield 73, 3) := by decide +kernel
theorem dX4_prepareUnits_39 : decode cX4_prepareUnits 39 = .ok (.iload_n 2, 1) := by decide +kernel
theorem dX4_prepareUnits_40 : decode cX4_prepareUnits 40 = .ok (.iload_n 3, 1) := by decide +kernel
theorem dX4_prepareUnits_41 : decode cX4_prepareUnits 41 = .ok (.iadd, 1) := by decide +kernel
theorem dX4_prepareUnits_42 : decode cX4_prepareUnits 42 = .ok (.iaload, 1) := by decide +kernel
theorem dX4_prepareUnits_43 : decode cX4_prepareUnits 43 = .ok (.iaload, 1) := by decide +kernel
theorem dX4_prepareUnits_44 : decode cX4_prepareUnits 44 = .ok (.istore 4, 2) := by decide +kernel
theorem dX4_prepareUnits_46 : decode cX4_prepareUnits 46 = .ok (.aload_n 0, 1) := by decide +kernel
theorem dX4_prepareUnits_47 : decode cX4_prepareUnits 47 = .ok (.getfield 25, 3) := by decide +kernel
theorem dX4_prepareUnits_50 : decode cX4_prepareUnits 50 = .ok (.iload_n 3, 1) := by decide +kernel
theorem dX4_prepareUnits_51 : decode cX4_prepareUnits 51 = .ok (.iload 4, 2) := by decide +kernel
theorem dX4_prepareUnits_53 : decode cX4_prepareUnits 53 = .ok (.iastore, 1) := by decide +kernel
theorem dX4_prepareUnits_54 : decode cX4_prepareUnits 54 = .ok (.aload_n 0, 1) := by decide +kernel
theorem dX4_prepareUnits_55 : decode cX4_prepareUnits 55 = .ok (.getfield 37, 3) := by decide +kernel
theorem dX4_prepareUnits_58 : decode cX4_prepareUnits 58 = .ok (.iload 4, 2) := by decide +kernel
theorem dX4_prepareUnits_60 : decode cX4_prepareUnits 60 = .ok (.dup2, 1) := by decide +kernel
theorem dX4_prepareUnits_61 : decode cX4_prepareUnits 61 = .ok (.iaload, 1) := by decide +kernel
theorem dX4_prepareUnits_62 : decode cX4_prepareUnits 62 = .ok (.iconst 1, 1) := by decide +kernel
theorem dX4_prepareUnits_63 : decode cX4_prepareUnits 63 = .ok (.iload_n 3, 1) := by decide +kernel
theorem dX4_prepareUnits_64 : decode cX4_prepareUnits 64 = .ok (.ishl, 1) := by decide +kernel
theorem dX4_prepareUnits_65 : decode cX4_prepareUnits 65 = .ok (.ior, 1) := by decide +kernel
theorem dX4_prepareUnits_66 : decode cX4_prepareUnits 66 = .ok (.iastore, 1) := by decide +kernel
theorem dX4_prepareUnits_67 : decode cX4_prepareUnits 67 = .ok (.iinc 3 1, 3) := by decide +kernel
theorem dX4_prepareUnits_70 : decode cX4_prepareUnits 70 = .ok (.goto (-47), 3) := by decide +kernel
theorem dX4_prepareUnits_73 : decode cX4_prepareUnits 73 = .ok (.return_, 1) := by decide +kernel
abbrev VX4_prepareUnits_2 (E : En) (d : Nat) (g : Ga) (P : Hp → Prop) (x2 : Int32) (x3 : Int32) (h : Hp) : Prop := V E MX4_prepareUnits (RM d 0) g (QQ E g (QV E P) 0 0) 0 0 h 2 [(0, .ref (eA E 32)), (1, .ref (eA E 5)), (2, .int x2), (3, .int x3)] []
abbrev VX4_prepareUnits_23 (E : En) (d : Nat) (g : Ga) (P : Hp → Prop) (x2 : Int32) (x3 : Int32) (h : Hp) : Prop := V E MX4_prepareUnits (RM d 0) g (QQ E g (QV E P) 0 0) 0 0 h 23 [(0, .ref (eA E 32)), (1, .ref (eA E 5)), (2, .int x2), (3, .int x3)] []
set_option maxRecDepth 20000 in
theorem wp_X4_prepareUnits (E : En) (d : Nat) (a2 : Int32) (h : Hp) (P : Hp → Prop) (t : ∀ g : Ga, VX4_prepareUnits_2 E d g P a2 (0 : Int32) h) : SpV E d MX4_prepareUnits [.ref (eA E 32), .ref (eA E 5), .int a2] h P := by
  refine SpV.of (lv0 := [(0, .ref (eA E 32)), (1, .ref (eA E 5)), (2, .int a2)]) (by decide) (Nat.le_of_ble_eq_true rfl) rfl (fun g => ?_)
  have t := t g
  refine r_iconst (v := (0 : Int32)) dX4_prepareUnits_0 rfl ?_
  refine r_istore_n (lv' := [(3, .int (0 : Int32)), (0, .ref (eA E 32)), (1, .ref (eA E 5)), (2, .int a2)]) dX4_prepareUnits_1 rfl (by decide) rfl ?_
  refine r_sub [1, 2, 3, 0] rfl ?_
  exact t
set_option maxRecDepth 20000 in
theorem sg_X4_prepareUnits_2 (E : En) (d : Nat) (g : Ga) (x2 : Int32) (x3 : Int32) (h : Hp) (P : Hp → Prop) (t : ((6 : Int32) ≤ x3 → (VX4_prepareUnits_23 E d g P x2 (0 : Int32) h)) ∧ (¬ (6 : Int32) ≤ x3 → (vp_in x3 6 ∧ (VX4_prepareUnits_2 E d g P x2 (x3 + (1 : Int32)) (sI h 38 x3.toNatClampNeg (0 : Int32)))))) : VX4_prepareUnits_2 E d g P x2 x3 h := by
  refine r_iload_n (q := 3) dX4_prepareUnits_2 rfl rfl ?_
  refine r_bipush (v := (6 : Int32)) dX4_prepareUnits_3 rfl ?_
  refine r_icmp_ge (tgt := 21) dX4_prepareUnits_5 (by decide) (fun q1 => ?_) (fun q1 => ?_)
  · have t := t.1 q1
    refine r_iconst (v := (0 : Int32)) dX4_prepareUnits_21 rfl ?_
    refine r_istore_n (lv' := [(3, .int (0 : Int32)), (0, .ref (eA E 32)), (1, .ref (eA E 5)), (2, .int x2)]) dX4_prepareUnits_22 rfl (by decide) rfl ?_
    refine r_sub [1, 2, 3, 0] rfl ?_
    exact t
  · have t := t.2 q1
    refine r_aload_n (q := 0) dX4_prepareUnits_8 rfl rfl ?_
    refine r_getR (c := 32) (c2 := 38) dX4_prepareUnits_9 flX4_37 lay_32 rfl ?_
    refine r_iload_n (q := 3) dX4_prepareUnits_12 rfl rfl ?_
    refine r_iconst (v := (0 : Int32)) dX4_prepareUnits_13 rfl ?_
    obtain ⟨c2, t⟩ := t
    refine r_iast (c := 38) dX4_prepareUnits_14 lay_38 c2 ?_
    refine r_iinc (k := 3) (v := x3 + (1 : Int32)) (lv' := [(3, .int (x3 + (1 : Int32))), (0, .ref (eA E 32)), (1, .ref (eA E 5)), (2, .int x2)]) dX4_prepareUnits_15 rfl rfl (by decide) rfl ?_
    refine r_goto (tgt := 2) dX4_prepareUnits_18 (by decide) ?_
    refine r_sub [1, 2, 3, 0] rfl ?_
    exact t
set_option maxRecDepth 20000 in
theorem sg_X4_prepareUnits_23 (E : En) (d : Nat) (g : Ga) (x2 : Int32) (x3 : Int32) (h : Hp) (P : Hp → Prop) (t : ((h.1 32 3) ≤ x3 → (P h)) ∧ (¬ (h.1 32 3) ≤ x3 → (vp_in (x2 + x3) 192 ∧ (vp_in (h.1 15 ((x2 + x3).toNatClampNeg)) 12 ∧ (vp_in x3 10 ∧ (vp_in (h.1 7 ((h.1 15 ((x2 + x3).toNatClampNeg)).toNatClampNeg)) 6 ∧ (vp_in (h.1 7 ((h.1 15 ((x2 + x3).toNatClampNeg)).toNatClampNeg)) 6 ∧ (VX4_prepareUnits_23 E d g P x2 (x3 + (1 : Int32)) (sI (sI h 34 x3.toNatClampNeg (h.1 7 ((h.1 15 ((x2 + x3).toNatClampNeg)).toNatClampNeg))) 38 ((h.1 7 ((h.1 15 ((x2 + x3).toNatClampNeg)).toNatClampNeg)).toNatClampNeg) ((h.1 38 ((h.1 7 ((h.1 15 ((x2 + x3).toNatClampNeg)).toNatClampNeg)).toNatClampNeg)) ||| ((1 : Int32) <<< (x3 &&& 31)))))))))))) : VX4_prepareUnits_23 E d g P x2 x3 h := by
  refine r_iload_n (q := 3) dX4_prepareUnits_23 rfl rfl ?_
  refine r_aload_n (q := 0) dX4_prepareUnits_24 rfl rfl ?_
  refine r_getI (c := 32) dX4_prepareUnits_25 flX4_22 lay_32 rfl ?_
  refine r_icmp_ge (tgt := 73) dX4_prepareUnits_28 (by decide) (fun q1 => ?_) (fun q1 => ?_)
  · have t := t.1 q1
    exact r_vret dX4_prepareUnits_73 rfl t
  · have t := t.2 q1
    refine r_aload_n (q := 1) dX4_prepareUnits_31 rfl rfl ?_
    refine r_getR (c := 5) (c2 := 7) dX4_prepareUnits_32 flX4_68 lay_5 rfl ?_
    refine r_aload_n (q := 1) dX4_prepareUnits_35 rfl rfl ?_
    refine r_getR (c := 5) (c2 := 15) dX4_prepareUnits_36 flX4_73 lay_5 rfl ?_
    refine r_iload_n (q := 2) dX4_prepareUnits_39 rfl rfl ?_
    refine r_iload_n (q := 3) dX4_prepareUnits_40 rfl rfl ?_
    refine r_iadd dX4_prepareUnits_41 ?_
    obtain ⟨c2, t⟩ := t
    refine r_iald (c := 15) dX4_prepareUnits_42 lay_15 c2 ?_
    obtain ⟨c3, t⟩ := t
    refine r_iald (c := 7) dX4_prepareUnits_43 lay_7 c3 ?_
    refine r_istore (lv' := [(4, .int (h.1 7 ((h.1 15 ((x2 + x3).toNatClampNeg)).toNatClampNeg))), (0, .ref (eA E 32)), (1, .ref (eA E 5)), (2, .int x2), (3, .int x3)]) dX4_prepareUnits_44 (by decide) rfl ?_
    refine r_aload_n (q := 1) dX4_prepareUnits_46 rfl rfl ?_
    refine r_getR (c := 32) (c2 := 34) dX4_prepareUnits_47 flX4_25 lay_32 rfl ?_
    refine r_iload_n (q := 4) dX4_prepareUnits_50 rfl rfl ?_
    refine r_iload (q := 0) dX4_prepareUnits_51 rfl ?_
    obtain ⟨c4, t⟩ := t
    refine r_iast (c := 34) dX4_prepareUnits_53 lay_34 c4 ?_
    refine r_aload_n (q := 1) dX4_prepareUnits_54 rfl rfl ?_
    refine r_getR (c := 32) (c2 := 38) dX4_prepareUnits_55 flX4_37 lay_32 rfl ?_
    refine r_iload (q := 0) dX4_prepareUnits_58 rfl ?_
    refine r_dup2 dX4_prepareUnits_60 rfl rfl ?_
    obtain ⟨c5, t⟩ := t
    refine r_ialdv (c := 38) (v := h.1 38 ((h.1 7 ((h.1 15 ((x2 + x3).toNatClampNeg)).toNatClampNeg)).toNatClampNeg)) dX4_prepareUnits_61 lay_38 c5 rfl ?_
    refine r_iconst (v := (1 : Int32)) dX4_prepareUnits_62 rfl ?_
    refine r_iload_n (q := 4) dX4_prepareUnits_63 rfl rfl ?_
    refine r_ishl dX4_prepareUnits_64 ?_
    refine r_ior dX4_prepareUnits_65 ?_
    obtain ⟨c6, t⟩ := t
    refine r_iast (c := 38) dX4_prepareUnits_66 lay_38 c6 ?_
    refine r_iinc (k := 4) (v := x3 + (1 : Int32)) (lv' := [(3, .int (x3 + (1 : Int32))), (4, .int (h.1 7 ((h.1 15 ((x2 + x3).toNatClampNeg)).toNatClampNeg))), (0, .ref (eA E 32)), (1, .ref (eA E 5)), (2, .int x2)]) dX4_prepareUnits_67 rfl rfl (by decide) rfl ?_
    refine r_goto (tgt := 23) dX4_prepareUnits_70 (by decide) ?_
    refine r_sub [2, 3, 4, 0] rfl ?_
    exact t
theorem dX4_prepareTies_0 : decode cX4_prepareTies 0 = .ok (.iconst 0, 1) := by decide +kernel
theorem dX4_prepareTies_1 : decode cX4_prepareTies 1 = .ok (.istore_n 3, 1) := by decide +kernel
theorem dX4_prepareTies_2 : decode cX4_prepareTies 2 = .ok (.iload_n 3, 1) := by decide +kernel
theorem dX4_prepareTies_3 : decode cX4_prepareTies 3 = .ok (.aload_n 0, 1) := by decide +kernel
theorem dX4_prepareTies_4 : decode cX4_prepareTies 4 = .ok (.getfield 22, 3) := by decide +kernel
theorem dX4_prepareTies_7 : decode cX4_prepareTies 7 = .ok (.if_icmp .ge 102, 3) := by decide +kernel
theorem dX4_prepareTies_10 : decode cX4_prepareTies 10 = .ok (.aload_n 0, 1) := by decide +kernel
theorem dX4_prepareTies_11 : decode cX4_prepareTies 11 = .ok (.getfield 28, 3) := by decide +kernel
theorem dX4_prepareTies_14 : decode cX4_prepareTies 14 = .ok (.iload_n 3, 1) := by decide +kernel
theorem dX4_prepareTies_15 : decode cX4_prepareTies 15 = .ok (.iconst 0, 1) := by decide +kernel
theorem dX4_prepareTies_16 : decode cX4_prepareTies 16 = .ok (.iastore, 1) := by decide +kernel
theorem dX4_prepareTies_17 : decode cX4_prepareTies 17 = .ok (.aload_n 0, 1) := by decide +kernel
theorem dX4_prepareTies_18 : decode cX4_prepareTies 18 = .ok (.getfield 31, 3) := by decide +kernel
theorem dX4_prepareTies_21 : decode cX4_prepareTies 21 = .ok (.iload_n 3, 1) := by decide +kernel
theorem dX4_prepareTies_22 : decode cX4_prepareTies 22 = .ok (.iconst 0, 1) := by decide +kernel
theorem dX4_prepareTies_23 : decode cX4_prepareTies 23 = .ok (.iastore, 1) := by decide +kernel
theorem dX4_prepareTies_24 : decode cX4_prepareTies 24 = .ok (.iconst 0, 1) := by decide +kernel
theorem dX4_prepareTies_25 : decode cX4_prepareTies 25 = .ok (.istore 4, 2) := by decide +kernel
theorem dX4_prepareTies_27 : decode cX4_prepareTies 27 = .ok (.iload 4, 2) := by decide +kernel
theorem dX4_prepareTies_29 : decode cX4_prepareTies 29 = .ok (.iload_n 3, 1) := by decide +kernel
theorem dX4_prepareTies_30 : decode cX4_prepareTies 30 = .ok (.if_icmp .ge 73, 3) := by decide +kernel
theorem dX4_prepareTies_33 : decode cX4_prepareTies 33 = .ok (.aload_n 1, 1) := by decide +kernel
theorem dX4_prepareTies_34 : decode cX4_prepareTies 34 = .ok (.aload_n 1, 1) := by decide +kernel
theorem dX4_prepareTies_35 : decode cX4_prepareTies 35 = .ok (.getfield 73, 3) := by decide +kernel
theorem dX4_prepareTies_38 : decode cX4_prepareTies 38 = .ok (.iload_n 2, 1) := by decide +kernel
theorem dX4_prepareTies_39 : decode cX4_prepareTies 39 = .ok (.iload 4, 2) := by decide +kernel
theorem dX4_prepareTies_41 : decode cX4_prepareTies 41 = .ok (.iadd, 1) := by decide +kernel
theorem dX4_prepareTies_42 : decode cX4_prepareTies 42 = .ok (.iaload, 1) := by decide +kernel
theorem dX4_prepareTies_43 : decode cX4_prepareTies 43 = .ok (.aload_n 1, 1) := by decide +kernel
theorem dX4_prepareTies_44 : decode cX4_prepareTies 44 = .ok (.getfield 73, 3) := by decide +kernel
theorem dX4_prepareTies_47 : decode cX4_prepareTies 47 = .ok (.iload_n 2, 1) := by decide +kernel
theorem dX4_prepareTies_48 : decode cX4_prepareTies 48 = .ok (.iload_n 3, 1) := by decide +kernel
theorem dX4_prepareTies_49 : decode cX4_prepareTies 49 = .ok (.iadd, 1) := by decide +kernel
theorem dX4_prepareTies_50 : decode cX4_prepareTies 50 = .ok (.iaload, 1) := by decide +kernel
theorem dX4_prepareTies_51 : decode cX4_prepareTies 51 = .ok (.invokevirtual 76, 3) := by decide +kernel
theorem dX4_prepareTies_54 : decode cX4_prepareTies 54 = .ok (.istore 5, 2) := by decide +kernel
theorem dX4_prepareTies_56 : decode cX4_prepareTies 56 = .ok (.iload 5, 2) := by decide +kernel
theorem dX4_prepareTies_58 : decode cX4_prepareTies 58 = .ok (.iconst 2, 1) := by decide +kernel
theorem dX4_prepareTies_59 : decode cX4_prepareTies 59 = .ok (.if_icmp .ne 19, 3) := by decide +kernel
theorem dX4_prepareTies_62 : decode cX4_prepareTies 62 = .ok (.aload_n 0, 1) := by decide +kernel
theorem dX4_prepareTies_63 : decode cX4_prepareTies 63 = .ok (.getfield 28, 3) := by decide +kernel
theorem dX4_prepareTies_66 : decode cX4_prepareTies 66 = .ok (.iload_n 3, 1) := by decide +kernel
theorem dX4_prepareTies_67 : decode cX4_prepareTies 67 = .ok (.dup2, 1) := by decide +kernel
theorem dX4_prepareTies_68 : decode cX4_prepareTies 68 = .ok (.iaload, 1) := by decide +kernel
theorem dX4_prepareTies_69 : decode cX4_prepareTies 69 = .ok (.iconst 1, 1) := by decide +kernel
theorem dX4_prepareTies_70 : decode cX4_prepareTies 70 = .ok (.iload 4, 2) := by decide +kernel
theorem dX4_prepareTies_72 : decode cX4_prepareTies 72 = .ok (.ishl, 1) := by decide +kernel
theorem dX4_prepareTies_73 : decode cX4_prepareTies 73 = .ok (.ior, 1) := by decide +kernel
theorem dX4_prepareTies_74 : decode cX4_prepareTies 74 = .ok (.iastore, 1) := by decide +kernel
theorem dX4_prepareTies_75 : decode cX4_prepareTies 75 = .ok (.goto 22, 3) := by decide +kernel
theorem dX4_prepareTies_78 : decode cX4_prepareTies 78 = .ok (.iload 5, 2) := by decide +kernel
theorem dX4_prepareTies_80 : decode cX4_prepareTies 80 = .ok (.iconst 1, 1) := by decide +kernel
theorem dX4_prepareTies_81 : decode cX4_prepareTies 81 = .ok (.if_icmp .ne 16, 3) := by decide +kernel
theorem dX4_prepareTies_84 : decode cX4_prepareTies 84 = .ok (.aload_n 0, 1) := by decide +kernel
theorem dX4_prepareTies_85 : decode cX4_prepareTies 85 = .ok (.getfield 31, 3) := by decide +kernel
theorem dX4_prepareTies_88 : decode cX4_prepareTies 88 = .ok (.iload_n 3, 1) := by decide +kernel
theorem dX4_prepareTies_89 : decode cX4_prepareTies 89 = .ok (.dup2, 1) := by decide +kernel
theorem dX4_prepareTies_90 : decode cX4_prepareTies 90 = .ok (.iaload, 1) := by decide +kernel
theorem dX4_prepareTies_91 : decode cX4_prepareTies 91 = .ok (.iconst 1, 1) := by decide +kernel
theorem dX4_prepareTies_92 : decode cX4_prepareTies 92 = .ok (.iload 4, 2) := by decide +kernel
theorem dX4_prepareTies_94 : decode cX4_prepareTies 94 = .ok (.ishl, 1) := by decide +kernel
theorem dX4_prepareTies_95 : decode cX4_prepareTies 95 = .ok (.ior, 1) := by decide +kernel
theorem dX4_prepareTies_96 : decode cX4_prepareTies 96 = .ok (.iastore, 1) := by decide +kernel
theorem dX4_prepareTies_97 : decode cX4_prepareTies 97 = .ok (.iinc 4 1, 3) := by decide +kernel
theorem dX4_prepareTies_100 : decode cX4_prepareTies 100 = .ok (.goto (-73), 3) := by decide +kernel
theorem dX4_prepareTies_103 : decode cX4_prepareTies 103 = .ok (.iinc 3 1, 3) := by decide +kernel
theorem dX4_prepareTies_106 : decode cX4_prepareTies 106 = .ok (.goto (-104), 3) := by decide +kernel
theorem dX4_prepareTies_109 : decode cX4_prepareTies 109 = .ok (.return_, 1) := by decide +kernel
abbrev VX4_prepareTies_2 (E : En) (d : Nat) (g : Ga) (P : Hp → Prop) (x2 : Int32) (x3 : Int32) (h : Hp) : Prop := V E MX4_prepareTies (RM (d + 1) 0) g (QQ E g (QV E P) 0 0) 0 0 h 2 [(0, .ref (eA E 32)), (1, .ref (eA E 5)), (2, .int x2), (3, .int x3)] []
abbrev VX4_prepareTies_27 (E : En) (d : Nat) (g : Ga) (P : Hp → Prop) (x2 : Int32) (x3 : Int32) (x4 : Int32) (h : Hp) : Prop := V E MX4_prepareTies (RM (d + 1) 0) g (QQ E g (QV E P) 0 0) 0 0 h 27 [(0, .ref (eA E 32)), (1, .ref (eA E 5)), (2, .int x2), (3, .int x3), (4, .int x4)] []
set_option maxRecDepth 20000 in
theorem wp_X4_prepareTies (E : En) (d : Nat) (a2 : Int32) (h : Hp) (P : Hp → Prop) (t : ∀ g : Ga, VX4_prepareTies_2 E d g P a2 (0 : Int32) h) : SpV E (d + 1) MX4_prepareTies [.ref (eA E 32), .ref (eA E 5), .int a2] h P := by
  refine SpV.of (lv0 := [(0, .ref (eA E 32)), (1, .ref (eA E 5)), (2, .int a2)]) (by decide) (Nat.le_of_ble_eq_true rfl) rfl (fun g => ?_)
  have t := t g
  refine r_iconst (v := (0 : Int32)) dX4_prepareTies_0 rfl ?_
  refine r_istore_n (lv' := [(3, .int (0 : Int32)), (0, .ref (eA E 32)), (1, .ref (eA E 5)), (2, .int a2)]) dX4_prepareTies_1 rfl (by decide) rfl ?_
  refine r_sub [1, 2, 3, 0] rfl ?_
  exact t
set_option maxRecDepth 20000 in
theorem sg_X4_prepareTies_2 (E : En) (d : Nat) (g : Ga) (x2 : Int32) (x3 : Int32) (h : Hp) (P : Hp → Prop) (t : ((h.1 32 3) ≤ x3 → (P h)) ∧ (¬ (h.1 32 3) ≤ x3 → (vp_in x3 10 ∧ (vp_in x3 10 ∧ (VX4_prepareTies_27 E d g P x2 x3 (0 : Int32) (sI (sI h 35 x3.toNatClampNeg (0 : Int32)) 36 x3.toNatClampNeg (0 : Int32))))))) : VX4_prepareTies_2 E d g P x2 x3 h := by
  refine r_iload_n (q := 3) dX4_prepareTies_2 rfl rfl ?_
  refine r_aload_n (q := 0) dX4_prepareTies_3 rfl rfl ?_
  refine r_getI (c := 32) dX4_prepareTies_4 flX4_22 lay_32 rfl ?_
  refine r_icmp_ge (tgt := 109) dX4_prepareTies_7 (by decide) (fun q1 => ?_) (fun q1 => ?_)
  · have t := t.1 q1
    exact r_vret dX4_prepareTies_109 rfl t
  · have t := t.2 q1
    refine r_aload_n (q := 0) dX4_prepareTies_10 rfl rfl ?_
    refine r_getR (c := 32) (c2 := 35) dX4_prepareTies_11 flX4_28 lay_32 rfl ?_
    refine r_iload_n (q := 3) dX4_prepareTies_14 rfl rfl ?_
    refine r_iconst (v := (0 : Int32)) dX4_prepareTies_15 rfl ?_
    obtain ⟨c2, t⟩ := t
    refine r_iast (c := 35) dX4_prepareTies_16 lay_35 c2 ?_
    refine r_aload_n (q := 0) dX4_prepareTies_17 rfl rfl ?_
    refine r_getR (c := 32) (c2 := 36) dX4_prepareTies_18 flX4_31 lay_32 rfl ?_
    refine r_iload_n (q := 3) dX4_prepareTies_21 rfl rfl ?_
    refine r_iconst (v := (0 : Int32)) dX4_prepareTies_22 rfl ?_
    obtain ⟨c3, t⟩ := t
    refine r_iast (c := 36) dX4_prepareTies_23 lay_36 c3 ?_
    refine r_iconst (v := (0 : Int32)) dX4_prepareTies_24 rfl ?_
    refine r_istore (lv' := [(4, .int (0 : Int32)), (0, .ref (eA E 32)), (1, .ref (eA E 5)), (2, .int x2), (3, .int x3)]) dX4_prepareTies_25 (by decide) rfl ?_
    refine r_sub [1, 2, 3, 4, 0] rfl ?_
    exact t
set_option maxRecDepth 20000 in
theorem sg_X4_prepareTies_27 (E : En) (d : Nat) (g : Ga) (x2 : Int32) (x3 : Int32) (x4 : Int32) (h : Hp) (P : Hp → Prop) (t : (x3 ≤ x4 → (VX4_prepareTies_2 E d g P x2 (x3 + (1 : Int32)) h)) ∧ (¬ x3 ≤ x4 → (vp_in (x2 + x4) 192 ∧ (vp_in (x2 + x3) 192 ∧ (SpI E d MX6_tie [.ref (eA E 5), .int (h.1 15 ((x2 + x4).toNatClampNeg)), .int (h.1 15 ((x2 + x3).toNatClampNeg))] h (fun v4 h4 => (¬ v4 = (2 : Int32) → ((¬ v4 = (1 : Int32) → (VX4_prepareTies_27 E d g P x2 x3 (x4 + (1 : Int32)) h4)) ∧ (v4 = (1 : Int32) → (vp_in x3 10 ∧ (vp_in x3 10 ∧ (VX4_prepareTies_27 E d g P x2 x3 (x4 + (1 : Int32)) (sI h4 36 x3.toNatClampNeg ((h4.1 36 x3.toNatClampNeg) ||| ((1 : Int32) <<< (x4 &&& 31)))))))))) ∧ (v4 = (2 : Int32) → (vp_in x3 10 ∧ (vp_in x3 10 ∧ (VX4_prepareTies_27 E d g P x2 x3 (x4 + (1 : Int32)) (sI h4 35 x3.toNatClampNeg ((h4.1 35 x3.toNatClampNeg) ||| ((1 : Int32) <<< (x4 &&& 31)))))))))))))) : VX4_prepareTies_27 E d g P x2 x3 x4 h := by
  refine r_iload (q := 4) dX4_prepareTies_27 rfl ?_
  refine r_iload_n (q := 3) dX4_prepareTies_29 rfl rfl ?_
  refine r_icmp_ge (tgt := 103) dX4_prepareTies_30 (by decide) (fun q1 => ?_) (fun q1 => ?_)
  · have t := t.1 q1
    refine r_iinc (k := 3) (v := x3 + (1 : Int32)) (lv' := [(3, .int (x3 + (1 : Int32))), (0, .ref (eA E 32)), (1, .ref (eA E 5)), (2, .int x2), (4, .int x4)]) dX4_prepareTies_103 rfl rfl (by decide) rfl ?_
    refine r_goto (tgt := 2) dX4_prepareTies_106 (by decide) ?_
    refine r_sub [1, 2, 3, 0] rfl ?_
    exact t
  · have t := t.2 q1
    refine r_aload_n (q := 1) dX4_prepareTies_33 rfl rfl ?_
    refine r_aload_n (q := 1) dX4_prepareTies_34 rfl rfl ?_
    refine r_getR (c := 5) (c2 := 15) dX4_prepareTies_35 flX4_73 lay_5 rfl ?_
    refine r_iload_n (q := 2) dX4_prepareTies_38 rfl rfl ?_
    refine r_iload (q := 4) dX4_prepareTies_39 rfl ?_
    refine r_iadd dX4_prepareTies_41 ?_
    obtain ⟨c2, t⟩ := t
    refine r_iald (c := 15) dX4_prepareTies_42 lay_15 c2 ?_
    refine r_aload_n (q := 1) dX4_prepareTies_43 rfl rfl ?_
    refine r_getR (c := 5) (c2 := 15) dX4_prepareTies_44 flX4_73 lay_5 rfl ?_
    refine r_iload_n (q := 2) dX4_prepareTies_47 rfl rfl ?_
    refine r_iload_n (q := 3) dX4_prepareTies_48 rfl rfl ?_
    refine r_iadd dX4_prepareTies_49 ?_
    obtain ⟨c3, t⟩ := t
    refine r_iald (c := 15) dX4_prepareTies_50 lay_15 c3 ?_
    refine r_cVI (c := 5) (As := [.int (h.1 15 ((x2 + x4).toNatClampNeg)), .int (h.1 15 ((x2 + x3).toNatClampNeg))]) dX4_prepareTies_51 mkX6_tie lkX4_76 lay_5 rfl rfl rfl (by decide) rfl (Nat.le_of_ble_eq_true rfl) z00 t ?_
    intro v4 h4 t
    refine r_istore (lv' := [(5, .int v4), (0, .ref (eA E 32)), (1, .ref (eA E 5)), (2, .int x2), (3, .int x3), (4, .int x4)]) dX4_prepareTies_54 (by decide) rfl ?_
    refine r_iload (q := 0) dX4_prepareTies_56 rfl ?_
    refine r_iconst (v := (2 : Int32)) dX4_prepareTies_58 rfl ?_
    refine r_icmp_ne (tgt := 78) dX4_prepareTies_59 (by decide) (fun q5 => ?_) (fun q5 => ?_)
    · have t := t.1 q5
      refine r_iload (q := 0) dX4_prepareTies_78 rfl ?_
      refine r_iconst (v := (1 : Int32)) dX4_prepareTies_80 rfl ?_
      refine r_icmp_ne (tgt := 97) dX4_prepareTies_81 (by decide) (fun q6 => ?_) (fun q6 => ?_)
      · have t := t.1 q6
        refine r_iinc (k := 5) (v := x4 + (1 : Int32)) (lv' := [(4, .int (x4 + (1 : Int32))), (5, .int v4), (0, .ref (eA E 32)), (1, .ref (eA E 5)), (2, .int x2), (3, .int x3)]) dX4_prepareTies_97 rfl rfl (by decide) rfl ?_
        refine r_goto (tgt := 27) dX4_prepareTies_100 (by decide) ?_
        refine r_sub [2, 3, 4, 5, 0] rfl ?_
        exact t
      · have t := t.2 q6
        refine r_aload_n (q := 1) dX4_prepareTies_84 rfl rfl ?_
        refine r_getR (c := 32) (c2 := 36) dX4_prepareTies_85 flX4_31 lay_32 rfl ?_
        refine r_iload_n (q := 4) dX4_prepareTies_88 rfl rfl ?_
        refine r_dup2 dX4_prepareTies_89 rfl rfl ?_
        obtain ⟨c7, t⟩ := t
        refine r_iald (c := 36) dX4_prepareTies_90 lay_36 c7 ?_
        refine r_iconst (v := (1 : Int32)) dX4_prepareTies_91 rfl ?_
        refine r_iload (q := 5) dX4_prepareTies_92 rfl ?_
        refine r_ishl dX4_prepareTies_94 ?_
        refine r_ior dX4_prepareTies_95 ?_
        obtain ⟨c8, t⟩ := t
        refine r_iast (c := 36) dX4_prepareTies_96 lay_36 c8 ?_
        refine r_iinc (k := 5) (v := x4 + (1 : Int32)) (lv' := [(4, .int (x4 + (1 : Int32))), (5, .int v4), (0, .ref (eA E 32)), (1, .ref (eA E 5)), (2, .int x2), (3, .int x3)]) dX4_prepareTies_97 rfl rfl (by decide) rfl ?_
        refine r_goto (tgt := 27) dX4_prepareTies_100 (by decide) ?_
        refine r_sub [2, 3, 4, 5, 0] rfl ?_
        exact t
    · have t := t.2 q5
      refine r_aload_n (q := 1) dX4_prepareTies_62 rfl rfl ?_
      refine r_getR (c := 32) (c2 := 35) dX4_prepareTies_63 flX4_28 lay_32 rfl ?_
      refine r_iload_n (q := 4) dX4_prepareTies_66 rfl rfl ?_
      refine r_dup2 dX4_prepareTies_67 rfl rfl ?_
      obtain ⟨c9, t⟩ := t
      refine r_iald (c := 35) dX4_prepareTies_68 lay_35 c9 ?_
      refine r_iconst (v := (1 : Int32)) dX4_prepareTies_69 rfl ?_
      refine r_iload (q := 5) dX4_prepareTies_70 rfl ?_
      refine r_ishl dX4_prepareTies_72 ?_
      refine r_ior dX4_prepareTies_73 ?_
      obtain ⟨c10, t⟩ := t
      refine r_iast (c := 35) dX4_prepareTies_74 lay_35 c10 ?_
      refine r_goto (tgt := 97) dX4_prepareTies_75 (by decide) ?_
      refine r_iinc (k := 5) (v := x4 + (1 : Int32)) (lv' := [(4, .int (x4 + (1 : Int32))), (5, .int v4), (0, .ref (eA E 32)), (1, .ref (eA E 5)), (2, .int x2), (3, .int x3)]) dX4_prepareTies_97 rfl rfl (by decide) rfl ?_
      refine r_goto (tgt := 27) dX4_prepareTies_100 (by decide) ?_
      refine r_sub [2, 3, 4, 5, 0] rfl ?_
      exact t
theorem dX4_pack_0 : decode cX4_pack 0 = .ok (.aload_n 0, 1) := by decide +kernel
theorem dX4_pack_1 : decode cX4_pack 1 = .ok (.iload_n 3, 1) := by decide +kernel
theorem dX4_pack_2 : decode cX4_pack 2 = .ok (.iload_n 2, 1) := by decide +kernel
theorem dX4_pack_3 : decode cX4_pack 3 = .ok (.isub, 1) := by decide +kernel
theorem dX4_pack_4 : decode cX4_pack 4 = .ok (.putfield 22, 3) := by decide +kernel
theorem dX4_pack_7 : decode cX4_pack 7 = .ok (.aload_n 0, 1) := by decide +kernel
theorem dX4_pack_8 : decode cX4_pack 8 = .ok (.iconst 0, 1) := by decide +kernel
theorem dX4_pack_9 : decode cX4_pack 9 = .ok (.putfield 15, 3) := by decide +kernel
theorem dX4_pack_12 : decode cX4_pack 12 = .ok (.aload_n 0, 1) := by decide +kernel
theorem dX4_pack_13 : decode cX4_pack 13 = .ok (.aload_n 1, 1) := by decide +kernel
theorem dX4_pack_14 : decode cX4_pack 14 = .ok (.iload_n 2, 1) := by decide +kernel
theorem dX4_pack_15 : decode cX4_pack 15 = .ok (.invokevirtual 49, 3) := by decide +kernel
theorem dX4_pack_18 : decode cX4_pack 18 = .ok (.aload_n 0, 1) := by decide +kernel
theorem dX4_pack_19 : decode cX4_pack 19 = .ok (.aload_n 1, 1) := by decide +kernel
theorem dX4_pack_20 : decode cX4_pack 20 = .ok (.iload_n 2, 1) := by decide +kernel
theorem dX4_pack_21 : decode cX4_pack 21 = .ok (.invokevirtual 53, 3) := by decide +kernel
theorem dX4_pack_24 : decode cX4_pack 24 = .ok (.aload_n 0, 1) := by decide +kernel
theorem dX4_pack_25 : decode cX4_pack 25 = .ok (.invokevirtual 56, 3) := by decide +kernel
theorem dX4_pack_28 : decode cX4_pack 28 = .ok (.iload 4, 2) := by decide +kernel
theorem dX4_pack_30 : decode cX4_pack 30 = .ok (.ifCond .ne 10, 3) := by decide +kernel
theorem dX4_pack_33 : decode cX4_pack 33 = .ok (.aload_n 0, 1) := by decide +kernel
theorem dX4_pack_34 : decode cX4_pack 34 = .ok (.invokevirtual 59, 3) := by decide +kernel
theorem dX4_pack_37 : decode cX4_pack 37 = .ok (.goto 20, 3) := by decide +kernel
theorem dX4_pack_40 : decode cX4_pack 40 = .ok (.iload 4, 2) := by decide +kernel
theorem dX4_pack_42 : decode cX4_pack 42 = .ok (.iconst 1, 1) := by decide +kernel
theorem dX4_pack_43 : decode cX4_pack 43 = .ok (.if_icmp .ne 10, 3) := by decide +kernel
theorem dX4_pack_46 : decode cX4_pack 46 = .ok (.aload_n 0, 1) := by decide +kernel
theorem dX4_pack_47 : decode cX4_pack 47 = .ok (.invokevirtual 62, 3) := by decide +kernel
theorem dX4_pack_50 : decode cX4_pack 50 = .ok (.goto 7, 3) := by decide +kernel
theorem dX4_pack_53 : decode cX4_pack 53 = .ok (.aload_n 0, 1) := by decide +kernel
theorem dX4_pack_54 : decode cX4_pack 54 = .ok (.invokevirtual 65, 3) := by decide +kernel
theorem dX4_pack_57 : decode cX4_pack 57 = .ok (.return_, 1) := by decide +kernel
set_option maxRecDepth 20000 in
theorem wp_X4_pack (E : En) (d : Nat) (a2 : Int32) (a3 : Int32) (a4 : Int32) (h : Hp) (P : Hp → Prop) (t : SpV E d MX4_prepareUnits [.ref (eA E 32), .ref (eA E 5), .int a2] (sI (sI h 32 3 (a3 - a2)) 32 1 (0 : Int32)) (fun h1 => SpV E d MX4_prepareTies [.ref (eA E 32), .ref (eA E 5), .int a2] h1 (fun h2 => SpV E d MX4_prepareHeights [.ref (eA E 32)] h2 (fun h3 => (¬ a4 = 0 → ((¬ a4 = (1 : Int32) → (SpV E d MX4_packFewest [.ref (eA E 32)] h3 (fun h6 => P h6))) ∧ (a4 = (1 : Int32) → (SpV E d MX4_packByList [.ref (eA E 32)] h3 (fun h7 => P h7))))) ∧ (a4 = 0 → (SpV E d MX4_packOneByOne [.ref (eA E 32)] h3 (fun h8 => P h8))))))) : SpV E (d + 1) MX4_pack [.ref (eA E 32), .ref (eA E 5), .int a2, .int a3, .int a4] h P := by
  refine SpV.of (lv0 := [(0, .ref (eA E 32)), (1, .ref (eA E 5)), (2, .int a2), (3, .int a3), (4, .int a4)]) (by decide) (Nat.le_of_ble_eq_true rfl) rfl (fun g => ?_)
  refine r_aload_n (q := 0) dX4_pack_0 rfl rfl ?_
  refine r_iload_n (q := 3) dX4_pack_1 rfl rfl ?_
  refine r_iload_n (q := 2) dX4_pack_2 rfl rfl ?_
  refine r_isub dX4_pack_3 ?_
  refine r_putI (c := 32) dX4_pack_4 flX4_22 lay_32 rfl ?_
  refine r_aload_n (q := 0) dX4_pack_7 rfl rfl ?_
  refine r_iconst (v := (0 : Int32)) dX4_pack_8 rfl ?_
  refine r_putI (c := 32) dX4_pack_9 flX4_15 lay_32 rfl ?_
  refine r_aload_n (q := 0) dX4_pack_12 rfl rfl ?_
  refine r_aload_n (q := 1) dX4_pack_13 rfl rfl ?_
  refine r_iload_n (q := 2) dX4_pack_14 rfl rfl ?_
  refine r_cVV (c := 32) (As := [.ref (eA E 5), .int a2]) dX4_pack_15 mkX4_prepareUnits lkX4_49 lay_32 rfl rfl rfl (by decide) rfl (Nat.le_of_ble_eq_true rfl) z00 t ?_
  intro h1 t
  refine r_aload_n (q := 0) dX4_pack_18 rfl rfl ?_
  refine r_aload_n (q := 1) dX4_pack_19 rfl rfl ?_
  refine r_iload_n (q := 2) dX4_pack_20 rfl rfl ?_
  refine r_cVV (c := 32) (As := [.ref (eA E 5), .int a2]) dX4_pack_21 mkX4_prepareTies lkX4_53 lay_32 rfl rfl rfl (by decide) rfl (Nat.le_of_ble_eq_true rfl) z00 t ?_
  intro h2 t
  refine r_aload_n (q := 0) dX4_pack_24 rfl rfl ?_
  refine r_cVV (c := 32) (As := []) dX4_pack_25 mkX4_prepareHeights lkX4_56 lay_32 rfl rfl rfl (by decide) rfl (Nat.le_of_ble_eq_true rfl) z00 t ?_
  intro h3 t
  refine r_iload (q := 4) dX4_pack_28 rfl ?_
  refine r_if_ne (tgt := 40) dX4_pack_30 (by decide) (fun q4 => ?_) (fun q4 => ?_)
  · have t := t.1 q4
    refine r_iload (q := 4) dX4_pack_40 rfl ?_
    refine r_iconst (v := (1 : Int32)) dX4_pack_42 rfl ?_
    refine r_icmp_ne (tgt := 53) dX4_pack_43 (by decide) (fun q5 => ?_) (fun q5 => ?_)
    · have t := t.1 q5
      refine r_aload_n (q := 0) dX4_pack_53 rfl rfl ?_
      refine r_cVV (c := 32) (As := []) dX4_pack_54 mkX4_packFewest lkX4_65 lay_32 rfl rfl rfl (by decide) rfl (Nat.le_of_ble_eq_true rfl) z00 t ?_
      intro h6 t
      exact r_vret dX4_pack_57 rfl t
    · have t := t.2 q5
      refine r_aload_n (q := 0) dX4_pack_46 rfl rfl ?_
      refine r_cVV (c := 32) (As := []) dX4_pack_47 mkX4_packByList lkX4_62 lay_32 rfl rfl rfl (by decide) rfl (Nat.le_of_ble_eq_true rfl) z00 t ?_
      intro h7 t
      refine r_goto (tgt := 57) dX4_pack_50 (by decide) ?_
      exact r_vret dX4_pack_57 rfl t
  · have t := t.2 q4
    refine r_aload_n (q := 0) dX4_pack_33 rfl rfl ?_
    refine r_cVV (c := 32) (As := []) dX4_pack_34 mkX4_packOneByOne lkX4_59 lay_32 rfl rfl rfl (by decide) rfl (Nat.le_of_ble_eq_true rfl) z00 t ?_
    intro h8 t
    refine r_goto (tgt := 57) dX4_pack_37 (by decide) ?_
    exact r_vret dX4_pack_57 rfl t
theorem dX8_operationsOf_0 : decode cX8_operationsOf 0 = .ok (.iconst 0, 1) := by decide +kernel
theorem dX8_operationsOf_1 : decode cX8_operationsOf 1 = .ok (.istore_n 3, 1) := by decide +kernel
theorem dX8_operationsOf_2 : decode cX8_operationsOf 2 = .ok (.iconst 0, 1) := by decide +kernel
theorem dX8_operationsOf_3 : decode cX8_operationsOf 3 = .ok (.istore 4, 2) := by decide +kernel
theorem dX8_operationsOf_5 : decode cX8_operationsOf 5 = .ok (.iload 4, 2) := by decide +kernel
theorem dX8_operationsOf_7 : decode cX8_operationsOf 7 = .ok (.bipush 10, 2) := by decide +kernel
theorem dX8_operationsOf_9 : decode cX8_operationsOf 9 = .ok (.if_icmp .ge 32, 3) := by decide +kernel
theorem dX8_operationsOf_12 : decode cX8_operationsOf 12 = .ok (.iload_n 2, 1) := by decide +kernel
theorem dX8_operationsOf_13 : decode cX8_operationsOf 13 = .ok (.iconst 1, 1) := by decide +kernel
theorem dX8_operationsOf_14 : decode cX8_operationsOf 14 = .ok (.iload 4, 2) := by decide +kernel
theorem dX8_operationsOf_16 : decode cX8_operationsOf 16 = .ok (.ishl, 1) := by decide +kernel
theorem dX8_operationsOf_17 : decode cX8_operationsOf 17 = .ok (.iand, 1) := by decide +kernel
theorem dX8_operationsOf_18 : decode cX8_operationsOf 18 = .ok (.ifCond .eq 17, 3) := by decide +kernel
theorem dX8_operationsOf_21 : decode cX8_operationsOf 21 = .ok (.iload_n 3, 1) := by decide +kernel
theorem dX8_operationsOf_22 : decode cX8_operationsOf 22 = .ok (.iconst 1, 1) := by decide +kernel
theorem dX8_operationsOf_23 : decode cX8_operationsOf 23 = .ok (.aload_n 0, 1) := by decide +kernel
theorem dX8_operationsOf_24 : decode cX8_operationsOf 24 = .ok (.getfield 66, 3) := by decide +kernel
theorem dX8_operationsOf_27 : decode cX8_operationsOf 27 = .ok (.iload_n 1, 1) := by decide +kernel
theorem dX8_operationsOf_28 : decode cX8_operationsOf 28 = .ok (.iload 4, 2) := by decide +kernel
theorem dX8_operationsOf_30 : decode cX8_operationsOf 30 = .ok (.iadd, 1) := by decide +kernel
theorem dX8_operationsOf_31 : decode cX8_operationsOf 31 = .ok (.iaload, 1) := by decide +kernel
theorem dX8_operationsOf_32 : decode cX8_operationsOf 32 = .ok (.ishl, 1) := by decide +kernel
theorem dX8_operationsOf_33 : decode cX8_operationsOf 33 = .ok (.ior, 1) := by decide +kernel
theorem dX8_operationsOf_34 : decode cX8_operationsOf 34 = .ok (.istore_n 3, 1) := by decide +kernel
theorem dX8_operationsOf_35 : decode cX8_operationsOf 35 = .ok (.iinc 4 1, 3) := by decide +kernel
theorem dX8_operationsOf_38 : decode cX8_operationsOf 38 = .ok (.goto (-33), 3) := by decide +kernel
theorem dX8_operationsOf_41 : decode cX8_operationsOf 41 = .ok (.iload_n 3, 1) := by decide +kernel
theorem dX8_operationsOf_42 : decode cX8_operationsOf 42 = .ok (.ireturn, 1) := by decide +kernel
abbrev VX8_operationsOf_5 (E : En) (d : Nat) (g : Ga) (P : Int32 → Hp → Prop) (x1 : Int32) (x2 : Int32) (x3 : Int32) (x4 : Int32) (h : Hp) : Prop := V E MX8_operationsOf (RM d 0) g (QQ E g (QI E P) 0 0) 0 0 h 5 [(0, .ref (eA E 5)), (1, .int x1), (2, .int x2), (3, .int x3), (4, .int x4)] []
set_option maxRecDepth 20000 in
theorem wp_X8_operationsOf (E : En) (d : Nat) (a2 : Int32) (a3 : Int32) (h : Hp) (P : Int32 → Hp → Prop) (t : ∀ g : Ga, VX8_operationsOf_5 E d g P a2 a3 (0 : Int32) (0 : Int32) h) : SpI E d MX8_operationsOf [.ref (eA E 5), .int a2, .int a3] h P := by
  refine SpI.of (lv0 := [(0, .ref (eA E 5)), (1, .int a2), (2, .int a3)]) (by decide) (Nat.le_of_ble_eq_true rfl) rfl (fun g => ?_)
  have t := t g
  refine r_iconst (v := (0 : Int32)) dX8_operationsOf_0 rfl ?_
  refine r_istore_n (lv' := [(3, .int (0 : Int32)), (0, .ref (eA E 5)), (1, .int a2), (2, .int a3)]) dX8_operationsOf_1 rfl (by decide) rfl ?_
  refine r_iconst (v := (0 : Int32)) dX8_operationsOf_2 rfl ?_
  refine r_istore (lv' := [(4, .int (0 : Int32)), (3, .int (0 : Int32)), (0, .ref (eA E 5)), (1, .int a2), (2, .int a3)]) dX8_operationsOf_3 (by decide) rfl ?_
  refine r_sub [2, 3, 4, 1, 0] rfl ?_
  exact t
set_option maxRecDepth 20000 in
theorem sg_X8_operationsOf_5 (E : En) (d : Nat) (g : Ga) (x1 : Int32) (x2 : Int32) (x3 : Int32) (x4 : Int32) (h : Hp) (P : Int32 → Hp → Prop) (t : ((10 : Int32) ≤ x4 → (P x3 h)) ∧ (¬ (10 : Int32) ≤ x4 → (((x2 &&& ((1 : Int32) <<< (x4 &&& 31))) = 0 → (VX8_operationsOf_5 E d g P x1 x2 x3 (x4 + (1 : Int32)) h)) ∧ (¬ (x2 &&& ((1 : Int32) <<< (x4 &&& 31))) = 0 → (vp_in (x1 + x4) 192 ∧ (VX8_operationsOf_5 E d g P x1 x2 (x3 ||| ((1 : Int32) <<< ((h.1 15 ((x1 + x4).toNatClampNeg)) &&& 31))) (x4 + (1 : Int32)) h)))))) : VX8_operationsOf_5 E d g P x1 x2 x3 x4 h := by
  refine r_iload (q := 4) dX8_operationsOf_5 rfl ?_
  refine r_bipush (v := (10 : Int32)) dX8_operationsOf_7 rfl ?_
  refine r_icmp_ge (tgt := 41) dX8_operationsOf_9 (by decide) (fun q1 => ?_) (fun q1 => ?_)
  · have t := t.1 q1
    refine r_iload_n (q := 3) dX8_operationsOf_41 rfl rfl ?_
    exact r_iret dX8_operationsOf_42 rfl t
  · have t := t.2 q1
    refine r_iload_n (q := 2) dX8_operationsOf_12 rfl rfl ?_
    refine r_iconst (v := (1 : Int32)) dX8_operationsOf_13 rfl ?_
    refine r_iload (q := 4) dX8_operationsOf_14 rfl ?_
    refine r_ishl dX8_operationsOf_16 ?_
    refine r_iand dX8_operationsOf_17 ?_
    refine r_if_eq (tgt := 35) dX8_operationsOf_18 (by decide) (fun q2 => ?_) (fun q2 => ?_)
    · have t := t.1 q2
      refine r_iinc (k := 4) (v := x4 + (1 : Int32)) (lv' := [(4, .int (x4 + (1 : Int32))), (0, .ref (eA E 5)), (1, .int x1), (2, .int x2), (3, .int x3)]) dX8_operationsOf_35 rfl rfl (by decide) rfl ?_
      refine r_goto (tgt := 5) dX8_operationsOf_38 (by decide) ?_
      refine r_sub [1, 2, 3, 4, 0] rfl ?_
      exact t
    · have t := t.2 q2
      refine r_iload_n (q := 3) dX8_operationsOf_21 rfl rfl ?_
      refine r_iconst (v := (1 : Int32)) dX8_operationsOf_22 rfl ?_
      refine r_aload_n (q := 0) dX8_operationsOf_23 rfl rfl ?_
      refine r_getR (c := 5) (c2 := 15) dX8_operationsOf_24 flX8_66 lay_5 rfl ?_
      refine r_iload_n (q := 1) dX8_operationsOf_27 rfl rfl ?_
      refine r_iload (q := 4) dX8_operationsOf_28 rfl ?_
      refine r_iadd dX8_operationsOf_30 ?_
      obtain ⟨c3, t⟩ := t
      refine r_iald (c := 15) dX8_operationsOf_31 lay_15 c3 ?_
      refine r_ishl dX8_operationsOf_32 ?_
      refine r_ior dX8_operationsOf_33 ?_
      refine r_istore_n (lv' := [(3, .int (x3 ||| ((1 : Int32) <<< ((h.1 15 ((x1 + x4).toNatClampNeg)) &&& 31)))), (0, .ref (eA E 5)), (1, .int x1), (2, .int x2), (4, .int x4)]) dX8_operationsOf_34 rfl (by decide) rfl ?_
      refine r_iinc (k := 4) (v := x4 + (1 : Int32)) (lv' := [(4, .int (x4 + (1 : Int32))), (3, .int (x3 ||| ((1 : Int32) <<< ((h.1 15 ((x1 + x4).toNatClampNeg)) &&& 31)))), (0, .ref (eA E 5)), (1, .int x1), (2, .int x2)]) dX8_operationsOf_35 rfl rfl (by decide) rfl ?_
      refine r_goto (tgt := 5) dX8_operationsOf_38 (by decide) ?_
      refine r_sub [2, 3, 4, 1, 0] rfl ?_
      exact t
theorem dX8_addSegment_0 : decode cX8_addSegment 0 = .ok (.iload_n 2, 1) := by decide +kernel
theorem dX8_addSegment_1 : decode cX8_addSegment 1 = .ok (.bipush 24, 2) := by decide +kernel
theorem dX8_addSegment_3 : decode cX8_addSegment 3 = .ok (.imul, 1) := by decide +kernel
theorem dX8_addSegment_4 : decode cX8_addSegment 4 = .ok (.aload_n 0, 1) := by decide +kernel
theorem dX8_addSegment_5 : decode cX8_addSegment 5 = .ok (.getfield 9, 3) := by decide +kernel
theorem dX8_addSegment_8 : decode cX8_addSegment 8 = .ok (.iload_n 2, 1) := by decide +kernel
theorem dX8_addSegment_9 : decode cX8_addSegment 9 = .ok (.iaload, 1) := by decide +kernel
theorem dX8_addSegment_10 : decode cX8_addSegment 10 = .ok (.iadd, 1) := by decide +kernel
theorem dX8_addSegment_11 : decode cX8_addSegment 11 = .ok (.istore 5, 2) := by decide +kernel
theorem dX8_addSegment_13 : decode cX8_addSegment 13 = .ok (.iconst 0, 1) := by decide +kernel
theorem dX8_addSegment_14 : decode cX8_addSegment 14 = .ok (.istore 6, 2) := by decide +kernel
theorem dX8_addSegment_16 : decode cX8_addSegment 16 = .ok (.iload 6, 2) := by decide +kernel
theorem dX8_addSegment_18 : decode cX8_addSegment 18 = .ok (.aload 4, 2) := by decide +kernel
theorem dX8_addSegment_20 : decode cX8_addSegment 20 = .ok (.getfield 47, 3) := by decide +kernel
theorem dX8_addSegment_23 : decode cX8_addSegment 23 = .ok (.if_icmp .ge 59, 3) := by decide +kernel
theorem dX8_addSegment_26 : decode cX8_addSegment 26 = .ok (.aload_n 0, 1) := by decide +kernel
theorem dX8_addSegment_27 : decode cX8_addSegment 27 = .ok (.getfield 21, 3) := by decide +kernel
theorem dX8_addSegment_30 : decode cX8_addSegment 30 = .ok (.iload 5, 2) := by decide +kernel
theorem dX8_addSegment_32 : decode cX8_addSegment 32 = .ok (.iload 6, 2) := by decide +kernel
theorem dX8_addSegment_34 : decode cX8_addSegment 34 = .ok (.iadd, 1) := by decide +kernel
theorem dX8_addSegment_35 : decode cX8_addSegment 35 = .ok (.aload_n 1, 1) := by decide +kernel
theorem dX8_addSegment_36 : decode cX8_addSegment 36 = .ok (.iload_n 3, 1) := by decide +kernel
theorem dX8_addSegment_37 : decode cX8_addSegment 37 = .ok (.aload 4, 2) := by decide +kernel
theorem dX8_addSegment_39 : decode cX8_addSegment 39 = .ok (.getfield 51, 3) := by decide +kernel
theorem dX8_addSegment_42 : decode cX8_addSegment 42 = .ok (.iload 6, 2) := by decide +kernel
theorem dX8_addSegment_44 : decode cX8_addSegment 44 = .ok (.iaload, 1) := by decide +kernel
theorem dX8_addSegment_45 : decode cX8_addSegment 45 = .ok (.invokestatic 54, 3) := by decide +kernel
theorem dX8_addSegment_48 : decode cX8_addSegment 48 = .ok (.iastore, 1) := by decide +kernel
theorem dX8_addSegment_49 : decode cX8_addSegment 49 = .ok (.aload_n 0, 1) := by decide +kernel
theorem dX8_addSegment_50 : decode cX8_addSegment 50 = .ok (.getfield 24, 3) := by decide +kernel
theorem dX8_addSegment_53 : decode cX8_addSegment 53 = .ok (.iload 5, 2) := by decide +kernel
theorem dX8_addSegment_55 : decode cX8_addSegment 55 = .ok (.iload 6, 2) := by decide +kernel
theorem dX8_addSegment_57 : decode cX8_addSegment 57 = .ok (.iadd, 1) := by decide +kernel
theorem dX8_addSegment_58 : decode cX8_addSegment 58 = .ok (.iload 6, 2) := by decide +kernel
theorem dX8_addSegment_60 : decode cX8_addSegment 60 = .ok (.aload 4, 2) := by decide +kernel
theorem dX8_addSegment_62 : decode cX8_addSegment 62 = .ok (.getfield 47, 3) := by decide +kernel
theorem dX8_addSegment_65 : decode cX8_addSegment 65 = .ok (.iconst 1, 1) := by decide +kernel
theorem dX8_addSegment_66 : decode cX8_addSegment 66 = .ok (.isub, 1) := by decide +kernel
theorem dX8_addSegment_67 : decode cX8_addSegment 67 = .ok (.if_icmp .ne 7, 3) := by decide +kernel
theorem dX8_addSegment_70 : decode cX8_addSegment 70 = .ok (.iconst 1, 1) := by decide +kernel
theorem dX8_addSegment_71 : decode cX8_addSegment 71 = .ok (.goto 4, 3) := by decide +kernel
theorem dX8_addSegment_74 : decode cX8_addSegment 74 = .ok (.iconst 0, 1) := by decide +kernel
theorem dX8_addSegment_75 : decode cX8_addSegment 75 = .ok (.bastore, 1) := by decide +kernel
theorem dX8_addSegment_76 : decode cX8_addSegment 76 = .ok (.iinc 6 1, 3) := by decide +kernel
theorem dX8_addSegment_79 : decode cX8_addSegment 79 = .ok (.goto (-63), 3) := by decide +kernel
theorem dX8_addSegment_82 : decode cX8_addSegment 82 = .ok (.aload_n 0, 1) := by decide +kernel
theorem dX8_addSegment_83 : decode cX8_addSegment 83 = .ok (.getfield 9, 3) := by decide +kernel
theorem dX8_addSegment_86 : decode cX8_addSegment 86 = .ok (.iload_n 2, 1) := by decide +kernel
theorem dX8_addSegment_87 : decode cX8_addSegment 87 = .ok (.dup2, 1) := by decide +kernel
theorem dX8_addSegment_88 : decode cX8_addSegment 88 = .ok (.iaload, 1) := by decide +kernel
theorem dX8_addSegment_89 : decode cX8_addSegment 89 = .ok (.aload 4, 2) := by decide +kernel
theorem dX8_addSegment_91 : decode cX8_addSegment 91 = .ok (.getfield 47, 3) := by decide +kernel
theorem dX8_addSegment_94 : decode cX8_addSegment 94 = .ok (.iadd, 1) := by decide +kernel
theorem dX8_addSegment_95 : decode cX8_addSegment 95 = .ok (.iastore, 1) := by decide +kernel
theorem dX8_addSegment_96 : decode cX8_addSegment 96 = .ok (.aload_n 0, 1) := by decide +kernel
theorem dX8_addSegment_97 : decode cX8_addSegment 97 = .ok (.getfield 15, 3) := by decide +kernel
theorem dX8_addSegment_100 : decode cX8_addSegment 100 = .ok (.iload_n 2, 1) := by decide +kernel
theorem dX8_addSegment_101 : decode cX8_addSegment 101 = .ok (.dup2, 1) := by decide +kernel
theorem dX8_addSegment_102 : decode cX8_addSegment 102 = .ok (.iaload, 1) := by decide +kernel
theorem dX8_addSegment_103 : decode cX8_addSegment 103 = .ok (.aload 4, 2) := by decide +kernel
theorem dX8_addSegment_105 : decode cX8_addSegment 105 = .ok (.getfield 58, 3) := by decide +kernel
theorem dX8_addSegment_108 : decode cX8_addSegment 108 = .ok (.iadd, 1) := by decide +kernel
theorem dX8_addSegment_109 : decode cX8_addSegment 109 = .ok (.iastore, 1) := by decide +kernel
theorem dX8_addSegment_110 : decode cX8_addSegment 110 = .ok (.aload_n 0, 1) := by decide +kernel
theorem dX8_addSegment_111 : decode cX8_addSegment 111 = .ok (.getfield 18, 3) := by decide +kernel
theorem dX8_addSegment_114 : decode cX8_addSegment 114 = .ok (.iload_n 2, 1) := by decide +kernel
theorem dX8_addSegment_115 : decode cX8_addSegment 115 = .ok (.aload_n 0, 1) := by decide +kernel
theorem dX8_addSegment_116 : decode cX8_addSegment 116 = .ok (.getfield 18, 3) := by decide +kernel
theorem dX8_addSegment_119 : decode cX8_addSegment 119 = .ok (.iload_n 2, 1) := by decide +kernel
theorem dX8_addSegment_120 : decode cX8_addSegment 120 = .ok (.iaload, 1) := by decide +kernel
theorem dX8_addSegment_121 : decode cX8_addSegment 121 = .ok (.aload 4, 2) := by decide +kernel
theorem dX8_addSegment_123 : decode cX8_addSegment 123 = .ok (.getfield 47, 3) := by decide +kernel
theorem dX8_addSegment_126 : decode cX8_addSegment 126 = .ok (.invokestatic 61, 3) := by decide +kernel
theorem dX8_addSegment_129 : decode cX8_addSegment 129 = .ok (.iastore, 1) := by decide +kernel
theorem dX8_addSegment_130 : decode cX8_addSegment 130 = .ok (.return_, 1) := by decide +kernel
abbrev VX8_addSegment_16 (E : En) (d : Nat) (g : Ga) (P : Hp → Prop) (x2 : Int32) (x3 : Int32) (x5 : Int32) (x6 : Int32) (h : Hp) : Prop := V E MX8_addSegment (RM (d + 1) 0) g (QQ E g (QV E P) 0 0) 0 0 h 16 [(0, .ref (eA E 40)), (1, .ref (eA E 5)), (2, .int x2), (3, .int x3), (4, .ref (eA E 32)), (5, .int x5), (6, .int x6)] []
set_option maxRecDepth 20000 in
theorem wp_X8_addSegment (E : En) (d : Nat) (a2 : Int32) (a3 : Int32) (h : Hp) (P : Hp → Prop) (t : ∀ g : Ga, vp_in a2 8 ∧ (VX8_addSegment_16 E d g P a2 a3 ((a2 * (24 : Int32)) + (h.1 41 a2.toNatClampNeg)) (0 : Int32) h)) : SpV E (d + 1) MX8_addSegment [.ref (eA E 40), .ref (eA E 5), .int a2, .int a3, .ref (eA E 32)] h P := by
  refine SpV.of (lv0 := [(0, .ref (eA E 40)), (1, .ref (eA E 5)), (2, .int a2), (3, .int a3), (4, .ref (eA E 32))]) (by decide) (Nat.le_of_ble_eq_true rfl) rfl (fun g => ?_)
  have t := t g
  refine r_iload_n (q := 2) dX8_addSegment_0 rfl rfl ?_
  refine r_bipush (v := (24 : Int32)) dX8_addSegment_1 rfl ?_
  refine r_imul dX8_addSegment_3 ?_
  refine r_aload_n (q := 0) dX8_addSegment_4 rfl rfl ?_
  refine r_getR (c := 40) (c2 := 41) dX8_addSegment_5 flX8_9 lay_40 rfl ?_
  refine r_iload_n (q := 2) dX8_addSegment_8 rfl rfl ?_
  obtain ⟨c1, t⟩ := t
  refine r_iald (c := 41) dX8_addSegment_9 lay_41 c1 ?_
  refine r_iadd dX8_addSegment_10 ?_
  refine r_istore (lv' := [(5, .int ((a2 * (24 : Int32)) + (h.1 41 a2.toNatClampNeg))), (0, .ref (eA E 40)), (1, .ref (eA E 5)), (2, .int a2), (3, .int a3), (4, .ref (eA E 32))]) dX8_addSegment_11 (by decide) rfl ?_
  refine r_iconst (v := (0 : Int32)) dX8_addSegment_13 rfl ?_
  refine r_istore (lv' := [(6, .int (0 : Int32)), (5, .int ((a2 * (24 : Int32)) + (h.1 41 a2.toNatClampNeg))), (0, .ref (eA E 40)), (1, .ref (eA E 5)), (2, .int a2), (3, .int a3), (4, .ref (eA E 32))]) dX8_addSegment_14 (by decide) rfl ?_
  refine r_sub [2, 3, 4, 5, 6, 1, 0] rfl ?_
  exact t
set_option maxRecDepth 20000 in
theorem sg_X8_addSegment_16 (E : En) (d : Nat) (g : Ga) (x2 : Int32) (x3 : Int32) (x5 : Int32) (x6 : Int32) (h : Hp) (P : Hp → Prop) (t : ((h.1 32 1) ≤ x6 → (vp_in x2 8 ∧ (vp_in x2 8 ∧ (vp_in x2 8 ∧ (vp_in x2 8 ∧ (vp_in x2 8 ∧ (vp_in x2 8 ∧ (P (sI (sI (sI h 41 x2.toNatClampNeg ((h.1 41 x2.toNatClampNeg) + (h.1 32 1))) 42 x2.toNatClampNeg ((h.1 42 x2.toNatClampNeg) + (h.1 32 2))) 43 x2.toNatClampNeg (if (h.1 43 x2.toNatClampNeg) < (h.1 32 1) then (h.1 32 1) else (h.1 43 x2.toNatClampNeg))))))))))) ∧ (¬ (h.1 32 1) ≤ x6 → (vp_in x6 10 ∧ (SpI E d MX8_operationsOf [.ref (eA E 5), .int x3, .int (h.1 33 x6.toNatClampNeg)] h (fun v9 h9 => vp_in (x5 + x6) 192 ∧ ((¬ x6 = ((h9.1 32 1) - (1 : Int32)) → (vp_in (x5 + x6) 192 ∧ (VX8_addSegment_16 E d g P x2 x3 x5 (x6 + (1 : Int32)) (sI (sI h9 44 ((x5 + x6).toNatClampNeg) v9) 45 ((x5 + x6).toNatClampNeg) (vp_nar .boolean (0 : Int32)))))) ∧ (x6 = ((h9.1 32 1) - (1 : Int32)) → (vp_in (x5 + x6) 192 ∧ (VX8_addSegment_16 E d g P x2 x3 x5 (x6 + (1 : Int32)) (sI (sI h9 44 ((x5 + x6).toNatClampNeg) v9) 45 ((x5 + x6).toNatClampNeg) (vp_nar .boolean (1 : Int32)))))))))))) : VX8_addSegment_16 E d g P x2 x3 x5 x6 h := by
  refine r_iload (q := 6) dX8_addSegment_16 rfl ?_
  refine r_aload (q := 4) dX8_addSegment_18 rfl ?_
  refine r_getI (c := 32) dX8_addSegment_20 flX8_47 lay_32 rfl ?_
  refine r_icmp_ge (tgt := 82) dX8_addSegment_23 (by decide) (fun q1 => ?_) (fun q1 => ?_)
  · have t := t.1 q1
    refine r_aload_n (q := 0) dX8_addSegment_82 rfl rfl ?_
    refine r_getR (c := 40) (c2 := 41) dX8_addSegment_83 flX8_9 lay_40 rfl ?_
    refine r_iload_n (q := 2) dX8_addSegment_86 rfl rfl ?_
    refine r_dup2 dX8_addSegment_87 rfl rfl ?_
    obtain ⟨c2, t⟩ := t
    refine r_iald (c := 41) dX8_addSegment_88 lay_41 c2 ?_
    refine r_aload (q := 4) dX8_addSegment_89 rfl ?_
    refine r_getI (c := 32) dX8_addSegment_91 flX8_47 lay_32 rfl ?_
    refine r_iadd dX8_addSegment_94 ?_
    obtain ⟨c3, t⟩ := t
    refine r_iast (c := 41) dX8_addSegment_95 lay_41 c3 ?_
    refine r_aload_n (q := 0) dX8_addSegment_96 rfl rfl ?_
    refine r_getR (c := 40) (c2 := 42) dX8_addSegment_97 flX8_15 lay_40 rfl ?_
    refine r_iload_n (q := 2) dX8_addSegment_100 rfl rfl ?_
    refine r_dup2 dX8_addSegment_101 rfl rfl ?_
    obtain ⟨c4, t⟩ := t
    refine r_ialdv (c := 42) (v := h.1 42 x2.toNatClampNeg) dX8_addSegment_102 lay_42 c4 rfl ?_
    refine r_aload (q := 4) dX8_addSegment_103 rfl ?_
    refine r_getIv (c := 32) (v := h.1 32 2) dX8_addSegment_105 flX8_58 lay_32 rfl rfl ?_
    refine r_iadd dX8_addSegment_108 ?_
    obtain ⟨c5, t⟩ := t
    refine r_iast (c := 42) dX8_addSegment_109 lay_42 c5 ?_
    refine r_aload_n (q := 0) dX8_addSegment_110 rfl rfl ?_
    refine r_getR (c := 40) (c2 := 43) dX8_addSegment_111 flX8_18 lay_40 rfl ?_
    refine r_iload_n (q := 2) dX8_addSegment_114 rfl rfl ?_
    refine r_aload_n (q := 0) dX8_addSegment_115 rfl rfl ?_
    refine r_getR (c := 40) (c2 := 43) dX8_addSegment_116 flX8_18 lay_40 rfl ?_
    refine r_iload_n (q := 2) dX8_addSegment_119 rfl rfl ?_
    obtain ⟨c6, t⟩ := t
    refine r_ialdv (c := 43) (v := h.1 43 x2.toNatClampNeg) dX8_addSegment_120 lay_43 c6 rfl ?_
    refine r_aload (q := 4) dX8_addSegment_121 rfl ?_
    refine r_getIv (c := 32) (v := h.1 32 1) dX8_addSegment_123 flX8_47 lay_32 rfl rfl ?_
    refine r_max dX8_addSegment_126 lkX8_61 (Nat.le_of_ble_eq_true rfl) z00 ?_
    obtain ⟨c7, t⟩ := t
    refine r_iast (c := 43) dX8_addSegment_129 lay_43 c7 ?_
    exact r_vret dX8_addSegment_130 rfl t
  · have t := t.2 q1
    refine r_aload_n (q := 0) dX8_addSegment_26 rfl rfl ?_
    refine r_getR (c := 40) (c2 := 44) dX8_addSegment_27 flX8_21 lay_40 rfl ?_
    refine r_iload (q := 5) dX8_addSegment_30 rfl ?_
    refine r_iload (q := 6) dX8_addSegment_32 rfl ?_
    refine r_iadd dX8_addSegment_34 ?_
    refine r_aload_n (q := 1) dX8_addSegment_35 rfl rfl ?_
    refine r_iload_n (q := 3) dX8_addSegment_36 rfl rfl ?_
    refine r_aload (q := 4) dX8_addSegment_37 rfl ?_
    refine r_getR (c := 32) (c2 := 33) dX8_addSegment_39 flX8_51 lay_32 rfl ?_
    refine r_iload (q := 6) dX8_addSegment_42 rfl ?_
    obtain ⟨c8, t⟩ := t
    refine r_iald (c := 33) dX8_addSegment_44 lay_33 c8 ?_
    refine r_cSI (As := [.ref (eA E 5), .int x3, .int (h.1 33 x6.toNatClampNeg)]) dX8_addSegment_45 mkX8_operationsOf lkX8_54 rfl (by decide) rfl (Nat.le_of_ble_eq_true rfl) z00 t ?_
    intro v9 h9 t
    obtain ⟨c10, t⟩ := t
    refine r_iast (c := 44) dX8_addSegment_48 lay_44 c10 ?_
    refine r_aload_n (q := 0) dX8_addSegment_49 rfl rfl ?_
    refine r_getR (c := 40) (c2 := 45) dX8_addSegment_50 flX8_24 lay_40 rfl ?_
    refine r_iload (q := 5) dX8_addSegment_53 rfl ?_
    refine r_iload (q := 6) dX8_addSegment_55 rfl ?_
    refine r_iadd dX8_addSegment_57 ?_
    refine r_iload (q := 6) dX8_addSegment_58 rfl ?_
    refine r_aload (q := 4) dX8_addSegment_60 rfl ?_
    refine r_getIv (c := 32) (v := h9.1 32 1) dX8_addSegment_62 flX8_47 lay_32 rfl rfl ?_
    refine r_iconst (v := (1 : Int32)) dX8_addSegment_65 rfl ?_
    refine r_isub dX8_addSegment_66 ?_
    refine r_icmp_ne (tgt := 74) dX8_addSegment_67 (by decide) (fun q11 => ?_) (fun q11 => ?_)
    · have t := t.1 q11
      refine r_iconst (v := (0 : Int32)) dX8_addSegment_74 rfl ?_
      obtain ⟨c12, t⟩ := t
      refine r_zast (c := 45) dX8_addSegment_75 lay_45 c12 ?_
      refine r_iinc (k := 6) (v := x6 + (1 : Int32)) (lv' := [(6, .int (x6 + (1 : Int32))), (0, .ref (eA E 40)), (1, .ref (eA E 5)), (2, .int x2), (3, .int x3), (4, .ref (eA E 32)), (5, .int x5)]) dX8_addSegment_76 rfl rfl (by decide) rfl ?_
      refine r_goto (tgt := 16) dX8_addSegment_79 (by decide) ?_
      refine r_sub [1, 2, 3, 4, 5, 6, 0] rfl ?_
      exact t
    · have t := t.2 q11
      refine r_iconst (v := (1 : Int32)) dX8_addSegment_70 rfl ?_
      refine r_goto (tgt := 75) dX8_addSegment_71 (by decide) ?_
      obtain ⟨c13, t⟩ := t
      refine r_zast (c := 45) dX8_addSegment_75 lay_45 c13 ?_
      refine r_iinc (k := 6) (v := x6 + (1 : Int32)) (lv' := [(6, .int (x6 + (1 : Int32))), (0, .ref (eA E 40)), (1, .ref (eA E 5)), (2, .int x2), (3, .int x3), (4, .ref (eA E 32)), (5, .int x5)]) dX8_addSegment_76 rfl rfl (by decide) rfl ?_
      refine r_goto (tgt := 16) dX8_addSegment_79 (by decide) ?_
      refine r_sub [1, 2, 3, 4, 5, 6, 0] rfl ?_
      exact t
theorem dX8_pack_0 : decode cX8_pack 0 = .ok (.iload_n 2, 1) := by decide +kernel
theorem dX8_pack_1 : decode cX8_pack 1 = .ok (.bipush 24, 2) := by decide +kernel
theorem dX8_pack_3 : decode cX8_pack 3 = .ok (.imul, 1) := by decide +kernel
theorem dX8_pack_4 : decode cX8_pack 4 = .ok (.istore 5, 2) := by decide +kernel
theorem dX8_pack_6 : decode cX8_pack 6 = .ok (.aload_n 0, 1) := by decide +kernel
theorem dX8_pack_7 : decode cX8_pack 7 = .ok (.getfield 9, 3) := by decide +kernel
theorem dX8_pack_10 : decode cX8_pack 10 = .ok (.iload_n 2, 1) := by decide +kernel
theorem dX8_pack_11 : decode cX8_pack 11 = .ok (.iconst 0, 1) := by decide +kernel
theorem dX8_pack_12 : decode cX8_pack 12 = .ok (.iastore, 1) := by decide +kernel
theorem dX8_pack_13 : decode cX8_pack 13 = .ok (.aload_n 0, 1) := by decide +kernel
theorem dX8_pack_14 : decode cX8_pack 14 = .ok (.getfield 15, 3) := by decide +kernel
theorem dX8_pack_17 : decode cX8_pack 17 = .ok (.iload_n 2, 1) := by decide +kernel
theorem dX8_pack_18 : decode cX8_pack 18 = .ok (.iconst 0, 1) := by decide +kernel
theorem dX8_pack_19 : decode cX8_pack 19 = .ok (.iastore, 1) := by decide +kernel
theorem dX8_pack_20 : decode cX8_pack 20 = .ok (.aload_n 0, 1) := by decide +kernel
theorem dX8_pack_21 : decode cX8_pack 21 = .ok (.getfield 18, 3) := by decide +kernel
theorem dX8_pack_24 : decode cX8_pack 24 = .ok (.iload_n 2, 1) := by decide +kernel
theorem dX8_pack_25 : decode cX8_pack 25 = .ok (.iconst 0, 1) := by decide +kernel
theorem dX8_pack_26 : decode cX8_pack 26 = .ok (.iastore, 1) := by decide +kernel
theorem dX8_pack_27 : decode cX8_pack 27 = .ok (.iconst 0, 1) := by decide +kernel
theorem dX8_pack_28 : decode cX8_pack 28 = .ok (.istore 6, 2) := by decide +kernel
theorem dX8_pack_30 : decode cX8_pack 30 = .ok (.iconst 0, 1) := by decide +kernel
theorem dX8_pack_31 : decode cX8_pack 31 = .ok (.istore 7, 2) := by decide +kernel
theorem dX8_pack_33 : decode cX8_pack 33 = .ok (.iload 7, 2) := by decide +kernel
theorem dX8_pack_35 : decode cX8_pack 35 = .ok (.bipush 24, 2) := by decide +kernel
theorem dX8_pack_37 : decode cX8_pack 37 = .ok (.if_icmp .ge 63, 3) := by decide +kernel
theorem dX8_pack_40 : decode cX8_pack 40 = .ok (.iload 6, 2) := by decide +kernel
theorem dX8_pack_42 : decode cX8_pack 42 = .ok (.aload_n 1, 1) := by decide +kernel
theorem dX8_pack_43 : decode cX8_pack 43 = .ok (.getfield 28, 3) := by decide +kernel
theorem dX8_pack_46 : decode cX8_pack 46 = .ok (.iload_n 2, 1) := by decide +kernel
theorem dX8_pack_47 : decode cX8_pack 47 = .ok (.iaload, 1) := by decide +kernel
theorem dX8_pack_48 : decode cX8_pack 48 = .ok (.if_icmp .ge 52, 3) := by decide +kernel
theorem dX8_pack_51 : decode cX8_pack 51 = .ok (.aload_n 1, 1) := by decide +kernel
theorem dX8_pack_52 : decode cX8_pack 52 = .ok (.iload_n 2, 1) := by decide +kernel
theorem dX8_pack_53 : decode cX8_pack 53 = .ok (.iload 6, 2) := by decide +kernel
theorem dX8_pack_55 : decode cX8_pack 55 = .ok (.invokevirtual 33, 3) := by decide +kernel
theorem dX8_pack_58 : decode cX8_pack 58 = .ok (.istore 8, 2) := by decide +kernel
theorem dX8_pack_60 : decode cX8_pack 60 = .ok (.aload 4, 2) := by decide +kernel
theorem dX8_pack_62 : decode cX8_pack 62 = .ok (.aload_n 1, 1) := by decide +kernel
theorem dX8_pack_63 : decode cX8_pack 63 = .ok (.iload 5, 2) := by decide +kernel
theorem dX8_pack_65 : decode cX8_pack 65 = .ok (.iload 6, 2) := by decide +kernel
theorem dX8_pack_67 : decode cX8_pack 67 = .ok (.iadd, 1) := by decide +kernel
theorem dX8_pack_68 : decode cX8_pack 68 = .ok (.iload 5, 2) := by decide +kernel
theorem dX8_pack_70 : decode cX8_pack 70 = .ok (.iload 8, 2) := by decide +kernel
theorem dX8_pack_72 : decode cX8_pack 72 = .ok (.iadd, 1) := by decide +kernel
theorem dX8_pack_73 : decode cX8_pack 73 = .ok (.iload_n 3, 1) := by decide +kernel
theorem dX8_pack_74 : decode cX8_pack 74 = .ok (.invokevirtual 37, 3) := by decide +kernel
theorem dX8_pack_77 : decode cX8_pack 77 = .ok (.aload_n 0, 1) := by decide +kernel
theorem dX8_pack_78 : decode cX8_pack 78 = .ok (.aload_n 1, 1) := by decide +kernel
theorem dX8_pack_79 : decode cX8_pack 79 = .ok (.iload_n 2, 1) := by decide +kernel
theorem dX8_pack_80 : decode cX8_pack 80 = .ok (.iload 5, 2) := by decide +kernel
theorem dX8_pack_82 : decode cX8_pack 82 = .ok (.iload 6, 2) := by decide +kernel
theorem dX8_pack_84 : decode cX8_pack 84 = .ok (.iadd, 1) := by decide +kernel
theorem dX8_pack_85 : decode cX8_pack 85 = .ok (.aload 4, 2) := by decide +kernel
theorem dX8_pack_87 : decode cX8_pack 87 = .ok (.invokevirtual 43, 3) := by decide +kernel
theorem dX8_pack_90 : decode cX8_pack 90 = .ok (.iload 8, 2) := by decide +kernel
theorem dX8_pack_92 : decode cX8_pack 92 = .ok (.istore 6, 2) := by decide +kernel
theorem dX8_pack_94 : decode cX8_pack 94 = .ok (.iinc 7 1, 3) := by decide +kernel
theorem dX8_pack_97 : decode cX8_pack 97 = .ok (.goto (-64), 3) := by decide +kernel
theorem dX8_pack_100 : decode cX8_pack 100 = .ok (.return_, 1) := by decide +kernel
abbrev VX8_pack_33 (E : En) (d : Nat) (g : Ga) (P : Hp → Prop) (x2 : Int32) (x3 : Int32) (x5 : Int32) (x6 : Int32) (x7 : Int32) (h : Hp) : Prop := V E MX8_pack (RM (d + 1) 0) g (QQ E g (QV E P) 0 0) 0 0 h 33 [(0, .ref (eA E 40)), (1, .ref (eA E 5)), (2, .int x2), (3, .int x3), (4, .ref (eA E 32)), (5, .int x5), (6, .int x6), (7, .int x7)] []
set_option maxRecDepth 20000 in
theorem wp_X8_pack (E : En) (d : Nat) (a2 : Int32) (a3 : Int32) (h : Hp) (P : Hp → Prop) (t : ∀ g : Ga, vp_in a2 8 ∧ (vp_in a2 8 ∧ (vp_in a2 8 ∧ (VX8_pack_33 E d g P a2 a3 (a2 * (24 : Int32)) (0 : Int32) (0 : Int32) (sI (sI (sI h 41 a2.toNatClampNeg (0 : Int32)) 42 a2.toNatClampNeg (0 : Int32)) 43 a2.toNatClampNeg (0 : Int32)))))) : SpV E (d + 1) MX8_pack [.ref (eA E 40), .ref (eA E 5), .int a2, .int a3, .ref (eA E 32)] h P := by
  refine SpV.of (lv0 := [(0, .ref (eA E 40)), (1, .ref (eA E 5)), (2, .int a2), (3, .int a3), (4, .ref (eA E 32))]) (by decide) (Nat.le_of_ble_eq_true rfl) rfl (fun g => ?_)
  have t := t g
  refine r_iload_n (q := 2) dX8_pack_0 rfl rfl ?_
  refine r_bipush (v := (24 : Int32)) dX8_pack_1 rfl ?_
  refine r_imul dX8_pack_3 ?_
  refine r_istore (lv' := [(5, .int (a2 * (24 : Int32))), (0, .ref (eA E 40)), (1, .ref (eA E 5)), (2, .int a2), (3, .int a3), (4, .ref (eA E 32))]) dX8_pack_4 (by decide) rfl ?_
  refine r_aload_n (q := 1) dX8_pack_6 rfl rfl ?_
  refine r_getR (c := 40) (c2 := 41) dX8_pack_7 flX8_9 lay_40 rfl ?_
  refine r_iload_n (q := 3) dX8_pack_10 rfl rfl ?_
  refine r_iconst (v := (0 : Int32)) dX8_pack_11 rfl ?_
  obtain ⟨c1, t⟩ := t
  refine r_iast (c := 41) dX8_pack_12 lay_41 c1 ?_
  refine r_aload_n (q := 1) dX8_pack_13 rfl rfl ?_
  refine r_getR (c := 40) (c2 := 42) dX8_pack_14 flX8_15 lay_40 rfl ?_
  refine r_iload_n (q := 3) dX8_pack_17 rfl rfl ?_
  refine r_iconst (v := (0 : Int32)) dX8_pack_18 rfl ?_
  obtain ⟨c2, t⟩ := t
  refine r_iast (c := 42) dX8_pack_19 lay_42 c2 ?_
  refine r_aload_n (q := 1) dX8_pack_20 rfl rfl ?_
  refine r_getR (c := 40) (c2 := 43) dX8_pack_21 flX8_18 lay_40 rfl ?_
  refine r_iload_n (q := 3) dX8_pack_24 rfl rfl ?_
  refine r_iconst (v := (0 : Int32)) dX8_pack_25 rfl ?_
  obtain ⟨c3, t⟩ := t
  refine r_iast (c := 43) dX8_pack_26 lay_43 c3 ?_
  refine r_iconst (v := (0 : Int32)) dX8_pack_27 rfl ?_
  refine r_istore (lv' := [(6, .int (0 : Int32)), (5, .int (a2 * (24 : Int32))), (0, .ref (eA E 40)), (1, .ref (eA E 5)), (2, .int a2), (3, .int a3), (4, .ref (eA E 32))]) dX8_pack_28 (by decide) rfl ?_
  refine r_iconst (v := (0 : Int32)) dX8_pack_30 rfl ?_
  refine r_istore (lv' := [(7, .int (0 : Int32)), (6, .int (0 : Int32)), (5, .int (a2 * (24 : Int32))), (0, .ref (eA E 40)), (1, .ref (eA E 5)), (2, .int a2), (3, .int a3), (4, .ref (eA E 32))]) dX8_pack_31 (by decide) rfl ?_
  refine r_sub [3, 4, 5, 6, 7, 2, 1, 0] rfl ?_
  exact t
set_option maxRecDepth 20000 in
theorem sg_X8_pack_33 (E : En) (d : Nat) (g : Ga) (x2 : Int32) (x3 : Int32) (x5 : Int32) (x6 : Int32) (x7 : Int32) (h : Hp) (P : Hp → Prop) (t : ((24 : Int32) ≤ x7 → (P h)) ∧ (¬ (24 : Int32) ≤ x7 → (vp_in x2 8 ∧ (((h.1 14 x2.toNatClampNeg) ≤ x6 → (P h)) ∧ (¬ (h.1 14 x2.toNatClampNeg) ≤ x6 → (SpI E d MX6_segmentEnd [.ref (eA E 5), .int x2, .int x6] h (fun v4 h4 => SpV E d MX4_pack [.ref (eA E 32), .ref (eA E 5), .int (x5 + x6), .int (x5 + v4), .int x3] h4 (fun h5 => SpV E d MX8_addSegment [.ref (eA E 40), .ref (eA E 5), .int x2, .int (x5 + x6), .ref (eA E 32)] h5 (fun h6 => VX8_pack_33 E d g P x2 x3 x5 v4 (x7 + (1 : Int32)) h6))))))))) : VX8_pack_33 E d g P x2 x3 x5 x6 x7 h := by
  refine r_iload (q := 7) dX8_pack_33 rfl ?_
  refine r_bipush (v := (24 : Int32)) dX8_pack_35 rfl ?_
  refine r_icmp_ge (tgt := 100) dX8_pack_37 (by decide) (fun q1 => ?_) (fun q1 => ?_)
  · have t := t.1 q1
    exact r_vret dX8_pack_100 rfl t
  · have t := t.2 q1
    refine r_iload (q := 6) dX8_pack_40 rfl ?_
    refine r_aload_n (q := 1) dX8_pack_42 rfl rfl ?_
    refine r_getR (c := 5) (c2 := 14) dX8_pack_43 flX8_28 lay_5 rfl ?_
    refine r_iload_n (q := 2) dX8_pack_46 rfl rfl ?_
    obtain ⟨c2, t⟩ := t
    refine r_iald (c := 14) dX8_pack_47 lay_14 c2 ?_
    refine r_icmp_ge (tgt := 100) dX8_pack_48 (by decide) (fun q3 => ?_) (fun q3 => ?_)
    · have t := t.1 q3
      exact r_vret dX8_pack_100 rfl t
    · have t := t.2 q3
      refine r_aload_n (q := 1) dX8_pack_51 rfl rfl ?_
      refine r_iload_n (q := 2) dX8_pack_52 rfl rfl ?_
      refine r_iload (q := 6) dX8_pack_53 rfl ?_
      refine r_cVI (c := 5) (As := [.int x2, .int x6]) dX8_pack_55 mkX6_segmentEnd lkX8_33 lay_5 rfl rfl rfl (by decide) rfl (Nat.le_of_ble_eq_true rfl) z00 t ?_
      intro v4 h4 t
      refine r_istore (lv' := [(8, .int v4), (0, .ref (eA E 40)), (1, .ref (eA E 5)), (2, .int x2), (3, .int x3), (4, .ref (eA E 32)), (5, .int x5), (6, .int x6), (7, .int x7)]) dX8_pack_58 (by decide) rfl ?_
      refine r_aload (q := 5) dX8_pack_60 rfl ?_
      refine r_aload_n (q := 2) dX8_pack_62 rfl rfl ?_
      refine r_iload (q := 6) dX8_pack_63 rfl ?_
      refine r_iload (q := 7) dX8_pack_65 rfl ?_
      refine r_iadd dX8_pack_67 ?_
      refine r_iload (q := 6) dX8_pack_68 rfl ?_
      refine r_iload (q := 0) dX8_pack_70 rfl ?_
      refine r_iadd dX8_pack_72 ?_
      refine r_iload_n (q := 4) dX8_pack_73 rfl rfl ?_
      refine r_cVV (c := 32) (As := [.ref (eA E 5), .int (x5 + x6), .int (x5 + v4), .int x3]) dX8_pack_74 mkX4_pack lkX8_37 lay_32 rfl rfl rfl (by decide) rfl (Nat.le_of_ble_eq_true rfl) z00 t ?_
      intro h5 t
      refine r_aload_n (q := 1) dX8_pack_77 rfl rfl ?_
      refine r_aload_n (q := 2) dX8_pack_78 rfl rfl ?_
      refine r_iload_n (q := 3) dX8_pack_79 rfl rfl ?_
      refine r_iload (q := 6) dX8_pack_80 rfl ?_
      refine r_iload (q := 7) dX8_pack_82 rfl ?_
      refine r_iadd dX8_pack_84 ?_
      refine r_aload (q := 5) dX8_pack_85 rfl ?_
      refine r_cVV (c := 40) (As := [.ref (eA E 5), .int x2, .int (x5 + x6), .ref (eA E 32)]) dX8_pack_87 mkX8_addSegment lkX8_43 lay_40 rfl rfl rfl (by decide) rfl (Nat.le_of_ble_eq_true rfl) z00 t ?_
      intro h6 t
      refine r_iload (q := 0) dX8_pack_90 rfl ?_
      refine r_istore (lv' := [(6, .int v4), (8, .int v4), (0, .ref (eA E 40)), (1, .ref (eA E 5)), (2, .int x2), (3, .int x3), (4, .ref (eA E 32)), (5, .int x5), (7, .int x7)]) dX8_pack_92 (by decide) rfl ?_
      refine r_iinc (k := 8) (v := x7 + (1 : Int32)) (lv' := [(7, .int (x7 + (1 : Int32))), (6, .int v4), (8, .int v4), (0, .ref (eA E 40)), (1, .ref (eA E 5)), (2, .int x2), (3, .int x3), (4, .ref (eA E 32)), (5, .int x5)]) dX8_pack_94 rfl rfl (by decide) rfl ?_
      refine r_goto (tgt := 33) dX8_pack_97 (by decide) ?_
      refine r_sub [3, 4, 5, 6, 7, 8, 1, 0] rfl ?_
      exact t
