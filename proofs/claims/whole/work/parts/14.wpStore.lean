theorem dX7_equalBefore_0 : decode cX7_equalBefore 0 = .ok (.iconst 0, 1) := by decide +kernel
theorem dX7_equalBefore_1 : decode cX7_equalBefore 1 = .ok (.istore 4, 2) := by decide +kernel
theorem dX7_equalBefore_3 : decode cX7_equalBefore 3 = .ok (.iload 4, 2) := by decide +kernel
theorem dX7_equalBefore_5 : decode cX7_equalBefore 5 = .ok (.aload_n 0, 1) := by decide +kernel
theorem dX7_equalBefore_6 : decode cX7_equalBefore 6 = .ok (.getfield 25, 3) := by decide +kernel
theorem dX7_equalBefore_9 : decode cX7_equalBefore 9 = .ok (.if_icmp .ge 45, 3) := by decide +kernel
theorem dX7_equalBefore_12 : decode cX7_equalBefore 12 = .ok (.aload_n 0, 1) := by decide +kernel
theorem dX7_equalBefore_13 : decode cX7_equalBefore 13 = .ok (.getfield 19, 3) := by decide +kernel
theorem dX7_equalBefore_16 : decode cX7_equalBefore 16 = .ok (.iload 4, 2) := by decide +kernel
theorem dX7_equalBefore_18 : decode cX7_equalBefore 18 = .ok (.iaload, 1) := by decide +kernel
theorem dX7_equalBefore_19 : decode cX7_equalBefore 19 = .ok (.iload_n 1, 1) := by decide +kernel
theorem dX7_equalBefore_20 : decode cX7_equalBefore 20 = .ok (.if_icmp .ne 28, 3) := by decide +kernel
theorem dX7_equalBefore_23 : decode cX7_equalBefore 23 = .ok (.aload_n 0, 1) := by decide +kernel
theorem dX7_equalBefore_24 : decode cX7_equalBefore 24 = .ok (.getfield 9, 3) := by decide +kernel
theorem dX7_equalBefore_27 : decode cX7_equalBefore 27 = .ok (.iload 4, 2) := by decide +kernel
theorem dX7_equalBefore_29 : decode cX7_equalBefore 29 = .ok (.iaload, 1) := by decide +kernel
theorem dX7_equalBefore_30 : decode cX7_equalBefore 30 = .ok (.iload_n 2, 1) := by decide +kernel
theorem dX7_equalBefore_31 : decode cX7_equalBefore 31 = .ok (.if_icmp .ne 17, 3) := by decide +kernel
theorem dX7_equalBefore_34 : decode cX7_equalBefore 34 = .ok (.aload_n 0, 1) := by decide +kernel
theorem dX7_equalBefore_35 : decode cX7_equalBefore 35 = .ok (.getfield 15, 3) := by decide +kernel
theorem dX7_equalBefore_38 : decode cX7_equalBefore 38 = .ok (.iload 4, 2) := by decide +kernel
theorem dX7_equalBefore_40 : decode cX7_equalBefore 40 = .ok (.baload, 1) := by decide +kernel
theorem dX7_equalBefore_41 : decode cX7_equalBefore 41 = .ok (.iload_n 3, 1) := by decide +kernel
theorem dX7_equalBefore_42 : decode cX7_equalBefore 42 = .ok (.if_icmp .ne 6, 3) := by decide +kernel
theorem dX7_equalBefore_45 : decode cX7_equalBefore 45 = .ok (.iload 4, 2) := by decide +kernel
theorem dX7_equalBefore_47 : decode cX7_equalBefore 47 = .ok (.ireturn, 1) := by decide +kernel
theorem dX7_equalBefore_48 : decode cX7_equalBefore 48 = .ok (.iinc 4 1, 3) := by decide +kernel
theorem dX7_equalBefore_51 : decode cX7_equalBefore 51 = .ok (.goto (-48), 3) := by decide +kernel
theorem dX7_equalBefore_54 : decode cX7_equalBefore 54 = .ok (.iconst (-1), 1) := by decide +kernel
theorem dX7_equalBefore_55 : decode cX7_equalBefore 55 = .ok (.ireturn, 1) := by decide +kernel
abbrev VX7_equalBefore_3 (E : En) (d : Nat) (g : Ga) (P : Int32 → Hp → Prop) (x1 : Int32) (x2 : Int32) (x3 : Int32) (x4 : Int32) (h : Hp) : Prop := V E MX7_equalBefore (RM d 0) g (QQ E g (QI E P) 0 0) 0 0 h 3 [(0, .ref (eA E 46)), (1, .int x1), (2, .int x2), (3, .int x3), (4, .int x4)] []
set_option maxRecDepth 20000 in
theorem wp_X7_equalBefore (E : En) (d : Nat) (a1 : Int32) (a2 : Int32) (a3 : Int32) (h : Hp) (P : Int32 → Hp → Prop) (t : ∀ g : Ga, VX7_equalBefore_3 E d g P a1 a2 a3 (0 : Int32) h) : SpI E d MX7_equalBefore [.ref (eA E 46), .int a1, .int a2, .int a3] h P := by
  refine SpI.of (lv0 := [(0, .ref (eA E 46)), (1, .int a1), (2, .int a2), (3, .int a3)]) (by decide) (Nat.le_of_ble_eq_true rfl) rfl (fun g => ?_)
  have t := t g
  refine r_iconst (v := (0 : Int32)) dX7_equalBefore_0 rfl ?_
  refine r_istore (lv' := [(4, .int (0 : Int32)), (0, .ref (eA E 46)), (1, .int a1), (2, .int a2), (3, .int a3)]) dX7_equalBefore_1 (by decide) rfl ?_
  refine r_sub [1, 2, 3, 4, 0] rfl ?_
  exact t
set_option maxRecDepth 20000 in
theorem sg_X7_equalBefore_3 (E : En) (d : Nat) (g : Ga) (x1 : Int32) (x2 : Int32) (x3 : Int32) (x4 : Int32) (h : Hp) (P : Int32 → Hp → Prop) (t : ((h.1 46 4) ≤ x4 → (P (-1 : Int32) h)) ∧ (¬ (h.1 46 4) ≤ x4 → (vp_in x4 192 ∧ ((¬ (h.1 49 x4.toNatClampNeg) = x1 → (VX7_equalBefore_3 E d g P x1 x2 x3 (x4 + (1 : Int32)) h)) ∧ ((h.1 49 x4.toNatClampNeg) = x1 → (vp_in x4 192 ∧ ((¬ (h.1 47 x4.toNatClampNeg) = x2 → (VX7_equalBefore_3 E d g P x1 x2 x3 (x4 + (1 : Int32)) h)) ∧ ((h.1 47 x4.toNatClampNeg) = x2 → (vp_in x4 192 ∧ ((¬ (h.1 48 x4.toNatClampNeg) = x3 → (VX7_equalBefore_3 E d g P x1 x2 x3 (x4 + (1 : Int32)) h)) ∧ ((h.1 48 x4.toNatClampNeg) = x3 → (P x4 h)))))))))))) : VX7_equalBefore_3 E d g P x1 x2 x3 x4 h := by
  refine r_iload (q := 4) dX7_equalBefore_3 rfl ?_
  refine r_aload_n (q := 0) dX7_equalBefore_5 rfl rfl ?_
  refine r_getI (c := 46) dX7_equalBefore_6 flX7_25 lay_46 rfl ?_
  refine r_icmp_ge (tgt := 54) dX7_equalBefore_9 (by decide) (fun q1 => ?_) (fun q1 => ?_)
  · have t := t.1 q1
    refine r_iconst (v := (-1 : Int32)) dX7_equalBefore_54 rfl ?_
    exact r_iret dX7_equalBefore_55 rfl t
  · have t := t.2 q1
    refine r_aload_n (q := 0) dX7_equalBefore_12 rfl rfl ?_
    refine r_getR (c := 46) (c2 := 49) dX7_equalBefore_13 flX7_19 lay_46 rfl ?_
    refine r_iload (q := 4) dX7_equalBefore_16 rfl ?_
    obtain ⟨c2, t⟩ := t
    refine r_iald (c := 49) dX7_equalBefore_18 lay_49 c2 ?_
    refine r_iload_n (q := 1) dX7_equalBefore_19 rfl rfl ?_
    refine r_icmp_ne (tgt := 48) dX7_equalBefore_20 (by decide) (fun q3 => ?_) (fun q3 => ?_)
    · have t := t.1 q3
      refine r_iinc (k := 4) (v := x4 + (1 : Int32)) (lv' := [(4, .int (x4 + (1 : Int32))), (0, .ref (eA E 46)), (1, .int x1), (2, .int x2), (3, .int x3)]) dX7_equalBefore_48 rfl rfl (by decide) rfl ?_
      refine r_goto (tgt := 3) dX7_equalBefore_51 (by decide) ?_
      refine r_sub [1, 2, 3, 4, 0] rfl ?_
      exact t
    · have t := t.2 q3
      refine r_aload_n (q := 0) dX7_equalBefore_23 rfl rfl ?_
      refine r_getR (c := 46) (c2 := 47) dX7_equalBefore_24 flX7_9 lay_46 rfl ?_
      refine r_iload (q := 4) dX7_equalBefore_27 rfl ?_
      obtain ⟨c4, t⟩ := t
      refine r_iald (c := 47) dX7_equalBefore_29 lay_47 c4 ?_
      refine r_iload_n (q := 2) dX7_equalBefore_30 rfl rfl ?_
      refine r_icmp_ne (tgt := 48) dX7_equalBefore_31 (by decide) (fun q5 => ?_) (fun q5 => ?_)
      · have t := t.1 q5
        refine r_iinc (k := 4) (v := x4 + (1 : Int32)) (lv' := [(4, .int (x4 + (1 : Int32))), (0, .ref (eA E 46)), (1, .int x1), (2, .int x2), (3, .int x3)]) dX7_equalBefore_48 rfl rfl (by decide) rfl ?_
        refine r_goto (tgt := 3) dX7_equalBefore_51 (by decide) ?_
        refine r_sub [1, 2, 3, 4, 0] rfl ?_
        exact t
      · have t := t.2 q5
        refine r_aload_n (q := 0) dX7_equalBefore_34 rfl rfl ?_
        refine r_getR (c := 46) (c2 := 48) dX7_equalBefore_35 flX7_15 lay_46 rfl ?_
        refine r_iload (q := 4) dX7_equalBefore_38 rfl ?_
        obtain ⟨c6, t⟩ := t
        refine r_zald (c := 48) dX7_equalBefore_40 lay_48 c6 ?_
        refine r_iload_n (q := 3) dX7_equalBefore_41 rfl rfl ?_
        refine r_icmp_ne (tgt := 48) dX7_equalBefore_42 (by decide) (fun q7 => ?_) (fun q7 => ?_)
        · have t := t.1 q7
          refine r_iinc (k := 4) (v := x4 + (1 : Int32)) (lv' := [(4, .int (x4 + (1 : Int32))), (0, .ref (eA E 46)), (1, .int x1), (2, .int x2), (3, .int x3)]) dX7_equalBefore_48 rfl rfl (by decide) rfl ?_
          refine r_goto (tgt := 3) dX7_equalBefore_51 (by decide) ?_
          refine r_sub [1, 2, 3, 4, 0] rfl ?_
          exact t
        · have t := t.2 q7
          refine r_iload (q := 4) dX7_equalBefore_45 rfl ?_
          exact r_iret dX7_equalBefore_47 rfl t
theorem dX7_users_0 : decode cX7_users 0 = .ok (.iconst 0, 1) := by decide +kernel
theorem dX7_users_1 : decode cX7_users 1 = .ok (.istore_n 3, 1) := by decide +kernel
theorem dX7_users_2 : decode cX7_users 2 = .ok (.iconst 0, 1) := by decide +kernel
theorem dX7_users_3 : decode cX7_users 3 = .ok (.istore 4, 2) := by decide +kernel
theorem dX7_users_5 : decode cX7_users 5 = .ok (.iload 4, 2) := by decide +kernel
theorem dX7_users_7 : decode cX7_users 7 = .ok (.iload_n 2, 1) := by decide +kernel
theorem dX7_users_8 : decode cX7_users 8 = .ok (.if_icmp .ge 64, 3) := by decide +kernel
theorem dX7_users_11 : decode cX7_users 11 = .ok (.aload_n 0, 1) := by decide +kernel
theorem dX7_users_12 : decode cX7_users 12 = .ok (.getfield 22, 3) := by decide +kernel
theorem dX7_users_15 : decode cX7_users 15 = .ok (.iload 4, 2) := by decide +kernel
theorem dX7_users_17 : decode cX7_users 17 = .ok (.iaload, 1) := by decide +kernel
theorem dX7_users_18 : decode cX7_users 18 = .ok (.istore 5, 2) := by decide +kernel
theorem dX7_users_20 : decode cX7_users 20 = .ok (.iconst 0, 1) := by decide +kernel
theorem dX7_users_21 : decode cX7_users 21 = .ok (.istore 6, 2) := by decide +kernel
theorem dX7_users_23 : decode cX7_users 23 = .ok (.iload 6, 2) := by decide +kernel
theorem dX7_users_25 : decode cX7_users 25 = .ok (.bipush 24, 2) := by decide +kernel
theorem dX7_users_27 : decode cX7_users 27 = .ok (.if_icmp .ge 30, 3) := by decide +kernel
theorem dX7_users_30 : decode cX7_users 30 = .ok (.iload 5, 2) := by decide +kernel
theorem dX7_users_32 : decode cX7_users 32 = .ok (.iconst (-1), 1) := by decide +kernel
theorem dX7_users_33 : decode cX7_users 33 = .ok (.if_icmp .eq 24, 3) := by decide +kernel
theorem dX7_users_36 : decode cX7_users 36 = .ok (.iload 5, 2) := by decide +kernel
theorem dX7_users_38 : decode cX7_users 38 = .ok (.iload_n 1, 1) := by decide +kernel
theorem dX7_users_39 : decode cX7_users 39 = .ok (.if_icmp .eq 18, 3) := by decide +kernel
theorem dX7_users_42 : decode cX7_users 42 = .ok (.aload_n 0, 1) := by decide +kernel
theorem dX7_users_43 : decode cX7_users 43 = .ok (.getfield 19, 3) := by decide +kernel
theorem dX7_users_46 : decode cX7_users 46 = .ok (.iload 5, 2) := by decide +kernel
theorem dX7_users_48 : decode cX7_users 48 = .ok (.iaload, 1) := by decide +kernel
theorem dX7_users_49 : decode cX7_users 49 = .ok (.istore 5, 2) := by decide +kernel
theorem dX7_users_51 : decode cX7_users 51 = .ok (.iinc 6 1, 3) := by decide +kernel
theorem dX7_users_54 : decode cX7_users 54 = .ok (.goto (-31), 3) := by decide +kernel
theorem dX7_users_57 : decode cX7_users 57 = .ok (.iload 5, 2) := by decide +kernel
theorem dX7_users_59 : decode cX7_users 59 = .ok (.iload_n 1, 1) := by decide +kernel
theorem dX7_users_60 : decode cX7_users 60 = .ok (.if_icmp .ne 6, 3) := by decide +kernel
theorem dX7_users_63 : decode cX7_users 63 = .ok (.iinc 3 1, 3) := by decide +kernel
theorem dX7_users_66 : decode cX7_users 66 = .ok (.iinc 4 1, 3) := by decide +kernel
theorem dX7_users_69 : decode cX7_users 69 = .ok (.goto (-64), 3) := by decide +kernel
theorem dX7_users_72 : decode cX7_users 72 = .ok (.iload_n 3, 1) := by decide +kernel
theorem dX7_users_73 : decode cX7_users 73 = .ok (.ireturn, 1) := by decide +kernel
abbrev VX7_users_5 (E : En) (d : Nat) (g : Ga) (P : Int32 → Hp → Prop) (x1 : Int32) (x2 : Int32) (x3 : Int32) (x4 : Int32) (h : Hp) : Prop := V E MX7_users (RM d 0) g (QQ E g (QI E P) 0 0) 0 0 h 5 [(0, .ref (eA E 46)), (1, .int x1), (2, .int x2), (3, .int x3), (4, .int x4)] []
abbrev VX7_users_23 (E : En) (d : Nat) (g : Ga) (P : Int32 → Hp → Prop) (x1 : Int32) (x2 : Int32) (x3 : Int32) (x4 : Int32) (x5 : Int32) (x6 : Int32) (h : Hp) : Prop := V E MX7_users (RM d 0) g (QQ E g (QI E P) 0 0) 0 0 h 23 [(0, .ref (eA E 46)), (1, .int x1), (2, .int x2), (3, .int x3), (4, .int x4), (5, .int x5), (6, .int x6)] []
set_option maxRecDepth 20000 in
theorem wp_X7_users (E : En) (d : Nat) (a1 : Int32) (a2 : Int32) (h : Hp) (P : Int32 → Hp → Prop) (t : ∀ g : Ga, VX7_users_5 E d g P a1 a2 (0 : Int32) (0 : Int32) h) : SpI E d MX7_users [.ref (eA E 46), .int a1, .int a2] h P := by
  refine SpI.of (lv0 := [(0, .ref (eA E 46)), (1, .int a1), (2, .int a2)]) (by decide) (Nat.le_of_ble_eq_true rfl) rfl (fun g => ?_)
  have t := t g
  refine r_iconst (v := (0 : Int32)) dX7_users_0 rfl ?_
  refine r_istore_n (lv' := [(3, .int (0 : Int32)), (0, .ref (eA E 46)), (1, .int a1), (2, .int a2)]) dX7_users_1 rfl (by decide) rfl ?_
  refine r_iconst (v := (0 : Int32)) dX7_users_2 rfl ?_
  refine r_istore (lv' := [(4, .int (0 : Int32)), (3, .int (0 : Int32)), (0, .ref (eA E 46)), (1, .int a1), (2, .int a2)]) dX7_users_3 (by decide) rfl ?_
  refine r_sub [2, 3, 4, 1, 0] rfl ?_
  exact t
set_option maxRecDepth 20000 in
theorem sg_X7_users_5 (E : En) (d : Nat) (g : Ga) (x1 : Int32) (x2 : Int32) (x3 : Int32) (x4 : Int32) (h : Hp) (P : Int32 → Hp → Prop) (t : (x2 ≤ x4 → (P x3 h)) ∧ (¬ x2 ≤ x4 → (vp_in x4 8 ∧ (VX7_users_23 E d g P x1 x2 x3 x4 (h.1 50 x4.toNatClampNeg) (0 : Int32) h)))) : VX7_users_5 E d g P x1 x2 x3 x4 h := by
  refine r_iload (q := 4) dX7_users_5 rfl ?_
  refine r_iload_n (q := 2) dX7_users_7 rfl rfl ?_
  refine r_icmp_ge (tgt := 72) dX7_users_8 (by decide) (fun q1 => ?_) (fun q1 => ?_)
  · have t := t.1 q1
    refine r_iload_n (q := 3) dX7_users_72 rfl rfl ?_
    exact r_iret dX7_users_73 rfl t
  · have t := t.2 q1
    refine r_aload_n (q := 0) dX7_users_11 rfl rfl ?_
    refine r_getR (c := 46) (c2 := 50) dX7_users_12 flX7_22 lay_46 rfl ?_
    refine r_iload (q := 4) dX7_users_15 rfl ?_
    obtain ⟨c2, t⟩ := t
    refine r_iald (c := 50) dX7_users_17 lay_50 c2 ?_
    refine r_istore (lv' := [(5, .int (h.1 50 x4.toNatClampNeg)), (0, .ref (eA E 46)), (1, .int x1), (2, .int x2), (3, .int x3), (4, .int x4)]) dX7_users_18 (by decide) rfl ?_
    refine r_iconst (v := (0 : Int32)) dX7_users_20 rfl ?_
    refine r_istore (lv' := [(6, .int (0 : Int32)), (5, .int (h.1 50 x4.toNatClampNeg)), (0, .ref (eA E 46)), (1, .int x1), (2, .int x2), (3, .int x3), (4, .int x4)]) dX7_users_21 (by decide) rfl ?_
    refine r_sub [2, 3, 4, 5, 6, 1, 0] rfl ?_
    exact t
set_option maxRecDepth 20000 in
theorem sg_X7_users_23 (E : En) (d : Nat) (g : Ga) (x1 : Int32) (x2 : Int32) (x3 : Int32) (x4 : Int32) (x5 : Int32) (x6 : Int32) (h : Hp) (P : Int32 → Hp → Prop) (t : ((24 : Int32) ≤ x6 → ((¬ x5 = x1 → (VX7_users_5 E d g P x1 x2 x3 (x4 + (1 : Int32)) h)) ∧ (x5 = x1 → (VX7_users_5 E d g P x1 x2 (x3 + (1 : Int32)) (x4 + (1 : Int32)) h)))) ∧ (¬ (24 : Int32) ≤ x6 → ((x5 = (-1 : Int32) → ((¬ x5 = x1 → (VX7_users_5 E d g P x1 x2 x3 (x4 + (1 : Int32)) h)) ∧ (x5 = x1 → (VX7_users_5 E d g P x1 x2 (x3 + (1 : Int32)) (x4 + (1 : Int32)) h)))) ∧ (¬ x5 = (-1 : Int32) → ((x5 = x1 → ((¬ x5 = x1 → (VX7_users_5 E d g P x1 x2 x3 (x4 + (1 : Int32)) h)) ∧ (x5 = x1 → (VX7_users_5 E d g P x1 x2 (x3 + (1 : Int32)) (x4 + (1 : Int32)) h)))) ∧ (¬ x5 = x1 → (vp_in x5 192 ∧ (VX7_users_23 E d g P x1 x2 x3 x4 (h.1 49 x5.toNatClampNeg) (x6 + (1 : Int32)) h)))))))) : VX7_users_23 E d g P x1 x2 x3 x4 x5 x6 h := by
  refine r_iload (q := 6) dX7_users_23 rfl ?_
  refine r_bipush (v := (24 : Int32)) dX7_users_25 rfl ?_
  refine r_icmp_ge (tgt := 57) dX7_users_27 (by decide) (fun q1 => ?_) (fun q1 => ?_)
  · have t := t.1 q1
    refine r_iload (q := 5) dX7_users_57 rfl ?_
    refine r_iload_n (q := 1) dX7_users_59 rfl rfl ?_
    refine r_icmp_ne (tgt := 66) dX7_users_60 (by decide) (fun q2 => ?_) (fun q2 => ?_)
    · have t := t.1 q2
      refine r_iinc (k := 4) (v := x4 + (1 : Int32)) (lv' := [(4, .int (x4 + (1 : Int32))), (0, .ref (eA E 46)), (1, .int x1), (2, .int x2), (3, .int x3), (5, .int x5), (6, .int x6)]) dX7_users_66 rfl rfl (by decide) rfl ?_
      refine r_goto (tgt := 5) dX7_users_69 (by decide) ?_
      refine r_sub [1, 2, 3, 4, 0] rfl ?_
      exact t
    · have t := t.2 q2
      refine r_iinc (k := 3) (v := x3 + (1 : Int32)) (lv' := [(3, .int (x3 + (1 : Int32))), (0, .ref (eA E 46)), (1, .int x1), (2, .int x2), (4, .int x4), (5, .int x5), (6, .int x6)]) dX7_users_63 rfl rfl (by decide) rfl ?_
      refine r_iinc (k := 4) (v := x4 + (1 : Int32)) (lv' := [(4, .int (x4 + (1 : Int32))), (3, .int (x3 + (1 : Int32))), (0, .ref (eA E 46)), (1, .int x1), (2, .int x2), (5, .int x5), (6, .int x6)]) dX7_users_66 rfl rfl (by decide) rfl ?_
      refine r_goto (tgt := 5) dX7_users_69 (by decide) ?_
      refine r_sub [2, 3, 4, 1, 0] rfl ?_
      exact t
  · have t := t.2 q1
    refine r_iload (q := 5) dX7_users_30 rfl ?_
    refine r_iconst (v := (-1 : Int32)) dX7_users_32 rfl ?_
    refine r_icmp_eq (tgt := 57) dX7_users_33 (by decide) (fun q3 => ?_) (fun q3 => ?_)
    · have t := t.1 q3
      refine r_iload (q := 5) dX7_users_57 rfl ?_
      refine r_iload_n (q := 1) dX7_users_59 rfl rfl ?_
      refine r_icmp_ne (tgt := 66) dX7_users_60 (by decide) (fun q4 => ?_) (fun q4 => ?_)
      · have t := t.1 q4
        refine r_iinc (k := 4) (v := x4 + (1 : Int32)) (lv' := [(4, .int (x4 + (1 : Int32))), (0, .ref (eA E 46)), (1, .int x1), (2, .int x2), (3, .int x3), (5, .int x5), (6, .int x6)]) dX7_users_66 rfl rfl (by decide) rfl ?_
        refine r_goto (tgt := 5) dX7_users_69 (by decide) ?_
        refine r_sub [1, 2, 3, 4, 0] rfl ?_
        exact t
      · have t := t.2 q4
        refine r_iinc (k := 3) (v := x3 + (1 : Int32)) (lv' := [(3, .int (x3 + (1 : Int32))), (0, .ref (eA E 46)), (1, .int x1), (2, .int x2), (4, .int x4), (5, .int x5), (6, .int x6)]) dX7_users_63 rfl rfl (by decide) rfl ?_
        refine r_iinc (k := 4) (v := x4 + (1 : Int32)) (lv' := [(4, .int (x4 + (1 : Int32))), (3, .int (x3 + (1 : Int32))), (0, .ref (eA E 46)), (1, .int x1), (2, .int x2), (5, .int x5), (6, .int x6)]) dX7_users_66 rfl rfl (by decide) rfl ?_
        refine r_goto (tgt := 5) dX7_users_69 (by decide) ?_
        refine r_sub [2, 3, 4, 1, 0] rfl ?_
        exact t
    · have t := t.2 q3
      refine r_iload (q := 5) dX7_users_36 rfl ?_
      refine r_iload_n (q := 1) dX7_users_38 rfl rfl ?_
      refine r_icmp_eq (tgt := 57) dX7_users_39 (by decide) (fun q5 => ?_) (fun q5 => ?_)
      · have t := t.1 q5
        refine r_iload (q := 5) dX7_users_57 rfl ?_
        refine r_iload_n (q := 1) dX7_users_59 rfl rfl ?_
        refine r_icmp_ne (tgt := 66) dX7_users_60 (by decide) (fun q6 => ?_) (fun q6 => ?_)
        · have t := t.1 q6
          refine r_iinc (k := 4) (v := x4 + (1 : Int32)) (lv' := [(4, .int (x4 + (1 : Int32))), (0, .ref (eA E 46)), (1, .int x1), (2, .int x2), (3, .int x3), (5, .int x5), (6, .int x6)]) dX7_users_66 rfl rfl (by decide) rfl ?_
          refine r_goto (tgt := 5) dX7_users_69 (by decide) ?_
          refine r_sub [1, 2, 3, 4, 0] rfl ?_
          exact t
        · have t := t.2 q6
          refine r_iinc (k := 3) (v := x3 + (1 : Int32)) (lv' := [(3, .int (x3 + (1 : Int32))), (0, .ref (eA E 46)), (1, .int x1), (2, .int x2), (4, .int x4), (5, .int x5), (6, .int x6)]) dX7_users_63 rfl rfl (by decide) rfl ?_
          refine r_iinc (k := 4) (v := x4 + (1 : Int32)) (lv' := [(4, .int (x4 + (1 : Int32))), (3, .int (x3 + (1 : Int32))), (0, .ref (eA E 46)), (1, .int x1), (2, .int x2), (5, .int x5), (6, .int x6)]) dX7_users_66 rfl rfl (by decide) rfl ?_
          refine r_goto (tgt := 5) dX7_users_69 (by decide) ?_
          refine r_sub [2, 3, 4, 1, 0] rfl ?_
          exact t
      · have t := t.2 q5
        refine r_aload_n (q := 0) dX7_users_42 rfl rfl ?_
        refine r_getR (c := 46) (c2 := 49) dX7_users_43 flX7_19 lay_46 rfl ?_
        refine r_iload (q := 5) dX7_users_46 rfl ?_
        obtain ⟨c7, t⟩ := t
        refine r_iald (c := 49) dX7_users_48 lay_49 c7 ?_
        refine r_istore (lv' := [(5, .int (h.1 49 x5.toNatClampNeg)), (0, .ref (eA E 46)), (1, .int x1), (2, .int x2), (3, .int x3), (4, .int x4), (6, .int x6)]) dX7_users_49 (by decide) rfl ?_
        refine r_iinc (k := 6) (v := x6 + (1 : Int32)) (lv' := [(6, .int (x6 + (1 : Int32))), (5, .int (h.1 49 x5.toNatClampNeg)), (0, .ref (eA E 46)), (1, .int x1), (2, .int x2), (3, .int x3), (4, .int x4)]) dX7_users_51 rfl rfl (by decide) rfl ?_
        refine r_goto (tgt := 23) dX7_users_54 (by decide) ?_
        refine r_sub [2, 3, 4, 5, 6, 1, 0] rfl ?_
        exact t
theorem dX7_place_0 : decode cX7_place 0 = .ok (.iload_n 1, 1) := by decide +kernel
theorem dX7_place_1 : decode cX7_place 1 = .ok (.bipush 24, 2) := by decide +kernel
theorem dX7_place_3 : decode cX7_place 3 = .ok (.imul, 1) := by decide +kernel
theorem dX7_place_4 : decode cX7_place 4 = .ok (.istore_n 3, 1) := by decide +kernel
theorem dX7_place_5 : decode cX7_place 5 = .ok (.aload_n 2, 1) := by decide +kernel
theorem dX7_place_6 : decode cX7_place 6 = .ok (.getfield 29, 3) := by decide +kernel
theorem dX7_place_9 : decode cX7_place 9 = .ok (.iload_n 1, 1) := by decide +kernel
theorem dX7_place_10 : decode cX7_place 10 = .ok (.iaload, 1) := by decide +kernel
theorem dX7_place_11 : decode cX7_place 11 = .ok (.istore 4, 2) := by decide +kernel
theorem dX7_place_13 : decode cX7_place 13 = .ok (.iconst (-1), 1) := by decide +kernel
theorem dX7_place_14 : decode cX7_place 14 = .ok (.istore 5, 2) := by decide +kernel
theorem dX7_place_16 : decode cX7_place 16 = .ok (.iload 4, 2) := by decide +kernel
theorem dX7_place_18 : decode cX7_place 18 = .ok (.iconst 1, 1) := by decide +kernel
theorem dX7_place_19 : decode cX7_place 19 = .ok (.isub, 1) := by decide +kernel
theorem dX7_place_20 : decode cX7_place 20 = .ok (.istore 6, 2) := by decide +kernel
theorem dX7_place_22 : decode cX7_place 22 = .ok (.iload 6, 2) := by decide +kernel
theorem dX7_place_24 : decode cX7_place 24 = .ok (.ifCond .lt 52, 3) := by decide +kernel
theorem dX7_place_27 : decode cX7_place 27 = .ok (.aload_n 0, 1) := by decide +kernel
theorem dX7_place_28 : decode cX7_place 28 = .ok (.iload 5, 2) := by decide +kernel
theorem dX7_place_30 : decode cX7_place 30 = .ok (.aload_n 2, 1) := by decide +kernel
theorem dX7_place_31 : decode cX7_place 31 = .ok (.getfield 34, 3) := by decide +kernel
theorem dX7_place_34 : decode cX7_place 34 = .ok (.iload_n 3, 1) := by decide +kernel
theorem dX7_place_35 : decode cX7_place 35 = .ok (.iload 6, 2) := by decide +kernel
theorem dX7_place_37 : decode cX7_place 37 = .ok (.iadd, 1) := by decide +kernel
theorem dX7_place_38 : decode cX7_place 38 = .ok (.iaload, 1) := by decide +kernel
theorem dX7_place_39 : decode cX7_place 39 = .ok (.aload_n 2, 1) := by decide +kernel
theorem dX7_place_40 : decode cX7_place 40 = .ok (.getfield 35, 3) := by decide +kernel
theorem dX7_place_43 : decode cX7_place 43 = .ok (.iload_n 3, 1) := by decide +kernel
theorem dX7_place_44 : decode cX7_place 44 = .ok (.iload 6, 2) := by decide +kernel
theorem dX7_place_46 : decode cX7_place 46 = .ok (.iadd, 1) := by decide +kernel
theorem dX7_place_47 : decode cX7_place 47 = .ok (.baload, 1) := by decide +kernel
theorem dX7_place_48 : decode cX7_place 48 = .ok (.invokevirtual 36, 3) := by decide +kernel
theorem dX7_place_51 : decode cX7_place 51 = .ok (.istore 7, 2) := by decide +kernel
theorem dX7_place_53 : decode cX7_place 53 = .ok (.iload 7, 2) := by decide +kernel
theorem dX7_place_55 : decode cX7_place 55 = .ok (.iconst (-1), 1) := by decide +kernel
theorem dX7_place_56 : decode cX7_place 56 = .ok (.if_icmp .ne 6, 3) := by decide +kernel
theorem dX7_place_59 : decode cX7_place 59 = .ok (.goto 17, 3) := by decide +kernel
theorem dX7_place_62 : decode cX7_place 62 = .ok (.iload 7, 2) := by decide +kernel
theorem dX7_place_64 : decode cX7_place 64 = .ok (.istore 5, 2) := by decide +kernel
theorem dX7_place_66 : decode cX7_place 66 = .ok (.iload 6, 2) := by decide +kernel
theorem dX7_place_68 : decode cX7_place 68 = .ok (.istore 4, 2) := by decide +kernel
theorem dX7_place_70 : decode cX7_place 70 = .ok (.iinc 6 (-1), 3) := by decide +kernel
theorem dX7_place_73 : decode cX7_place 73 = .ok (.goto (-51), 3) := by decide +kernel
theorem dX7_place_76 : decode cX7_place 76 = .ok (.aload_n 0, 1) := by decide +kernel
theorem dX7_place_77 : decode cX7_place 77 = .ok (.getfield 22, 3) := by decide +kernel
theorem dX7_place_80 : decode cX7_place 80 = .ok (.iload_n 1, 1) := by decide +kernel
theorem dX7_place_81 : decode cX7_place 81 = .ok (.iload 4, 2) := by decide +kernel
theorem dX7_place_83 : decode cX7_place 83 = .ok (.ifCond .ne 8, 3) := by decide +kernel
theorem dX7_place_86 : decode cX7_place 86 = .ok (.iload 5, 2) := by decide +kernel
theorem dX7_place_88 : decode cX7_place 88 = .ok (.goto 7, 3) := by decide +kernel
theorem dX7_place_91 : decode cX7_place 91 = .ok (.aload_n 0, 1) := by decide +kernel
theorem dX7_place_92 : decode cX7_place 92 = .ok (.getfield 25, 3) := by decide +kernel
theorem dX7_place_95 : decode cX7_place 95 = .ok (.iastore, 1) := by decide +kernel
theorem dX7_place_96 : decode cX7_place 96 = .ok (.iconst 0, 1) := by decide +kernel
theorem dX7_place_97 : decode cX7_place 97 = .ok (.istore 6, 2) := by decide +kernel
theorem dX7_place_99 : decode cX7_place 99 = .ok (.iload 6, 2) := by decide +kernel
theorem dX7_place_101 : decode cX7_place 101 = .ok (.iload 4, 2) := by decide +kernel
theorem dX7_place_103 : decode cX7_place 103 = .ok (.if_icmp .ge 94, 3) := by decide +kernel
theorem dX7_place_106 : decode cX7_place 106 = .ok (.aload_n 0, 1) := by decide +kernel
theorem dX7_place_107 : decode cX7_place 107 = .ok (.getfield 25, 3) := by decide +kernel
theorem dX7_place_110 : decode cX7_place 110 = .ok (.sipush 192, 3) := by decide +kernel
theorem dX7_place_113 : decode cX7_place 113 = .ok (.if_icmp .ge 84, 3) := by decide +kernel
theorem dX7_place_116 : decode cX7_place 116 = .ok (.aload_n 0, 1) := by decide +kernel
theorem dX7_place_117 : decode cX7_place 117 = .ok (.getfield 9, 3) := by decide +kernel
theorem dX7_place_120 : decode cX7_place 120 = .ok (.aload_n 0, 1) := by decide +kernel
theorem dX7_place_121 : decode cX7_place 121 = .ok (.getfield 25, 3) := by decide +kernel
theorem dX7_place_124 : decode cX7_place 124 = .ok (.aload_n 2, 1) := by decide +kernel
theorem dX7_place_125 : decode cX7_place 125 = .ok (.getfield 34, 3) := by decide +kernel
theorem dX7_place_128 : decode cX7_place 128 = .ok (.iload_n 3, 1) := by decide +kernel
theorem dX7_place_129 : decode cX7_place 129 = .ok (.iload 6, 2) := by decide +kernel
theorem dX7_place_131 : decode cX7_place 131 = .ok (.iadd, 1) := by decide +kernel
theorem dX7_place_132 : decode cX7_place 132 = .ok (.iaload, 1) := by decide +kernel
theorem dX7_place_133 : decode cX7_place 133 = .ok (.iastore, 1) := by decide +kernel
theorem dX7_place_134 : decode cX7_place 134 = .ok (.aload_n 0, 1) := by decide +kernel
theorem dX7_place_135 : decode cX7_place 135 = .ok (.getfield 15, 3) := by decide +kernel
theorem dX7_place_138 : decode cX7_place 138 = .ok (.aload_n 0, 1) := by decide +kernel
theorem dX7_place_139 : decode cX7_place 139 = .ok (.getfield 25, 3) := by decide +kernel
theorem dX7_place_142 : decode cX7_place 142 = .ok (.aload_n 2, 1) := by decide +kernel
theorem dX7_place_143 : decode cX7_place 143 = .ok (.getfield 35, 3) := by decide +kernel
theorem dX7_place_146 : decode cX7_place 146 = .ok (.iload_n 3, 1) := by decide +kernel
theorem dX7_place_147 : decode cX7_place 147 = .ok (.iload 6, 2) := by decide +kernel
theorem dX7_place_149 : decode cX7_place 149 = .ok (.iadd, 1) := by decide +kernel
theorem dX7_place_150 : decode cX7_place 150 = .ok (.baload, 1) := by decide +kernel
theorem dX7_place_151 : decode cX7_place 151 = .ok (.bastore, 1) := by decide +kernel
theorem dX7_place_152 : decode cX7_place 152 = .ok (.aload_n 0, 1) := by decide +kernel
theorem dX7_place_153 : decode cX7_place 153 = .ok (.getfield 19, 3) := by decide +kernel
theorem dX7_place_156 : decode cX7_place 156 = .ok (.aload_n 0, 1) := by decide +kernel
theorem dX7_place_157 : decode cX7_place 157 = .ok (.getfield 25, 3) := by decide +kernel
theorem dX7_place_160 : decode cX7_place 160 = .ok (.iload 6, 2) := by decide +kernel
theorem dX7_place_162 : decode cX7_place 162 = .ok (.iload 4, 2) := by decide +kernel
theorem dX7_place_164 : decode cX7_place 164 = .ok (.iconst 1, 1) := by decide +kernel
theorem dX7_place_165 : decode cX7_place 165 = .ok (.isub, 1) := by decide +kernel
theorem dX7_place_166 : decode cX7_place 166 = .ok (.if_icmp .ne 8, 3) := by decide +kernel
theorem dX7_place_169 : decode cX7_place 169 = .ok (.iload 5, 2) := by decide +kernel
theorem dX7_place_171 : decode cX7_place 171 = .ok (.goto 9, 3) := by decide +kernel
theorem dX7_place_174 : decode cX7_place 174 = .ok (.aload_n 0, 1) := by decide +kernel
theorem dX7_place_175 : decode cX7_place 175 = .ok (.getfield 25, 3) := by decide +kernel
theorem dX7_place_178 : decode cX7_place 178 = .ok (.iconst 1, 1) := by decide +kernel
theorem dX7_place_179 : decode cX7_place 179 = .ok (.iadd, 1) := by decide +kernel
theorem dX7_place_180 : decode cX7_place 180 = .ok (.iastore, 1) := by decide +kernel
theorem dX7_place_181 : decode cX7_place 181 = .ok (.aload_n 0, 1) := by decide +kernel
theorem dX7_place_182 : decode cX7_place 182 = .ok (.dup, 1) := by decide +kernel
theorem dX7_place_183 : decode cX7_place 183 = .ok (.getfield 25, 3) := by decide +kernel
theorem dX7_place_186 : decode cX7_place 186 = .ok (.iconst 1, 1) := by decide +kernel
theorem dX7_place_187 : decode cX7_place 187 = .ok (.iadd, 1) := by decide +kernel
theorem dX7_place_188 : decode cX7_place 188 = .ok (.putfield 25, 3) := by decide +kernel
theorem dX7_place_191 : decode cX7_place 191 = .ok (.iinc 6 1, 3) := by decide +kernel
theorem dX7_place_194 : decode cX7_place 194 = .ok (.goto (-95), 3) := by decide +kernel
theorem dX7_place_197 : decode cX7_place 197 = .ok (.return_, 1) := by decide +kernel
abbrev VX7_place_22 (E : En) (d : Nat) (g : Ga) (P : Hp → Prop) (x1 : Int32) (x3 : Int32) (x4 : Int32) (x5 : Int32) (x6 : Int32) (h : Hp) : Prop := V E MX7_place (RM (d + 1) 0) g (QQ E g (QV E P) 0 0) 0 0 h 22 [(0, .ref (eA E 46)), (1, .int x1), (2, .ref (eA E 40)), (3, .int x3), (4, .int x4), (5, .int x5), (6, .int x6)] []
abbrev VX7_place_99 (E : En) (d : Nat) (g : Ga) (P : Hp → Prop) (x1 : Int32) (x3 : Int32) (x4 : Int32) (x5 : Int32) (x6 : Int32) (h : Hp) : Prop := V E MX7_place (RM (d + 1) 0) g (QQ E g (QV E P) 0 0) 0 0 h 99 [(0, .ref (eA E 46)), (1, .int x1), (2, .ref (eA E 40)), (3, .int x3), (4, .int x4), (5, .int x5), (6, .int x6)] []
set_option maxRecDepth 20000 in
theorem wp_X7_place (E : En) (d : Nat) (a1 : Int32) (h : Hp) (P : Hp → Prop) (t : ∀ g : Ga, vp_in a1 8 ∧ (VX7_place_22 E d g P a1 (a1 * (24 : Int32)) (h.1 41 a1.toNatClampNeg) (-1 : Int32) ((h.1 41 a1.toNatClampNeg) - (1 : Int32)) h)) : SpV E (d + 1) MX7_place [.ref (eA E 46), .int a1, .ref (eA E 40)] h P := by
  refine SpV.of (lv0 := [(0, .ref (eA E 46)), (1, .int a1), (2, .ref (eA E 40))]) (by decide) (Nat.le_of_ble_eq_true rfl) rfl (fun g => ?_)
  have t := t g
  refine r_iload_n (q := 1) dX7_place_0 rfl rfl ?_
  refine r_bipush (v := (24 : Int32)) dX7_place_1 rfl ?_
  refine r_imul dX7_place_3 ?_
  refine r_istore_n (lv' := [(3, .int (a1 * (24 : Int32))), (0, .ref (eA E 46)), (1, .int a1), (2, .ref (eA E 40))]) dX7_place_4 rfl (by decide) rfl ?_
  refine r_aload_n (q := 3) dX7_place_5 rfl rfl ?_
  refine r_getR (c := 40) (c2 := 41) dX7_place_6 flX7_29 lay_40 rfl ?_
  refine r_iload_n (q := 2) dX7_place_9 rfl rfl ?_
  obtain ⟨c1, t⟩ := t
  refine r_iald (c := 41) dX7_place_10 lay_41 c1 ?_
  refine r_istore (lv' := [(4, .int (h.1 41 a1.toNatClampNeg)), (3, .int (a1 * (24 : Int32))), (0, .ref (eA E 46)), (1, .int a1), (2, .ref (eA E 40))]) dX7_place_11 (by decide) rfl ?_
  refine r_iconst (v := (-1 : Int32)) dX7_place_13 rfl ?_
  refine r_istore (lv' := [(5, .int (-1 : Int32)), (4, .int (h.1 41 a1.toNatClampNeg)), (3, .int (a1 * (24 : Int32))), (0, .ref (eA E 46)), (1, .int a1), (2, .ref (eA E 40))]) dX7_place_14 (by decide) rfl ?_
  refine r_iload (q := 1) dX7_place_16 rfl ?_
  refine r_iconst (v := (1 : Int32)) dX7_place_18 rfl ?_
  refine r_isub dX7_place_19 ?_
  refine r_istore (lv' := [(6, .int ((h.1 41 a1.toNatClampNeg) - (1 : Int32))), (5, .int (-1 : Int32)), (4, .int (h.1 41 a1.toNatClampNeg)), (3, .int (a1 * (24 : Int32))), (0, .ref (eA E 46)), (1, .int a1), (2, .ref (eA E 40))]) dX7_place_20 (by decide) rfl ?_
  refine r_sub [4, 5, 6, 3, 2, 1, 0] rfl ?_
  exact t
set_option maxRecDepth 20000 in
theorem sg_X7_place_22 (E : En) (d : Nat) (g : Ga) (x1 : Int32) (x3 : Int32) (x4 : Int32) (x5 : Int32) (x6 : Int32) (h : Hp) (P : Hp → Prop) (t : (x6 < 0 → ((¬ x4 = 0 → (vp_in x1 8 ∧ (VX7_place_99 E d g P x1 x3 x4 x5 (0 : Int32) (sI h 50 x1.toNatClampNeg (h.1 46 4))))) ∧ (x4 = 0 → (vp_in x1 8 ∧ (VX7_place_99 E d g P x1 x3 x4 x5 (0 : Int32) (sI h 50 x1.toNatClampNeg x5)))))) ∧ (¬ x6 < 0 → (vp_in (x3 + x6) 192 ∧ (vp_in (x3 + x6) 192 ∧ (SpI E d MX7_equalBefore [.ref (eA E 46), .int x5, .int (h.1 44 ((x3 + x6).toNatClampNeg)), .int (h.1 45 ((x3 + x6).toNatClampNeg))] h (fun v7 h7 => (¬ v7 = (-1 : Int32) → (VX7_place_22 E d g P x1 x3 x6 v7 (x6 + (-1 : Int32)) h7)) ∧ (v7 = (-1 : Int32) → ((¬ x4 = 0 → (vp_in x1 8 ∧ (VX7_place_99 E d g P x1 x3 x4 x5 (0 : Int32) (sI h7 50 x1.toNatClampNeg (h7.1 46 4))))) ∧ (x4 = 0 → (vp_in x1 8 ∧ (VX7_place_99 E d g P x1 x3 x4 x5 (0 : Int32) (sI h7 50 x1.toNatClampNeg x5)))))))))))) : VX7_place_22 E d g P x1 x3 x4 x5 x6 h := by
  refine r_iload (q := 6) dX7_place_22 rfl ?_
  refine r_if_lt (tgt := 76) dX7_place_24 (by decide) (fun q1 => ?_) (fun q1 => ?_)
  · have t := t.1 q1
    refine r_aload_n (q := 0) dX7_place_76 rfl rfl ?_
    refine r_getR (c := 46) (c2 := 50) dX7_place_77 flX7_22 lay_46 rfl ?_
    refine r_iload_n (q := 1) dX7_place_80 rfl rfl ?_
    refine r_iload (q := 4) dX7_place_81 rfl ?_
    refine r_if_ne (tgt := 91) dX7_place_83 (by decide) (fun q2 => ?_) (fun q2 => ?_)
    · have t := t.1 q2
      refine r_aload_n (q := 0) dX7_place_91 rfl rfl ?_
      refine r_getI (c := 46) dX7_place_92 flX7_25 lay_46 rfl ?_
      obtain ⟨c3, t⟩ := t
      refine r_iast (c := 50) dX7_place_95 lay_50 c3 ?_
      refine r_iconst (v := (0 : Int32)) dX7_place_96 rfl ?_
      refine r_istore (lv' := [(6, .int (0 : Int32)), (0, .ref (eA E 46)), (1, .int x1), (2, .ref (eA E 40)), (3, .int x3), (4, .int x4), (5, .int x5)]) dX7_place_97 (by decide) rfl ?_
      refine r_sub [1, 2, 3, 4, 5, 6, 0] rfl ?_
      exact t
    · have t := t.2 q2
      refine r_iload (q := 5) dX7_place_86 rfl ?_
      refine r_goto (tgt := 95) dX7_place_88 (by decide) ?_
      obtain ⟨c4, t⟩ := t
      refine r_iast (c := 50) dX7_place_95 lay_50 c4 ?_
      refine r_iconst (v := (0 : Int32)) dX7_place_96 rfl ?_
      refine r_istore (lv' := [(6, .int (0 : Int32)), (0, .ref (eA E 46)), (1, .int x1), (2, .ref (eA E 40)), (3, .int x3), (4, .int x4), (5, .int x5)]) dX7_place_97 (by decide) rfl ?_
      refine r_sub [1, 2, 3, 4, 5, 6, 0] rfl ?_
      exact t
  · have t := t.2 q1
    refine r_aload_n (q := 0) dX7_place_27 rfl rfl ?_
    refine r_iload (q := 5) dX7_place_28 rfl ?_
    refine r_aload_n (q := 2) dX7_place_30 rfl rfl ?_
    refine r_getR (c := 40) (c2 := 44) dX7_place_31 flX7_34 lay_40 rfl ?_
    refine r_iload_n (q := 3) dX7_place_34 rfl rfl ?_
    refine r_iload (q := 6) dX7_place_35 rfl ?_
    refine r_iadd dX7_place_37 ?_
    obtain ⟨c5, t⟩ := t
    refine r_iald (c := 44) dX7_place_38 lay_44 c5 ?_
    refine r_aload_n (q := 2) dX7_place_39 rfl rfl ?_
    refine r_getR (c := 40) (c2 := 45) dX7_place_40 flX7_35 lay_40 rfl ?_
    refine r_iload_n (q := 3) dX7_place_43 rfl rfl ?_
    refine r_iload (q := 6) dX7_place_44 rfl ?_
    refine r_iadd dX7_place_46 ?_
    obtain ⟨c6, t⟩ := t
    refine r_zald (c := 45) dX7_place_47 lay_45 c6 ?_
    refine r_cVI (c := 46) (As := [.int x5, .int (h.1 44 ((x3 + x6).toNatClampNeg)), .int (h.1 45 ((x3 + x6).toNatClampNeg))]) dX7_place_48 mkX7_equalBefore lkX7_36 lay_46 rfl rfl rfl (by decide) rfl (Nat.le_of_ble_eq_true rfl) z00 t ?_
    intro v7 h7 t
    refine r_istore (lv' := [(7, .int v7), (0, .ref (eA E 46)), (1, .int x1), (2, .ref (eA E 40)), (3, .int x3), (4, .int x4), (5, .int x5), (6, .int x6)]) dX7_place_51 (by decide) rfl ?_
    refine r_iload (q := 0) dX7_place_53 rfl ?_
    refine r_iconst (v := (-1 : Int32)) dX7_place_55 rfl ?_
    refine r_icmp_ne (tgt := 62) dX7_place_56 (by decide) (fun q8 => ?_) (fun q8 => ?_)
    · have t := t.1 q8
      refine r_iload (q := 0) dX7_place_62 rfl ?_
      refine r_istore (lv' := [(5, .int v7), (7, .int v7), (0, .ref (eA E 46)), (1, .int x1), (2, .ref (eA E 40)), (3, .int x3), (4, .int x4), (6, .int x6)]) dX7_place_64 (by decide) rfl ?_
      refine r_iload (q := 7) dX7_place_66 rfl ?_
      refine r_istore (lv' := [(4, .int x6), (5, .int v7), (7, .int v7), (0, .ref (eA E 46)), (1, .int x1), (2, .ref (eA E 40)), (3, .int x3), (6, .int x6)]) dX7_place_68 (by decide) rfl ?_
      refine r_iinc (k := 7) (v := x6 + (-1 : Int32)) (lv' := [(6, .int (x6 + (-1 : Int32))), (4, .int x6), (5, .int v7), (7, .int v7), (0, .ref (eA E 46)), (1, .int x1), (2, .ref (eA E 40)), (3, .int x3)]) dX7_place_70 rfl rfl (by decide) rfl ?_
      refine r_goto (tgt := 22) dX7_place_73 (by decide) ?_
      refine r_sub [4, 5, 6, 7, 1, 2, 0] rfl ?_
      exact t
    · have t := t.2 q8
      refine r_goto (tgt := 76) dX7_place_59 (by decide) ?_
      refine r_aload_n (q := 1) dX7_place_76 rfl rfl ?_
      refine r_getR (c := 46) (c2 := 50) dX7_place_77 flX7_22 lay_46 rfl ?_
      refine r_iload_n (q := 2) dX7_place_80 rfl rfl ?_
      refine r_iload (q := 5) dX7_place_81 rfl ?_
      refine r_if_ne (tgt := 91) dX7_place_83 (by decide) (fun q9 => ?_) (fun q9 => ?_)
      · have t := t.1 q9
        refine r_aload_n (q := 1) dX7_place_91 rfl rfl ?_
        refine r_getI (c := 46) dX7_place_92 flX7_25 lay_46 rfl ?_
        obtain ⟨c10, t⟩ := t
        refine r_iast (c := 50) dX7_place_95 lay_50 c10 ?_
        refine r_iconst (v := (0 : Int32)) dX7_place_96 rfl ?_
        refine r_istore (lv' := [(6, .int (0 : Int32)), (7, .int v7), (0, .ref (eA E 46)), (1, .int x1), (2, .ref (eA E 40)), (3, .int x3), (4, .int x4), (5, .int x5)]) dX7_place_97 (by decide) rfl ?_
        refine r_sub [2, 3, 4, 5, 6, 7, 0] rfl ?_
        exact t
      · have t := t.2 q9
        refine r_iload (q := 6) dX7_place_86 rfl ?_
        refine r_goto (tgt := 95) dX7_place_88 (by decide) ?_
        obtain ⟨c11, t⟩ := t
        refine r_iast (c := 50) dX7_place_95 lay_50 c11 ?_
        refine r_iconst (v := (0 : Int32)) dX7_place_96 rfl ?_
        refine r_istore (lv' := [(6, .int (0 : Int32)), (7, .int v7), (0, .ref (eA E 46)), (1, .int x1), (2, .ref (eA E 40)), (3, .int x3), (4, .int x4), (5, .int x5)]) dX7_place_97 (by decide) rfl ?_
        refine r_sub [2, 3, 4, 5, 6, 7, 0] rfl ?_
        exact t
set_option maxRecDepth 20000 in
theorem sg_X7_place_99 (E : En) (d : Nat) (g : Ga) (x1 : Int32) (x3 : Int32) (x4 : Int32) (x5 : Int32) (x6 : Int32) (h : Hp) (P : Hp → Prop) (t : (x4 ≤ x6 → (P h)) ∧ (¬ x4 ≤ x6 → (((192 : Int32) ≤ (h.1 46 4) → (P h)) ∧ (¬ (192 : Int32) ≤ (h.1 46 4) → (vp_in (x3 + x6) 192 ∧ (vp_in (h.1 46 4) 192 ∧ (vp_in (x3 + x6) 192 ∧ (vp_in (h.1 46 4) 192 ∧ ((¬ x6 = (x4 - (1 : Int32)) → (vp_in (h.1 46 4) 192 ∧ (VX7_place_99 E d g P x1 x3 x4 x5 (x6 + (1 : Int32)) (sI (sI (sI (sI h 47 ((h.1 46 4).toNatClampNeg) (h.1 44 ((x3 + x6).toNatClampNeg))) 48 ((h.1 46 4).toNatClampNeg) (vp_nar .boolean (h.1 45 ((x3 + x6).toNatClampNeg)))) 49 ((h.1 46 4).toNatClampNeg) ((h.1 46 4) + (1 : Int32))) 46 4 ((h.1 46 4) + (1 : Int32)))))) ∧ (x6 = (x4 - (1 : Int32)) → (vp_in (h.1 46 4) 192 ∧ (VX7_place_99 E d g P x1 x3 x4 x5 (x6 + (1 : Int32)) (sI (sI (sI (sI h 47 ((h.1 46 4).toNatClampNeg) (h.1 44 ((x3 + x6).toNatClampNeg))) 48 ((h.1 46 4).toNatClampNeg) (vp_nar .boolean (h.1 45 ((x3 + x6).toNatClampNeg)))) 49 ((h.1 46 4).toNatClampNeg) x5) 46 4 ((h.1 46 4) + (1 : Int32))))))))))))))) : VX7_place_99 E d g P x1 x3 x4 x5 x6 h := by
  refine r_iload (q := 6) dX7_place_99 rfl ?_
  refine r_iload (q := 4) dX7_place_101 rfl ?_
  refine r_icmp_ge (tgt := 197) dX7_place_103 (by decide) (fun q1 => ?_) (fun q1 => ?_)
  · have t := t.1 q1
    exact r_vret dX7_place_197 rfl t
  · have t := t.2 q1
    refine r_aload_n (q := 0) dX7_place_106 rfl rfl ?_
    refine r_getI (c := 46) dX7_place_107 flX7_25 lay_46 rfl ?_
    refine r_sipush (v := (192 : Int32)) dX7_place_110 rfl ?_
    refine r_icmp_ge (tgt := 197) dX7_place_113 (by decide) (fun q2 => ?_) (fun q2 => ?_)
    · have t := t.1 q2
      exact r_vret dX7_place_197 rfl t
    · have t := t.2 q2
      refine r_aload_n (q := 0) dX7_place_116 rfl rfl ?_
      refine r_getR (c := 46) (c2 := 47) dX7_place_117 flX7_9 lay_46 rfl ?_
      refine r_aload_n (q := 0) dX7_place_120 rfl rfl ?_
      refine r_getI (c := 46) dX7_place_121 flX7_25 lay_46 rfl ?_
      refine r_aload_n (q := 2) dX7_place_124 rfl rfl ?_
      refine r_getR (c := 40) (c2 := 44) dX7_place_125 flX7_34 lay_40 rfl ?_
      refine r_iload_n (q := 3) dX7_place_128 rfl rfl ?_
      refine r_iload (q := 6) dX7_place_129 rfl ?_
      refine r_iadd dX7_place_131 ?_
      obtain ⟨c3, t⟩ := t
      refine r_iald (c := 44) dX7_place_132 lay_44 c3 ?_
      obtain ⟨c4, t⟩ := t
      refine r_iast (c := 47) dX7_place_133 lay_47 c4 ?_
      refine r_aload_n (q := 0) dX7_place_134 rfl rfl ?_
      refine r_getR (c := 46) (c2 := 48) dX7_place_135 flX7_15 lay_46 rfl ?_
      refine r_aload_n (q := 0) dX7_place_138 rfl rfl ?_
      refine r_getIv (c := 46) (v := h.1 46 4) dX7_place_139 flX7_25 lay_46 rfl rfl ?_
      refine r_aload_n (q := 2) dX7_place_142 rfl rfl ?_
      refine r_getR (c := 40) (c2 := 45) dX7_place_143 flX7_35 lay_40 rfl ?_
      refine r_iload_n (q := 3) dX7_place_146 rfl rfl ?_
      refine r_iload (q := 6) dX7_place_147 rfl ?_
      refine r_iadd dX7_place_149 ?_
      obtain ⟨c5, t⟩ := t
      refine r_zaldv (c := 45) (v := h.1 45 ((x3 + x6).toNatClampNeg)) dX7_place_150 lay_45 c5 rfl ?_
      obtain ⟨c6, t⟩ := t
      refine r_zast (c := 48) dX7_place_151 lay_48 c6 ?_
      refine r_aload_n (q := 0) dX7_place_152 rfl rfl ?_
      refine r_getR (c := 46) (c2 := 49) dX7_place_153 flX7_19 lay_46 rfl ?_
      refine r_aload_n (q := 0) dX7_place_156 rfl rfl ?_
      refine r_getIv (c := 46) (v := h.1 46 4) dX7_place_157 flX7_25 lay_46 rfl rfl ?_
      refine r_iload (q := 6) dX7_place_160 rfl ?_
      refine r_iload (q := 4) dX7_place_162 rfl ?_
      refine r_iconst (v := (1 : Int32)) dX7_place_164 rfl ?_
      refine r_isub dX7_place_165 ?_
      refine r_icmp_ne (tgt := 174) dX7_place_166 (by decide) (fun q7 => ?_) (fun q7 => ?_)
      · have t := t.1 q7
        refine r_aload_n (q := 0) dX7_place_174 rfl rfl ?_
        refine r_getIv (c := 46) (v := h.1 46 4) dX7_place_175 flX7_25 lay_46 rfl rfl ?_
        refine r_iconst (v := (1 : Int32)) dX7_place_178 rfl ?_
        refine r_iadd dX7_place_179 ?_
        obtain ⟨c8, t⟩ := t
        refine r_iast (c := 49) dX7_place_180 lay_49 c8 ?_
        refine r_aload_n (q := 0) dX7_place_181 rfl rfl ?_
        refine r_dup dX7_place_182 rfl ?_
        refine r_getIv (c := 46) (v := h.1 46 4) dX7_place_183 flX7_25 lay_46 rfl rfl ?_
        refine r_iconst (v := (1 : Int32)) dX7_place_186 rfl ?_
        refine r_iadd dX7_place_187 ?_
        refine r_putI (c := 46) dX7_place_188 flX7_25 lay_46 rfl ?_
        refine r_iinc (k := 6) (v := x6 + (1 : Int32)) (lv' := [(6, .int (x6 + (1 : Int32))), (0, .ref (eA E 46)), (1, .int x1), (2, .ref (eA E 40)), (3, .int x3), (4, .int x4), (5, .int x5)]) dX7_place_191 rfl rfl (by decide) rfl ?_
        refine r_goto (tgt := 99) dX7_place_194 (by decide) ?_
        refine r_sub [1, 2, 3, 4, 5, 6, 0] rfl ?_
        exact t
      · have t := t.2 q7
        refine r_iload (q := 5) dX7_place_169 rfl ?_
        refine r_goto (tgt := 180) dX7_place_171 (by decide) ?_
        obtain ⟨c9, t⟩ := t
        refine r_iast (c := 49) dX7_place_180 lay_49 c9 ?_
        refine r_aload_n (q := 0) dX7_place_181 rfl rfl ?_
        refine r_dup dX7_place_182 rfl ?_
        refine r_getIv (c := 46) (v := h.1 46 4) dX7_place_183 flX7_25 lay_46 rfl rfl ?_
        refine r_iconst (v := (1 : Int32)) dX7_place_186 rfl ?_
        refine r_iadd dX7_place_187 ?_
        refine r_putI (c := 46) dX7_place_188 flX7_25 lay_46 rfl ?_
        refine r_iinc (k := 6) (v := x6 + (1 : Int32)) (lv' := [(6, .int (x6 + (1 : Int32))), (0, .ref (eA E 46)), (1, .int x1), (2, .ref (eA E 40)), (3, .int x3), (4, .int x4), (5, .int x5)]) dX7_place_191 rfl rfl (by decide) rfl ?_
        refine r_goto (tgt := 99) dX7_place_194 (by decide) ?_
        refine r_sub [1, 2, 3, 4, 5, 6, 0] rfl ?_
        exact t
