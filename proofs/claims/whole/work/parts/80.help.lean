/-! the law's own helpers: static methods with a table of handlers -/
abbrev wsH (M : Mt) (hh : List (Nat × Nat × Nat × Nat)) : List Cond := Cond.codeWith M.1 M.2.1 M.2.2.1 M.2.2.2 hh :: TBL
def SpH (E : En) (d k : Nat) (M : Mt) (hh : List (Nat × Nat × Nat × Nat)) (av : List Value) (h : Hp) (P : Int32 → Hp → Prop) : Prop := Met (eL E) M.1 (wsH M hh) (RM d k) (va_Pc av (Pre E h)) (QI E P) k (6 * k) (A0 E)
def TabIs (g : Ga) (hh : List (Nat × Nat × Nat × Nat)) : Prop := match g with
  | (_, _, _, _, _, _, _, c) => c.exceptionTable.toList = tableOf hh
def Catch (hh : List (Nat × Nat × Nat × Nat)) (pc : Nat) (X : String) (hpc : Nat) : Prop := ∃ (pre : List (Nat × Nat × Nat × Nat)) (x : Nat × Nat × Nat × Nat) (suf : List (Nat × Nat × Nat × Nat)), hh = pre ++ x :: suf ∧ (∀ z ∈ pre, z.2.2.2 ≠ 0 ∧ ∃ nm : String, Cond.classLink RL z.2.2.2 nm ∈ TBL ∧ (X, nm) ∈ NCASTS) ∧ covers (⟨x.1, x.2.1, x.2.2.1, x.2.2.2⟩ : ExceptionTableEntry) pc = true ∧ x.2.2.2 ≠ 0 ∧ x.2.2.1 = hpc ∧ Cond.classLink RL x.2.2.2 X ∈ TBL ∧ (X, X) ∈ CASTS
section HELP
variable {E : En} {M M' : Mt} {g : Ga} {Q : State → Prop} {cells slots d k k1 : Nat} {h : Hp} {pc : Nat} {lv lv' : List (Nat × Value)} {st st0 : List Value} {PX : String → Hp → Prop} {hh : List (Nat × Nat × Nat × Nat)}
theorem SpH.of {av : List Value} {P : Int32 → Hp → Prop} {lv0 : List (Nat × Value)} (hy : plainName M.1.cls = true) (hn : (lg_sl av).length ≤ M.2.2.1) (he : lv_args 0 av = lv0) (t : ∀ g : Ga, TabIs g hh → V E M (RM d k) g (QQ E g (QI E P) k (6 * k)) 0 0 h 0 lv0 []) : SpH E d k M hh av h P := by
  have key : vx_Met (eL E) M.1 (wsH M hh) (RM d k) (va_Pc av (Pre E h)) (QI E P) (fun _ _ _ => False) k (6 * k) (A0 E) := by
    refine vx_ofWH (cc := M.2.1) (maxL := M.2.2.1) (ret := M.2.2.2) (hh := hh) hy rfl ?_
    intro p e s m args below meth c s₁ B hml hv
    obtain ⟨rfl, hP, hA, hK⟩ := hv
    have hts := atoms_spec (ws := wsH M hh) B.pre
    have hl := lv_entry av hn
    rw [he] at hl
    rw [lg_entry_eq]
    exact vx_ret (t (p, e, s, m, av.toArray, below, meth, c) (vx_table (x := M.1) B (hts _ List.mem_cons_self)) ⟨B.exec, B.bytes, hml, findClass_of_methodNamed B.named, fun w hw => hts w (List.mem_cons_of_mem _ hw), B.notSynchronized, B.returns, hA, hK⟩ s.heap [] _ hP va_S.rf hl)
  unfold SpH Met
  unfold vx_Met at key
  refine MetFree.mono key (fun _ _ q => q) (fun _ _ _ _ _ q => q) (fun a s o s' _ q => ?_)
  rcases q with q | ⟨q1, -, X, ce, L, hX, -⟩
  · exact q
  · exact hX.elim
theorem x_catch {p : Program} {e : Env} {R : Room} {s : State} {m : MethodId} {args : Array Value} {below : List Frame} {meth : Method} {c : Code} {H1 : Heap} {locs1 : List Loc} {ls : Array Slot} {X : String} {ce : Cell} {q9 hpc : Nat} {u : Hp} {c1 s1 : Nat} (C : Cx E M (p, e, s, m, args, below, meth, c)) (ho : M.1.cls = RL) (hT : TabIs (p, e, s, m, args, below, meth, c) hh) (hc : Catch hh pc X hpc) (hP1 : va_P (eD E) vwCl (wl E u) H1) (hS1 : va_S (A0 E) s.heap H1 locs1) (hl : lv_has ls M.2.2.1 lv) (hce : H1[q9]? = some ce) (hcv : ce.vm = .none) (hcl : s.vm.findClass X = some ce.cls) (t : V E M R (p, e, s, m, args, below, meth, c) Q c1 s1 u hpc lv [.ref q9]) :
    vx_W p (eL E) e R s m args below meth c H1 locs1 c1 s1 Q (F0 m pc ls st) q9 := by
  obtain ⟨pre, x, suf, e1, hpass, hx, h0, rfl, hlk, hcast⟩ := hc
  have hown : s.vm.findClass RL = some m.cls := ho ▸ C.2.2.2.1
  refine vx_catch (own := RL) (name := X) hown (tableOf pre) ⟨x.1, x.2.1, x.2.2.1, x.2.2.2⟩ (tableOf suf) ?_ ?_ hx h0 (C.2.2.2.2.1 _ hlk) (va_Nw.use rfl (C.2.2.2.2.2.2.2.2.2.2.1 _ hcast)) hce hcv hcl (t C H1 locs1 ls hP1 hS1 hl)
  · have e2 : c.exceptionTable.toList = tableOf hh := hT
    rw [e2, e1]
    unfold tableOf
    rw [List.map_append, List.map_cons]
  · intro z hz
    obtain ⟨z0, hz0, rfl⟩ := List.mem_map.mp hz
    obtain ⟨h1, nm, h2, h3⟩ := hpass z0 hz0
    exact Or.inr ⟨h1, nm, C.2.2.2.2.1 _ h2, C.2.2.2.2.2.2.2.2.2.2.2.1 _ h3⟩
theorem r_hcVI {idx n c ci : Nat} {As : List Value} {fk : List (Nat × Nat)} {qc : vw_C} {P : Int32 → Hp → Prop} (hd : decode M.2.1 pc = .ok (.invokevirtual idx, 3)) (hk : MKV M' n) (hlk : Cond.methodLink M.1.cls idx M'.1 ∈ TBL) (hc : lay[c]? = some (.inl (ci, fk))) (hci : vwCl[ci]? = some qc) (hcn : qc.1 = M'.1.cls) (hn : As.length = n) (hmx : M'.2.2.1 ≤ 21) (hst : st0 = As.reverse ++ .ref (eA E c) :: st) (hw : (st.map fun v => v.category).sum ≤ 8) (hcs : cells + k1 ≤ k ∧ slots + 6 * k1 ≤ 6 * k) (ho : M.1.cls = RL) (hT : TabIs g hh)
    (sp : SxI E d k1 M' (.ref (eA E c) :: As) h P PX) (t : ∀ (v : Int32) (h' : Hp), P v h' → V E M (RM (d + 1) k) g Q (cells + k1) (slots + 6 * k1) h' (pc + 3) lv (.int v :: st)) (tx : ∀ (X : String) (h' : Hp) (q9 : Nat), PX X h' → ∃ hpc : Nat, Catch hh pc X hpc ∧ V E M (RM (d + 1) k) g Q (cells + k1) (slots + 6 * k1) h' hpc lv [.ref q9]) : V E M (RM (d + 1) k) g Q cells slots h pc lv st0 := by
  obtain ⟨p, e, s, m, args, below, meth, c0⟩ := g
  intro C H locs ls hP hS hl
  subst hst
  have hrecv := va_recv C.2.2.2.2.2.2.2.2.1.1 hP hci (wl_at hc)
  rw [hcn] at hrecv
  refine vx_calli (vx_runV (As := As) (rest := st) (mc := k1) (ms := 6 * k1) ⟨C.1, C.2.1, C.2.2.1, C.2.2.2.1, C.2.2.2.2.1⟩ sp (cwV n C.2.2.2.2.1 (gin_V hk hlk) rfl rfl rfl ⟨rfl, hk.2.2.2.2.1⟩ ⟨Nat.le_refl _, by show 8 + (M'.2.2.1 + 11) + 40 * d ≤ 40 * (d + 1); omega⟩) ⟨Pre_blind, hrecv, pre_at C hP hS⟩ rfl hn hl.1 rfl (lv_room hw) hd hcs) hS (fun _ _ q => q) (fun _ q => q) (fun _ _ q => q) (fun X ce q9 u t1 H1 locs1 ht hvm _ hB hz1 hk1 hS1 hce hcv hcl => ?_) (fun r u t1 H1 locs1 ht hvm hw1 hB hz1 hk1 hS1 => ?_)
  · obtain ⟨hpc, hcat, tv⟩ := tx X u q9 hB.1
    exact x_catch C ho hT hcat (by rw [← ht]; exact hB.2) hS1 hl hce hcv hcl tv
  · exact t r u hw1 C H1 locs1 ls (by rw [← ht]; exact hB) hS1 hl
theorem r_hcVL {idx n c ci : Nat} {As : List Value} {fk : List (Nat × Nat)} {qc : vw_C} {P : Int64 → Hp → Prop} (hd : decode M.2.1 pc = .ok (.invokevirtual idx, 3)) (hk : MKV M' n) (hlk : Cond.methodLink M.1.cls idx M'.1 ∈ TBL) (hc : lay[c]? = some (.inl (ci, fk))) (hci : vwCl[ci]? = some qc) (hcn : qc.1 = M'.1.cls) (hn : As.length = n) (hmx : M'.2.2.1 ≤ 21) (hst : st0 = As.reverse ++ .ref (eA E c) :: st) (hw : (st.map fun v => v.category).sum ≤ 8) (hcs : cells + k1 ≤ k ∧ slots + 6 * k1 ≤ 6 * k) (ho : M.1.cls = RL) (hT : TabIs g hh)
    (sp : SxL E d k1 M' (.ref (eA E c) :: As) h P PX) (t : ∀ (v : Int64) (h' : Hp), P v h' → V E M (RM (d + 1) k) g Q (cells + k1) (slots + 6 * k1) h' (pc + 3) lv (.long v :: st)) (tx : ∀ (X : String) (h' : Hp) (q9 : Nat), PX X h' → ∃ hpc : Nat, Catch hh pc X hpc ∧ V E M (RM (d + 1) k) g Q (cells + k1) (slots + 6 * k1) h' hpc lv [.ref q9]) : V E M (RM (d + 1) k) g Q cells slots h pc lv st0 := by
  obtain ⟨p, e, s, m, args, below, meth, c0⟩ := g
  intro C H locs ls hP hS hl
  subst hst
  have hrecv := va_recv C.2.2.2.2.2.2.2.2.1.1 hP hci (wl_at hc)
  rw [hcn] at hrecv
  refine vx_calll (vx_runV (As := As) (rest := st) (mc := k1) (ms := 6 * k1) ⟨C.1, C.2.1, C.2.2.1, C.2.2.2.1, C.2.2.2.2.1⟩ sp (cwV n C.2.2.2.2.1 (gin_V hk hlk) rfl rfl rfl ⟨rfl, hk.2.2.2.2.1⟩ ⟨Nat.le_refl _, by show 8 + (M'.2.2.1 + 11) + 40 * d ≤ 40 * (d + 1); omega⟩) ⟨Pre_blind, hrecv, pre_at C hP hS⟩ rfl hn hl.1 rfl (lv_room hw) hd hcs) hS (fun _ _ q => q) (fun _ q => q) (fun _ _ q => q) (fun X ce q9 u t1 H1 locs1 ht hvm _ hB hz1 hk1 hS1 hce hcv hcl => ?_) (fun r u t1 H1 locs1 ht hvm hw1 hB hz1 hk1 hS1 => ?_)
  · obtain ⟨hpc, hcat, tv⟩ := tx X u q9 hB.1
    exact x_catch C ho hT hcat (by rw [← ht]; exact hB.2) hS1 hl hce hcv hcl tv
  · exact t r u hw1 C H1 locs1 ls (by rw [← ht]; exact hB) hS1 hl
end HELP
theorem vin01 : vp_in (0 : Int32) 1 := by unfold vp_in; decide
theorem hl_13 : Cond.classLink RL 13 "java/util/NoSuchElementException" ∈ TBL := tb4 129 rfl rfl
theorem hl_19 : Cond.classLink RL 19 "java/lang/IndexOutOfBoundsException" ∈ TBL := tb4 205 rfl rfl
theorem hl_21 : Cond.classLink RL 21 "java/lang/IllegalArgumentException" ∈ TBL := tb4 206 rfl rfl
theorem hl_44 : Cond.classLink RL 44 "java/lang/IllegalStateException" ∈ TBL := tb5 66 rfl rfl
abbrev cL_outputByte : ByteArray := method_3_code
def yL_outputByte : MethodName := ⟨RL, "outputByte", "(LMicrocodeOptimizer;I[J)I"⟩
abbrev ML_outputByte : Mt := (yL_outputByte, cL_outputByte, 4, some .int)
abbrev HL_outputByte : List (Nat × Nat × Nat × Nat) := [(0, 9, 12, 13)]
theorem dL_outputByte_0 : decode cL_outputByte 0 = .ok (.aload_n 2, 1) := by decide +kernel
theorem dL_outputByte_1 : decode cL_outputByte 1 = .ok (.iconst 0, 1) := by decide +kernel
theorem dL_outputByte_2 : decode cL_outputByte 2 = .ok (.aload_n 0, 1) := by decide +kernel
theorem dL_outputByte_3 : decode cL_outputByte 3 = .ok (.iload_n 1, 1) := by decide +kernel
theorem dL_outputByte_4 : decode cL_outputByte 4 = .ok (.invokevirtual 7, 3) := by decide +kernel
theorem dL_outputByte_7 : decode cL_outputByte 7 = .ok (.i2l, 1) := by decide +kernel
theorem dL_outputByte_8 : decode cL_outputByte 8 = .ok (.lastore, 1) := by decide +kernel
theorem dL_outputByte_9 : decode cL_outputByte 9 = .ok (.goto 6, 3) := by decide +kernel
theorem dL_outputByte_12 : decode cL_outputByte 12 = .ok (.astore_n 3, 1) := by decide +kernel
theorem dL_outputByte_13 : decode cL_outputByte 13 = .ok (.iconst 1, 1) := by decide +kernel
theorem dL_outputByte_14 : decode cL_outputByte 14 = .ok (.ireturn, 1) := by decide +kernel
theorem dL_outputByte_15 : decode cL_outputByte 15 = .ok (.iconst 0, 1) := by decide +kernel
theorem dL_outputByte_16 : decode cL_outputByte 16 = .ok (.ireturn, 1) := by decide +kernel
set_option maxRecDepth 20000 in
theorem wp_L_outputByte (E : En) (d : Nat) (a1 : Int32) (h : Hp) (P : Int32 → Hp → Prop) (t : SxI E d 1 MX9_outputByte [.ref (eA E 0), .int a1] h (fun v h1 => P (0 : Int32) (sL h1 98 0 v.toInt64)) (fun X h1 => (X = "java/util/NoSuchElementException" ∧ P (1 : Int32) h1))) : SpH E (d + 1) 1 ML_outputByte HL_outputByte [.ref (eA E 0), .int a1, .ref (eA E 98)] h P := by
  refine SpH.of (lv0 := [(0, .ref (eA E 0)), (1, .int a1), (2, .ref (eA E 98))]) (by decide) (Nat.le_of_ble_eq_true rfl) rfl (fun g hT => ?_)
  refine r_aload_n (q := 2) dL_outputByte_0 rfl rfl ?_
  refine r_iconst (v := (0 : Int32)) dL_outputByte_1 rfl ?_
  refine r_aload_n (q := 0) dL_outputByte_2 rfl rfl ?_
  refine r_iload_n (q := 1) dL_outputByte_3 rfl rfl ?_
  refine r_hcVI (c := 0) (k1 := 1) (As := [.int a1]) (hh := HL_outputByte) dL_outputByte_4 mkX9_outputByte lkL_7 lay_0 rfl rfl rfl (by decide) rfl (Nat.le_of_ble_eq_true rfl) (by decide) rfl hT t (fun v h1 t => ?_) (fun X h1 q9 t => ?_)
  · refine r_i2l dL_outputByte_7 ?_
    refine r_last (c := 98) dL_outputByte_8 lay_98 vin01 ?_
    refine r_goto (tgt := 15) dL_outputByte_9 (by decide) ?_
    refine r_iconst (v := (0 : Int32)) dL_outputByte_15 rfl ?_
    exact r_iret dL_outputByte_16 rfl t
  · rcases t with ⟨rfl, t⟩
    · refine ⟨12, ⟨[], (0, 9, 12, 13), [], rfl, (fun z hz => absurd hz List.not_mem_nil), by decide, by decide, rfl, hl_13, by decide⟩, ?_⟩
      refine r_astore_n (lv' := [(3, .ref q9), (0, .ref (eA E 0)), (1, .int a1), (2, .ref (eA E 98))]) dL_outputByte_12 rfl (by decide) rfl ?_
      refine r_iconst (v := (1 : Int32)) dL_outputByte_13 rfl ?_
      exact r_iret dL_outputByte_14 rfl t
theorem mkL_outputByte : Cond.static yL_outputByte ∈ TBL ∧ Cond.codeWith yL_outputByte cL_outputByte 4 (some .int) HL_outputByte ∈ TBL := ⟨tb4 127 rfl rfl, tb4 128 rfl rfl⟩
abbrev cL_operation : ByteArray := method_4_code
def yL_operation : MethodName := ⟨RL, "operation", "(LMicrocodeOptimizer;II[J)I"⟩
abbrev ML_operation : Mt := (yL_operation, cL_operation, 5, some .int)
abbrev HL_operation : List (Nat × Nat × Nat × Nat) := [(0, 10, 13, 19), (0, 10, 17, 21)]
theorem dL_operation_0 : decode cL_operation 0 = .ok (.aload_n 3, 1) := by decide +kernel
theorem dL_operation_1 : decode cL_operation 1 = .ok (.iconst 0, 1) := by decide +kernel
theorem dL_operation_2 : decode cL_operation 2 = .ok (.aload_n 0, 1) := by decide +kernel
theorem dL_operation_3 : decode cL_operation 3 = .ok (.iload_n 1, 1) := by decide +kernel
theorem dL_operation_4 : decode cL_operation 4 = .ok (.iload_n 2, 1) := by decide +kernel
theorem dL_operation_5 : decode cL_operation 5 = .ok (.invokevirtual 15, 3) := by decide +kernel
theorem dL_operation_8 : decode cL_operation 8 = .ok (.i2l, 1) := by decide +kernel
theorem dL_operation_9 : decode cL_operation 9 = .ok (.lastore, 1) := by decide +kernel
theorem dL_operation_10 : decode cL_operation 10 = .ok (.goto 11, 3) := by decide +kernel
theorem dL_operation_13 : decode cL_operation 13 = .ok (.astore 4, 2) := by decide +kernel
theorem dL_operation_15 : decode cL_operation 15 = .ok (.iconst 1, 1) := by decide +kernel
theorem dL_operation_16 : decode cL_operation 16 = .ok (.ireturn, 1) := by decide +kernel
theorem dL_operation_17 : decode cL_operation 17 = .ok (.astore 4, 2) := by decide +kernel
theorem dL_operation_19 : decode cL_operation 19 = .ok (.iconst 2, 1) := by decide +kernel
theorem dL_operation_20 : decode cL_operation 20 = .ok (.ireturn, 1) := by decide +kernel
theorem dL_operation_21 : decode cL_operation 21 = .ok (.iconst 0, 1) := by decide +kernel
theorem dL_operation_22 : decode cL_operation 22 = .ok (.ireturn, 1) := by decide +kernel
set_option maxRecDepth 20000 in
theorem wp_L_operation (E : En) (d : Nat) (a1 : Int32) (a2 : Int32) (h : Hp) (P : Int32 → Hp → Prop) (t : SxI E d 2 MX9_operation [.ref (eA E 0), .int a1, .int a2] h (fun v h1 => P (0 : Int32) (sL h1 98 0 v.toInt64)) (fun X h1 => (X = "java/lang/IndexOutOfBoundsException" ∧ P (1 : Int32) h1) ∨ (X = "java/lang/IllegalArgumentException" ∧ P (2 : Int32) h1))) : SpH E (d + 1) 2 ML_operation HL_operation [.ref (eA E 0), .int a1, .int a2, .ref (eA E 98)] h P := by
  refine SpH.of (lv0 := [(0, .ref (eA E 0)), (1, .int a1), (2, .int a2), (3, .ref (eA E 98))]) (by decide) (Nat.le_of_ble_eq_true rfl) rfl (fun g hT => ?_)
  refine r_aload_n (q := 3) dL_operation_0 rfl rfl ?_
  refine r_iconst (v := (0 : Int32)) dL_operation_1 rfl ?_
  refine r_aload_n (q := 0) dL_operation_2 rfl rfl ?_
  refine r_iload_n (q := 1) dL_operation_3 rfl rfl ?_
  refine r_iload_n (q := 2) dL_operation_4 rfl rfl ?_
  refine r_hcVI (c := 0) (k1 := 2) (As := [.int a1, .int a2]) (hh := HL_operation) dL_operation_5 mkX9_operation lkL_15 lay_0 rfl rfl rfl (by decide) rfl (Nat.le_of_ble_eq_true rfl) (by decide) rfl hT t (fun v h1 t => ?_) (fun X h1 q9 t => ?_)
  · refine r_i2l dL_operation_8 ?_
    refine r_last (c := 98) dL_operation_9 lay_98 vin01 ?_
    refine r_goto (tgt := 21) dL_operation_10 (by decide) ?_
    refine r_iconst (v := (0 : Int32)) dL_operation_21 rfl ?_
    exact r_iret dL_operation_22 rfl t
  · rcases t with ⟨rfl, t⟩ | ⟨rfl, t⟩
    · refine ⟨13, ⟨[], (0, 10, 13, 19), [(0, 10, 17, 21)], rfl, (fun z hz => absurd hz List.not_mem_nil), by decide, by decide, rfl, hl_19, by decide⟩, ?_⟩
      refine r_astore (lv' := [(4, .ref q9), (0, .ref (eA E 0)), (1, .int a1), (2, .int a2), (3, .ref (eA E 98))]) dL_operation_13 (by decide) rfl ?_
      refine r_iconst (v := (1 : Int32)) dL_operation_15 rfl ?_
      exact r_iret dL_operation_16 rfl t
    · refine ⟨17, ⟨[(0, 10, 13, 19)], (0, 10, 17, 21), [], rfl, (fun z hz => by
          rcases List.mem_cons.mp hz with rfl | hz
          · exact ⟨by decide, _, hl_19, by decide⟩
          exact absurd hz List.not_mem_nil), by decide, by decide, rfl, hl_21, by decide⟩, ?_⟩
      refine r_astore (lv' := [(4, .ref q9), (0, .ref (eA E 0)), (1, .int a1), (2, .int a2), (3, .ref (eA E 98))]) dL_operation_17 (by decide) rfl ?_
      refine r_iconst (v := (2 : Int32)) dL_operation_19 rfl ?_
      exact r_iret dL_operation_20 rfl t
theorem mkL_operation : Cond.static yL_operation ∈ TBL ∧ Cond.codeWith yL_operation cL_operation 5 (some .int) HL_operation ∈ TBL := ⟨tb4 203 rfl rfl, tb4 204 rfl rfl⟩
abbrev cL_length : ByteArray := method_5_code
def yL_length : MethodName := ⟨RL, "length", "(LMicrocodeOptimizer;I[J)I"⟩
abbrev ML_length : Mt := (yL_length, cL_length, 4, some .int)
abbrev HL_length : List (Nat × Nat × Nat × Nat) := [(0, 9, 12, 19)]
theorem dL_length_0 : decode cL_length 0 = .ok (.aload_n 2, 1) := by decide +kernel
theorem dL_length_1 : decode cL_length 1 = .ok (.iconst 0, 1) := by decide +kernel
theorem dL_length_2 : decode cL_length 2 = .ok (.aload_n 0, 1) := by decide +kernel
theorem dL_length_3 : decode cL_length 3 = .ok (.iload_n 1, 1) := by decide +kernel
theorem dL_length_4 : decode cL_length 4 = .ok (.invokevirtual 23, 3) := by decide +kernel
theorem dL_length_7 : decode cL_length 7 = .ok (.i2l, 1) := by decide +kernel
theorem dL_length_8 : decode cL_length 8 = .ok (.lastore, 1) := by decide +kernel
theorem dL_length_9 : decode cL_length 9 = .ok (.goto 6, 3) := by decide +kernel
theorem dL_length_12 : decode cL_length 12 = .ok (.astore_n 3, 1) := by decide +kernel
theorem dL_length_13 : decode cL_length 13 = .ok (.iconst 1, 1) := by decide +kernel
theorem dL_length_14 : decode cL_length 14 = .ok (.ireturn, 1) := by decide +kernel
theorem dL_length_15 : decode cL_length 15 = .ok (.iconst 0, 1) := by decide +kernel
theorem dL_length_16 : decode cL_length 16 = .ok (.ireturn, 1) := by decide +kernel
set_option maxRecDepth 20000 in
theorem wp_L_length (E : En) (d : Nat) (a1 : Int32) (h : Hp) (P : Int32 → Hp → Prop) (t : SxI E d 1 MX9_length [.ref (eA E 0), .int a1] h (fun v h1 => P (0 : Int32) (sL h1 98 0 v.toInt64)) (fun X h1 => (X = "java/lang/IndexOutOfBoundsException" ∧ P (1 : Int32) h1))) : SpH E (d + 1) 1 ML_length HL_length [.ref (eA E 0), .int a1, .ref (eA E 98)] h P := by
  refine SpH.of (lv0 := [(0, .ref (eA E 0)), (1, .int a1), (2, .ref (eA E 98))]) (by decide) (Nat.le_of_ble_eq_true rfl) rfl (fun g hT => ?_)
  refine r_aload_n (q := 2) dL_length_0 rfl rfl ?_
  refine r_iconst (v := (0 : Int32)) dL_length_1 rfl ?_
  refine r_aload_n (q := 0) dL_length_2 rfl rfl ?_
  refine r_iload_n (q := 1) dL_length_3 rfl rfl ?_
  refine r_hcVI (c := 0) (k1 := 1) (As := [.int a1]) (hh := HL_length) dL_length_4 mkX9_length lkL_23 lay_0 rfl rfl rfl (by decide) rfl (Nat.le_of_ble_eq_true rfl) (by decide) rfl hT t (fun v h1 t => ?_) (fun X h1 q9 t => ?_)
  · refine r_i2l dL_length_7 ?_
    refine r_last (c := 98) dL_length_8 lay_98 vin01 ?_
    refine r_goto (tgt := 15) dL_length_9 (by decide) ?_
    refine r_iconst (v := (0 : Int32)) dL_length_15 rfl ?_
    exact r_iret dL_length_16 rfl t
  · rcases t with ⟨rfl, t⟩
    · refine ⟨12, ⟨[], (0, 9, 12, 19), [], rfl, (fun z hz => absurd hz List.not_mem_nil), by decide, by decide, rfl, hl_19, by decide⟩, ?_⟩
      refine r_astore_n (lv' := [(3, .ref q9), (0, .ref (eA E 0)), (1, .int a1), (2, .ref (eA E 98))]) dL_length_12 rfl (by decide) rfl ?_
      refine r_iconst (v := (1 : Int32)) dL_length_13 rfl ?_
      exact r_iret dL_length_14 rfl t
theorem mkL_length : Cond.static yL_length ∈ TBL ∧ Cond.codeWith yL_length cL_length 4 (some .int) HL_length ∈ TBL := ⟨tb5 12 rfl rfl, tb5 13 rfl rfl⟩
abbrev cL_operationAt : ByteArray := method_6_code
def yL_operationAt : MethodName := ⟨RL, "operationAt", "(LMicrocodeOptimizer;II[J)I"⟩
abbrev ML_operationAt : Mt := (yL_operationAt, cL_operationAt, 5, some .int)
abbrev HL_operationAt : List (Nat × Nat × Nat × Nat) := [(0, 10, 13, 19)]
theorem dL_operationAt_0 : decode cL_operationAt 0 = .ok (.aload_n 3, 1) := by decide +kernel
theorem dL_operationAt_1 : decode cL_operationAt 1 = .ok (.iconst 0, 1) := by decide +kernel
theorem dL_operationAt_2 : decode cL_operationAt 2 = .ok (.aload_n 0, 1) := by decide +kernel
theorem dL_operationAt_3 : decode cL_operationAt 3 = .ok (.iload_n 1, 1) := by decide +kernel
theorem dL_operationAt_4 : decode cL_operationAt 4 = .ok (.iload_n 2, 1) := by decide +kernel
theorem dL_operationAt_5 : decode cL_operationAt 5 = .ok (.invokevirtual 26, 3) := by decide +kernel
theorem dL_operationAt_8 : decode cL_operationAt 8 = .ok (.i2l, 1) := by decide +kernel
theorem dL_operationAt_9 : decode cL_operationAt 9 = .ok (.lastore, 1) := by decide +kernel
theorem dL_operationAt_10 : decode cL_operationAt 10 = .ok (.goto 7, 3) := by decide +kernel
theorem dL_operationAt_13 : decode cL_operationAt 13 = .ok (.astore 4, 2) := by decide +kernel
theorem dL_operationAt_15 : decode cL_operationAt 15 = .ok (.iconst 1, 1) := by decide +kernel
theorem dL_operationAt_16 : decode cL_operationAt 16 = .ok (.ireturn, 1) := by decide +kernel
theorem dL_operationAt_17 : decode cL_operationAt 17 = .ok (.iconst 0, 1) := by decide +kernel
theorem dL_operationAt_18 : decode cL_operationAt 18 = .ok (.ireturn, 1) := by decide +kernel
set_option maxRecDepth 20000 in
theorem wp_L_operationAt (E : En) (d : Nat) (a1 : Int32) (a2 : Int32) (h : Hp) (P : Int32 → Hp → Prop) (t : SxI E d 2 MX9_operationAt [.ref (eA E 0), .int a1, .int a2] h (fun v h1 => P (0 : Int32) (sL h1 98 0 v.toInt64)) (fun X h1 => (X = "java/lang/IndexOutOfBoundsException" ∧ P (1 : Int32) h1))) : SpH E (d + 1) 2 ML_operationAt HL_operationAt [.ref (eA E 0), .int a1, .int a2, .ref (eA E 98)] h P := by
  refine SpH.of (lv0 := [(0, .ref (eA E 0)), (1, .int a1), (2, .int a2), (3, .ref (eA E 98))]) (by decide) (Nat.le_of_ble_eq_true rfl) rfl (fun g hT => ?_)
  refine r_aload_n (q := 3) dL_operationAt_0 rfl rfl ?_
  refine r_iconst (v := (0 : Int32)) dL_operationAt_1 rfl ?_
  refine r_aload_n (q := 0) dL_operationAt_2 rfl rfl ?_
  refine r_iload_n (q := 1) dL_operationAt_3 rfl rfl ?_
  refine r_iload_n (q := 2) dL_operationAt_4 rfl rfl ?_
  refine r_hcVI (c := 0) (k1 := 2) (As := [.int a1, .int a2]) (hh := HL_operationAt) dL_operationAt_5 mkX9_operationAt lkL_26 lay_0 rfl rfl rfl (by decide) rfl (Nat.le_of_ble_eq_true rfl) (by decide) rfl hT t (fun v h1 t => ?_) (fun X h1 q9 t => ?_)
  · refine r_i2l dL_operationAt_8 ?_
    refine r_last (c := 98) dL_operationAt_9 lay_98 vin01 ?_
    refine r_goto (tgt := 17) dL_operationAt_10 (by decide) ?_
    refine r_iconst (v := (0 : Int32)) dL_operationAt_17 rfl ?_
    exact r_iret dL_operationAt_18 rfl t
  · rcases t with ⟨rfl, t⟩
    · refine ⟨13, ⟨[], (0, 10, 13, 19), [], rfl, (fun z hz => absurd hz List.not_mem_nil), by decide, by decide, rfl, hl_19, by decide⟩, ?_⟩
      refine r_astore (lv' := [(4, .ref q9), (0, .ref (eA E 0)), (1, .int a1), (2, .int a2), (3, .ref (eA E 98))]) dL_operationAt_13 (by decide) rfl ?_
      refine r_iconst (v := (1 : Int32)) dL_operationAt_15 rfl ?_
      exact r_iret dL_operationAt_16 rfl t
theorem mkL_operationAt : Cond.static yL_operationAt ∈ TBL ∧ Cond.codeWith yL_operationAt cL_operationAt 5 (some .int) HL_operationAt ∈ TBL := ⟨tb5 24 rfl rfl, tb5 25 rfl rfl⟩
abbrev cL_hasMark : ByteArray := method_7_code
def yL_hasMark : MethodName := ⟨RL, "hasMark", "(LMicrocodeOptimizer;II[J)I"⟩
abbrev ML_hasMark : Mt := (yL_hasMark, cL_hasMark, 5, some .int)
abbrev HL_hasMark : List (Nat × Nat × Nat × Nat) := [(0, 17, 20, 19)]
theorem dL_hasMark_0 : decode cL_hasMark 0 = .ok (.aload_n 3, 1) := by decide +kernel
theorem dL_hasMark_1 : decode cL_hasMark 1 = .ok (.iconst 0, 1) := by decide +kernel
theorem dL_hasMark_2 : decode cL_hasMark 2 = .ok (.aload_n 0, 1) := by decide +kernel
theorem dL_hasMark_3 : decode cL_hasMark 3 = .ok (.iload_n 1, 1) := by decide +kernel
theorem dL_hasMark_4 : decode cL_hasMark 4 = .ok (.iload_n 2, 1) := by decide +kernel
theorem dL_hasMark_5 : decode cL_hasMark 5 = .ok (.invokevirtual 29, 3) := by decide +kernel
theorem dL_hasMark_8 : decode cL_hasMark 8 = .ok (.ifCond .eq 7, 3) := by decide +kernel
theorem dL_hasMark_11 : decode cL_hasMark 11 = .ok (.lconst 1, 1) := by decide +kernel
theorem dL_hasMark_12 : decode cL_hasMark 12 = .ok (.goto 4, 3) := by decide +kernel
theorem dL_hasMark_15 : decode cL_hasMark 15 = .ok (.lconst 0, 1) := by decide +kernel
theorem dL_hasMark_16 : decode cL_hasMark 16 = .ok (.lastore, 1) := by decide +kernel
theorem dL_hasMark_17 : decode cL_hasMark 17 = .ok (.goto 7, 3) := by decide +kernel
theorem dL_hasMark_20 : decode cL_hasMark 20 = .ok (.astore 4, 2) := by decide +kernel
theorem dL_hasMark_22 : decode cL_hasMark 22 = .ok (.iconst 1, 1) := by decide +kernel
theorem dL_hasMark_23 : decode cL_hasMark 23 = .ok (.ireturn, 1) := by decide +kernel
theorem dL_hasMark_24 : decode cL_hasMark 24 = .ok (.iconst 0, 1) := by decide +kernel
theorem dL_hasMark_25 : decode cL_hasMark 25 = .ok (.ireturn, 1) := by decide +kernel
set_option maxRecDepth 20000 in
theorem wp_L_hasMark (E : En) (d : Nat) (a1 : Int32) (a2 : Int32) (h : Hp) (P : Int32 → Hp → Prop) (t : SxI E d 2 MX9_hasMark [.ref (eA E 0), .int a1, .int a2] h (fun v h1 => (v = 0 → P (0 : Int32) (sL h1 98 0 (0 : Int64))) ∧ (¬ v = 0 → P (0 : Int32) (sL h1 98 0 (1 : Int64)))) (fun X h1 => (X = "java/lang/IndexOutOfBoundsException" ∧ P (1 : Int32) h1))) : SpH E (d + 1) 2 ML_hasMark HL_hasMark [.ref (eA E 0), .int a1, .int a2, .ref (eA E 98)] h P := by
  refine SpH.of (lv0 := [(0, .ref (eA E 0)), (1, .int a1), (2, .int a2), (3, .ref (eA E 98))]) (by decide) (Nat.le_of_ble_eq_true rfl) rfl (fun g hT => ?_)
  refine r_aload_n (q := 3) dL_hasMark_0 rfl rfl ?_
  refine r_iconst (v := (0 : Int32)) dL_hasMark_1 rfl ?_
  refine r_aload_n (q := 0) dL_hasMark_2 rfl rfl ?_
  refine r_iload_n (q := 1) dL_hasMark_3 rfl rfl ?_
  refine r_iload_n (q := 2) dL_hasMark_4 rfl rfl ?_
  refine r_hcVI (c := 0) (k1 := 2) (As := [.int a1, .int a2]) (hh := HL_hasMark) dL_hasMark_5 mkX9_hasMark lkL_29 lay_0 rfl rfl rfl (by decide) rfl (Nat.le_of_ble_eq_true rfl) (by decide) rfl hT t (fun v h1 t => ?_) (fun X h1 q9 t => ?_)
  · refine r_if_eq (tgt := 15) dL_hasMark_8 (by decide) (fun q1 => ?_) (fun q1 => ?_)
    · have t := t.1 q1
      refine r_lconst (v := (0 : Int64)) dL_hasMark_15 rfl ?_
      refine r_last (c := 98) dL_hasMark_16 lay_98 vin01 ?_
      refine r_goto (tgt := 24) dL_hasMark_17 (by decide) ?_
      refine r_iconst (v := (0 : Int32)) dL_hasMark_24 rfl ?_
      exact r_iret dL_hasMark_25 rfl t
    · have t := t.2 q1
      refine r_lconst (v := (1 : Int64)) dL_hasMark_11 rfl ?_
      refine r_goto (tgt := 16) dL_hasMark_12 (by decide) ?_
      refine r_last (c := 98) dL_hasMark_16 lay_98 vin01 ?_
      refine r_goto (tgt := 24) dL_hasMark_17 (by decide) ?_
      refine r_iconst (v := (0 : Int32)) dL_hasMark_24 rfl ?_
      exact r_iret dL_hasMark_25 rfl t
  · rcases t with ⟨rfl, t⟩
    · refine ⟨20, ⟨[], (0, 17, 20, 19), [], rfl, (fun z hz => absurd hz List.not_mem_nil), by decide, by decide, rfl, hl_19, by decide⟩, ?_⟩
      refine r_astore (lv' := [(4, .ref q9), (0, .ref (eA E 0)), (1, .int a1), (2, .int a2), (3, .ref (eA E 98))]) dL_hasMark_20 (by decide) rfl ?_
      refine r_iconst (v := (1 : Int32)) dL_hasMark_22 rfl ?_
      exact r_iret dL_hasMark_23 rfl t
theorem mkL_hasMark : Cond.static yL_hasMark ∈ TBL ∧ Cond.codeWith yL_hasMark cL_hasMark 5 (some .int) HL_hasMark ∈ TBL := ⟨tb5 36 rfl rfl, tb5 37 rfl rfl⟩
abbrev cL_dependence : ByteArray := method_8_code
def yL_dependence : MethodName := ⟨RL, "dependence", "(LMicrocodeOptimizer;III[J)I"⟩
abbrev ML_dependence : Mt := (yL_dependence, cL_dependence, 6, some .int)
abbrev HL_dependence : List (Nat × Nat × Nat × Nat) := [(0, 12, 15, 19)]
theorem dL_dependence_0 : decode cL_dependence 0 = .ok (.aload 4, 2) := by decide +kernel
theorem dL_dependence_2 : decode cL_dependence 2 = .ok (.iconst 0, 1) := by decide +kernel
theorem dL_dependence_3 : decode cL_dependence 3 = .ok (.aload_n 0, 1) := by decide +kernel
theorem dL_dependence_4 : decode cL_dependence 4 = .ok (.iload_n 1, 1) := by decide +kernel
theorem dL_dependence_5 : decode cL_dependence 5 = .ok (.iload_n 2, 1) := by decide +kernel
theorem dL_dependence_6 : decode cL_dependence 6 = .ok (.iload_n 3, 1) := by decide +kernel
theorem dL_dependence_7 : decode cL_dependence 7 = .ok (.invokevirtual 33, 3) := by decide +kernel
theorem dL_dependence_10 : decode cL_dependence 10 = .ok (.i2l, 1) := by decide +kernel
theorem dL_dependence_11 : decode cL_dependence 11 = .ok (.lastore, 1) := by decide +kernel
theorem dL_dependence_12 : decode cL_dependence 12 = .ok (.goto 7, 3) := by decide +kernel
theorem dL_dependence_15 : decode cL_dependence 15 = .ok (.astore 5, 2) := by decide +kernel
theorem dL_dependence_17 : decode cL_dependence 17 = .ok (.iconst 1, 1) := by decide +kernel
theorem dL_dependence_18 : decode cL_dependence 18 = .ok (.ireturn, 1) := by decide +kernel
theorem dL_dependence_19 : decode cL_dependence 19 = .ok (.iconst 0, 1) := by decide +kernel
theorem dL_dependence_20 : decode cL_dependence 20 = .ok (.ireturn, 1) := by decide +kernel
set_option maxRecDepth 20000 in
theorem wp_L_dependence (E : En) (d : Nat) (a1 : Int32) (a2 : Int32) (a3 : Int32) (h : Hp) (P : Int32 → Hp → Prop) (t : SxI E d 4 MX9_dependence [.ref (eA E 0), .int a1, .int a2, .int a3] h (fun v h1 => P (0 : Int32) (sL h1 98 0 v.toInt64)) (fun X h1 => (X = "java/lang/IndexOutOfBoundsException" ∧ P (1 : Int32) h1))) : SpH E (d + 1) 4 ML_dependence HL_dependence [.ref (eA E 0), .int a1, .int a2, .int a3, .ref (eA E 98)] h P := by
  refine SpH.of (lv0 := [(0, .ref (eA E 0)), (1, .int a1), (2, .int a2), (3, .int a3), (4, .ref (eA E 98))]) (by decide) (Nat.le_of_ble_eq_true rfl) rfl (fun g hT => ?_)
  refine r_aload (q := 4) dL_dependence_0 rfl ?_
  refine r_iconst (v := (0 : Int32)) dL_dependence_2 rfl ?_
  refine r_aload_n (q := 0) dL_dependence_3 rfl rfl ?_
  refine r_iload_n (q := 1) dL_dependence_4 rfl rfl ?_
  refine r_iload_n (q := 2) dL_dependence_5 rfl rfl ?_
  refine r_iload_n (q := 3) dL_dependence_6 rfl rfl ?_
  refine r_hcVI (c := 0) (k1 := 4) (As := [.int a1, .int a2, .int a3]) (hh := HL_dependence) dL_dependence_7 mkX9_dependence lkL_33 lay_0 rfl rfl rfl (by decide) rfl (Nat.le_of_ble_eq_true rfl) (by decide) rfl hT t (fun v h1 t => ?_) (fun X h1 q9 t => ?_)
  · refine r_i2l dL_dependence_10 ?_
    refine r_last (c := 98) dL_dependence_11 lay_98 vin01 ?_
    refine r_goto (tgt := 19) dL_dependence_12 (by decide) ?_
    refine r_iconst (v := (0 : Int32)) dL_dependence_19 rfl ?_
    exact r_iret dL_dependence_20 rfl t
  · rcases t with ⟨rfl, t⟩
    · refine ⟨15, ⟨[], (0, 12, 15, 19), [], rfl, (fun z hz => absurd hz List.not_mem_nil), by decide, by decide, rfl, hl_19, by decide⟩, ?_⟩
      refine r_astore (lv' := [(5, .ref q9), (0, .ref (eA E 0)), (1, .int a1), (2, .int a2), (3, .int a3), (4, .ref (eA E 98))]) dL_dependence_15 (by decide) rfl ?_
      refine r_iconst (v := (1 : Int32)) dL_dependence_17 rfl ?_
      exact r_iret dL_dependence_18 rfl t
theorem mkL_dependence : Cond.static yL_dependence ∈ TBL ∧ Cond.codeWith yL_dependence cL_dependence 6 (some .int) HL_dependence ∈ TBL := ⟨tb5 43 rfl rfl, tb5 44 rfl rfl⟩
abbrev cL_setMode : ByteArray := method_9_code
def yL_setMode : MethodName := ⟨RL, "setMode", "(LMicrocodeOptimizer;I[J)I"⟩
abbrev ML_setMode : Mt := (yL_setMode, cL_setMode, 4, some .int)
abbrev HL_setMode : List (Nat × Nat × Nat × Nat) := [(0, 9, 12, 21)]
theorem dL_setMode_0 : decode cL_setMode 0 = .ok (.aload_n 2, 1) := by decide +kernel
theorem dL_setMode_1 : decode cL_setMode 1 = .ok (.iconst 0, 1) := by decide +kernel
theorem dL_setMode_2 : decode cL_setMode 2 = .ok (.aload_n 0, 1) := by decide +kernel
theorem dL_setMode_3 : decode cL_setMode 3 = .ok (.iload_n 1, 1) := by decide +kernel
theorem dL_setMode_4 : decode cL_setMode 4 = .ok (.invokevirtual 37, 3) := by decide +kernel
theorem dL_setMode_7 : decode cL_setMode 7 = .ok (.i2l, 1) := by decide +kernel
theorem dL_setMode_8 : decode cL_setMode 8 = .ok (.lastore, 1) := by decide +kernel
theorem dL_setMode_9 : decode cL_setMode 9 = .ok (.goto 6, 3) := by decide +kernel
theorem dL_setMode_12 : decode cL_setMode 12 = .ok (.astore_n 3, 1) := by decide +kernel
theorem dL_setMode_13 : decode cL_setMode 13 = .ok (.iconst 1, 1) := by decide +kernel
theorem dL_setMode_14 : decode cL_setMode 14 = .ok (.ireturn, 1) := by decide +kernel
theorem dL_setMode_15 : decode cL_setMode 15 = .ok (.iconst 0, 1) := by decide +kernel
theorem dL_setMode_16 : decode cL_setMode 16 = .ok (.ireturn, 1) := by decide +kernel
set_option maxRecDepth 20000 in
theorem wp_L_setMode (E : En) (d : Nat) (a1 : Int32) (h : Hp) (P : Int32 → Hp → Prop) (t : SxI E d 1 MX9_setMode [.ref (eA E 0), .int a1] h (fun v h1 => P (0 : Int32) (sL h1 98 0 v.toInt64)) (fun X h1 => (X = "java/lang/IllegalArgumentException" ∧ P (1 : Int32) h1))) : SpH E (d + 1) 1 ML_setMode HL_setMode [.ref (eA E 0), .int a1, .ref (eA E 98)] h P := by
  refine SpH.of (lv0 := [(0, .ref (eA E 0)), (1, .int a1), (2, .ref (eA E 98))]) (by decide) (Nat.le_of_ble_eq_true rfl) rfl (fun g hT => ?_)
  refine r_aload_n (q := 2) dL_setMode_0 rfl rfl ?_
  refine r_iconst (v := (0 : Int32)) dL_setMode_1 rfl ?_
  refine r_aload_n (q := 0) dL_setMode_2 rfl rfl ?_
  refine r_iload_n (q := 1) dL_setMode_3 rfl rfl ?_
  refine r_hcVI (c := 0) (k1 := 1) (As := [.int a1]) (hh := HL_setMode) dL_setMode_4 mkX9_setMode lkL_37 lay_0 rfl rfl rfl (by decide) rfl (Nat.le_of_ble_eq_true rfl) (by decide) rfl hT t (fun v h1 t => ?_) (fun X h1 q9 t => ?_)
  · refine r_i2l dL_setMode_7 ?_
    refine r_last (c := 98) dL_setMode_8 lay_98 vin01 ?_
    refine r_goto (tgt := 15) dL_setMode_9 (by decide) ?_
    refine r_iconst (v := (0 : Int32)) dL_setMode_15 rfl ?_
    exact r_iret dL_setMode_16 rfl t
  · rcases t with ⟨rfl, t⟩
    · refine ⟨12, ⟨[], (0, 9, 12, 21), [], rfl, (fun z hz => absurd hz List.not_mem_nil), by decide, by decide, rfl, hl_21, by decide⟩, ?_⟩
      refine r_astore_n (lv' := [(3, .ref q9), (0, .ref (eA E 0)), (1, .int a1), (2, .ref (eA E 98))]) dL_setMode_12 rfl (by decide) rfl ?_
      refine r_iconst (v := (1 : Int32)) dL_setMode_13 rfl ?_
      exact r_iret dL_setMode_14 rfl t
theorem mkL_setMode : Cond.static yL_setMode ∈ TBL ∧ Cond.codeWith yL_setMode cL_setMode 4 (some .int) HL_setMode ∈ TBL := ⟨tb5 52 rfl rfl, tb5 53 rfl rfl⟩
abbrev cL_setMark : ByteArray := method_10_code
def yL_setMark : MethodName := ⟨RL, "setMark", "(LMicrocodeOptimizer;IIZ[J)I"⟩
abbrev ML_setMark : Mt := (yL_setMark, cL_setMark, 6, some .int)
abbrev HL_setMark : List (Nat × Nat × Nat × Nat) := [(0, 12, 15, 19), (0, 12, 19, 44)]
theorem dL_setMark_0 : decode cL_setMark 0 = .ok (.aload 4, 2) := by decide +kernel
theorem dL_setMark_2 : decode cL_setMark 2 = .ok (.iconst 0, 1) := by decide +kernel
theorem dL_setMark_3 : decode cL_setMark 3 = .ok (.aload_n 0, 1) := by decide +kernel
theorem dL_setMark_4 : decode cL_setMark 4 = .ok (.iload_n 1, 1) := by decide +kernel
theorem dL_setMark_5 : decode cL_setMark 5 = .ok (.iload_n 2, 1) := by decide +kernel
theorem dL_setMark_6 : decode cL_setMark 6 = .ok (.iload_n 3, 1) := by decide +kernel
theorem dL_setMark_7 : decode cL_setMark 7 = .ok (.invokevirtual 40, 3) := by decide +kernel
theorem dL_setMark_10 : decode cL_setMark 10 = .ok (.i2l, 1) := by decide +kernel
theorem dL_setMark_11 : decode cL_setMark 11 = .ok (.lastore, 1) := by decide +kernel
theorem dL_setMark_12 : decode cL_setMark 12 = .ok (.goto 11, 3) := by decide +kernel
theorem dL_setMark_15 : decode cL_setMark 15 = .ok (.astore 5, 2) := by decide +kernel
theorem dL_setMark_17 : decode cL_setMark 17 = .ok (.iconst 1, 1) := by decide +kernel
theorem dL_setMark_18 : decode cL_setMark 18 = .ok (.ireturn, 1) := by decide +kernel
theorem dL_setMark_19 : decode cL_setMark 19 = .ok (.astore 5, 2) := by decide +kernel
theorem dL_setMark_21 : decode cL_setMark 21 = .ok (.iconst 2, 1) := by decide +kernel
theorem dL_setMark_22 : decode cL_setMark 22 = .ok (.ireturn, 1) := by decide +kernel
theorem dL_setMark_23 : decode cL_setMark 23 = .ok (.iconst 0, 1) := by decide +kernel
theorem dL_setMark_24 : decode cL_setMark 24 = .ok (.ireturn, 1) := by decide +kernel
set_option maxRecDepth 20000 in
theorem wp_L_setMark (E : En) (d : Nat) (a1 : Int32) (a2 : Int32) (a3 : Int32) (h : Hp) (P : Int32 → Hp → Prop) (t : SxI E d 3 MX9_setMark [.ref (eA E 0), .int a1, .int a2, .int a3] h (fun v h1 => P (0 : Int32) (sL h1 98 0 v.toInt64)) (fun X h1 => (X = "java/lang/IndexOutOfBoundsException" ∧ P (1 : Int32) h1) ∨ (X = "java/lang/IllegalStateException" ∧ P (2 : Int32) h1))) : SpH E (d + 1) 3 ML_setMark HL_setMark [.ref (eA E 0), .int a1, .int a2, .int a3, .ref (eA E 98)] h P := by
  refine SpH.of (lv0 := [(0, .ref (eA E 0)), (1, .int a1), (2, .int a2), (3, .int a3), (4, .ref (eA E 98))]) (by decide) (Nat.le_of_ble_eq_true rfl) rfl (fun g hT => ?_)
  refine r_aload (q := 4) dL_setMark_0 rfl ?_
  refine r_iconst (v := (0 : Int32)) dL_setMark_2 rfl ?_
  refine r_aload_n (q := 0) dL_setMark_3 rfl rfl ?_
  refine r_iload_n (q := 1) dL_setMark_4 rfl rfl ?_
  refine r_iload_n (q := 2) dL_setMark_5 rfl rfl ?_
  refine r_iload_n (q := 3) dL_setMark_6 rfl rfl ?_
  refine r_hcVI (c := 0) (k1 := 3) (As := [.int a1, .int a2, .int a3]) (hh := HL_setMark) dL_setMark_7 mkX9_setMark lkL_40 lay_0 rfl rfl rfl (by decide) rfl (Nat.le_of_ble_eq_true rfl) (by decide) rfl hT t (fun v h1 t => ?_) (fun X h1 q9 t => ?_)
  · refine r_i2l dL_setMark_10 ?_
    refine r_last (c := 98) dL_setMark_11 lay_98 vin01 ?_
    refine r_goto (tgt := 23) dL_setMark_12 (by decide) ?_
    refine r_iconst (v := (0 : Int32)) dL_setMark_23 rfl ?_
    exact r_iret dL_setMark_24 rfl t
  · rcases t with ⟨rfl, t⟩ | ⟨rfl, t⟩
    · refine ⟨15, ⟨[], (0, 12, 15, 19), [(0, 12, 19, 44)], rfl, (fun z hz => absurd hz List.not_mem_nil), by decide, by decide, rfl, hl_19, by decide⟩, ?_⟩
      refine r_astore (lv' := [(5, .ref q9), (0, .ref (eA E 0)), (1, .int a1), (2, .int a2), (3, .int a3), (4, .ref (eA E 98))]) dL_setMark_15 (by decide) rfl ?_
      refine r_iconst (v := (1 : Int32)) dL_setMark_17 rfl ?_
      exact r_iret dL_setMark_18 rfl t
    · refine ⟨19, ⟨[(0, 12, 15, 19)], (0, 12, 19, 44), [], rfl, (fun z hz => by
          rcases List.mem_cons.mp hz with rfl | hz
          · exact ⟨by decide, _, hl_19, by decide⟩
          exact absurd hz List.not_mem_nil), by decide, by decide, rfl, hl_44, by decide⟩, ?_⟩
      refine r_astore (lv' := [(5, .ref q9), (0, .ref (eA E 0)), (1, .int a1), (2, .int a2), (3, .int a3), (4, .ref (eA E 98))]) dL_setMark_19 (by decide) rfl ?_
      refine r_iconst (v := (2 : Int32)) dL_setMark_21 rfl ?_
      exact r_iret dL_setMark_22 rfl t
theorem mkL_setMark : Cond.static yL_setMark ∈ TBL ∧ Cond.codeWith yL_setMark cL_setMark 6 (some .int) HL_setMark ∈ TBL := ⟨tb5 64 rfl rfl, tb5 65 rfl rfl⟩
abbrev cL_wordCount : ByteArray := method_11_code
def yL_wordCount : MethodName := ⟨RL, "wordCount", "(LMicrocodeOptimizer;I[J)I"⟩
abbrev ML_wordCount : Mt := (yL_wordCount, cL_wordCount, 4, some .int)
abbrev HL_wordCount : List (Nat × Nat × Nat × Nat) := [(0, 9, 12, 19)]
theorem dL_wordCount_0 : decode cL_wordCount 0 = .ok (.aload_n 2, 1) := by decide +kernel
theorem dL_wordCount_1 : decode cL_wordCount 1 = .ok (.iconst 0, 1) := by decide +kernel
theorem dL_wordCount_2 : decode cL_wordCount 2 = .ok (.aload_n 0, 1) := by decide +kernel
theorem dL_wordCount_3 : decode cL_wordCount 3 = .ok (.iload_n 1, 1) := by decide +kernel
theorem dL_wordCount_4 : decode cL_wordCount 4 = .ok (.invokevirtual 46, 3) := by decide +kernel
theorem dL_wordCount_7 : decode cL_wordCount 7 = .ok (.i2l, 1) := by decide +kernel
theorem dL_wordCount_8 : decode cL_wordCount 8 = .ok (.lastore, 1) := by decide +kernel
theorem dL_wordCount_9 : decode cL_wordCount 9 = .ok (.goto 6, 3) := by decide +kernel
theorem dL_wordCount_12 : decode cL_wordCount 12 = .ok (.astore_n 3, 1) := by decide +kernel
theorem dL_wordCount_13 : decode cL_wordCount 13 = .ok (.iconst 1, 1) := by decide +kernel
theorem dL_wordCount_14 : decode cL_wordCount 14 = .ok (.ireturn, 1) := by decide +kernel
theorem dL_wordCount_15 : decode cL_wordCount 15 = .ok (.iconst 0, 1) := by decide +kernel
theorem dL_wordCount_16 : decode cL_wordCount 16 = .ok (.ireturn, 1) := by decide +kernel
set_option maxRecDepth 20000 in
theorem wp_L_wordCount (E : En) (d : Nat) (a1 : Int32) (h : Hp) (P : Int32 → Hp → Prop) (t : SxI E d 1 MX9_wordCount [.ref (eA E 0), .int a1] h (fun v h1 => P (0 : Int32) (sL h1 98 0 v.toInt64)) (fun X h1 => (X = "java/lang/IndexOutOfBoundsException" ∧ P (1 : Int32) h1))) : SpH E (d + 1) 1 ML_wordCount HL_wordCount [.ref (eA E 0), .int a1, .ref (eA E 98)] h P := by
  refine SpH.of (lv0 := [(0, .ref (eA E 0)), (1, .int a1), (2, .ref (eA E 98))]) (by decide) (Nat.le_of_ble_eq_true rfl) rfl (fun g hT => ?_)
  refine r_aload_n (q := 2) dL_wordCount_0 rfl rfl ?_
  refine r_iconst (v := (0 : Int32)) dL_wordCount_1 rfl ?_
  refine r_aload_n (q := 0) dL_wordCount_2 rfl rfl ?_
  refine r_iload_n (q := 1) dL_wordCount_3 rfl rfl ?_
  refine r_hcVI (c := 0) (k1 := 1) (As := [.int a1]) (hh := HL_wordCount) dL_wordCount_4 mkX9_wordCount lkL_46 lay_0 rfl rfl rfl (by decide) rfl (Nat.le_of_ble_eq_true rfl) (by decide) rfl hT t (fun v h1 t => ?_) (fun X h1 q9 t => ?_)
  · refine r_i2l dL_wordCount_7 ?_
    refine r_last (c := 98) dL_wordCount_8 lay_98 vin01 ?_
    refine r_goto (tgt := 15) dL_wordCount_9 (by decide) ?_
    refine r_iconst (v := (0 : Int32)) dL_wordCount_15 rfl ?_
    exact r_iret dL_wordCount_16 rfl t
  · rcases t with ⟨rfl, t⟩
    · refine ⟨12, ⟨[], (0, 9, 12, 19), [], rfl, (fun z hz => absurd hz List.not_mem_nil), by decide, by decide, rfl, hl_19, by decide⟩, ?_⟩
      refine r_astore_n (lv' := [(3, .ref q9), (0, .ref (eA E 0)), (1, .int a1), (2, .ref (eA E 98))]) dL_wordCount_12 rfl (by decide) rfl ?_
      refine r_iconst (v := (1 : Int32)) dL_wordCount_13 rfl ?_
      exact r_iret dL_wordCount_14 rfl t
theorem mkL_wordCount : Cond.static yL_wordCount ∈ TBL ∧ Cond.codeWith yL_wordCount cL_wordCount 4 (some .int) HL_wordCount ∈ TBL := ⟨tb5 94 rfl rfl, tb5 95 rfl rfl⟩
abbrev cL_word : ByteArray := method_12_code
def yL_word : MethodName := ⟨RL, "word", "(LMicrocodeOptimizer;II[J)I"⟩
abbrev ML_word : Mt := (yL_word, cL_word, 5, some .int)
abbrev HL_word : List (Nat × Nat × Nat × Nat) := [(0, 10, 13, 19)]
theorem dL_word_0 : decode cL_word 0 = .ok (.aload_n 3, 1) := by decide +kernel
theorem dL_word_1 : decode cL_word 1 = .ok (.iconst 0, 1) := by decide +kernel
theorem dL_word_2 : decode cL_word 2 = .ok (.aload_n 0, 1) := by decide +kernel
theorem dL_word_3 : decode cL_word 3 = .ok (.iload_n 1, 1) := by decide +kernel
theorem dL_word_4 : decode cL_word 4 = .ok (.iload_n 2, 1) := by decide +kernel
theorem dL_word_5 : decode cL_word 5 = .ok (.invokevirtual 49, 3) := by decide +kernel
theorem dL_word_8 : decode cL_word 8 = .ok (.i2l, 1) := by decide +kernel
theorem dL_word_9 : decode cL_word 9 = .ok (.lastore, 1) := by decide +kernel
theorem dL_word_10 : decode cL_word 10 = .ok (.goto 7, 3) := by decide +kernel
theorem dL_word_13 : decode cL_word 13 = .ok (.astore 4, 2) := by decide +kernel
theorem dL_word_15 : decode cL_word 15 = .ok (.iconst 1, 1) := by decide +kernel
theorem dL_word_16 : decode cL_word 16 = .ok (.ireturn, 1) := by decide +kernel
theorem dL_word_17 : decode cL_word 17 = .ok (.iconst 0, 1) := by decide +kernel
theorem dL_word_18 : decode cL_word 18 = .ok (.ireturn, 1) := by decide +kernel
set_option maxRecDepth 20000 in
theorem wp_L_word (E : En) (d : Nat) (a1 : Int32) (a2 : Int32) (h : Hp) (P : Int32 → Hp → Prop) (t : SxI E d 2 MX9_word [.ref (eA E 0), .int a1, .int a2] h (fun v h1 => P (0 : Int32) (sL h1 98 0 v.toInt64)) (fun X h1 => (X = "java/lang/IndexOutOfBoundsException" ∧ P (1 : Int32) h1))) : SpH E (d + 1) 2 ML_word HL_word [.ref (eA E 0), .int a1, .int a2, .ref (eA E 98)] h P := by
  refine SpH.of (lv0 := [(0, .ref (eA E 0)), (1, .int a1), (2, .int a2), (3, .ref (eA E 98))]) (by decide) (Nat.le_of_ble_eq_true rfl) rfl (fun g hT => ?_)
  refine r_aload_n (q := 3) dL_word_0 rfl rfl ?_
  refine r_iconst (v := (0 : Int32)) dL_word_1 rfl ?_
  refine r_aload_n (q := 0) dL_word_2 rfl rfl ?_
  refine r_iload_n (q := 1) dL_word_3 rfl rfl ?_
  refine r_iload_n (q := 2) dL_word_4 rfl rfl ?_
  refine r_hcVI (c := 0) (k1 := 2) (As := [.int a1, .int a2]) (hh := HL_word) dL_word_5 mkX9_word lkL_49 lay_0 rfl rfl rfl (by decide) rfl (Nat.le_of_ble_eq_true rfl) (by decide) rfl hT t (fun v h1 t => ?_) (fun X h1 q9 t => ?_)
  · refine r_i2l dL_word_8 ?_
    refine r_last (c := 98) dL_word_9 lay_98 vin01 ?_
    refine r_goto (tgt := 17) dL_word_10 (by decide) ?_
    refine r_iconst (v := (0 : Int32)) dL_word_17 rfl ?_
    exact r_iret dL_word_18 rfl t
  · rcases t with ⟨rfl, t⟩
    · refine ⟨13, ⟨[], (0, 10, 13, 19), [], rfl, (fun z hz => absurd hz List.not_mem_nil), by decide, by decide, rfl, hl_19, by decide⟩, ?_⟩
      refine r_astore (lv' := [(4, .ref q9), (0, .ref (eA E 0)), (1, .int a1), (2, .int a2), (3, .ref (eA E 98))]) dL_word_13 (by decide) rfl ?_
      refine r_iconst (v := (1 : Int32)) dL_word_15 rfl ?_
      exact r_iret dL_word_16 rfl t
theorem mkL_word : Cond.static yL_word ∈ TBL ∧ Cond.codeWith yL_word cL_word 5 (some .int) HL_word ∈ TBL := ⟨tb5 101 rfl rfl, tb5 102 rfl rfl⟩
abbrev cL_chain : ByteArray := method_13_code
def yL_chain : MethodName := ⟨RL, "chain", "(LMicrocodeOptimizer;I[J)I"⟩
abbrev ML_chain : Mt := (yL_chain, cL_chain, 4, some .int)
abbrev HL_chain : List (Nat × Nat × Nat × Nat) := [(0, 9, 12, 19)]
theorem dL_chain_0 : decode cL_chain 0 = .ok (.aload_n 2, 1) := by decide +kernel
theorem dL_chain_1 : decode cL_chain 1 = .ok (.iconst 0, 1) := by decide +kernel
theorem dL_chain_2 : decode cL_chain 2 = .ok (.aload_n 0, 1) := by decide +kernel
theorem dL_chain_3 : decode cL_chain 3 = .ok (.iload_n 1, 1) := by decide +kernel
theorem dL_chain_4 : decode cL_chain 4 = .ok (.invokevirtual 52, 3) := by decide +kernel
theorem dL_chain_7 : decode cL_chain 7 = .ok (.i2l, 1) := by decide +kernel
theorem dL_chain_8 : decode cL_chain 8 = .ok (.lastore, 1) := by decide +kernel
theorem dL_chain_9 : decode cL_chain 9 = .ok (.goto 6, 3) := by decide +kernel
theorem dL_chain_12 : decode cL_chain 12 = .ok (.astore_n 3, 1) := by decide +kernel
theorem dL_chain_13 : decode cL_chain 13 = .ok (.iconst 1, 1) := by decide +kernel
theorem dL_chain_14 : decode cL_chain 14 = .ok (.ireturn, 1) := by decide +kernel
theorem dL_chain_15 : decode cL_chain 15 = .ok (.iconst 0, 1) := by decide +kernel
theorem dL_chain_16 : decode cL_chain 16 = .ok (.ireturn, 1) := by decide +kernel
set_option maxRecDepth 20000 in
theorem wp_L_chain (E : En) (d : Nat) (a1 : Int32) (h : Hp) (P : Int32 → Hp → Prop) (t : SxI E d 1 MX9_chain [.ref (eA E 0), .int a1] h (fun v h1 => P (0 : Int32) (sL h1 98 0 v.toInt64)) (fun X h1 => (X = "java/lang/IndexOutOfBoundsException" ∧ P (1 : Int32) h1))) : SpH E (d + 1) 1 ML_chain HL_chain [.ref (eA E 0), .int a1, .ref (eA E 98)] h P := by
  refine SpH.of (lv0 := [(0, .ref (eA E 0)), (1, .int a1), (2, .ref (eA E 98))]) (by decide) (Nat.le_of_ble_eq_true rfl) rfl (fun g hT => ?_)
  refine r_aload_n (q := 2) dL_chain_0 rfl rfl ?_
  refine r_iconst (v := (0 : Int32)) dL_chain_1 rfl ?_
  refine r_aload_n (q := 0) dL_chain_2 rfl rfl ?_
  refine r_iload_n (q := 1) dL_chain_3 rfl rfl ?_
  refine r_hcVI (c := 0) (k1 := 1) (As := [.int a1]) (hh := HL_chain) dL_chain_4 mkX9_chain lkL_52 lay_0 rfl rfl rfl (by decide) rfl (Nat.le_of_ble_eq_true rfl) (by decide) rfl hT t (fun v h1 t => ?_) (fun X h1 q9 t => ?_)
  · refine r_i2l dL_chain_7 ?_
    refine r_last (c := 98) dL_chain_8 lay_98 vin01 ?_
    refine r_goto (tgt := 15) dL_chain_9 (by decide) ?_
    refine r_iconst (v := (0 : Int32)) dL_chain_15 rfl ?_
    exact r_iret dL_chain_16 rfl t
  · rcases t with ⟨rfl, t⟩
    · refine ⟨12, ⟨[], (0, 9, 12, 19), [], rfl, (fun z hz => absurd hz List.not_mem_nil), by decide, by decide, rfl, hl_19, by decide⟩, ?_⟩
      refine r_astore_n (lv' := [(3, .ref q9), (0, .ref (eA E 0)), (1, .int a1), (2, .ref (eA E 98))]) dL_chain_12 rfl (by decide) rfl ?_
      refine r_iconst (v := (1 : Int32)) dL_chain_13 rfl ?_
      exact r_iret dL_chain_14 rfl t
theorem mkL_chain : Cond.static yL_chain ∈ TBL ∧ Cond.codeWith yL_chain cL_chain 4 (some .int) HL_chain ∈ TBL := ⟨tb5 109 rfl rfl, tb5 110 rfl rfl⟩
abbrev cL_latency : ByteArray := method_14_code
def yL_latency : MethodName := ⟨RL, "latency", "(LMicrocodeOptimizer;I[J)I"⟩
abbrev ML_latency : Mt := (yL_latency, cL_latency, 4, some .int)
abbrev HL_latency : List (Nat × Nat × Nat × Nat) := [(0, 9, 12, 19)]
theorem dL_latency_0 : decode cL_latency 0 = .ok (.aload_n 2, 1) := by decide +kernel
theorem dL_latency_1 : decode cL_latency 1 = .ok (.iconst 0, 1) := by decide +kernel
theorem dL_latency_2 : decode cL_latency 2 = .ok (.aload_n 0, 1) := by decide +kernel
theorem dL_latency_3 : decode cL_latency 3 = .ok (.iload_n 1, 1) := by decide +kernel
theorem dL_latency_4 : decode cL_latency 4 = .ok (.invokevirtual 55, 3) := by decide +kernel
theorem dL_latency_7 : decode cL_latency 7 = .ok (.i2l, 1) := by decide +kernel
theorem dL_latency_8 : decode cL_latency 8 = .ok (.lastore, 1) := by decide +kernel
theorem dL_latency_9 : decode cL_latency 9 = .ok (.goto 6, 3) := by decide +kernel
theorem dL_latency_12 : decode cL_latency 12 = .ok (.astore_n 3, 1) := by decide +kernel
theorem dL_latency_13 : decode cL_latency 13 = .ok (.iconst 1, 1) := by decide +kernel
theorem dL_latency_14 : decode cL_latency 14 = .ok (.ireturn, 1) := by decide +kernel
theorem dL_latency_15 : decode cL_latency 15 = .ok (.iconst 0, 1) := by decide +kernel
theorem dL_latency_16 : decode cL_latency 16 = .ok (.ireturn, 1) := by decide +kernel
set_option maxRecDepth 20000 in
theorem wp_L_latency (E : En) (d : Nat) (a1 : Int32) (h : Hp) (P : Int32 → Hp → Prop) (t : SxI E d 1 MX9_latency [.ref (eA E 0), .int a1] h (fun v h1 => P (0 : Int32) (sL h1 98 0 v.toInt64)) (fun X h1 => (X = "java/lang/IndexOutOfBoundsException" ∧ P (1 : Int32) h1))) : SpH E (d + 1) 1 ML_latency HL_latency [.ref (eA E 0), .int a1, .ref (eA E 98)] h P := by
  refine SpH.of (lv0 := [(0, .ref (eA E 0)), (1, .int a1), (2, .ref (eA E 98))]) (by decide) (Nat.le_of_ble_eq_true rfl) rfl (fun g hT => ?_)
  refine r_aload_n (q := 2) dL_latency_0 rfl rfl ?_
  refine r_iconst (v := (0 : Int32)) dL_latency_1 rfl ?_
  refine r_aload_n (q := 0) dL_latency_2 rfl rfl ?_
  refine r_iload_n (q := 1) dL_latency_3 rfl rfl ?_
  refine r_hcVI (c := 0) (k1 := 1) (As := [.int a1]) (hh := HL_latency) dL_latency_4 mkX9_latency lkL_55 lay_0 rfl rfl rfl (by decide) rfl (Nat.le_of_ble_eq_true rfl) (by decide) rfl hT t (fun v h1 t => ?_) (fun X h1 q9 t => ?_)
  · refine r_i2l dL_latency_7 ?_
    refine r_last (c := 98) dL_latency_8 lay_98 vin01 ?_
    refine r_goto (tgt := 15) dL_latency_9 (by decide) ?_
    refine r_iconst (v := (0 : Int32)) dL_latency_15 rfl ?_
    exact r_iret dL_latency_16 rfl t
  · rcases t with ⟨rfl, t⟩
    · refine ⟨12, ⟨[], (0, 9, 12, 19), [], rfl, (fun z hz => absurd hz List.not_mem_nil), by decide, by decide, rfl, hl_19, by decide⟩, ?_⟩
      refine r_astore_n (lv' := [(3, .ref q9), (0, .ref (eA E 0)), (1, .int a1), (2, .ref (eA E 98))]) dL_latency_12 rfl (by decide) rfl ?_
      refine r_iconst (v := (1 : Int32)) dL_latency_13 rfl ?_
      exact r_iret dL_latency_14 rfl t
theorem mkL_latency : Cond.static yL_latency ∈ TBL ∧ Cond.codeWith yL_latency cL_latency 4 (some .int) HL_latency ∈ TBL := ⟨tb5 116 rfl rfl, tb5 117 rfl rfl⟩
abbrev cL_entry : ByteArray := method_15_code
def yL_entry : MethodName := ⟨RL, "entry", "(LMicrocodeOptimizer;I[J)I"⟩
abbrev ML_entry : Mt := (yL_entry, cL_entry, 4, some .int)
abbrev HL_entry : List (Nat × Nat × Nat × Nat) := [(0, 9, 12, 19)]
theorem dL_entry_0 : decode cL_entry 0 = .ok (.aload_n 2, 1) := by decide +kernel
theorem dL_entry_1 : decode cL_entry 1 = .ok (.iconst 0, 1) := by decide +kernel
theorem dL_entry_2 : decode cL_entry 2 = .ok (.aload_n 0, 1) := by decide +kernel
theorem dL_entry_3 : decode cL_entry 3 = .ok (.iload_n 1, 1) := by decide +kernel
theorem dL_entry_4 : decode cL_entry 4 = .ok (.invokevirtual 58, 3) := by decide +kernel
theorem dL_entry_7 : decode cL_entry 7 = .ok (.i2l, 1) := by decide +kernel
theorem dL_entry_8 : decode cL_entry 8 = .ok (.lastore, 1) := by decide +kernel
theorem dL_entry_9 : decode cL_entry 9 = .ok (.goto 6, 3) := by decide +kernel
theorem dL_entry_12 : decode cL_entry 12 = .ok (.astore_n 3, 1) := by decide +kernel
theorem dL_entry_13 : decode cL_entry 13 = .ok (.iconst 1, 1) := by decide +kernel
theorem dL_entry_14 : decode cL_entry 14 = .ok (.ireturn, 1) := by decide +kernel
theorem dL_entry_15 : decode cL_entry 15 = .ok (.iconst 0, 1) := by decide +kernel
theorem dL_entry_16 : decode cL_entry 16 = .ok (.ireturn, 1) := by decide +kernel
set_option maxRecDepth 20000 in
theorem wp_L_entry (E : En) (d : Nat) (a1 : Int32) (h : Hp) (P : Int32 → Hp → Prop) (t : SxI E d 1 MX9_entry [.ref (eA E 0), .int a1] h (fun v h1 => P (0 : Int32) (sL h1 98 0 v.toInt64)) (fun X h1 => (X = "java/lang/IndexOutOfBoundsException" ∧ P (1 : Int32) h1))) : SpH E (d + 1) 1 ML_entry HL_entry [.ref (eA E 0), .int a1, .ref (eA E 98)] h P := by
  refine SpH.of (lv0 := [(0, .ref (eA E 0)), (1, .int a1), (2, .ref (eA E 98))]) (by decide) (Nat.le_of_ble_eq_true rfl) rfl (fun g hT => ?_)
  refine r_aload_n (q := 2) dL_entry_0 rfl rfl ?_
  refine r_iconst (v := (0 : Int32)) dL_entry_1 rfl ?_
  refine r_aload_n (q := 0) dL_entry_2 rfl rfl ?_
  refine r_iload_n (q := 1) dL_entry_3 rfl rfl ?_
  refine r_hcVI (c := 0) (k1 := 1) (As := [.int a1]) (hh := HL_entry) dL_entry_4 mkX9_entry lkL_58 lay_0 rfl rfl rfl (by decide) rfl (Nat.le_of_ble_eq_true rfl) (by decide) rfl hT t (fun v h1 t => ?_) (fun X h1 q9 t => ?_)
  · refine r_i2l dL_entry_7 ?_
    refine r_last (c := 98) dL_entry_8 lay_98 vin01 ?_
    refine r_goto (tgt := 15) dL_entry_9 (by decide) ?_
    refine r_iconst (v := (0 : Int32)) dL_entry_15 rfl ?_
    exact r_iret dL_entry_16 rfl t
  · rcases t with ⟨rfl, t⟩
    · refine ⟨12, ⟨[], (0, 9, 12, 19), [], rfl, (fun z hz => absurd hz List.not_mem_nil), by decide, by decide, rfl, hl_19, by decide⟩, ?_⟩
      refine r_astore_n (lv' := [(3, .ref q9), (0, .ref (eA E 0)), (1, .int a1), (2, .ref (eA E 98))]) dL_entry_12 rfl (by decide) rfl ?_
      refine r_iconst (v := (1 : Int32)) dL_entry_13 rfl ?_
      exact r_iret dL_entry_14 rfl t
theorem mkL_entry : Cond.static yL_entry ∈ TBL ∧ Cond.codeWith yL_entry cL_entry 4 (some .int) HL_entry ∈ TBL := ⟨tb5 123 rfl rfl, tb5 124 rfl rfl⟩
abbrev cL_store : ByteArray := method_16_code
def yL_store : MethodName := ⟨RL, "store", "(LMicrocodeOptimizer;II[J)I"⟩
abbrev ML_store : Mt := (yL_store, cL_store, 5, some .int)
abbrev HL_store : List (Nat × Nat × Nat × Nat) := [(0, 10, 13, 19), (0, 10, 17, 21)]
theorem dL_store_0 : decode cL_store 0 = .ok (.aload_n 3, 1) := by decide +kernel
theorem dL_store_1 : decode cL_store 1 = .ok (.iconst 0, 1) := by decide +kernel
theorem dL_store_2 : decode cL_store 2 = .ok (.aload_n 0, 1) := by decide +kernel
theorem dL_store_3 : decode cL_store 3 = .ok (.iload_n 1, 1) := by decide +kernel
theorem dL_store_4 : decode cL_store 4 = .ok (.iload_n 2, 1) := by decide +kernel
theorem dL_store_5 : decode cL_store 5 = .ok (.invokevirtual 61, 3) := by decide +kernel
theorem dL_store_8 : decode cL_store 8 = .ok (.i2l, 1) := by decide +kernel
theorem dL_store_9 : decode cL_store 9 = .ok (.lastore, 1) := by decide +kernel
theorem dL_store_10 : decode cL_store 10 = .ok (.goto 11, 3) := by decide +kernel
theorem dL_store_13 : decode cL_store 13 = .ok (.astore 4, 2) := by decide +kernel
theorem dL_store_15 : decode cL_store 15 = .ok (.iconst 1, 1) := by decide +kernel
theorem dL_store_16 : decode cL_store 16 = .ok (.ireturn, 1) := by decide +kernel
theorem dL_store_17 : decode cL_store 17 = .ok (.astore 4, 2) := by decide +kernel
theorem dL_store_19 : decode cL_store 19 = .ok (.iconst 2, 1) := by decide +kernel
theorem dL_store_20 : decode cL_store 20 = .ok (.ireturn, 1) := by decide +kernel
theorem dL_store_21 : decode cL_store 21 = .ok (.iconst 0, 1) := by decide +kernel
theorem dL_store_22 : decode cL_store 22 = .ok (.ireturn, 1) := by decide +kernel
set_option maxRecDepth 20000 in
theorem wp_L_store (E : En) (d : Nat) (a1 : Int32) (a2 : Int32) (h : Hp) (P : Int32 → Hp → Prop) (t : SxI E d 2 MX9_store [.ref (eA E 0), .int a1, .int a2] h (fun v h1 => P (0 : Int32) (sL h1 98 0 v.toInt64)) (fun X h1 => (X = "java/lang/IndexOutOfBoundsException" ∧ P (1 : Int32) h1) ∨ (X = "java/lang/IllegalArgumentException" ∧ P (2 : Int32) h1))) : SpH E (d + 1) 2 ML_store HL_store [.ref (eA E 0), .int a1, .int a2, .ref (eA E 98)] h P := by
  refine SpH.of (lv0 := [(0, .ref (eA E 0)), (1, .int a1), (2, .int a2), (3, .ref (eA E 98))]) (by decide) (Nat.le_of_ble_eq_true rfl) rfl (fun g hT => ?_)
  refine r_aload_n (q := 3) dL_store_0 rfl rfl ?_
  refine r_iconst (v := (0 : Int32)) dL_store_1 rfl ?_
  refine r_aload_n (q := 0) dL_store_2 rfl rfl ?_
  refine r_iload_n (q := 1) dL_store_3 rfl rfl ?_
  refine r_iload_n (q := 2) dL_store_4 rfl rfl ?_
  refine r_hcVI (c := 0) (k1 := 2) (As := [.int a1, .int a2]) (hh := HL_store) dL_store_5 mkX9_store lkL_61 lay_0 rfl rfl rfl (by decide) rfl (Nat.le_of_ble_eq_true rfl) (by decide) rfl hT t (fun v h1 t => ?_) (fun X h1 q9 t => ?_)
  · refine r_i2l dL_store_8 ?_
    refine r_last (c := 98) dL_store_9 lay_98 vin01 ?_
    refine r_goto (tgt := 21) dL_store_10 (by decide) ?_
    refine r_iconst (v := (0 : Int32)) dL_store_21 rfl ?_
    exact r_iret dL_store_22 rfl t
  · rcases t with ⟨rfl, t⟩ | ⟨rfl, t⟩
    · refine ⟨13, ⟨[], (0, 10, 13, 19), [(0, 10, 17, 21)], rfl, (fun z hz => absurd hz List.not_mem_nil), by decide, by decide, rfl, hl_19, by decide⟩, ?_⟩
      refine r_astore (lv' := [(4, .ref q9), (0, .ref (eA E 0)), (1, .int a1), (2, .int a2), (3, .ref (eA E 98))]) dL_store_13 (by decide) rfl ?_
      refine r_iconst (v := (1 : Int32)) dL_store_15 rfl ?_
      exact r_iret dL_store_16 rfl t
    · refine ⟨17, ⟨[(0, 10, 13, 19)], (0, 10, 17, 21), [], rfl, (fun z hz => by
          rcases List.mem_cons.mp hz with rfl | hz
          · exact ⟨by decide, _, hl_19, by decide⟩
          exact absurd hz List.not_mem_nil), by decide, by decide, rfl, hl_21, by decide⟩, ?_⟩
      refine r_astore (lv' := [(4, .ref q9), (0, .ref (eA E 0)), (1, .int a1), (2, .int a2), (3, .ref (eA E 98))]) dL_store_17 (by decide) rfl ?_
      refine r_iconst (v := (2 : Int32)) dL_store_19 rfl ?_
      exact r_iret dL_store_20 rfl t
theorem mkL_store : Cond.static yL_store ∈ TBL ∧ Cond.codeWith yL_store cL_store 5 (some .int) HL_store ∈ TBL := ⟨tb5 130 rfl rfl, tb5 131 rfl rfl⟩
abbrev cL_fieldOf : ByteArray := method_17_code
def yL_fieldOf : MethodName := ⟨RL, "fieldOf", "(LMicrocodeOptimizer;I[J)I"⟩
abbrev ML_fieldOf : Mt := (yL_fieldOf, cL_fieldOf, 4, some .int)
abbrev HL_fieldOf : List (Nat × Nat × Nat × Nat) := [(0, 9, 12, 19)]
theorem dL_fieldOf_0 : decode cL_fieldOf 0 = .ok (.aload_n 2, 1) := by decide +kernel
theorem dL_fieldOf_1 : decode cL_fieldOf 1 = .ok (.iconst 0, 1) := by decide +kernel
theorem dL_fieldOf_2 : decode cL_fieldOf 2 = .ok (.aload_n 0, 1) := by decide +kernel
theorem dL_fieldOf_3 : decode cL_fieldOf 3 = .ok (.iload_n 1, 1) := by decide +kernel
theorem dL_fieldOf_4 : decode cL_fieldOf 4 = .ok (.invokevirtual 64, 3) := by decide +kernel
theorem dL_fieldOf_7 : decode cL_fieldOf 7 = .ok (.i2l, 1) := by decide +kernel
theorem dL_fieldOf_8 : decode cL_fieldOf 8 = .ok (.lastore, 1) := by decide +kernel
theorem dL_fieldOf_9 : decode cL_fieldOf 9 = .ok (.goto 6, 3) := by decide +kernel
theorem dL_fieldOf_12 : decode cL_fieldOf 12 = .ok (.astore_n 3, 1) := by decide +kernel
theorem dL_fieldOf_13 : decode cL_fieldOf 13 = .ok (.iconst 1, 1) := by decide +kernel
theorem dL_fieldOf_14 : decode cL_fieldOf 14 = .ok (.ireturn, 1) := by decide +kernel
theorem dL_fieldOf_15 : decode cL_fieldOf 15 = .ok (.iconst 0, 1) := by decide +kernel
theorem dL_fieldOf_16 : decode cL_fieldOf 16 = .ok (.ireturn, 1) := by decide +kernel
set_option maxRecDepth 20000 in
theorem wp_L_fieldOf (E : En) (d : Nat) (a1 : Int32) (h : Hp) (P : Int32 → Hp → Prop) (t : SxI E d 1 MX9_fieldOf [.ref (eA E 0), .int a1] h (fun v h1 => P (0 : Int32) (sL h1 98 0 v.toInt64)) (fun X h1 => (X = "java/lang/IndexOutOfBoundsException" ∧ P (1 : Int32) h1))) : SpH E (d + 1) 1 ML_fieldOf HL_fieldOf [.ref (eA E 0), .int a1, .ref (eA E 98)] h P := by
  refine SpH.of (lv0 := [(0, .ref (eA E 0)), (1, .int a1), (2, .ref (eA E 98))]) (by decide) (Nat.le_of_ble_eq_true rfl) rfl (fun g hT => ?_)
  refine r_aload_n (q := 2) dL_fieldOf_0 rfl rfl ?_
  refine r_iconst (v := (0 : Int32)) dL_fieldOf_1 rfl ?_
  refine r_aload_n (q := 0) dL_fieldOf_2 rfl rfl ?_
  refine r_iload_n (q := 1) dL_fieldOf_3 rfl rfl ?_
  refine r_hcVI (c := 0) (k1 := 1) (As := [.int a1]) (hh := HL_fieldOf) dL_fieldOf_4 mkX9_fieldOf lkL_64 lay_0 rfl rfl rfl (by decide) rfl (Nat.le_of_ble_eq_true rfl) (by decide) rfl hT t (fun v h1 t => ?_) (fun X h1 q9 t => ?_)
  · refine r_i2l dL_fieldOf_7 ?_
    refine r_last (c := 98) dL_fieldOf_8 lay_98 vin01 ?_
    refine r_goto (tgt := 15) dL_fieldOf_9 (by decide) ?_
    refine r_iconst (v := (0 : Int32)) dL_fieldOf_15 rfl ?_
    exact r_iret dL_fieldOf_16 rfl t
  · rcases t with ⟨rfl, t⟩
    · refine ⟨12, ⟨[], (0, 9, 12, 19), [], rfl, (fun z hz => absurd hz List.not_mem_nil), by decide, by decide, rfl, hl_19, by decide⟩, ?_⟩
      refine r_astore_n (lv' := [(3, .ref q9), (0, .ref (eA E 0)), (1, .int a1), (2, .ref (eA E 98))]) dL_fieldOf_12 rfl (by decide) rfl ?_
      refine r_iconst (v := (1 : Int32)) dL_fieldOf_13 rfl ?_
      exact r_iret dL_fieldOf_14 rfl t
theorem mkL_fieldOf : Cond.static yL_fieldOf ∈ TBL ∧ Cond.codeWith yL_fieldOf cL_fieldOf 4 (some .int) HL_fieldOf ∈ TBL := ⟨tb5 147 rfl rfl, tb5 148 rfl rfl⟩
abbrev cL_codeOf : ByteArray := method_18_code
def yL_codeOf : MethodName := ⟨RL, "codeOf", "(LMicrocodeOptimizer;I[J)I"⟩
abbrev ML_codeOf : Mt := (yL_codeOf, cL_codeOf, 4, some .int)
abbrev HL_codeOf : List (Nat × Nat × Nat × Nat) := [(0, 9, 12, 19)]
theorem dL_codeOf_0 : decode cL_codeOf 0 = .ok (.aload_n 2, 1) := by decide +kernel
theorem dL_codeOf_1 : decode cL_codeOf 1 = .ok (.iconst 0, 1) := by decide +kernel
theorem dL_codeOf_2 : decode cL_codeOf 2 = .ok (.aload_n 0, 1) := by decide +kernel
theorem dL_codeOf_3 : decode cL_codeOf 3 = .ok (.iload_n 1, 1) := by decide +kernel
theorem dL_codeOf_4 : decode cL_codeOf 4 = .ok (.invokevirtual 67, 3) := by decide +kernel
theorem dL_codeOf_7 : decode cL_codeOf 7 = .ok (.i2l, 1) := by decide +kernel
theorem dL_codeOf_8 : decode cL_codeOf 8 = .ok (.lastore, 1) := by decide +kernel
theorem dL_codeOf_9 : decode cL_codeOf 9 = .ok (.goto 6, 3) := by decide +kernel
theorem dL_codeOf_12 : decode cL_codeOf 12 = .ok (.astore_n 3, 1) := by decide +kernel
theorem dL_codeOf_13 : decode cL_codeOf 13 = .ok (.iconst 1, 1) := by decide +kernel
theorem dL_codeOf_14 : decode cL_codeOf 14 = .ok (.ireturn, 1) := by decide +kernel
theorem dL_codeOf_15 : decode cL_codeOf 15 = .ok (.iconst 0, 1) := by decide +kernel
theorem dL_codeOf_16 : decode cL_codeOf 16 = .ok (.ireturn, 1) := by decide +kernel
set_option maxRecDepth 20000 in
theorem wp_L_codeOf (E : En) (d : Nat) (a1 : Int32) (h : Hp) (P : Int32 → Hp → Prop) (t : SxI E d 1 MX9_codeOf [.ref (eA E 0), .int a1] h (fun v h1 => P (0 : Int32) (sL h1 98 0 v.toInt64)) (fun X h1 => (X = "java/lang/IndexOutOfBoundsException" ∧ P (1 : Int32) h1))) : SpH E (d + 1) 1 ML_codeOf HL_codeOf [.ref (eA E 0), .int a1, .ref (eA E 98)] h P := by
  refine SpH.of (lv0 := [(0, .ref (eA E 0)), (1, .int a1), (2, .ref (eA E 98))]) (by decide) (Nat.le_of_ble_eq_true rfl) rfl (fun g hT => ?_)
  refine r_aload_n (q := 2) dL_codeOf_0 rfl rfl ?_
  refine r_iconst (v := (0 : Int32)) dL_codeOf_1 rfl ?_
  refine r_aload_n (q := 0) dL_codeOf_2 rfl rfl ?_
  refine r_iload_n (q := 1) dL_codeOf_3 rfl rfl ?_
  refine r_hcVI (c := 0) (k1 := 1) (As := [.int a1]) (hh := HL_codeOf) dL_codeOf_4 mkX9_codeOf lkL_67 lay_0 rfl rfl rfl (by decide) rfl (Nat.le_of_ble_eq_true rfl) (by decide) rfl hT t (fun v h1 t => ?_) (fun X h1 q9 t => ?_)
  · refine r_i2l dL_codeOf_7 ?_
    refine r_last (c := 98) dL_codeOf_8 lay_98 vin01 ?_
    refine r_goto (tgt := 15) dL_codeOf_9 (by decide) ?_
    refine r_iconst (v := (0 : Int32)) dL_codeOf_15 rfl ?_
    exact r_iret dL_codeOf_16 rfl t
  · rcases t with ⟨rfl, t⟩
    · refine ⟨12, ⟨[], (0, 9, 12, 19), [], rfl, (fun z hz => absurd hz List.not_mem_nil), by decide, by decide, rfl, hl_19, by decide⟩, ?_⟩
      refine r_astore_n (lv' := [(3, .ref q9), (0, .ref (eA E 0)), (1, .int a1), (2, .ref (eA E 98))]) dL_codeOf_12 rfl (by decide) rfl ?_
      refine r_iconst (v := (1 : Int32)) dL_codeOf_13 rfl ?_
      exact r_iret dL_codeOf_14 rfl t
theorem mkL_codeOf : Cond.static yL_codeOf ∈ TBL ∧ Cond.codeWith yL_codeOf cL_codeOf 4 (some .int) HL_codeOf ∈ TBL := ⟨tb5 154 rfl rfl, tb5 155 rfl rfl⟩
abbrev cL_control : ByteArray := method_19_code
def yL_control : MethodName := ⟨RL, "control", "(LMicrocodeOptimizer;I[J)I"⟩
abbrev ML_control : Mt := (yL_control, cL_control, 4, some .int)
abbrev HL_control : List (Nat × Nat × Nat × Nat) := [(0, 8, 11, 19)]
theorem dL_control_0 : decode cL_control 0 = .ok (.aload_n 2, 1) := by decide +kernel
theorem dL_control_1 : decode cL_control 1 = .ok (.iconst 0, 1) := by decide +kernel
theorem dL_control_2 : decode cL_control 2 = .ok (.aload_n 0, 1) := by decide +kernel
theorem dL_control_3 : decode cL_control 3 = .ok (.iload_n 1, 1) := by decide +kernel
theorem dL_control_4 : decode cL_control 4 = .ok (.invokevirtual 70, 3) := by decide +kernel
theorem dL_control_7 : decode cL_control 7 = .ok (.lastore, 1) := by decide +kernel
theorem dL_control_8 : decode cL_control 8 = .ok (.goto 6, 3) := by decide +kernel
theorem dL_control_11 : decode cL_control 11 = .ok (.astore_n 3, 1) := by decide +kernel
theorem dL_control_12 : decode cL_control 12 = .ok (.iconst 1, 1) := by decide +kernel
theorem dL_control_13 : decode cL_control 13 = .ok (.ireturn, 1) := by decide +kernel
theorem dL_control_14 : decode cL_control 14 = .ok (.iconst 0, 1) := by decide +kernel
theorem dL_control_15 : decode cL_control 15 = .ok (.ireturn, 1) := by decide +kernel
set_option maxRecDepth 20000 in
theorem wp_L_control (E : En) (d : Nat) (a1 : Int32) (h : Hp) (P : Int32 → Hp → Prop) (t : SxL E d 1 MX9_control [.ref (eA E 0), .int a1] h (fun v h1 => P (0 : Int32) (sL h1 98 0 v)) (fun X h1 => (X = "java/lang/IndexOutOfBoundsException" ∧ P (1 : Int32) h1))) : SpH E (d + 1) 1 ML_control HL_control [.ref (eA E 0), .int a1, .ref (eA E 98)] h P := by
  refine SpH.of (lv0 := [(0, .ref (eA E 0)), (1, .int a1), (2, .ref (eA E 98))]) (by decide) (Nat.le_of_ble_eq_true rfl) rfl (fun g hT => ?_)
  refine r_aload_n (q := 2) dL_control_0 rfl rfl ?_
  refine r_iconst (v := (0 : Int32)) dL_control_1 rfl ?_
  refine r_aload_n (q := 0) dL_control_2 rfl rfl ?_
  refine r_iload_n (q := 1) dL_control_3 rfl rfl ?_
  refine r_hcVL (c := 0) (k1 := 1) (As := [.int a1]) (hh := HL_control) dL_control_4 mkX9_control lkL_70 lay_0 rfl rfl rfl (by decide) rfl (Nat.le_of_ble_eq_true rfl) (by decide) rfl hT t (fun v h1 t => ?_) (fun X h1 q9 t => ?_)
  · refine r_last (c := 98) dL_control_7 lay_98 vin01 ?_
    refine r_goto (tgt := 14) dL_control_8 (by decide) ?_
    refine r_iconst (v := (0 : Int32)) dL_control_14 rfl ?_
    exact r_iret dL_control_15 rfl t
  · rcases t with ⟨rfl, t⟩
    · refine ⟨11, ⟨[], (0, 8, 11, 19), [], rfl, (fun z hz => absurd hz List.not_mem_nil), by decide, by decide, rfl, hl_19, by decide⟩, ?_⟩
      refine r_astore_n (lv' := [(3, .ref q9), (0, .ref (eA E 0)), (1, .int a1), (2, .ref (eA E 98))]) dL_control_11 rfl (by decide) rfl ?_
      refine r_iconst (v := (1 : Int32)) dL_control_12 rfl ?_
      exact r_iret dL_control_13 rfl t
theorem mkL_control : Cond.static yL_control ∈ TBL ∧ Cond.codeWith yL_control cL_control 4 (some .int) HL_control ∈ TBL := ⟨tb5 161 rfl rfl, tb5 162 rfl rfl⟩
abbrev cL_setRegister : ByteArray := method_20_code
def yL_setRegister : MethodName := ⟨RL, "setRegister", "(LMicrocodeOptimizer;II[J)I"⟩
abbrev ML_setRegister : Mt := (yL_setRegister, cL_setRegister, 5, some .int)
abbrev HL_setRegister : List (Nat × Nat × Nat × Nat) := [(0, 10, 13, 19)]
theorem dL_setRegister_0 : decode cL_setRegister 0 = .ok (.aload_n 3, 1) := by decide +kernel
theorem dL_setRegister_1 : decode cL_setRegister 1 = .ok (.iconst 0, 1) := by decide +kernel
theorem dL_setRegister_2 : decode cL_setRegister 2 = .ok (.aload_n 0, 1) := by decide +kernel
theorem dL_setRegister_3 : decode cL_setRegister 3 = .ok (.iload_n 1, 1) := by decide +kernel
theorem dL_setRegister_4 : decode cL_setRegister 4 = .ok (.iload_n 2, 1) := by decide +kernel
theorem dL_setRegister_5 : decode cL_setRegister 5 = .ok (.invokevirtual 74, 3) := by decide +kernel
theorem dL_setRegister_8 : decode cL_setRegister 8 = .ok (.i2l, 1) := by decide +kernel
theorem dL_setRegister_9 : decode cL_setRegister 9 = .ok (.lastore, 1) := by decide +kernel
theorem dL_setRegister_10 : decode cL_setRegister 10 = .ok (.goto 7, 3) := by decide +kernel
theorem dL_setRegister_13 : decode cL_setRegister 13 = .ok (.astore 4, 2) := by decide +kernel
theorem dL_setRegister_15 : decode cL_setRegister 15 = .ok (.iconst 1, 1) := by decide +kernel
theorem dL_setRegister_16 : decode cL_setRegister 16 = .ok (.ireturn, 1) := by decide +kernel
theorem dL_setRegister_17 : decode cL_setRegister 17 = .ok (.iconst 0, 1) := by decide +kernel
theorem dL_setRegister_18 : decode cL_setRegister 18 = .ok (.ireturn, 1) := by decide +kernel
set_option maxRecDepth 20000 in
theorem wp_L_setRegister (E : En) (d : Nat) (a1 : Int32) (a2 : Int32) (h : Hp) (P : Int32 → Hp → Prop) (t : SxI E d 1 MX9_setRegister [.ref (eA E 0), .int a1, .int a2] h (fun v h1 => P (0 : Int32) (sL h1 98 0 v.toInt64)) (fun X h1 => (X = "java/lang/IndexOutOfBoundsException" ∧ P (1 : Int32) h1))) : SpH E (d + 1) 1 ML_setRegister HL_setRegister [.ref (eA E 0), .int a1, .int a2, .ref (eA E 98)] h P := by
  refine SpH.of (lv0 := [(0, .ref (eA E 0)), (1, .int a1), (2, .int a2), (3, .ref (eA E 98))]) (by decide) (Nat.le_of_ble_eq_true rfl) rfl (fun g hT => ?_)
  refine r_aload_n (q := 3) dL_setRegister_0 rfl rfl ?_
  refine r_iconst (v := (0 : Int32)) dL_setRegister_1 rfl ?_
  refine r_aload_n (q := 0) dL_setRegister_2 rfl rfl ?_
  refine r_iload_n (q := 1) dL_setRegister_3 rfl rfl ?_
  refine r_iload_n (q := 2) dL_setRegister_4 rfl rfl ?_
  refine r_hcVI (c := 0) (k1 := 1) (As := [.int a1, .int a2]) (hh := HL_setRegister) dL_setRegister_5 mkX9_setRegister lkL_74 lay_0 rfl rfl rfl (by decide) rfl (Nat.le_of_ble_eq_true rfl) (by decide) rfl hT t (fun v h1 t => ?_) (fun X h1 q9 t => ?_)
  · refine r_i2l dL_setRegister_8 ?_
    refine r_last (c := 98) dL_setRegister_9 lay_98 vin01 ?_
    refine r_goto (tgt := 17) dL_setRegister_10 (by decide) ?_
    refine r_iconst (v := (0 : Int32)) dL_setRegister_17 rfl ?_
    exact r_iret dL_setRegister_18 rfl t
  · rcases t with ⟨rfl, t⟩
    · refine ⟨13, ⟨[], (0, 10, 13, 19), [], rfl, (fun z hz => absurd hz List.not_mem_nil), by decide, by decide, rfl, hl_19, by decide⟩, ?_⟩
      refine r_astore (lv' := [(4, .ref q9), (0, .ref (eA E 0)), (1, .int a1), (2, .int a2), (3, .ref (eA E 98))]) dL_setRegister_13 (by decide) rfl ?_
      refine r_iconst (v := (1 : Int32)) dL_setRegister_15 rfl ?_
      exact r_iret dL_setRegister_16 rfl t
theorem mkL_setRegister : Cond.static yL_setRegister ∈ TBL ∧ Cond.codeWith yL_setRegister cL_setRegister 5 (some .int) HL_setRegister ∈ TBL := ⟨tb5 172 rfl rfl, tb5 173 rfl rfl⟩
abbrev cL_register : ByteArray := method_21_code
def yL_register : MethodName := ⟨RL, "register", "(LMicrocodeOptimizer;I[J)I"⟩
abbrev ML_register : Mt := (yL_register, cL_register, 4, some .int)
abbrev HL_register : List (Nat × Nat × Nat × Nat) := [(0, 9, 12, 19)]
theorem dL_register_0 : decode cL_register 0 = .ok (.aload_n 2, 1) := by decide +kernel
theorem dL_register_1 : decode cL_register 1 = .ok (.iconst 0, 1) := by decide +kernel
theorem dL_register_2 : decode cL_register 2 = .ok (.aload_n 0, 1) := by decide +kernel
theorem dL_register_3 : decode cL_register 3 = .ok (.iload_n 1, 1) := by decide +kernel
theorem dL_register_4 : decode cL_register 4 = .ok (.invokevirtual 77, 3) := by decide +kernel
theorem dL_register_7 : decode cL_register 7 = .ok (.i2l, 1) := by decide +kernel
theorem dL_register_8 : decode cL_register 8 = .ok (.lastore, 1) := by decide +kernel
theorem dL_register_9 : decode cL_register 9 = .ok (.goto 6, 3) := by decide +kernel
theorem dL_register_12 : decode cL_register 12 = .ok (.astore_n 3, 1) := by decide +kernel
theorem dL_register_13 : decode cL_register 13 = .ok (.iconst 1, 1) := by decide +kernel
theorem dL_register_14 : decode cL_register 14 = .ok (.ireturn, 1) := by decide +kernel
theorem dL_register_15 : decode cL_register 15 = .ok (.iconst 0, 1) := by decide +kernel
theorem dL_register_16 : decode cL_register 16 = .ok (.ireturn, 1) := by decide +kernel
set_option maxRecDepth 20000 in
theorem wp_L_register (E : En) (d : Nat) (a1 : Int32) (h : Hp) (P : Int32 → Hp → Prop) (t : SxI E d 1 MX9_register [.ref (eA E 0), .int a1] h (fun v h1 => P (0 : Int32) (sL h1 98 0 v.toInt64)) (fun X h1 => (X = "java/lang/IndexOutOfBoundsException" ∧ P (1 : Int32) h1))) : SpH E (d + 1) 1 ML_register HL_register [.ref (eA E 0), .int a1, .ref (eA E 98)] h P := by
  refine SpH.of (lv0 := [(0, .ref (eA E 0)), (1, .int a1), (2, .ref (eA E 98))]) (by decide) (Nat.le_of_ble_eq_true rfl) rfl (fun g hT => ?_)
  refine r_aload_n (q := 2) dL_register_0 rfl rfl ?_
  refine r_iconst (v := (0 : Int32)) dL_register_1 rfl ?_
  refine r_aload_n (q := 0) dL_register_2 rfl rfl ?_
  refine r_iload_n (q := 1) dL_register_3 rfl rfl ?_
  refine r_hcVI (c := 0) (k1 := 1) (As := [.int a1]) (hh := HL_register) dL_register_4 mkX9_register lkL_77 lay_0 rfl rfl rfl (by decide) rfl (Nat.le_of_ble_eq_true rfl) (by decide) rfl hT t (fun v h1 t => ?_) (fun X h1 q9 t => ?_)
  · refine r_i2l dL_register_7 ?_
    refine r_last (c := 98) dL_register_8 lay_98 vin01 ?_
    refine r_goto (tgt := 15) dL_register_9 (by decide) ?_
    refine r_iconst (v := (0 : Int32)) dL_register_15 rfl ?_
    exact r_iret dL_register_16 rfl t
  · rcases t with ⟨rfl, t⟩
    · refine ⟨12, ⟨[], (0, 9, 12, 19), [], rfl, (fun z hz => absurd hz List.not_mem_nil), by decide, by decide, rfl, hl_19, by decide⟩, ?_⟩
      refine r_astore_n (lv' := [(3, .ref q9), (0, .ref (eA E 0)), (1, .int a1), (2, .ref (eA E 98))]) dL_register_12 rfl (by decide) rfl ?_
      refine r_iconst (v := (1 : Int32)) dL_register_13 rfl ?_
      exact r_iret dL_register_14 rfl t
theorem mkL_register : Cond.static yL_register ∈ TBL ∧ Cond.codeWith yL_register cL_register 4 (some .int) HL_register ∈ TBL := ⟨tb5 184 rfl rfl, tb5 185 rfl rfl⟩
abbrev cL_runSource : ByteArray := method_22_code
def yL_runSource : MethodName := ⟨RL, "runSource", "(LMicrocodeOptimizer;I[J)I"⟩
abbrev ML_runSource : Mt := (yL_runSource, cL_runSource, 4, some .int)
abbrev HL_runSource : List (Nat × Nat × Nat × Nat) := [(0, 9, 12, 19), (0, 9, 15, 44)]
theorem dL_runSource_0 : decode cL_runSource 0 = .ok (.aload_n 2, 1) := by decide +kernel
theorem dL_runSource_1 : decode cL_runSource 1 = .ok (.iconst 0, 1) := by decide +kernel
theorem dL_runSource_2 : decode cL_runSource 2 = .ok (.aload_n 0, 1) := by decide +kernel
theorem dL_runSource_3 : decode cL_runSource 3 = .ok (.iload_n 1, 1) := by decide +kernel
theorem dL_runSource_4 : decode cL_runSource 4 = .ok (.invokevirtual 80, 3) := by decide +kernel
theorem dL_runSource_7 : decode cL_runSource 7 = .ok (.i2l, 1) := by decide +kernel
theorem dL_runSource_8 : decode cL_runSource 8 = .ok (.lastore, 1) := by decide +kernel
theorem dL_runSource_9 : decode cL_runSource 9 = .ok (.goto 9, 3) := by decide +kernel
theorem dL_runSource_12 : decode cL_runSource 12 = .ok (.astore_n 3, 1) := by decide +kernel
theorem dL_runSource_13 : decode cL_runSource 13 = .ok (.iconst 1, 1) := by decide +kernel
theorem dL_runSource_14 : decode cL_runSource 14 = .ok (.ireturn, 1) := by decide +kernel
theorem dL_runSource_15 : decode cL_runSource 15 = .ok (.astore_n 3, 1) := by decide +kernel
theorem dL_runSource_16 : decode cL_runSource 16 = .ok (.iconst 2, 1) := by decide +kernel
theorem dL_runSource_17 : decode cL_runSource 17 = .ok (.ireturn, 1) := by decide +kernel
theorem dL_runSource_18 : decode cL_runSource 18 = .ok (.iconst 0, 1) := by decide +kernel
theorem dL_runSource_19 : decode cL_runSource 19 = .ok (.ireturn, 1) := by decide +kernel
set_option maxRecDepth 20000 in
theorem wp_L_runSource (E : En) (d : Nat) (a1 : Int32) (h : Hp) (P : Int32 → Hp → Prop) (t : SxI E d 2 MX9_runSource [.ref (eA E 0), .int a1] h (fun v h1 => P (0 : Int32) (sL h1 98 0 v.toInt64)) (fun X h1 => (X = "java/lang/IndexOutOfBoundsException" ∧ P (1 : Int32) h1) ∨ (X = "java/lang/IllegalStateException" ∧ P (2 : Int32) h1))) : SpH E (d + 1) 2 ML_runSource HL_runSource [.ref (eA E 0), .int a1, .ref (eA E 98)] h P := by
  refine SpH.of (lv0 := [(0, .ref (eA E 0)), (1, .int a1), (2, .ref (eA E 98))]) (by decide) (Nat.le_of_ble_eq_true rfl) rfl (fun g hT => ?_)
  refine r_aload_n (q := 2) dL_runSource_0 rfl rfl ?_
  refine r_iconst (v := (0 : Int32)) dL_runSource_1 rfl ?_
  refine r_aload_n (q := 0) dL_runSource_2 rfl rfl ?_
  refine r_iload_n (q := 1) dL_runSource_3 rfl rfl ?_
  refine r_hcVI (c := 0) (k1 := 2) (As := [.int a1]) (hh := HL_runSource) dL_runSource_4 mkX9_runSource lkL_80 lay_0 rfl rfl rfl (by decide) rfl (Nat.le_of_ble_eq_true rfl) (by decide) rfl hT t (fun v h1 t => ?_) (fun X h1 q9 t => ?_)
  · refine r_i2l dL_runSource_7 ?_
    refine r_last (c := 98) dL_runSource_8 lay_98 vin01 ?_
    refine r_goto (tgt := 18) dL_runSource_9 (by decide) ?_
    refine r_iconst (v := (0 : Int32)) dL_runSource_18 rfl ?_
    exact r_iret dL_runSource_19 rfl t
  · rcases t with ⟨rfl, t⟩ | ⟨rfl, t⟩
    · refine ⟨12, ⟨[], (0, 9, 12, 19), [(0, 9, 15, 44)], rfl, (fun z hz => absurd hz List.not_mem_nil), by decide, by decide, rfl, hl_19, by decide⟩, ?_⟩
      refine r_astore_n (lv' := [(3, .ref q9), (0, .ref (eA E 0)), (1, .int a1), (2, .ref (eA E 98))]) dL_runSource_12 rfl (by decide) rfl ?_
      refine r_iconst (v := (1 : Int32)) dL_runSource_13 rfl ?_
      exact r_iret dL_runSource_14 rfl t
    · refine ⟨15, ⟨[(0, 9, 12, 19)], (0, 9, 15, 44), [], rfl, (fun z hz => by
          rcases List.mem_cons.mp hz with rfl | hz
          · exact ⟨by decide, _, hl_19, by decide⟩
          exact absurd hz List.not_mem_nil), by decide, by decide, rfl, hl_44, by decide⟩, ?_⟩
      refine r_astore_n (lv' := [(3, .ref q9), (0, .ref (eA E 0)), (1, .int a1), (2, .ref (eA E 98))]) dL_runSource_15 rfl (by decide) rfl ?_
      refine r_iconst (v := (2 : Int32)) dL_runSource_16 rfl ?_
      exact r_iret dL_runSource_17 rfl t
theorem mkL_runSource : Cond.static yL_runSource ∈ TBL ∧ Cond.codeWith yL_runSource cL_runSource 4 (some .int) HL_runSource ∈ TBL := ⟨tb5 191 rfl rfl, tb5 192 rfl rfl⟩
abbrev cL_start : ByteArray := method_23_code
def yL_start : MethodName := ⟨RL, "start", "(LMicrocodeOptimizer;II[J)I"⟩
abbrev ML_start : Mt := (yL_start, cL_start, 5, some .int)
abbrev HL_start : List (Nat × Nat × Nat × Nat) := [(0, 10, 13, 19), (0, 10, 17, 21), (0, 10, 21, 44)]
theorem dL_start_0 : decode cL_start 0 = .ok (.aload_n 3, 1) := by decide +kernel
theorem dL_start_1 : decode cL_start 1 = .ok (.iconst 0, 1) := by decide +kernel
theorem dL_start_2 : decode cL_start 2 = .ok (.aload_n 0, 1) := by decide +kernel
theorem dL_start_3 : decode cL_start 3 = .ok (.iload_n 1, 1) := by decide +kernel
theorem dL_start_4 : decode cL_start 4 = .ok (.iload_n 2, 1) := by decide +kernel
theorem dL_start_5 : decode cL_start 5 = .ok (.invokevirtual 83, 3) := by decide +kernel
theorem dL_start_8 : decode cL_start 8 = .ok (.i2l, 1) := by decide +kernel
theorem dL_start_9 : decode cL_start 9 = .ok (.lastore, 1) := by decide +kernel
theorem dL_start_10 : decode cL_start 10 = .ok (.goto 15, 3) := by decide +kernel
theorem dL_start_13 : decode cL_start 13 = .ok (.astore 4, 2) := by decide +kernel
theorem dL_start_15 : decode cL_start 15 = .ok (.iconst 1, 1) := by decide +kernel
theorem dL_start_16 : decode cL_start 16 = .ok (.ireturn, 1) := by decide +kernel
theorem dL_start_17 : decode cL_start 17 = .ok (.astore 4, 2) := by decide +kernel
theorem dL_start_19 : decode cL_start 19 = .ok (.iconst 2, 1) := by decide +kernel
theorem dL_start_20 : decode cL_start 20 = .ok (.ireturn, 1) := by decide +kernel
theorem dL_start_21 : decode cL_start 21 = .ok (.astore 4, 2) := by decide +kernel
theorem dL_start_23 : decode cL_start 23 = .ok (.iconst 3, 1) := by decide +kernel
theorem dL_start_24 : decode cL_start 24 = .ok (.ireturn, 1) := by decide +kernel
theorem dL_start_25 : decode cL_start 25 = .ok (.iconst 0, 1) := by decide +kernel
theorem dL_start_26 : decode cL_start 26 = .ok (.ireturn, 1) := by decide +kernel
set_option maxRecDepth 20000 in
theorem wp_L_start (E : En) (d : Nat) (a1 : Int32) (a2 : Int32) (h : Hp) (P : Int32 → Hp → Prop) (t : SxI E d 2 MX9_start [.ref (eA E 0), .int a1, .int a2] h (fun v h1 => P (0 : Int32) (sL h1 98 0 v.toInt64)) (fun X h1 => (X = "java/lang/IndexOutOfBoundsException" ∧ P (1 : Int32) h1) ∨ (X = "java/lang/IllegalArgumentException" ∧ P (2 : Int32) h1) ∨ (X = "java/lang/IllegalStateException" ∧ P (3 : Int32) h1))) : SpH E (d + 1) 2 ML_start HL_start [.ref (eA E 0), .int a1, .int a2, .ref (eA E 98)] h P := by
  refine SpH.of (lv0 := [(0, .ref (eA E 0)), (1, .int a1), (2, .int a2), (3, .ref (eA E 98))]) (by decide) (Nat.le_of_ble_eq_true rfl) rfl (fun g hT => ?_)
  refine r_aload_n (q := 3) dL_start_0 rfl rfl ?_
  refine r_iconst (v := (0 : Int32)) dL_start_1 rfl ?_
  refine r_aload_n (q := 0) dL_start_2 rfl rfl ?_
  refine r_iload_n (q := 1) dL_start_3 rfl rfl ?_
  refine r_iload_n (q := 2) dL_start_4 rfl rfl ?_
  refine r_hcVI (c := 0) (k1 := 2) (As := [.int a1, .int a2]) (hh := HL_start) dL_start_5 mkX9_start lkL_83 lay_0 rfl rfl rfl (by decide) rfl (Nat.le_of_ble_eq_true rfl) (by decide) rfl hT t (fun v h1 t => ?_) (fun X h1 q9 t => ?_)
  · refine r_i2l dL_start_8 ?_
    refine r_last (c := 98) dL_start_9 lay_98 vin01 ?_
    refine r_goto (tgt := 25) dL_start_10 (by decide) ?_
    refine r_iconst (v := (0 : Int32)) dL_start_25 rfl ?_
    exact r_iret dL_start_26 rfl t
  · rcases t with ⟨rfl, t⟩ | ⟨rfl, t⟩ | ⟨rfl, t⟩
    · refine ⟨13, ⟨[], (0, 10, 13, 19), [(0, 10, 17, 21), (0, 10, 21, 44)], rfl, (fun z hz => absurd hz List.not_mem_nil), by decide, by decide, rfl, hl_19, by decide⟩, ?_⟩
      refine r_astore (lv' := [(4, .ref q9), (0, .ref (eA E 0)), (1, .int a1), (2, .int a2), (3, .ref (eA E 98))]) dL_start_13 (by decide) rfl ?_
      refine r_iconst (v := (1 : Int32)) dL_start_15 rfl ?_
      exact r_iret dL_start_16 rfl t
    · refine ⟨17, ⟨[(0, 10, 13, 19)], (0, 10, 17, 21), [(0, 10, 21, 44)], rfl, (fun z hz => by
          rcases List.mem_cons.mp hz with rfl | hz
          · exact ⟨by decide, _, hl_19, by decide⟩
          exact absurd hz List.not_mem_nil), by decide, by decide, rfl, hl_21, by decide⟩, ?_⟩
      refine r_astore (lv' := [(4, .ref q9), (0, .ref (eA E 0)), (1, .int a1), (2, .int a2), (3, .ref (eA E 98))]) dL_start_17 (by decide) rfl ?_
      refine r_iconst (v := (2 : Int32)) dL_start_19 rfl ?_
      exact r_iret dL_start_20 rfl t
    · refine ⟨21, ⟨[(0, 10, 13, 19), (0, 10, 17, 21)], (0, 10, 21, 44), [], rfl, (fun z hz => by
          rcases List.mem_cons.mp hz with rfl | hz
          · exact ⟨by decide, _, hl_19, by decide⟩
          rcases List.mem_cons.mp hz with rfl | hz
          · exact ⟨by decide, _, hl_21, by decide⟩
          exact absurd hz List.not_mem_nil), by decide, by decide, rfl, hl_44, by decide⟩, ?_⟩
      refine r_astore (lv' := [(4, .ref q9), (0, .ref (eA E 0)), (1, .int a1), (2, .int a2), (3, .ref (eA E 98))]) dL_start_21 (by decide) rfl ?_
      refine r_iconst (v := (3 : Int32)) dL_start_23 rfl ?_
      exact r_iret dL_start_24 rfl t
theorem mkL_start : Cond.static yL_start ∈ TBL ∧ Cond.codeWith yL_start cL_start 5 (some .int) HL_start ∈ TBL := ⟨tb5 213 rfl rfl, tb5 214 rfl rfl⟩
abbrev cL_resume : ByteArray := method_24_code
def yL_resume : MethodName := ⟨RL, "resume", "(LMicrocodeOptimizer;[J)I"⟩
abbrev ML_resume : Mt := (yL_resume, cL_resume, 3, some .int)
abbrev HL_resume : List (Nat × Nat × Nat × Nat) := [(0, 8, 11, 44)]
theorem dL_resume_0 : decode cL_resume 0 = .ok (.aload_n 1, 1) := by decide +kernel
theorem dL_resume_1 : decode cL_resume 1 = .ok (.iconst 0, 1) := by decide +kernel
theorem dL_resume_2 : decode cL_resume 2 = .ok (.aload_n 0, 1) := by decide +kernel
theorem dL_resume_3 : decode cL_resume 3 = .ok (.invokevirtual 86, 3) := by decide +kernel
theorem dL_resume_6 : decode cL_resume 6 = .ok (.i2l, 1) := by decide +kernel
theorem dL_resume_7 : decode cL_resume 7 = .ok (.lastore, 1) := by decide +kernel
theorem dL_resume_8 : decode cL_resume 8 = .ok (.goto 6, 3) := by decide +kernel
theorem dL_resume_11 : decode cL_resume 11 = .ok (.astore_n 2, 1) := by decide +kernel
theorem dL_resume_12 : decode cL_resume 12 = .ok (.iconst 1, 1) := by decide +kernel
theorem dL_resume_13 : decode cL_resume 13 = .ok (.ireturn, 1) := by decide +kernel
theorem dL_resume_14 : decode cL_resume 14 = .ok (.iconst 0, 1) := by decide +kernel
theorem dL_resume_15 : decode cL_resume 15 = .ok (.ireturn, 1) := by decide +kernel
set_option maxRecDepth 20000 in
theorem wp_L_resume (E : En) (d : Nat) (h : Hp) (P : Int32 → Hp → Prop) (t : SxI E d 1 MX9_resume [.ref (eA E 0)] h (fun v h1 => P (0 : Int32) (sL h1 98 0 v.toInt64)) (fun X h1 => (X = "java/lang/IllegalStateException" ∧ P (1 : Int32) h1))) : SpH E (d + 1) 1 ML_resume HL_resume [.ref (eA E 0), .ref (eA E 98)] h P := by
  refine SpH.of (lv0 := [(0, .ref (eA E 0)), (1, .ref (eA E 98))]) (by decide) (Nat.le_of_ble_eq_true rfl) rfl (fun g hT => ?_)
  refine r_aload_n (q := 1) dL_resume_0 rfl rfl ?_
  refine r_iconst (v := (0 : Int32)) dL_resume_1 rfl ?_
  refine r_aload_n (q := 0) dL_resume_2 rfl rfl ?_
  refine r_hcVI (c := 0) (k1 := 1) (As := []) (hh := HL_resume) dL_resume_3 mkX9_resume lkL_86 lay_0 rfl rfl rfl (by decide) rfl (Nat.le_of_ble_eq_true rfl) (by decide) rfl hT t (fun v h1 t => ?_) (fun X h1 q9 t => ?_)
  · refine r_i2l dL_resume_6 ?_
    refine r_last (c := 98) dL_resume_7 lay_98 vin01 ?_
    refine r_goto (tgt := 14) dL_resume_8 (by decide) ?_
    refine r_iconst (v := (0 : Int32)) dL_resume_14 rfl ?_
    exact r_iret dL_resume_15 rfl t
  · rcases t with ⟨rfl, t⟩
    · refine ⟨11, ⟨[], (0, 8, 11, 44), [], rfl, (fun z hz => absurd hz List.not_mem_nil), by decide, by decide, rfl, hl_44, by decide⟩, ?_⟩
      refine r_astore_n (lv' := [(2, .ref q9), (0, .ref (eA E 0)), (1, .ref (eA E 98))]) dL_resume_11 rfl (by decide) rfl ?_
      refine r_iconst (v := (1 : Int32)) dL_resume_12 rfl ?_
      exact r_iret dL_resume_13 rfl t
theorem mkL_resume : Cond.static yL_resume ∈ TBL ∧ Cond.codeWith yL_resume cL_resume 3 (some .int) HL_resume ∈ TBL := ⟨tb5 229 rfl rfl, tb5 230 rfl rfl⟩
abbrev cL_agrees : ByteArray := method_25_code
def yL_agrees : MethodName := ⟨RL, "agrees", "(LMicrocodeOptimizer;I[J)I"⟩
abbrev ML_agrees : Mt := (yL_agrees, cL_agrees, 4, some .int)
abbrev HL_agrees : List (Nat × Nat × Nat × Nat) := [(0, 16, 19, 19)]
theorem dL_agrees_0 : decode cL_agrees 0 = .ok (.aload_n 2, 1) := by decide +kernel
theorem dL_agrees_1 : decode cL_agrees 1 = .ok (.iconst 0, 1) := by decide +kernel
theorem dL_agrees_2 : decode cL_agrees 2 = .ok (.aload_n 0, 1) := by decide +kernel
theorem dL_agrees_3 : decode cL_agrees 3 = .ok (.iload_n 1, 1) := by decide +kernel
theorem dL_agrees_4 : decode cL_agrees 4 = .ok (.invokevirtual 90, 3) := by decide +kernel
theorem dL_agrees_7 : decode cL_agrees 7 = .ok (.ifCond .eq 7, 3) := by decide +kernel
theorem dL_agrees_10 : decode cL_agrees 10 = .ok (.lconst 1, 1) := by decide +kernel
theorem dL_agrees_11 : decode cL_agrees 11 = .ok (.goto 4, 3) := by decide +kernel
theorem dL_agrees_14 : decode cL_agrees 14 = .ok (.lconst 0, 1) := by decide +kernel
theorem dL_agrees_15 : decode cL_agrees 15 = .ok (.lastore, 1) := by decide +kernel
theorem dL_agrees_16 : decode cL_agrees 16 = .ok (.goto 6, 3) := by decide +kernel
theorem dL_agrees_19 : decode cL_agrees 19 = .ok (.astore_n 3, 1) := by decide +kernel
theorem dL_agrees_20 : decode cL_agrees 20 = .ok (.iconst 1, 1) := by decide +kernel
theorem dL_agrees_21 : decode cL_agrees 21 = .ok (.ireturn, 1) := by decide +kernel
theorem dL_agrees_22 : decode cL_agrees 22 = .ok (.iconst 0, 1) := by decide +kernel
theorem dL_agrees_23 : decode cL_agrees 23 = .ok (.ireturn, 1) := by decide +kernel
set_option maxRecDepth 20000 in
theorem wp_L_agrees (E : En) (d : Nat) (a1 : Int32) (h : Hp) (P : Int32 → Hp → Prop) (t : SxI E d 1 MX9_agrees [.ref (eA E 0), .int a1] h (fun v h1 => (v = 0 → P (0 : Int32) (sL h1 98 0 (0 : Int64))) ∧ (¬ v = 0 → P (0 : Int32) (sL h1 98 0 (1 : Int64)))) (fun X h1 => (X = "java/lang/IndexOutOfBoundsException" ∧ P (1 : Int32) h1))) : SpH E (d + 1) 1 ML_agrees HL_agrees [.ref (eA E 0), .int a1, .ref (eA E 98)] h P := by
  refine SpH.of (lv0 := [(0, .ref (eA E 0)), (1, .int a1), (2, .ref (eA E 98))]) (by decide) (Nat.le_of_ble_eq_true rfl) rfl (fun g hT => ?_)
  refine r_aload_n (q := 2) dL_agrees_0 rfl rfl ?_
  refine r_iconst (v := (0 : Int32)) dL_agrees_1 rfl ?_
  refine r_aload_n (q := 0) dL_agrees_2 rfl rfl ?_
  refine r_iload_n (q := 1) dL_agrees_3 rfl rfl ?_
  refine r_hcVI (c := 0) (k1 := 1) (As := [.int a1]) (hh := HL_agrees) dL_agrees_4 mkX9_agrees lkL_90 lay_0 rfl rfl rfl (by decide) rfl (Nat.le_of_ble_eq_true rfl) (by decide) rfl hT t (fun v h1 t => ?_) (fun X h1 q9 t => ?_)
  · refine r_if_eq (tgt := 14) dL_agrees_7 (by decide) (fun q1 => ?_) (fun q1 => ?_)
    · have t := t.1 q1
      refine r_lconst (v := (0 : Int64)) dL_agrees_14 rfl ?_
      refine r_last (c := 98) dL_agrees_15 lay_98 vin01 ?_
      refine r_goto (tgt := 22) dL_agrees_16 (by decide) ?_
      refine r_iconst (v := (0 : Int32)) dL_agrees_22 rfl ?_
      exact r_iret dL_agrees_23 rfl t
    · have t := t.2 q1
      refine r_lconst (v := (1 : Int64)) dL_agrees_10 rfl ?_
      refine r_goto (tgt := 15) dL_agrees_11 (by decide) ?_
      refine r_last (c := 98) dL_agrees_15 lay_98 vin01 ?_
      refine r_goto (tgt := 22) dL_agrees_16 (by decide) ?_
      refine r_iconst (v := (0 : Int32)) dL_agrees_22 rfl ?_
      exact r_iret dL_agrees_23 rfl t
  · rcases t with ⟨rfl, t⟩
    · refine ⟨19, ⟨[], (0, 16, 19, 19), [], rfl, (fun z hz => absurd hz List.not_mem_nil), by decide, by decide, rfl, hl_19, by decide⟩, ?_⟩
      refine r_astore_n (lv' := [(3, .ref q9), (0, .ref (eA E 0)), (1, .int a1), (2, .ref (eA E 98))]) dL_agrees_19 rfl (by decide) rfl ?_
      refine r_iconst (v := (1 : Int32)) dL_agrees_20 rfl ?_
      exact r_iret dL_agrees_21 rfl t
theorem mkL_agrees : Cond.static yL_agrees ∈ TBL ∧ Cond.codeWith yL_agrees cL_agrees 4 (some .int) HL_agrees ∈ TBL := ⟨tb5 237 rfl rfl, tb5 238 rfl rfl⟩
