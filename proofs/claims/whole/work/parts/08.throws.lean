/-! methods that may throw: contracts with a second end; throws; calls through which a throw goes on -/
def QXQ (E : En) (PX : String → Hp → Prop) : String → State → State → Prop := vx_X (fun _ : Hp => True) (fun X h t => PX X h ∧ va_P (eD E) vwCl (wl E h) t.heap) (A0 E)
def SxI (E : En) (d k : Nat) (M : Mt) (av : List Value) (h : Hp) (P : Int32 → Hp → Prop) (PX : String → Hp → Prop) : Prop := vx_Met (eL E) M.1 (wsM M) (RM d k) (va_Pc av (Pre E h)) (QI E P) (QXQ E PX) k (6 * k) (A0 E)
def SxL (E : En) (d k : Nat) (M : Mt) (av : List Value) (h : Hp) (P : Int64 → Hp → Prop) (PX : String → Hp → Prop) : Prop := vx_Met (eL E) M.1 (wsM M) (RM d k) (va_Pc av (Pre E h)) (QL E P) (QXQ E PX) k (6 * k) (A0 E)
def SxV (E : En) (d k : Nat) (M : Mt) (av : List Value) (h : Hp) (P : Hp → Prop) (PX : String → Hp → Prop) : Prop := vx_Met (eL E) M.1 (wsM M) (RM d k) (va_Pc av (Pre E h)) (QV E P) (QXQ E PX) k (6 * k) (A0 E)
def NoTab (g : Ga) : Prop := match g with
  | (_, _, _, _, _, _, _, c) => ∀ x ∈ c.exceptionTable.toList, False
def QX (E : En) (g : Ga) (Qc : Array Value → State → Outcome → State → Prop) (XC : String → State → State → Prop) (mc ms : Nat) : State → Prop := match g with
  | (_, _, s, _, args, below, _, _) => vx_MQ below Qc XC args s mc ms (A0 E)
def NGW : List Cond := DECL.map Cond.declares ++ CASTS.map (fun q => Cond.castable q.1 q.2)
theorem ng_at {E : En} {s : State} {args : Array Value} (h : KstB E s) : ∀ w ∈ NGW, w.before args s = true := by
  intro w hw
  rcases List.mem_append.mp hw with h1 | h1
  · obtain ⟨x, hx, rfl⟩ := List.mem_map.mp h1
    exact va_Nw.use rfl (h.1 x hx)
  · obtain ⟨x, hx, rfl⟩ := List.mem_map.mp h1
    exact va_Nw.use rfl (h.2.1 x hx)
abbrev thrN : List String := ["java/lang/RuntimeException", "java/lang/Exception"]
def THR (cls : String) (ik ic : Nat) : Prop := Bundle.fit cls = true ∧ Cond.classLink RX9 ik cls ∈ TBL ∧ Cond.initialized cls ∈ TBL ∧ (∀ w ∈ vx_atS RX9 ic cls thrN, w ∈ TBL ∨ w ∈ NGW) ∧ (∀ w ∈ Cond.classLink RX9 ik cls :: Cond.initialized cls :: vx_atS RX9 ic cls thrN, vx_ot w = true)
theorem thr_ws {L : List Cond} (h : L.all (fun w => if goodWord w then decide (w ∈ lw_tbl) else decide (w ∈ NGW)) = true) : ∀ w ∈ L, w ∈ TBL ∨ w ∈ NGW := by
  intro w hw
  have h1 := List.all_eq_true.mp h w hw
  by_cases hg : goodWord w = true
  · rw [if_pos hg] at h1
    exact Or.inl (List.mem_filter.mpr ⟨of_decide_eq_true h1, hg⟩)
  · rw [if_neg hg] at h1
    exact Or.inr (of_decide_eq_true h1)
section THROWS
variable {E : En} {M M' : Mt} {g : Ga} {Q : State → Prop} {cells slots d k k1 : Nat} {h : Hp} {pc : Nat} {lv lv' : List (Nat × Value)} {st st0 : List Value} {Qc : Array Value → State → Outcome → State → Prop} {XC : String → State → State → Prop} {PX : String → Hp → Prop}
theorem Sx_body {av : List Value} {lv0 : List (Nat × Value)} (hy : plainName M.1.cls = true) (hn : (lg_sl av).length ≤ M.2.2.1) (he : lv_args 0 av = lv0) (t : ∀ g : Ga, NoTab g → V E M (RM d k) g (QX E g Qc XC k (6 * k)) 0 0 h 0 lv0 []) : vx_Met (eL E) M.1 (wsM M) (RM d k) (va_Pc av (Pre E h)) Qc XC k (6 * k) (A0 E) := by
  refine vx_ofW (cc := M.2.1) (maxL := M.2.2.1) (ret := M.2.2.2) hy rfl ?_
  intro p e s m args below meth c s₁ B hml hnt hv
  obtain ⟨rfl, hP, hA, hK⟩ := hv
  have hts := atoms_spec (ws := wsM M) B.pre
  have hl := lv_entry av hn
  rw [he] at hl
  rw [lg_entry_eq]
  exact t (p, e, s, m, av.toArray, below, meth, c) hnt ⟨B.exec, B.bytes, hml, findClass_of_methodNamed B.named, fun w hw => hts w (List.mem_cons_of_mem _ hw), B.notSynchronized, B.returns, hA, hK⟩ s.heap [] _ hP va_S.rf hl
theorem r_xiret {R : Room} {v : Int32} {P : Int32 → Hp → Prop} (hd : decode M.2.1 pc = .ok (.ireturn, 1)) (hr : M.2.2.2 = some .int) (hcs : cells ≤ k ∧ slots ≤ 6 * k) (hp : P v h) : V E M R g (QX E g (QI E P) XC k (6 * k)) cells slots h pc lv [.int v] := by
  obtain ⟨p, e, s, m, args, below, meth, c0⟩ := g
  intro C H locs ls hP hS hl
  exact W.widen hcs.1 hcs.2 (vx_ret (W.iret C.1 C.2.1 (C.2.2.2.2.2.2.1.trans hr) (fun t ht hW => ⟨⟨v, h, rfl, hp, (show va_P (eD E) vwCl (wl E h) t.heap by rw [ht]; exact hP)⟩, hS.F ht⟩) hS.2.2 hd C.2.2.2.2.2.1))
theorem r_xzret {R : Room} {v : Int32} {P : Int32 → Hp → Prop} (hd : decode M.2.1 pc = .ok (.ireturn, 1)) (hr : M.2.2.2 = some .boolean) (hz : v = 0 ∨ v = 1) (hcs : cells ≤ k ∧ slots ≤ 6 * k) (hp : P v h) : V E M R g (QX E g (QI E P) XC k (6 * k)) cells slots h pc lv [.int v] := by
  obtain ⟨p, e, s, m, args, below, meth, c0⟩ := g
  intro C H locs ls hP hS hl
  exact W.widen hcs.1 hcs.2 (vx_ret (W.zret C.1 C.2.1 (C.2.2.2.2.2.2.1.trans hr) (by rcases hz with rfl | rfl <;> decide) (fun t ht hW => ⟨⟨v, h, rfl, hp, (show va_P (eD E) vwCl (wl E h) t.heap by rw [ht]; exact hP)⟩, hS.F ht⟩) hS.2.2 hd C.2.2.2.2.2.1))
theorem r_xlret {R : Room} {v : Int64} {P : Int64 → Hp → Prop} (hd : decode M.2.1 pc = .ok (.lreturn, 1)) (hr : M.2.2.2 = some .long) (hcs : cells ≤ k ∧ slots ≤ 6 * k) (hp : P v h) : V E M R g (QX E g (QL E P) XC k (6 * k)) cells slots h pc lv [.long v] := by
  obtain ⟨p, e, s, m, args, below, meth, c0⟩ := g
  intro C H locs ls hP hS hl
  exact W.widen hcs.1 hcs.2 (vx_ret (W.lret C.1 C.2.1 (C.2.2.2.2.2.2.1.trans hr) (fun t ht hW => ⟨⟨v, h, rfl, hp, (show va_P (eD E) vwCl (wl E h) t.heap by rw [ht]; exact hP)⟩, hS.F ht⟩) hS.2.2 hd C.2.2.2.2.2.1))
theorem r_xvret {R : Room} {P : Hp → Prop} (hd : decode M.2.1 pc = .ok (.return_, 1)) (hr : M.2.2.2 = none) (hcs : cells ≤ k ∧ slots ≤ 6 * k) (hp : P h) : V E M R g (QX E g (QV E P) XC k (6 * k)) cells slots h pc lv [] := by
  obtain ⟨p, e, s, m, args, below, meth, c0⟩ := g
  intro C H locs ls hP hS hl
  exact W.widen hcs.1 hcs.2 (vx_ret (W.vret C.1 C.2.1 (C.2.2.2.2.2.2.1.trans hr) (fun t ht hW => ⟨⟨h, rfl, hp, (show va_P (eD E) vwCl (wl E h) t.heap by rw [ht]; exact hP)⟩, hS.F ht⟩) hS.2.2 hd C.2.2.2.2.2.1))
/-- a throw that went through a call goes on -/
theorem x_on {p : Program} {e : Env} {R : Room} {s : State} {m : MethodId} {args : Array Value} {below : List Frame} {meth : Method} {c : Code} {H1 : Heap} {locs1 : List Loc} {ls : Array Slot} {X : String} {ce : Cell} {q9 : Addr} {u : Hp} {t : State} {c1 s1 : Nat} (C : Cx E M (p, e, s, m, args, below, meth, c)) (hnt : NoTab (p, e, s, m, args, below, meth, c)) (ht : t.heap = H1) (hB : PX X u ∧ va_P (eD E) vwCl (wl E u) t.heap) (hS1 : va_S (A0 E) s.heap H1 locs1) (hce : H1[q9]? = some ce) (hcv : ce.vm = .none) (hcl : s.vm.findClass X = some ce.cls) (hcs : c1 ≤ k ∧ s1 ≤ 6 * k) :
    vx_W p (eL E) e R s m args below meth c H1 locs1 c1 s1 (vx_MQ below Qc (QXQ E PX) args s k (6 * k) (A0 E)) (F0 m pc ls st) q9 :=
  vx_out (fun x hx => (hnt x hx).elim) C.2.2.2.2.2.1 hce hcv hcl (fun t2 ht2 _ => ⟨u, trivial, ⟨hB.1, by rw [ht2, ← ht]; exact hB.2⟩, hS1.F ht2⟩) hS1.2.2 hcs.1 hcs.2
theorem r_xcVI {idx n c ci : Nat} {As : List Value} {fk : List (Nat × Nat)} {qc : vw_C} {P : Int32 → Hp → Prop} (hd : decode M.2.1 pc = .ok (.invokevirtual idx, 3)) (hk : MKV M' n) (hlk : Cond.methodLink M.1.cls idx M'.1 ∈ TBL) (hc : lay[c]? = some (.inl (ci, fk))) (hci : vwCl[ci]? = some qc) (hcn : qc.1 = M'.1.cls) (hn : As.length = n) (hmx : M'.2.2.1 ≤ 21) (hst : st0 = As.reverse ++ .ref (eA E c) :: st) (hw : (st.map fun v => v.category).sum ≤ 8) (hcs : cells + k1 ≤ k ∧ slots + 6 * k1 ≤ 6 * k) (hnt : NoTab g)
    (sp : SxI E d k1 M' (.ref (eA E c) :: As) h P PX) (t : ∀ (v : Int32) (h' : Hp), P v h' → V E M (RM (d + 1) k) g (QX E g Qc (QXQ E PX) k (6 * k)) (cells + k1) (slots + 6 * k1) h' (pc + 3) lv (.int v :: st)) : V E M (RM (d + 1) k) g (QX E g Qc (QXQ E PX) k (6 * k)) cells slots h pc lv st0 := by
  obtain ⟨p, e, s, m, args, below, meth, c0⟩ := g
  intro C H locs ls hP hS hl
  subst hst
  have hrecv := va_recv C.2.2.2.2.2.2.2.2.1.1 hP hci (wl_at hc)
  rw [hcn] at hrecv
  refine vx_calli (vx_runV (As := As) (rest := st) (mc := k1) (ms := 6 * k1) ⟨C.1, C.2.1, C.2.2.1, C.2.2.2.1, C.2.2.2.2.1⟩ sp (cwV n C.2.2.2.2.1 (gin_V hk hlk) rfl rfl rfl ⟨rfl, hk.2.2.2.2.1⟩ ⟨Nat.le_refl _, by show 8 + (M'.2.2.1 + 11) + 40 * d ≤ 40 * (d + 1); omega⟩) ⟨Pre_blind, hrecv, pre_at C hP hS⟩ rfl hn hl.1 rfl (lv_room hw) hd hcs) hS (fun _ _ q => q) (fun _ q => q) (fun _ _ q => q) (fun X ce q9 u t1 H1 locs1 ht hvm _ hB hz1 hk1 hS1 hce hcv hcl => x_on C hnt ht hB hS1 hce hcv hcl hcs) (fun r u t1 H1 locs1 ht hvm hw1 hB hz1 hk1 hS1 => ?_)
  exact t r u hw1 C H1 locs1 ls (by rw [← ht]; exact hB) hS1 hl
theorem r_xcVV {idx n c ci : Nat} {As : List Value} {fk : List (Nat × Nat)} {qc : vw_C} {P : Hp → Prop} (hd : decode M.2.1 pc = .ok (.invokevirtual idx, 3)) (hk : MKV M' n) (hlk : Cond.methodLink M.1.cls idx M'.1 ∈ TBL) (hc : lay[c]? = some (.inl (ci, fk))) (hci : vwCl[ci]? = some qc) (hcn : qc.1 = M'.1.cls) (hn : As.length = n) (hmx : M'.2.2.1 ≤ 21) (hst : st0 = As.reverse ++ .ref (eA E c) :: st) (hw : (st.map fun v => v.category).sum ≤ 8) (hcs : cells + k1 ≤ k ∧ slots + 6 * k1 ≤ 6 * k) (hnt : NoTab g)
    (sp : SxV E d k1 M' (.ref (eA E c) :: As) h P PX) (t : ∀ (h' : Hp), P h' → V E M (RM (d + 1) k) g (QX E g Qc (QXQ E PX) k (6 * k)) (cells + k1) (slots + 6 * k1) h' (pc + 3) lv st) : V E M (RM (d + 1) k) g (QX E g Qc (QXQ E PX) k (6 * k)) cells slots h pc lv st0 := by
  obtain ⟨p, e, s, m, args, below, meth, c0⟩ := g
  intro C H locs ls hP hS hl
  subst hst
  have hrecv := va_recv C.2.2.2.2.2.2.2.2.1.1 hP hci (wl_at hc)
  rw [hcn] at hrecv
  refine vx_callv (vx_runV (As := As) (rest := st) (mc := k1) (ms := 6 * k1) ⟨C.1, C.2.1, C.2.2.1, C.2.2.2.1, C.2.2.2.2.1⟩ sp (cwV n C.2.2.2.2.1 (gin_V hk hlk) rfl rfl rfl ⟨rfl, hk.2.2.2.2.1⟩ ⟨Nat.le_refl _, by show 8 + (M'.2.2.1 + 11) + 40 * d ≤ 40 * (d + 1); omega⟩) ⟨Pre_blind, hrecv, pre_at C hP hS⟩ rfl hn hl.1 rfl (lv_room hw) hd hcs) hS (fun _ _ q => q) (fun _ q => q) (fun _ _ q => q) (fun X ce q9 u t1 H1 locs1 ht hvm _ hB hz1 hk1 hS1 hce hcv hcl => x_on C hnt ht hB hS1 hce hcv hcl hcs) (fun u t1 H1 locs1 ht hvm hw1 hB hz1 hk1 hS1 => ?_)
  exact t u hw1 C H1 locs1 ls (by rw [← ht]; exact hB) hS1 hl
theorem x_world {s t : State} {H : Heap} {locs : List Loc} {X : String} (hP : va_P (eD E) vwCl (wl E h) H) (hS : va_S (A0 E) s.heap H locs) (hp : PX X h) (hz : H.size ≤ t.heap.size) (hk : ∀ q : Nat, q < H.size → t.heap[q]? = H[q]?) : QXQ E PX X s t :=
  ⟨h, trivial, ⟨hp, hP.kept (fun k q hq => hk q.1 ((hP k q hq).lt))⟩, Nat.le_trans hS.1 hz, fun q h1 h2 => (hk q (Nat.lt_of_lt_of_le h1 hS.1)).trans (hS.2.1 q h1 h2)⟩
theorem r_throw {cls tx : String} {ik is ic : Nat} (hT : THR cls ik ic) (hq : (is, tx) ∈ THRS) (ho : M.1.cls = RX9) (d0 : decode M.2.1 pc = .ok (.new ik, 3)) (d3 : decode M.2.1 (pc + 3) = .ok (.dup, 1)) (d4 : decode M.2.1 (pc + 4) = .ok (.ldc is, 2)) (d6 : decode M.2.1 (pc + 6) = .ok (.invokespecial ic, 3)) (d9 : decode M.2.1 (pc + 9) = .ok (.athrow, 1)) (hw : (st.map fun v => v.category).sum ≤ 8) (hcs : cells + 1 ≤ k ∧ slots + 6 ≤ 6 * k) (hnt : NoTab g) (hp : PX cls h) : V E M (RM (d + 6) k) g (QX E g Qc (QXQ E PX) k (6 * k)) cells slots h pc lv st := by
  obtain ⟨p, e, s, m, args, below, meth, c0⟩ := g
  intro C H locs ls hP hS hl
  obtain ⟨sa, hsa⟩ := C.2.2.2.2.2.2.2.2.1.2.2.2.2.1 _ hq
  exact vx_throwS (names := thrN) C.1 C.2.1 C.2.2.2.2.2.2.2.2.1.2.2.1 (ho ▸ C.2.2.2.1) hT.1 (by decide) (C.2.2.2.2.1 _ hT.2.1) (C.2.2.2.2.1 _ hT.2.2.1) hsa (fun w hw => (hT.2.2.2.1 w hw).elim (C.2.2.2.2.1 w) (ng_at C.2.2.2.2.2.2.2.2.2 w)) hT.2.2.2.2 C.2.2.2.2.2.2.2.2.1.2.2.2.2.2.2.1 C.2.2.2.2.2.2.2.2.1.2.2.2.2.2.2.2.1 hS (hl.1.trans C.2.2.1.symm) d0 d3 d4 d6 d9 (fun x hx => (hnt x hx).elim) (by show 2 + 3 < d + 6; omega) (by show _ + (13 * (2 + 1) + 43) ≤ 40 * (d + 6); omega) hcs.1 hcs.2 C.2.2.2.2.2.1 (fun t _ hz hk => x_world hP hS hp hz hk) hS.2.2 hcs.1 hcs.2
theorem r_throwW {cls tx : String} {ik is ic : Nat} (hT : THR cls ik ic) (hq : (is, tx) ∈ THRS) (ho : M.1.cls = RX9) (d0 : decode M.2.1 pc = .ok (.new ik, 3)) (d3 : decode M.2.1 (pc + 3) = .ok (.dup, 1)) (d4 : decode M.2.1 (pc + 4) = .ok (.ldc_w is, 3)) (d7 : decode M.2.1 (pc + 7) = .ok (.invokespecial ic, 3)) (d10 : decode M.2.1 (pc + 10) = .ok (.athrow, 1)) (hw : (st.map fun v => v.category).sum ≤ 8) (hcs : cells + 1 ≤ k ∧ slots + 6 ≤ 6 * k) (hnt : NoTab g) (hp : PX cls h) : V E M (RM (d + 6) k) g (QX E g Qc (QXQ E PX) k (6 * k)) cells slots h pc lv st := by
  obtain ⟨p, e, s, m, args, below, meth, c0⟩ := g
  intro C H locs ls hP hS hl
  obtain ⟨sa, hsa⟩ := C.2.2.2.2.2.2.2.2.1.2.2.2.2.1 _ hq
  exact vx_throwSW (names := thrN) C.1 C.2.1 C.2.2.2.2.2.2.2.2.1.2.2.1 (ho ▸ C.2.2.2.1) hT.1 (by decide) (C.2.2.2.2.1 _ hT.2.1) (C.2.2.2.2.1 _ hT.2.2.1) hsa (fun w hw => (hT.2.2.2.1 w hw).elim (C.2.2.2.2.1 w) (ng_at C.2.2.2.2.2.2.2.2.2 w)) hT.2.2.2.2 C.2.2.2.2.2.2.2.2.1.2.2.2.2.2.2.1 C.2.2.2.2.2.2.2.2.1.2.2.2.2.2.2.2.1 hS (hl.1.trans C.2.2.1.symm) d0 d3 d4 d7 d10 (fun x hx => (hnt x hx).elim) (by show 2 + 3 < d + 6; omega) (by show _ + (13 * (2 + 1) + 43) ≤ 40 * (d + 6); omega) hcs.1 hcs.2 C.2.2.2.2.2.1 (fun t _ hz hk => x_world hP hS hp hz hk) hS.2.2 hcs.1 hcs.2
theorem SxI.of {av : List Value} {P : Int32 → Hp → Prop} {lv0 : List (Nat × Value)} (hy : plainName M.1.cls = true) (hn : (lg_sl av).length ≤ M.2.2.1) (he : lv_args 0 av = lv0) (t : ∀ g : Ga, NoTab g → V E M (RM d k) g (QX E g (QI E P) (QXQ E PX) k (6 * k)) 0 0 h 0 lv0 []) : SxI E d k M av h P PX := Sx_body hy hn he t
theorem SxL.of {av : List Value} {P : Int64 → Hp → Prop} {lv0 : List (Nat × Value)} (hy : plainName M.1.cls = true) (hn : (lg_sl av).length ≤ M.2.2.1) (he : lv_args 0 av = lv0) (t : ∀ g : Ga, NoTab g → V E M (RM d k) g (QX E g (QL E P) (QXQ E PX) k (6 * k)) 0 0 h 0 lv0 []) : SxL E d k M av h P PX := Sx_body hy hn he t
theorem SxV.of {av : List Value} {P : Hp → Prop} {lv0 : List (Nat × Value)} (hy : plainName M.1.cls = true) (hn : (lg_sl av).length ≤ M.2.2.1) (he : lv_args 0 av = lv0) (t : ∀ g : Ga, NoTab g → V E M (RM d k) g (QX E g (QV E P) (QXQ E PX) k (6 * k)) 0 0 h 0 lv0 []) : SxV E d k M av h P PX := Sx_body hy hn he t
end THROWS
set_option maxRecDepth 100000 in
theorem thr_X : THR "java/lang/IndexOutOfBoundsException" 178 182 := ⟨by decide +kernel, tb4 215 rfl rfl, tb1 23 rfl rfl, thr_ws (by decide +kernel), by decide +kernel⟩
set_option maxRecDepth 100000 in
theorem thr_A : THR "java/lang/IllegalArgumentException" 149 153 := ⟨by decide +kernel, tb4 235 rfl rfl, tb1 24 rfl rfl, thr_ws (by decide +kernel), by decide +kernel⟩
set_option maxRecDepth 100000 in
theorem thr_S : THR "java/lang/IllegalStateException" 198 202 := ⟨by decide +kernel, tb5 77 rfl rfl, tb1 25 rfl rfl, thr_ws (by decide +kernel), by decide +kernel⟩
