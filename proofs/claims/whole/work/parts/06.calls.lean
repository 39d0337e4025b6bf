/-! calls, answers, the frames of contracts -/
def QQ (E : En) (g : Ga) (Qc : Array Value → State → Outcome → State → Prop) (mc ms : Nat) : State → Prop := match g with
  | (_, _, s, _, args, below, _, _) => MQ below Qc args s mc ms (A0 E)
theorem gin_V {own : String} {idx : Nat} {M : Mt} {n : Nat} (hk : MKV M n) (hl : Cond.methodLink own idx M.1 ∈ TBL) : GoodIn TBL (wsV own idx M.1.cls M.1 (wsM M)) := by
  intro w hw
  refine TBL_good w ?_
  simp only [wsV, List.cons_append, List.nil_append, List.mem_cons] at hw
  rcases hw with rfl | rfl | rfl | rfl | rfl | hw
  · exact hl
  · exact hk.1
  · exact hk.2.1
  · exact hk.2.2.1
  · exact hk.2.2.2.1
  · exact hw
theorem gin_S {own : String} {idx : Nat} {M : Mt} {n : Nat} (hk : MKS M n) (hl : Cond.methodLink own idx M.1 ∈ TBL) : GoodIn TBL (va_wsS own idx M.1 (wsM M)) := by
  intro w hw
  refine TBL_good w ?_
  simp only [va_wsS, List.cons_append, List.nil_append, List.mem_cons] at hw
  rcases hw with rfl | rfl | rfl | rfl | hw
  · exact hl
  · exact hk.1
  · exact hk.2.1
  · exact hk.2.2.1
  · exact hw
theorem Pre_blind {E : En} {h : Hp} {av : List Value} : FrameBlind (va_Pc av (Pre E h)) := fun a U g mk q => ⟨q.1, q.2.1, q.2.2.1, Kst.same (u := U) (U := U.calling g mk a) rfl rfl q.2.2.2⟩
section CALLS
variable {E : En} {M M' : Mt} {g : Ga} {Q : State → Prop} {cells slots d k : Nat} {h : Hp} {pc : Nat} {lv lv' : List (Nat × Value)} {st st0 : List Value}
theorem pre_at {p : Program} {e : Env} {s : State} {m : MethodId} {args : Array Value} {below : List Frame} {meth : Method} {c : Code} {H : Heap} {locs : List Loc} {av : List Value} (C : Cx E M (p, e, s, m, args, below, meth, c)) (hP : va_P (eD E) vwCl (wl E h) H) (hS : va_S (A0 E) s.heap H locs) : ∀ U : State, U.heap = H → s.WarmedH U.vm → va_Pc av (Pre E h) av.toArray U :=
  fun U hU hW => ⟨rfl, by rw [hU]; exact hP, C.2.2.2.2.2.2.2.1, C.2.2.2.2.2.2.2.2.go hW (by rw [hU]; exact hS.1) (fun a h1 h2 => by rw [hU]; exact hS.2.1 a h1 h2)⟩
theorem r_cVI {idx n c ci : Nat} {As : List Value} {fk : List (Nat × Nat)} {qc : vw_C} {P : Int32 → Hp → Prop} (hd : decode M.2.1 pc = .ok (.invokevirtual idx, 3)) (hk : MKV M' n) (hlk : Cond.methodLink M.1.cls idx M'.1 ∈ TBL) (hc : lay[c]? = some (.inl (ci, fk))) (hci : vwCl[ci]? = some qc) (hcn : qc.1 = M'.1.cls) (hn : As.length = n) (hmx : M'.2.2.1 ≤ 21) (hst : st0 = As.reverse ++ .ref (eA E c) :: st) (hw : (st.map fun v => v.category).sum ≤ 8) (hcs : cells ≤ k ∧ slots ≤ 6 * k)
    (sp : SpI E d M' (.ref (eA E c) :: As) h P) (t : ∀ (v : Int32) (h' : Hp), P v h' → V E M (RM (d + 1) k) g Q cells slots h' (pc + 3) lv (.int v :: st)) : V E M (RM (d + 1) k) g Q cells slots h pc lv st0 := by
  obtain ⟨p, e, s, m, args, below, meth, c0⟩ := g
  intro C H locs ls hP hS hl
  subst hst
  have hrecv := va_recv C.2.2.2.2.2.2.2.2.1.1 hP hci (wl_at hc)
  rw [hcn] at hrecv
  refine va_calli (va_runV (As := As) (rest := st) (mc := 0) (ms := 0) ⟨C.1, C.2.1, C.2.2.1, C.2.2.2.1, C.2.2.2.2.1⟩ sp (cwV n C.2.2.2.2.1 (gin_V hk hlk) rfl rfl rfl ⟨rfl, hk.2.2.2.2.1⟩ ⟨Nat.le_refl _, by show 8 + (M'.2.2.1 + 11) + 40 * d ≤ 40 * (d + 1); omega⟩) ⟨Pre_blind, hrecv, pre_at C hP hS⟩ rfl hn hl.1 rfl (lv_room hw) hd hcs) hS (fun _ _ q => q) (fun _ q => q) (fun r u t1 H1 locs1 ht hvm hw1 hB hz1 hk1 hS1 => ?_)
  exact t r u hw1 C H1 locs1 ls (by rw [← ht]; exact hB) hS1 hl
theorem r_cVL {idx n c ci : Nat} {As : List Value} {fk : List (Nat × Nat)} {qc : vw_C} {P : Int64 → Hp → Prop} (hd : decode M.2.1 pc = .ok (.invokevirtual idx, 3)) (hk : MKV M' n) (hlk : Cond.methodLink M.1.cls idx M'.1 ∈ TBL) (hc : lay[c]? = some (.inl (ci, fk))) (hci : vwCl[ci]? = some qc) (hcn : qc.1 = M'.1.cls) (hn : As.length = n) (hmx : M'.2.2.1 ≤ 21) (hst : st0 = As.reverse ++ .ref (eA E c) :: st) (hw : (st.map fun v => v.category).sum ≤ 8) (hcs : cells ≤ k ∧ slots ≤ 6 * k)
    (sp : SpL E d M' (.ref (eA E c) :: As) h P) (t : ∀ (v : Int64) (h' : Hp), P v h' → V E M (RM (d + 1) k) g Q cells slots h' (pc + 3) lv (.long v :: st)) : V E M (RM (d + 1) k) g Q cells slots h pc lv st0 := by
  obtain ⟨p, e, s, m, args, below, meth, c0⟩ := g
  intro C H locs ls hP hS hl
  subst hst
  have hrecv := va_recv C.2.2.2.2.2.2.2.2.1.1 hP hci (wl_at hc)
  rw [hcn] at hrecv
  refine va_calll (va_runV (As := As) (rest := st) (mc := 0) (ms := 0) ⟨C.1, C.2.1, C.2.2.1, C.2.2.2.1, C.2.2.2.2.1⟩ sp (cwV n C.2.2.2.2.1 (gin_V hk hlk) rfl rfl rfl ⟨rfl, hk.2.2.2.2.1⟩ ⟨Nat.le_refl _, by show 8 + (M'.2.2.1 + 11) + 40 * d ≤ 40 * (d + 1); omega⟩) ⟨Pre_blind, hrecv, pre_at C hP hS⟩ rfl hn hl.1 rfl (lv_room hw) hd hcs) hS (fun _ _ q => q) (fun _ q => q) (fun r u t1 H1 locs1 ht hvm hw1 hB hz1 hk1 hS1 => ?_)
  exact t r u hw1 C H1 locs1 ls (by rw [← ht]; exact hB) hS1 hl
theorem r_cVV {idx n c ci : Nat} {As : List Value} {fk : List (Nat × Nat)} {qc : vw_C} {P : Hp → Prop} (hd : decode M.2.1 pc = .ok (.invokevirtual idx, 3)) (hk : MKV M' n) (hlk : Cond.methodLink M.1.cls idx M'.1 ∈ TBL) (hc : lay[c]? = some (.inl (ci, fk))) (hci : vwCl[ci]? = some qc) (hcn : qc.1 = M'.1.cls) (hn : As.length = n) (hmx : M'.2.2.1 ≤ 21) (hst : st0 = As.reverse ++ .ref (eA E c) :: st) (hw : (st.map fun v => v.category).sum ≤ 8) (hcs : cells ≤ k ∧ slots ≤ 6 * k)
    (sp : SpV E d M' (.ref (eA E c) :: As) h P) (t : ∀ (h' : Hp), P h' → V E M (RM (d + 1) k) g Q cells slots h' (pc + 3) lv st) : V E M (RM (d + 1) k) g Q cells slots h pc lv st0 := by
  obtain ⟨p, e, s, m, args, below, meth, c0⟩ := g
  intro C H locs ls hP hS hl
  subst hst
  have hrecv := va_recv C.2.2.2.2.2.2.2.2.1.1 hP hci (wl_at hc)
  rw [hcn] at hrecv
  refine va_callv (va_runV (As := As) (rest := st) (mc := 0) (ms := 0) ⟨C.1, C.2.1, C.2.2.1, C.2.2.2.1, C.2.2.2.2.1⟩ sp (cwV n C.2.2.2.2.1 (gin_V hk hlk) rfl rfl rfl ⟨rfl, hk.2.2.2.2.1⟩ ⟨Nat.le_refl _, by show 8 + (M'.2.2.1 + 11) + 40 * d ≤ 40 * (d + 1); omega⟩) ⟨Pre_blind, hrecv, pre_at C hP hS⟩ rfl hn hl.1 rfl (lv_room hw) hd hcs) hS (fun _ _ q => q) (fun _ q => q) (fun u t1 H1 locs1 ht hvm hw1 hB hz1 hk1 hS1 => ?_)
  exact t u hw1 C H1 locs1 ls (by rw [← ht]; exact hB) hS1 hl
theorem r_cSI {idx n : Nat} {As : List Value} {P : Int32 → Hp → Prop} (hd : decode M.2.1 pc = .ok (.invokestatic idx, 3)) (hk : MKS M' n) (hlk : Cond.methodLink M.1.cls idx M'.1 ∈ TBL) (hn : As.length = n) (hmx : M'.2.2.1 ≤ 21) (hst : st0 = As.reverse ++ st) (hw : (st.map fun v => v.category).sum ≤ 8) (hcs : cells ≤ k ∧ slots ≤ 6 * k)
    (sp : SpI E d M' As h P) (t : ∀ (v : Int32) (h' : Hp), P v h' → V E M (RM (d + 1) k) g Q cells slots h' (pc + 3) lv (.int v :: st)) : V E M (RM (d + 1) k) g Q cells slots h pc lv st0 := by
  obtain ⟨p, e, s, m, args, below, meth, c0⟩ := g
  intro C H locs ls hP hS hl
  subst hst
  refine va_calli (va_runS (As := As) (rest := st) (mc := 0) (ms := 0) ⟨C.1, C.2.1, C.2.2.1, C.2.2.2.1, C.2.2.2.2.1⟩ sp (va_cwS n C.2.2.2.2.1 (gin_S hk hlk) rfl rfl rfl hk.2.2.2 ⟨Nat.le_refl _, by show 8 + (M'.2.2.1 + 11) + 40 * d ≤ 40 * (d + 1); omega⟩) ⟨Pre_blind, pre_at C hP hS⟩ rfl hn hl.1 rfl (lv_room hw) hd hcs) hS (fun _ _ q => q) (fun _ q => q) (fun r u t1 H1 locs1 ht hvm hw1 hB hz1 hk1 hS1 => ?_)
  exact t r u hw1 C H1 locs1 ls (by rw [← ht]; exact hB) hS1 hl
theorem r_cSV {idx n : Nat} {As : List Value} {P : Hp → Prop} (hd : decode M.2.1 pc = .ok (.invokestatic idx, 3)) (hk : MKS M' n) (hlk : Cond.methodLink M.1.cls idx M'.1 ∈ TBL) (hn : As.length = n) (hmx : M'.2.2.1 ≤ 21) (hst : st0 = As.reverse ++ st) (hw : (st.map fun v => v.category).sum ≤ 8) (hcs : cells ≤ k ∧ slots ≤ 6 * k)
    (sp : SpV E d M' As h P) (t : ∀ (h' : Hp), P h' → V E M (RM (d + 1) k) g Q cells slots h' (pc + 3) lv st) : V E M (RM (d + 1) k) g Q cells slots h pc lv st0 := by
  obtain ⟨p, e, s, m, args, below, meth, c0⟩ := g
  intro C H locs ls hP hS hl
  subst hst
  refine va_callv (va_runS (As := As) (rest := st) (mc := 0) (ms := 0) ⟨C.1, C.2.1, C.2.2.1, C.2.2.2.1, C.2.2.2.2.1⟩ sp (va_cwS n C.2.2.2.2.1 (gin_S hk hlk) rfl rfl rfl hk.2.2.2 ⟨Nat.le_refl _, by show 8 + (M'.2.2.1 + 11) + 40 * d ≤ 40 * (d + 1); omega⟩) ⟨Pre_blind, pre_at C hP hS⟩ rfl hn hl.1 rfl (lv_room hw) hd hcs) hS (fun _ _ q => q) (fun _ q => q) (fun u t1 H1 locs1 ht hvm hw1 hB hz1 hk1 hS1 => ?_)
  exact t u hw1 C H1 locs1 ls (by rw [← ht]; exact hB) hS1 hl
theorem r_iret {R : Room} {v : Int32} {P : Int32 → Hp → Prop} (hd : decode M.2.1 pc = .ok (.ireturn, 1)) (hr : M.2.2.2 = some .int) (hp : P v h) : V E M R g (QQ E g (QI E P) cells slots) cells slots h pc lv [.int v] := by
  obtain ⟨p, e, s, m, args, below, meth, c0⟩ := g
  intro C H locs ls hP hS hl
  exact W.iret C.1 C.2.1 (C.2.2.2.2.2.2.1.trans hr) (fun t ht hW => ⟨⟨v, h, rfl, hp, (show va_P (eD E) vwCl (wl E h) t.heap by rw [ht]; exact hP)⟩, hS.F ht⟩) hS.2.2 hd C.2.2.2.2.2.1
theorem r_zret {R : Room} {v : Int32} {P : Int32 → Hp → Prop} (hd : decode M.2.1 pc = .ok (.ireturn, 1)) (hr : M.2.2.2 = some .boolean) (hz : v = 0 ∨ v = 1) (hp : P v h) : V E M R g (QQ E g (QI E P) cells slots) cells slots h pc lv [.int v] := by
  obtain ⟨p, e, s, m, args, below, meth, c0⟩ := g
  intro C H locs ls hP hS hl
  exact W.zret C.1 C.2.1 (C.2.2.2.2.2.2.1.trans hr) (by rcases hz with rfl | rfl <;> decide) (fun t ht hW => ⟨⟨v, h, rfl, hp, (show va_P (eD E) vwCl (wl E h) t.heap by rw [ht]; exact hP)⟩, hS.F ht⟩) hS.2.2 hd C.2.2.2.2.2.1
theorem r_lret {R : Room} {v : Int64} {P : Int64 → Hp → Prop} (hd : decode M.2.1 pc = .ok (.lreturn, 1)) (hr : M.2.2.2 = some .long) (hp : P v h) : V E M R g (QQ E g (QL E P) cells slots) cells slots h pc lv [.long v] := by
  obtain ⟨p, e, s, m, args, below, meth, c0⟩ := g
  intro C H locs ls hP hS hl
  exact W.lret C.1 C.2.1 (C.2.2.2.2.2.2.1.trans hr) (fun t ht hW => ⟨⟨v, h, rfl, hp, (show va_P (eD E) vwCl (wl E h) t.heap by rw [ht]; exact hP)⟩, hS.F ht⟩) hS.2.2 hd C.2.2.2.2.2.1
theorem r_vret {R : Room} {P : Hp → Prop} (hd : decode M.2.1 pc = .ok (.return_, 1)) (hr : M.2.2.2 = none) (hp : P h) : V E M R g (QQ E g (QV E P) cells slots) cells slots h pc lv [] := by
  obtain ⟨p, e, s, m, args, below, meth, c0⟩ := g
  intro C H locs ls hP hS hl
  exact W.vret C.1 C.2.1 (C.2.2.2.2.2.2.1.trans hr) (fun t ht hW => ⟨⟨h, rfl, hp, (show va_P (eD E) vwCl (wl E h) t.heap by rw [ht]; exact hP)⟩, hS.F ht⟩) hS.2.2 hd C.2.2.2.2.2.1
theorem Sp_body {Qc : Array Value → State → Outcome → State → Prop} {av : List Value} {lv0 : List (Nat × Value)} (hy : plainName M.1.cls = true) (hn : (lg_sl av).length ≤ M.2.2.1) (he : lv_args 0 av = lv0) (t : ∀ g : Ga, V E M (RM d 0) g (QQ E g Qc 0 0) 0 0 h 0 lv0 []) : Met (eL E) M.1 (wsM M) (RM d 0) (va_Pc av (Pre E h)) Qc 0 0 (A0 E) := by
  refine Met.ofW (cc := M.2.1) (maxL := M.2.2.1) (ret := M.2.2.2) hy rfl ?_
  intro p e s m args below meth c s₁ B hml hv
  obtain ⟨rfl, hP, hA, hK⟩ := hv
  have hts := atoms_spec (ws := wsM M) B.pre
  have hl := lv_entry av hn
  rw [he] at hl
  rw [lg_entry_eq]
  exact t (p, e, s, m, av.toArray, below, meth, c) ⟨B.exec, B.bytes, hml, findClass_of_methodNamed B.named, fun w hw => hts w (List.mem_cons_of_mem _ hw), B.notSynchronized, B.returns, hA, hK⟩ s.heap [] _ hP va_S.rf hl
theorem SpI.of {av : List Value} {P : Int32 → Hp → Prop} {lv0 : List (Nat × Value)} (hy : plainName M.1.cls = true) (hn : (lg_sl av).length ≤ M.2.2.1) (he : lv_args 0 av = lv0) (t : ∀ g : Ga, V E M (RM d 0) g (QQ E g (QI E P) 0 0) 0 0 h 0 lv0 []) : SpI E d M av h P := Sp_body hy hn he t
theorem SpL.of {av : List Value} {P : Int64 → Hp → Prop} {lv0 : List (Nat × Value)} (hy : plainName M.1.cls = true) (hn : (lg_sl av).length ≤ M.2.2.1) (he : lv_args 0 av = lv0) (t : ∀ g : Ga, V E M (RM d 0) g (QQ E g (QL E P) 0 0) 0 0 h 0 lv0 []) : SpL E d M av h P := Sp_body hy hn he t
theorem SpV.of {av : List Value} {P : Hp → Prop} {lv0 : List (Nat × Value)} (hy : plainName M.1.cls = true) (hn : (lg_sl av).length ≤ M.2.2.1) (he : lv_args 0 av = lv0) (t : ∀ g : Ga, V E M (RM d 0) g (QQ E g (QV E P) 0 0) 0 0 h 0 lv0 []) : SpV E d M av h P := Sp_body hy hn he t
theorem SpI.mono {av : List Value} {P P2 : Int32 → Hp → Prop} (sp : SpI E d M av h P) (k : ∀ v h', P v h' → P2 v h') : SpI E d M av h P2 := by
  unfold SpI Met at sp ⊢
  exact MetFree.mono sp (fun _ _ q => q) (fun _ _ _ _ _ q => q) (fun a s o s' _ q => ⟨⟨q.1.1.elim fun r q1 => q1.elim fun u q2 => ⟨r, u, q2.1, k r u q2.2.1, q2.2.2⟩, q.1.2⟩, q.2⟩)
theorem SpL.mono {av : List Value} {P P2 : Int64 → Hp → Prop} (sp : SpL E d M av h P) (k : ∀ v h', P v h' → P2 v h') : SpL E d M av h P2 := by
  unfold SpL Met at sp ⊢
  exact MetFree.mono sp (fun _ _ q => q) (fun _ _ _ _ _ q => q) (fun a s o s' _ q => ⟨⟨q.1.1.elim fun r q1 => q1.elim fun u q2 => ⟨r, u, q2.1, k r u q2.2.1, q2.2.2⟩, q.1.2⟩, q.2⟩)
theorem SpV.mono {av : List Value} {P P2 : Hp → Prop} (sp : SpV E d M av h P) (k : ∀ h', P h' → P2 h') : SpV E d M av h P2 := by
  unfold SpV Met at sp ⊢
  exact MetFree.mono sp (fun _ _ q => q) (fun _ _ _ _ _ q => q) (fun a s o s' _ q => ⟨⟨q.1.1.elim fun u q2 => ⟨u, q2.1, k u q2.2.1, q2.2.2⟩, q.1.2⟩, q.2⟩)
theorem r_sub {R : Room} (is : List Nat) (hs : lv_pick lv is = lv') (t : V E M R g Q cells slots h pc lv' st) : V E M R g Q cells slots h pc lv st := by
  obtain ⟨p, e, s, m, args, below, meth, c0⟩ := g
  intro C H locs ls hP hS hl
  exact t C H locs ls hP hS (lv_sub hl is hs)
theorem r_max {idx : Nat} {x y : Int32} (hd : decode M.2.1 pc = .ok (.invokestatic idx, 3)) (hlk : Cond.methodLink M.1.cls idx yJ9_max_7cf53 ∈ TBL) (hw : (st.map fun v => v.category).sum ≤ 8) (hcs : cells ≤ k ∧ slots ≤ 6 * k) (t : V E M (RM (d + 1) k) g Q cells slots h (pc + 3) lv (.int (if x < y then y else x) :: st)) : V E M (RM (d + 1) k) g Q cells slots h pc lv (.int y :: .int x :: st) := by
  obtain ⟨p, e, s, m, args, below, meth, c0⟩ := g
  intro C H locs ls hP hS hl
  exact va_mmax C.1 C.2.1 (C.2.2.1.trans hl.1.symm) C.2.2.2.1 (C.2.2.2.2.1 _ hlk) (C.2.2.2.2.1 _ mkJ9_max_7cf53.1) (C.2.2.2.2.1 _ mkJ9_max_7cf53.2.1) (C.2.2.2.2.1 _ mkJ9_max_7cf53.2.2.1) (Nat.le_add_left 1 d) (by show _ + 13 ≤ 40 * (d + 1); omega) hcs.1 hcs.2 hd (t C H locs ls hP hS hl)
theorem r_min {idx : Nat} {x y : Int32} (hd : decode M.2.1 pc = .ok (.invokestatic idx, 3)) (hlk : Cond.methodLink M.1.cls idx yJ9_min_7cf53 ∈ TBL) (hw : (st.map fun v => v.category).sum ≤ 8) (hcs : cells ≤ k ∧ slots ≤ 6 * k) (t : V E M (RM (d + 1) k) g Q cells slots h (pc + 3) lv (.int (if y < x then y else x) :: st)) : V E M (RM (d + 1) k) g Q cells slots h pc lv (.int y :: .int x :: st) := by
  obtain ⟨p, e, s, m, args, below, meth, c0⟩ := g
  intro C H locs ls hP hS hl
  exact va_mmin C.1 C.2.1 (C.2.2.1.trans hl.1.symm) C.2.2.2.1 (C.2.2.2.2.1 _ hlk) (C.2.2.2.2.1 _ mkJ9_min_7cf53.1) (C.2.2.2.2.1 _ mkJ9_min_7cf53.2.1) (C.2.2.2.2.1 _ mkJ9_min_7cf53.2.2.1) (Nat.le_add_left 1 d) (by show _ + 13 ≤ 40 * (d + 1); omega) hcs.1 hcs.2 hd (t C H locs ls hP hS hl)
theorem r_getT {R : Room} {idx : Nat} (hd : decode M.2.1 pc = .ok (.getstatic idx, 3)) (hlk : Cond.fieldLink M.1.cls idx RX0 "BITS" "[I" ∈ TBL) (t : V E M R g Q cells slots h (pc + 3) lv (.ref (eT E) :: st)) : V E M R g Q cells slots h pc lv st := by
  obtain ⟨p, e, s, m, args, below, meth, c0⟩ := g
  intro C H locs ls hP hS hl
  exact va_gets C.1 C.2.1 C.2.2.2.2.2.2.2.2.1.2.2.2.2.2.2.2.2.1.1 hS C.2.2.2.1 (C.2.2.2.2.1 _ hlk) (fun _ h => h) hd (t C H locs ls hP hS hl)
theorem r_getU {R : Room} {idx : Nat} (hd : decode M.2.1 pc = .ok (.getstatic idx, 3)) (hlk : Cond.fieldLink M.1.cls idx RX0 "PARTED_BITS" "[I" ∈ TBL) (t : V E M R g Q cells slots h (pc + 3) lv (.ref (eU E) :: st)) : V E M R g Q cells slots h pc lv st := by
  obtain ⟨p, e, s, m, args, below, meth, c0⟩ := g
  intro C H locs ls hP hS hl
  exact va_gets C.1 C.2.1 C.2.2.2.2.2.2.2.2.1.2.2.2.2.2.2.2.2.2.1 hS C.2.2.2.1 (C.2.2.2.2.1 _ hlk) (fun _ h => h) hd (t C H locs ls hP hS hl)
theorem r_Tald {R : Room} {i : Int32} (hd : decode M.2.1 pc = .ok (.iaload, 1)) (hi : vp_in i 13) (t : V E M R g Q cells slots h (pc + 1) lv (.int (BITS.getD i.toNatClampNeg 0) :: st)) : V E M R g Q cells slots h pc lv (.int i :: .ref (eT E) :: st) := by
  obtain ⟨p, e, s, m, args, below, meth, c0⟩ := g
  intro C H locs ls hP hS hl
  exact va_ti C.1 C.2.1 C.2.2.2.2.2.2.2.2.1.2.2.2.2.2.2.2.2.1.2 hS hi rfl hd (t C H locs ls hP hS hl)
theorem r_Uald {R : Room} {i : Int32} (hd : decode M.2.1 pc = .ok (.iaload, 1)) (hi : vp_in i 13) (t : V E M R g Q cells slots h (pc + 1) lv (.int (PBITS.getD i.toNatClampNeg 0) :: st)) : V E M R g Q cells slots h pc lv (.int i :: .ref (eU E) :: st) := by
  obtain ⟨p, e, s, m, args, below, meth, c0⟩ := g
  intro C H locs ls hP hS hl
  exact va_ti C.1 C.2.1 C.2.2.2.2.2.2.2.2.1.2.2.2.2.2.2.2.2.2.2 hS hi rfl hd (t C H locs ls hP hS hl)
theorem r_copy {idx c1 c2 n1 n2 : Nat} {sp dp n : Int32} (hd : decode M.2.1 pc = .ok (.invokestatic idx, 3)) (hlk : Cond.methodLink M.1.cls idx arraycopyName ∈ TBL) (hnat : Cond.native arraycopyName ∈ TBL) (hstat : Cond.static arraycopyName ∈ TBL) (hini : Cond.initialized "java/lang/System" ∈ TBL) (hc1 : lay[c1]? = some (.inr (0, n1))) (hc2 : lay[c2]? = some (.inr (0, n2))) (h1 : ¬ sp < 0) (h2 : ¬ dp < 0) (h3 : ¬ n < 0) (h4 : sp.toNatClampNeg + n.toNatClampNeg ≤ n1) (h5 : dp.toNatClampNeg + n.toNatClampNeg ≤ n2) (hw : (st.map fun v => v.category).sum ≤ 8) (t : V E M (RM (d + 1) k) g Q cells slots (sA h c2 (va_cpy (h.1 c1) (h.1 c2) sp.toNatClampNeg dp.toNatClampNeg n.toNatClampNeg)) (pc + 3) lv st) : V E M (RM (d + 1) k) g Q cells slots h pc lv (.int n :: .int dp :: .ref (eA E c2) :: .int sp :: .ref (eA E c1) :: st) := by
  obtain ⟨p, e, s, m, args, below, meth, c0⟩ := g
  intro C H locs ls hP hS hl
  have ha1 : (wl E h)[c1]? = some (eA E c1, .inl (eC E 0, n1, .inl (h.1 c1))) := wl_at hc1
  have ha2 : (wl E h)[c2]? = some (eA E c2, .inl (eC E 0, n2, .inl (h.1 c2))) := wl_at hc2
  refine va_copyi C.1 C.2.1 (C.2.2.1.trans hl.1.symm) C.2.2.2.1 (C.2.2.2.2.1 _ hlk) (C.2.2.2.2.1 _ hnat) (C.2.2.2.2.1 _ hstat) (C.2.2.2.2.1 _ hini) C.2.2.2.2.2.2.2.2.1.1 hP (C.2.2.2.2.2.2.2.1.D h) hS c1 c2 0 0 ha1 ha2 rfl rfl rfl h1 h2 h3 h4 h5 (fun i hi => rfl) (Nat.le_add_left 1 d) ?_ hd (fun H1 locs1 hP1 hD1 hS1 => ?_)
  · have hq : nativeFrameWords "java/lang/System" "arraycopy" 5 + 11 ≤ 32 := by decide
    show _ ≤ 40 * (d + 1)
    omega
  · rw [wl_set (h' := sA h c2 (va_cpy (h.1 c1) (h.1 c2) sp.toNatClampNeg dp.toNatClampNeg n.toNatClampNeg)) hc2 _ (by simp [cE, sA, va_up_self]) cE_sA] at hP1
    exact t C H1 locs1 ls hP1 hS1 hl
end CALLS
