/-! constructors: a world that grows -/
/-- the machine inside a constructor -/
def CxK (E : En) (M : Mt) (g : Ga) : Prop := match g with
  | (p, _, s, m, args, _, meth, c) => p.tables.exec = Jvm.exec ∧ c.code = M.2.1 ∧ c.maxLocals = M.2.2.1 ∧ s.vm.findClass M.1.cls = some m.cls ∧ (∀ w ∈ TBL, w.before args s = true) ∧ meth.locks = false ∧ meth.sig.returnType = M.2.2.2 ∧ meth.name = M.1.name ∧ va_K (eD E) vwCl (tysE E) s
def VP (E : En) (A : Nat → Prop) (M : Mt) (R : Room) (g : Ga) (Q : State → Prop) (cells slots : Nat) (ws : va_W) (pc : Nat) (lv : List (Nat × Value)) (st : List Value) : Prop := match g with
  | (p, e, s, m, args, below, meth, c) => CxK E M (p, e, s, m, args, below, meth, c) → (∀ q, s.heap.size ≤ q → A q) → ∀ (H : Heap) (locs : List Loc) (ls : Array Slot), va_P (eD E) vwCl ws H → va_D A ws → va_S A s.heap H locs → lv_has ls M.2.2.1 lv → W p (eL E) e R s m args below meth c H locs cells slots Q (F0 m pc ls st)
def RC (d c s : Nat) : Room := { frames := d, cells := c, slots := s, locals := 40 * d }
def SpC (E : En) (d mc ms : Nat) (M : Mt) (e0 : va_E) (tg : Nat → (Nat → Nat) → va_W) : Prop := ∀ (a sz : Nat), Met (eL E) M.1 (wsM M) (RC d mc ms) (va_Pc [.ref a] (fun U => U.heap.size = sz ∧ va_P (eD E) vwCl [(a, e0)] U.heap ∧ va_K (eD E) vwCl (tysE E) U ∧ va_D (fun _ => True) [(a, e0)])) (va_Qv (fun (_ : Nat → Nat) => True) (fun ad t => va_P (eD E) vwCl (tg a ad) t.heap ∧ va_D (va_A [(a, e0)] sz) (tg a ad)) (va_A [(a, e0)] sz)) mc ms (va_A [(a, e0)] sz)
theorem oi_i : Cond.instanceMethod objectInit ∈ TBL := tb1 34 rfl rfl
theorem oi_c : Cond.code objectInit ⟨#[0xb1]⟩ 1 none ∈ TBL := tb1 35 rfl rfl
theorem va_nd_range (n : Nat) : va_nd (List.range n) = true := by
  have key : ∀ (l : List Nat), l.Nodup → va_nd l = true := by
    intro l
    induction l with
    | nil => intro _; rfl
    | cons a l ih =>
      intro h
      rw [List.nodup_cons] at h
      simp only [va_nd, Bool.and_eq_true]
      refine ⟨?_, ih h.2⟩
      simpa using h.1
  exact key _ List.nodup_range
section CTOR
variable {E : En} {A : Nat → Prop} {M M' : Mt} {R : Room} {g : Ga} {Q : State → Prop} {cells slots d : Nat} {ws ws' : va_W} {pc : Nat} {lv lv' : List (Nat × Value)} {st : List Value}
theorem p_aload_n {k : Fin 4} {i q : Nat} {x : Nat} (hd : decode M.2.1 pc = .ok (.aload_n k, 1)) (hi : (k : Nat) = i) (hk : lv[q]? = some (i, .ref x)) (t : VP E A M R g Q cells slots ws (pc + 1) lv (.ref x :: st)) : VP E A M R g Q cells slots ws pc lv st := by
  obtain ⟨p, e, s, m, args, below, meth, c0⟩ := g
  intro C hA H locs ls hP hD hS hl
  exact lv_aload_n C.1 C.2.1 hd hi (lv_at hl q hk) (t C hA H locs ls hP hD hS hl)
theorem p_dup {va : Value} (hd : decode M.2.1 pc = .ok (.dup, 1)) (hc : va.category = 1) (t : VP E A M R g Q cells slots ws (pc + 1) lv (va :: va :: st)) : VP E A M R g Q cells slots ws pc lv (va :: st) := by
  obtain ⟨p, e, s, m, args, below, meth, c0⟩ := g
  intro C hA H locs ls hP hD hS hl
  exact lv_dup C.1 C.2.1 hd hc (t C hA H locs ls hP hD hS hl)
theorem p_iconst {n : Int} {v : Int32} (hd : decode M.2.1 pc = .ok (.iconst n, 1)) (hv : Int32.ofInt n = v) (t : VP E A M R g Q cells slots ws (pc + 1) lv (.int v :: st)) : VP E A M R g Q cells slots ws pc lv st := by
  obtain ⟨p, e, s, m, args, below, meth, c0⟩ := g
  intro C hA H locs ls hP hD hS hl
  exact lv_iconst C.1 C.2.1 hd hv (t C hA H locs ls hP hD hS hl)
theorem p_bipush {n : Int} {v : Int32} (hd : decode M.2.1 pc = .ok (.bipush n, 2)) (hv : (Int8.ofInt n).toInt32 = v) (t : VP E A M R g Q cells slots ws (pc + 2) lv (.int v :: st)) : VP E A M R g Q cells slots ws pc lv st := by
  obtain ⟨p, e, s, m, args, below, meth, c0⟩ := g
  intro C hA H locs ls hP hD hS hl
  exact lv_bipush C.1 C.2.1 hd hv (t C hA H locs ls hP hD hS hl)
theorem p_sipush {n : Int} {v : Int32} (hd : decode M.2.1 pc = .ok (.sipush n, 3)) (hv : (Int16.ofInt n).toInt32 = v) (t : VP E A M R g Q cells slots ws (pc + 3) lv (.int v :: st)) : VP E A M R g Q cells slots ws pc lv st := by
  obtain ⟨p, e, s, m, args, below, meth, c0⟩ := g
  intro C hA H locs ls hP hD hS hl
  exact lv_sipush C.1 C.2.1 hd hv (t C hA H locs ls hP hD hS hl)
theorem p_lconst {n : Fin 2} {v : Int64} (hd : decode M.2.1 pc = .ok (.lconst n, 1)) (hv : Int64.ofNat (n : Nat) = v) (t : VP E A M R g Q cells slots ws (pc + 1) lv (.long v :: st)) : VP E A M R g Q cells slots ws pc lv st := by
  obtain ⟨p, e, s, m, args, below, meth, c0⟩ := g
  intro C hA H locs ls hP hD hS hl
  exact lv_lconst C.1 C.2.1 hd hv (t C hA H locs ls hP hD hS hl)
theorem p_obj {idx a : Nat} (hd : decode M.2.1 pc = .ok (.invokespecial idx, 3)) (hlk : Cond.methodLink M.1.cls idx objectInit ∈ TBL) (hf : 1 ≤ R.frames) (hw : (st.map fun v => v.category).sum + 12 ≤ R.locals) (t : VP E A M R g Q cells slots ws (pc + 3) lv st) : VP E A M R g Q cells slots ws pc lv (.ref a :: st) := by
  obtain ⟨p, e, s, m, args, below, meth, c0⟩ := g
  intro C hA H locs ls hP hD hS hl
  exact W.objInit C.1 C.2.1 C.2.2.2.1 (C.2.2.2.2.1 _ hlk) (C.2.2.2.2.1 _ oi_i) (C.2.2.2.2.1 _ oi_c) rfl (by show ls.size = _; rw [C.2.2.1]; exact hl.1) rfl hd hf (by show 2 * 0 + _ + 12 ≤ _; omega) (t C hA H locs ls hP hD hS hl)
theorem p_put {q0 idx ci k a : Nat} {fs : List Value} {ty : FieldType} {v : Value} (hd : decode M.2.1 pc = .ok (.putfield idx, 3)) (hf : FL M.1.cls idx ci k ty false) (he : ws[q0]? = some (a, .inr (ci, fs))) (hn : narrow ty v = v) (hfit : fits ty v = true) (hk : k < fs.length) (hws : ws.set q0 (a, .inr (ci, fs.set k v)) = ws') (t : VP E A M R g Q cells slots ws' (pc + 3) lv st) : VP E A M R g Q cells slots ws pc lv (v :: .ref a :: st) := by
  obtain ⟨p, e, s, m, args, below, meth, c0⟩ := g
  intro C hA H locs ls hP hD hS hl
  obtain ⟨C1, T, N, tyf, ⟨k1, k2, k3, k4⟩, hkN, hlk, hty, hfin⟩ := hf
  subst hws
  exact va_put (D := eD E) (ci := ci) (C := C1) (T := T) (N := N) (ty := ty) C.1 C.2.1 C.2.2.2.2.1 k2 tyf k3 k4 C.2.2.2.1 C.2.2.2.2.2.2.2.2 hP hD hS q0 he k1 k hkN (C.2.2.2.2.1 _ hlk) (fun _ h9 => h9) hfin (by rw [k3 k hkN, hty]) hn hfit hk hd (fun H1 locs1 hP1 hD1 hS1 => t C hA H1 locs1 ls hP1 hD1 hS1 hl)
theorem p_putF {q0 idx ci k a : Nat} {fs : List Value} {ty : FieldType} {v : Value} (hd : decode M.2.1 pc = .ok (.putfield idx, 3)) (hf : FL M.1.cls idx ci k ty true) (hname : M.1.name = "<init>") (hdecl : ∀ C T N, vwCl[ci]? = some (C, T, N) → (T k).1 = M.1.cls) (he : ws[q0]? = some (a, .inr (ci, fs))) (hn : narrow ty v = v) (hfit : fits ty v = true) (hk : k < fs.length) (hws : ws.set q0 (a, .inr (ci, fs.set k v)) = ws') (t : VP E A M R g Q cells slots ws' (pc + 3) lv st) : VP E A M R g Q cells slots ws pc lv (v :: .ref a :: st) := by
  obtain ⟨p, e, s, m, args, below, meth, c0⟩ := g
  intro C hA H locs ls hP hD hS hl
  obtain ⟨C1, T, N, tyf, ⟨k1, k2, k3, k4⟩, hkN, hlk, hty, hfin⟩ := hf
  subst hws
  exact va_putF (D := eD E) (ci := ci) (C := C1) (T := T) (N := N) (ty := ty) C.1 C.2.1 C.2.2.2.2.1 k2 tyf k3 k4 C.2.2.2.1 C.2.2.2.2.2.2.2.2 hP hD hS q0 he k1 k hkN (C.2.2.2.2.1 _ hlk) (fun _ h9 => h9) hfin (C.2.2.2.2.2.2.2.1.trans hname) (hdecl _ _ _ k1) (by rw [k3 k hkN, hty]) hn hfit hk hd (fun H1 locs1 hP1 hD1 hS1 => t C hA H1 locs1 ls hP1 hD1 hS1 hl)
theorem p_new {idx ci : Nat} {C1 : String} {T : u_T} {N : Nat} {ty : Nat → FieldType} {fs : List Value} (hd : decode M.2.1 pc = .ok (.new idx, 3)) (hkc : KC ci C1 T N ty) (hcl : Cond.classLink M.1.cls idx C1 ∈ TBL) (hins : Cond.instantiable C1 N ∈ TBL) (hini : Cond.initialized C1 ∈ TBL) (hfs : ∀ j, j < N → defaultValue (ty j) = vp_V fs j) (hc : cells + 1 ≤ R.cells) (hs : slots + N ≤ R.slots) (t : ∀ q : Nat, VP E A M R g Q (cells + 1) (slots + N) (ws ++ [(q, .inr (ci, fs))]) (pc + 3) lv (.ref q :: st)) : VP E A M R g Q cells slots ws pc lv st := by
  obtain ⟨p, e, s, m, args, below, meth, c0⟩ := g
  intro C hA H locs ls hP hD hS hl
  exact va_new (D := eD E) (ci := ci) (C := C1) (T := T) (N := N) C.1 C.2.1 C.2.2.2.2.1 hkc.2.1 ty hkc.2.2.1 C.2.2.2.1 (C.2.2.2.2.1 _ hcl) (C.2.2.2.2.1 _ hins) (C.2.2.2.2.1 _ hini) C.2.2.2.2.2.2.2.2 hP hD hS hA hkc.1 hfs hc hs hd (fun q H1 hP1 hD1 hS1 => t q C hA H1 locs ls hP1 hD1 hS1 hl)
theorem p_new_i {n : Int32} {N : Nat} (hd : decode M.2.1 pc = .ok (.newarray .int, 2)) (harr : Cond.arrayClass .int ∈ TBL) (hn : ¬ n < 0) (hN : n.toNatClampNeg = N) (hb : N ≤ 60000) (hc : cells + 1 ≤ R.cells) (hs : slots + N ≤ R.slots) (t : ∀ q : Nat, VP E A M R g Q (cells + 1) (slots + N) (ws ++ [(q, .inl (eC E 0, N, .inl (fun _ => 0)))]) (pc + 2) lv (.ref q :: st)) : VP E A M R g Q cells slots ws pc lv (.int n :: st) := by
  obtain ⟨p, e, s, m, args, below, meth, c0⟩ := g
  intro C hA H locs ls hP hD hS hl
  refine va_newa (atype := .int) (ty := .int) (N' := N) (a0 := (N, .inl (fun _ => 0))) C.1 C.2.1 (C.2.2.2.2.1 _ harr) rfl C.2.2.2.2.2.2.2.2 hP hD hS hA (fun cA => by first | rfl | exact vp_cell_i _ _ _ | exact vp_cell_l _ _ _) hn hN (Nat.le_trans (Nat.mul_le_mul hb (show componentBytes .int ≤ 8 by decide)) (by decide)) hc hs hd (fun q cA H1 hK1 hP1 hD1 hS1 => ?_)
  have e1 : s.vm.findClass "[I" = some cA := va_nm_int (hK1.2 4 (cA, .int) rfl).2
  have e2 : s.vm.findClass "[I" = some (eC E 0) := va_nm_int (C.2.2.2.2.2.2.2.2.2 0 (eC E 0, .int) rfl).2
  cases Option.some.inj (e1.symm.trans e2)
  exact t q C hA H1 locs ls hP1 hD1 hS1 hl
theorem p_new_b {n : Int32} {N : Nat} (hd : decode M.2.1 pc = .ok (.newarray .byte, 2)) (harr : Cond.arrayClass .byte ∈ TBL) (hn : ¬ n < 0) (hN : n.toNatClampNeg = N) (hb : N ≤ 60000) (hc : cells + 1 ≤ R.cells) (hs : slots + N ≤ R.slots) (t : ∀ q : Nat, VP E A M R g Q (cells + 1) (slots + N) (ws ++ [(q, .inl (eC E 1, N, .inl (fun _ => 0)))]) (pc + 2) lv (.ref q :: st)) : VP E A M R g Q cells slots ws pc lv (.int n :: st) := by
  obtain ⟨p, e, s, m, args, below, meth, c0⟩ := g
  intro C hA H locs ls hP hD hS hl
  refine va_newa (atype := .byte) (ty := .byte) (N' := N) (a0 := (N, .inl (fun _ => 0))) C.1 C.2.1 (C.2.2.2.2.1 _ harr) rfl C.2.2.2.2.2.2.2.2 hP hD hS hA (fun cA => by first | rfl | exact vp_cell_i _ _ _ | exact vp_cell_l _ _ _) hn hN (Nat.le_trans (Nat.mul_le_mul hb (show componentBytes .byte ≤ 8 by decide)) (by decide)) hc hs hd (fun q cA H1 hK1 hP1 hD1 hS1 => ?_)
  have e1 : s.vm.findClass "[B" = some cA := va_nm_byte (hK1.2 4 (cA, .byte) rfl).2
  have e2 : s.vm.findClass "[B" = some (eC E 1) := va_nm_byte (C.2.2.2.2.2.2.2.2.2 1 (eC E 1, .byte) rfl).2
  cases Option.some.inj (e1.symm.trans e2)
  exact t q C hA H1 locs ls hP1 hD1 hS1 hl
theorem p_new_z {n : Int32} {N : Nat} (hd : decode M.2.1 pc = .ok (.newarray .boolean, 2)) (harr : Cond.arrayClass .boolean ∈ TBL) (hn : ¬ n < 0) (hN : n.toNatClampNeg = N) (hb : N ≤ 60000) (hc : cells + 1 ≤ R.cells) (hs : slots + N ≤ R.slots) (t : ∀ q : Nat, VP E A M R g Q (cells + 1) (slots + N) (ws ++ [(q, .inl (eC E 2, N, .inl (fun _ => 0)))]) (pc + 2) lv (.ref q :: st)) : VP E A M R g Q cells slots ws pc lv (.int n :: st) := by
  obtain ⟨p, e, s, m, args, below, meth, c0⟩ := g
  intro C hA H locs ls hP hD hS hl
  refine va_newa (atype := .boolean) (ty := .boolean) (N' := N) (a0 := (N, .inl (fun _ => 0))) C.1 C.2.1 (C.2.2.2.2.1 _ harr) rfl C.2.2.2.2.2.2.2.2 hP hD hS hA (fun cA => by first | rfl | exact vp_cell_i _ _ _ | exact vp_cell_l _ _ _) hn hN (Nat.le_trans (Nat.mul_le_mul hb (show componentBytes .boolean ≤ 8 by decide)) (by decide)) hc hs hd (fun q cA H1 hK1 hP1 hD1 hS1 => ?_)
  have e1 : s.vm.findClass "[Z" = some cA := va_nm_boolean (hK1.2 4 (cA, .boolean) rfl).2
  have e2 : s.vm.findClass "[Z" = some (eC E 2) := va_nm_boolean (C.2.2.2.2.2.2.2.2.2 2 (eC E 2, .boolean) rfl).2
  cases Option.some.inj (e1.symm.trans e2)
  exact t q C hA H1 locs ls hP1 hD1 hS1 hl
theorem p_new_l {n : Int32} {N : Nat} (hd : decode M.2.1 pc = .ok (.newarray .long, 2)) (harr : Cond.arrayClass .long ∈ TBL) (hn : ¬ n < 0) (hN : n.toNatClampNeg = N) (hb : N ≤ 60000) (hc : cells + 1 ≤ R.cells) (hs : slots + N ≤ R.slots) (t : ∀ q : Nat, VP E A M R g Q (cells + 1) (slots + N) (ws ++ [(q, .inl (eC E 3, N, .inr (.inl (fun _ => 0))))]) (pc + 2) lv (.ref q :: st)) : VP E A M R g Q cells slots ws pc lv (.int n :: st) := by
  obtain ⟨p, e, s, m, args, below, meth, c0⟩ := g
  intro C hA H locs ls hP hD hS hl
  refine va_newa (atype := .long) (ty := .long) (N' := N) (a0 := (N, .inr (.inl (fun _ => 0)))) C.1 C.2.1 (C.2.2.2.2.1 _ harr) rfl C.2.2.2.2.2.2.2.2 hP hD hS hA (fun cA => by first | rfl | exact vp_cell_i _ _ _ | exact vp_cell_l _ _ _) hn hN (Nat.le_trans (Nat.mul_le_mul hb (show componentBytes .long ≤ 8 by decide)) (by decide)) hc hs hd (fun q cA H1 hK1 hP1 hD1 hS1 => ?_)
  have e1 : s.vm.findClass "[J" = some cA := va_nm_long (hK1.2 4 (cA, .long) rfl).2
  have e2 : s.vm.findClass "[J" = some (eC E 3) := va_nm_long (C.2.2.2.2.2.2.2.2.2 3 (eC E 3, .long) rfl).2
  cases Option.some.inj (e1.symm.trans e2)
  exact t q C hA H1 locs ls hP1 hD1 hS1 hl
theorem gin_C {M : Mt} (hc : Cond.code M.1 M.2.1 M.2.2.1 M.2.2.2 ∈ TBL) : GoodIn TBL (wsM M) := by
  intro w hw
  refine TBL_good w ?_
  rcases List.mem_cons.mp hw with rfl | hw
  · exact hc
  · exact hw
theorem p_call {idx q mc ms dd : Nat} {e0 : va_E} {wr : va_W} {tg : Nat → (Nat → Nat) → va_W} (hd : decode M.2.1 pc = .ok (.invokespecial idx, 3)) (sp : SpC E dd mc ms M' e0 tg) (hlk : Cond.methodLink M.1.cls idx M'.1 ∈ TBL) (hin : Cond.instanceMethod M'.1 ∈ TBL) (hini : Cond.initialized M'.1.cls ∈ TBL) (hcode : Cond.code M'.1 M'.2.1 M'.2.2.1 M'.2.2.2 ∈ TBL) (hr : M'.2.2.2 = none) (hnm : M'.1.name = "<init>") (hdd : M'.1.cls ≠ "java/lang/invoke/MethodHandle" ∧ M'.1.cls ≠ "java/lang/invoke/VarHandle" ∧ (parseMethodDescriptor M'.1.desc).map (fun d => d.parameters.length) = some 0) (hfr : dd + 1 ≤ R.frames) (hlo : 8 + (M'.2.2.1 + 11) + 40 * dd ≤ R.locals) (hws : ws = wr ++ [(q, e0)]) (hw : (st.map fun v => v.category).sum ≤ 8) (hc : cells + mc ≤ R.cells) (hs : slots + ms ≤ R.slots) (t : ∀ ad : Nat → Nat, VP E A M R g Q (cells + mc) (slots + ms) (wr ++ tg q ad) (pc + 3) lv st) : VP E A M R g Q cells slots ws pc lv (.ref q :: st) := by
  obtain ⟨p, e, s, m, args, below, meth, c0⟩ := g
  intro C hA H locs ls hP hD hS hl
  subst hws
  have hlen : ∀ (x : Nat × va_E), (wr ++ [(q, e0)])[wr.length]? = some x → x = (q, e0) := by
    intro x hx
    rw [List.getElem?_append_right (Nat.le_refl _), Nat.sub_self] at hx
    exact (Option.some.inj hx).symm
  have hlast : (wr ++ [(q, e0)])[wr.length]? = some (q, e0) := by
    rw [List.getElem?_append_right (Nat.le_refl _), Nat.sub_self]; rfl
  have hPc : va_P (eD E) vwCl [(q, e0)] H := fun k x hx => by
    have hk : k = 0 := by have := (List.getElem?_eq_some_iff.mp hx).1; simp at this; omega
    subst hk
    cases hx
    exact hP wr.length _ hlast
  have hDc : va_D (fun _ => True) [(q, e0)] := ⟨fun i j x y hx hy _ => by
    have h1 := (List.getElem?_eq_some_iff.mp hx).1
    have h2 := (List.getElem?_eq_some_iff.mp hy).1
    simp at h1 h2; omega, fun _ _ _ => trivial⟩
  have hC : [wr.length].map (fun i => (wr ++ [(q, e0)])[i]?) = [(q, e0)].map some := by
    show [(wr ++ [(q, e0)])[wr.length]?] = [some (q, e0)]
    rw [hlast]
  have hFc : ∀ x, va_A [(q, e0)] H.size x → A x := va_free (wc := [(q, e0)]) hD hS hA [wr.length] hC
  have hR : (List.range wr.length).map (fun i => (wr ++ [(q, e0)])[i]?) = wr.map some := by
    apply List.ext_getElem?
    intro i
    rw [List.getElem?_map, List.getElem?_map]
    by_cases hi : i < wr.length
    · rw [List.getElem?_range hi]
      show some ((wr ++ [(q, e0)])[i]?) = _
      rw [List.getElem?_append_left hi, List.getElem?_eq_getElem hi]
      rfl
    · rw [List.getElem?_eq_none (by rw [List.length_range]; omega), List.getElem?_eq_none (by omega)]
      rfl
  have hnd : va_nd (List.range wr.length) = true := va_nd_range _
  have hrc : (RC dd mc ms).cells = mc := rfl
  refine va_callv (va_runI (As := []) (rest := st) (mc := mc) (ms := ms) ⟨C.1, C.2.1, C.2.2.1, C.2.2.2.1, C.2.2.2.2.1⟩ (sp q H.size) (⟨callB_of (bytes := M'.2.1) (maxL := M'.2.2.1) (ret := none) (ws' := TBL) 0 C.2.2.2.2.1 (gin_C hcode) (by rw [← hr]) rfl rfl (C.2.2.2.2.1 _ hini) (C.2.2.2.2.1 _ hlk) hdd ⟨hfr, hlo⟩, hnm, C.2.2.2.2.1 _ hin⟩) ⟨fun a U g mk q => by obtain ⟨q0, q1, qP, qK, qD⟩ := q; exact ⟨q0, q1, qP, va_K.moved (u := U) (U := U.calling g mk a) (Vm.Alike.refl U.vm) qK, qD⟩, fun U hU hW => ⟨rfl, by rw [hU], by rw [hU]; exact hPc, va_K.moved hW.alike C.2.2.2.2.2.2.2.2, hDc⟩⟩ rfl rfl hl.1 rfl (lv_room hw) hd ⟨hc, hs⟩) hS (fun x _ h => hFc x h) hFc (fun u t1 H1 locs1 ht hvm hw1 hB hz1 hk1 hS1 => ?_)
  obtain ⟨hP1, hD1⟩ := hB
  rw [ht] at hP1
  obtain ⟨hP2, hD2⟩ := va_join (wr := wr) (w1 := tg q u) hP hD [wr.length] (List.range wr.length) hC hR hnd (fun i hi hj => by
    have := List.mem_range.mp hi
    have := List.mem_singleton.mp hj
    omega) hk1 hFc hP1 hD1
  exact t u C hA H1 locs1 ls hP2 hD2 hS1 hl
theorem p_ret {e0 : va_E} {a sz : Nat} {tg : Nat → (Nat → Nat) → va_W} (ad : Nat → Nat) (hd : decode M.2.1 pc = .ok (.return_, 1)) (hr : M.2.2.2 = none) (hA9 : A = va_A [(a, e0)] sz) (hws : ws = tg a ad) : VP E A M R g (match g with | (_, _, s, _, args, below, _, _) => MQ below (va_Qv (fun (_ : Nat → Nat) => True) (fun ad t => va_P (eD E) vwCl (tg a ad) t.heap ∧ va_D (va_A [(a, e0)] sz) (tg a ad)) (va_A [(a, e0)] sz)) args s cells slots (va_A [(a, e0)] sz)) cells slots ws pc lv [] := by
  obtain ⟨p, e, s, m, args, below, meth, c0⟩ := g
  intro C hA H locs ls hP hD hS hl
  subst hws
  subst hA9
  exact W.vret C.1 C.2.1 (C.2.2.2.2.2.2.1.trans hr) (fun t ht hW => ⟨⟨ad, rfl, trivial, by rw [ht]; exact hP, hD⟩, hS.F ht⟩) hS.2.2 hd C.2.2.2.2.2.1
theorem SpC.of {mc ms : Nat} {e0 : va_E} {tg : Nat → (Nat → Nat) → va_W} (hy : plainName M.1.cls = true) (hn : 1 ≤ M.2.2.1) (t : ∀ (a sz : Nat) (A : Nat → Prop), A = va_A [(a, e0)] sz → ∀ g : Ga, VP E A M (RC d mc ms) g (match g with | (_, _, s, _, args, below, _, _) => MQ below (va_Qv (fun (_ : Nat → Nat) => True) (fun ad t => va_P (eD E) vwCl (tg a ad) t.heap ∧ va_D (va_A [(a, e0)] sz) (tg a ad)) (va_A [(a, e0)] sz)) args s mc ms (va_A [(a, e0)] sz)) 0 0 [(a, e0)] 0 [(0, .ref a)] []) : SpC E d mc ms M e0 tg := by
  intro a sz
  refine Met.ofW (cc := M.2.1) (maxL := M.2.2.1) (ret := M.2.2.2) hy rfl ?_
  intro p e s m args below meth c s₁ B hml hv
  obtain ⟨rfl, hsz, hP, hK, hD⟩ := hv
  have hts := atoms_spec (ws := wsM M) B.pre
  have hl := lv_entry ([.ref a] : List Value) (n := M.2.2.1) hn
  rw [lg_entry_eq]
  subst hsz
  exact t a s.heap.size _ rfl (p, e, s, m, _, below, meth, c) ⟨B.exec, B.bytes, hml, findClass_of_methodNamed B.named, fun w hw => hts w (List.mem_cons_of_mem _ hw), B.notSynchronized, B.returns, (name_of_methodNamed B.named B.method).1, hK⟩ (fun q hq => Or.inr hq) s.heap [] _ hP (hD.self) va_S.rf hl
end CTOR
