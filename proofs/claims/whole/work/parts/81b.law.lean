/-! THE CLAIM OUT OF ONE WALK OF THE LAW'S BODY. Your part is whole_start (and what it stands on); all else here is the same for every law, but numbers. -/
def R_law : String := "MicrocodeOptimizerLaw"
def lw_P (b : Addr) (xs : List Int32) (args : Array Value) (s : State) : Prop := args = #[.ref b] ∧ s.IntsAt b xs ∧ xs.length ≤ 3072 ∧ (Jvm.Cond.and given_1 narrow_1).before args s = true
def lw_Q (_ : Array Value) (s : State) (o : Outcome) (t : State) : Prop := o = .returned (some (.int 1)) ∧ Framed s o t [] 601024 7293034
def lw_Z (below : List Frame) (a : Array Value) (s : State) : State → Prop := fun t => ∃ o, t.status = .running ∧ Ended t below o ∧ lw_Q a s o t
/-- the law's own end, with 1 on the stack, nothing written that was there before, its room as the claim has it -/
theorem lw_ret {p : Program} {l : Launch} {e : Env} {s : State} {m : MethodId} {below : List Frame} {meth : Method} {c : Code} {b : Nat} (hx : p.tables.exec = Jvm.exec) (hb : c.code = code) (hr : meth.sig.returnType = ret) (hlocks : meth.locks = false) {pc : Nat} {H : Heap} {ls : Array Slot} (hdg : decode code pc = .ok (.ireturn, 1)) : W p l e room_1 s m #[Value.ref b] below meth c H [] 601024 7293034 (lw_Z below #[Value.ref b] s) (F0 m pc ls [.int 1]) := by
  intro T hT X
  obtain ⟨fs, hret, hrun, hended, hW, hframe⟩ := X.leave (v := some (.int 1)) (hlocks := hlocks) (fun h => by rw [hr] at h; cases h)
  have hmeth' : T.vm.method? m = some meth := X.method'
  refine ⟨T.setFrames fs, ?_, .returned (some (.int 1)), hrun, hended, rfl, ⟨_, rfl⟩, hW, hframe⟩
  jvm_step X.here [X.here.top, hx, hb, hdg, hmeth', hr, ret, narrow_b1]
  (try refine ⟨rfl, ?_⟩); (try refine ⟨rfl, ?_⟩)
  first | (intro acts; rw [hret _ acts rfl rfl rfl]) | rw [hret _ _ rfl rfl rfl]
  exact Steps.refl _
/-- what holds at the law's entry: the machine, the code, the tables' words (any of lw_tbl by 'hts w (by decide +kernel)'), the script of L ints xs at the cell b, what the Statement gives of the start (any of its parts by flat_of_before) -/
def lw_At (p : Program) (s : State) (m : MethodId) (meth : Method) (c : Code) (b L : Nat) (xs : Nat → Int32) : Prop :=
  p.tables.exec = Jvm.exec ∧ c.code = code ∧ meth.sig.returnType = ret ∧ c.maxLocals = 8 ∧ s.vm.findClass R_law = some m.cls ∧ (∀ w ∈ lw_tbl, w.before #[Value.ref b] s = true) ∧ va_X b L xs s s.heap ∧ b < s.heap.size ∧ meth.locks = false ∧ (Jvm.Cond.and given_1 narrow_1).before #[Value.ref b] s = true
abbrev ML : Mt := (x, code, 8, ret)
def LQ (g : Ga) : State → Prop := match g with
  | (_, _, s, _, args, below, _, _) => lw_Z below args s
def Scr (E : En) (g : Ga) (b L : Nat) (xs : Nat → Int32) : Prop := match g with
  | (_, _, s, _, args, _, _, _) => args = #[Value.ref b] ∧ va_X b L xs s s.heap ∧ b < s.heap.size ∧ eB E = s.heap.size
theorem gin_H {own : String} {idx : Nat} {M : Mt} {hh : List (Nat × Nat × Nat × Nat)} (hk : Cond.static M.1 ∈ TBL ∧ Cond.codeWith M.1 M.2.1 M.2.2.1 M.2.2.2 hh ∈ TBL) (hi : Cond.initialized M.1.cls ∈ TBL) (hl : Cond.methodLink own idx M.1 ∈ TBL) : GoodIn TBL (va_wsS own idx M.1 (wsH M hh)) := by
  intro w hw
  refine TBL_good w ?_
  simp only [va_wsS, List.cons_append, List.nil_append, List.mem_cons] at hw
  rcases hw with rfl | rfl | rfl | rfl | hw
  · exact hl
  · exact hk.1
  · exact hi
  · exact hk.2
  · exact hw
section LAW
variable {E : En} {M M' : Mt} {g : Ga} {Q : State → Prop} {cells slots k1 : Nat} {h : Hp} {pc : Nat} {lv lv' : List (Nat × Value)} {st st0 : List Value}
theorem q_sld {R : Room} {b L : Nat} {xs : Nat → Int32} {i v : Int32} (hX : Scr E g b L xs) (hd : decode M.2.1 pc = .ok (.iaload, 1)) (hi : vp_in i L) (hv : xs i.toNatClampNeg = v) (t : V E M R g Q cells slots h (pc + 1) lv (.int v :: st)) : V E M R g Q cells slots h pc lv (.int i :: .ref b :: st) := by
  obtain ⟨p, e, s, m, args, below, meth, c0⟩ := g
  intro C H locs ls hP hS hl
  subst hv
  obtain ⟨-, h1, h2, h3⟩ := hX
  exact va_sld C.1 C.2.1 h1 h2 (by show ¬ eB E ≤ b; rw [h3]; omega) hS hi hd (t C H locs ls hP hS hl)
theorem q_slen {R : Room} {b L : Nat} {xs : Nat → Int32} (hX : Scr E g b L xs) (hd : decode M.2.1 pc = .ok (.arraylength, 1)) (t : V E M R g Q cells slots h (pc + 1) lv (.int (Int32.ofNat L) :: st)) : V E M R g Q cells slots h pc lv (.ref b :: st) := by
  obtain ⟨p, e, s, m, args, below, meth, c0⟩ := g
  intro C H locs ls hP hS hl
  obtain ⟨-, h1, h2, h3⟩ := hX
  exact va_slen C.1 C.2.1 h1 h2 (by show ¬ eB E ≤ b; rw [h3]; omega) hS hd (t C H locs ls hP hS hl)
theorem q_widen {R : Room} {k n : Nat} (h1 : cells ≤ k) (h2 : slots ≤ n) (t : V E M R g Q k n h pc lv st) : V E M R g Q cells slots h pc lv st := by
  obtain ⟨p, e, s, m, args, below, meth, c0⟩ := g
  intro C H locs ls hP hS hl
  exact W.widen h1 h2 (t C H locs ls hP hS hl)
theorem q_cVI {idx n c ci : Nat} {As : List Value} {fk : List (Nat × Nat)} {qc : vw_C} {P : Int32 → Hp → Prop} (hd : decode M.2.1 pc = .ok (.invokevirtual idx, 3)) (hk : MKV M' n) (hlk : Cond.methodLink M.1.cls idx M'.1 ∈ TBL) (hc : lay[c]? = some (.inl (ci, fk))) (hci : vwCl[ci]? = some qc) (hcn : qc.1 = M'.1.cls) (hn : As.length = n) (hmx : M'.2.2.1 ≤ 21) (hst : st0 = As.reverse ++ .ref (eA E c) :: st) (hw : (st.map fun v => v.category).sum ≤ 8) (hcs : cells + 8 ≤ 601024 ∧ slots + 48 ≤ 7293034)
    (sp : SpI E 200 M' (.ref (eA E c) :: As) h P) (t : ∀ (v : Int32) (h' : Hp), P v h' → V E M room_1 g Q cells slots h' (pc + 3) lv (.int v :: st)) : V E M room_1 g Q cells slots h pc lv st0 := by
  obtain ⟨p, e, s, m, args, below, meth, c0⟩ := g
  intro C H locs ls hP hS hl
  subst hst
  have hrecv := va_recv C.2.2.2.2.2.2.2.2.1.1 hP hci (wl_at hc)
  rw [hcn] at hrecv
  refine va_calli (va_runV (As := As) (rest := st) (mc := 0) (ms := 0) ⟨C.1, C.2.1, C.2.2.1, C.2.2.2.1, C.2.2.2.2.1⟩ sp (cwV n C.2.2.2.2.1 (gin_V hk hlk) rfl rfl rfl ⟨rfl, hk.2.2.2.2.1⟩ ⟨by decide, by show 8 + (M'.2.2.1 + 11) + 40 * 200 ≤ 84000; omega⟩) ⟨Pre_blind, hrecv, pre_at C hP hS⟩ rfl hn hl.1 rfl (lv_room hw) hd ⟨by show cells + 0 ≤ 601024; omega, by show slots + 0 ≤ 7293034; omega⟩) hS (fun _ _ q => q) (fun _ q => q) (fun r u t1 H1 locs1 ht hvm hw1 hB hz1 hk1 hS1 => ?_)
  exact t r u hw1 C H1 locs1 ls (by rw [← ht]; exact hB) hS1 hl
theorem q_cVL {idx n c ci : Nat} {As : List Value} {fk : List (Nat × Nat)} {qc : vw_C} {P : Int64 → Hp → Prop} (hd : decode M.2.1 pc = .ok (.invokevirtual idx, 3)) (hk : MKV M' n) (hlk : Cond.methodLink M.1.cls idx M'.1 ∈ TBL) (hc : lay[c]? = some (.inl (ci, fk))) (hci : vwCl[ci]? = some qc) (hcn : qc.1 = M'.1.cls) (hn : As.length = n) (hmx : M'.2.2.1 ≤ 21) (hst : st0 = As.reverse ++ .ref (eA E c) :: st) (hw : (st.map fun v => v.category).sum ≤ 8) (hcs : cells + 8 ≤ 601024 ∧ slots + 48 ≤ 7293034)
    (sp : SpL E 200 M' (.ref (eA E c) :: As) h P) (t : ∀ (v : Int64) (h' : Hp), P v h' → V E M room_1 g Q cells slots h' (pc + 3) lv (.long v :: st)) : V E M room_1 g Q cells slots h pc lv st0 := by
  obtain ⟨p, e, s, m, args, below, meth, c0⟩ := g
  intro C H locs ls hP hS hl
  subst hst
  have hrecv := va_recv C.2.2.2.2.2.2.2.2.1.1 hP hci (wl_at hc)
  rw [hcn] at hrecv
  refine va_calll (va_runV (As := As) (rest := st) (mc := 0) (ms := 0) ⟨C.1, C.2.1, C.2.2.1, C.2.2.2.1, C.2.2.2.2.1⟩ sp (cwV n C.2.2.2.2.1 (gin_V hk hlk) rfl rfl rfl ⟨rfl, hk.2.2.2.2.1⟩ ⟨by decide, by show 8 + (M'.2.2.1 + 11) + 40 * 200 ≤ 84000; omega⟩) ⟨Pre_blind, hrecv, pre_at C hP hS⟩ rfl hn hl.1 rfl (lv_room hw) hd ⟨by show cells + 0 ≤ 601024; omega, by show slots + 0 ≤ 7293034; omega⟩) hS (fun _ _ q => q) (fun _ q => q) (fun r u t1 H1 locs1 ht hvm hw1 hB hz1 hk1 hS1 => ?_)
  exact t r u hw1 C H1 locs1 ls (by rw [← ht]; exact hB) hS1 hl
theorem q_cVS {idx n c ci : Nat} {As : List Value} {fk : List (Nat × Nat)} {qc : vw_C} {P : Int32 → En → Hp → Prop} (hd : decode M.2.1 pc = .ok (.invokevirtual idx, 3)) (hk : MKV M' n) (hlk : Cond.methodLink M.1.cls idx M'.1 ∈ TBL) (hc : lay[c]? = some (.inl (ci, fk))) (hci : vwCl[ci]? = some qc) (hcn : qc.1 = M'.1.cls) (hn : As.length = n) (hmx : M'.2.2.1 ≤ 21) (hst : st0 = As.reverse ++ .ref (eA E c) :: st) (hw : (st.map fun v => v.category).sum ≤ 8) (hcs : cells + 8 ≤ 601024 ∧ slots + 48 ≤ 7293034)
    (sp : SpS E 200 M' (.ref (eA E c) :: As) h P) (t : ∀ (v : Int32) (E' : En) (h' : Hp), P v E' h' → (E' = E ∨ E' = swE E) → V E' M room_1 g Q cells slots h' (pc + 3) lv (.int v :: st)) : V E M room_1 g Q cells slots h pc lv st0 := by
  obtain ⟨p, e, s, m, args, below, meth, c0⟩ := g
  intro C H locs ls hP hS hl
  subst hst
  have hrecv := va_recv C.2.2.2.2.2.2.2.2.1.1 hP hci (wl_at hc)
  rw [hcn] at hrecv
  refine va_calli (va_runV (As := As) (rest := st) (mc := 0) (ms := 0) ⟨C.1, C.2.1, C.2.2.1, C.2.2.2.1, C.2.2.2.2.1⟩ sp (cwV n C.2.2.2.2.1 (gin_V hk hlk) rfl rfl rfl ⟨rfl, hk.2.2.2.2.1⟩ ⟨by decide, by show 8 + (M'.2.2.1 + 11) + 40 * 200 ≤ 84000; omega⟩) ⟨Pre_blind, hrecv, pre_at C hP hS⟩ rfl hn hl.1 rfl (lv_room hw) hd ⟨by show cells + 0 ≤ 601024; omega, by show slots + 0 ≤ 7293034; omega⟩) hS (fun _ _ q => q) (fun _ q => q) (fun r u t1 H1 locs1 ht hvm hw1 hB hz1 hk1 hS1 => ?_)
  obtain ⟨E2, h2⟩ := u
  rcases hw1.2 with rfl | rfl
  · exact t r _ h2 hw1.1 (Or.inl rfl) C H1 locs1 ls (by rw [← ht]; exact hB) hS1 hl
  · exact t r _ h2 hw1.1 (Or.inr rfl) (Cx_sw C) H1 locs1 ls (by rw [← ht]; exact hB) hS1 hl
theorem q_hS {idx n : Nat} {As : List Value} {hh : List (Nat × Nat × Nat × Nat)} {P : Int32 → Hp → Prop} (hd : decode M.2.1 pc = .ok (.invokestatic idx, 3)) (hk : Cond.static M'.1 ∈ TBL ∧ Cond.codeWith M'.1 M'.2.1 M'.2.2.1 M'.2.2.2 hh ∈ TBL) (hi : Cond.initialized M'.1.cls ∈ TBL) (hlk : Cond.methodLink M.1.cls idx M'.1 ∈ TBL) (hdd : M'.1.cls ≠ "java/lang/invoke/MethodHandle" ∧ M'.1.cls ≠ "java/lang/invoke/VarHandle" ∧ (parseMethodDescriptor M'.1.desc).map (fun d => d.parameters.length) = some n) (hn : As.length = n) (hmx : M'.2.2.1 ≤ 21) (hst : st0 = As.reverse ++ st) (hw : (st.map fun v => v.category).sum ≤ 8) (hcs : cells + 8 ≤ 601024 ∧ slots + 48 ≤ 7293034) (h8 : k1 ≤ 8)
    (sp : SpH E 200 k1 M' hh As h P) (t : ∀ (v : Int32) (h' : Hp), P v h' → V E M room_1 g Q (cells + k1) (slots + 6 * k1) h' (pc + 3) lv (.int v :: st)) : V E M room_1 g Q cells slots h pc lv st0 := by
  obtain ⟨p, e, s, m, args, below, meth, c0⟩ := g
  intro C H locs ls hP hS hl
  subst hst
  refine va_calli (vx_runSW (As := As) (rest := st) (mc := k1) (ms := 6 * k1) ⟨C.1, C.2.1, C.2.2.1, C.2.2.2.1, C.2.2.2.2.1⟩ sp (vx_cwSW n C.2.2.2.2.1 (gin_H hk hi hlk) rfl rfl rfl hdd ⟨by show 200 + 1 ≤ 2048; decide, by show 8 + (M'.2.2.1 + 11) + 40 * 200 ≤ 84000; omega⟩) ⟨Pre_blind, pre_at C hP hS⟩ rfl hn hl.1 rfl (lv_room hw) hd ⟨by show cells + k1 ≤ 601024; omega, by show slots + 6 * k1 ≤ 7293034; omega⟩) hS (fun _ _ q => q) (fun _ q => q) (fun r u t1 H1 locs1 ht hvm hw1 hB hz1 hk1 hS1 => ?_)
  exact t r u hw1 C H1 locs1 ls (by rw [← ht]; exact hB) hS1 hl
end LAW
abbrev VL (E : En) (g : Ga) (b : Nat) (x4 : Int32) (cells slots : Nat) (h : Hp) : Prop := V E ML room_1 g (LQ g) cells slots h 1895 [(0, .ref b), (1, .ref (eA E 0)), (2, .ref (eA E 63)), (3, .ref (eA E 98)), (4, .int x4)] []
theorem inRL : Cond.initialized RL ∈ TBL := tb1 0 rfl rfl
theorem lh_123 : Cond.methodLink RL 123 yL_outputByte ∈ TBL := tb4 126 rfl rfl
theorem lh_140 : Cond.methodLink RL 140 yL_operation ∈ TBL := tb4 202 rfl rfl
theorem lh_144 : Cond.methodLink RL 144 yL_length ∈ TBL := tb5 11 rfl rfl
theorem lh_147 : Cond.methodLink RL 147 yL_operationAt ∈ TBL := tb5 23 rfl rfl
theorem lh_150 : Cond.methodLink RL 150 yL_hasMark ∈ TBL := tb5 35 rfl rfl
theorem lh_153 : Cond.methodLink RL 153 yL_dependence ∈ TBL := tb5 42 rfl rfl
theorem lh_157 : Cond.methodLink RL 157 yL_setMode ∈ TBL := tb5 51 rfl rfl
theorem lh_164 : Cond.methodLink RL 164 yL_setMark ∈ TBL := tb5 63 rfl rfl
theorem lh_172 : Cond.methodLink RL 172 yL_wordCount ∈ TBL := tb5 93 rfl rfl
theorem lh_175 : Cond.methodLink RL 175 yL_word ∈ TBL := tb5 100 rfl rfl
theorem lh_178 : Cond.methodLink RL 178 yL_chain ∈ TBL := tb5 108 rfl rfl
theorem lh_181 : Cond.methodLink RL 181 yL_latency ∈ TBL := tb5 115 rfl rfl
theorem lh_188 : Cond.methodLink RL 188 yL_entry ∈ TBL := tb5 122 rfl rfl
theorem lh_191 : Cond.methodLink RL 191 yL_store ∈ TBL := tb5 129 rfl rfl
theorem lh_202 : Cond.methodLink RL 202 yL_fieldOf ∈ TBL := tb5 146 rfl rfl
theorem lh_205 : Cond.methodLink RL 205 yL_codeOf ∈ TBL := tb5 153 rfl rfl
theorem lh_208 : Cond.methodLink RL 208 yL_control ∈ TBL := tb5 160 rfl rfl
theorem lh_211 : Cond.methodLink RL 211 yL_setRegister ∈ TBL := tb5 171 rfl rfl
theorem lh_214 : Cond.methodLink RL 214 yL_register ∈ TBL := tb5 183 rfl rfl
theorem lh_217 : Cond.methodLink RL 217 yL_runSource ∈ TBL := tb5 190 rfl rfl
theorem lh_220 : Cond.methodLink RL 220 yL_start ∈ TBL := tb5 212 rfl rfl
theorem lh_223 : Cond.methodLink RL 223 yL_resume ∈ TBL := tb5 228 rfl rfl
theorem lh_231 : Cond.methodLink RL 231 yL_agrees ∈ TBL := tb5 236 rfl rfl
def Tc0 (E : En) (a1 : Int32) (a2 : Int32) (a3 : Int32) (a4 : Int32) (a5 : Int32) (h : Hp) (K : En → Hp → Prop) : Prop := SpI E 200 MX9_append [.ref (eA E 0), .int a1, .int a2, .int a3, .int a4, .int a5] h (fun v1 h1 => SpI E 200 MX10_append [.ref (eA E 63), .int a1, .int a2, .int a3, .int a4, .int a5] h1 (fun v2 h2 => (v1 = v2 → (K E h2)) ∧ (¬ v1 = v2 → (False))))
set_option maxRecDepth 20000 in
theorem law_c0 {E : En} {g : Ga} {b L : Nat} {xs : Nat → Int32} {x4 : Int32} {h : Hp} {cells slots : Nat} (hX : Scr E g b L xs) {a1 : Int32} (s1 : vp_in (x4 + (1 : Int32)) L) (e1 : xs (x4 + (1 : Int32)).toNatClampNeg = a1) {a2 : Int32} (s2 : vp_in (x4 + (2 : Int32)) L) (e2 : xs (x4 + (2 : Int32)).toNatClampNeg = a2) {a3 : Int32} (s3 : vp_in (x4 + (3 : Int32)) L) (e3 : xs (x4 + (3 : Int32)).toNatClampNeg = a3) {a4 : Int32} (s4 : vp_in (x4 + (4 : Int32)) L) (e4 : xs (x4 + (4 : Int32)).toNatClampNeg = a4) {a5 : Int32} (s5 : vp_in (x4 + (5 : Int32)) L) (e5 : xs (x4 + (5 : Int32)).toNatClampNeg = a5) (hcs : cells + 8 ≤ 601024 ∧ slots + 48 ≤ 7293034) (t : Tc0 E a1 a2 a3 a4 a5 h (fun E2 h2 => VL E2 g b x4 (cells + 0) (slots + 6 * 0) h2)) : V E ML room_1 g (LQ g) cells slots h 204 [(0, .ref b), (1, .ref (eA E 0)), (2, .ref (eA E 63)), (3, .ref (eA E 98)), (4, .int x4)] [] := by
  unfold Tc0 at t
  refine r_aload_n (q := 1) dL_law_204 rfl rfl ?_
  refine r_aload_n (q := 0) dL_law_205 rfl rfl ?_
  refine r_iload (q := 4) dL_law_206 rfl ?_
  refine r_iconst (v := (1 : Int32)) dL_law_208 rfl ?_
  refine r_iadd dL_law_209 ?_
  refine q_sld hX dL_law_210 s1 e1 ?_
  refine r_aload_n (q := 0) dL_law_211 rfl rfl ?_
  refine r_iload (q := 4) dL_law_212 rfl ?_
  refine r_iconst (v := (2 : Int32)) dL_law_214 rfl ?_
  refine r_iadd dL_law_215 ?_
  refine q_sld hX dL_law_216 s2 e2 ?_
  refine r_aload_n (q := 0) dL_law_217 rfl rfl ?_
  refine r_iload (q := 4) dL_law_218 rfl ?_
  refine r_iconst (v := (3 : Int32)) dL_law_220 rfl ?_
  refine r_iadd dL_law_221 ?_
  refine q_sld hX dL_law_222 s3 e3 ?_
  refine r_aload_n (q := 0) dL_law_223 rfl rfl ?_
  refine r_iload (q := 4) dL_law_224 rfl ?_
  refine r_iconst (v := (4 : Int32)) dL_law_226 rfl ?_
  refine r_iadd dL_law_227 ?_
  refine q_sld hX dL_law_228 s4 e4 ?_
  refine r_aload_n (q := 0) dL_law_229 rfl rfl ?_
  refine r_iload (q := 4) dL_law_230 rfl ?_
  refine r_iconst (v := (5 : Int32)) dL_law_232 rfl ?_
  refine r_iadd dL_law_233 ?_
  refine q_sld hX dL_law_234 s5 e5 ?_
  refine q_cVI (c := 0) (As := [.int a1, .int a2, .int a3, .int a4, .int a5]) dL_law_235 mkX9_append lkL_98 lay_0 rfl rfl rfl (by decide) rfl (Nat.le_of_ble_eq_true rfl) hcs t ?_
  intro v1 h1 t
  refine r_aload_n (q := 2) dL_law_238 rfl rfl ?_
  refine r_aload_n (q := 0) dL_law_239 rfl rfl ?_
  refine r_iload (q := 4) dL_law_240 rfl ?_
  refine r_iconst (v := (1 : Int32)) dL_law_242 rfl ?_
  refine r_iadd dL_law_243 ?_
  refine q_sld hX dL_law_244 s1 e1 ?_
  refine r_aload_n (q := 0) dL_law_245 rfl rfl ?_
  refine r_iload (q := 4) dL_law_246 rfl ?_
  refine r_iconst (v := (2 : Int32)) dL_law_248 rfl ?_
  refine r_iadd dL_law_249 ?_
  refine q_sld hX dL_law_250 s2 e2 ?_
  refine r_aload_n (q := 0) dL_law_251 rfl rfl ?_
  refine r_iload (q := 4) dL_law_252 rfl ?_
  refine r_iconst (v := (3 : Int32)) dL_law_254 rfl ?_
  refine r_iadd dL_law_255 ?_
  refine q_sld hX dL_law_256 s3 e3 ?_
  refine r_aload_n (q := 0) dL_law_257 rfl rfl ?_
  refine r_iload (q := 4) dL_law_258 rfl ?_
  refine r_iconst (v := (4 : Int32)) dL_law_260 rfl ?_
  refine r_iadd dL_law_261 ?_
  refine q_sld hX dL_law_262 s4 e4 ?_
  refine r_aload_n (q := 0) dL_law_263 rfl rfl ?_
  refine r_iload (q := 4) dL_law_264 rfl ?_
  refine r_iconst (v := (5 : Int32)) dL_law_266 rfl ?_
  refine r_iadd dL_law_267 ?_
  refine q_sld hX dL_law_268 s5 e5 ?_
  refine q_cVI (c := 63) (As := [.int a1, .int a2, .int a3, .int a4, .int a5]) dL_law_269 mkX10_append lkL_102 lay_63 rfl rfl rfl (by decide) rfl (Nat.le_of_ble_eq_true rfl) hcs t ?_
  intro v2 h2 t
  refine r_icmp_eq (tgt := 1895) dL_law_272 (by decide) (fun q3 => ?_) (fun q3 => ?_)
  · have t := t.1 q3
    refine r_sub [0, 1, 2, 3, 4] rfl ?_
    exact t
  · have t := t.2 q3
    refine r_iconst (v := (0 : Int32)) dL_law_275 rfl ?_
    exact t.elim
def Tc1 (E : En) (a1 : Int32) (h : Hp) (K : En → Hp → Prop) : Prop := SpI E 200 MX9_truncate [.ref (eA E 0), .int a1] h (fun v1 h1 => SpI E 200 MX10_truncate [.ref (eA E 63), .int a1] h1 (fun v2 h2 => (v1 = v2 → (K E h2)) ∧ (¬ v1 = v2 → (False))))
set_option maxRecDepth 20000 in
theorem law_c1 {E : En} {g : Ga} {b L : Nat} {xs : Nat → Int32} {x4 : Int32} {h : Hp} {cells slots : Nat} (hX : Scr E g b L xs) {a1 : Int32} (s1 : vp_in (x4 + (1 : Int32)) L) (e1 : xs (x4 + (1 : Int32)).toNatClampNeg = a1) (hcs : cells + 8 ≤ 601024 ∧ slots + 48 ≤ 7293034) (t : Tc1 E a1 h (fun E2 h2 => VL E2 g b x4 (cells + 0) (slots + 6 * 0) h2)) : V E ML room_1 g (LQ g) cells slots h 277 [(0, .ref b), (1, .ref (eA E 0)), (2, .ref (eA E 63)), (3, .ref (eA E 98)), (4, .int x4)] [] := by
  unfold Tc1 at t
  refine r_aload_n (q := 1) dL_law_277 rfl rfl ?_
  refine r_aload_n (q := 0) dL_law_278 rfl rfl ?_
  refine r_iload (q := 4) dL_law_279 rfl ?_
  refine r_iconst (v := (1 : Int32)) dL_law_281 rfl ?_
  refine r_iadd dL_law_282 ?_
  refine q_sld hX dL_law_283 s1 e1 ?_
  refine q_cVI (c := 0) (As := [.int a1]) dL_law_284 mkX9_truncate lkL_103 lay_0 rfl rfl rfl (by decide) rfl (Nat.le_of_ble_eq_true rfl) hcs t ?_
  intro v1 h1 t
  refine r_aload_n (q := 2) dL_law_287 rfl rfl ?_
  refine r_aload_n (q := 0) dL_law_288 rfl rfl ?_
  refine r_iload (q := 4) dL_law_289 rfl ?_
  refine r_iconst (v := (1 : Int32)) dL_law_291 rfl ?_
  refine r_iadd dL_law_292 ?_
  refine q_sld hX dL_law_293 s1 e1 ?_
  refine q_cVI (c := 63) (As := [.int a1]) dL_law_294 mkX10_truncate lkL_106 lay_63 rfl rfl rfl (by decide) rfl (Nat.le_of_ble_eq_true rfl) hcs t ?_
  intro v2 h2 t
  refine r_icmp_eq (tgt := 1895) dL_law_297 (by decide) (fun q3 => ?_) (fun q3 => ?_)
  · have t := t.1 q3
    refine r_sub [0, 1, 2, 3, 4] rfl ?_
    exact t
  · have t := t.2 q3
    refine r_iconst (v := (0 : Int32)) dL_law_300 rfl ?_
    exact t.elim
def Tc2 (E : En) (h : Hp) (K : En → Hp → Prop) : Prop := SpI E 200 MX9_bufferLength [.ref (eA E 0)] h (fun v1 h1 => SpI E 200 MX10_bufferLength [.ref (eA E 63)] h1 (fun v2 h2 => (v1 = v2 → (K E h2)) ∧ (¬ v1 = v2 → (False))))
set_option maxRecDepth 20000 in
theorem law_c2 {E : En} {g : Ga} {b L : Nat} {xs : Nat → Int32} {x4 : Int32} {h : Hp} {cells slots : Nat} (hX : Scr E g b L xs) (hcs : cells + 8 ≤ 601024 ∧ slots + 48 ≤ 7293034) (t : Tc2 E h (fun E2 h2 => VL E2 g b x4 (cells + 0) (slots + 6 * 0) h2)) : V E ML room_1 g (LQ g) cells slots h 302 [(0, .ref b), (1, .ref (eA E 0)), (2, .ref (eA E 63)), (3, .ref (eA E 98)), (4, .int x4)] [] := by
  unfold Tc2 at t
  refine r_aload_n (q := 1) dL_law_302 rfl rfl ?_
  refine q_cVI (c := 0) (As := []) dL_law_303 mkX9_bufferLength lkL_107 lay_0 rfl rfl rfl (by decide) rfl (Nat.le_of_ble_eq_true rfl) hcs t ?_
  intro v1 h1 t
  refine r_aload_n (q := 2) dL_law_306 rfl rfl ?_
  refine q_cVI (c := 63) (As := []) dL_law_307 mkX10_bufferLength lkL_110 lay_63 rfl rfl rfl (by decide) rfl (Nat.le_of_ble_eq_true rfl) hcs t ?_
  intro v2 h2 t
  refine r_icmp_eq (tgt := 1895) dL_law_310 (by decide) (fun q3 => ?_) (fun q3 => ?_)
  · have t := t.1 q3
    refine r_sub [0, 1, 2, 3, 4] rfl ?_
    exact t
  · have t := t.2 q3
    refine r_iconst (v := (0 : Int32)) dL_law_313 rfl ?_
    exact t.elim
def Tc3 (E : En) (h : Hp) (K : En → Hp → Prop) : Prop := SpS E 200 MX9_load [.ref (eA E 0)] h (fun v1 E2 h1 => SpI E2 200 MX10_load [.ref (eA E2 63)] h1 (fun v2 h2 => (v1 = v2 → (K E2 h2)) ∧ (¬ v1 = v2 → (False))))
set_option maxRecDepth 20000 in
theorem law_c3 {E : En} {g : Ga} {b L : Nat} {xs : Nat → Int32} {x4 : Int32} {h : Hp} {cells slots : Nat} (hX : Scr E g b L xs) (hcs : cells + 8 ≤ 601024 ∧ slots + 48 ≤ 7293034) (t : Tc3 E h (fun E2 h2 => VL E2 g b x4 (cells + 0) (slots + 6 * 0) h2)) : V E ML room_1 g (LQ g) cells slots h 315 [(0, .ref b), (1, .ref (eA E 0)), (2, .ref (eA E 63)), (3, .ref (eA E 98)), (4, .int x4)] [] := by
  unfold Tc3 at t
  refine r_aload_n (q := 1) dL_law_315 rfl rfl ?_
  refine q_cVS (c := 0) (As := []) dL_law_316 mkX9_load lkL_111 lay_0 rfl rfl rfl (by decide) rfl (Nat.le_of_ble_eq_true rfl) hcs t ?_
  intro v1 E2 h1 t hE2
  refine r_sub (lv' := [(0, .ref b), (1, .ref (eA E2 0)), (2, .ref (eA E2 63)), (3, .ref (eA E2 98)), (4, .int x4)]) [0, 1, 2, 3, 4] (by rcases hE2 with rfl | rfl <;> rfl) ?_
  refine r_aload_n (q := 2) dL_law_319 rfl rfl ?_
  refine q_cVI (c := 63) (As := []) dL_law_320 mkX10_load lkL_114 lay_63 rfl rfl rfl (by decide) rfl (Nat.le_of_ble_eq_true rfl) hcs t ?_
  intro v2 h2 t
  refine r_icmp_eq (tgt := 1895) dL_law_323 (by decide) (fun q3 => ?_) (fun q3 => ?_)
  · have t := t.1 q3
    refine r_sub [0, 1, 2, 3, 4] rfl ?_
    exact t
  · have t := t.2 q3
    refine r_iconst (v := (0 : Int32)) dL_law_326 rfl ?_
    exact t.elim
def Tc4 (E : En) (h : Hp) (K : En → Hp → Prop) : Prop := SpI E 200 MX9_find [.ref (eA E 0)] h (fun v1 h1 => SpI E 200 MX10_find [.ref (eA E 63)] h1 (fun v2 h2 => (v1 = v2 → (K E h2)) ∧ (¬ v1 = v2 → (False))))
set_option maxRecDepth 20000 in
theorem law_c4 {E : En} {g : Ga} {b L : Nat} {xs : Nat → Int32} {x4 : Int32} {h : Hp} {cells slots : Nat} (hX : Scr E g b L xs) (hcs : cells + 8 ≤ 601024 ∧ slots + 48 ≤ 7293034) (t : Tc4 E h (fun E2 h2 => VL E2 g b x4 (cells + 0) (slots + 6 * 0) h2)) : V E ML room_1 g (LQ g) cells slots h 328 [(0, .ref b), (1, .ref (eA E 0)), (2, .ref (eA E 63)), (3, .ref (eA E 98)), (4, .int x4)] [] := by
  unfold Tc4 at t
  refine r_aload_n (q := 1) dL_law_328 rfl rfl ?_
  refine q_cVI (c := 0) (As := []) dL_law_329 mkX9_find lkL_115 lay_0 rfl rfl rfl (by decide) rfl (Nat.le_of_ble_eq_true rfl) hcs t ?_
  intro v1 h1 t
  refine r_aload_n (q := 2) dL_law_332 rfl rfl ?_
  refine q_cVI (c := 63) (As := []) dL_law_333 mkX10_find lkL_118 lay_63 rfl rfl rfl (by decide) rfl (Nat.le_of_ble_eq_true rfl) hcs t ?_
  intro v2 h2 t
  refine r_icmp_eq (tgt := 1895) dL_law_336 (by decide) (fun q3 => ?_) (fun q3 => ?_)
  · have t := t.1 q3
    refine r_sub [0, 1, 2, 3, 4] rfl ?_
    exact t
  · have t := t.2 q3
    refine r_iconst (v := (0 : Int32)) dL_law_339 rfl ?_
    exact t.elim
def Tc5 (E : En) (h : Hp) (K : En → Hp → Prop) : Prop := SpI E 200 MX9_write [.ref (eA E 0)] h (fun v1 h1 => SpI E 200 MX10_write [.ref (eA E 63)] h1 (fun v2 h2 => (v1 = v2 → (K E h2)) ∧ (¬ v1 = v2 → (False))))
set_option maxRecDepth 20000 in
theorem law_c5 {E : En} {g : Ga} {b L : Nat} {xs : Nat → Int32} {x4 : Int32} {h : Hp} {cells slots : Nat} (hX : Scr E g b L xs) (hcs : cells + 8 ≤ 601024 ∧ slots + 48 ≤ 7293034) (t : Tc5 E h (fun E2 h2 => VL E2 g b x4 (cells + 0) (slots + 6 * 0) h2)) : V E ML room_1 g (LQ g) cells slots h 341 [(0, .ref b), (1, .ref (eA E 0)), (2, .ref (eA E 63)), (3, .ref (eA E 98)), (4, .int x4)] [] := by
  unfold Tc5 at t
  refine r_aload_n (q := 1) dL_law_341 rfl rfl ?_
  refine q_cVI (c := 0) (As := []) dL_law_342 mkX9_write lkL_119 lay_0 rfl rfl rfl (by decide) rfl (Nat.le_of_ble_eq_true rfl) hcs t ?_
  intro v1 h1 t
  refine r_aload_n (q := 2) dL_law_345 rfl rfl ?_
  refine q_cVI (c := 63) (As := []) dL_law_346 mkX10_write lkL_122 lay_63 rfl rfl rfl (by decide) rfl (Nat.le_of_ble_eq_true rfl) hcs t ?_
  intro v2 h2 t
  refine r_icmp_eq (tgt := 1895) dL_law_349 (by decide) (fun q3 => ?_) (fun q3 => ?_)
  · have t := t.1 q3
    refine r_sub [0, 1, 2, 3, 4] rfl ?_
    exact t
  · have t := t.2 q3
    refine r_iconst (v := (0 : Int32)) dL_law_352 rfl ?_
    exact t.elim
def Tc6 (E : En) (a1 : Int32) (h : Hp) (K : En → Hp → Prop) : Prop := SpH E 200 1 ML_outputByte HL_outputByte [.ref (eA E 0), .int a1, .ref (eA E 98)] h (fun v1 h1 => SpI E 200 MX10_outputByte [.ref (eA E 63), .int a1] h1 (fun v2 h2 => SpI E 200 MX10_thrown [.ref (eA E 63)] h2 (fun v3 h3 => (v3 = v1 → ((¬ v1 = 0 → (K E h3)) ∧ (v1 = 0 → (((lg_cmp (h3.2 98 0) v2.toInt64) = 0 → (K E h3)) ∧ (¬ (lg_cmp (h3.2 98 0) v2.toInt64) = 0 → (False)))))) ∧ (¬ v3 = v1 → (False)))))
set_option maxRecDepth 20000 in
theorem law_c6 {E : En} {g : Ga} {b L : Nat} {xs : Nat → Int32} {x4 : Int32} {h : Hp} {cells slots : Nat} (hX : Scr E g b L xs) {a1 : Int32} (s1 : vp_in (x4 + (1 : Int32)) L) (e1 : xs (x4 + (1 : Int32)).toNatClampNeg = a1) (hcs : cells + 8 ≤ 601024 ∧ slots + 48 ≤ 7293034) (hc2 : cells + 1 + 8 ≤ 601024 ∧ slots + 6 * 1 + 48 ≤ 7293034) (t : Tc6 E a1 h (fun E2 h2 => VL E2 g b x4 (cells + 1) (slots + 6 * 1) h2)) : V E ML room_1 g (LQ g) cells slots h 354 [(0, .ref b), (1, .ref (eA E 0)), (2, .ref (eA E 63)), (3, .ref (eA E 98)), (4, .int x4)] [] := by
  unfold Tc6 at t
  refine r_aload_n (q := 1) dL_law_354 rfl rfl ?_
  refine r_aload_n (q := 0) dL_law_355 rfl rfl ?_
  refine r_iload (q := 4) dL_law_356 rfl ?_
  refine r_iconst (v := (1 : Int32)) dL_law_358 rfl ?_
  refine r_iadd dL_law_359 ?_
  refine q_sld hX dL_law_360 s1 e1 ?_
  refine r_aload_n (q := 3) dL_law_361 rfl rfl ?_
  refine q_hS (M' := ML_outputByte) (n := 3) (k1 := 1) (As := [.ref (eA E 0), .int a1, .ref (eA E 98)]) (hh := HL_outputByte) dL_law_362 mkL_outputByte inRL lh_123 (by decide +kernel) rfl (by decide) rfl (Nat.le_of_ble_eq_true rfl) hcs (by decide) t ?_
  intro v1 h1 t
  have hcs := hc2
  refine r_istore (lv' := [(5, .int v1), (0, .ref b), (1, .ref (eA E 0)), (2, .ref (eA E 63)), (3, .ref (eA E 98)), (4, .int x4)]) dL_law_365 (by decide) rfl ?_
  refine r_aload_n (q := 3) dL_law_367 rfl rfl ?_
  refine r_aload_n (q := 1) dL_law_368 rfl rfl ?_
  refine r_iload (q := 5) dL_law_369 rfl ?_
  refine r_iconst (v := (1 : Int32)) dL_law_371 rfl ?_
  refine r_iadd dL_law_372 ?_
  refine q_sld hX dL_law_373 s1 e1 ?_
  refine q_cVI (c := 63) (As := [.int a1]) dL_law_374 mkX10_outputByte lkL_128 lay_63 rfl rfl rfl (by decide) rfl (Nat.le_of_ble_eq_true rfl) hcs t ?_
  intro v2 h2 t
  refine r_istore (lv' := [(6, .int v2), (5, .int v1), (0, .ref b), (1, .ref (eA E 0)), (2, .ref (eA E 63)), (3, .ref (eA E 98)), (4, .int x4)]) dL_law_377 (by decide) rfl ?_
  refine r_aload_n (q := 4) dL_law_379 rfl rfl ?_
  refine q_cVI (c := 63) (As := []) dL_law_380 mkX10_thrown lkL_129 lay_63 rfl rfl rfl (by decide) rfl (Nat.le_of_ble_eq_true rfl) hcs t ?_
  intro v3 h3 t
  refine r_iload (q := 1) dL_law_383 rfl ?_
  refine r_icmp_eq (tgt := 390) dL_law_385 (by decide) (fun q4 => ?_) (fun q4 => ?_)
  · have t := t.1 q4
    refine r_iload (q := 1) dL_law_390 rfl ?_
    refine r_if_ne (tgt := 407) dL_law_392 (by decide) (fun q5 => ?_) (fun q5 => ?_)
    · have t := t.1 q5
      refine r_goto (tgt := 1895) dL_law_407 (by decide) ?_
      refine r_sub [2, 3, 4, 5, 6] rfl ?_
      exact t
    · have t := t.2 q5
      refine r_aload_n (q := 5) dL_law_395 rfl rfl ?_
      refine r_iconst (v := (0 : Int32)) dL_law_396 rfl ?_
      refine r_lald (c := 98) dL_law_397 lay_98 vin01 ?_
      refine r_iload (q := 0) dL_law_398 rfl ?_
      refine r_i2l dL_law_400 ?_
      refine r_lcmp dL_law_401 ?_
      refine r_if_eq (tgt := 407) dL_law_402 (by decide) (fun q6 => ?_) (fun q6 => ?_)
      · have t := t.1 q6
        refine r_goto (tgt := 1895) dL_law_407 (by decide) ?_
        refine r_sub [2, 3, 4, 5, 6] rfl ?_
        exact t
      · have t := t.2 q6
        refine r_iconst (v := (0 : Int32)) dL_law_405 rfl ?_
        exact t.elim
  · have t := t.2 q4
    refine r_iconst (v := (0 : Int32)) dL_law_388 rfl ?_
    exact t.elim
def Tc7 (E : En) (h : Hp) (K : En → Hp → Prop) : Prop := SpI E 200 MX9_operationCount [.ref (eA E 0)] h (fun v1 h1 => SpI E 200 MX10_operationCount [.ref (eA E 63)] h1 (fun v2 h2 => (v1 = v2 → (K E h2)) ∧ (¬ v1 = v2 → (False))))
set_option maxRecDepth 20000 in
theorem law_c7 {E : En} {g : Ga} {b L : Nat} {xs : Nat → Int32} {x4 : Int32} {h : Hp} {cells slots : Nat} (hX : Scr E g b L xs) (hcs : cells + 8 ≤ 601024 ∧ slots + 48 ≤ 7293034) (t : Tc7 E h (fun E2 h2 => VL E2 g b x4 (cells + 0) (slots + 6 * 0) h2)) : V E ML room_1 g (LQ g) cells slots h 410 [(0, .ref b), (1, .ref (eA E 0)), (2, .ref (eA E 63)), (3, .ref (eA E 98)), (4, .int x4)] [] := by
  unfold Tc7 at t
  refine r_aload_n (q := 1) dL_law_410 rfl rfl ?_
  refine q_cVI (c := 0) (As := []) dL_law_411 mkX9_operationCount lkL_132 lay_0 rfl rfl rfl (by decide) rfl (Nat.le_of_ble_eq_true rfl) hcs t ?_
  intro v1 h1 t
  refine r_aload_n (q := 2) dL_law_414 rfl rfl ?_
  refine q_cVI (c := 63) (As := []) dL_law_415 mkX10_operationCount lkL_135 lay_63 rfl rfl rfl (by decide) rfl (Nat.le_of_ble_eq_true rfl) hcs t ?_
  intro v2 h2 t
  refine r_icmp_eq (tgt := 1895) dL_law_418 (by decide) (fun q3 => ?_) (fun q3 => ?_)
  · have t := t.1 q3
    refine r_sub [0, 1, 2, 3, 4] rfl ?_
    exact t
  · have t := t.2 q3
    refine r_iconst (v := (0 : Int32)) dL_law_421 rfl ?_
    exact t.elim
def Tc8 (E : En) (h : Hp) (K : En → Hp → Prop) : Prop := SpI E 200 MX9_instructionCount [.ref (eA E 0)] h (fun v1 h1 => SpI E 200 MX10_instructionCount [.ref (eA E 63)] h1 (fun v2 h2 => (v1 = v2 → (K E h2)) ∧ (¬ v1 = v2 → (False))))
set_option maxRecDepth 20000 in
theorem law_c8 {E : En} {g : Ga} {b L : Nat} {xs : Nat → Int32} {x4 : Int32} {h : Hp} {cells slots : Nat} (hX : Scr E g b L xs) (hcs : cells + 8 ≤ 601024 ∧ slots + 48 ≤ 7293034) (t : Tc8 E h (fun E2 h2 => VL E2 g b x4 (cells + 0) (slots + 6 * 0) h2)) : V E ML room_1 g (LQ g) cells slots h 423 [(0, .ref b), (1, .ref (eA E 0)), (2, .ref (eA E 63)), (3, .ref (eA E 98)), (4, .int x4)] [] := by
  unfold Tc8 at t
  refine r_aload_n (q := 1) dL_law_423 rfl rfl ?_
  refine q_cVI (c := 0) (As := []) dL_law_424 mkX9_instructionCount lkL_136 lay_0 rfl rfl rfl (by decide) rfl (Nat.le_of_ble_eq_true rfl) hcs t ?_
  intro v1 h1 t
  refine r_aload_n (q := 2) dL_law_427 rfl rfl ?_
  refine q_cVI (c := 63) (As := []) dL_law_428 mkX10_instructionCount lkL_139 lay_63 rfl rfl rfl (by decide) rfl (Nat.le_of_ble_eq_true rfl) hcs t ?_
  intro v2 h2 t
  refine r_icmp_eq (tgt := 1895) dL_law_431 (by decide) (fun q3 => ?_) (fun q3 => ?_)
  · have t := t.1 q3
    refine r_sub [0, 1, 2, 3, 4] rfl ?_
    exact t
  · have t := t.2 q3
    refine r_iconst (v := (0 : Int32)) dL_law_434 rfl ?_
    exact t.elim
def Tc9 (E : En) (a1 : Int32) (a2 : Int32) (h : Hp) (K : En → Hp → Prop) : Prop := SpH E 200 2 ML_operation HL_operation [.ref (eA E 0), .int a1, .int a2, .ref (eA E 98)] h (fun v1 h1 => SpI E 200 MX10_operation [.ref (eA E 63), .int a1, .int a2] h1 (fun v2 h2 => SpI E 200 MX10_thrown [.ref (eA E 63)] h2 (fun v3 h3 => (v3 = v1 → ((¬ v1 = 0 → (K E h3)) ∧ (v1 = 0 → (((lg_cmp (h3.2 98 0) v2.toInt64) = 0 → (K E h3)) ∧ (¬ (lg_cmp (h3.2 98 0) v2.toInt64) = 0 → (False)))))) ∧ (¬ v3 = v1 → (False)))))
set_option maxRecDepth 20000 in
theorem law_c9 {E : En} {g : Ga} {b L : Nat} {xs : Nat → Int32} {x4 : Int32} {h : Hp} {cells slots : Nat} (hX : Scr E g b L xs) {a1 : Int32} (s1 : vp_in (x4 + (1 : Int32)) L) (e1 : xs (x4 + (1 : Int32)).toNatClampNeg = a1) {a2 : Int32} (s2 : vp_in (x4 + (2 : Int32)) L) (e2 : xs (x4 + (2 : Int32)).toNatClampNeg = a2) (hcs : cells + 8 ≤ 601024 ∧ slots + 48 ≤ 7293034) (hc2 : cells + 2 + 8 ≤ 601024 ∧ slots + 6 * 2 + 48 ≤ 7293034) (t : Tc9 E a1 a2 h (fun E2 h2 => VL E2 g b x4 (cells + 2) (slots + 6 * 2) h2)) : V E ML room_1 g (LQ g) cells slots h 436 [(0, .ref b), (1, .ref (eA E 0)), (2, .ref (eA E 63)), (3, .ref (eA E 98)), (4, .int x4)] [] := by
  unfold Tc9 at t
  refine r_aload_n (q := 1) dL_law_436 rfl rfl ?_
  refine r_aload_n (q := 0) dL_law_437 rfl rfl ?_
  refine r_iload (q := 4) dL_law_438 rfl ?_
  refine r_iconst (v := (1 : Int32)) dL_law_440 rfl ?_
  refine r_iadd dL_law_441 ?_
  refine q_sld hX dL_law_442 s1 e1 ?_
  refine r_aload_n (q := 0) dL_law_443 rfl rfl ?_
  refine r_iload (q := 4) dL_law_444 rfl ?_
  refine r_iconst (v := (2 : Int32)) dL_law_446 rfl ?_
  refine r_iadd dL_law_447 ?_
  refine q_sld hX dL_law_448 s2 e2 ?_
  refine r_aload_n (q := 3) dL_law_449 rfl rfl ?_
  refine q_hS (M' := ML_operation) (n := 4) (k1 := 2) (As := [.ref (eA E 0), .int a1, .int a2, .ref (eA E 98)]) (hh := HL_operation) dL_law_450 mkL_operation inRL lh_140 (by decide +kernel) rfl (by decide) rfl (Nat.le_of_ble_eq_true rfl) hcs (by decide) t ?_
  intro v1 h1 t
  have hcs := hc2
  refine r_istore (lv' := [(5, .int v1), (0, .ref b), (1, .ref (eA E 0)), (2, .ref (eA E 63)), (3, .ref (eA E 98)), (4, .int x4)]) dL_law_453 (by decide) rfl ?_
  refine r_aload_n (q := 3) dL_law_455 rfl rfl ?_
  refine r_aload_n (q := 1) dL_law_456 rfl rfl ?_
  refine r_iload (q := 5) dL_law_457 rfl ?_
  refine r_iconst (v := (1 : Int32)) dL_law_459 rfl ?_
  refine r_iadd dL_law_460 ?_
  refine q_sld hX dL_law_461 s1 e1 ?_
  refine r_aload_n (q := 1) dL_law_462 rfl rfl ?_
  refine r_iload (q := 5) dL_law_463 rfl ?_
  refine r_iconst (v := (2 : Int32)) dL_law_465 rfl ?_
  refine r_iadd dL_law_466 ?_
  refine q_sld hX dL_law_467 s2 e2 ?_
  refine q_cVI (c := 63) (As := [.int a1, .int a2]) dL_law_468 mkX10_operation lkL_143 lay_63 rfl rfl rfl (by decide) rfl (Nat.le_of_ble_eq_true rfl) hcs t ?_
  intro v2 h2 t
  refine r_istore (lv' := [(6, .int v2), (5, .int v1), (0, .ref b), (1, .ref (eA E 0)), (2, .ref (eA E 63)), (3, .ref (eA E 98)), (4, .int x4)]) dL_law_471 (by decide) rfl ?_
  refine r_aload_n (q := 4) dL_law_473 rfl rfl ?_
  refine q_cVI (c := 63) (As := []) dL_law_474 mkX10_thrown lkL_129 lay_63 rfl rfl rfl (by decide) rfl (Nat.le_of_ble_eq_true rfl) hcs t ?_
  intro v3 h3 t
  refine r_iload (q := 1) dL_law_477 rfl ?_
  refine r_icmp_eq (tgt := 484) dL_law_479 (by decide) (fun q4 => ?_) (fun q4 => ?_)
  · have t := t.1 q4
    refine r_iload (q := 1) dL_law_484 rfl ?_
    refine r_if_ne (tgt := 501) dL_law_486 (by decide) (fun q5 => ?_) (fun q5 => ?_)
    · have t := t.1 q5
      refine r_goto (tgt := 1895) dL_law_501 (by decide) ?_
      refine r_sub [2, 3, 4, 5, 6] rfl ?_
      exact t
    · have t := t.2 q5
      refine r_aload_n (q := 5) dL_law_489 rfl rfl ?_
      refine r_iconst (v := (0 : Int32)) dL_law_490 rfl ?_
      refine r_lald (c := 98) dL_law_491 lay_98 vin01 ?_
      refine r_iload (q := 0) dL_law_492 rfl ?_
      refine r_i2l dL_law_494 ?_
      refine r_lcmp dL_law_495 ?_
      refine r_if_eq (tgt := 501) dL_law_496 (by decide) (fun q6 => ?_) (fun q6 => ?_)
      · have t := t.1 q6
        refine r_goto (tgt := 1895) dL_law_501 (by decide) ?_
        refine r_sub [2, 3, 4, 5, 6] rfl ?_
        exact t
      · have t := t.2 q6
        refine r_iconst (v := (0 : Int32)) dL_law_499 rfl ?_
        exact t.elim
  · have t := t.2 q4
    refine r_iconst (v := (0 : Int32)) dL_law_482 rfl ?_
    exact t.elim
def Tc10 (E : En) (a1 : Int32) (h : Hp) (K : En → Hp → Prop) : Prop := SpH E 200 1 ML_length HL_length [.ref (eA E 0), .int a1, .ref (eA E 98)] h (fun v1 h1 => SpI E 200 MX10_length [.ref (eA E 63), .int a1] h1 (fun v2 h2 => SpI E 200 MX10_thrown [.ref (eA E 63)] h2 (fun v3 h3 => (v3 = v1 → ((¬ v1 = 0 → (K E h3)) ∧ (v1 = 0 → (((lg_cmp (h3.2 98 0) v2.toInt64) = 0 → (K E h3)) ∧ (¬ (lg_cmp (h3.2 98 0) v2.toInt64) = 0 → (False)))))) ∧ (¬ v3 = v1 → (False)))))
set_option maxRecDepth 20000 in
theorem law_c10 {E : En} {g : Ga} {b L : Nat} {xs : Nat → Int32} {x4 : Int32} {h : Hp} {cells slots : Nat} (hX : Scr E g b L xs) {a1 : Int32} (s1 : vp_in (x4 + (1 : Int32)) L) (e1 : xs (x4 + (1 : Int32)).toNatClampNeg = a1) (hcs : cells + 8 ≤ 601024 ∧ slots + 48 ≤ 7293034) (hc2 : cells + 1 + 8 ≤ 601024 ∧ slots + 6 * 1 + 48 ≤ 7293034) (t : Tc10 E a1 h (fun E2 h2 => VL E2 g b x4 (cells + 1) (slots + 6 * 1) h2)) : V E ML room_1 g (LQ g) cells slots h 504 [(0, .ref b), (1, .ref (eA E 0)), (2, .ref (eA E 63)), (3, .ref (eA E 98)), (4, .int x4)] [] := by
  unfold Tc10 at t
  refine r_aload_n (q := 1) dL_law_504 rfl rfl ?_
  refine r_aload_n (q := 0) dL_law_505 rfl rfl ?_
  refine r_iload (q := 4) dL_law_506 rfl ?_
  refine r_iconst (v := (1 : Int32)) dL_law_508 rfl ?_
  refine r_iadd dL_law_509 ?_
  refine q_sld hX dL_law_510 s1 e1 ?_
  refine r_aload_n (q := 3) dL_law_511 rfl rfl ?_
  refine q_hS (M' := ML_length) (n := 3) (k1 := 1) (As := [.ref (eA E 0), .int a1, .ref (eA E 98)]) (hh := HL_length) dL_law_512 mkL_length inRL lh_144 (by decide +kernel) rfl (by decide) rfl (Nat.le_of_ble_eq_true rfl) hcs (by decide) t ?_
  intro v1 h1 t
  have hcs := hc2
  refine r_istore (lv' := [(5, .int v1), (0, .ref b), (1, .ref (eA E 0)), (2, .ref (eA E 63)), (3, .ref (eA E 98)), (4, .int x4)]) dL_law_515 (by decide) rfl ?_
  refine r_aload_n (q := 3) dL_law_517 rfl rfl ?_
  refine r_aload_n (q := 1) dL_law_518 rfl rfl ?_
  refine r_iload (q := 5) dL_law_519 rfl ?_
  refine r_iconst (v := (1 : Int32)) dL_law_521 rfl ?_
  refine r_iadd dL_law_522 ?_
  refine q_sld hX dL_law_523 s1 e1 ?_
  refine q_cVI (c := 63) (As := [.int a1]) dL_law_524 mkX10_length lkL_146 lay_63 rfl rfl rfl (by decide) rfl (Nat.le_of_ble_eq_true rfl) hcs t ?_
  intro v2 h2 t
  refine r_istore (lv' := [(6, .int v2), (5, .int v1), (0, .ref b), (1, .ref (eA E 0)), (2, .ref (eA E 63)), (3, .ref (eA E 98)), (4, .int x4)]) dL_law_527 (by decide) rfl ?_
  refine r_aload_n (q := 4) dL_law_529 rfl rfl ?_
  refine q_cVI (c := 63) (As := []) dL_law_530 mkX10_thrown lkL_129 lay_63 rfl rfl rfl (by decide) rfl (Nat.le_of_ble_eq_true rfl) hcs t ?_
  intro v3 h3 t
  refine r_iload (q := 1) dL_law_533 rfl ?_
  refine r_icmp_eq (tgt := 540) dL_law_535 (by decide) (fun q4 => ?_) (fun q4 => ?_)
  · have t := t.1 q4
    refine r_iload (q := 1) dL_law_540 rfl ?_
    refine r_if_ne (tgt := 557) dL_law_542 (by decide) (fun q5 => ?_) (fun q5 => ?_)
    · have t := t.1 q5
      refine r_goto (tgt := 1895) dL_law_557 (by decide) ?_
      refine r_sub [2, 3, 4, 5, 6] rfl ?_
      exact t
    · have t := t.2 q5
      refine r_aload_n (q := 5) dL_law_545 rfl rfl ?_
      refine r_iconst (v := (0 : Int32)) dL_law_546 rfl ?_
      refine r_lald (c := 98) dL_law_547 lay_98 vin01 ?_
      refine r_iload (q := 0) dL_law_548 rfl ?_
      refine r_i2l dL_law_550 ?_
      refine r_lcmp dL_law_551 ?_
      refine r_if_eq (tgt := 557) dL_law_552 (by decide) (fun q6 => ?_) (fun q6 => ?_)
      · have t := t.1 q6
        refine r_goto (tgt := 1895) dL_law_557 (by decide) ?_
        refine r_sub [2, 3, 4, 5, 6] rfl ?_
        exact t
      · have t := t.2 q6
        refine r_iconst (v := (0 : Int32)) dL_law_555 rfl ?_
        exact t.elim
  · have t := t.2 q4
    refine r_iconst (v := (0 : Int32)) dL_law_538 rfl ?_
    exact t.elim
def Tc11 (E : En) (a1 : Int32) (a2 : Int32) (h : Hp) (K : En → Hp → Prop) : Prop := SpH E 200 2 ML_operationAt HL_operationAt [.ref (eA E 0), .int a1, .int a2, .ref (eA E 98)] h (fun v1 h1 => SpI E 200 MX10_operationAt [.ref (eA E 63), .int a1, .int a2] h1 (fun v2 h2 => SpI E 200 MX10_thrown [.ref (eA E 63)] h2 (fun v3 h3 => (v3 = v1 → ((¬ v1 = 0 → (K E h3)) ∧ (v1 = 0 → (((lg_cmp (h3.2 98 0) v2.toInt64) = 0 → (K E h3)) ∧ (¬ (lg_cmp (h3.2 98 0) v2.toInt64) = 0 → (False)))))) ∧ (¬ v3 = v1 → (False)))))
set_option maxRecDepth 20000 in
theorem law_c11 {E : En} {g : Ga} {b L : Nat} {xs : Nat → Int32} {x4 : Int32} {h : Hp} {cells slots : Nat} (hX : Scr E g b L xs) {a1 : Int32} (s1 : vp_in (x4 + (1 : Int32)) L) (e1 : xs (x4 + (1 : Int32)).toNatClampNeg = a1) {a2 : Int32} (s2 : vp_in (x4 + (2 : Int32)) L) (e2 : xs (x4 + (2 : Int32)).toNatClampNeg = a2) (hcs : cells + 8 ≤ 601024 ∧ slots + 48 ≤ 7293034) (hc2 : cells + 2 + 8 ≤ 601024 ∧ slots + 6 * 2 + 48 ≤ 7293034) (t : Tc11 E a1 a2 h (fun E2 h2 => VL E2 g b x4 (cells + 2) (slots + 6 * 2) h2)) : V E ML room_1 g (LQ g) cells slots h 560 [(0, .ref b), (1, .ref (eA E 0)), (2, .ref (eA E 63)), (3, .ref (eA E 98)), (4, .int x4)] [] := by
  unfold Tc11 at t
  refine r_aload_n (q := 1) dL_law_560 rfl rfl ?_
  refine r_aload_n (q := 0) dL_law_561 rfl rfl ?_
  refine r_iload (q := 4) dL_law_562 rfl ?_
  refine r_iconst (v := (1 : Int32)) dL_law_564 rfl ?_
  refine r_iadd dL_law_565 ?_
  refine q_sld hX dL_law_566 s1 e1 ?_
  refine r_aload_n (q := 0) dL_law_567 rfl rfl ?_
  refine r_iload (q := 4) dL_law_568 rfl ?_
  refine r_iconst (v := (2 : Int32)) dL_law_570 rfl ?_
  refine r_iadd dL_law_571 ?_
  refine q_sld hX dL_law_572 s2 e2 ?_
  refine r_aload_n (q := 3) dL_law_573 rfl rfl ?_
  refine q_hS (M' := ML_operationAt) (n := 4) (k1 := 2) (As := [.ref (eA E 0), .int a1, .int a2, .ref (eA E 98)]) (hh := HL_operationAt) dL_law_574 mkL_operationAt inRL lh_147 (by decide +kernel) rfl (by decide) rfl (Nat.le_of_ble_eq_true rfl) hcs (by decide) t ?_
  intro v1 h1 t
  have hcs := hc2
  refine r_istore (lv' := [(5, .int v1), (0, .ref b), (1, .ref (eA E 0)), (2, .ref (eA E 63)), (3, .ref (eA E 98)), (4, .int x4)]) dL_law_577 (by decide) rfl ?_
  refine r_aload_n (q := 3) dL_law_579 rfl rfl ?_
  refine r_aload_n (q := 1) dL_law_580 rfl rfl ?_
  refine r_iload (q := 5) dL_law_581 rfl ?_
  refine r_iconst (v := (1 : Int32)) dL_law_583 rfl ?_
  refine r_iadd dL_law_584 ?_
  refine q_sld hX dL_law_585 s1 e1 ?_
  refine r_aload_n (q := 1) dL_law_586 rfl rfl ?_
  refine r_iload (q := 5) dL_law_587 rfl ?_
  refine r_iconst (v := (2 : Int32)) dL_law_589 rfl ?_
  refine r_iadd dL_law_590 ?_
  refine q_sld hX dL_law_591 s2 e2 ?_
  refine q_cVI (c := 63) (As := [.int a1, .int a2]) dL_law_592 mkX10_operationAt lkL_149 lay_63 rfl rfl rfl (by decide) rfl (Nat.le_of_ble_eq_true rfl) hcs t ?_
  intro v2 h2 t
  refine r_istore (lv' := [(6, .int v2), (5, .int v1), (0, .ref b), (1, .ref (eA E 0)), (2, .ref (eA E 63)), (3, .ref (eA E 98)), (4, .int x4)]) dL_law_595 (by decide) rfl ?_
  refine r_aload_n (q := 4) dL_law_597 rfl rfl ?_
  refine q_cVI (c := 63) (As := []) dL_law_598 mkX10_thrown lkL_129 lay_63 rfl rfl rfl (by decide) rfl (Nat.le_of_ble_eq_true rfl) hcs t ?_
  intro v3 h3 t
  refine r_iload (q := 1) dL_law_601 rfl ?_
  refine r_icmp_eq (tgt := 608) dL_law_603 (by decide) (fun q4 => ?_) (fun q4 => ?_)
  · have t := t.1 q4
    refine r_iload (q := 1) dL_law_608 rfl ?_
    refine r_if_ne (tgt := 625) dL_law_610 (by decide) (fun q5 => ?_) (fun q5 => ?_)
    · have t := t.1 q5
      refine r_goto (tgt := 1895) dL_law_625 (by decide) ?_
      refine r_sub [2, 3, 4, 5, 6] rfl ?_
      exact t
    · have t := t.2 q5
      refine r_aload_n (q := 5) dL_law_613 rfl rfl ?_
      refine r_iconst (v := (0 : Int32)) dL_law_614 rfl ?_
      refine r_lald (c := 98) dL_law_615 lay_98 vin01 ?_
      refine r_iload (q := 0) dL_law_616 rfl ?_
      refine r_i2l dL_law_618 ?_
      refine r_lcmp dL_law_619 ?_
      refine r_if_eq (tgt := 625) dL_law_620 (by decide) (fun q6 => ?_) (fun q6 => ?_)
      · have t := t.1 q6
        refine r_goto (tgt := 1895) dL_law_625 (by decide) ?_
        refine r_sub [2, 3, 4, 5, 6] rfl ?_
        exact t
      · have t := t.2 q6
        refine r_iconst (v := (0 : Int32)) dL_law_623 rfl ?_
        exact t.elim
  · have t := t.2 q4
    refine r_iconst (v := (0 : Int32)) dL_law_606 rfl ?_
    exact t.elim
def Tc12 (E : En) (a1 : Int32) (a2 : Int32) (h : Hp) (K : En → Hp → Prop) : Prop := SpH E 200 2 ML_hasMark HL_hasMark [.ref (eA E 0), .int a1, .int a2, .ref (eA E 98)] h (fun v1 h1 => SpI E 200 MX10_hasMark [.ref (eA E 63), .int a1, .int a2] h1 (fun v2 h2 => SpI E 200 MX10_thrown [.ref (eA E 63)] h2 (fun v3 h3 => (v3 = v1 → ((¬ v1 = 0 → (K E h3)) ∧ (v1 = 0 → ((v2 = 0 → (((lg_cmp (h3.2 98 0) (0 : Int64)) = 0 → (K E h3)) ∧ (¬ (lg_cmp (h3.2 98 0) (0 : Int64)) = 0 → (False)))) ∧ (¬ v2 = 0 → (((lg_cmp (h3.2 98 0) (1 : Int64)) = 0 → (K E h3)) ∧ (¬ (lg_cmp (h3.2 98 0) (1 : Int64)) = 0 → (False)))))))) ∧ (¬ v3 = v1 → (False)))))
set_option maxRecDepth 20000 in
theorem law_c12 {E : En} {g : Ga} {b L : Nat} {xs : Nat → Int32} {x4 : Int32} {h : Hp} {cells slots : Nat} (hX : Scr E g b L xs) {a1 : Int32} (s1 : vp_in (x4 + (1 : Int32)) L) (e1 : xs (x4 + (1 : Int32)).toNatClampNeg = a1) {a2 : Int32} (s2 : vp_in (x4 + (2 : Int32)) L) (e2 : xs (x4 + (2 : Int32)).toNatClampNeg = a2) (hcs : cells + 8 ≤ 601024 ∧ slots + 48 ≤ 7293034) (hc2 : cells + 2 + 8 ≤ 601024 ∧ slots + 6 * 2 + 48 ≤ 7293034) (t : Tc12 E a1 a2 h (fun E2 h2 => VL E2 g b x4 (cells + 2) (slots + 6 * 2) h2)) : V E ML room_1 g (LQ g) cells slots h 628 [(0, .ref b), (1, .ref (eA E 0)), (2, .ref (eA E 63)), (3, .ref (eA E 98)), (4, .int x4)] [] := by
  unfold Tc12 at t
  refine r_aload_n (q := 1) dL_law_628 rfl rfl ?_
  refine r_aload_n (q := 0) dL_law_629 rfl rfl ?_
  refine r_iload (q := 4) dL_law_630 rfl ?_
  refine r_iconst (v := (1 : Int32)) dL_law_632 rfl ?_
  refine r_iadd dL_law_633 ?_
  refine q_sld hX dL_law_634 s1 e1 ?_
  refine r_aload_n (q := 0) dL_law_635 rfl rfl ?_
  refine r_iload (q := 4) dL_law_636 rfl ?_
  refine r_iconst (v := (2 : Int32)) dL_law_638 rfl ?_
  refine r_iadd dL_law_639 ?_
  refine q_sld hX dL_law_640 s2 e2 ?_
  refine r_aload_n (q := 3) dL_law_641 rfl rfl ?_
  refine q_hS (M' := ML_hasMark) (n := 4) (k1 := 2) (As := [.ref (eA E 0), .int a1, .int a2, .ref (eA E 98)]) (hh := HL_hasMark) dL_law_642 mkL_hasMark inRL lh_150 (by decide +kernel) rfl (by decide) rfl (Nat.le_of_ble_eq_true rfl) hcs (by decide) t ?_
  intro v1 h1 t
  have hcs := hc2
  refine r_istore (lv' := [(5, .int v1), (0, .ref b), (1, .ref (eA E 0)), (2, .ref (eA E 63)), (3, .ref (eA E 98)), (4, .int x4)]) dL_law_645 (by decide) rfl ?_
  refine r_aload_n (q := 3) dL_law_647 rfl rfl ?_
  refine r_aload_n (q := 1) dL_law_648 rfl rfl ?_
  refine r_iload (q := 5) dL_law_649 rfl ?_
  refine r_iconst (v := (1 : Int32)) dL_law_651 rfl ?_
  refine r_iadd dL_law_652 ?_
  refine q_sld hX dL_law_653 s1 e1 ?_
  refine r_aload_n (q := 1) dL_law_654 rfl rfl ?_
  refine r_iload (q := 5) dL_law_655 rfl ?_
  refine r_iconst (v := (2 : Int32)) dL_law_657 rfl ?_
  refine r_iadd dL_law_658 ?_
  refine q_sld hX dL_law_659 s2 e2 ?_
  refine q_cVI (c := 63) (As := [.int a1, .int a2]) dL_law_660 mkX10_hasMark lkL_152 lay_63 rfl rfl rfl (by decide) rfl (Nat.le_of_ble_eq_true rfl) hcs t ?_
  intro v2 h2 t
  refine r_istore (lv' := [(6, .int v2), (5, .int v1), (0, .ref b), (1, .ref (eA E 0)), (2, .ref (eA E 63)), (3, .ref (eA E 98)), (4, .int x4)]) dL_law_663 (by decide) rfl ?_
  refine r_aload_n (q := 4) dL_law_665 rfl rfl ?_
  refine q_cVI (c := 63) (As := []) dL_law_666 mkX10_thrown lkL_129 lay_63 rfl rfl rfl (by decide) rfl (Nat.le_of_ble_eq_true rfl) hcs t ?_
  intro v3 h3 t
  refine r_iload (q := 1) dL_law_669 rfl ?_
  refine r_icmp_eq (tgt := 676) dL_law_671 (by decide) (fun q4 => ?_) (fun q4 => ?_)
  · have t := t.1 q4
    refine r_iload (q := 1) dL_law_676 rfl ?_
    refine r_if_ne (tgt := 700) dL_law_678 (by decide) (fun q5 => ?_) (fun q5 => ?_)
    · have t := t.1 q5
      refine r_goto (tgt := 1895) dL_law_700 (by decide) ?_
      refine r_sub [2, 3, 4, 5, 6] rfl ?_
      exact t
    · have t := t.2 q5
      refine r_aload_n (q := 5) dL_law_681 rfl rfl ?_
      refine r_iconst (v := (0 : Int32)) dL_law_682 rfl ?_
      refine r_lald (c := 98) dL_law_683 lay_98 vin01 ?_
      refine r_iload (q := 0) dL_law_684 rfl ?_
      refine r_if_eq (tgt := 693) dL_law_686 (by decide) (fun q6 => ?_) (fun q6 => ?_)
      · have t := t.1 q6
        refine r_lconst (v := (0 : Int64)) dL_law_693 rfl ?_
        refine r_lcmp dL_law_694 ?_
        refine r_if_eq (tgt := 700) dL_law_695 (by decide) (fun q7 => ?_) (fun q7 => ?_)
        · have t := t.1 q7
          refine r_goto (tgt := 1895) dL_law_700 (by decide) ?_
          refine r_sub [2, 3, 4, 5, 6] rfl ?_
          exact t
        · have t := t.2 q7
          refine r_iconst (v := (0 : Int32)) dL_law_698 rfl ?_
          exact t.elim
      · have t := t.2 q6
        refine r_lconst (v := (1 : Int64)) dL_law_689 rfl ?_
        refine r_goto (tgt := 694) dL_law_690 (by decide) ?_
        refine r_lcmp dL_law_694 ?_
        refine r_if_eq (tgt := 700) dL_law_695 (by decide) (fun q8 => ?_) (fun q8 => ?_)
        · have t := t.1 q8
          refine r_goto (tgt := 1895) dL_law_700 (by decide) ?_
          refine r_sub [2, 3, 4, 5, 6] rfl ?_
          exact t
        · have t := t.2 q8
          refine r_iconst (v := (0 : Int32)) dL_law_698 rfl ?_
          exact t.elim
  · have t := t.2 q4
    refine r_iconst (v := (0 : Int32)) dL_law_674 rfl ?_
    exact t.elim
def Tc13 (E : En) (a1 : Int32) (a2 : Int32) (a3 : Int32) (h : Hp) (K : En → Hp → Prop) : Prop := SpH E 200 4 ML_dependence HL_dependence [.ref (eA E 0), .int a1, .int a2, .int a3, .ref (eA E 98)] h (fun v1 h1 => SpI E 200 MX10_dependence [.ref (eA E 63), .int a1, .int a2, .int a3] h1 (fun v2 h2 => SpI E 200 MX10_thrown [.ref (eA E 63)] h2 (fun v3 h3 => (v3 = v1 → ((¬ v1 = 0 → (K E h3)) ∧ (v1 = 0 → (((lg_cmp (h3.2 98 0) v2.toInt64) = 0 → (K E h3)) ∧ (¬ (lg_cmp (h3.2 98 0) v2.toInt64) = 0 → (False)))))) ∧ (¬ v3 = v1 → (False)))))
set_option maxRecDepth 20000 in
theorem law_c13 {E : En} {g : Ga} {b L : Nat} {xs : Nat → Int32} {x4 : Int32} {h : Hp} {cells slots : Nat} (hX : Scr E g b L xs) {a1 : Int32} (s1 : vp_in (x4 + (1 : Int32)) L) (e1 : xs (x4 + (1 : Int32)).toNatClampNeg = a1) {a2 : Int32} (s2 : vp_in (x4 + (2 : Int32)) L) (e2 : xs (x4 + (2 : Int32)).toNatClampNeg = a2) {a3 : Int32} (s3 : vp_in (x4 + (3 : Int32)) L) (e3 : xs (x4 + (3 : Int32)).toNatClampNeg = a3) (hcs : cells + 8 ≤ 601024 ∧ slots + 48 ≤ 7293034) (hc2 : cells + 4 + 8 ≤ 601024 ∧ slots + 6 * 4 + 48 ≤ 7293034) (t : Tc13 E a1 a2 a3 h (fun E2 h2 => VL E2 g b x4 (cells + 4) (slots + 6 * 4) h2)) : V E ML room_1 g (LQ g) cells slots h 703 [(0, .ref b), (1, .ref (eA E 0)), (2, .ref (eA E 63)), (3, .ref (eA E 98)), (4, .int x4)] [] := by
  unfold Tc13 at t
  refine r_aload_n (q := 1) dL_law_703 rfl rfl ?_
  refine r_aload_n (q := 0) dL_law_704 rfl rfl ?_
  refine r_iload (q := 4) dL_law_705 rfl ?_
  refine r_iconst (v := (1 : Int32)) dL_law_707 rfl ?_
  refine r_iadd dL_law_708 ?_
  refine q_sld hX dL_law_709 s1 e1 ?_
  refine r_aload_n (q := 0) dL_law_710 rfl rfl ?_
  refine r_iload (q := 4) dL_law_711 rfl ?_
  refine r_iconst (v := (2 : Int32)) dL_law_713 rfl ?_
  refine r_iadd dL_law_714 ?_
  refine q_sld hX dL_law_715 s2 e2 ?_
  refine r_aload_n (q := 0) dL_law_716 rfl rfl ?_
  refine r_iload (q := 4) dL_law_717 rfl ?_
  refine r_iconst (v := (3 : Int32)) dL_law_719 rfl ?_
  refine r_iadd dL_law_720 ?_
  refine q_sld hX dL_law_721 s3 e3 ?_
  refine r_aload_n (q := 3) dL_law_722 rfl rfl ?_
  refine q_hS (M' := ML_dependence) (n := 5) (k1 := 4) (As := [.ref (eA E 0), .int a1, .int a2, .int a3, .ref (eA E 98)]) (hh := HL_dependence) dL_law_723 mkL_dependence inRL lh_153 (by decide +kernel) rfl (by decide) rfl (Nat.le_of_ble_eq_true rfl) hcs (by decide) t ?_
  intro v1 h1 t
  have hcs := hc2
  refine r_istore (lv' := [(5, .int v1), (0, .ref b), (1, .ref (eA E 0)), (2, .ref (eA E 63)), (3, .ref (eA E 98)), (4, .int x4)]) dL_law_726 (by decide) rfl ?_
  refine r_aload_n (q := 3) dL_law_728 rfl rfl ?_
  refine r_aload_n (q := 1) dL_law_729 rfl rfl ?_
  refine r_iload (q := 5) dL_law_730 rfl ?_
  refine r_iconst (v := (1 : Int32)) dL_law_732 rfl ?_
  refine r_iadd dL_law_733 ?_
  refine q_sld hX dL_law_734 s1 e1 ?_
  refine r_aload_n (q := 1) dL_law_735 rfl rfl ?_
  refine r_iload (q := 5) dL_law_736 rfl ?_
  refine r_iconst (v := (2 : Int32)) dL_law_738 rfl ?_
  refine r_iadd dL_law_739 ?_
  refine q_sld hX dL_law_740 s2 e2 ?_
  refine r_aload_n (q := 1) dL_law_741 rfl rfl ?_
  refine r_iload (q := 5) dL_law_742 rfl ?_
  refine r_iconst (v := (3 : Int32)) dL_law_744 rfl ?_
  refine r_iadd dL_law_745 ?_
  refine q_sld hX dL_law_746 s3 e3 ?_
  refine q_cVI (c := 63) (As := [.int a1, .int a2, .int a3]) dL_law_747 mkX10_dependence lkL_156 lay_63 rfl rfl rfl (by decide) rfl (Nat.le_of_ble_eq_true rfl) hcs t ?_
  intro v2 h2 t
  refine r_istore (lv' := [(6, .int v2), (5, .int v1), (0, .ref b), (1, .ref (eA E 0)), (2, .ref (eA E 63)), (3, .ref (eA E 98)), (4, .int x4)]) dL_law_750 (by decide) rfl ?_
  refine r_aload_n (q := 4) dL_law_752 rfl rfl ?_
  refine q_cVI (c := 63) (As := []) dL_law_753 mkX10_thrown lkL_129 lay_63 rfl rfl rfl (by decide) rfl (Nat.le_of_ble_eq_true rfl) hcs t ?_
  intro v3 h3 t
  refine r_iload (q := 1) dL_law_756 rfl ?_
  refine r_icmp_eq (tgt := 763) dL_law_758 (by decide) (fun q4 => ?_) (fun q4 => ?_)
  · have t := t.1 q4
    refine r_iload (q := 1) dL_law_763 rfl ?_
    refine r_if_ne (tgt := 780) dL_law_765 (by decide) (fun q5 => ?_) (fun q5 => ?_)
    · have t := t.1 q5
      refine r_goto (tgt := 1895) dL_law_780 (by decide) ?_
      refine r_sub [2, 3, 4, 5, 6] rfl ?_
      exact t
    · have t := t.2 q5
      refine r_aload_n (q := 5) dL_law_768 rfl rfl ?_
      refine r_iconst (v := (0 : Int32)) dL_law_769 rfl ?_
      refine r_lald (c := 98) dL_law_770 lay_98 vin01 ?_
      refine r_iload (q := 0) dL_law_771 rfl ?_
      refine r_i2l dL_law_773 ?_
      refine r_lcmp dL_law_774 ?_
      refine r_if_eq (tgt := 780) dL_law_775 (by decide) (fun q6 => ?_) (fun q6 => ?_)
      · have t := t.1 q6
        refine r_goto (tgt := 1895) dL_law_780 (by decide) ?_
        refine r_sub [2, 3, 4, 5, 6] rfl ?_
        exact t
      · have t := t.2 q6
        refine r_iconst (v := (0 : Int32)) dL_law_778 rfl ?_
        exact t.elim
  · have t := t.2 q4
    refine r_iconst (v := (0 : Int32)) dL_law_761 rfl ?_
    exact t.elim
def Tc14 (E : En) (a1 : Int32) (h : Hp) (K : En → Hp → Prop) : Prop := SpH E 200 1 ML_setMode HL_setMode [.ref (eA E 0), .int a1, .ref (eA E 98)] h (fun v1 h1 => SpI E 200 MX10_setMode [.ref (eA E 63), .int a1] h1 (fun v2 h2 => SpI E 200 MX10_thrown [.ref (eA E 63)] h2 (fun v3 h3 => (v3 = v1 → ((¬ v1 = 0 → (K E h3)) ∧ (v1 = 0 → (((lg_cmp (h3.2 98 0) v2.toInt64) = 0 → (K E h3)) ∧ (¬ (lg_cmp (h3.2 98 0) v2.toInt64) = 0 → (False)))))) ∧ (¬ v3 = v1 → (False)))))
set_option maxRecDepth 20000 in
theorem law_c14 {E : En} {g : Ga} {b L : Nat} {xs : Nat → Int32} {x4 : Int32} {h : Hp} {cells slots : Nat} (hX : Scr E g b L xs) {a1 : Int32} (s1 : vp_in (x4 + (1 : Int32)) L) (e1 : xs (x4 + (1 : Int32)).toNatClampNeg = a1) (hcs : cells + 8 ≤ 601024 ∧ slots + 48 ≤ 7293034) (hc2 : cells + 1 + 8 ≤ 601024 ∧ slots + 6 * 1 + 48 ≤ 7293034) (t : Tc14 E a1 h (fun E2 h2 => VL E2 g b x4 (cells + 1) (slots + 6 * 1) h2)) : V E ML room_1 g (LQ g) cells slots h 783 [(0, .ref b), (1, .ref (eA E 0)), (2, .ref (eA E 63)), (3, .ref (eA E 98)), (4, .int x4)] [] := by
  unfold Tc14 at t
  refine r_aload_n (q := 1) dL_law_783 rfl rfl ?_
  refine r_aload_n (q := 0) dL_law_784 rfl rfl ?_
  refine r_iload (q := 4) dL_law_785 rfl ?_
  refine r_iconst (v := (1 : Int32)) dL_law_787 rfl ?_
  refine r_iadd dL_law_788 ?_
  refine q_sld hX dL_law_789 s1 e1 ?_
  refine r_aload_n (q := 3) dL_law_790 rfl rfl ?_
  refine q_hS (M' := ML_setMode) (n := 3) (k1 := 1) (As := [.ref (eA E 0), .int a1, .ref (eA E 98)]) (hh := HL_setMode) dL_law_791 mkL_setMode inRL lh_157 (by decide +kernel) rfl (by decide) rfl (Nat.le_of_ble_eq_true rfl) hcs (by decide) t ?_
  intro v1 h1 t
  have hcs := hc2
  refine r_istore (lv' := [(5, .int v1), (0, .ref b), (1, .ref (eA E 0)), (2, .ref (eA E 63)), (3, .ref (eA E 98)), (4, .int x4)]) dL_law_794 (by decide) rfl ?_
  refine r_aload_n (q := 3) dL_law_796 rfl rfl ?_
  refine r_aload_n (q := 1) dL_law_797 rfl rfl ?_
  refine r_iload (q := 5) dL_law_798 rfl ?_
  refine r_iconst (v := (1 : Int32)) dL_law_800 rfl ?_
  refine r_iadd dL_law_801 ?_
  refine q_sld hX dL_law_802 s1 e1 ?_
  refine q_cVI (c := 63) (As := [.int a1]) dL_law_803 mkX10_setMode lkL_159 lay_63 rfl rfl rfl (by decide) rfl (Nat.le_of_ble_eq_true rfl) hcs t ?_
  intro v2 h2 t
  refine r_istore (lv' := [(6, .int v2), (5, .int v1), (0, .ref b), (1, .ref (eA E 0)), (2, .ref (eA E 63)), (3, .ref (eA E 98)), (4, .int x4)]) dL_law_806 (by decide) rfl ?_
  refine r_aload_n (q := 4) dL_law_808 rfl rfl ?_
  refine q_cVI (c := 63) (As := []) dL_law_809 mkX10_thrown lkL_129 lay_63 rfl rfl rfl (by decide) rfl (Nat.le_of_ble_eq_true rfl) hcs t ?_
  intro v3 h3 t
  refine r_iload (q := 1) dL_law_812 rfl ?_
  refine r_icmp_eq (tgt := 819) dL_law_814 (by decide) (fun q4 => ?_) (fun q4 => ?_)
  · have t := t.1 q4
    refine r_iload (q := 1) dL_law_819 rfl ?_
    refine r_if_ne (tgt := 836) dL_law_821 (by decide) (fun q5 => ?_) (fun q5 => ?_)
    · have t := t.1 q5
      refine r_goto (tgt := 1895) dL_law_836 (by decide) ?_
      refine r_sub [2, 3, 4, 5, 6] rfl ?_
      exact t
    · have t := t.2 q5
      refine r_aload_n (q := 5) dL_law_824 rfl rfl ?_
      refine r_iconst (v := (0 : Int32)) dL_law_825 rfl ?_
      refine r_lald (c := 98) dL_law_826 lay_98 vin01 ?_
      refine r_iload (q := 0) dL_law_827 rfl ?_
      refine r_i2l dL_law_829 ?_
      refine r_lcmp dL_law_830 ?_
      refine r_if_eq (tgt := 836) dL_law_831 (by decide) (fun q6 => ?_) (fun q6 => ?_)
      · have t := t.1 q6
        refine r_goto (tgt := 1895) dL_law_836 (by decide) ?_
        refine r_sub [2, 3, 4, 5, 6] rfl ?_
        exact t
      · have t := t.2 q6
        refine r_iconst (v := (0 : Int32)) dL_law_834 rfl ?_
        exact t.elim
  · have t := t.2 q4
    refine r_iconst (v := (0 : Int32)) dL_law_817 rfl ?_
    exact t.elim
def Tc15 (E : En) (h : Hp) (K : En → Hp → Prop) : Prop := SpI E 200 MX9_mode [.ref (eA E 0)] h (fun v1 h1 => SpI E 200 MX10_mode [.ref (eA E 63)] h1 (fun v2 h2 => (v1 = v2 → (K E h2)) ∧ (¬ v1 = v2 → (False))))
set_option maxRecDepth 20000 in
theorem law_c15 {E : En} {g : Ga} {b L : Nat} {xs : Nat → Int32} {x4 : Int32} {h : Hp} {cells slots : Nat} (hX : Scr E g b L xs) (hcs : cells + 8 ≤ 601024 ∧ slots + 48 ≤ 7293034) (t : Tc15 E h (fun E2 h2 => VL E2 g b x4 (cells + 0) (slots + 6 * 0) h2)) : V E ML room_1 g (LQ g) cells slots h 839 [(0, .ref b), (1, .ref (eA E 0)), (2, .ref (eA E 63)), (3, .ref (eA E 98)), (4, .int x4)] [] := by
  unfold Tc15 at t
  refine r_aload_n (q := 1) dL_law_839 rfl rfl ?_
  refine q_cVI (c := 0) (As := []) dL_law_840 mkX9_mode lkL_160 lay_0 rfl rfl rfl (by decide) rfl (Nat.le_of_ble_eq_true rfl) hcs t ?_
  intro v1 h1 t
  refine r_aload_n (q := 2) dL_law_843 rfl rfl ?_
  refine q_cVI (c := 63) (As := []) dL_law_844 mkX10_mode lkL_163 lay_63 rfl rfl rfl (by decide) rfl (Nat.le_of_ble_eq_true rfl) hcs t ?_
  intro v2 h2 t
  refine r_icmp_eq (tgt := 1895) dL_law_847 (by decide) (fun q3 => ?_) (fun q3 => ?_)
  · have t := t.1 q3
    refine r_sub [0, 1, 2, 3, 4] rfl ?_
    exact t
  · have t := t.2 q3
    refine r_iconst (v := (0 : Int32)) dL_law_850 rfl ?_
    exact t.elim
def Tc16 (E : En) (a1 : Int32) (a2 : Int32) (a3 : Int32) (h : Hp) (K : En → Hp → Prop) : Prop := (a3 = 0 → (SpH E 200 3 ML_setMark HL_setMark [.ref (eA E 0), .int a1, .int a2, .int (0 : Int32), .ref (eA E 98)] h (fun v2 h2 => (a3 = 0 → (SpI E 200 MX10_setMark [.ref (eA E 63), .int a1, .int a2, .int (0 : Int32)] h2 (fun v4 h4 => SpI E 200 MX10_thrown [.ref (eA E 63)] h4 (fun v5 h5 => (v5 = v2 → ((¬ v2 = 0 → (K E h5)) ∧ (v2 = 0 → (((lg_cmp (h5.2 98 0) v4.toInt64) = 0 → (K E h5)) ∧ (¬ (lg_cmp (h5.2 98 0) v4.toInt64) = 0 → (False)))))) ∧ (¬ v5 = v2 → (False)))))) ∧ (¬ a3 = 0 → (SpI E 200 MX10_setMark [.ref (eA E 63), .int a1, .int a2, .int (1 : Int32)] h2 (fun v9 h9 => SpI E 200 MX10_thrown [.ref (eA E 63)] h9 (fun v10 h10 => (v10 = v2 → ((¬ v2 = 0 → (K E h10)) ∧ (v2 = 0 → (((lg_cmp (h10.2 98 0) v9.toInt64) = 0 → (K E h10)) ∧ (¬ (lg_cmp (h10.2 98 0) v9.toInt64) = 0 → (False)))))) ∧ (¬ v10 = v2 → (False))))))))) ∧ (¬ a3 = 0 → (SpH E 200 3 ML_setMark HL_setMark [.ref (eA E 0), .int a1, .int a2, .int (1 : Int32), .ref (eA E 98)] h (fun v14 h14 => (a3 = 0 → (SpI E 200 MX10_setMark [.ref (eA E 63), .int a1, .int a2, .int (0 : Int32)] h14 (fun v16 h16 => SpI E 200 MX10_thrown [.ref (eA E 63)] h16 (fun v17 h17 => (v17 = v14 → ((¬ v14 = 0 → (K E h17)) ∧ (v14 = 0 → (((lg_cmp (h17.2 98 0) v16.toInt64) = 0 → (K E h17)) ∧ (¬ (lg_cmp (h17.2 98 0) v16.toInt64) = 0 → (False)))))) ∧ (¬ v17 = v14 → (False)))))) ∧ (¬ a3 = 0 → (SpI E 200 MX10_setMark [.ref (eA E 63), .int a1, .int a2, .int (1 : Int32)] h14 (fun v21 h21 => SpI E 200 MX10_thrown [.ref (eA E 63)] h21 (fun v22 h22 => (v22 = v14 → ((¬ v14 = 0 → (K E h22)) ∧ (v14 = 0 → (((lg_cmp (h22.2 98 0) v21.toInt64) = 0 → (K E h22)) ∧ (¬ (lg_cmp (h22.2 98 0) v21.toInt64) = 0 → (False)))))) ∧ (¬ v22 = v14 → (False)))))))))
set_option maxRecDepth 20000 in
theorem law_c16 {E : En} {g : Ga} {b L : Nat} {xs : Nat → Int32} {x4 : Int32} {h : Hp} {cells slots : Nat} (hX : Scr E g b L xs) {a1 : Int32} (s1 : vp_in (x4 + (1 : Int32)) L) (e1 : xs (x4 + (1 : Int32)).toNatClampNeg = a1) {a2 : Int32} (s2 : vp_in (x4 + (2 : Int32)) L) (e2 : xs (x4 + (2 : Int32)).toNatClampNeg = a2) {a3 : Int32} (s3 : vp_in (x4 + (3 : Int32)) L) (e3 : xs (x4 + (3 : Int32)).toNatClampNeg = a3) (hcs : cells + 8 ≤ 601024 ∧ slots + 48 ≤ 7293034) (hc2 : cells + 3 + 8 ≤ 601024 ∧ slots + 6 * 3 + 48 ≤ 7293034) (t : Tc16 E a1 a2 a3 h (fun E2 h2 => VL E2 g b x4 (cells + 3) (slots + 6 * 3) h2)) : V E ML room_1 g (LQ g) cells slots h 852 [(0, .ref b), (1, .ref (eA E 0)), (2, .ref (eA E 63)), (3, .ref (eA E 98)), (4, .int x4)] [] := by
  unfold Tc16 at t
  refine r_aload_n (q := 1) dL_law_852 rfl rfl ?_
  refine r_aload_n (q := 0) dL_law_853 rfl rfl ?_
  refine r_iload (q := 4) dL_law_854 rfl ?_
  refine r_iconst (v := (1 : Int32)) dL_law_856 rfl ?_
  refine r_iadd dL_law_857 ?_
  refine q_sld hX dL_law_858 s1 e1 ?_
  refine r_aload_n (q := 0) dL_law_859 rfl rfl ?_
  refine r_iload (q := 4) dL_law_860 rfl ?_
  refine r_iconst (v := (2 : Int32)) dL_law_862 rfl ?_
  refine r_iadd dL_law_863 ?_
  refine q_sld hX dL_law_864 s2 e2 ?_
  refine r_aload_n (q := 0) dL_law_865 rfl rfl ?_
  refine r_iload (q := 4) dL_law_866 rfl ?_
  refine r_iconst (v := (3 : Int32)) dL_law_868 rfl ?_
  refine r_iadd dL_law_869 ?_
  refine q_sld hX dL_law_870 s3 e3 ?_
  refine r_if_eq (tgt := 878) dL_law_871 (by decide) (fun q1 => ?_) (fun q1 => ?_)
  · have t := t.1 q1
    refine r_iconst (v := (0 : Int32)) dL_law_878 rfl ?_
    refine r_aload_n (q := 3) dL_law_879 rfl rfl ?_
    refine q_hS (M' := ML_setMark) (n := 5) (k1 := 3) (As := [.ref (eA E 0), .int a1, .int a2, .int (0 : Int32), .ref (eA E 98)]) (hh := HL_setMark) dL_law_880 mkL_setMark inRL lh_164 (by decide +kernel) rfl (by decide) rfl (Nat.le_of_ble_eq_true rfl) hcs (by decide) t ?_
    intro v2 h2 t
    have hcs := hc2
    refine r_istore (lv' := [(5, .int v2), (0, .ref b), (1, .ref (eA E 0)), (2, .ref (eA E 63)), (3, .ref (eA E 98)), (4, .int x4)]) dL_law_883 (by decide) rfl ?_
    refine r_aload_n (q := 3) dL_law_885 rfl rfl ?_
    refine r_aload_n (q := 1) dL_law_886 rfl rfl ?_
    refine r_iload (q := 5) dL_law_887 rfl ?_
    refine r_iconst (v := (1 : Int32)) dL_law_889 rfl ?_
    refine r_iadd dL_law_890 ?_
    refine q_sld hX dL_law_891 s1 e1 ?_
    refine r_aload_n (q := 1) dL_law_892 rfl rfl ?_
    refine r_iload (q := 5) dL_law_893 rfl ?_
    refine r_iconst (v := (2 : Int32)) dL_law_895 rfl ?_
    refine r_iadd dL_law_896 ?_
    refine q_sld hX dL_law_897 s2 e2 ?_
    refine r_aload_n (q := 1) dL_law_898 rfl rfl ?_
    refine r_iload (q := 5) dL_law_899 rfl ?_
    refine r_iconst (v := (3 : Int32)) dL_law_901 rfl ?_
    refine r_iadd dL_law_902 ?_
    refine q_sld hX dL_law_903 s3 e3 ?_
    refine r_if_eq (tgt := 911) dL_law_904 (by decide) (fun q3 => ?_) (fun q3 => ?_)
    · have t := t.1 q3
      refine r_iconst (v := (0 : Int32)) dL_law_911 rfl ?_
      refine q_cVI (c := 63) (As := [.int a1, .int a2, .int (0 : Int32)]) dL_law_912 mkX10_setMark lkL_167 lay_63 rfl rfl rfl (by decide) rfl (Nat.le_of_ble_eq_true rfl) hcs t ?_
      intro v4 h4 t
      refine r_istore (lv' := [(6, .int v4), (5, .int v2), (0, .ref b), (1, .ref (eA E 0)), (2, .ref (eA E 63)), (3, .ref (eA E 98)), (4, .int x4)]) dL_law_915 (by decide) rfl ?_
      refine r_aload_n (q := 4) dL_law_917 rfl rfl ?_
      refine q_cVI (c := 63) (As := []) dL_law_918 mkX10_thrown lkL_129 lay_63 rfl rfl rfl (by decide) rfl (Nat.le_of_ble_eq_true rfl) hcs t ?_
      intro v5 h5 t
      refine r_iload (q := 1) dL_law_921 rfl ?_
      refine r_icmp_eq (tgt := 928) dL_law_923 (by decide) (fun q6 => ?_) (fun q6 => ?_)
      · have t := t.1 q6
        refine r_iload (q := 1) dL_law_928 rfl ?_
        refine r_if_ne (tgt := 945) dL_law_930 (by decide) (fun q7 => ?_) (fun q7 => ?_)
        · have t := t.1 q7
          refine r_goto (tgt := 1895) dL_law_945 (by decide) ?_
          refine r_sub [2, 3, 4, 5, 6] rfl ?_
          exact t
        · have t := t.2 q7
          refine r_aload_n (q := 5) dL_law_933 rfl rfl ?_
          refine r_iconst (v := (0 : Int32)) dL_law_934 rfl ?_
          refine r_lald (c := 98) dL_law_935 lay_98 vin01 ?_
          refine r_iload (q := 0) dL_law_936 rfl ?_
          refine r_i2l dL_law_938 ?_
          refine r_lcmp dL_law_939 ?_
          refine r_if_eq (tgt := 945) dL_law_940 (by decide) (fun q8 => ?_) (fun q8 => ?_)
          · have t := t.1 q8
            refine r_goto (tgt := 1895) dL_law_945 (by decide) ?_
            refine r_sub [2, 3, 4, 5, 6] rfl ?_
            exact t
          · have t := t.2 q8
            refine r_iconst (v := (0 : Int32)) dL_law_943 rfl ?_
            exact t.elim
      · have t := t.2 q6
        refine r_iconst (v := (0 : Int32)) dL_law_926 rfl ?_
        exact t.elim
    · have t := t.2 q3
      refine r_iconst (v := (1 : Int32)) dL_law_907 rfl ?_
      refine r_goto (tgt := 912) dL_law_908 (by decide) ?_
      refine q_cVI (c := 63) (As := [.int a1, .int a2, .int (1 : Int32)]) dL_law_912 mkX10_setMark lkL_167 lay_63 rfl rfl rfl (by decide) rfl (Nat.le_of_ble_eq_true rfl) hcs t ?_
      intro v9 h9 t
      refine r_istore (lv' := [(6, .int v9), (5, .int v2), (0, .ref b), (1, .ref (eA E 0)), (2, .ref (eA E 63)), (3, .ref (eA E 98)), (4, .int x4)]) dL_law_915 (by decide) rfl ?_
      refine r_aload_n (q := 4) dL_law_917 rfl rfl ?_
      refine q_cVI (c := 63) (As := []) dL_law_918 mkX10_thrown lkL_129 lay_63 rfl rfl rfl (by decide) rfl (Nat.le_of_ble_eq_true rfl) hcs t ?_
      intro v10 h10 t
      refine r_iload (q := 1) dL_law_921 rfl ?_
      refine r_icmp_eq (tgt := 928) dL_law_923 (by decide) (fun q11 => ?_) (fun q11 => ?_)
      · have t := t.1 q11
        refine r_iload (q := 1) dL_law_928 rfl ?_
        refine r_if_ne (tgt := 945) dL_law_930 (by decide) (fun q12 => ?_) (fun q12 => ?_)
        · have t := t.1 q12
          refine r_goto (tgt := 1895) dL_law_945 (by decide) ?_
          refine r_sub [2, 3, 4, 5, 6] rfl ?_
          exact t
        · have t := t.2 q12
          refine r_aload_n (q := 5) dL_law_933 rfl rfl ?_
          refine r_iconst (v := (0 : Int32)) dL_law_934 rfl ?_
          refine r_lald (c := 98) dL_law_935 lay_98 vin01 ?_
          refine r_iload (q := 0) dL_law_936 rfl ?_
          refine r_i2l dL_law_938 ?_
          refine r_lcmp dL_law_939 ?_
          refine r_if_eq (tgt := 945) dL_law_940 (by decide) (fun q13 => ?_) (fun q13 => ?_)
          · have t := t.1 q13
            refine r_goto (tgt := 1895) dL_law_945 (by decide) ?_
            refine r_sub [2, 3, 4, 5, 6] rfl ?_
            exact t
          · have t := t.2 q13
            refine r_iconst (v := (0 : Int32)) dL_law_943 rfl ?_
            exact t.elim
      · have t := t.2 q11
        refine r_iconst (v := (0 : Int32)) dL_law_926 rfl ?_
        exact t.elim
  · have t := t.2 q1
    refine r_iconst (v := (1 : Int32)) dL_law_874 rfl ?_
    refine r_goto (tgt := 879) dL_law_875 (by decide) ?_
    refine r_aload_n (q := 3) dL_law_879 rfl rfl ?_
    refine q_hS (M' := ML_setMark) (n := 5) (k1 := 3) (As := [.ref (eA E 0), .int a1, .int a2, .int (1 : Int32), .ref (eA E 98)]) (hh := HL_setMark) dL_law_880 mkL_setMark inRL lh_164 (by decide +kernel) rfl (by decide) rfl (Nat.le_of_ble_eq_true rfl) hcs (by decide) t ?_
    intro v14 h14 t
    have hcs := hc2
    refine r_istore (lv' := [(5, .int v14), (0, .ref b), (1, .ref (eA E 0)), (2, .ref (eA E 63)), (3, .ref (eA E 98)), (4, .int x4)]) dL_law_883 (by decide) rfl ?_
    refine r_aload_n (q := 3) dL_law_885 rfl rfl ?_
    refine r_aload_n (q := 1) dL_law_886 rfl rfl ?_
    refine r_iload (q := 5) dL_law_887 rfl ?_
    refine r_iconst (v := (1 : Int32)) dL_law_889 rfl ?_
    refine r_iadd dL_law_890 ?_
    refine q_sld hX dL_law_891 s1 e1 ?_
    refine r_aload_n (q := 1) dL_law_892 rfl rfl ?_
    refine r_iload (q := 5) dL_law_893 rfl ?_
    refine r_iconst (v := (2 : Int32)) dL_law_895 rfl ?_
    refine r_iadd dL_law_896 ?_
    refine q_sld hX dL_law_897 s2 e2 ?_
    refine r_aload_n (q := 1) dL_law_898 rfl rfl ?_
    refine r_iload (q := 5) dL_law_899 rfl ?_
    refine r_iconst (v := (3 : Int32)) dL_law_901 rfl ?_
    refine r_iadd dL_law_902 ?_
    refine q_sld hX dL_law_903 s3 e3 ?_
    refine r_if_eq (tgt := 911) dL_law_904 (by decide) (fun q15 => ?_) (fun q15 => ?_)
    · have t := t.1 q15
      refine r_iconst (v := (0 : Int32)) dL_law_911 rfl ?_
      refine q_cVI (c := 63) (As := [.int a1, .int a2, .int (0 : Int32)]) dL_law_912 mkX10_setMark lkL_167 lay_63 rfl rfl rfl (by decide) rfl (Nat.le_of_ble_eq_true rfl) hcs t ?_
      intro v16 h16 t
      refine r_istore (lv' := [(6, .int v16), (5, .int v14), (0, .ref b), (1, .ref (eA E 0)), (2, .ref (eA E 63)), (3, .ref (eA E 98)), (4, .int x4)]) dL_law_915 (by decide) rfl ?_
      refine r_aload_n (q := 4) dL_law_917 rfl rfl ?_
      refine q_cVI (c := 63) (As := []) dL_law_918 mkX10_thrown lkL_129 lay_63 rfl rfl rfl (by decide) rfl (Nat.le_of_ble_eq_true rfl) hcs t ?_
      intro v17 h17 t
      refine r_iload (q := 1) dL_law_921 rfl ?_
      refine r_icmp_eq (tgt := 928) dL_law_923 (by decide) (fun q18 => ?_) (fun q18 => ?_)
      · have t := t.1 q18
        refine r_iload (q := 1) dL_law_928 rfl ?_
        refine r_if_ne (tgt := 945) dL_law_930 (by decide) (fun q19 => ?_) (fun q19 => ?_)
        · have t := t.1 q19
          refine r_goto (tgt := 1895) dL_law_945 (by decide) ?_
          refine r_sub [2, 3, 4, 5, 6] rfl ?_
          exact t
        · have t := t.2 q19
          refine r_aload_n (q := 5) dL_law_933 rfl rfl ?_
          refine r_iconst (v := (0 : Int32)) dL_law_934 rfl ?_
          refine r_lald (c := 98) dL_law_935 lay_98 vin01 ?_
          refine r_iload (q := 0) dL_law_936 rfl ?_
          refine r_i2l dL_law_938 ?_
          refine r_lcmp dL_law_939 ?_
          refine r_if_eq (tgt := 945) dL_law_940 (by decide) (fun q20 => ?_) (fun q20 => ?_)
          · have t := t.1 q20
            refine r_goto (tgt := 1895) dL_law_945 (by decide) ?_
            refine r_sub [2, 3, 4, 5, 6] rfl ?_
            exact t
          · have t := t.2 q20
            refine r_iconst (v := (0 : Int32)) dL_law_943 rfl ?_
            exact t.elim
      · have t := t.2 q18
        refine r_iconst (v := (0 : Int32)) dL_law_926 rfl ?_
        exact t.elim
    · have t := t.2 q15
      refine r_iconst (v := (1 : Int32)) dL_law_907 rfl ?_
      refine r_goto (tgt := 912) dL_law_908 (by decide) ?_
      refine q_cVI (c := 63) (As := [.int a1, .int a2, .int (1 : Int32)]) dL_law_912 mkX10_setMark lkL_167 lay_63 rfl rfl rfl (by decide) rfl (Nat.le_of_ble_eq_true rfl) hcs t ?_
      intro v21 h21 t
      refine r_istore (lv' := [(6, .int v21), (5, .int v14), (0, .ref b), (1, .ref (eA E 0)), (2, .ref (eA E 63)), (3, .ref (eA E 98)), (4, .int x4)]) dL_law_915 (by decide) rfl ?_
      refine r_aload_n (q := 4) dL_law_917 rfl rfl ?_
      refine q_cVI (c := 63) (As := []) dL_law_918 mkX10_thrown lkL_129 lay_63 rfl rfl rfl (by decide) rfl (Nat.le_of_ble_eq_true rfl) hcs t ?_
      intro v22 h22 t
      refine r_iload (q := 1) dL_law_921 rfl ?_
      refine r_icmp_eq (tgt := 928) dL_law_923 (by decide) (fun q23 => ?_) (fun q23 => ?_)
      · have t := t.1 q23
        refine r_iload (q := 1) dL_law_928 rfl ?_
        refine r_if_ne (tgt := 945) dL_law_930 (by decide) (fun q24 => ?_) (fun q24 => ?_)
        · have t := t.1 q24
          refine r_goto (tgt := 1895) dL_law_945 (by decide) ?_
          refine r_sub [2, 3, 4, 5, 6] rfl ?_
          exact t
        · have t := t.2 q24
          refine r_aload_n (q := 5) dL_law_933 rfl rfl ?_
          refine r_iconst (v := (0 : Int32)) dL_law_934 rfl ?_
          refine r_lald (c := 98) dL_law_935 lay_98 vin01 ?_
          refine r_iload (q := 0) dL_law_936 rfl ?_
          refine r_i2l dL_law_938 ?_
          refine r_lcmp dL_law_939 ?_
          refine r_if_eq (tgt := 945) dL_law_940 (by decide) (fun q25 => ?_) (fun q25 => ?_)
          · have t := t.1 q25
            refine r_goto (tgt := 1895) dL_law_945 (by decide) ?_
            refine r_sub [2, 3, 4, 5, 6] rfl ?_
            exact t
          · have t := t.2 q25
            refine r_iconst (v := (0 : Int32)) dL_law_943 rfl ?_
            exact t.elim
      · have t := t.2 q23
        refine r_iconst (v := (0 : Int32)) dL_law_926 rfl ?_
        exact t.elim
def Tc17 (E : En) (h : Hp) (K : En → Hp → Prop) : Prop := SpI E 200 MX9_undo [.ref (eA E 0)] h (fun v1 h1 => SpI E 200 MX10_undo [.ref (eA E 63)] h1 (fun v2 h2 => (v1 = v2 → (K E h2)) ∧ (¬ v1 = v2 → (False))))
set_option maxRecDepth 20000 in
theorem law_c17 {E : En} {g : Ga} {b L : Nat} {xs : Nat → Int32} {x4 : Int32} {h : Hp} {cells slots : Nat} (hX : Scr E g b L xs) (hcs : cells + 8 ≤ 601024 ∧ slots + 48 ≤ 7293034) (t : Tc17 E h (fun E2 h2 => VL E2 g b x4 (cells + 0) (slots + 6 * 0) h2)) : V E ML room_1 g (LQ g) cells slots h 948 [(0, .ref b), (1, .ref (eA E 0)), (2, .ref (eA E 63)), (3, .ref (eA E 98)), (4, .int x4)] [] := by
  unfold Tc17 at t
  refine r_aload_n (q := 1) dL_law_948 rfl rfl ?_
  refine q_cVI (c := 0) (As := []) dL_law_949 mkX9_undo lkL_168 lay_0 rfl rfl rfl (by decide) rfl (Nat.le_of_ble_eq_true rfl) hcs t ?_
  intro v1 h1 t
  refine r_aload_n (q := 2) dL_law_952 rfl rfl ?_
  refine q_cVI (c := 63) (As := []) dL_law_953 mkX10_undo lkL_171 lay_63 rfl rfl rfl (by decide) rfl (Nat.le_of_ble_eq_true rfl) hcs t ?_
  intro v2 h2 t
  refine r_icmp_eq (tgt := 1895) dL_law_956 (by decide) (fun q3 => ?_) (fun q3 => ?_)
  · have t := t.1 q3
    refine r_sub [0, 1, 2, 3, 4] rfl ?_
    exact t
  · have t := t.2 q3
    refine r_iconst (v := (0 : Int32)) dL_law_959 rfl ?_
    exact t.elim
def Tc18 (E : En) (a1 : Int32) (h : Hp) (K : En → Hp → Prop) : Prop := SpH E 200 1 ML_wordCount HL_wordCount [.ref (eA E 0), .int a1, .ref (eA E 98)] h (fun v1 h1 => SpI E 200 MX10_wordCount [.ref (eA E 63), .int a1] h1 (fun v2 h2 => SpI E 200 MX10_thrown [.ref (eA E 63)] h2 (fun v3 h3 => (v3 = v1 → ((¬ v1 = 0 → (K E h3)) ∧ (v1 = 0 → (((lg_cmp (h3.2 98 0) v2.toInt64) = 0 → (K E h3)) ∧ (¬ (lg_cmp (h3.2 98 0) v2.toInt64) = 0 → (False)))))) ∧ (¬ v3 = v1 → (False)))))
set_option maxRecDepth 20000 in
theorem law_c18 {E : En} {g : Ga} {b L : Nat} {xs : Nat → Int32} {x4 : Int32} {h : Hp} {cells slots : Nat} (hX : Scr E g b L xs) {a1 : Int32} (s1 : vp_in (x4 + (1 : Int32)) L) (e1 : xs (x4 + (1 : Int32)).toNatClampNeg = a1) (hcs : cells + 8 ≤ 601024 ∧ slots + 48 ≤ 7293034) (hc2 : cells + 1 + 8 ≤ 601024 ∧ slots + 6 * 1 + 48 ≤ 7293034) (t : Tc18 E a1 h (fun E2 h2 => VL E2 g b x4 (cells + 1) (slots + 6 * 1) h2)) : V E ML room_1 g (LQ g) cells slots h 961 [(0, .ref b), (1, .ref (eA E 0)), (2, .ref (eA E 63)), (3, .ref (eA E 98)), (4, .int x4)] [] := by
  unfold Tc18 at t
  refine r_aload_n (q := 1) dL_law_961 rfl rfl ?_
  refine r_aload_n (q := 0) dL_law_962 rfl rfl ?_
  refine r_iload (q := 4) dL_law_963 rfl ?_
  refine r_iconst (v := (1 : Int32)) dL_law_965 rfl ?_
  refine r_iadd dL_law_966 ?_
  refine q_sld hX dL_law_967 s1 e1 ?_
  refine r_aload_n (q := 3) dL_law_968 rfl rfl ?_
  refine q_hS (M' := ML_wordCount) (n := 3) (k1 := 1) (As := [.ref (eA E 0), .int a1, .ref (eA E 98)]) (hh := HL_wordCount) dL_law_969 mkL_wordCount inRL lh_172 (by decide +kernel) rfl (by decide) rfl (Nat.le_of_ble_eq_true rfl) hcs (by decide) t ?_
  intro v1 h1 t
  have hcs := hc2
  refine r_istore (lv' := [(5, .int v1), (0, .ref b), (1, .ref (eA E 0)), (2, .ref (eA E 63)), (3, .ref (eA E 98)), (4, .int x4)]) dL_law_972 (by decide) rfl ?_
  refine r_aload_n (q := 3) dL_law_974 rfl rfl ?_
  refine r_aload_n (q := 1) dL_law_975 rfl rfl ?_
  refine r_iload (q := 5) dL_law_976 rfl ?_
  refine r_iconst (v := (1 : Int32)) dL_law_978 rfl ?_
  refine r_iadd dL_law_979 ?_
  refine q_sld hX dL_law_980 s1 e1 ?_
  refine q_cVI (c := 63) (As := [.int a1]) dL_law_981 mkX10_wordCount lkL_174 lay_63 rfl rfl rfl (by decide) rfl (Nat.le_of_ble_eq_true rfl) hcs t ?_
  intro v2 h2 t
  refine r_istore (lv' := [(6, .int v2), (5, .int v1), (0, .ref b), (1, .ref (eA E 0)), (2, .ref (eA E 63)), (3, .ref (eA E 98)), (4, .int x4)]) dL_law_984 (by decide) rfl ?_
  refine r_aload_n (q := 4) dL_law_986 rfl rfl ?_
  refine q_cVI (c := 63) (As := []) dL_law_987 mkX10_thrown lkL_129 lay_63 rfl rfl rfl (by decide) rfl (Nat.le_of_ble_eq_true rfl) hcs t ?_
  intro v3 h3 t
  refine r_iload (q := 1) dL_law_990 rfl ?_
  refine r_icmp_eq (tgt := 997) dL_law_992 (by decide) (fun q4 => ?_) (fun q4 => ?_)
  · have t := t.1 q4
    refine r_iload (q := 1) dL_law_997 rfl ?_
    refine r_if_ne (tgt := 1014) dL_law_999 (by decide) (fun q5 => ?_) (fun q5 => ?_)
    · have t := t.1 q5
      refine r_goto (tgt := 1895) dL_law_1014 (by decide) ?_
      refine r_sub [2, 3, 4, 5, 6] rfl ?_
      exact t
    · have t := t.2 q5
      refine r_aload_n (q := 5) dL_law_1002 rfl rfl ?_
      refine r_iconst (v := (0 : Int32)) dL_law_1003 rfl ?_
      refine r_lald (c := 98) dL_law_1004 lay_98 vin01 ?_
      refine r_iload (q := 0) dL_law_1005 rfl ?_
      refine r_i2l dL_law_1007 ?_
      refine r_lcmp dL_law_1008 ?_
      refine r_if_eq (tgt := 1014) dL_law_1009 (by decide) (fun q6 => ?_) (fun q6 => ?_)
      · have t := t.1 q6
        refine r_goto (tgt := 1895) dL_law_1014 (by decide) ?_
        refine r_sub [2, 3, 4, 5, 6] rfl ?_
        exact t
      · have t := t.2 q6
        refine r_iconst (v := (0 : Int32)) dL_law_1012 rfl ?_
        exact t.elim
  · have t := t.2 q4
    refine r_iconst (v := (0 : Int32)) dL_law_995 rfl ?_
    exact t.elim
def Tc19 (E : En) (a1 : Int32) (a2 : Int32) (h : Hp) (K : En → Hp → Prop) : Prop := SpH E 200 2 ML_word HL_word [.ref (eA E 0), .int a1, .int a2, .ref (eA E 98)] h (fun v1 h1 => SpI E 200 MX10_word [.ref (eA E 63), .int a1, .int a2] h1 (fun v2 h2 => SpI E 200 MX10_thrown [.ref (eA E 63)] h2 (fun v3 h3 => (v3 = v1 → ((¬ v1 = 0 → (K E h3)) ∧ (v1 = 0 → (((lg_cmp (h3.2 98 0) v2.toInt64) = 0 → (K E h3)) ∧ (¬ (lg_cmp (h3.2 98 0) v2.toInt64) = 0 → (False)))))) ∧ (¬ v3 = v1 → (False)))))
set_option maxRecDepth 20000 in
theorem law_c19 {E : En} {g : Ga} {b L : Nat} {xs : Nat → Int32} {x4 : Int32} {h : Hp} {cells slots : Nat} (hX : Scr E g b L xs) {a1 : Int32} (s1 : vp_in (x4 + (1 : Int32)) L) (e1 : xs (x4 + (1 : Int32)).toNatClampNeg = a1) {a2 : Int32} (s2 : vp_in (x4 + (2 : Int32)) L) (e2 : xs (x4 + (2 : Int32)).toNatClampNeg = a2) (hcs : cells + 8 ≤ 601024 ∧ slots + 48 ≤ 7293034) (hc2 : cells + 2 + 8 ≤ 601024 ∧ slots + 6 * 2 + 48 ≤ 7293034) (t : Tc19 E a1 a2 h (fun E2 h2 => VL E2 g b x4 (cells + 2) (slots + 6 * 2) h2)) : V E ML room_1 g (LQ g) cells slots h 1017 [(0, .ref b), (1, .ref (eA E 0)), (2, .ref (eA E 63)), (3, .ref (eA E 98)), (4, .int x4)] [] := by
  unfold Tc19 at t
  refine r_aload_n (q := 1) dL_law_1017 rfl rfl ?_
  refine r_aload_n (q := 0) dL_law_1018 rfl rfl ?_
  refine r_iload (q := 4) dL_law_1019 rfl ?_
  refine r_iconst (v := (1 : Int32)) dL_law_1021 rfl ?_
  refine r_iadd dL_law_1022 ?_
  refine q_sld hX dL_law_1023 s1 e1 ?_
  refine r_aload_n (q := 0) dL_law_1024 rfl rfl ?_
  refine r_iload (q := 4) dL_law_1025 rfl ?_
  refine r_iconst (v := (2 : Int32)) dL_law_1027 rfl ?_
  refine r_iadd dL_law_1028 ?_
  refine q_sld hX dL_law_1029 s2 e2 ?_
  refine r_aload_n (q := 3) dL_law_1030 rfl rfl ?_
  refine q_hS (M' := ML_word) (n := 4) (k1 := 2) (As := [.ref (eA E 0), .int a1, .int a2, .ref (eA E 98)]) (hh := HL_word) dL_law_1031 mkL_word inRL lh_175 (by decide +kernel) rfl (by decide) rfl (Nat.le_of_ble_eq_true rfl) hcs (by decide) t ?_
  intro v1 h1 t
  have hcs := hc2
  refine r_istore (lv' := [(5, .int v1), (0, .ref b), (1, .ref (eA E 0)), (2, .ref (eA E 63)), (3, .ref (eA E 98)), (4, .int x4)]) dL_law_1034 (by decide) rfl ?_
  refine r_aload_n (q := 3) dL_law_1036 rfl rfl ?_
  refine r_aload_n (q := 1) dL_law_1037 rfl rfl ?_
  refine r_iload (q := 5) dL_law_1038 rfl ?_
  refine r_iconst (v := (1 : Int32)) dL_law_1040 rfl ?_
  refine r_iadd dL_law_1041 ?_
  refine q_sld hX dL_law_1042 s1 e1 ?_
  refine r_aload_n (q := 1) dL_law_1043 rfl rfl ?_
  refine r_iload (q := 5) dL_law_1044 rfl ?_
  refine r_iconst (v := (2 : Int32)) dL_law_1046 rfl ?_
  refine r_iadd dL_law_1047 ?_
  refine q_sld hX dL_law_1048 s2 e2 ?_
  refine q_cVI (c := 63) (As := [.int a1, .int a2]) dL_law_1049 mkX10_word lkL_177 lay_63 rfl rfl rfl (by decide) rfl (Nat.le_of_ble_eq_true rfl) hcs t ?_
  intro v2 h2 t
  refine r_istore (lv' := [(6, .int v2), (5, .int v1), (0, .ref b), (1, .ref (eA E 0)), (2, .ref (eA E 63)), (3, .ref (eA E 98)), (4, .int x4)]) dL_law_1052 (by decide) rfl ?_
  refine r_aload_n (q := 4) dL_law_1054 rfl rfl ?_
  refine q_cVI (c := 63) (As := []) dL_law_1055 mkX10_thrown lkL_129 lay_63 rfl rfl rfl (by decide) rfl (Nat.le_of_ble_eq_true rfl) hcs t ?_
  intro v3 h3 t
  refine r_iload (q := 1) dL_law_1058 rfl ?_
  refine r_icmp_eq (tgt := 1065) dL_law_1060 (by decide) (fun q4 => ?_) (fun q4 => ?_)
  · have t := t.1 q4
    refine r_iload (q := 1) dL_law_1065 rfl ?_
    refine r_if_ne (tgt := 1082) dL_law_1067 (by decide) (fun q5 => ?_) (fun q5 => ?_)
    · have t := t.1 q5
      refine r_goto (tgt := 1895) dL_law_1082 (by decide) ?_
      refine r_sub [2, 3, 4, 5, 6] rfl ?_
      exact t
    · have t := t.2 q5
      refine r_aload_n (q := 5) dL_law_1070 rfl rfl ?_
      refine r_iconst (v := (0 : Int32)) dL_law_1071 rfl ?_
      refine r_lald (c := 98) dL_law_1072 lay_98 vin01 ?_
      refine r_iload (q := 0) dL_law_1073 rfl ?_
      refine r_i2l dL_law_1075 ?_
      refine r_lcmp dL_law_1076 ?_
      refine r_if_eq (tgt := 1082) dL_law_1077 (by decide) (fun q6 => ?_) (fun q6 => ?_)
      · have t := t.1 q6
        refine r_goto (tgt := 1895) dL_law_1082 (by decide) ?_
        refine r_sub [2, 3, 4, 5, 6] rfl ?_
        exact t
      · have t := t.2 q6
        refine r_iconst (v := (0 : Int32)) dL_law_1080 rfl ?_
        exact t.elim
  · have t := t.2 q4
    refine r_iconst (v := (0 : Int32)) dL_law_1063 rfl ?_
    exact t.elim
def Tc20 (E : En) (a1 : Int32) (h : Hp) (K : En → Hp → Prop) : Prop := SpH E 200 1 ML_chain HL_chain [.ref (eA E 0), .int a1, .ref (eA E 98)] h (fun v1 h1 => SpI E 200 MX10_chain [.ref (eA E 63), .int a1] h1 (fun v2 h2 => SpI E 200 MX10_thrown [.ref (eA E 63)] h2 (fun v3 h3 => (v3 = v1 → ((¬ v1 = 0 → (K E h3)) ∧ (v1 = 0 → (((lg_cmp (h3.2 98 0) v2.toInt64) = 0 → (K E h3)) ∧ (¬ (lg_cmp (h3.2 98 0) v2.toInt64) = 0 → (False)))))) ∧ (¬ v3 = v1 → (False)))))
set_option maxRecDepth 20000 in
theorem law_c20 {E : En} {g : Ga} {b L : Nat} {xs : Nat → Int32} {x4 : Int32} {h : Hp} {cells slots : Nat} (hX : Scr E g b L xs) {a1 : Int32} (s1 : vp_in (x4 + (1 : Int32)) L) (e1 : xs (x4 + (1 : Int32)).toNatClampNeg = a1) (hcs : cells + 8 ≤ 601024 ∧ slots + 48 ≤ 7293034) (hc2 : cells + 1 + 8 ≤ 601024 ∧ slots + 6 * 1 + 48 ≤ 7293034) (t : Tc20 E a1 h (fun E2 h2 => VL E2 g b x4 (cells + 1) (slots + 6 * 1) h2)) : V E ML room_1 g (LQ g) cells slots h 1085 [(0, .ref b), (1, .ref (eA E 0)), (2, .ref (eA E 63)), (3, .ref (eA E 98)), (4, .int x4)] [] := by
  unfold Tc20 at t
  refine r_aload_n (q := 1) dL_law_1085 rfl rfl ?_
  refine r_aload_n (q := 0) dL_law_1086 rfl rfl ?_
  refine r_iload (q := 4) dL_law_1087 rfl ?_
  refine r_iconst (v := (1 : Int32)) dL_law_1089 rfl ?_
  refine r_iadd dL_law_1090 ?_
  refine q_sld hX dL_law_1091 s1 e1 ?_
  refine r_aload_n (q := 3) dL_law_1092 rfl rfl ?_
  refine q_hS (M' := ML_chain) (n := 3) (k1 := 1) (As := [.ref (eA E 0), .int a1, .ref (eA E 98)]) (hh := HL_chain) dL_law_1093 mkL_chain inRL lh_178 (by decide +kernel) rfl (by decide) rfl (Nat.le_of_ble_eq_true rfl) hcs (by decide) t ?_
  intro v1 h1 t
  have hcs := hc2
  refine r_istore (lv' := [(5, .int v1), (0, .ref b), (1, .ref (eA E 0)), (2, .ref (eA E 63)), (3, .ref (eA E 98)), (4, .int x4)]) dL_law_1096 (by decide) rfl ?_
  refine r_aload_n (q := 3) dL_law_1098 rfl rfl ?_
  refine r_aload_n (q := 1) dL_law_1099 rfl rfl ?_
  refine r_iload (q := 5) dL_law_1100 rfl ?_
  refine r_iconst (v := (1 : Int32)) dL_law_1102 rfl ?_
  refine r_iadd dL_law_1103 ?_
  refine q_sld hX dL_law_1104 s1 e1 ?_
  refine q_cVI (c := 63) (As := [.int a1]) dL_law_1105 mkX10_chain lkL_180 lay_63 rfl rfl rfl (by decide) rfl (Nat.le_of_ble_eq_true rfl) hcs t ?_
  intro v2 h2 t
  refine r_istore (lv' := [(6, .int v2), (5, .int v1), (0, .ref b), (1, .ref (eA E 0)), (2, .ref (eA E 63)), (3, .ref (eA E 98)), (4, .int x4)]) dL_law_1108 (by decide) rfl ?_
  refine r_aload_n (q := 4) dL_law_1110 rfl rfl ?_
  refine q_cVI (c := 63) (As := []) dL_law_1111 mkX10_thrown lkL_129 lay_63 rfl rfl rfl (by decide) rfl (Nat.le_of_ble_eq_true rfl) hcs t ?_
  intro v3 h3 t
  refine r_iload (q := 1) dL_law_1114 rfl ?_
  refine r_icmp_eq (tgt := 1121) dL_law_1116 (by decide) (fun q4 => ?_) (fun q4 => ?_)
  · have t := t.1 q4
    refine r_iload (q := 1) dL_law_1121 rfl ?_
    refine r_if_ne (tgt := 1138) dL_law_1123 (by decide) (fun q5 => ?_) (fun q5 => ?_)
    · have t := t.1 q5
      refine r_goto (tgt := 1895) dL_law_1138 (by decide) ?_
      refine r_sub [2, 3, 4, 5, 6] rfl ?_
      exact t
    · have t := t.2 q5
      refine r_aload_n (q := 5) dL_law_1126 rfl rfl ?_
      refine r_iconst (v := (0 : Int32)) dL_law_1127 rfl ?_
      refine r_lald (c := 98) dL_law_1128 lay_98 vin01 ?_
      refine r_iload (q := 0) dL_law_1129 rfl ?_
      refine r_i2l dL_law_1131 ?_
      refine r_lcmp dL_law_1132 ?_
      refine r_if_eq (tgt := 1138) dL_law_1133 (by decide) (fun q6 => ?_) (fun q6 => ?_)
      · have t := t.1 q6
        refine r_goto (tgt := 1895) dL_law_1138 (by decide) ?_
        refine r_sub [2, 3, 4, 5, 6] rfl ?_
        exact t
      · have t := t.2 q6
        refine r_iconst (v := (0 : Int32)) dL_law_1136 rfl ?_
        exact t.elim
  · have t := t.2 q4
    refine r_iconst (v := (0 : Int32)) dL_law_1119 rfl ?_
    exact t.elim
def Tc21 (E : En) (a1 : Int32) (h : Hp) (K : En → Hp → Prop) : Prop := SpH E 200 1 ML_latency HL_latency [.ref (eA E 0), .int a1, .ref (eA E 98)] h (fun v1 h1 => SpI E 200 MX10_latency [.ref (eA E 63), .int a1] h1 (fun v2 h2 => SpI E 200 MX10_thrown [.ref (eA E 63)] h2 (fun v3 h3 => (v3 = v1 → ((¬ v1 = 0 → (K E h3)) ∧ (v1 = 0 → (((lg_cmp (h3.2 98 0) v2.toInt64) = 0 → (K E h3)) ∧ (¬ (lg_cmp (h3.2 98 0) v2.toInt64) = 0 → (False)))))) ∧ (¬ v3 = v1 → (False)))))
set_option maxRecDepth 20000 in
theorem law_c21 {E : En} {g : Ga} {b L : Nat} {xs : Nat → Int32} {x4 : Int32} {h : Hp} {cells slots : Nat} (hX : Scr E g b L xs) {a1 : Int32} (s1 : vp_in (x4 + (1 : Int32)) L) (e1 : xs (x4 + (1 : Int32)).toNatClampNeg = a1) (hcs : cells + 8 ≤ 601024 ∧ slots + 48 ≤ 7293034) (hc2 : cells + 1 + 8 ≤ 601024 ∧ slots + 6 * 1 + 48 ≤ 7293034) (t : Tc21 E a1 h (fun E2 h2 => VL E2 g b x4 (cells + 1) (slots + 6 * 1) h2)) : V E ML room_1 g (LQ g) cells slots h 1141 [(0, .ref b), (1, .ref (eA E 0)), (2, .ref (eA E 63)), (3, .ref (eA E 98)), (4, .int x4)] [] := by
  unfold Tc21 at t
  refine r_aload_n (q := 1) dL_law_1141 rfl rfl ?_
  refine r_aload_n (q := 0) dL_law_1142 rfl rfl ?_
  refine r_iload (q := 4) dL_law_1143 rfl ?_
  refine r_iconst (v := (1 : Int32)) dL_law_1145 rfl ?_
  refine r_iadd dL_law_1146 ?_
  refine q_sld hX dL_law_1147 s1 e1 ?_
  refine r_aload_n (q := 3) dL_law_1148 rfl rfl ?_
  refine q_hS (M' := ML_latency) (n := 3) (k1 := 1) (As := [.ref (eA E 0), .int a1, .ref (eA E 98)]) (hh := HL_latency) dL_law_1149 mkL_latency inRL lh_181 (by decide +kernel) rfl (by decide) rfl (Nat.le_of_ble_eq_true rfl) hcs (by decide) t ?_
  intro v1 h1 t
  have hcs := hc2
  refine r_istore (lv' := [(5, .int v1), (0, .ref b), (1, .ref (eA E 0)), (2, .ref (eA E 63)), (3, .ref (eA E 98)), (4, .int x4)]) dL_law_1152 (by decide) rfl ?_
  refine r_aload_n (q := 3) dL_law_1154 rfl rfl ?_
  refine r_aload_n (q := 1) dL_law_1155 rfl rfl ?_
  refine r_iload (q := 5) dL_law_1156 rfl ?_
  refine r_iconst (v := (1 : Int32)) dL_law_1158 rfl ?_
  refine r_iadd dL_law_1159 ?_
  refine q_sld hX dL_law_1160 s1 e1 ?_
  refine q_cVI (c := 63) (As := [.int a1]) dL_law_1161 mkX10_latency lkL_183 lay_63 rfl rfl rfl (by decide) rfl (Nat.le_of_ble_eq_true rfl) hcs t ?_
  intro v2 h2 t
  refine r_istore (lv' := [(6, .int v2), (5, .int v1), (0, .ref b), (1, .ref (eA E 0)), (2, .ref (eA E 63)), (3, .ref (eA E 98)), (4, .int x4)]) dL_law_1164 (by decide) rfl ?_
  refine r_aload_n (q := 4) dL_law_1166 rfl rfl ?_
  refine q_cVI (c := 63) (As := []) dL_law_1167 mkX10_thrown lkL_129 lay_63 rfl rfl rfl (by decide) rfl (Nat.le_of_ble_eq_true rfl) hcs t ?_
  intro v3 h3 t
  refine r_iload (q := 1) dL_law_1170 rfl ?_
  refine r_icmp_eq (tgt := 1177) dL_law_1172 (by decide) (fun q4 => ?_) (fun q4 => ?_)
  · have t := t.1 q4
    refine r_iload (q := 1) dL_law_1177 rfl ?_
    refine r_if_ne (tgt := 1194) dL_law_1179 (by decide) (fun q5 => ?_) (fun q5 => ?_)
    · have t := t.1 q5
      refine r_goto (tgt := 1895) dL_law_1194 (by decide) ?_
      refine r_sub [2, 3, 4, 5, 6] rfl ?_
      exact t
    · have t := t.2 q5
      refine r_aload_n (q := 5) dL_law_1182 rfl rfl ?_
      refine r_iconst (v := (0 : Int32)) dL_law_1183 rfl ?_
      refine r_lald (c := 98) dL_law_1184 lay_98 vin01 ?_
      refine r_iload (q := 0) dL_law_1185 rfl ?_
      refine r_i2l dL_law_1187 ?_
      refine r_lcmp dL_law_1188 ?_
      refine r_if_eq (tgt := 1194) dL_law_1189 (by decide) (fun q6 => ?_) (fun q6 => ?_)
      · have t := t.1 q6
        refine r_goto (tgt := 1895) dL_law_1194 (by decide) ?_
        refine r_sub [2, 3, 4, 5, 6] rfl ?_
        exact t
      · have t := t.2 q6
        refine r_iconst (v := (0 : Int32)) dL_law_1192 rfl ?_
        exact t.elim
  · have t := t.2 q4
    refine r_iconst (v := (0 : Int32)) dL_law_1175 rfl ?_
    exact t.elim
def Tc22 (E : En) (h : Hp) (K : En → Hp → Prop) : Prop := SpI E 200 MX9_storeSize [.ref (eA E 0)] h (fun v1 h1 => SpI E 200 MX10_storeSize [.ref (eA E 63)] h1 (fun v2 h2 => (v1 = v2 → (K E h2)) ∧ (¬ v1 = v2 → (False))))
set_option maxRecDepth 20000 in
theorem law_c22 {E : En} {g : Ga} {b L : Nat} {xs : Nat → Int32} {x4 : Int32} {h : Hp} {cells slots : Nat} (hX : Scr E g b L xs) (hcs : cells + 8 ≤ 601024 ∧ slots + 48 ≤ 7293034) (t : Tc22 E h (fun E2 h2 => VL E2 g b x4 (cells + 0) (slots + 6 * 0) h2)) : V E ML room_1 g (LQ g) cells slots h 1197 [(0, .ref b), (1, .ref (eA E 0)), (2, .ref (eA E 63)), (3, .ref (eA E 98)), (4, .int x4)] [] := by
  unfold Tc22 at t
  refine r_aload_n (q := 1) dL_law_1197 rfl rfl ?_
  refine q_cVI (c := 0) (As := []) dL_law_1198 mkX9_storeSize lkL_184 lay_0 rfl rfl rfl (by decide) rfl (Nat.le_of_ble_eq_true rfl) hcs t ?_
  intro v1 h1 t
  refine r_aload_n (q := 2) dL_law_1201 rfl rfl ?_
  refine q_cVI (c := 63) (As := []) dL_law_1202 mkX10_storeSize lkL_187 lay_63 rfl rfl rfl (by decide) rfl (Nat.le_of_ble_eq_true rfl) hcs t ?_
  intro v2 h2 t
  refine r_icmp_eq (tgt := 1895) dL_law_1205 (by decide) (fun q3 => ?_) (fun q3 => ?_)
  · have t := t.1 q3
    refine r_sub [0, 1, 2, 3, 4] rfl ?_
    exact t
  · have t := t.2 q3
    refine r_iconst (v := (0 : Int32)) dL_law_1208 rfl ?_
    exact t.elim
def Tc23 (E : En) (a1 : Int32) (h : Hp) (K : En → Hp → Prop) : Prop := SpH E 200 1 ML_entry HL_entry [.ref (eA E 0), .int a1, .ref (eA E 98)] h (fun v1 h1 => SpI E 200 MX10_entry [.ref (eA E 63), .int a1] h1 (fun v2 h2 => SpI E 200 MX10_thrown [.ref (eA E 63)] h2 (fun v3 h3 => (v3 = v1 → ((¬ v1 = 0 → (K E h3)) ∧ (v1 = 0 → (((lg_cmp (h3.2 98 0) v2.toInt64) = 0 → (K E h3)) ∧ (¬ (lg_cmp (h3.2 98 0) v2.toInt64) = 0 → (False)))))) ∧ (¬ v3 = v1 → (False)))))
set_option maxRecDepth 20000 in
theorem law_c23 {E : En} {g : Ga} {b L : Nat} {xs : Nat → Int32} {x4 : Int32} {h : Hp} {cells slots : Nat} (hX : Scr E g b L xs) {a1 : Int32} (s1 : vp_in (x4 + (1 : Int32)) L) (e1 : xs (x4 + (1 : Int32)).toNatClampNeg = a1) (hcs : cells + 8 ≤ 601024 ∧ slots + 48 ≤ 7293034) (hc2 : cells + 1 + 8 ≤ 601024 ∧ slots + 6 * 1 + 48 ≤ 7293034) (t : Tc23 E a1 h (fun E2 h2 => VL E2 g b x4 (cells + 1) (slots + 6 * 1) h2)) : V E ML room_1 g (LQ g) cells slots h 1210 [(0, .ref b), (1, .ref (eA E 0)), (2, .ref (eA E 63)), (3, .ref (eA E 98)), (4, .int x4)] [] := by
  unfold Tc23 at t
  refine r_aload_n (q := 1) dL_law_1210 rfl rfl ?_
  refine r_aload_n (q := 0) dL_law_1211 rfl rfl ?_
  refine r_iload (q := 4) dL_law_1212 rfl ?_
  refine r_iconst (v := (1 : Int32)) dL_law_1214 rfl ?_
  refine r_iadd dL_law_1215 ?_
  refine q_sld hX dL_law_1216 s1 e1 ?_
  refine r_aload_n (q := 3) dL_law_1217 rfl rfl ?_
  refine q_hS (M' := ML_entry) (n := 3) (k1 := 1) (As := [.ref (eA E 0), .int a1, .ref (eA E 98)]) (hh := HL_entry) dL_law_1218 mkL_entry inRL lh_188 (by decide +kernel) rfl (by decide) rfl (Nat.le_of_ble_eq_true rfl) hcs (by decide) t ?_
  intro v1 h1 t
  have hcs := hc2
  refine r_istore (lv' := [(5, .int v1), (0, .ref b), (1, .ref (eA E 0)), (2, .ref (eA E 63)), (3, .ref (eA E 98)), (4, .int x4)]) dL_law_1221 (by decide) rfl ?_
  refine r_aload_n (q := 3) dL_law_1223 rfl rfl ?_
  refine r_aload_n (q := 1) dL_law_1224 rfl rfl ?_
  refine r_iload (q := 5) dL_law_1225 rfl ?_
  refine r_iconst (v := (1 : Int32)) dL_law_1227 rfl ?_
  refine r_iadd dL_law_1228 ?_
  refine q_sld hX dL_law_1229 s1 e1 ?_
  refine q_cVI (c := 63) (As := [.int a1]) dL_law_1230 mkX10_entry lkL_190 lay_63 rfl rfl rfl (by decide) rfl (Nat.le_of_ble_eq_true rfl) hcs t ?_
  intro v2 h2 t
  refine r_istore (lv' := [(6, .int v2), (5, .int v1), (0, .ref b), (1, .ref (eA E 0)), (2, .ref (eA E 63)), (3, .ref (eA E 98)), (4, .int x4)]) dL_law_1233 (by decide) rfl ?_
  refine r_aload_n (q := 4) dL_law_1235 rfl rfl ?_
  refine q_cVI (c := 63) (As := []) dL_law_1236 mkX10_thrown lkL_129 lay_63 rfl rfl rfl (by decide) rfl (Nat.le_of_ble_eq_true rfl) hcs t ?_
  intro v3 h3 t
  refine r_iload (q := 1) dL_law_1239 rfl ?_
  refine r_icmp_eq (tgt := 1246) dL_law_1241 (by decide) (fun q4 => ?_) (fun q4 => ?_)
  · have t := t.1 q4
    refine r_iload (q := 1) dL_law_1246 rfl ?_
    refine r_if_ne (tgt := 1263) dL_law_1248 (by decide) (fun q5 => ?_) (fun q5 => ?_)
    · have t := t.1 q5
      refine r_goto (tgt := 1895) dL_law_1263 (by decide) ?_
      refine r_sub [2, 3, 4, 5, 6] rfl ?_
      exact t
    · have t := t.2 q5
      refine r_aload_n (q := 5) dL_law_1251 rfl rfl ?_
      refine r_iconst (v := (0 : Int32)) dL_law_1252 rfl ?_
      refine r_lald (c := 98) dL_law_1253 lay_98 vin01 ?_
      refine r_iload (q := 0) dL_law_1254 rfl ?_
      refine r_i2l dL_law_1256 ?_
      refine r_lcmp dL_law_1257 ?_
      refine r_if_eq (tgt := 1263) dL_law_1258 (by decide) (fun q6 => ?_) (fun q6 => ?_)
      · have t := t.1 q6
        refine r_goto (tgt := 1895) dL_law_1263 (by decide) ?_
        refine r_sub [2, 3, 4, 5, 6] rfl ?_
        exact t
      · have t := t.2 q6
        refine r_iconst (v := (0 : Int32)) dL_law_1261 rfl ?_
        exact t.elim
  · have t := t.2 q4
    refine r_iconst (v := (0 : Int32)) dL_law_1244 rfl ?_
    exact t.elim
def Tc24 (E : En) (a1 : Int32) (a2 : Int32) (h : Hp) (K : En → Hp → Prop) : Prop := SpH E 200 2 ML_store HL_store [.ref (eA E 0), .int a1, .int a2, .ref (eA E 98)] h (fun v1 h1 => SpI E 200 MX10_store [.ref (eA E 63), .int a1, .int a2] h1 (fun v2 h2 => SpI E 200 MX10_thrown [.ref (eA E 63)] h2 (fun v3 h3 => (v3 = v1 → ((¬ v1 = 0 → (K E h3)) ∧ (v1 = 0 → (((lg_cmp (h3.2 98 0) v2.toInt64) = 0 → (K E h3)) ∧ (¬ (lg_cmp (h3.2 98 0) v2.toInt64) = 0 → (False)))))) ∧ (¬ v3 = v1 → (False)))))
set_option maxRecDepth 20000 in
theorem law_c24 {E : En} {g : Ga} {b L : Nat} {xs : Nat → Int32} {x4 : Int32} {h : Hp} {cells slots : Nat} (hX : Scr E g b L xs) {a1 : Int32} (s1 : vp_in (x4 + (1 : Int32)) L) (e1 : xs (x4 + (1 : Int32)).toNatClampNeg = a1) {a2 : Int32} (s2 : vp_in (x4 + (2 : Int32)) L) (e2 : xs (x4 + (2 : Int32)).toNatClampNeg = a2) (hcs : cells + 8 ≤ 601024 ∧ slots + 48 ≤ 7293034) (hc2 : cells + 2 + 8 ≤ 601024 ∧ slots + 6 * 2 + 48 ≤ 7293034) (t : Tc24 E a1 a2 h (fun E2 h2 => VL E2 g b x4 (cells + 2) (slots + 6 * 2) h2)) : V E ML room_1 g (LQ g) cells slots h 1266 [(0, .ref b), (1, .ref (eA E 0)), (2, .ref (eA E 63)), (3, .ref (eA E 98)), (4, .int x4)] [] := by
  unfold Tc24 at t
  refine r_aload_n (q := 1) dL_law_1266 rfl rfl ?_
  refine r_aload_n (q := 0) dL_law_1267 rfl rfl ?_
  refine r_iload (q := 4) dL_law_1268 rfl ?_
  refine r_iconst (v := (1 : Int32)) dL_law_1270 rfl ?_
  refine r_iadd dL_law_1271 ?_
  refine q_sld hX dL_law_1272 s1 e1 ?_
  refine r_aload_n (q := 0) dL_law_1273 rfl rfl ?_
  refine r_iload (q := 4) dL_law_1274 rfl ?_
  refine r_iconst (v := (2 : Int32)) dL_law_1276 rfl ?_
  refine r_iadd dL_law_1277 ?_
  refine q_sld hX dL_law_1278 s2 e2 ?_
  refine r_aload_n (q := 3) dL_law_1279 rfl rfl ?_
  refine q_hS (M' := ML_store) (n := 4) (k1 := 2) (As := [.ref (eA E 0), .int a1, .int a2, .ref (eA E 98)]) (hh := HL_store) dL_law_1280 mkL_store inRL lh_191 (by decide +kernel) rfl (by decide) rfl (Nat.le_of_ble_eq_true rfl) hcs (by decide) t ?_
  intro v1 h1 t
  have hcs := hc2
  refine r_istore (lv' := [(5, .int v1), (0, .ref b), (1, .ref (eA E 0)), (2, .ref (eA E 63)), (3, .ref (eA E 98)), (4, .int x4)]) dL_law_1283 (by decide) rfl ?_
  refine r_aload_n (q := 3) dL_law_1285 rfl rfl ?_
  refine r_aload_n (q := 1) dL_law_1286 rfl rfl ?_
  refine r_iload (q := 5) dL_law_1287 rfl ?_
  refine r_iconst (v := (1 : Int32)) dL_law_1289 rfl ?_
  refine r_iadd dL_law_1290 ?_
  refine q_sld hX dL_law_1291 s1 e1 ?_
  refine r_aload_n (q := 1) dL_law_1292 rfl rfl ?_
  refine r_iload (q := 5) dL_law_1293 rfl ?_
  refine r_iconst (v := (2 : Int32)) dL_law_1295 rfl ?_
  refine r_iadd dL_law_1296 ?_
  refine q_sld hX dL_law_1297 s2 e2 ?_
  refine q_cVI (c := 63) (As := [.int a1, .int a2]) dL_law_1298 mkX10_store lkL_193 lay_63 rfl rfl rfl (by decide) rfl (Nat.le_of_ble_eq_true rfl) hcs t ?_
  intro v2 h2 t
  refine r_istore (lv' := [(6, .int v2), (5, .int v1), (0, .ref b), (1, .ref (eA E 0)), (2, .ref (eA E 63)), (3, .ref (eA E 98)), (4, .int x4)]) dL_law_1301 (by decide) rfl ?_
  refine r_aload_n (q := 4) dL_law_1303 rfl rfl ?_
  refine q_cVI (c := 63) (As := []) dL_law_1304 mkX10_thrown lkL_129 lay_63 rfl rfl rfl (by decide) rfl (Nat.le_of_ble_eq_true rfl) hcs t ?_
  intro v3 h3 t
  refine r_iload (q := 1) dL_law_1307 rfl ?_
  refine r_icmp_eq (tgt := 1314) dL_law_1309 (by decide) (fun q4 => ?_) (fun q4 => ?_)
  · have t := t.1 q4
    refine r_iload (q := 1) dL_law_1314 rfl ?_
    refine r_if_ne (tgt := 1331) dL_law_1316 (by decide) (fun q5 => ?_) (fun q5 => ?_)
    · have t := t.1 q5
      refine r_goto (tgt := 1895) dL_law_1331 (by decide) ?_
      refine r_sub [2, 3, 4, 5, 6] rfl ?_
      exact t
    · have t := t.2 q5
      refine r_aload_n (q := 5) dL_law_1319 rfl rfl ?_
      refine r_iconst (v := (0 : Int32)) dL_law_1320 rfl ?_
      refine r_lald (c := 98) dL_law_1321 lay_98 vin01 ?_
      refine r_iload (q := 0) dL_law_1322 rfl ?_
      refine r_i2l dL_law_1324 ?_
      refine r_lcmp dL_law_1325 ?_
      refine r_if_eq (tgt := 1331) dL_law_1326 (by decide) (fun q6 => ?_) (fun q6 => ?_)
      · have t := t.1 q6
        refine r_goto (tgt := 1895) dL_law_1331 (by decide) ?_
        refine r_sub [2, 3, 4, 5, 6] rfl ?_
        exact t
      · have t := t.2 q6
        refine r_iconst (v := (0 : Int32)) dL_law_1329 rfl ?_
        exact t.elim
  · have t := t.2 q4
    refine r_iconst (v := (0 : Int32)) dL_law_1312 rfl ?_
    exact t.elim
def Tc25 (E : En) (h : Hp) (K : En → Hp → Prop) : Prop := SpI E 200 MX9_fieldCount [.ref (eA E 0)] h (fun v1 h1 => SpI E 200 MX10_fieldCount [.ref (eA E 63)] h1 (fun v2 h2 => (v1 = v2 → (K E h2)) ∧ (¬ v1 = v2 → (False))))
set_option maxRecDepth 20000 in
theorem law_c25 {E : En} {g : Ga} {b L : Nat} {xs : Nat → Int32} {x4 : Int32} {h : Hp} {cells slots : Nat} (hX : Scr E g b L xs) (hcs : cells + 8 ≤ 601024 ∧ slots + 48 ≤ 7293034) (t : Tc25 E h (fun E2 h2 => VL E2 g b x4 (cells + 0) (slots + 6 * 0) h2)) : V E ML room_1 g (LQ g) cells slots h 1334 [(0, .ref b), (1, .ref (eA E 0)), (2, .ref (eA E 63)), (3, .ref (eA E 98)), (4, .int x4)] [] := by
  unfold Tc25 at t
  refine r_aload_n (q := 1) dL_law_1334 rfl rfl ?_
  refine q_cVI (c := 0) (As := []) dL_law_1335 mkX9_fieldCount lkL_194 lay_0 rfl rfl rfl (by decide) rfl (Nat.le_of_ble_eq_true rfl) hcs t ?_
  intro v1 h1 t
  refine r_aload_n (q := 2) dL_law_1338 rfl rfl ?_
  refine q_cVI (c := 63) (As := []) dL_law_1339 mkX10_fieldCount lkL_197 lay_63 rfl rfl rfl (by decide) rfl (Nat.le_of_ble_eq_true rfl) hcs t ?_
  intro v2 h2 t
  refine r_icmp_eq (tgt := 1895) dL_law_1342 (by decide) (fun q3 => ?_) (fun q3 => ?_)
  · have t := t.1 q3
    refine r_sub [0, 1, 2, 3, 4] rfl ?_
    exact t
  · have t := t.2 q3
    refine r_iconst (v := (0 : Int32)) dL_law_1345 rfl ?_
    exact t.elim
def Tc26 (E : En) (h : Hp) (K : En → Hp → Prop) : Prop := SpI E 200 MX9_fieldBits [.ref (eA E 0)] h (fun v1 h1 => SpI E 200 MX10_fieldBits [.ref (eA E 63)] h1 (fun v2 h2 => (v1 = v2 → (K E h2)) ∧ (¬ v1 = v2 → (False))))
set_option maxRecDepth 20000 in
theorem law_c26 {E : En} {g : Ga} {b L : Nat} {xs : Nat → Int32} {x4 : Int32} {h : Hp} {cells slots : Nat} (hX : Scr E g b L xs) (hcs : cells + 8 ≤ 601024 ∧ slots + 48 ≤ 7293034) (t : Tc26 E h (fun E2 h2 => VL E2 g b x4 (cells + 0) (slots + 6 * 0) h2)) : V E ML room_1 g (LQ g) cells slots h 1347 [(0, .ref b), (1, .ref (eA E 0)), (2, .ref (eA E 63)), (3, .ref (eA E 98)), (4, .int x4)] [] := by
  unfold Tc26 at t
  refine r_aload_n (q := 1) dL_law_1347 rfl rfl ?_
  refine q_cVI (c := 0) (As := []) dL_law_1348 mkX9_fieldBits lkL_198 lay_0 rfl rfl rfl (by decide) rfl (Nat.le_of_ble_eq_true rfl) hcs t ?_
  intro v1 h1 t
  refine r_aload_n (q := 2) dL_law_1351 rfl rfl ?_
  refine q_cVI (c := 63) (As := []) dL_law_1352 mkX10_fieldBits lkL_201 lay_63 rfl rfl rfl (by decide) rfl (Nat.le_of_ble_eq_true rfl) hcs t ?_
  intro v2 h2 t
  refine r_icmp_eq (tgt := 1895) dL_law_1355 (by decide) (fun q3 => ?_) (fun q3 => ?_)
  · have t := t.1 q3
    refine r_sub [0, 1, 2, 3, 4] rfl ?_
    exact t
  · have t := t.2 q3
    refine r_iconst (v := (0 : Int32)) dL_law_1358 rfl ?_
    exact t.elim
def Tc27 (E : En) (a1 : Int32) (h : Hp) (K : En → Hp → Prop) : Prop := SpH E 200 1 ML_fieldOf HL_fieldOf [.ref (eA E 0), .int a1, .ref (eA E 98)] h (fun v1 h1 => SpI E 200 MX10_fieldOf [.ref (eA E 63), .int a1] h1 (fun v2 h2 => SpI E 200 MX10_thrown [.ref (eA E 63)] h2 (fun v3 h3 => (v3 = v1 → ((¬ v1 = 0 → (K E h3)) ∧ (v1 = 0 → (((lg_cmp (h3.2 98 0) v2.toInt64) = 0 → (K E h3)) ∧ (¬ (lg_cmp (h3.2 98 0) v2.toInt64) = 0 → (False)))))) ∧ (¬ v3 = v1 → (False)))))
set_option maxRecDepth 20000 in
theorem law_c27 {E : En} {g : Ga} {b L : Nat} {xs : Nat → Int32} {x4 : Int32} {h : Hp} {cells slots : Nat} (hX : Scr E g b L xs) {a1 : Int32} (s1 : vp_in (x4 + (1 : Int32)) L) (e1 : xs (x4 + (1 : Int32)).toNatClampNeg = a1) (hcs : cells + 8 ≤ 601024 ∧ slots + 48 ≤ 7293034) (hc2 : cells + 1 + 8 ≤ 601024 ∧ slots + 6 * 1 + 48 ≤ 7293034) (t : Tc27 E a1 h (fun E2 h2 => VL E2 g b x4 (cells + 1) (slots + 6 * 1) h2)) : V E ML room_1 g (LQ g) cells slots h 1360 [(0, .ref b), (1, .ref (eA E 0)), (2, .ref (eA E 63)), (3, .ref (eA E 98)), (4, .int x4)] [] := by
  unfold Tc27 at t
  refine r_aload_n (q := 1) dL_law_1360 rfl rfl ?_
  refine r_aload_n (q := 0) dL_law_1361 rfl rfl ?_
  refine r_iload (q := 4) dL_law_1362 rfl ?_
  refine r_iconst (v := (1 : Int32)) dL_law_1364 rfl ?_
  refine r_iadd dL_law_1365 ?_
  refine q_sld hX dL_law_1366 s1 e1 ?_
  refine r_aload_n (q := 3) dL_law_1367 rfl rfl ?_
  refine q_hS (M' := ML_fieldOf) (n := 3) (k1 := 1) (As := [.ref (eA E 0), .int a1, .ref (eA E 98)]) (hh := HL_fieldOf) dL_law_1368 mkL_fieldOf inRL lh_202 (by decide +kernel) rfl (by decide) rfl (Nat.le_of_ble_eq_true rfl) hcs (by decide) t ?_
  intro v1 h1 t
  have hcs := hc2
  refine r_istore (lv' := [(5, .int v1), (0, .ref b), (1, .ref (eA E 0)), (2, .ref (eA E 63)), (3, .ref (eA E 98)), (4, .int x4)]) dL_law_1371 (by decide) rfl ?_
  refine r_aload_n (q := 3) dL_law_1373 rfl rfl ?_
  refine r_aload_n (q := 1) dL_law_1374 rfl rfl ?_
  refine r_iload (q := 5) dL_law_1375 rfl ?_
  refine r_iconst (v := (1 : Int32)) dL_law_1377 rfl ?_
  refine r_iadd dL_law_1378 ?_
  refine q_sld hX dL_law_1379 s1 e1 ?_
  refine q_cVI (c := 63) (As := [.int a1]) dL_law_1380 mkX10_fieldOf lkL_204 lay_63 rfl rfl rfl (by decide) rfl (Nat.le_of_ble_eq_true rfl) hcs t ?_
  intro v2 h2 t
  refine r_istore (lv' := [(6, .int v2), (5, .int v1), (0, .ref b), (1, .ref (eA E 0)), (2, .ref (eA E 63)), (3, .ref (eA E 98)), (4, .int x4)]) dL_law_1383 (by decide) rfl ?_
  refine r_aload_n (q := 4) dL_law_1385 rfl rfl ?_
  refine q_cVI (c := 63) (As := []) dL_law_1386 mkX10_thrown lkL_129 lay_63 rfl rfl rfl (by decide) rfl (Nat.le_of_ble_eq_true rfl) hcs t ?_
  intro v3 h3 t
  refine r_iload (q := 1) dL_law_1389 rfl ?_
  refine r_icmp_eq (tgt := 1396) dL_law_1391 (by decide) (fun q4 => ?_) (fun q4 => ?_)
  · have t := t.1 q4
    refine r_iload (q := 1) dL_law_1396 rfl ?_
    refine r_if_ne (tgt := 1413) dL_law_1398 (by decide) (fun q5 => ?_) (fun q5 => ?_)
    · have t := t.1 q5
      refine r_goto (tgt := 1895) dL_law_1413 (by decide) ?_
      refine r_sub [2, 3, 4, 5, 6] rfl ?_
      exact t
    · have t := t.2 q5
      refine r_aload_n (q := 5) dL_law_1401 rfl rfl ?_
      refine r_iconst (v := (0 : Int32)) dL_law_1402 rfl ?_
      refine r_lald (c := 98) dL_law_1403 lay_98 vin01 ?_
      refine r_iload (q := 0) dL_law_1404 rfl ?_
      refine r_i2l dL_law_1406 ?_
      refine r_lcmp dL_law_1407 ?_
      refine r_if_eq (tgt := 1413) dL_law_1408 (by decide) (fun q6 => ?_) (fun q6 => ?_)
      · have t := t.1 q6
        refine r_goto (tgt := 1895) dL_law_1413 (by decide) ?_
        refine r_sub [2, 3, 4, 5, 6] rfl ?_
        exact t
      · have t := t.2 q6
        refine r_iconst (v := (0 : Int32)) dL_law_1411 rfl ?_
        exact t.elim
  · have t := t.2 q4
    refine r_iconst (v := (0 : Int32)) dL_law_1394 rfl ?_
    exact t.elim
def Tc28 (E : En) (a1 : Int32) (h : Hp) (K : En → Hp → Prop) : Prop := SpH E 200 1 ML_codeOf HL_codeOf [.ref (eA E 0), .int a1, .ref (eA E 98)] h (fun v1 h1 => SpI E 200 MX10_codeOf [.ref (eA E 63), .int a1] h1 (fun v2 h2 => SpI E 200 MX10_thrown [.ref (eA E 63)] h2 (fun v3 h3 => (v3 = v1 → ((¬ v1 = 0 → (K E h3)) ∧ (v1 = 0 → (((lg_cmp (h3.2 98 0) v2.toInt64) = 0 → (K E h3)) ∧ (¬ (lg_cmp (h3.2 98 0) v2.toInt64) = 0 → (False)))))) ∧ (¬ v3 = v1 → (False)))))
set_option maxRecDepth 20000 in
theorem law_c28 {E : En} {g : Ga} {b L : Nat} {xs : Nat → Int32} {x4 : Int32} {h : Hp} {cells slots : Nat} (hX : Scr E g b L xs) {a1 : Int32} (s1 : vp_in (x4 + (1 : Int32)) L) (e1 : xs (x4 + (1 : Int32)).toNatClampNeg = a1) (hcs : cells + 8 ≤ 601024 ∧ slots + 48 ≤ 7293034) (hc2 : cells + 1 + 8 ≤ 601024 ∧ slots + 6 * 1 + 48 ≤ 7293034) (t : Tc28 E a1 h (fun E2 h2 => VL E2 g b x4 (cells + 1) (slots + 6 * 1) h2)) : V E ML room_1 g (LQ g) cells slots h 1416 [(0, .ref b), (1, .ref (eA E 0)), (2, .ref (eA E 63)), (3, .ref (eA E 98)), (4, .int x4)] [] := by
  unfold Tc28 at t
  refine r_aload_n (q := 1) dL_law_1416 rfl rfl ?_
  refine r_aload_n (q := 0) dL_law_1417 rfl rfl ?_
  refine r_iload (q := 4) dL_law_1418 rfl ?_
  refine r_iconst (v := (1 : Int32)) dL_law_1420 rfl ?_
  refine r_iadd dL_law_1421 ?_
  refine q_sld hX dL_law_1422 s1 e1 ?_
  refine r_aload_n (q := 3) dL_law_1423 rfl rfl ?_
  refine q_hS (M' := ML_codeOf) (n := 3) (k1 := 1) (As := [.ref (eA E 0), .int a1, .ref (eA E 98)]) (hh := HL_codeOf) dL_law_1424 mkL_codeOf inRL lh_205 (by decide +kernel) rfl (by decide) rfl (Nat.le_of_ble_eq_true rfl) hcs (by decide) t ?_
  intro v1 h1 t
  have hcs := hc2
  refine r_istore (lv' := [(5, .int v1), (0, .ref b), (1, .ref (eA E 0)), (2, .ref (eA E 63)), (3, .ref (eA E 98)), (4, .int x4)]) dL_law_1427 (by decide) rfl ?_
  refine r_aload_n (q := 3) dL_law_1429 rfl rfl ?_
  refine r_aload_n (q := 1) dL_law_1430 rfl rfl ?_
  refine r_iload (q := 5) dL_law_1431 rfl ?_
  refine r_iconst (v := (1 : Int32)) dL_law_1433 rfl ?_
  refine r_iadd dL_law_1434 ?_
  refine q_sld hX dL_law_1435 s1 e1 ?_
  refine q_cVI (c := 63) (As := [.int a1]) dL_law_1436 mkX10_codeOf lkL_207 lay_63 rfl rfl rfl (by decide) rfl (Nat.le_of_ble_eq_true rfl) hcs t ?_
  intro v2 h2 t
  refine r_istore (lv' := [(6, .int v2), (5, .int v1), (0, .ref b), (1, .ref (eA E 0)), (2, .ref (eA E 63)), (3, .ref (eA E 98)), (4, .int x4)]) dL_law_1439 (by decide) rfl ?_
  refine r_aload_n (q := 4) dL_law_1441 rfl rfl ?_
  refine q_cVI (c := 63) (As := []) dL_law_1442 mkX10_thrown lkL_129 lay_63 rfl rfl rfl (by decide) rfl (Nat.le_of_ble_eq_true rfl) hcs t ?_
  intro v3 h3 t
  refine r_iload (q := 1) dL_law_1445 rfl ?_
  refine r_icmp_eq (tgt := 1452) dL_law_1447 (by decide) (fun q4 => ?_) (fun q4 => ?_)
  · have t := t.1 q4
    refine r_iload (q := 1) dL_law_1452 rfl ?_
    refine r_if_ne (tgt := 1469) dL_law_1454 (by decide) (fun q5 => ?_) (fun q5 => ?_)
    · have t := t.1 q5
      refine r_goto (tgt := 1895) dL_law_1469 (by decide) ?_
      refine r_sub [2, 3, 4, 5, 6] rfl ?_
      exact t
    · have t := t.2 q5
      refine r_aload_n (q := 5) dL_law_1457 rfl rfl ?_
      refine r_iconst (v := (0 : Int32)) dL_law_1458 rfl ?_
      refine r_lald (c := 98) dL_law_1459 lay_98 vin01 ?_
      refine r_iload (q := 0) dL_law_1460 rfl ?_
      refine r_i2l dL_law_1462 ?_
      refine r_lcmp dL_law_1463 ?_
      refine r_if_eq (tgt := 1469) dL_law_1464 (by decide) (fun q6 => ?_) (fun q6 => ?_)
      · have t := t.1 q6
        refine r_goto (tgt := 1895) dL_law_1469 (by decide) ?_
        refine r_sub [2, 3, 4, 5, 6] rfl ?_
        exact t
      · have t := t.2 q6
        refine r_iconst (v := (0 : Int32)) dL_law_1467 rfl ?_
        exact t.elim
  · have t := t.2 q4
    refine r_iconst (v := (0 : Int32)) dL_law_1450 rfl ?_
    exact t.elim
def Tc29 (E : En) (a1 : Int32) (h : Hp) (K : En → Hp → Prop) : Prop := SpH E 200 1 ML_control HL_control [.ref (eA E 0), .int a1, .ref (eA E 98)] h (fun v1 h1 => SpL E 200 MX10_control [.ref (eA E 63), .int a1] h1 (fun v2 h2 => SpI E 200 MX10_thrown [.ref (eA E 63)] h2 (fun v3 h3 => (v3 = v1 → ((¬ v1 = 0 → (K E h3)) ∧ (v1 = 0 → (((lg_cmp (h3.2 98 0) v2) = 0 → (K E h3)) ∧ (¬ (lg_cmp (h3.2 98 0) v2) = 0 → (False)))))) ∧ (¬ v3 = v1 → (False)))))
set_option maxRecDepth 20000 in
theorem law_c29 {E : En} {g : Ga} {b L : Nat} {xs : Nat → Int32} {x4 : Int32} {h : Hp} {cells slots : Nat} (hX : Scr E g b L xs) {a1 : Int32} (s1 : vp_in (x4 + (1 : Int32)) L) (e1 : xs (x4 + (1 : Int32)).toNatClampNeg = a1) (hcs : cells + 8 ≤ 601024 ∧ slots + 48 ≤ 7293034) (hc2 : cells + 1 + 8 ≤ 601024 ∧ slots + 6 * 1 + 48 ≤ 7293034) (t : Tc29 E a1 h (fun E2 h2 => VL E2 g b x4 (cells + 1) (slots + 6 * 1) h2)) : V E ML room_1 g (LQ g) cells slots h 1472 [(0, .ref b), (1, .ref (eA E 0)), (2, .ref (eA E 63)), (3, .ref (eA E 98)), (4, .int x4)] [] := by
  unfold Tc29 at t
  refine r_aload_n (q := 1) dL_law_1472 rfl rfl ?_
  refine r_aload_n (q := 0) dL_law_1473 rfl rfl ?_
  refine r_iload (q := 4) dL_law_1474 rfl ?_
  refine r_iconst (v := (1 : Int32)) dL_law_1476 rfl ?_
  refine r_iadd dL_law_1477 ?_
  refine q_sld hX dL_law_1478 s1 e1 ?_
  refine r_aload_n (q := 3) dL_law_1479 rfl rfl ?_
  refine q_hS (M' := ML_control) (n := 3) (k1 := 1) (As := [.ref (eA E 0), .int a1, .ref (eA E 98)]) (hh := HL_control) dL_law_1480 mkL_control inRL lh_208 (by decide +kernel) rfl (by decide) rfl (Nat.le_of_ble_eq_true rfl) hcs (by decide) t ?_
  intro v1 h1 t
  have hcs := hc2
  refine r_istore (lv' := [(5, .int v1), (0, .ref b), (1, .ref (eA E 0)), (2, .ref (eA E 63)), (3, .ref (eA E 98)), (4, .int x4)]) dL_law_1483 (by decide) rfl ?_
  refine r_aload_n (q := 3) dL_law_1485 rfl rfl ?_
  refine r_aload_n (q := 1) dL_law_1486 rfl rfl ?_
  refine r_iload (q := 5) dL_law_1487 rfl ?_
  refine r_iconst (v := (1 : Int32)) dL_law_1489 rfl ?_
  refine r_iadd dL_law_1490 ?_
  refine q_sld hX dL_law_1491 s1 e1 ?_
  refine q_cVL (c := 63) (As := [.int a1]) dL_law_1492 mkX10_control lkL_210 lay_63 rfl rfl rfl (by decide) rfl (Nat.le_of_ble_eq_true rfl) hcs t ?_
  intro v2 h2 t
  refine r_lstore (lv' := [(6, .long v2), (5, .int v1), (0, .ref b), (1, .ref (eA E 0)), (2, .ref (eA E 63)), (3, .ref (eA E 98)), (4, .int x4)]) dL_law_1495 (by decide) rfl ?_
  refine r_aload_n (q := 4) dL_law_1497 rfl rfl ?_
  refine q_cVI (c := 63) (As := []) dL_law_1498 mkX10_thrown lkL_129 lay_63 rfl rfl rfl (by decide) rfl (Nat.le_of_ble_eq_true rfl) hcs t ?_
  intro v3 h3 t
  refine r_iload (q := 1) dL_law_1501 rfl ?_
  refine r_icmp_eq (tgt := 1508) dL_law_1503 (by decide) (fun q4 => ?_) (fun q4 => ?_)
  · have t := t.1 q4
    refine r_iload (q := 1) dL_law_1508 rfl ?_
    refine r_if_ne (tgt := 1524) dL_law_1510 (by decide) (fun q5 => ?_) (fun q5 => ?_)
    · have t := t.1 q5
      refine r_goto (tgt := 1895) dL_law_1524 (by decide) ?_
      refine r_sub [2, 3, 4, 5, 6] rfl ?_
      exact t
    · have t := t.2 q5
      refine r_aload_n (q := 5) dL_law_1513 rfl rfl ?_
      refine r_iconst (v := (0 : Int32)) dL_law_1514 rfl ?_
      refine r_lald (c := 98) dL_law_1515 lay_98 vin01 ?_
      refine r_lload (q := 0) dL_law_1516 rfl ?_
      refine r_lcmp dL_law_1518 ?_
      refine r_if_eq (tgt := 1524) dL_law_1519 (by decide) (fun q6 => ?_) (fun q6 => ?_)
      · have t := t.1 q6
        refine r_goto (tgt := 1895) dL_law_1524 (by decide) ?_
        refine r_sub [2, 3, 4, 5, 6] rfl ?_
        exact t
      · have t := t.2 q6
        refine r_iconst (v := (0 : Int32)) dL_law_1522 rfl ?_
        exact t.elim
  · have t := t.2 q4
    refine r_iconst (v := (0 : Int32)) dL_law_1506 rfl ?_
    exact t.elim
def Tc30 (E : En) (a1 : Int32) (a2 : Int32) (h : Hp) (K : En → Hp → Prop) : Prop := SpH E 200 1 ML_setRegister HL_setRegister [.ref (eA E 0), .int a1, .int a2, .ref (eA E 98)] h (fun v1 h1 => SpI E 200 MX10_setRegister [.ref (eA E 63), .int a1, .int a2] h1 (fun v2 h2 => SpI E 200 MX10_thrown [.ref (eA E 63)] h2 (fun v3 h3 => (v3 = v1 → ((¬ v1 = 0 → (K E h3)) ∧ (v1 = 0 → (((lg_cmp (h3.2 98 0) v2.toInt64) = 0 → (K E h3)) ∧ (¬ (lg_cmp (h3.2 98 0) v2.toInt64) = 0 → (False)))))) ∧ (¬ v3 = v1 → (False)))))
set_option maxRecDepth 20000 in
theorem law_c30 {E : En} {g : Ga} {b L : Nat} {xs : Nat → Int32} {x4 : Int32} {h : Hp} {cells slots : Nat} (hX : Scr E g b L xs) {a1 : Int32} (s1 : vp_in (x4 + (1 : Int32)) L) (e1 : xs (x4 + (1 : Int32)).toNatClampNeg = a1) {a2 : Int32} (s2 : vp_in (x4 + (2 : Int32)) L) (e2 : xs (x4 + (2 : Int32)).toNatClampNeg = a2) (hcs : cells + 8 ≤ 601024 ∧ slots + 48 ≤ 7293034) (hc2 : cells + 1 + 8 ≤ 601024 ∧ slots + 6 * 1 + 48 ≤ 7293034) (t : Tc30 E a1 a2 h (fun E2 h2 => VL E2 g b x4 (cells + 1) (slots + 6 * 1) h2)) : V E ML room_1 g (LQ g) cells slots h 1527 [(0, .ref b), (1, .ref (eA E 0)), (2, .ref (eA E 63)), (3, .ref (eA E 98)), (4, .int x4)] [] := by
  unfold Tc30 at t
  refine r_aload_n (q := 1) dL_law_1527 rfl rfl ?_
  refine r_aload_n (q := 0) dL_law_1528 rfl rfl ?_
  refine r_iload (q := 4) dL_law_1529 rfl ?_
  refine r_iconst (v := (1 : Int32)) dL_law_1531 rfl ?_
  refine r_iadd dL_law_1532 ?_
  refine q_sld hX dL_law_1533 s1 e1 ?_
  refine r_aload_n (q := 0) dL_law_1534 rfl rfl ?_
  refine r_iload (q := 4) dL_law_1535 rfl ?_
  refine r_iconst (v := (2 : Int32)) dL_law_1537 rfl ?_
  refine r_iadd dL_law_1538 ?_
  refine q_sld hX dL_law_1539 s2 e2 ?_
  refine r_aload_n (q := 3) dL_law_1540 rfl rfl ?_
  refine q_hS (M' := ML_setRegister) (n := 4) (k1 := 1) (As := [.ref (eA E 0), .int a1, .int a2, .ref (eA E 98)]) (hh := HL_setRegister) dL_law_1541 mkL_setRegister inRL lh_211 (by decide +kernel) rfl (by decide) rfl (Nat.le_of_ble_eq_true rfl) hcs (by decide) t ?_
  intro v1 h1 t
  have hcs := hc2
  refine r_istore (lv' := [(5, .int v1), (0, .ref b), (1, .ref (eA E 0)), (2, .ref (eA E 63)), (3, .ref (eA E 98)), (4, .int x4)]) dL_law_1544 (by decide) rfl ?_
  refine r_aload_n (q := 3) dL_law_1546 rfl rfl ?_
  refine r_aload_n (q := 1) dL_law_1547 rfl rfl ?_
  refine r_iload (q := 5) dL_law_1548 rfl ?_
  refine r_iconst (v := (1 : Int32)) dL_law_1550 rfl ?_
  refine r_iadd dL_law_1551 ?_
  refine q_sld hX dL_law_1552 s1 e1 ?_
  refine r_aload_n (q := 1) dL_law_1553 rfl rfl ?_
  refine r_iload (q := 5) dL_law_1554 rfl ?_
  refine r_iconst (v := (2 : Int32)) dL_law_1556 rfl ?_
  refine r_iadd dL_law_1557 ?_
  refine q_sld hX dL_law_1558 s2 e2 ?_
  refine q_cVI (c := 63) (As := [.int a1, .int a2]) dL_law_1559 mkX10_setRegister lkL_213 lay_63 rfl rfl rfl (by decide) rfl (Nat.le_of_ble_eq_true rfl) hcs t ?_
  intro v2 h2 t
  refine r_istore (lv' := [(6, .int v2), (5, .int v1), (0, .ref b), (1, .ref (eA E 0)), (2, .ref (eA E 63)), (3, .ref (eA E 98)), (4, .int x4)]) dL_law_1562 (by decide) rfl ?_
  refine r_aload_n (q := 4) dL_law_1564 rfl rfl ?_
  refine q_cVI (c := 63) (As := []) dL_law_1565 mkX10_thrown lkL_129 lay_63 rfl rfl rfl (by decide) rfl (Nat.le_of_ble_eq_true rfl) hcs t ?_
  intro v3 h3 t
  refine r_iload (q := 1) dL_law_1568 rfl ?_
  refine r_icmp_eq (tgt := 1575) dL_law_1570 (by decide) (fun q4 => ?_) (fun q4 => ?_)
  · have t := t.1 q4
    refine r_iload (q := 1) dL_law_1575 rfl ?_
    refine r_if_ne (tgt := 1592) dL_law_1577 (by decide) (fun q5 => ?_) (fun q5 => ?_)
    · have t := t.1 q5
      refine r_goto (tgt := 1895) dL_law_1592 (by decide) ?_
      refine r_sub [2, 3, 4, 5, 6] rfl ?_
      exact t
    · have t := t.2 q5
      refine r_aload_n (q := 5) dL_law_1580 rfl rfl ?_
      refine r_iconst (v := (0 : Int32)) dL_law_1581 rfl ?_
      refine r_lald (c := 98) dL_law_1582 lay_98 vin01 ?_
      refine r_iload (q := 0) dL_law_1583 rfl ?_
      refine r_i2l dL_law_1585 ?_
      refine r_lcmp dL_law_1586 ?_
      refine r_if_eq (tgt := 1592) dL_law_1587 (by decide) (fun q6 => ?_) (fun q6 => ?_)
      · have t := t.1 q6
        refine r_goto (tgt := 1895) dL_law_1592 (by decide) ?_
        refine r_sub [2, 3, 4, 5, 6] rfl ?_
        exact t
      · have t := t.2 q6
        refine r_iconst (v := (0 : Int32)) dL_law_1590 rfl ?_
        exact t.elim
  · have t := t.2 q4
    refine r_iconst (v := (0 : Int32)) dL_law_1573 rfl ?_
    exact t.elim
def Tc31 (E : En) (a1 : Int32) (h : Hp) (K : En → Hp → Prop) : Prop := SpH E 200 1 ML_register HL_register [.ref (eA E 0), .int a1, .ref (eA E 98)] h (fun v1 h1 => SpI E 200 MX10_register [.ref (eA E 63), .int a1] h1 (fun v2 h2 => SpI E 200 MX10_thrown [.ref (eA E 63)] h2 (fun v3 h3 => (v3 = v1 → ((¬ v1 = 0 → (K E h3)) ∧ (v1 = 0 → (((lg_cmp (h3.2 98 0) v2.toInt64) = 0 → (K E h3)) ∧ (¬ (lg_cmp (h3.2 98 0) v2.toInt64) = 0 → (False)))))) ∧ (¬ v3 = v1 → (False)))))
set_option maxRecDepth 20000 in
theorem law_c31 {E : En} {g : Ga} {b L : Nat} {xs : Nat → Int32} {x4 : Int32} {h : Hp} {cells slots : Nat} (hX : Scr E g b L xs) {a1 : Int32} (s1 : vp_in (x4 + (1 : Int32)) L) (e1 : xs (x4 + (1 : Int32)).toNatClampNeg = a1) (hcs : cells + 8 ≤ 601024 ∧ slots + 48 ≤ 7293034) (hc2 : cells + 1 + 8 ≤ 601024 ∧ slots + 6 * 1 + 48 ≤ 7293034) (t : Tc31 E a1 h (fun E2 h2 => VL E2 g b x4 (cells + 1) (slots + 6 * 1) h2)) : V E ML room_1 g (LQ g) cells slots h 1595 [(0, .ref b), (1, .ref (eA E 0)), (2, .ref (eA E 63)), (3, .ref (eA E 98)), (4, .int x4)] [] := by
  unfold Tc31 at t
  refine r_aload_n (q := 1) dL_law_1595 rfl rfl ?_
  refine r_aload_n (q := 0) dL_law_1596 rfl rfl ?_
  refine r_iload (q := 4) dL_law_1597 rfl ?_
  refine r_iconst (v := (1 : Int32)) dL_law_1599 rfl ?_
  refine r_iadd dL_law_1600 ?_
  refine q_sld hX dL_law_1601 s1 e1 ?_
  refine r_aload_n (q := 3) dL_law_1602 rfl rfl ?_
  refine q_hS (M' := ML_register) (n := 3) (k1 := 1) (As := [.ref (eA E 0), .int a1, .ref (eA E 98)]) (hh := HL_register) dL_law_1603 mkL_register inRL lh_214 (by decide +kernel) rfl (by decide) rfl (Nat.le_of_ble_eq_true rfl) hcs (by decide) t ?_
  intro v1 h1 t
  have hcs := hc2
  refine r_istore (lv' := [(5, .int v1), (0, .ref b), (1, .ref (eA E 0)), (2, .ref (eA E 63)), (3, .ref (eA E 98)), (4, .int x4)]) dL_law_1606 (by decide) rfl ?_
  refine r_aload_n (q := 3) dL_law_1608 rfl rfl ?_
  refine r_aload_n (q := 1) dL_law_1609 rfl rfl ?_
  refine r_iload (q := 5) dL_law_1610 rfl ?_
  refine r_iconst (v := (1 : Int32)) dL_law_1612 rfl ?_
  refine r_iadd dL_law_1613 ?_
  refine q_sld hX dL_law_1614 s1 e1 ?_
  refine q_cVI (c := 63) (As := [.int a1]) dL_law_1615 mkX10_register lkL_216 lay_63 rfl rfl rfl (by decide) rfl (Nat.le_of_ble_eq_true rfl) hcs t ?_
  intro v2 h2 t
  refine r_istore (lv' := [(6, .int v2), (5, .int v1), (0, .ref b), (1, .ref (eA E 0)), (2, .ref (eA E 63)), (3, .ref (eA E 98)), (4, .int x4)]) dL_law_1618 (by decide) rfl ?_
  refine r_aload_n (q := 4) dL_law_1620 rfl rfl ?_
  refine q_cVI (c := 63) (As := []) dL_law_1621 mkX10_thrown lkL_129 lay_63 rfl rfl rfl (by decide) rfl (Nat.le_of_ble_eq_true rfl) hcs t ?_
  intro v3 h3 t
  refine r_iload (q := 1) dL_law_1624 rfl ?_
  refine r_icmp_eq (tgt := 1631) dL_law_1626 (by decide) (fun q4 => ?_) (fun q4 => ?_)
  · have t := t.1 q4
    refine r_iload (q := 1) dL_law_1631 rfl ?_
    refine r_if_ne (tgt := 1648) dL_law_1633 (by decide) (fun q5 => ?_) (fun q5 => ?_)
    · have t := t.1 q5
      refine r_goto (tgt := 1895) dL_law_1648 (by decide) ?_
      refine r_sub [2, 3, 4, 5, 6] rfl ?_
      exact t
    · have t := t.2 q5
      refine r_aload_n (q := 5) dL_law_1636 rfl rfl ?_
      refine r_iconst (v := (0 : Int32)) dL_law_1637 rfl ?_
      refine r_lald (c := 98) dL_law_1638 lay_98 vin01 ?_
      refine r_iload (q := 0) dL_law_1639 rfl ?_
      refine r_i2l dL_law_1641 ?_
      refine r_lcmp dL_law_1642 ?_
      refine r_if_eq (tgt := 1648) dL_law_1643 (by decide) (fun q6 => ?_) (fun q6 => ?_)
      · have t := t.1 q6
        refine r_goto (tgt := 1895) dL_law_1648 (by decide) ?_
        refine r_sub [2, 3, 4, 5, 6] rfl ?_
        exact t
      · have t := t.2 q6
        refine r_iconst (v := (0 : Int32)) dL_law_1646 rfl ?_
        exact t.elim
  · have t := t.2 q4
    refine r_iconst (v := (0 : Int32)) dL_law_1629 rfl ?_
    exact t.elim
def Tc32 (E : En) (a1 : Int32) (h : Hp) (K : En → Hp → Prop) : Prop := SpH E 200 2 ML_runSource HL_runSource [.ref (eA E 0), .int a1, .ref (eA E 98)] h (fun v1 h1 => SpI E 200 MX10_runSource [.ref (eA E 63), .int a1] h1 (fun v2 h2 => SpI E 200 MX10_thrown [.ref (eA E 63)] h2 (fun v3 h3 => (v3 = v1 → ((¬ v1 = 0 → (K E h3)) ∧ (v1 = 0 → (((lg_cmp (h3.2 98 0) v2.toInt64) = 0 → (K E h3)) ∧ (¬ (lg_cmp (h3.2 98 0) v2.toInt64) = 0 → (False)))))) ∧ (¬ v3 = v1 → (False)))))
set_option maxRecDepth 20000 in
theorem law_c32 {E : En} {g : Ga} {b L : Nat} {xs : Nat → Int32} {x4 : Int32} {h : Hp} {cells slots : Nat} (hX : Scr E g b L xs) {a1 : Int32} (s1 : vp_in (x4 + (1 : Int32)) L) (e1 : xs (x4 + (1 : Int32)).toNatClampNeg = a1) (hcs : cells + 8 ≤ 601024 ∧ slots + 48 ≤ 7293034) (hc2 : cells + 2 + 8 ≤ 601024 ∧ slots + 6 * 2 + 48 ≤ 7293034) (t : Tc32 E a1 h (fun E2 h2 => VL E2 g b x4 (cells + 2) (slots + 6 * 2) h2)) : V E ML room_1 g (LQ g) cells slots h 1651 [(0, .ref b), (1, .ref (eA E 0)), (2, .ref (eA E 63)), (3, .ref (eA E 98)), (4, .int x4)] [] := by
  unfold Tc32 at t
  refine r_aload_n (q := 1) dL_law_1651 rfl rfl ?_
  refine r_aload_n (q := 0) dL_law_1652 rfl rfl ?_
  refine r_iload (q := 4) dL_law_1653 rfl ?_
  refine r_iconst (v := (1 : Int32)) dL_law_1655 rfl ?_
  refine r_iadd dL_law_1656 ?_
  refine q_sld hX dL_law_1657 s1 e1 ?_
  refine r_aload_n (q := 3) dL_law_1658 rfl rfl ?_
  refine q_hS (M' := ML_runSource) (n := 3) (k1 := 2) (As := [.ref (eA E 0), .int a1, .ref (eA E 98)]) (hh := HL_runSource) dL_law_1659 mkL_runSource inRL lh_217 (by decide +kernel) rfl (by decide) rfl (Nat.le_of_ble_eq_true rfl) hcs (by decide) t ?_
  intro v1 h1 t
  have hcs := hc2
  refine r_istore (lv' := [(5, .int v1), (0, .ref b), (1, .ref (eA E 0)), (2, .ref (eA E 63)), (3, .ref (eA E 98)), (4, .int x4)]) dL_law_1662 (by decide) rfl ?_
  refine r_aload_n (q := 3) dL_law_1664 rfl rfl ?_
  refine r_aload_n (q := 1) dL_law_1665 rfl rfl ?_
  refine r_iload (q := 5) dL_law_1666 rfl ?_
  refine r_iconst (v := (1 : Int32)) dL_law_1668 rfl ?_
  refine r_iadd dL_law_1669 ?_
  refine q_sld hX dL_law_1670 s1 e1 ?_
  refine q_cVI (c := 63) (As := [.int a1]) dL_law_1671 mkX10_runSource lkL_219 lay_63 rfl rfl rfl (by decide) rfl (Nat.le_of_ble_eq_true rfl) hcs t ?_
  intro v2 h2 t
  refine r_istore (lv' := [(6, .int v2), (5, .int v1), (0, .ref b), (1, .ref (eA E 0)), (2, .ref (eA E 63)), (3, .ref (eA E 98)), (4, .int x4)]) dL_law_1674 (by decide) rfl ?_
  refine r_aload_n (q := 4) dL_law_1676 rfl rfl ?_
  refine q_cVI (c := 63) (As := []) dL_law_1677 mkX10_thrown lkL_129 lay_63 rfl rfl rfl (by decide) rfl (Nat.le_of_ble_eq_true rfl) hcs t ?_
  intro v3 h3 t
  refine r_iload (q := 1) dL_law_1680 rfl ?_
  refine r_icmp_eq (tgt := 1687) dL_law_1682 (by decide) (fun q4 => ?_) (fun q4 => ?_)
  · have t := t.1 q4
    refine r_iload (q := 1) dL_law_1687 rfl ?_
    refine r_if_ne (tgt := 1704) dL_law_1689 (by decide) (fun q5 => ?_) (fun q5 => ?_)
    · have t := t.1 q5
      refine r_goto (tgt := 1895) dL_law_1704 (by decide) ?_
      refine r_sub [2, 3, 4, 5, 6] rfl ?_
      exact t
    · have t := t.2 q5
      refine r_aload_n (q := 5) dL_law_1692 rfl rfl ?_
      refine r_iconst (v := (0 : Int32)) dL_law_1693 rfl ?_
      refine r_lald (c := 98) dL_law_1694 lay_98 vin01 ?_
      refine r_iload (q := 0) dL_law_1695 rfl ?_
      refine r_i2l dL_law_1697 ?_
      refine r_lcmp dL_law_1698 ?_
      refine r_if_eq (tgt := 1704) dL_law_1699 (by decide) (fun q6 => ?_) (fun q6 => ?_)
      · have t := t.1 q6
        refine r_goto (tgt := 1895) dL_law_1704 (by decide) ?_
        refine r_sub [2, 3, 4, 5, 6] rfl ?_
        exact t
      · have t := t.2 q6
        refine r_iconst (v := (0 : Int32)) dL_law_1702 rfl ?_
        exact t.elim
  · have t := t.2 q4
    refine r_iconst (v := (0 : Int32)) dL_law_1685 rfl ?_
    exact t.elim
def Tc33 (E : En) (a1 : Int32) (a2 : Int32) (h : Hp) (K : En → Hp → Prop) : Prop := SpH E 200 2 ML_start HL_start [.ref (eA E 0), .int a1, .int a2, .ref (eA E 98)] h (fun v1 h1 => SpI E 200 MX10_start [.ref (eA E 63), .int a1, .int a2] h1 (fun v2 h2 => SpI E 200 MX10_thrown [.ref (eA E 63)] h2 (fun v3 h3 => (v3 = v1 → ((¬ v1 = 0 → (K E h3)) ∧ (v1 = 0 → (((lg_cmp (h3.2 98 0) v2.toInt64) = 0 → (K E h3)) ∧ (¬ (lg_cmp (h3.2 98 0) v2.toInt64) = 0 → (False)))))) ∧ (¬ v3 = v1 → (False)))))
set_option maxRecDepth 20000 in
theorem law_c33 {E : En} {g : Ga} {b L : Nat} {xs : Nat → Int32} {x4 : Int32} {h : Hp} {cells slots : Nat} (hX : Scr E g b L xs) {a1 : Int32} (s1 : vp_in (x4 + (1 : Int32)) L) (e1 : xs (x4 + (1 : Int32)).toNatClampNeg = a1) {a2 : Int32} (s2 : vp_in (x4 + (2 : Int32)) L) (e2 : xs (x4 + (2 : Int32)).toNatClampNeg = a2) (hcs : cells + 8 ≤ 601024 ∧ slots + 48 ≤ 7293034) (hc2 : cells + 2 + 8 ≤ 601024 ∧ slots + 6 * 2 + 48 ≤ 7293034) (t : Tc33 E a1 a2 h (fun E2 h2 => VL E2 g b x4 (cells + 2) (slots + 6 * 2) h2)) : V E ML room_1 g (LQ g) cells slots h 1707 [(0, .ref b), (1, .ref (eA E 0)), (2, .ref (eA E 63)), (3, .ref (eA E 98)), (4, .int x4)] [] := by
  unfold Tc33 at t
  refine r_aload_n (q := 1) dL_law_1707 rfl rfl ?_
  refine r_aload_n (q := 0) dL_law_1708 rfl rfl ?_
  refine r_iload (q := 4) dL_law_1709 rfl ?_
  refine r_iconst (v := (1 : Int32)) dL_law_1711 rfl ?_
  refine r_iadd dL_law_1712 ?_
  refine q_sld hX dL_law_1713 s1 e1 ?_
  refine r_aload_n (q := 0) dL_law_1714 rfl rfl ?_
  refine r_iload (q := 4) dL_law_1715 rfl ?_
  refine r_iconst (v := (2 : Int32)) dL_law_1717 rfl ?_
  refine r_iadd dL_law_1718 ?_
  refine q_sld hX dL_law_1719 s2 e2 ?_
  refine r_aload_n (q := 3) dL_law_1720 rfl rfl ?_
  refine q_hS (M' := ML_start) (n := 4) (k1 := 2) (As := [.ref (eA E 0), .int a1, .int a2, .ref (eA E 98)]) (hh := HL_start) dL_law_1721 mkL_start inRL lh_220 (by decide +kernel) rfl (by decide) rfl (Nat.le_of_ble_eq_true rfl) hcs (by decide) t ?_
  intro v1 h1 t
  have hcs := hc2
  refine r_istore (lv' := [(5, .int v1), (0, .ref b), (1, .ref (eA E 0)), (2, .ref (eA E 63)), (3, .ref (eA E 98)), (4, .int x4)]) dL_law_1724 (by decide) rfl ?_
  refine r_aload_n (q := 3) dL_law_1726 rfl rfl ?_
  refine r_aload_n (q := 1) dL_law_1727 rfl rfl ?_
  refine r_iload (q := 5) dL_law_1728 rfl ?_
  refine r_iconst (v := (1 : Int32)) dL_law_1730 rfl ?_
  refine r_iadd dL_law_1731 ?_
  refine q_sld hX dL_law_1732 s1 e1 ?_
  refine r_aload_n (q := 1) dL_law_1733 rfl rfl ?_
  refine r_iload (q := 5) dL_law_1734 rfl ?_
  refine r_iconst (v := (2 : Int32)) dL_law_1736 rfl ?_
  refine r_iadd dL_law_1737 ?_
  refine q_sld hX dL_law_1738 s2 e2 ?_
  refine q_cVI (c := 63) (As := [.int a1, .int a2]) dL_law_1739 mkX10_start lkL_222 lay_63 rfl rfl rfl (by decide) rfl (Nat.le_of_ble_eq_true rfl) hcs t ?_
  intro v2 h2 t
  refine r_istore (lv' := [(6, .int v2), (5, .int v1), (0, .ref b), (1, .ref (eA E 0)), (2, .ref (eA E 63)), (3, .ref (eA E 98)), (4, .int x4)]) dL_law_1742 (by decide) rfl ?_
  refine r_aload_n (q := 4) dL_law_1744 rfl rfl ?_
  refine q_cVI (c := 63) (As := []) dL_law_1745 mkX10_thrown lkL_129 lay_63 rfl rfl rfl (by decide) rfl (Nat.le_of_ble_eq_true rfl) hcs t ?_
  intro v3 h3 t
  refine r_iload (q := 1) dL_law_1748 rfl ?_
  refine r_icmp_eq (tgt := 1755) dL_law_1750 (by decide) (fun q4 => ?_) (fun q4 => ?_)
  · have t := t.1 q4
    refine r_iload (q := 1) dL_law_1755 rfl ?_
    refine r_if_ne (tgt := 1772) dL_law_1757 (by decide) (fun q5 => ?_) (fun q5 => ?_)
    · have t := t.1 q5
      refine r_goto (tgt := 1895) dL_law_1772 (by decide) ?_
      refine r_sub [2, 3, 4, 5, 6] rfl ?_
      exact t
    · have t := t.2 q5
      refine r_aload_n (q := 5) dL_law_1760 rfl rfl ?_
      refine r_iconst (v := (0 : Int32)) dL_law_1761 rfl ?_
      refine r_lald (c := 98) dL_law_1762 lay_98 vin01 ?_
      refine r_iload (q := 0) dL_law_1763 rfl ?_
      refine r_i2l dL_law_1765 ?_
      refine r_lcmp dL_law_1766 ?_
      refine r_if_eq (tgt := 1772) dL_law_1767 (by decide) (fun q6 => ?_) (fun q6 => ?_)
      · have t := t.1 q6
        refine r_goto (tgt := 1895) dL_law_1772 (by decide) ?_
        refine r_sub [2, 3, 4, 5, 6] rfl ?_
        exact t
      · have t := t.2 q6
        refine r_iconst (v := (0 : Int32)) dL_law_1770 rfl ?_
        exact t.elim
  · have t := t.2 q4
    refine r_iconst (v := (0 : Int32)) dL_law_1753 rfl ?_
    exact t.elim
def Tc34 (E : En) (h : Hp) (K : En → Hp → Prop) : Prop := SpH E 200 1 ML_resume HL_resume [.ref (eA E 0), .ref (eA E 98)] h (fun v1 h1 => SpI E 200 MX10_resume [.ref (eA E 63)] h1 (fun v2 h2 => SpI E 200 MX10_thrown [.ref (eA E 63)] h2 (fun v3 h3 => (v3 = v1 → ((¬ v1 = 0 → (K E h3)) ∧ (v1 = 0 → (((lg_cmp (h3.2 98 0) v2.toInt64) = 0 → (K E h3)) ∧ (¬ (lg_cmp (h3.2 98 0) v2.toInt64) = 0 → (False)))))) ∧ (¬ v3 = v1 → (False)))))
set_option maxRecDepth 20000 in
theorem law_c34 {E : En} {g : Ga} {b L : Nat} {xs : Nat → Int32} {x4 : Int32} {h : Hp} {cells slots : Nat} (hX : Scr E g b L xs) (hcs : cells + 8 ≤ 601024 ∧ slots + 48 ≤ 7293034) (hc2 : cells + 1 + 8 ≤ 601024 ∧ slots + 6 * 1 + 48 ≤ 7293034) (t : Tc34 E h (fun E2 h2 => VL E2 g b x4 (cells + 1) (slots + 6 * 1) h2)) : V E ML room_1 g (LQ g) cells slots h 1775 [(0, .ref b), (1, .ref (eA E 0)), (2, .ref (eA E 63)), (3, .ref (eA E 98)), (4, .int x4)] [] := by
  unfold Tc34 at t
  refine r_aload_n (q := 1) dL_law_1775 rfl rfl ?_
  refine r_aload_n (q := 3) dL_law_1776 rfl rfl ?_
  refine q_hS (M' := ML_resume) (n := 2) (k1 := 1) (As := [.ref (eA E 0), .ref (eA E 98)]) (hh := HL_resume) dL_law_1777 mkL_resume inRL lh_223 (by decide +kernel) rfl (by decide) rfl (Nat.le_of_ble_eq_true rfl) hcs (by decide) t ?_
  intro v1 h1 t
  have hcs := hc2
  refine r_istore (lv' := [(5, .int v1), (0, .ref b), (1, .ref (eA E 0)), (2, .ref (eA E 63)), (3, .ref (eA E 98)), (4, .int x4)]) dL_law_1780 (by decide) rfl ?_
  refine r_aload_n (q := 3) dL_law_1782 rfl rfl ?_
  refine q_cVI (c := 63) (As := []) dL_law_1783 mkX10_resume lkL_226 lay_63 rfl rfl rfl (by decide) rfl (Nat.le_of_ble_eq_true rfl) hcs t ?_
  intro v2 h2 t
  refine r_istore (lv' := [(6, .int v2), (5, .int v1), (0, .ref b), (1, .ref (eA E 0)), (2, .ref (eA E 63)), (3, .ref (eA E 98)), (4, .int x4)]) dL_law_1786 (by decide) rfl ?_
  refine r_aload_n (q := 4) dL_law_1788 rfl rfl ?_
  refine q_cVI (c := 63) (As := []) dL_law_1789 mkX10_thrown lkL_129 lay_63 rfl rfl rfl (by decide) rfl (Nat.le_of_ble_eq_true rfl) hcs t ?_
  intro v3 h3 t
  refine r_iload (q := 1) dL_law_1792 rfl ?_
  refine r_icmp_eq (tgt := 1799) dL_law_1794 (by decide) (fun q4 => ?_) (fun q4 => ?_)
  · have t := t.1 q4
    refine r_iload (q := 1) dL_law_1799 rfl ?_
    refine r_if_ne (tgt := 1816) dL_law_1801 (by decide) (fun q5 => ?_) (fun q5 => ?_)
    · have t := t.1 q5
      refine r_goto (tgt := 1895) dL_law_1816 (by decide) ?_
      refine r_sub [2, 3, 4, 5, 6] rfl ?_
      exact t
    · have t := t.2 q5
      refine r_aload_n (q := 5) dL_law_1804 rfl rfl ?_
      refine r_iconst (v := (0 : Int32)) dL_law_1805 rfl ?_
      refine r_lald (c := 98) dL_law_1806 lay_98 vin01 ?_
      refine r_iload (q := 0) dL_law_1807 rfl ?_
      refine r_i2l dL_law_1809 ?_
      refine r_lcmp dL_law_1810 ?_
      refine r_if_eq (tgt := 1816) dL_law_1811 (by decide) (fun q6 => ?_) (fun q6 => ?_)
      · have t := t.1 q6
        refine r_goto (tgt := 1895) dL_law_1816 (by decide) ?_
        refine r_sub [2, 3, 4, 5, 6] rfl ?_
        exact t
      · have t := t.2 q6
        refine r_iconst (v := (0 : Int32)) dL_law_1814 rfl ?_
        exact t.elim
  · have t := t.2 q4
    refine r_iconst (v := (0 : Int32)) dL_law_1797 rfl ?_
    exact t.elim
def Tc35 (E : En) (h : Hp) (K : En → Hp → Prop) : Prop := SpI E 200 MX9_address [.ref (eA E 0)] h (fun v1 h1 => SpI E 200 MX10_address [.ref (eA E 63)] h1 (fun v2 h2 => (v1 = v2 → (K E h2)) ∧ (¬ v1 = v2 → (False))))
set_option maxRecDepth 20000 in
theorem law_c35 {E : En} {g : Ga} {b L : Nat} {xs : Nat → Int32} {x4 : Int32} {h : Hp} {cells slots : Nat} (hX : Scr E g b L xs) (hcs : cells + 8 ≤ 601024 ∧ slots + 48 ≤ 7293034) (t : Tc35 E h (fun E2 h2 => VL E2 g b x4 (cells + 0) (slots + 6 * 0) h2)) : V E ML room_1 g (LQ g) cells slots h 1819 [(0, .ref b), (1, .ref (eA E 0)), (2, .ref (eA E 63)), (3, .ref (eA E 98)), (4, .int x4)] [] := by
  unfold Tc35 at t
  refine r_aload_n (q := 1) dL_law_1819 rfl rfl ?_
  refine q_cVI (c := 0) (As := []) dL_law_1820 mkX9_address lkL_227 lay_0 rfl rfl rfl (by decide) rfl (Nat.le_of_ble_eq_true rfl) hcs t ?_
  intro v1 h1 t
  refine r_aload_n (q := 2) dL_law_1823 rfl rfl ?_
  refine q_cVI (c := 63) (As := []) dL_law_1824 mkX10_address lkL_230 lay_63 rfl rfl rfl (by decide) rfl (Nat.le_of_ble_eq_true rfl) hcs t ?_
  intro v2 h2 t
  refine r_icmp_eq (tgt := 1895) dL_law_1827 (by decide) (fun q3 => ?_) (fun q3 => ?_)
  · have t := t.1 q3
    refine r_sub [0, 1, 2, 3, 4] rfl ?_
    exact t
  · have t := t.2 q3
    refine r_iconst (v := (0 : Int32)) dL_law_1830 rfl ?_
    exact t.elim
def Tc36 (E : En) (a1 : Int32) (h : Hp) (K : En → Hp → Prop) : Prop := SpH E 200 1 ML_agrees HL_agrees [.ref (eA E 0), .int a1, .ref (eA E 98)] h (fun v1 h1 => SpI E 200 MX10_agrees [.ref (eA E 63), .int a1] h1 (fun v2 h2 => SpI E 200 MX10_thrown [.ref (eA E 63)] h2 (fun v3 h3 => (v3 = v1 → ((¬ v1 = 0 → (K E h3)) ∧ (v1 = 0 → ((v2 = 0 → (((lg_cmp (h3.2 98 0) (0 : Int64)) = 0 → (K E h3)) ∧ (¬ (lg_cmp (h3.2 98 0) (0 : Int64)) = 0 → (False)))) ∧ (¬ v2 = 0 → (((lg_cmp (h3.2 98 0) (1 : Int64)) = 0 → (K E h3)) ∧ (¬ (lg_cmp (h3.2 98 0) (1 : Int64)) = 0 → (False)))))))) ∧ (¬ v3 = v1 → (False)))))
set_option maxRecDepth 20000 in
theorem law_c36 {E : En} {g : Ga} {b L : Nat} {xs : Nat → Int32} {x4 : Int32} {h : Hp} {cells slots : Nat} (hX : Scr E g b L xs) {a1 : Int32} (s1 : vp_in (x4 + (1 : Int32)) L) (e1 : xs (x4 + (1 : Int32)).toNatClampNeg = a1) (hcs : cells + 8 ≤ 601024 ∧ slots + 48 ≤ 7293034) (hc2 : cells + 1 + 8 ≤ 601024 ∧ slots + 6 * 1 + 48 ≤ 7293034) (t : Tc36 E a1 h (fun E2 h2 => VL E2 g b x4 (cells + 1) (slots + 6 * 1) h2)) : V E ML room_1 g (LQ g) cells slots h 1832 [(0, .ref b), (1, .ref (eA E 0)), (2, .ref (eA E 63)), (3, .ref (eA E 98)), (4, .int x4)] [] := by
  unfold Tc36 at t
  refine r_aload_n (q := 1) dL_law_1832 rfl rfl ?_
  refine r_aload_n (q := 0) dL_law_1833 rfl rfl ?_
  refine r_iload (q := 4) dL_law_1834 rfl ?_
  refine r_iconst (v := (1 : Int32)) dL_law_1836 rfl ?_
  refine r_iadd dL_law_1837 ?_
  refine q_sld hX dL_law_1838 s1 e1 ?_
  refine r_aload_n (q := 3) dL_law_1839 rfl rfl ?_
  refine q_hS (M' := ML_agrees) (n := 3) (k1 := 1) (As := [.ref (eA E 0), .int a1, .ref (eA E 98)]) (hh := HL_agrees) dL_law_1840 mkL_agrees inRL lh_231 (by decide +kernel) rfl (by decide) rfl (Nat.le_of_ble_eq_true rfl) hcs (by decide) t ?_
  intro v1 h1 t
  have hcs := hc2
  refine r_istore (lv' := [(5, .int v1), (0, .ref b), (1, .ref (eA E 0)), (2, .ref (eA E 63)), (3, .ref (eA E 98)), (4, .int x4)]) dL_law_1843 (by decide) rfl ?_
  refine r_aload_n (q := 3) dL_law_1845 rfl rfl ?_
  refine r_aload_n (q := 1) dL_law_1846 rfl rfl ?_
  refine r_iload (q := 5) dL_law_1847 rfl ?_
  refine r_iconst (v := (1 : Int32)) dL_law_1849 rfl ?_
  refine r_iadd dL_law_1850 ?_
  refine q_sld hX dL_law_1851 s1 e1 ?_
  refine q_cVI (c := 63) (As := [.int a1]) dL_law_1852 mkX10_agrees lkL_233 lay_63 rfl rfl rfl (by decide) rfl (Nat.le_of_ble_eq_true rfl) hcs t ?_
  intro v2 h2 t
  refine r_istore (lv' := [(6, .int v2), (5, .int v1), (0, .ref b), (1, .ref (eA E 0)), (2, .ref (eA E 63)), (3, .ref (eA E 98)), (4, .int x4)]) dL_law_1855 (by decide) rfl ?_
  refine r_aload_n (q := 4) dL_law_1857 rfl rfl ?_
  refine q_cVI (c := 63) (As := []) dL_law_1858 mkX10_thrown lkL_129 lay_63 rfl rfl rfl (by decide) rfl (Nat.le_of_ble_eq_true rfl) hcs t ?_
  intro v3 h3 t
  refine r_iload (q := 1) dL_law_1861 rfl ?_
  refine r_icmp_eq (tgt := 1868) dL_law_1863 (by decide) (fun q4 => ?_) (fun q4 => ?_)
  · have t := t.1 q4
    refine r_iload (q := 1) dL_law_1868 rfl ?_
    refine r_if_ne (tgt := 1892) dL_law_1870 (by decide) (fun q5 => ?_) (fun q5 => ?_)
    · have t := t.1 q5
      refine r_goto (tgt := 1895) dL_law_1892 (by decide) ?_
      refine r_sub [2, 3, 4, 5, 6] rfl ?_
      exact t
    · have t := t.2 q5
      refine r_aload_n (q := 5) dL_law_1873 rfl rfl ?_
      refine r_iconst (v := (0 : Int32)) dL_law_1874 rfl ?_
      refine r_lald (c := 98) dL_law_1875 lay_98 vin01 ?_
      refine r_iload (q := 0) dL_law_1876 rfl ?_
      refine r_if_eq (tgt := 1885) dL_law_1878 (by decide) (fun q6 => ?_) (fun q6 => ?_)
      · have t := t.1 q6
        refine r_lconst (v := (0 : Int64)) dL_law_1885 rfl ?_
        refine r_lcmp dL_law_1886 ?_
        refine r_if_eq (tgt := 1892) dL_law_1887 (by decide) (fun q7 => ?_) (fun q7 => ?_)
        · have t := t.1 q7
          refine r_goto (tgt := 1895) dL_law_1892 (by decide) ?_
          refine r_sub [2, 3, 4, 5, 6] rfl ?_
          exact t
        · have t := t.2 q7
          refine r_iconst (v := (0 : Int32)) dL_law_1890 rfl ?_
          exact t.elim
      · have t := t.2 q6
        refine r_lconst (v := (1 : Int64)) dL_law_1881 rfl ?_
        refine r_goto (tgt := 1886) dL_law_1882 (by decide) ?_
        refine r_lcmp dL_law_1886 ?_
        refine r_if_eq (tgt := 1892) dL_law_1887 (by decide) (fun q8 => ?_) (fun q8 => ?_)
        · have t := t.1 q8
          refine r_goto (tgt := 1895) dL_law_1892 (by decide) ?_
          refine r_sub [2, 3, 4, 5, 6] rfl ?_
          exact t
        · have t := t.2 q8
          refine r_iconst (v := (0 : Int32)) dL_law_1890 rfl ?_
          exact t.elim
  · have t := t.2 q4
    refine r_iconst (v := (0 : Int32)) dL_law_1866 rfl ?_
    exact t.elim
