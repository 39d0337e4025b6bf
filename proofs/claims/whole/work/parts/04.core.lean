/-! THE LAYER: one pure heap of all cells (ints and booleans and bytes by (cell, place), longs likewise), a judgement V of a frame over it, contracts Sp of methods over it -/
abbrev Hp : Type := (Nat → Nat → Int32) × (Nat → Nat → Int64)
def sI (h : Hp) (c j : Nat) (v : Int32) : Hp := (va_up h.1 c (upd (h.1 c) j v), h.2)
def sL (h : Hp) (c j : Nat) (v : Int64) : Hp := (h.1, va_up h.2 c (vp_updL (h.2 c) j v))
def sA (h : Hp) (c : Nat) (f : Nat → Int32) : Hp := (va_up h.1 c f, h.2)
/-- launch; classes' numbers and slots; the array classes' numbers; the cells' addresses; where the new cells begin; the String constants' addresses, their bytes' addresses; the two static rows' addresses -/
abbrev En : Type := Launch × va_G × (Nat → ClassId) × (Nat → Nat) × Nat × (Nat → Nat) × (Nat → Nat) × Nat × Nat
abbrev eL (E : En) : Launch := E.1
abbrev eD (E : En) : va_G := E.2.1
abbrev eC (E : En) : Nat → ClassId := E.2.2.1
abbrev eA (E : En) : Nat → Nat := E.2.2.2.1
abbrev eB (E : En) : Nat := E.2.2.2.2.1
abbrev eK (E : En) : Nat → Nat := E.2.2.2.2.2.1
abbrev eV (E : En) : Nat → Nat := E.2.2.2.2.2.2.1
abbrev eT (E : En) : Nat := E.2.2.2.2.2.2.2.1
abbrev eU (E : En) : Nat := E.2.2.2.2.2.2.2.2
def fv (E : En) (h : Hp) (c j : Nat) (f : Nat × Nat) : Value := if f.1 = 0 then .int (h.1 c j) else if f.1 = 1 then .long (h.2 c j) else .ref (eA E f.2)
def cE (E : En) (h : Hp) (c : Nat) : Lt → va_E
  | .inl q => .inr (q.1, q.2.mapIdx (fun j f => fv E h c j f))
  | .inr q => .inl (eC E q.1, q.2, if q.1 = 3 then .inr (.inl (h.2 c)) else .inl (h.1 c))
def wl (E : En) (h : Hp) : va_W := lay.mapIdx (fun c e => (eA E c, cE E h c e))
def A0 (E : En) : Nat → Prop := fun q => eB E ≤ q
theorem wl_at {E : En} {h : Hp} {c : Nat} {e : Lt} (hl : lay[c]? = some e) : (wl E h)[c]? = some (eA E c, cE E h c e) := by
  unfold wl
  rw [List.getElem?_mapIdx, hl]
  rfl
/-- the addresses are apart, and new -/
def AdrOK (E : En) : Prop := (∀ i j : Nat, i < lay.length → j < lay.length → eA E i = eA E j → i = j) ∧ ∀ i : Nat, i < lay.length → eB E ≤ eA E i
theorem AdrOK.D {E : En} (ha : AdrOK E) (h : Hp) : va_D (A0 E) (wl E h) := by
  have key : ∀ (i : Nat) (p : Nat × va_E), (wl E h)[i]? = some p → i < lay.length ∧ p.1 = eA E i := by
    intro i p hp
    unfold wl at hp
    rw [List.getElem?_mapIdx] at hp
    cases hl : lay[i]? with
    | none => rw [hl] at hp; cases hp
    | some e =>
      rw [hl] at hp
      refine ⟨(List.getElem?_eq_some_iff.mp hl).1, ?_⟩
      cases hp
      rfl
  refine ⟨fun i j p q hp hq e => ?_, fun k q hq => ?_⟩
  · obtain ⟨h1, e1⟩ := key i p hp
    obtain ⟨h2, e2⟩ := key j q hq
    exact ha.1 i j h1 h2 (by rw [← e1, ← e2]; exact e)
  · obtain ⟨h1, e1⟩ := key k q hq
    rw [e1]
    exact ha.2 k h1
theorem wl_set {E : En} {h h' : Hp} {c : Nat} {e : Lt} (hl : lay[c]? = some e) (x : va_E) (hx : cE E h' c e = x) (ho : ∀ (j : Nat) (e' : Lt), j ≠ c → cE E h' j e' = cE E h j e') : (wl E h).set c (eA E c, x) = wl E h' := by
  apply List.ext_getElem?
  intro j
  by_cases hj : j = c
  · subst hj
    rw [wl_at hl, hx, List.getElem?_set_self]
    unfold wl
    rw [List.length_mapIdx]
    exact (List.getElem?_eq_some_iff.mp hl).1
  · rw [List.getElem?_set_ne (fun q => hj q.symm)]
    unfold wl
    rw [List.getElem?_mapIdx, List.getElem?_mapIdx]
    cases lay[j]? with
    | none => rfl
    | some e' =>
      show some (eA E j, cE E h j e') = some (eA E j, cE E h' j e')
      rw [ho j e' hj]
theorem cE_sI {E : En} {h : Hp} {c k : Nat} {v : Int32} (j : Nat) (e : Lt) (hj : j ≠ c) : cE E (sI h c k v) j e = cE E h j e := by
  have h1 : (sI h c k v).1 j = h.1 j := va_up_ne _ _ hj
  have h2 : (sI h c k v).2 = h.2 := rfl
  cases e with
  | inl q => simp only [cE, fv, h1, h2]
  | inr q => simp only [cE, h1, h2]
theorem cE_sA {E : En} {h : Hp} {c : Nat} {f : Nat → Int32} (j : Nat) (e : Lt) (hj : j ≠ c) : cE E (sA h c f) j e = cE E h j e := by
  have h1 : (sA h c f).1 j = h.1 j := va_up_ne _ _ hj
  have h2 : (sA h c f).2 = h.2 := rfl
  cases e with
  | inl q => simp only [cE, fv, h1, h2]
  | inr q => simp only [cE, h1, h2]
theorem cE_sL {E : En} {h : Hp} {c k : Nat} {v : Int64} (j : Nat) (e : Lt) (hj : j ≠ c) : cE E (sL h c k v) j e = cE E h j e := by
  have h1 : (sL h c k v).2 j = h.2 j := va_up_ne _ _ hj
  have h2 : (sL h c k v).1 = h.1 := rfl
  cases e with
  | inl q => simp only [cE, fv, h1, h2]
  | inr q => simp only [cE, h1, h2]
theorem fields_sI {E : En} {h : Hp} {c k z : Nat} {v : Int32} {fk : List (Nat × Nat)} (hk : fk[k]? = some (0, z)) : (fk.mapIdx (fun j f => fv E h c j f)).set k (.int v) = fk.mapIdx (fun j f => fv E (sI h c k v) c j f) := by
  apply List.ext_getElem?
  intro j
  by_cases hj : j = k
  · subst hj
    rw [List.getElem?_set_self (by rw [List.length_mapIdx]; exact (List.getElem?_eq_some_iff.mp hk).1), List.getElem?_mapIdx, hk]
    simp [fv, sI, va_up_self, upd]
  · rw [List.getElem?_set_ne (fun q => hj q.symm), List.getElem?_mapIdx, List.getElem?_mapIdx]
    cases fk[j]? with
    | none => rfl
    | some f => simp [fv, sI, va_up_self, upd, hj]
theorem fields_sL {E : En} {h : Hp} {c k z : Nat} {v : Int64} {fk : List (Nat × Nat)} (hk : fk[k]? = some (1, z)) : (fk.mapIdx (fun j f => fv E h c j f)).set k (.long v) = fk.mapIdx (fun j f => fv E (sL h c k v) c j f) := by
  apply List.ext_getElem?
  intro j
  by_cases hj : j = k
  · subst hj
    rw [List.getElem?_set_self (by rw [List.length_mapIdx]; exact (List.getElem?_eq_some_iff.mp hk).1), List.getElem?_mapIdx, hk]
    simp [fv, sL, va_up_self, vp_updL]
  · rw [List.getElem?_set_ne (fun q => hj q.symm), List.getElem?_mapIdx, List.getElem?_mapIdx]
    cases fk[j]? with
    | none => rfl
    | some f => simp [fv, sL, va_up_self, vp_updL, hj]
abbrev tysE (E : En) : List (ClassId × FieldType) := [(eC E 0, .int), (eC E 1, .byte), (eC E 2, .boolean), (eC E 3, .long)]
/-- the String constants whose signs are read: (class, index, text, number); those that only a throw names -/
def STRS : List (String × Nat × String × Nat) := [("MicrocodeOptimizer$Input", 152, "=;:,!+-*&|^", 0), ("MicrocodeOptimizer$Input", 119, "+-*&|^", 1), ("MicrocodeOptimizer$Output", 34, "op ", 2), ("MicrocodeOptimizer$Output", 48, " unit ", 3), ("MicrocodeOptimizer$Output", 73, "+-*&|^", 1), ("MicrocodeOptimizer$Output", 84, "instr ", 4), ("MicrocodeOptimizerModel", 353, "op", 5), ("MicrocodeOptimizerModel", 359, "unit", 6), ("MicrocodeOptimizerModel", 360, "instr", 7), ("MicrocodeOptimizerModel", 403, "op ", 2), ("MicrocodeOptimizerModel", 412, " unit ", 3), ("MicrocodeOptimizerModel", 417, "+-*&|^", 1), ("MicrocodeOptimizerModel", 419, "instr ", 4)]
def THRS : List (Nat × String) := [(117, "no such byte of the output"), (180, "no such operation"), (151, "no such property of an operation"), (183, "no such instruction"), (185, "no such index into the source"), (187, "no such mode"), (193, "no mark behind the last operation"), (200, "a segment would be too long"), (235, "no such word"), (264, "no such address"), (262, "no such property of a word"), (292, "no such register"), (309, "the processor is not idle"), (301, "a negative number of words"), (307, "the processor is idle")]
def slen : List Nat := [11, 6, 3, 6, 6, 2, 4, 5]
def sbyt : List (List Int32) := [[61, 59, 58, 44, 33, 43, 45, 42, 38, 124, 94], [43, 45, 42, 38, 124, 94], [111, 112, 32], [32, 117, 110, 105, 116, 32], [105, 110, 115, 116, 114, 32], [111, 112], [117, 110, 105, 116], [105, 110, 115, 116, 114]]
def BITS : List Int32 := [0, 1, 2, 2, 3, 3, 3, 3, 4, 4, 4, 4, 4]
def PBITS : List Int32 := [0, 0, 2, 3, 3, 4, 4, 4, 4, 5, 5, 5, 5]
/-- what nobody changes: the classes, the String constants, the static rows, what a throw asks of Throwable -/
def KstA (E : En) (U : State) : Prop := va_K (eD E) vwCl (tysE E) U ∧ eB E ≤ U.heap.size ∧ (eL E).stackTraces = false ∧ (∀ q ∈ STRS, vk_R q.1 q.2.1 q.2.2.1 (eK E q.2.2.2) U) ∧ (∀ q ∈ THRS, ∃ a : Nat, vk_R RX9 q.1 q.2 a U) ∧ vk_S 8 slen sbyt (eK E) (eV E) (A0 E) U U.heap ∧ vx_Zq Bundle.tN "UNASSIGNED_STACK" Bundle.steD (A0 E) U U.heap ∧ vx_Zq Bundle.tN "SUPPRESSED_SENTINEL" Bundle.listD (A0 E) U U.heap ∧ (va_Z RX0 "BITS" "[I" (.ref (eT E)) (A0 E) U U.heap ∧ va_T .int (eT E) 13 (fun j => .int (BITS.getD j 0)) (A0 E) U U.heap) ∧ (va_Z RX0 "PARTED_BITS" "[I" (.ref (eU E)) (A0 E) U U.heap ∧ va_T .int (eU E) 13 (fun j => .int (PBITS.getD j 0)) (A0 E) U U.heap)
def DECL : List MethodName := [⟨"java/lang/RuntimeException", "<init>", "(Ljava/lang/String;)V"⟩, ⟨"java/lang/Exception", "<init>", "(Ljava/lang/String;)V"⟩, ⟨"java/lang/Throwable", "<init>", "(Ljava/lang/String;)V"⟩, ⟨"java/lang/RuntimeException", "<init>", "()V"⟩, ⟨"java/lang/Exception", "<init>", "()V"⟩, ⟨"java/lang/Throwable", "<init>", "()V"⟩]
def CASTS : List (String × String) := [("java/util/NoSuchElementException", "java/util/NoSuchElementException"), ("java/lang/IndexOutOfBoundsException", "java/lang/IndexOutOfBoundsException"), ("java/lang/IllegalArgumentException", "java/lang/IllegalArgumentException"), ("java/lang/IllegalStateException", "java/lang/IllegalStateException")]
def NCASTS : List (String × String) := [("java/lang/IllegalArgumentException", "java/lang/IndexOutOfBoundsException"), ("java/lang/IllegalStateException", "java/lang/IndexOutOfBoundsException"), ("java/lang/IllegalStateException", "java/lang/IllegalArgumentException")]
def KstB (E : En) (U : State) : Prop := (∀ x ∈ DECL, va_Nw (.declares x) U) ∧ (∀ q ∈ CASTS, va_Nw (.castable q.1 q.2) U) ∧ (∀ q ∈ NCASTS, va_Nc q.1 q.2 U) ∧ va_Z "java/lang/String" "COMPACT_STRINGS" "Z" (.int 1) (A0 E) U U.heap ∧ va_Zq "jdk/internal/util/Preconditions" "SIOOBE_FORMATTER" "Ljava/util/function/BiFunction;" (A0 E) U U.heap
def Kst (E : En) (U : State) : Prop := KstA E U ∧ KstB E U
theorem Kst.go {E : En} {u U : State} (hW : u.WarmedH U.vm) (hz : u.heap.size ≤ U.heap.size) (hq : ∀ a : Nat, a < u.heap.size → ¬ A0 E a → U.heap[a]? = u.heap[a]?) (h : Kst E u) : Kst E U := by
  obtain ⟨⟨h1, h2, h3, h4, h5, h6, h7, h8, ⟨h9, h10⟩, h11, h12⟩, g1, g2, g3, g4, g5⟩ := h
  exact ⟨⟨va_K.moved hW.alike h1, Nat.le_trans h2 hz, h3, fun q hm => vk_R.warm hW (h4 q hm), fun q hm => (h5 q hm).elim fun a ha => ⟨a, vk_R.warm hW ha⟩, vk_S.moved hW.alike (h6.kept hq), vx_Zq.moved hW.alike (h7.kept hq), vx_Zq.moved hW.alike (h8.kept hq), ⟨va_Z.moved hW.alike (h9.kept hq), va_T.moved hW.alike (h10.kept hq)⟩, va_Z.moved hW.alike (h11.kept hq), va_T.moved hW.alike (h12.kept hq)⟩,
    fun x hx => va_Nw.warmD hW (g1 x hx), fun q hx => va_Nw.warmC hW (g2 q hx), fun q hx => va_Nc.moved hW.alike (g3 q hx), va_Z.moved hW.alike (g4.kept hq), va_Zq.moved hW.alike (g5.kept hq)⟩
theorem Kst.same {E : En} {u U : State} (hv : U.vm = u.vm) (hh : U.heap = u.heap) (h : Kst E u) : Kst E U := h.go (by rw [hv]; exact State.WarmedH.refl u) (by rw [hh]; exact Nat.le_refl _) (fun a _ _ => by rw [hh])
/-- a method's start -/
def Pre (E : En) (h : Hp) (U : State) : Prop := va_P (eD E) vwCl (wl E h) U.heap ∧ AdrOK E ∧ Kst E U
def RM (d k : Nat) : Room := { frames := d, cells := k, slots := 6 * k, locals := 40 * d }
abbrev QI (E : En) (P : Int32 → Hp → Prop) : Array Value → State → Outcome → State → Prop := va_Qi (fun (r : Int32) (h : Hp) => P r h) (fun h t => va_P (eD E) vwCl (wl E h) t.heap) (A0 E)
abbrev QL (E : En) (P : Int64 → Hp → Prop) : Array Value → State → Outcome → State → Prop := va_Ql (fun (r : Int64) (h : Hp) => P r h) (fun h t => va_P (eD E) vwCl (wl E h) t.heap) (A0 E)
abbrev QV (E : En) (P : Hp → Prop) : Array Value → State → Outcome → State → Prop := va_Qv (fun (h : Hp) => P h) (fun h t => va_P (eD E) vwCl (wl E h) t.heap) (A0 E)
/-- the contracts: an answer that is an int (a boolean), a long, none; at depth d -/
def SpI (E : En) (d : Nat) (M : Mt) (av : List Value) (h : Hp) (P : Int32 → Hp → Prop) : Prop := Met (eL E) M.1 (wsM M) (RM d 0) (va_Pc av (Pre E h)) (QI E P) 0 0 (A0 E)
def SpL (E : En) (d : Nat) (M : Mt) (av : List Value) (h : Hp) (P : Int64 → Hp → Prop) : Prop := Met (eL E) M.1 (wsM M) (RM d 0) (va_Pc av (Pre E h)) (QL E P) 0 0 (A0 E)
def SpV (E : En) (d : Nat) (M : Mt) (av : List Value) (h : Hp) (P : Hp → Prop) : Prop := Met (eL E) M.1 (wsM M) (RM d 0) (va_Pc av (Pre E h)) (QV E P) 0 0 (A0 E)
/-- the machine inside a method -/
abbrev Ga : Type := Program × Env × State × MethodId × Array Value × List Frame × Method × Code
def Cx (E : En) (M : Mt) (g : Ga) : Prop := match g with
  | (p, _, s, m, args, _, meth, c) => p.tables.exec = Jvm.exec ∧ c.code = M.2.1 ∧ c.maxLocals = M.2.2.1 ∧ s.vm.findClass M.1.cls = some m.cls ∧ (∀ w ∈ TBL, w.before args s = true) ∧ meth.locks = false ∧ meth.sig.returnType = M.2.2.2 ∧ AdrOK E ∧ Kst E s
def V (E : En) (M : Mt) (R : Room) (g : Ga) (Q : State → Prop) (cells slots : Nat) (h : Hp) (pc : Nat) (lv : List (Nat × Value)) (st : List Value) : Prop := match g with
  | (p, e, s, m, args, below, meth, c) => Cx E M (p, e, s, m, args, below, meth, c) → ∀ (H : Heap) (locs : List Loc) (ls : Array Slot), va_P (eD E) vwCl (wl E h) H → va_S (A0 E) s.heap H locs → lv_has ls M.2.2.1 lv → W p (eL E) e R s m args below meth c H locs cells slots Q (F0 m pc ls st)
