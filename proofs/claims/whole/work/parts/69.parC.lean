/-! the grammar of operations; the class reads one -/
def pE (T : Tx) (p k : Nat) : Nat := 8 * tPl T p + k
def opn (T : Tx) (p : Nat) : Nat := if tK T p = 3 then tV T p else 8 + tV T p
abbrev isOp (T : Tx) (p : Nat) : Prop := tK T p = 3 ∨ tK T p = 4
def addO (D : SD) (nm : Nat → Nat) (u t k a b : Nat) : SD := (dN D + 1, (fun m => if m = dN D then u else dU D m), (fun m => if m = dN D then t else dT D m), (fun m => if m = dN D then k else dK D m), (fun m => if m = dN D then a else dA D m), (fun m => if m = dN D then b else dB D m), (fun m => if m = dN D then nm else dM D m), dI D, dL D, dR D)
def usd (T : Tx) (D : SD) (p : Nat) : Prop := ∃ i, vN D i ∧ ∀ k, k < 8 → dM D i k = ltr T (tPl T p) (nx T p) k
def po9 (T : Tx) (p : Nat) (D' : SD) : Sum Nat (Nat × SD) := if tK T p = 59 then .inr (nx T p, D') else .inl (pE T p 1)
def po8 (T : Tx) (p : Nat) (D : SD) (nm : Nat → Nat) (u t a k : Nat) : Sum Nat (Nat × SD) := if isOp T p then po9 T (nx T p) (addO D nm u t k a (opn T p)) else .inl (pE T p 1)
def po7 (T : Tx) (p : Nat) (D : SD) (nm : Nat → Nat) (u t a : Nat) : Sum Nat (Nat × SD) := if sgi (tK T p) = 0 then po9 T p (addO D nm u t 0 a 0) else po8 T (nx T p) D nm u t a (sgi (tK T p))
def po6 (T : Tx) (p : Nat) (D : SD) (nm : Nat → Nat) (u t : Nat) : Sum Nat (Nat × SD) := if isOp T p then po7 T (nx T p) D nm u t (opn T p) else .inl (pE T p 1)
def po5 (T : Tx) (p : Nat) (D : SD) (nm : Nat → Nat) (u t : Nat) : Sum Nat (Nat × SD) := if tK T p = 61 then po6 T (nx T p) D nm u t else .inl (pE T p 1)
def po4 (T : Tx) (p : Nat) (D : SD) (nm : Nat → Nat) (u : Nat) : Sum Nat (Nat × SD) := if tK T p = 3 then po5 T (nx T p) D nm u (tV T p) else .inl (pE T p 1)
def po3 (T : Tx) (p : Nat) (D : SD) (nm : Nat → Nat) : Sum Nat (Nat × SD) := if tK T p = 4 then (if tV T p < 6 then po4 T (nx T p) D nm (tV T p) else .inl (pE T p 2)) else .inl (pE T p 1)
def po2 (T : Tx) (p : Nat) (D : SD) (nm : Nat → Nat) : Sum Nat (Nat × SD) := if tK T p = 6 then po3 T (nx T p) D nm else .inl (pE T p 1)
noncomputable def po1 (T : Tx) (p : Nat) (D : SD) : Sum Nat (Nat × SD) := if tK T p = 2 then (@ite _ (usd T D p) (Classical.propDecidable _) (.inl (pE T p 3)) (po2 T (nx T p) D (ltr T (tPl T p) (nx T p)))) else .inl (pE T p 1)
noncomputable def po (T : Tx) (p : Nat) (D : SD) : Sum Nat (Nat × SD) := if dN D < 12 then po1 T (nx T p) D else .inl (pE T p 5)
/-- the source that is being read, in the class -/
def PSrc (D : SD) (h : Hp) : Prop := h.1 17 0 = nI (dN D) ∧ h.1 17 8 = nI (dI D) ∧ (∀ m, m < dN D → h.1 19 m = nI (dU D m) ∧ h.1 20 m = nI (dT D m) ∧ h.1 21 m = nI (dK D m) ∧ h.1 22 m = opc (dA D m) ∧ h.1 23 m = (if dK D m = 0 then 0 else opc (dB D m)) ∧ h.1 24 m = nI (rd D m) ∧ h.2 18 m = lN (nmN (dM D m))) ∧ ∀ i, i < dI D → h.2 25 i = lN (nmN (dM D (12 + i))) ∧ h.1 26 i = nI (dL D i) ∧ ∀ k, k < dL D i → h.1 27 (24 * i + k) = nI (dR D i k)
def fOp (N : Nat) (c j : Nat) : Bool := (c == 1 && (j == 2 || j == 3 || j == 4 || j == 5 || j == 6)) || (18 ≤ c && c ≤ 24 && j == N)
def fPc (c j : Nat) : Bool := (c == 1 && (2 ≤ j && j ≤ 7)) || (17 ≤ c && c ≤ 28)
theorem tk_op {N : Nat} (c j : Nat) (e : fOp N c j = false) : fTk c j = false := by
  unfold fOp at e
  unfold fTk
  rw [Bool.or_eq_false_iff] at e
  exact e.1
theorem op_pc {N : Nat} (c j : Nat) (e : fPc c j = false) : fOp N c j = false := by
  unfold fPc at e
  unfold fOp
  simp only [Bool.or_eq_false_iff, Bool.and_eq_false_iff, decide_eq_false_iff_not, beq_eq_false_iff_ne] at e ⊢
  omega
theorem tk_pc (c j : Nat) (e : fPc c j = false) : fTk c j = false := tk_op (N := 0) c j (op_pc c j e)
section PRC
variable {E : En} {d : Nat} {T : Tx} {h : Hp} {P : Int32 → Hp → Prop} {PV : Hp → Prop} {D : SD} {p : Nat}
theorem PSrc.fr {h' : Hp} {X : Nat → Nat → Bool} (a : PSrc D h) (f : Fr X h h') (e0 : X 17 0 = false) (e8 : X 17 8 = false) (e1 : ∀ c m, 18 ≤ c → c ≤ 24 → m < dN D → X c m = false) (e2 : ∀ c i, 25 ≤ c → c ≤ 26 → i < dI D → X c i = false) (e3 : ∀ i k, i < dI D → k < dL D i → X 27 (24 * i + k) = false) : PSrc D h' := by
  obtain ⟨a1, a2, a3, a4⟩ := a
  refine ⟨by rw [f.i 17 0 e0]; exact a1, by rw [f.i 17 8 e8]; exact a2, fun m hm => ?_, fun i hi => ⟨?_, ?_, fun k hk => ?_⟩⟩
  · rw [f.i 19 m (e1 19 m (by decide) (by decide) hm), f.i 20 m (e1 20 m (by decide) (by decide) hm), f.i 21 m (e1 21 m (by decide) (by decide) hm), f.i 22 m (e1 22 m (by decide) (by decide) hm), f.i 23 m (e1 23 m (by decide) (by decide) hm), f.i 24 m (e1 24 m (by decide) (by decide) hm), (f 18 m (e1 18 m (by decide) (by decide) hm)).2]
    exact a3 m hm
  · rw [(f 25 i (e2 25 i (by decide) (by decide) hi)).2]; exact (a4 i hi).1
  · rw [f.i 26 i (e2 26 i (by decide) (by decide) hi)]; exact (a4 i hi).2.1
  · rw [f.i 27 _ (e3 i k hi hk)]; exact (a4 i hi).2.2 k hk
theorem PSrc.op {h' : Hp} (a : PSrc D h) (f : Fr (fOp (dN D)) h h') : PSrc D h' := by
  refine a.fr f rfl rfl (fun c m h1 h2 h3 => ?_) (fun c i h1 h2 _ => ?_) (fun i k _ _ => ?_)
  all_goals
    unfold fOp
    simp only [Bool.or_eq_false_iff, Bool.and_eq_false_iff, decide_eq_false_iff_not, beq_eq_false_iff_ne]
    omega
def ErrC (T : Tx) (p k : Nat) (h h' : Hp) : Prop := Fr (fun c j => c == 1 && j == 7) h h' ∧ h'.1 1 7 = nI (pE T p k)
theorem c_fail {k : Nat} (tk : CTk T p h) (t : ∀ h', ErrC T p k h h' → P 0 h') : SpI E d MX2_fail [.ref (eA E 1), .int (nI k)] h P := by
  refine wp_X2_fail E d _ h P ?_
  rw [tk.1, show (8 : Int32) = nI 8 from rfl, pk_mul, nI_add]
  exact t _ ⟨(Fr.refl h).si rfl, sI_at _ _ _ _⟩
theorem c_take {K : Nat} (ok : TxOK T) (cb : CBuf T h) (hp : p ≤ T.1) (tk : CTk T p h) (hK : K < 128) (t1 : tK T p = K → ∀ h', Fr fTk h h' → CTk T (nx T p) h' → P 1 h') (t0 : tK T p ≠ K → ∀ h', ErrC T p 1 h h' → P 0 h') : SpI E (d + 5) MX2_take [.ref (eA E 1), .int (nI K)] h P := by
  have k128 := (tok_all hp).2.2.2.2.2.2
  refine wp_X2_take E (d + 4) _ h P ?_
  rw [tk.2.2.1]
  exact ek_if (nI_eq (by omega) (by omega)) (fun z => c_adv ok cb (nx_le T hp) tk.2.1 (fun h2 f2 tk2 => t1 z h2 f2 tk2)) (fun z => c_fail tk (fun h' e => ⟨Or.inl rfl, t0 z h' e⟩))
/-- names in use -/
theorem tok_nm (hp : p ≤ T.1) (k2 : tK T p = 2) : tPl T p < nx T p ∧ nx T p ≤ T.1 ∧ nx T p - tPl T p ≤ 8 ∧ (∀ k, k < nx T p - tPl T p → 48 ≤ T.2 (tPl T p + k) ∧ T.2 (tPl T p + k) ≤ 122 ∧ isLD (T.2 (tPl T p + k)) = true) ∧ NmOK (ltr T (tPl T p) (nx T p)) ∧ nmN (ltr T (tPl T p) (nx T p)) = nmb T.2 (tPl T p) (nx T p - tPl T p) := by
  obtain ⟨n1, n8, _⟩ := (nm_kind hp).mp k2
  obtain ⟨pl, zl⟩ := rK1 hp n1
  obtain ⟨a1, a2, a3, a4, a5, a6⟩ := tok_w hp pl zl
  have e : tPl T p + (nx T p - tPl T p) = nx T p := by omega
  have hb : ∀ k, k < nx T p - tPl T p → 0 < T.2 (tPl T p + k) ∧ T.2 (tPl T p + k) < 128 := fun k hk => by have := a5 k hk; omega
  have o := ltr_ok (T := T) (a := tPl T p) (L := nx T p - tPl T p) (by omega) hb
  have m := nmb_ltr (T := T) (a := tPl T p) (L := nx T p - tPl T p) n8 hb
  rw [e] at o m
  exact ⟨a3, a4, n8, a5, o, m⟩
theorem c_isNew (w : Wf D) (ok : TxOK T) (hp : p ≤ T.1) (tk : CTk T p h) (ps : PSrc D h) (t1 : tK T p = 2 → ¬ usd T D p → P 1 h) (t3 : tK T p = 2 → usd T D p → ∀ h', ErrC T p 3 h h' → P 0 h') (t0 : tK T p ≠ 2 → ∀ h', ErrC T p 1 h h' → P 0 h') : SpI E (d + 2) MX2_isNewName [.ref (eA E 1), .ref (eA E 17)] h P := by
  have hN := w.1
  have hI := w.2.2.1
  have k128 := (tok_all hp).2.2.2.2.2.2
  refine wp_X2_isNewName E (d + 1) h P ?_
  rw [tk.2.2.1]
  refine ek_if (nI_eq (b := 2) (by omega) (by decide)) (fun k2 => ?_) (fun z => c_fail (k := 1) tk (fun h' e => ⟨Or.inl rfl, t0 z h' e⟩))
  obtain ⟨a1, a2, a3, a4, a5, a6⟩ := tok_nm hp k2
  rw [tk.2.2.2.1 k2, ← a6]
  refine wp_X6_operationNamed_17 E d _ h _ ?_
  rw [ps.1]
  refine c_idx (f := dM D) lay_18 hN (by decide) (nmN_lt a5) (fun m hm => ⟨(ps.2.2.1 m hm).2.2.2.2.2.2, w.2.2.2.2.1 m hm⟩) (fun m hm e _ => ?_) (fun no => ?_)
  · exact bq_f (nI_m1 (by omega)) (c_fail (k := 3) tk (fun h' er => ⟨Or.inl rfl, t3 k2 ⟨m, Or.inl hm, nmN_inj (w.2.2.2.2.1 m hm) a5 e⟩ h' er⟩))
  · refine bq_t rfl (wp_X6_instructionNamed_17 E d _ h _ ?_)
    rw [tk.2.2.2.1 k2, ← a6, ps.2.1]
    refine c_idx (f := fun i => dM D (12 + i)) lay_25 hI (by decide) (nmN_lt a5) (fun i hi => ⟨(ps.2.2.2 i hi).1, w.2.2.2.2.2 i hi⟩) (fun i hi e _ => ?_) (fun no2 => ?_)
    · exact br_f (nI_m1 (by omega)) (c_fail (k := 3) tk (fun h' er => ⟨Or.inl rfl, t3 k2 ⟨12 + i, Or.inr ⟨by omega, by omega⟩, nmN_inj (w.2.2.2.2.2 i hi) a5 e⟩ h' er⟩))
    · refine br_t rfl (t1 k2 (fun u => ?_))
      obtain ⟨i, vi, al⟩ := u
      rcases vi with q | ⟨q1, q2⟩
      · exact no i q (nmN_cong al)
      · refine no2 (i - 12) (by omega) ?_
        show nmN (dM D (12 + (i - 12))) = _
        rw [show 12 + (i - 12) = i by omega]
        exact nmN_cong al
theorem c_unit {N : Nat} (ok : TxOK T) (cb : CBuf T h) (hp : p ≤ T.1) (tk : CTk T p h) (hN : N < 12) (e0 : h.1 17 0 = nI N) (t1 : tK T p = 4 → tV T p < 6 → ∀ h', Fr (fun c j => fTk c j || (c == 19 && j == N)) h h' → h'.1 19 N = nI (tV T p) → CTk T (nx T p) h' → P 1 h') (t2 : tK T p = 4 → ¬ tV T p < 6 → ∀ h', ErrC T p 2 h h' → P 0 h') (t0 : tK T p ≠ 4 → ∀ h', ErrC T p 1 h h' → P 0 h') : SpI E (d + 5) MX2_readUnit [.ref (eA E 1), .ref (eA E 17)] h P := by
  have k128 := (tok_all hp).2.2.2.2.2.2
  refine wp_X2_readUnit E (d + 4) h P ?_
  rw [tk.2.2.1, e0]
  refine ek_if (nI_eq (b := 4) (by omega) (by decide)) (fun k4 => ?_) (fun z => c_fail (k := 1) tk (fun h' e => ⟨Or.inl rfl, t0 z h' e⟩))
  have lt := tV_lt hp k4
  rw [tk.2.2.2.2 (Or.inr k4), nI_clamp (by omega)]
  refine ek_if (nI_ltI (b := 6) (by omega) (by decide)) (fun z => ⟨vp_in_nI hN (by decide), ?_⟩) (fun z => c_fail (k := 2) tk (fun h' e => ⟨Or.inl rfl, t2 k4 z h' e⟩))
  have f1 : Fr (fun c j => fTk c j || (c == 19 && j == N)) h (sI h 19 N (nI (tV T p))) := (Fr.refl h).si (by simp)
  have cb1 : CBuf T (sI h 19 N (nI (tV T p))) := cb.fr f1 rfl (fun _ => rfl)
  refine c_adv ok cb1 (nx_le T hp) (by rw [sI_n _ _ _ _ (by decide)]; exact tk.2.1) (fun h2 f2 tk2 => t1 k4 z h2 (f1.trans (f2.mono (fun c j e => ?_))) ?_ tk2)
  · rw [Bool.or_eq_false_iff] at e; exact e.1
  · rw [f2.i 19 N rfl, sI_at]
theorem c_target {N : Nat} (ok : TxOK T) (cb : CBuf T h) (hp : p ≤ T.1) (tk : CTk T p h) (hN : N < 12) (e0 : h.1 17 0 = nI N) (t1 : tK T p = 3 → ∀ h', Fr (fun c j => fTk c j || (c == 20 && j == N)) h h' → h'.1 20 N = nI (tV T p) → CTk T (nx T p) h' → P 1 h') (t0 : tK T p ≠ 3 → ∀ h', ErrC T p 1 h h' → P 0 h') : SpI E (d + 5) MX2_readTarget [.ref (eA E 1), .ref (eA E 17)] h P := by
  have k128 := (tok_all hp).2.2.2.2.2.2
  refine wp_X2_readTarget E (d + 4) h P ?_
  rw [tk.2.2.1, e0]
  refine ek_if (nI_eq (b := 3) (by omega) (by decide)) (fun k3 => ⟨vp_in_nI hN (by decide), ?_⟩) (fun z => c_fail (k := 1) tk (fun h' e => ⟨Or.inl rfl, t0 z h' e⟩))
  rw [tk.2.2.2.2 (Or.inl k3), nI_clamp (by omega)]
  have f1 : Fr (fun c j => fTk c j || (c == 20 && j == N)) h (sI h 20 N (nI (tV T p))) := (Fr.refl h).si (by simp)
  have cb1 : CBuf T (sI h 20 N (nI (tV T p))) := cb.fr f1 rfl (fun _ => rfl)
  refine c_adv ok cb1 (nx_le T hp) (by rw [sI_n _ _ _ _ (by decide)]; exact tk.2.1) (fun h2 f2 tk2 => t1 k3 h2 (f1.trans (f2.mono (fun c j e => ?_))) ?_ tk2)
  · rw [Bool.or_eq_false_iff] at e; exact e.1
  · rw [f2.i 20 N rfl, sI_at]
theorem c_isOpd (hp : p ≤ T.1) (tk : CTk T p h) (t1 : isOp T p → P 1 h) (t0 : ¬ isOp T p → P 0 h) : SpI E d MX2_isOperand [.ref (eA E 1)] h P := by
  have k128 := (tok_all hp).2.2.2.2.2.2
  refine wp_X2_isOperand E d h P ?_
  rw [tk.2.2.1]
  exact ek_if (nI_eq (b := 3) (by omega) (by decide)) (fun z => t1 (Or.inl z)) (fun z => bj_if (nI_eq (b := 4) (by omega) (by decide)) (fun y => t0 (fun o => by rcases o with o | o; (· exact z o); (· exact y o))) (fun y => t1 (Or.inr y)))
def rdo (T : Tx) (p : Nat) : Nat := if opn T p < 8 then 2 ^ opn T p else 0
theorem opn_lt (hp : p ≤ T.1) (o : isOp T p) : opn T p < 10008 := by
  unfold opn
  by_cases z : tK T p = 3
  · rw [if_pos z]; have := tok_reg hp z; omega
  · rw [if_neg z]
    rcases o with o | o
    · exact absurd o z
    · have := tV_lt hp o; omega
theorem c_opdV (hp : p ≤ T.1) (tk : CTk T p h) (o : isOp T p) (t : P (opc (opn T p)) h) : SpI E d MX2_operand [.ref (eA E 1)] h P := by
  have k128 := (tok_all hp).2.2.2.2.2.2
  refine wp_X2_operand E d h P ?_
  rw [tk.2.2.1, tk.2.2.2.2 o]
  unfold opc opn at t
  refine bj_if (nI_eq (b := 3) (by omega) (by decide)) (fun z => ?_) (fun z => ?_)
  · rw [if_neg z, if_neg (by omega), show 8 + tV T p - 8 = tV T p by omega] at t; exact t
  · rw [if_pos z, if_pos (tok_reg hp z)] at t; exact t
theorem c_opdR (hp : p ≤ T.1) (tk : CTk T p h) (o : isOp T p) (t : P (nI (rdo T p)) h) : SpI E d MX2_operandReads [.ref (eA E 1)] h P := by
  have k128 := (tok_all hp).2.2.2.2.2.2
  refine wp_X2_operandReads E d h P ?_
  rw [tk.2.2.1, tk.2.2.2.2 o]
  unfold rdo opn at t
  refine bj_if (nI_eq (b := 3) (by omega) (by decide)) (fun z => ?_) (fun z => ?_)
  · rw [if_neg z, if_neg (by omega)] at t; exact t
  · have := tok_reg hp z
    rw [if_pos z, if_pos this] at t
    rw [sh1 _ (by omega)]; exact t
theorem CTk.fr {h' : Hp} {X : Nat → Nat → Bool} (a : CTk T p h) (f : Fr X h h') (e : ∀ j, X 1 j = false) : CTk T p h' := by
  unfold CTk
  rw [f.f 1 e, f.g 1 e]
  exact a
def fVa (N : Nat) (c j : Nat) : Bool := fTk c j || (21 ≤ c && c ≤ 24 && j == N)
theorem sgi_z {K : Nat} (h : K ≤ 32) : sgi K = 0 := by
  unfold sgi
  repeat' split
  all_goals omega
theorem sgi_i {c k : Nat} (hk : k < (sTx.getD 1 []).length) (e : (sTx.getD 1 []).getD k 0 = c) : sgi c = k + 1 := by
  have key : ∀ k, k < (sTx.getD 1 []).length → sgi ((sTx.getD 1 []).getD k 0) = k + 1 := by decide
  rw [← e]; exact key k hk
theorem sgi_n {c : Nat} (no : ∀ j, j < (sTx.getD 1 []).length → (sTx.getD 1 []).getD j 0 ≠ c) : sgi c = 0 := by
  have n0 : c ≠ 43 := fun e => no 0 (by decide) e.symm
  have n1 : c ≠ 45 := fun e => no 1 (by decide) e.symm
  have n2 : c ≠ 42 := fun e => no 2 (by decide) e.symm
  have n3 : c ≠ 38 := fun e => no 3 (by decide) e.symm
  have n4 : c ≠ 124 := fun e => no 4 (by decide) e.symm
  have n5 : c ≠ 94 := fun e => no 5 (by decide) e.symm
  unfold sgi
  rw [if_neg n0, if_neg n1, if_neg n2, if_neg n3, if_neg n4, if_neg n5]
/-- the value of an operation -/
theorem c_value {N : Nat} (ok : TxOK T) (cb : CBuf T h) (hp : p ≤ T.1) (tk : CTk T p h) (hN : N < 12) (e0 : h.1 17 0 = nI N) (t1 : ∀ k b rs q h', Fr (fVa N) h h' → isOp T p → h'.1 21 N = nI k → h'.1 22 N = opc (opn T p) → h'.1 23 N = (if k = 0 then 0 else opc b) → h'.1 24 N = nI rs → rs = (rdo T p ||| (if 0 < k ∧ b < 8 then 2 ^ b else 0)) → k = sgi (tK T (nx T p)) → (k = 0 → q = nx T p ∧ b = 0) → (k ≠ 0 → isOp T (nx T (nx T p)) ∧ b = opn T (nx T (nx T p)) ∧ q = nx T (nx T (nx T p))) → CTk T q h' → P 1 h') (t0 : ¬ isOp T p → ∀ h', ErrC T p 1 h h' → P 0 h') (t2 : isOp T p → sgi (tK T (nx T p)) ≠ 0 → ¬ isOp T (nx T (nx T p)) → ∀ h', Fr fPc h h' → h'.1 1 7 = nI (pE T (nx T (nx T p)) 1) → P 0 h') : SpI E (d + 5) MX2_readValue [.ref (eA E 1), .ref (eA E 17)] h P := by
  have hp1 := nx_le T hp
  have hp2 := nx_le T hp1
  have vN : vp_in (nI N) 12 := vp_in_nI hN (by decide)
  have k1 := (tok_all hp1).2.2.2.2.2.2
  have tkva : ∀ c j, fVa N c j = false → fTk c j = false := fun c j e => by
    unfold fVa at e
    rw [Bool.or_eq_false_iff] at e; exact e.1
  refine wp_X2_readValue E (d + 4) h P ?_
  rw [e0, nI_clamp (by omega)]
  refine c_isOpd hp tk (fun o => bq_f (by decide) ?_) (fun o => bq_t rfl (c_fail (k := 1) tk (fun h' e => ⟨Or.inl rfl, t0 o h' e⟩)))
  refine c_opdV hp tk o ⟨vN, ?_⟩
  have f1 : Fr (fVa N) h (sI h 22 N (opc (opn T p))) := (Fr.refl h).si (by simp [fVa])
  have f1' : Fr (fun c _ => c == 22) h (sI h 22 N (opc (opn T p))) := (Fr.refl h).si rfl
  refine c_opdR hp (tk.fr f1' (fun _ => rfl)) o ⟨vN, vN, ?_⟩
  have f2 : Fr (fVa N) h (sI (sI (sI h 22 N (opc (opn T p))) 24 N (nI (rdo T p))) 23 N (0 : Int32)) := (f1.si (by simp [fVa])).si (by simp [fVa])
  have x22 : (sI (sI (sI h 22 N (opc (opn T p))) 24 N (nI (rdo T p))) 23 N (0 : Int32)).1 22 N = opc (opn T p) := by rw [sI_n _ _ _ _ (by decide), sI_n _ _ _ _ (by decide), sI_at]
  have x24 : (sI (sI (sI h 22 N (opc (opn T p))) 24 N (nI (rdo T p))) 23 N (0 : Int32)).1 24 N = nI (rdo T p) := by rw [sI_n _ _ _ _ (by decide), sI_at]
  have x23 : (sI (sI (sI h 22 N (opc (opn T p))) 24 N (nI (rdo T p))) 23 N (0 : Int32)).1 23 N = 0 := sI_at _ _ _ _
  refine c_adv ok (cb.fr f2 rfl (fun _ => rfl)) hp1 (by rw [sI_n _ _ _ _ (by decide), sI_n _ _ _ _ (by decide), sI_n _ _ _ _ (by decide)]; exact tk.2.1) (fun h8 f8 tk8 => ?_)
  have g8 : Fr (fVa N) h h8 := f2.trans (f8.mono tkva)
  have y22 : h8.1 22 N = opc (opn T p) := by rw [f8.i 22 N rfl]; exact x22
  have y24 : h8.1 24 N = nI (rdo T p) := by rw [f8.i 24 N rfl]; exact x24
  have y23 : h8.1 23 N = 0 := by rw [f8.i 23 N rfl]; exact x23
  have none : sgi (tK T (nx T p)) = 0 → ∀ z : Int32, z = 0 → P 1 (sI h8 21 N z) := by
    intro s0 z z0
    have f9 : Fr (fun c _ => c == 21) h8 (sI h8 21 N z) := (Fr.refl h8).si rfl
    refine t1 0 0 (rdo T p) (nx T p) _ (g8.si (by simp [fVa])) o (by rw [sI_at, z0]; rfl) (by rw [f9.i 22 N rfl]; exact y22) (by rw [f9.i 23 N rfl, y23]; rfl) (by rw [f9.i 24 N rfl]; exact y24) ?_ s0.symm (fun _ => ⟨rfl, rfl⟩) (fun q => absurd rfl q) (tk8.fr f9 (fun _ => rfl))
    rw [if_neg (by omega), Nat.or_zero]
  rw [tk8.2.2.1]
  refine ek_if (nI_leI (b := 32) (by omega) (by decide)) (fun z => ⟨vN, bq_t rfl (none (sgi_z z) _ rfl)⟩) (fun z => ?_)
  rw [(chr_tab _ k1).1]
  refine s_idx (by decide) k1 (fun k hk ek1 _ => ⟨vN, ?_⟩) (fun no => ⟨vN, ?_⟩)
  · have sl := sTx_le 1 (by decide)
    have sk := sgi_i hk ek1
    rw [nI_1]
    refine bq_f (fun q => by have := (nI_z (n := k + 1) (by omega)).mp q; omega) ?_
    have f9 : Fr (fun c _ => c == 21) h8 (sI h8 21 N (nI (k + 1))) := (Fr.refl h8).si rfl
    have g9 : Fr (fVa N) h (sI h8 21 N (nI (k + 1))) := g8.si (by simp [fVa])
    refine c_adv ok (cb.fr g9 rfl (fun _ => rfl)) hp2 (by rw [sI_n _ _ _ _ (by decide)]; exact tk8.2.1) (fun h10 f10 tk10 => ?_)
    have g10 : Fr (fVa N) h h10 := g9.trans (f10.mono tkva)
    refine c_isOpd hp2 tk10 (fun o2 => bq_f (by decide) ?_) (fun o2 => bq_t rfl (c_fail (k := 1) tk10 (fun h' e => ⟨Or.inl rfl, t2 o (by omega) o2 h' ?_ e.2⟩)))
    · refine c_opdV hp2 tk10 o2 ⟨vN, vN, ?_⟩
      have f11 : Fr (fun c _ => c == 23) h10 (sI h10 23 N (opc (opn T (nx T (nx T p))))) := (Fr.refl h10).si rfl
      have g11 : Fr (fVa N) h (sI h10 23 N (opc (opn T (nx T (nx T p))))) := g10.si (by simp [fVa])
      refine c_opdR hp2 (tk10.fr f11 (fun _ => rfl)) o2 ⟨vN, ?_⟩
      have w24 : h10.1 24 N = nI (rdo T p) := by rw [f10.i 24 N rfl, f9.i 24 N rfl]; exact y24
      have w22 : h10.1 22 N = opc (opn T p) := by rw [f10.i 22 N rfl, f9.i 22 N rfl]; exact y22
      have w21 : h10.1 21 N = nI (k + 1) := by rw [f10.i 21 N rfl, sI_at]
      rw [w24, nI_or]
      have g12 : Fr (fVa N) h (sI (sI h10 23 N (opc (opn T (nx T (nx T p))))) 24 N (nI (rdo T p ||| rdo T (nx T (nx T p))))) := g11.si (by simp [fVa])
      refine c_adv ok (cb.fr g12 rfl (fun _ => rfl)) (nx_le T hp2) (by rw [sI_n _ _ _ _ (by decide), sI_n _ _ _ _ (by decide)]; exact tk10.2.1) (fun h13 f13 tk13 => ?_)
      refine t1 (k + 1) (opn T (nx T (nx T p))) _ (nx T (nx T (nx T p))) h13 (g12.trans (f13.mono tkva)) o ?_ ?_ ?_ ?_ rfl (by rw [sk]) (fun q => by omega) (fun _ => ⟨o2, rfl, rfl⟩) tk13
      · rw [f13.i 21 N rfl, sI_n _ _ _ _ (by decide), sI_n _ _ _ _ (by decide)]; exact w21
      · rw [f13.i 22 N rfl, sI_n _ _ _ _ (by decide), sI_n _ _ _ _ (by decide)]; exact w22
      · rw [f13.i 23 N rfl, sI_n _ _ _ _ (by decide), sI_at, if_neg (by omega)]
      · rw [f13.i 24 N rfl, sI_at]
        have er : rdo T (nx T (nx T p)) = if 0 < k + 1 ∧ opn T (nx T (nx T p)) < 8 then 2 ^ opn T (nx T (nx T p)) else 0 := by
          unfold rdo
          by_cases y : opn T (nx T (nx T p)) < 8
          · rw [if_pos y, if_pos ⟨by omega, y⟩]
          · rw [if_neg y, if_neg (fun x => y x.2)]
        rw [er]
    · refine (g10.mono (fun c j e => ?_)).trans (e.1.mono (fun c j e => ?_))
      · unfold fPc at e
        unfold fVa fTk
        simp only [Bool.or_eq_false_iff, Bool.and_eq_false_iff, decide_eq_false_iff_not, beq_eq_false_iff_ne] at e ⊢
        omega
      · unfold fPc at e
        simp only [Bool.or_eq_false_iff, Bool.and_eq_false_iff, decide_eq_false_iff_not, beq_eq_false_iff_ne] at e ⊢
        omega
  · exact bq_t (by decide) (none (sgi_n no) _ (by decide))
/-- an operation -/
theorem addO_wf {nm : Nat → Nat} {u t k a b : Nat} (w : Wf D) (hN : dN D < 12) (hn : NmOK nm) (hu : u < 6) (ht : t < 8) (hk : k < 7) (ha : a < 10008) (hb : b < 10008) : Wf (addO D nm u t k a b) := by
  obtain ⟨w1, w2, w3, w4, w5, w6⟩ := w
  refine ⟨by show dN D + 1 ≤ 12; omega, fun m hm => ?_, w3, fun i hi => ?_, fun m hm => ?_, fun i hi => ?_⟩
  · have hm : m < dN D + 1 := hm
    show (if m = dN D then u else dU D m) < 6 ∧ (if m = dN D then t else dT D m) < 8 ∧ (if m = dN D then k else dK D m) < 7 ∧ (if m = dN D then a else dA D m) < 10008 ∧ (if m = dN D then b else dB D m) < 10008
    by_cases q : m = dN D
    · rw [if_pos q, if_pos q, if_pos q, if_pos q, if_pos q]; exact ⟨hu, ht, hk, ha, hb⟩
    · rw [if_neg q, if_neg q, if_neg q, if_neg q, if_neg q]; exact w2 m (by omega)
  · obtain ⟨a1, a2, a3⟩ := w4 i hi
    exact ⟨a1, a2, fun k hk => Nat.lt_succ_of_lt (a3 k hk)⟩
  · have hm : m < dN D + 1 := hm
    show NmOK (if m = dN D then nm else dM D m)
    by_cases q : m = dN D
    · rw [if_pos q]; exact hn
    · rw [if_neg q]; exact w5 m (by omega)
  · show NmOK (if 12 + i = dN D then nm else dM D (12 + i))
    rw [if_neg (by omega)]; exact w6 i hi
theorem addO_at {nm : Nat → Nat} {u t k a b : Nat} : dU (addO D nm u t k a b) (dN D) = u ∧ dT (addO D nm u t k a b) (dN D) = t ∧ dK (addO D nm u t k a b) (dN D) = k ∧ dA (addO D nm u t k a b) (dN D) = a ∧ dB (addO D nm u t k a b) (dN D) = b ∧ dM (addO D nm u t k a b) (dN D) = nm := ⟨if_pos rfl, if_pos rfl, if_pos rfl, if_pos rfl, if_pos rfl, if_pos rfl⟩
theorem addO_ne {nm : Nat → Nat} {u t k a b m : Nat} (q : m ≠ dN D) : dU (addO D nm u t k a b) m = dU D m ∧ dT (addO D nm u t k a b) m = dT D m ∧ dK (addO D nm u t k a b) m = dK D m ∧ dA (addO D nm u t k a b) m = dA D m ∧ dB (addO D nm u t k a b) m = dB D m ∧ dM (addO D nm u t k a b) m = dM D m := ⟨if_neg q, if_neg q, if_neg q, if_neg q, if_neg q, if_neg q⟩
theorem rd_addO {nm : Nat → Nat} {u t k a b : Nat} (m : Nat) (hm : m ≠ dN D) : rd (addO D nm u t k a b) m = rd D m := by
  have e1 : dA (addO D nm u t k a b) m = dA D m := if_neg hm
  have e2 : dK (addO D nm u t k a b) m = dK D m := if_neg hm
  have e3 : dB (addO D nm u t k a b) m = dB D m := if_neg hm
  unfold rd
  rw [e1, e2, e3]
theorem rd_addN {nm : Nat → Nat} {u t k a b : Nat} : rd (addO D nm u t k a b) (dN D) = (if a < 8 then 2 ^ a else 0) ||| (if 0 < k ∧ b < 8 then 2 ^ b else 0) := by
  have e1 : dA (addO D nm u t k a b) (dN D) = a := if_pos rfl
  have e2 : dK (addO D nm u t k a b) (dN D) = k := if_pos rfl
  have e3 : dB (addO D nm u t k a b) (dN D) = b := if_pos rfl
  unfold rd
  rw [e1, e2, e3]
theorem c_po (w : Wf D) (ok : TxOK T) (cb : CBuf T h) (hp : p ≤ T.1) (tk : CTk T p h) (ps : PSrc D h) (t0 : ∀ c h', po T p D = .inl c → Fr fPc h h' → h'.1 1 7 = nI c → P 0 h') (t1 : ∀ q D' h', po T p D = .inr (q, D') → Fr fPc h h' → h'.1 1 7 = h.1 1 7 → Wf D' → dI D' = dI D → PSrc D' h' → q ≤ T.1 → CTk T q h' → P 1 h') : SpI E (d + 6) MX2_readOperation [.ref (eA E 1), .ref (eA E 17)] h P := by
  have hN := w.1
  have hI := w.2.2.1
  obtain ⟨R, eR⟩ : ∃ R, R = po T p D := ⟨_, rfl⟩
  rw [← eR] at t0 t1
  refine wp_X2_readOperation E (d + 5) h P ?_
  rw [ps.1]
  have er : ∀ {q k : Nat} {h1 h2 : Hp}, Fr (fOp (dN D)) h h1 → ErrC T q k h1 h2 → Fr fPc h h2 ∧ h2.1 1 7 = nI (pE T q k) := by
    intro q k h1 h2 f e
    refine ⟨(f.mono op_pc).trans (e.1.mono (fun c j z => ?_)), e.2⟩
    unfold fPc at z
    simp only [Bool.or_eq_false_iff, Bool.and_eq_false_iff, decide_eq_false_iff_not, beq_eq_false_iff_ne] at z ⊢
    omega
  refine ek_if (nI_ltI (b := 12) (by omega) (by decide)) (fun n12 => ?_) (fun n12 => c_fail (k := 5) tk (fun h' e => ⟨Or.inl rfl, ?_⟩))
  · unfold po at eR
    rw [if_pos n12] at eR
    have hp1 := nx_le T hp
    have hp2 := nx_le T hp1
    have hp3 := nx_le T hp2
    have hp4 := nx_le T hp3
    have hp5 := nx_le T hp4
    have hp6 := nx_le T hp5
    refine c_adv ok cb hp1 tk.2.1 (fun h2 f2 tk2 => ?_)
    have g2 : Fr (fOp (dN D)) h h2 := f2.mono tk_op
    have ps2 := ps.op g2
    unfold po1 at eR
    refine c_isNew w ok hp1 tk2 ps2 (fun k2 nu => ?_) (fun k2 us h' e => ?_) (fun k2 h' e => ?_)
    · rw [if_pos k2, if_neg nu] at eR
      obtain ⟨a1, a2, a3, a4, a5, a6⟩ := tok_nm hp1 k2
      refine bq_f (by decide) ⟨vp_in_nI n12 (by decide), ?_⟩
      rw [nI_clamp (by omega), tk2.2.2.2.1 k2, ← a6]
      have g3 : Fr (fOp (dN D)) h (sL h2 18 (dN D) (lN (nmN (ltr T (tPl T (nx T p)) (nx T (nx T p)))))) := g2.sl (by simp [fOp])
      refine c_adv ok (cb.fr g3 rfl (fun _ => rfl)) hp2 tk2.2.1 (fun h4 f4 tk4 => ?_)
      have g4 := g3.trans (f4.mono tk_op)
      have n4 : h4.2 18 (dN D) = lN (nmN (ltr T (tPl T (nx T p)) (nx T (nx T p)))) := by
        rw [f4.g 18 (fun _ => rfl), sL_2, if_pos rfl]
        simp only [vp_updL, if_pos]
      unfold po2 at eR
      refine c_take (K := 6) ok (cb.fr g4 rfl (fun _ => rfl)) hp2 tk4 (by decide) (fun z h5 f5 tk5 => br_f (by decide) ?_) (fun z h' e => br_t rfl ?_)
      · rw [if_pos z] at eR
        have g5 := g4.trans (f5.mono tk_op)
        have e05 : h5.1 17 0 = nI (dN D) := by rw [g5.i 17 0 rfl]; exact ps.1
        unfold po3 at eR
        refine c_unit ok (cb.fr g5 rfl (fun _ => rfl)) hp3 tk5 n12 e05 (fun z4 z6 h6 f6 u6 tk6 => br_f (by decide) ?_) (fun z4 z6 h' e => br_t rfl ?_) (fun z4 h' e => br_t rfl ?_)
        · rw [if_pos z4, if_pos z6] at eR
          have g6 : Fr (fOp (dN D)) h h6 := g5.trans (f6.mono (fun c j e => by
            unfold fOp at e
            unfold fTk
            simp only [Bool.or_eq_false_iff, Bool.and_eq_false_iff, decide_eq_false_iff_not, beq_eq_false_iff_ne] at e ⊢
            omega))
          have e06 : h6.1 17 0 = nI (dN D) := by rw [g6.i 17 0 rfl]; exact ps.1
          unfold po4 at eR
          refine c_target ok (cb.fr g6 rfl (fun _ => rfl)) hp4 tk6 n12 e06 (fun z3 h7 f7 u7 tk7 => br_f (by decide) ?_) (fun z3 h' e => br_t rfl ?_)
          · rw [if_pos z3] at eR
            have g7 : Fr (fOp (dN D)) h h7 := g6.trans (f7.mono (fun c j e => by
              unfold fOp at e
              unfold fTk
              simp only [Bool.or_eq_false_iff, Bool.and_eq_false_iff, decide_eq_false_iff_not, beq_eq_false_iff_ne] at e ⊢
              omega))
            unfold po5 at eR
            refine c_take (K := 61) ok (cb.fr g7 rfl (fun _ => rfl)) hp5 tk7 (by decide) (fun z61 h8 f8 tk8 => br_f (by decide) ?_) (fun z61 h' e => br_t rfl ?_)
            · rw [if_pos z61] at eR
              have g8 := g7.trans (f8.mono tk_op)
              have e08 : h8.1 17 0 = nI (dN D) := by rw [g8.i 17 0 rfl]; exact ps.1
              have vaop : ∀ c j, fOp (dN D) c j = false → fVa (dN D) c j = false := fun c j e => by
                unfold fOp at e
                unfold fVa fTk
                simp only [Bool.or_eq_false_iff, Bool.and_eq_false_iff, decide_eq_false_iff_not, beq_eq_false_iff_ne] at e ⊢
                omega
              unfold po6 at eR
              refine c_value ok (cb.fr g8 rfl (fun _ => rfl)) hp6 tk8 n12 e08 (fun k b rs q h9 f9 o6 r21 r22 r23 r24 ers ek eq0 eq1 tk9 => br_f (by decide) ?_) (fun o6 h' e => br_t rfl ?_) (fun o6 sk o8 h' f9 e => br_t rfl ?_)
              · rw [if_pos o6] at eR
                have g9 := g8.trans (f9.mono vaop)
                have hq : q ≤ T.1 ∧ b < 10008 := by
                  by_cases k0 : k = 0
                  · rw [(eq0 k0).1, (eq0 k0).2]; exact ⟨nx_le T hp6, by decide⟩
                  · obtain ⟨x1, x2, x3⟩ := eq1 k0
                    rw [x3, x2]
                    exact ⟨nx_le T (nx_le T (nx_le T hp6)), opn_lt (nx_le T (nx_le T hp6)) x1⟩
                have eR9 : R = po9 T q (addO D (ltr T (tPl T (nx T p)) (nx T (nx T p))) (tV T (nx T (nx T (nx T p)))) (tV T (nx T (nx T (nx T (nx T p))))) k (opn T (nx T (nx T (nx T (nx T (nx T (nx T p))))))) b) := by
                  rw [eR]
                  unfold po7
                  rw [← ek]
                  by_cases k0 : k = 0
                  · rw [if_pos k0, k0, (eq0 k0).1, (eq0 k0).2]
                  · obtain ⟨x1, x2, x3⟩ := eq1 k0
                    rw [if_neg k0]
                    unfold po8
                    rw [if_pos x1, x2, x3]
                unfold po9 at eR9
                refine c_take (K := 59) ok (cb.fr g9 rfl (fun _ => rfl)) hq.1 tk9 (by decide) (fun z59 h10 f10 tk10 => bq_f (by decide) ?_) (fun z59 h' e => bq_t rfl ?_)
                · rw [if_pos z59] at eR9
                  have g10 := g9.trans (f10.mono tk_op)
                  rw [nI_1]
                  have fz : Fr (fun c j => c == 17 && j == 0) h10 (sI h10 17 0 (nI (dN D + 1))) := (Fr.refl h10).si rfl
                  have k7 : k < 7 := by rw [ek]; have := sgi_le (tK T (nx T (nx T (nx T (nx T (nx T (nx T (nx T p)))))))); omega
                  have u19 : h10.1 19 (dN D) = nI (tV T (nx T (nx T (nx T p)))) := by rw [f10.i 19 _ rfl, f9.i 19 _ rfl, f8.i 19 _ rfl, f7.i 19 _ rfl]; exact u6
                  have u20 : h10.1 20 (dN D) = nI (tV T (nx T (nx T (nx T (nx T p))))) := by rw [f10.i 20 _ rfl, f9.i 20 _ rfl, f8.i 20 _ rfl]; exact u7
                  have u18 : h10.2 18 (dN D) = lN (nmN (ltr T (tPl T (nx T p)) (nx T (nx T p)))) := by
                    rw [f10.g 18 (fun _ => rfl), f9.g 18 (fun _ => rfl), f8.g 18 (fun _ => rfl), f7.g 18 (fun _ => rfl), f6.g 18 (fun _ => rfl), f5.g 18 (fun _ => rfl)]; exact n4
                  refine t1 _ _ _ eR9 ((g10.mono op_pc).si rfl) ?_ (addO_wf w n12 a5 z6 (tok_reg hp4 z3) k7 (opn_lt hp6 o6) hq.2) rfl ?_ (nx_le T hq.1) (tk10.fr fz (fun _ => rfl))
                  · rw [sI_n _ _ _ _ (by decide), g10.i 1 7 rfl]
                  · have ps10 := ps.op g10
                    refine ⟨sI_at _ _ _ _, ?_, fun m hm => ?_, fun i hi => ?_⟩
                    · rw [sI_j (by decide)]; exact ps10.2.1
                    · have hm : m < dN D + 1 := hm
                      rw [fz.i 19 m rfl, fz.i 20 m rfl, fz.i 21 m rfl, fz.i 22 m rfl, fz.i 23 m rfl, fz.i 24 m rfl, fz.g 18 (fun _ => rfl)]
                      by_cases q : m = dN D
                      · subst q
                        obtain ⟨x1, x2, x3, x4, x5, x6⟩ := addO_at (D := D) (nm := ltr T (tPl T (nx T p)) (nx T (nx T p))) (u := tV T (nx T (nx T (nx T p)))) (t := tV T (nx T (nx T (nx T (nx T p))))) (k := k) (a := opn T (nx T (nx T (nx T (nx T (nx T (nx T p))))))) (b := b)
                        rw [x1, x2, x3, x4, x5, x6, rd_addN, u19, u20, u18, f10.i 21 _ rfl, f10.i 22 _ rfl, f10.i 23 _ rfl, f10.i 24 _ rfl, r21, r22, r23, r24, ers]
                        exact ⟨rfl, rfl, rfl, rfl, rfl, rfl, rfl⟩
                      · obtain ⟨x1, x2, x3, x4, x5, x6⟩ := addO_ne (D := D) (nm := ltr T (tPl T (nx T p)) (nx T (nx T p))) (u := tV T (nx T (nx T (nx T p)))) (t := tV T (nx T (nx T (nx T (nx T p))))) (k := k) (a := opn T (nx T (nx T (nx T (nx T (nx T (nx T p))))))) (b := b) q
                        rw [x1, x2, x3, x4, x5, x6, rd_addO m q]
                        exact ps10.2.2.1 m (by omega)
                    · obtain ⟨b1, b2, b3⟩ := ps10.2.2.2 i hi
                      refine ⟨?_, by rw [fz.i 26 i rfl]; exact b2, fun k hk => by rw [fz.i 27 _ rfl]; exact b3 k hk⟩
                      show _ = lN (nmN (if 12 + i = dN D then _ else dM D (12 + i)))
                      rw [if_neg (by omega), fz.g 25 (fun _ => rfl)]
                      exact b1
                · rw [if_neg z59] at eR9
                  obtain ⟨x1, x2⟩ := er g9 e
                  exact t0 _ h' eR9 x1 x2
              · rw [if_neg o6] at eR
                obtain ⟨x1, x2⟩ := er g8 e
                exact t0 _ h' eR x1 x2
              · rw [if_pos o6] at eR
                unfold po7 at eR
                rw [if_neg sk] at eR
                unfold po8 at eR
                rw [if_neg o8] at eR
                exact t0 _ h' eR ((g8.mono op_pc).trans f9) e
            · rw [if_neg z61] at eR
              obtain ⟨x1, x2⟩ := er g7 e
              exact t0 _ h' eR x1 x2
          · rw [if_neg z3] at eR
            obtain ⟨x1, x2⟩ := er g6 e
            exact t0 _ h' eR x1 x2
        · rw [if_pos z4, if_neg z6] at eR
          obtain ⟨x1, x2⟩ := er g5 e
          exact t0 _ h' eR x1 x2
        · rw [if_neg z4] at eR
          obtain ⟨x1, x2⟩ := er g5 e
          exact t0 _ h' eR x1 x2
      · rw [if_neg z] at eR
        obtain ⟨x1, x2⟩ := er g4 e
        exact t0 _ h' eR x1 x2
    · rw [if_pos k2, if_pos us] at eR
      obtain ⟨x1, x2⟩ := er g2 e
      exact bq_t rfl (t0 _ h' eR x1 x2)
    · rw [if_neg k2] at eR
      obtain ⟨x1, x2⟩ := er g2 e
      exact bq_t rfl (t0 _ h' eR x1 x2)
  · unfold po at eR
    rw [if_neg n12] at eR
    obtain ⟨x1, x2⟩ := er (Fr.refl h) e
    exact t0 _ h' eR x1 x2
end PRC
