/-! the grammar of instructions; the class reads one -/
def hasO (T : Tx) (D : SD) (q : Nat) : Prop := ∃ m, m < dN D ∧ ∀ k, k < 8 → dM D m k = ltr T (tPl T q) (nx T q) k
noncomputable def oix (T : Tx) (D : SD) (q : Nat) : Nat := lst (fun m => m < dN D ∧ ∀ k, k < 8 → dM D m k = ltr T (tPl T q) (nx T q) k)
abbrev SQ : Type := Nat × Nat × Nat × (Nat → Nat)
noncomputable def sq (T : Tx) (D : SD) : Nat → Nat → Nat → Nat → Nat → (Nat → Nat) → Sum Nat SQ
  | 0, _, _, _, _, _ => .inl 0
  | f + 1, q, n, here, ms, r => if tK T q = 2 then (@ite _ (hasO T D q) (Classical.propDecidable _) (if n = 24 ∨ here = 10 then .inl (pE T q 5) else if tK T (nx T q) = 33 then sq T D f (nx T (nx T q)) (n + 1) 0 (ms ||| 2 ^ n) (fun k => if k = n then oix T D q else r k) else if tK T (nx T q) = 44 then sq T D f (nx T (nx T q)) (n + 1) (here + 1) ms (fun k => if k = n then oix T D q else r k) else .inr (nx T q, n + 1, ms, fun k => if k = n then oix T D q else r k)) (.inl (pE T q 4))) else .inl (pE T q 1)
/-- segments so far -/
def SgO (n here mk : Nat) : Prop := here ≤ n ∧ here ≤ 10 ∧ (∀ k, n ≤ k → mk.testBit k = false) ∧ ∀ k, k < n - here → ∃ e, k < e ∧ e ≤ k + 10 ∧ e ≤ n ∧ mk.testBit (e - 1) = true
def SqO (D : SD) (T : Tx) (s : SQ) : Prop := s.1 ≤ T.1 ∧ 0 < s.2.1 ∧ s.2.1 ≤ 24 ∧ s.2.2.1 < 2 ^ 24 ∧ (∀ k, k < s.2.1 → s.2.2.2 k < dN D) ∧ ∀ k, k < s.2.1 → s.2.1 ≤ k + 10 ∨ ∃ e, k < e ∧ e ≤ k + 10 ∧ e ≤ s.2.1 ∧ s.2.2.1.testBit (e - 1) = true
theorem oix_is {T : Tx} {D : SD} {q : Nat} (h : hasO T D q) : (oix T D q < dN D ∧ ∀ k, k < 8 → dM D (oix T D q) k = ltr T (tPl T q) (nx T q) k) ∧ ∀ m, m < oix T D q → ¬ (m < dN D ∧ ∀ k, k < 8 → dM D m k = ltr T (tPl T q) (nx T q) k) := lst_is (p := fun m => m < dN D ∧ ∀ k, k < 8 → dM D m k = ltr T (tPl T q) (nx T q) k) h
theorem sq_ok {T : Tx} {D : SD} : ∀ (f q n here mk : Nat) (r : Nat → Nat) (s : SQ), q ≤ T.1 → f + n = 25 → n ≤ 24 → SgO n here mk → (∀ k, k < n → r k < dN D) → sq T D f q n here mk r = .inr s → SqO D T s := by
  intro f
  induction f with
  | zero => intro q n here mk r s _ _ _ _ _ e; cases e
  | succ f ih =>
    intro q n here mk r s hq hf hn sg hr e
    have e : (if tK T q = 2 then (@ite _ (hasO T D q) (Classical.propDecidable _) (if n = 24 ∨ here = 10 then .inl (pE T q 5) else if tK T (nx T q) = 33 then sq T D f (nx T (nx T q)) (n + 1) 0 (mk ||| 2 ^ n) (fun k => if k = n then oix T D q else r k) else if tK T (nx T q) = 44 then sq T D f (nx T (nx T q)) (n + 1) (here + 1) mk (fun k => if k = n then oix T D q else r k) else .inr (nx T q, n + 1, mk, fun k => if k = n then oix T D q else r k)) (.inl (pE T q 4))) else .inl (pE T q 1)) = .inr s := e
    by_cases k2 : tK T q = 2
    · rw [if_pos k2] at e
      by_cases ho : hasO T D q
      · rw [if_pos ho] at e
        by_cases z : n = 24 ∨ here = 10
        · rw [if_pos z] at e; cases e
        · rw [if_neg z] at e
          have hr' : ∀ k, k < n + 1 → (fun k => if k = n then oix T D q else r k) k < dN D := fun k hk => by
            dsimp only
            by_cases y : k = n
            · rw [if_pos y]; exact (oix_is ho).1.1
            · rw [if_neg y]; exact hr k (by omega)
          obtain ⟨s1, s2, s3, s4⟩ := sg
          have n1 := nx_le T hq
          have n2 := nx_le T n1
          by_cases z33 : tK T (nx T q) = 33
          · rw [if_pos z33] at e
            refine ih _ _ _ _ _ s n2 (by omega) (by omega) ⟨by omega, by omega, fun k hk => ?_, fun k hk => ?_⟩ hr' e
            · rw [Nat.testBit_or, s3 k (by omega), p2_bit, decide_eq_false (by omega)]; rfl
            · rcases Nat.lt_or_ge k (n - here) with y | y
              · obtain ⟨e, e1, e2, e3, e4⟩ := s4 k y
                exact ⟨e, e1, e2, by omega, by rw [Nat.testBit_or, e4]; rfl⟩
              · exact ⟨n + 1, by omega, by omega, by omega, by rw [Nat.testBit_or, show n + 1 - 1 = n by omega, p2_bit, decide_eq_true rfl, Bool.or_true]⟩
          · rw [if_neg z33] at e
            by_cases z44 : tK T (nx T q) = 44
            · rw [if_pos z44] at e
              refine ih _ _ _ _ _ s n2 (by omega) (by omega) ⟨by omega, by omega, fun k hk => s3 k (by omega), fun k hk => ?_⟩ hr' e
              obtain ⟨e, e1, e2, e3, e4⟩ := s4 k (by omega)
              exact ⟨e, e1, e2, by omega, e4⟩
            · rw [if_neg z44] at e
              injection e with e
              subst e
              refine ⟨n1, Nat.succ_pos _, by show n + 1 ≤ 24; omega, ?_, hr', fun k hk => ?_⟩
              · exact Nat.lt_pow_two_of_testBit (n := 24) mk (fun k hk => s3 k (by omega))
              · have hk : k < n + 1 := hk
                show n + 1 ≤ k + 10 ∨ ∃ e, k < e ∧ e ≤ k + 10 ∧ e ≤ n + 1 ∧ mk.testBit (e - 1) = true
                rcases Nat.lt_or_ge k (n - here) with y | y
                · obtain ⟨e, e1, e2, e3, e4⟩ := s4 k y
                  exact Or.inr ⟨e, e1, e2, by omega, e4⟩
                · left; omega
      · rw [if_neg ho] at e; cases e
    · rw [if_neg k2] at e; cases e
def addI (D : SD) (nm : Nat → Nat) (n : Nat) (r : Nat → Nat) : SD := (dN D, dU D, dT D, dK D, dA D, dB D, (fun m => if m = 12 + dI D then nm else dM D m), dI D + 1, (fun i => if i = dI D then n else dL D i), fun i => if i = dI D then r else dR D i)
def pi3 (T : Tx) (R : Sum Nat SQ) (D : SD) (nm : Nat → Nat) : Sum Nat (Nat × SD × Nat) := match R with
  | .inl c => .inl c
  | .inr s => if tK T s.1 = 59 then .inr (nx T s.1, addI D nm s.2.1 s.2.2.2, s.2.2.1) else .inl (pE T s.1 1)
noncomputable def pi2 (T : Tx) (p : Nat) (D : SD) (nm : Nat → Nat) : Sum Nat (Nat × SD × Nat) := if tK T p = 58 then pi3 T (sq T D 25 (nx T p) 0 0 0 (fun _ => 0)) D nm else .inl (pE T p 1)
noncomputable def pi1 (T : Tx) (p : Nat) (D : SD) : Sum Nat (Nat × SD × Nat) := if tK T p = 2 then (@ite _ (usd T D p) (Classical.propDecidable _) (.inl (pE T p 3)) (pi2 T (nx T p) D (ltr T (tPl T p) (nx T p)))) else .inl (pE T p 1)
noncomputable def pin (T : Tx) (p : Nat) (D : SD) : Sum Nat (Nat × SD × Nat) := if dI D < 8 then pi1 T (nx T p) D else .inl (pE T p 5)
theorem addI_wf {D : SD} {T : Tx} {nm : Nat → Nat} {s : SQ} (w : Wf D) (hI : dI D < 8) (hn : NmOK nm) (so : SqO D T s) : Wf (addI D nm s.2.1 s.2.2.2) := by
  obtain ⟨w1, w2, w3, w4, w5, w6⟩ := w
  refine ⟨w1, w2, by show dI D + 1 ≤ 8; omega, fun i hi => ?_, fun m hm => ?_, fun i hi => ?_⟩
  · have hi : i < dI D + 1 := hi
    show 0 < (if i = dI D then s.2.1 else dL D i) ∧ (if i = dI D then s.2.1 else dL D i) ≤ 24 ∧ ∀ k, k < (if i = dI D then s.2.1 else dL D i) → (if i = dI D then s.2.2.2 else dR D i) k < dN D
    by_cases q : i = dI D
    · rw [if_pos q, if_pos q]; exact ⟨so.2.1, so.2.2.1, so.2.2.2.2.1⟩
    · rw [if_neg q, if_neg q]; exact w4 i (by omega)
  · show NmOK (if m = 12 + dI D then nm else dM D m)
    rw [if_neg (by have hm : m < dN D := hm; omega)]; exact w5 m hm
  · have hi : i < dI D + 1 := hi
    show NmOK (if 12 + i = 12 + dI D then nm else dM D (12 + i))
    by_cases q : i = dI D
    · rw [if_pos (by omega)]; exact hn
    · rw [if_neg (by omega)]; exact w6 i (by omega)
def fIn (i : Nat) (c j : Nat) : Bool := fTk c j || ((c == 27 || c == 28) && decide (24 * i ≤ j ∧ j < 24 * i + 24)) || ((c == 25 || c == 26) && j == i)
theorem tk_in {i : Nat} (c j : Nat) (e : fIn i c j = false) : fTk c j = false := by
  unfold fIn at e
  simp only [Bool.or_eq_false_iff] at e
  exact e.1.1
def fRs (i : Nat) (c j : Nat) : Bool := fTk c j || ((c == 27 || c == 28) && decide (24 * i ≤ j ∧ j < 24 * i + 24)) || (c == 26 && j == i)
theorem sq_in {i : Nat} (c j : Nat) (e : fIn i c j = false) : fRs i c j = false := by
  unfold fIn at e
  unfold fRs
  simp only [Bool.or_eq_false_iff, Bool.and_eq_false_iff] at e ⊢
  exact ⟨e.1, by rcases e.2 with z | z; (· exact Or.inl z.2); (· exact Or.inr z)⟩
theorem tk_sq {i : Nat} (c j : Nat) (e : fRs i c j = false) : fTk c j = false := by
  unfold fRs at e
  simp only [Bool.or_eq_false_iff] at e
  exact e.1.1
theorem in_pc {i : Nat} (c j : Nat) (e : fPc c j = false) : fIn i c j = false := by
  unfold fPc at e
  unfold fIn fTk
  simp only [Bool.or_eq_false_iff, Bool.and_eq_false_iff, decide_eq_false_iff_not, beq_eq_false_iff_ne] at e ⊢
  omega
def mkA (mks : Nat → Nat) (i m : Nat) : Nat → Nat := fun j => if j = i then m else mks j
theorem mkA_at (mks : Nat → Nat) (i m : Nat) : mkA mks i m i = m := if_pos rfl
theorem mkA_ne (mks : Nat → Nat) {i m j : Nat} (h : j ≠ i) : mkA mks i m j = mks j := if_neg h
def PMk (D : SD) (mks : Nat → Nat) (h : Hp) : Prop := ∀ i, i < dI D → ∀ k, k < dL D i → h.1 28 (24 * i + k) = if (mks i).testBit k then 1 else 0
section INC
variable {E : En} {d : Nat} {T : Tx} {h : Hp} {P : Int32 → Hp → Prop} {D : SD} {p : Nat} {mks : Nat → Nat}
theorem PSrc.ins {h' : Hp} (w : Wf D) (a : PSrc D h) (f : Fr (fIn (dI D)) h h') : PSrc D h' := by
  refine a.fr f rfl rfl (fun c m h1 h2 h3 => ?_) (fun c i h1 h2 hi => ?_) (fun i k hi hk => ?_)
  · unfold fIn fTk
    simp only [Bool.or_eq_false_iff, Bool.and_eq_false_iff, decide_eq_false_iff_not, beq_eq_false_iff_ne]
    omega
  · unfold fIn fTk
    simp only [Bool.or_eq_false_iff, Bool.and_eq_false_iff, decide_eq_false_iff_not, beq_eq_false_iff_ne]
    omega
  · have := (w.2.2.2.1 i hi).2.1
    unfold fIn fTk
    simp only [Bool.or_eq_false_iff, Bool.and_eq_false_iff, decide_eq_false_iff_not, beq_eq_false_iff_ne]
    omega
theorem PMk.ins {h' : Hp} (w : Wf D) (a : PMk D mks h) (f : Fr (fIn (dI D)) h h') : PMk D mks h' := by
  intro i hi k hk
  have := (w.2.2.2.1 i hi).2.1
  rw [f.i 28 _ (by
    unfold fIn fTk
    simp only [Bool.or_eq_false_iff, Bool.and_eq_false_iff, decide_eq_false_iff_not, beq_eq_false_iff_ne]
    omega)]
  exact a i hi k hk
theorem c_sq (w : Wf D) (ok : TxOK T) (cb : CBuf T h) (hI : dI D < 8) (ps : PSrc D h) (hp : p ≤ T.1) (tk : CTk T p h) (t0 : ∀ c h', sq T D 25 p 0 0 0 (fun _ => 0) = .inl c → Fr fPc h h' → h'.1 1 7 = nI c → P 0 h') (t1 : ∀ s h', sq T D 25 p 0 0 0 (fun _ => 0) = .inr s → Fr (fRs (dI D)) h h' → h'.1 26 (dI D) = nI s.2.1 → (∀ k, k < s.2.1 → h'.1 27 (24 * dI D + k) = nI (s.2.2.2 k) ∧ h'.1 28 (24 * dI D + k) = if s.2.2.1.testBit k then 1 else 0) → CTk T s.1 h' → P 1 h') : SpI E (d + 5) MX2_readSequence [.ref (eA E 1), .ref (eA E 17)] h P := by
  have hN := w.1
  refine wp_X2_readSequence E (d + 4) h P (fun ga => ?_)
  rw [ps.2.1, show (24 : Int32) = nI 24 from rfl, pk_mul, show dI D * 24 = 24 * dI D by omega]
  obtain ⟨R, eR⟩ : ∃ R, R = sq T D 25 p 0 0 0 (fun _ => 0) := ⟨_, rfl⟩
  rw [← eR] at t0 t1
  have er : ∀ {q k : Nat} {h1 h2 : Hp}, Fr (fRs (dI D)) h h1 → ErrC T q k h1 h2 → Fr fPc h h2 ∧ h2.1 1 7 = nI (pE T q k) := by
    intro q k h1 h2 f e
    refine ⟨(f.mono (fun c j e => sq_in c j (in_pc c j e))).trans (e.1.mono (fun c j z => ?_)), e.2⟩
    unfold fPc at z
    simp only [Bool.or_eq_false_iff, Bool.and_eq_false_iff, decide_eq_false_iff_not, beq_eq_false_iff_ne] at z ⊢
    omega
  have loop : ∀ (f q n here mk : Nat) (r : Nat → Nat) (h1 : Hp), f + n = 25 → q ≤ T.1 → n ≤ 24 → here ≤ n → (∀ k, n ≤ k → mk.testBit k = false) → R = sq T D f q n here mk r → Fr (fRs (dI D)) h h1 → (∀ k, k < n → h1.1 27 (24 * dI D + k) = nI (r k) ∧ h1.1 28 (24 * dI D + k) = if mk.testBit k then 1 else 0) → CTk T q h1 → VX2_readSequence_13 E (d + 4) ga P (nI (24 * dI D)) (nI here) (nI n) h1 := by
    intro f
    induction f with
    | zero => intro q n here mk r h1 hf _ hn; omega
    | succ f ih =>
      intro q n here mk r h1 hf hq hn hh hmz eR fr al tk1
      have eR : R = (if tK T q = 2 then (@ite _ (hasO T D q) (Classical.propDecidable _) (if n = 24 ∨ here = 10 then .inl (pE T q 5) else if tK T (nx T q) = 33 then sq T D f (nx T (nx T q)) (n + 1) 0 (mk ||| 2 ^ n) (fun k => if k = n then oix T D q else r k) else if tK T (nx T q) = 44 then sq T D f (nx T (nx T q)) (n + 1) (here + 1) mk (fun k => if k = n then oix T D q else r k) else .inr (nx T q, n + 1, mk, fun k => if k = n then oix T D q else r k)) (.inl (pE T q 4))) else .inl (pE T q 1)) := eR
      have ps1 := ps.ins w (fr.mono sq_in)
      have k128 := (tok_all hq).2.2.2.2.2.2
      have n1 := nx_le T hq
      have n2 := nx_le T n1
      refine sg_X2_readSequence_13 E (d + 4) ga _ _ _ h1 P (br_f (fun z => by have := (nI_ltI (a := 24) (by decide) (by omega)).mp z; omega) ?_)
      rw [tk1.2.2.1]
      refine ek_if (nI_eq (b := 2) (by omega) (by decide)) (fun k2 => ?_) (fun k2 => c_fail (k := 1) tk1 (fun h' e => ⟨Or.inl rfl, ?_⟩))
      · rw [if_pos k2] at eR
        obtain ⟨a1, a2, a3, a4, a5, a6⟩ := tok_nm hq k2
        rw [tk1.2.2.2.1 k2, ← a6]
        refine wp_X6_operationNamed_17 E (d + 3) _ h1 _ ?_
        rw [ps1.1]
        refine c_idx (f := dM D) lay_18 hN (by decide) (nmN_lt a5) (fun m hm => ⟨(ps1.2.2.1 m hm).2.2.2.2.2.2, w.2.2.2.2.1 m hm⟩) (fun m hm e fst => bq_f (nI_m1 (by omega)) ?_) (fun no => bq_t rfl (c_fail (k := 4) tk1 (fun h' e => ⟨Or.inl rfl, ?_⟩)))
        · have al8 := nmN_inj (w.2.2.2.2.1 m hm) a5 e
          have ho : hasO T D q := ⟨m, hm, al8⟩
          have em : oix T D q = m := by
            obtain ⟨o1, o2⟩ := oix_is ho
            rcases Nat.lt_or_ge (oix T D q) m with y | y
            · exact absurd (nmN_cong o1.2) (fst _ y)
            · rcases Nat.lt_or_ge m (oix T D q) with y2 | y2
              · exact absurd ⟨hm, al8⟩ (o2 m y2)
              · omega
          rw [if_pos ho] at eR
          refine ek_if (nI_eq (b := 24) (by omega) (by decide)) (fun z => c_fail (k := 5) tk1 (fun h' e => ⟨Or.inl rfl, ?_⟩)) (fun z => bj_if (nI_eq (b := 10) (by omega) (by decide)) (fun z10 => ?_) (fun z10 => c_fail (k := 5) tk1 (fun h' e => ⟨Or.inl rfl, ?_⟩)))
          · rw [if_pos (Or.inl z)] at eR
            obtain ⟨x1, x2⟩ := er fr e
            exact t0 _ h' eR x1 x2
          · rw [if_neg (by omega)] at eR
            refine c_adv ok (cb.fr fr rfl (fun _ => rfl)) n1 tk1.2.1 (fun h2 f2 tk2 => ?_)
            have fr2 := fr.trans (f2.mono tk_sq)
            have e8 : h2.1 17 8 = nI (dI D) := by rw [f2.i 17 8 rfl]; exact ps1.2.1
            have k128' := (tok_all n1).2.2.2.2.2.2
            have v : vp_in (nI (24 * dI D + n)) 192 := vp_in_nI (by omega) (by decide)
            have v8 : vp_in (nI (dI D)) 8 := vp_in_nI hI (by decide)
            rw [tk2.2.2.1, e8, nI_add, nI_1, nI_1, nI_clamp (n := 24 * dI D + n) (by omega), nI_clamp (n := dI D) (by omega)]
            have go : ∀ (z : Int32) (mk' : Nat), (∀ k, k < n → mk'.testBit k = mk.testBit k) → vp_nar .boolean z = (if mk'.testBit n then 1 else 0) → Fr (fRs (dI D)) h (sI (sI (sI h2 27 (24 * dI D + n) (nI m)) 28 (24 * dI D + n) (vp_nar .boolean z)) 26 (dI D) (nI (n + 1))) ∧ CTk T (nx T q) (sI (sI (sI h2 27 (24 * dI D + n) (nI m)) 28 (24 * dI D + n) (vp_nar .boolean z)) 26 (dI D) (nI (n + 1))) ∧ (∀ k, k < n + 1 → (sI (sI (sI h2 27 (24 * dI D + n) (nI m)) 28 (24 * dI D + n) (vp_nar .boolean z)) 26 (dI D) (nI (n + 1))).1 27 (24 * dI D + k) = nI ((fun k => if k = n then oix T D q else r k) k) ∧ (sI (sI (sI h2 27 (24 * dI D + n) (nI m)) 28 (24 * dI D + n) (vp_nar .boolean z)) 26 (dI D) (nI (n + 1))).1 28 (24 * dI D + k) = if mk'.testBit k then 1 else 0) := by
              intro z mk' hmk hz
              have f3 : Fr (fun c _ => c == 26 || c == 27 || c == 28) h2 (sI (sI (sI h2 27 (24 * dI D + n) (nI m)) 28 (24 * dI D + n) (vp_nar .boolean z)) 26 (dI D) (nI (n + 1))) := (((Fr.refl h2).si rfl).si rfl).si rfl
              refine ⟨((fr2.si ?_).si ?_).si ?_, tk2.fr f3 (fun _ => rfl), fun k hk => ?_⟩
              · unfold fRs
                rw [decide_eq_true (by omega)]; simp
              · unfold fRs
                rw [decide_eq_true (by omega)]; simp
              · simp [fRs]
              · rw [sI_n _ _ _ _ (show 27 ≠ 26 by decide), sI_n _ _ _ _ (show 27 ≠ 28 by decide), sI_n _ _ _ _ (show 28 ≠ 26 by decide)]
                dsimp only
                by_cases y : k = n
                · rw [if_pos y, y, sI_at, sI_at, em, hz]
                  exact ⟨rfl, rfl⟩
                · rw [if_neg y, sI_j (by omega), sI_j (by omega), sI_n _ _ _ _ (show 28 ≠ 27 by decide), f2.i 27 _ rfl, f2.i 28 _ rfl, hmk k (by omega)]
                  exact al k (by omega)
            have nm : (mk ||| 2 ^ n).testBit n = true := by rw [Nat.testBit_or, p2_bit, decide_eq_true rfl, Bool.or_true]
            have lo : ∀ k, k < n → (mk ||| 2 ^ n).testBit k = mk.testBit k := fun k hk => by rw [Nat.testBit_or, p2_bit, decide_eq_false (by omega), Bool.or_false]
            have q33 := nI_eq (a := tK T (nx T q)) (b := 33) (by omega) (by decide)
            have q44 := nI_eq (a := tK T (nx T q)) (b := 44) (by omega) (by decide)
            refine ⟨v, bj_if q33 (fun z33 => ⟨v, v8, bq_f (fun y => z33 (q33.mp y)) (br_f (fun y => z33 (q33.mp y)) (ek_if q44 (fun z44 => ?_) (fun z44 => ?_)))⟩) (fun z33 => ⟨v, v8, bq_t (q33.mpr z33) (br_t (q33.mpr z33) ?_)⟩)⟩
            · rw [if_neg z33, if_pos z44] at eR
              obtain ⟨o1, o2, o3⟩ := go 0 mk (fun _ _ => rfl) (by rw [hmz n (Nat.le_refl _)]; decide)
              refine c_adv ok (cb.fr o1 rfl (fun _ => rfl)) n2 o2.2.1 (fun h4 f4 tk4 => ?_)
              refine ih (nx T (nx T q)) (n + 1) (here + 1) mk _ h4 (by omega) n2 (by omega) (by omega) (fun k hk => hmz k (by omega)) eR (o1.trans (f4.mono tk_sq)) (fun k hk => ?_) tk4
              rw [f4.i 27 _ rfl, f4.i 28 _ rfl]; exact o3 k hk
            · rw [if_neg z33, if_neg z44] at eR
              obtain ⟨o1, o2, o3⟩ := go 0 mk (fun _ _ => rfl) (by rw [hmz n (Nat.le_refl _)]; decide)
              exact t1 _ _ eR o1 (sI_at _ _ _ _) o3 o2
            · rw [if_pos z33] at eR
              obtain ⟨o1, o2, o3⟩ := go 1 (mk ||| 2 ^ n) lo (by rw [nm]; decide)
              refine c_adv ok (cb.fr o1 rfl (fun _ => rfl)) n2 o2.2.1 (fun h4 f4 tk4 => ?_)
              refine ih (nx T (nx T q)) (n + 1) 0 (mk ||| 2 ^ n) _ h4 (by omega) n2 (by omega) (by omega) (fun k hk => ?_) eR (o1.trans (f4.mono tk_sq)) (fun k hk => ?_) tk4
              · rw [Nat.testBit_or, hmz k (by omega), p2_bit, decide_eq_false (by omega)]; rfl
              · rw [f4.i 27 _ rfl, f4.i 28 _ rfl]; exact o3 k hk
          · rw [if_pos (Or.inr z10)] at eR
            obtain ⟨x1, x2⟩ := er fr e
            exact t0 _ h' eR x1 x2
        · rw [if_neg (fun ho => by
            obtain ⟨m, hm, al8⟩ := ho
            exact no m hm (nmN_cong al8))] at eR
          obtain ⟨x1, x2⟩ := er fr e
          exact t0 _ h' eR x1 x2
      · rw [if_neg k2] at eR
        obtain ⟨x1, x2⟩ := er fr e
        exact t0 _ h' eR x1 x2
  exact loop 25 p 0 0 0 (fun _ => 0) h rfl hp (by decide) (Nat.le_refl _) (fun k _ => Nat.zero_testBit k) eR (Fr.refl h) (fun k hk => absurd hk (Nat.not_lt_zero k)) tk
theorem addI_at {nm : Nat → Nat} {n : Nat} {r : Nat → Nat} : dM (addI D nm n r) (12 + dI D) = nm ∧ dL (addI D nm n r) (dI D) = n ∧ dR (addI D nm n r) (dI D) = r := ⟨if_pos rfl, if_pos rfl, if_pos rfl⟩
theorem addI_ne {nm : Nat → Nat} {n i : Nat} {r : Nat → Nat} (q : i ≠ dI D) : dM (addI D nm n r) (12 + i) = dM D (12 + i) ∧ dL (addI D nm n r) i = dL D i ∧ dR (addI D nm n r) i = dR D i := ⟨if_neg (by omega), if_neg q, if_neg q⟩
theorem c_pin (w : Wf D) (ok : TxOK T) (cb : CBuf T h) (hp : p ≤ T.1) (tk : CTk T p h) (ps : PSrc D h) (pm : PMk D mks h) (t0 : ∀ c h', pin T p D = .inl c → Fr fPc h h' → h'.1 1 7 = nI c → P 0 h') (t1 : ∀ q D' mk h', pin T p D = .inr (q, D', mk) → Fr fPc h h' → h'.1 1 7 = h.1 1 7 → Wf D' → dI D' = dI D + 1 → mk < 2 ^ 24 → (∀ k, k < dL D' (dI D) → dL D' (dI D) ≤ k + 10 ∨ ∃ e, k < e ∧ e ≤ k + 10 ∧ e ≤ dL D' (dI D) ∧ mk.testBit (e - 1) = true) → (∀ i, i < dI D → dL D' i = dL D i) → PSrc D' h' → PMk D' (mkA mks (dI D) mk) h' → q ≤ T.1 → CTk T q h' → P 1 h') : SpI E (d + 6) MX2_readInstruction [.ref (eA E 1), .ref (eA E 17)] h P := by
  have hI := w.2.2.1
  obtain ⟨R, eR⟩ : ∃ R, R = pin T p D := ⟨_, rfl⟩
  rw [← eR] at t0 t1
  have er : ∀ {q k : Nat} {h1 h2 : Hp}, Fr (fIn (dI D)) h h1 → ErrC T q k h1 h2 → Fr fPc h h2 ∧ h2.1 1 7 = nI (pE T q k) := by
    intro q k h1 h2 f e
    refine ⟨(f.mono in_pc).trans (e.1.mono (fun c j z => ?_)), e.2⟩
    unfold fPc at z
    simp only [Bool.or_eq_false_iff, Bool.and_eq_false_iff, decide_eq_false_iff_not, beq_eq_false_iff_ne] at z ⊢
    omega
  refine wp_X2_readInstruction E (d + 5) h P ?_
  rw [ps.2.1]
  unfold pin at eR
  refine ek_if (nI_ltI (b := 8) (by omega) (by decide)) (fun n8 => ?_) (fun n8 => c_fail (k := 5) tk (fun h' e => ⟨Or.inl rfl, ?_⟩))
  · rw [if_pos n8] at eR
    have hp1 := nx_le T hp
    have hp2 := nx_le T hp1
    have hp3 := nx_le T hp2
    refine c_adv ok cb hp1 tk.2.1 (fun h2 f2 tk2 => ?_)
    have g2 : Fr (fIn (dI D)) h h2 := f2.mono tk_in
    have ps2 := ps.ins w g2
    unfold pi1 at eR
    refine c_isNew w ok hp1 tk2 ps2 (fun k2 nu => ?_) (fun k2 us h' e => ?_) (fun k2 h' e => ?_)
    · rw [if_pos k2, if_neg nu] at eR
      obtain ⟨a1, a2, a3, a4, a5, a6⟩ := tok_nm hp1 k2
      refine bq_f (by decide) ⟨vp_in_nI n8 (by decide), ?_⟩
      rw [nI_clamp (by omega), tk2.2.2.2.1 k2, ← a6]
      have g3 : Fr (fIn (dI D)) h (sL h2 25 (dI D) (lN (nmN (ltr T (tPl T (nx T p)) (nx T (nx T p)))))) := g2.sl (by simp [fIn])
      refine c_adv ok (cb.fr g3 rfl (fun _ => rfl)) hp2 tk2.2.1 (fun h4 f4 tk4 => ?_)
      have g4 := g3.trans (f4.mono tk_in)
      have n4 : h4.2 25 (dI D) = lN (nmN (ltr T (tPl T (nx T p)) (nx T (nx T p)))) := by
        rw [f4.g 25 (fun _ => rfl), sL_2, if_pos rfl]
        simp only [vp_updL, if_pos]
      unfold pi2 at eR
      refine c_take (K := 58) ok (cb.fr g4 rfl (fun _ => rfl)) hp2 tk4 (by decide) (fun z h5 f5 tk5 => br_f (by decide) ?_) (fun z h' e => br_t rfl ?_)
      · rw [if_pos z] at eR
        have g5 := g4.trans (f5.mono tk_in)
        refine c_sq w ok (cb.fr g5 rfl (fun _ => rfl)) n8 (ps.ins w g5) hp3 tk5 (fun c h' eS f e => br_t rfl ?_) (fun s h6 eS f6 l6 r6 tk6 => br_f (by decide) ?_)
        · rw [eS] at eR
          exact t0 c h' eR ((g5.mono in_pc).trans f) e
        · rw [eS] at eR
          have so := sq_ok 25 _ 0 0 0 _ s hp3 rfl (by decide) ⟨Nat.le_refl _, by decide, fun k _ => Nat.zero_testBit k, fun k hk => by omega⟩ (fun k hk => absurd hk (Nat.not_lt_zero k)) eS
          have eR : R = if tK T s.1 = 59 then .inr (nx T s.1, addI D (ltr T (tPl T (nx T p)) (nx T (nx T p))) s.2.1 s.2.2.2, s.2.2.1) else .inl (pE T s.1 1) := eR
          have g6 := g5.trans (f6.mono sq_in)
          refine c_take (K := 59) ok (cb.fr g6 rfl (fun _ => rfl)) so.1 tk6 (by decide) (fun z59 h7 f7 tk7 => bq_f (by decide) ?_) (fun z59 h' e => bq_t rfl ?_)
          · rw [if_pos z59] at eR
            have g7 := g6.trans (f7.mono tk_in)
            have ps7 := ps.ins w g7
            have pm7 := pm.ins w g7
            have n7 : h7.2 25 (dI D) = lN (nmN (ltr T (tPl T (nx T p)) (nx T (nx T p)))) := by
              rw [f7.g 25 (fun _ => rfl), f6.g 25 (fun _ => rfl), f5.g 25 (fun _ => rfl)]; exact n4
            have fz : Fr (fun c j => c == 17 && j == 8) h7 (sI h7 17 8 (nI (dI D + 1))) := (Fr.refl h7).si rfl
            rw [nI_1]
            obtain ⟨x1, x2, x3⟩ := addI_at (D := D) (nm := ltr T (tPl T (nx T p)) (nx T (nx T p))) (n := s.2.1) (r := s.2.2.2)
            have ne : ∀ i, i ≠ dI D → _ := fun i q => addI_ne (D := D) (nm := ltr T (tPl T (nx T p)) (nx T (nx T p))) (n := s.2.1) (r := s.2.2.2) q
            refine t1 _ _ _ _ eR ((g7.mono in_pc).si rfl) ?_ (addI_wf w n8 a5 so) rfl so.2.2.2.1 (by rw [x2]; exact so.2.2.2.2.2) (fun i hi => (ne i (by omega)).2.1) ?_ ?_ (nx_le T so.1) (tk7.fr fz (fun _ => rfl))
            · rw [sI_n _ _ _ _ (by decide), g7.i 1 7 rfl]
            · refine ⟨?_, sI_at _ _ _ _, fun m hm => ?_, fun i hi => ?_⟩
              · rw [sI_j (by decide)]; exact ps7.1
              · rw [fz.i 19 m rfl, fz.i 20 m rfl, fz.i 21 m rfl, fz.i 22 m rfl, fz.i 23 m rfl, fz.i 24 m rfl, fz.g 18 (fun _ => rfl)]
                have hm : m < dN D := hm
                have e1 : dM (addI D (ltr T (tPl T (nx T p)) (nx T (nx T p))) s.2.1 s.2.2.2) m = dM D m := if_neg (by have := w.1; omega)
                rw [e1]
                exact ps7.2.2.1 m hm
              · have hi : i < dI D + 1 := hi
                rw [fz.g 25 (fun _ => rfl), fz.f 26 (fun _ => rfl), fz.f 27 (fun _ => rfl)]
                by_cases q : i = dI D
                · subst q
                  rw [x1, x2, x3, f7.f 26 (fun _ => rfl), f7.f 27 (fun _ => rfl)]
                  exact ⟨n7, l6, fun k hk => (r6 k hk).1⟩
                · obtain ⟨y1, y2, y3⟩ := ne i q
                  rw [y1, y2, y3]
                  exact ps7.2.2.2 i (by omega)
            · intro i hi k hk
              have hi : i < dI D + 1 := hi
              rw [fz.f 28 (fun _ => rfl)]
              by_cases q : i = dI D
              · subst q
                rw [x2] at hk
                rw [mkA_at, f7.f 28 (fun _ => rfl)]
                exact (r6 k hk).2
              · rw [(ne i q).2.1] at hk
                rw [mkA_ne mks q]
                exact pm7 i (by omega) k hk
          · rw [if_neg z59] at eR
            obtain ⟨x1, x2⟩ := er g6 e
            exact t0 _ h' eR x1 x2
      · rw [if_neg z] at eR
        obtain ⟨x1, x2⟩ := er g4 e
        exact t0 _ h' eR x1 x2
    · rw [if_pos k2, if_pos us] at eR
      obtain ⟨x1, x2⟩ := er g2 e
      exact bq_t rfl (t0 _ h' eR x1 x2)
    · rw [if_neg k2] at eR
      obtain ⟨x1, x2⟩ := er g2 e
      exact bq_t rfl (t0 _ h' eR x1 x2)
  · rw [if_neg n8] at eR
    obtain ⟨x1, x2⟩ := er (Fr.refl h) e
    exact t0 _ h' eR x1 x2
end INC
