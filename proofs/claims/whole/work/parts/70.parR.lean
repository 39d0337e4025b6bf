/-! the reference reads an operation -/
def fOr (N : Nat) (c j : Nat) : Bool := fTr c j || (c == 64 && decide (5 * N ≤ j ∧ j < 5 * N + 5)) || (c == 65 && decide (8 * N ≤ j ∧ j < 8 * N + 8))
def fPr (c j : Nat) : Bool := (c == 63 && (j == 1 || j == 2 || (44 ≤ j && j ≤ 49))) || (64 ≤ c && c ≤ 67) || (c == 68 && 1 ≤ j)
def ErrV (c : Nat) (h : Hp) : Prop := ∃ a k, c = 8 * a + k ∧ h.1 63 49 = nI a ∧ h.1 63 48 = nI k
def ErrR (T : Tx) (p k : Nat) (h h' : Hp) : Prop := Fr (fun c j => c == 63 && (j == 48 || j == 49)) h h' ∧ ErrV (pE T p k) h'
theorem tr_or {N : Nat} (c j : Nat) (e : fOr N c j = false) : fTr c j = false := by
  unfold fOr at e
  simp only [Bool.or_eq_false_iff] at e
  exact e.1.1
theorem or_pr {N : Nat} (c j : Nat) (e : fPr c j = false) : fOr N c j = false := by
  unfold fPr at e
  unfold fOr fTr
  simp only [Bool.or_eq_false_iff, Bool.and_eq_false_iff, decide_eq_false_iff_not, beq_eq_false_iff_ne] at e ⊢
  omega
section PRR
variable {E : En} {d : Nat} {T : Tx} {h : Hp} {P : Int32 → Hp → Prop} {PV : Hp → Prop} {D : SD} {p : Nat}
theorem RSrc.fr2 {h' : Hp} {X : Nat → Nat → Bool} (a : RSrc D h) (f : Fr X h h') (e1 : X 63 1 = false) (e2 : X 63 2 = false) (e3 : ∀ m x, m < dN D → x < 5 → X 64 (5 * m + x) = false) (e4 : ∀ m k, m < dN D → k < 8 → X 65 (8 * m + k) = false) (e5 : ∀ i k, i < dI D → k < 8 → X 65 (8 * (12 + i) + k) = false) (e6 : ∀ i, i < dI D → X 66 i = false) (e7 : ∀ i k, i < dI D → k < dL D i → X 67 (24 * i + k) = false) : RSrc D h' := by
  obtain ⟨a1, a2, a3, a4, a5, a6⟩ := a
  refine ⟨by rw [f.i 63 1 e1]; exact a1, by rw [f.i 63 2 e2]; exact a2, fun m hm => ?_, fun m hm k hk => ?_, fun i hi k hk => ?_, fun i hi => ⟨?_, fun k hk => ?_⟩⟩
  · have z := e3 m 0 hm (by decide)
    rw [Nat.add_zero] at z
    rw [f.i 64 _ z, f.i 64 _ (e3 m 1 hm (by decide)), f.i 64 _ (e3 m 2 hm (by decide)), f.i 64 _ (e3 m 3 hm (by decide)), f.i 64 _ (e3 m 4 hm (by decide))]
    exact a3 m hm
  · rw [f.i 65 _ (e4 m k hm hk)]; exact a4 m hm k hk
  · rw [f.i 65 _ (e5 i k hi hk)]; exact a5 i hi k hk
  · rw [f.i 66 _ (e6 i hi)]; exact (a6 i hi).1
  · rw [f.i 67 _ (e7 i k hi hk)]; exact (a6 i hi).2 k hk
theorem RSrc.op {h' : Hp} (a : RSrc D h) (hN : dN D < 12) (f : Fr (fOr (dN D)) h h') : RSrc D h' := by
  refine a.fr2 f rfl rfl (fun m x hm hx => ?_) (fun m k hm hk => ?_) (fun i k hi hk => ?_) (fun i hi => rfl) (fun i k _ _ => rfl)
  all_goals
    unfold fOr fTr
    simp only [Bool.or_eq_false_iff, Bool.and_eq_false_iff, decide_eq_false_iff_not, beq_eq_false_iff_ne]
    omega
theorem r_bad {k : Nat} (tk : RTk T p h) (t : ∀ h', ErrR T p k h h' → P 0 h') : SpI E d MX10_bad [.ref (eA E 63), .int (nI k)] h P := by
  refine wp_X10_bad E d _ h P ?_
  rw [tk.1]
  exact t _ ⟨((Fr.refl h).si rfl).si rfl, tPl T p, k, rfl, sI_at _ _ _ _, by rw [sI_j (by decide), sI_at]⟩
theorem r_takeS {K : Nat} (ok : TxOK T) (rb : RBuf T h) (hp : p ≤ T.1) (tk : RTk T p h) (hK : 33 ≤ K) (hK2 : K < 128) (t1 : tK T p = K → ∀ h', Fr fTr h h' → RTk T (nx T p) h' → P 1 h') (t0 : tK T p ≠ K → ∀ h', ErrR T p 1 h h' → P 0 h') : SpI E (d + 2) MX10_takesSign [.ref (eA E 63), .int (nI K)] h P := by
  refine wp_X10_takesSign E (d + 1) _ h P (r_isSign ok hp tk hK hK2 (bj_if (b2i_0 _) (fun z => ?_) (fun z => ?_)))
  · exact r_step ok rb (nx_le T hp) tk.2.1 (fun h2 f2 tk2 => t1 (of_decide_eq_true (ts_nf' z)) h2 f2 tk2)
  · exact r_bad (k := 1) tk (fun h' e => ⟨Or.inl rfl, t0 (of_decide_eq_false z) h' e⟩)
theorem r_new {i : Nat} (w : Wf D) (ok : TxOK T) (rb : RBuf T h) (hp : p ≤ T.1) (tk : RTk T p h) (sr : RSrc D h) (hi : i < 20) (t1 : tK T p = 2 → ¬ usd T D p → ∀ h', Fr (fun c j => fTr c j || (c == 65 && decide (8 * i ≤ j ∧ j < 8 * i + 8))) h h' → (∀ k, k < 8 → h'.1 65 (8 * i + k) = nI (ltr T (tPl T p) (nx T p) k)) → RTk T (nx T p) h' → P 1 h') (t3 : tK T p = 2 → usd T D p → ∀ h', ErrR T p 3 h h' → P 0 h') (t0 : tK T p ≠ 2 → ∀ h', ErrR T p 1 h h' → P 0 h') : SpI E (d + 7) MX10_takesNewName [.ref (eA E 63), .int (nI i)] h P := by
  refine wp_X10_takesNewName E (d + 6) _ h P (fun ga => r_isName ok hp rb tk (bj_if (b2i_0 _) (fun z => ?_) (fun z => ?_)))
  · have k2 := of_decide_eq_true (ts_nf' z)
    obtain ⟨a1, a2, a3, a4, a5, a6⟩ := tok_nm hp k2
    refine r_named w ok rb sr tk.1 tk.2.1 (by omega) a2 (fun i vi al _ => ?_) (fun no => br_t rfl ?_)
    · have : i < 20 := by
        have := w.1; have := w.2.2.1
        rcases vi with q | q <;> omega
      exact br_f (nI_m1 (by omega)) (r_bad (k := 3) tk (fun h' e => ⟨Or.inl rfl, t3 k2 ⟨i, vi, al⟩ h' e⟩))
    · have loop : ∀ k, k ≤ 8 → ∀ h1, Fr (fun c j => c == 65 && decide (8 * i ≤ j ∧ j < 8 * i + 8)) h h1 → (∀ j, j < k → h1.1 65 (8 * i + j) = nI (ltr T (tPl T p) (nx T p) j)) → VX10_takesNewName_29 E (d + 6) ga P (nI i) (nI k) h1 := by
        refine up_ind _ ?_ ?_
        · intro h1 f1 al
          refine sg_X10_takesNewName_29 E (d + 6) ga _ _ h1 P (br_t (nI_le (Nat.le_refl 8) (by decide)) ?_)
          refine r_step ok (rb.fr f1 rfl (fun _ => rfl)) (nx_le T hp) (by rw [f1.i 63 45 rfl]; exact tk.2.1) (fun h2 f2 tk2 => ?_)
          refine t1 k2 (fun u => by obtain ⟨j, vj, aj⟩ := u; exact no j vj aj) h2 ((f1.mono (fun c j e => ?_)).trans (f2.mono (fun c j e => ?_))) (fun k hk => by rw [f2.i 65 _ rfl]; exact al k hk) tk2
          · rw [Bool.or_eq_false_iff] at e; exact e.2
          · rw [Bool.or_eq_false_iff] at e; exact e.1
        · intro k hk ih h1 f1 al
          refine sg_X10_takesNewName_29 E (d + 6) ga _ _ h1 P (br_f (nI_ge (b := 8) hk (by decide)) ?_)
          refine r_letter ok (rb.fr f1 rfl (fun _ => rfl)) (by rw [f1.i 63 44 rfl]; exact tk.1) (by rw [f1.i 63 45 rfl]; exact tk.2.1) (by omega) a2 hk ?_
          rw [show (8 : Int32) = nI 8 from rfl, pk_mul, nI_add, nI_clamp (n := 8 * i + k) (by omega), nI_1]
          refine ⟨vp_in_nI (by omega) (by decide), ih _ (f1.si (by
            rw [decide_eq_true (by omega)]; rfl)) (fun j hj => ?_)⟩
          by_cases q : j = k
          · rw [q, sI_at]
          · rw [sI_j (by omega)]; exact al j (by omega)
      exact loop 0 (by decide) h (Fr.refl h) (fun j hj => absurd hj (Nat.not_lt_zero j))
  · exact r_bad (k := 1) tk (fun h' e => ⟨Or.inl rfl, t0 (of_decide_eq_false z) h' e⟩)
theorem RTk.fr {h' : Hp} {X : Nat → Nat → Bool} (a : RTk T p h) (f : Fr X h h') (e4 : X 63 44 = false) (e5 : X 63 45 = false) (e6 : X 63 46 = false) (e7 : X 63 47 = false) : RTk T p h' := by
  unfold RTk
  rw [f.i 63 44 e4, f.i 63 45 e5, f.i 63 46 e6, f.i 63 47 e7]
  exact a
theorem r_opdT {N x : Nat} (ok : TxOK T) (rb : RBuf T h) (hp : p ≤ T.1) (tk : RTk T p h) (hN : N < 12) (hx : x < 5) (e1 : h.1 63 1 = nI N) (t1 : isOp T p → ∀ h', Fr (fun c j => fTr c j || (c == 64 && j == 5 * N + x)) h h' → h'.1 64 (5 * N + x) = nI (opn T p) → RTk T (nx T p) h' → P 1 h') (t0 : ¬ isOp T p → ∀ h', ErrR T p 1 h h' → P 0 h') : SpI E (d + 2) MX10_takesOperand [.ref (eA E 63), .int (nI x)] h P := by
  obtain ⟨_, r2, _, _, _, rk, _⟩ := tok_all hp
  have v : vp_in (nI (5 * N + x)) 60 := vp_in_nI (by omega) (by decide)
  refine wp_X10_takesOperand E (d + 1) _ h P ?_
  rw [tk.2.2.1, e1, show (5 : Int32) = nI 5 from rfl, pk_mul, nI_add, nI_clamp (n := 5 * N + x) (by omega)]
  have go : isOp T p → ∀ z : Int32, z = nI (opn T p) → SpV E (d + 1) MX10_step [.ref (eA E 63)] (sI h 64 (5 * N + x) z) (fun h7 => P 1 h7) := by
    intro o z hz
    have f1 : Fr (fun c j => c == 64 && j == 5 * N + x) h (sI h 64 (5 * N + x) z) := (Fr.refl h).si (by simp)
    refine r_step ok (rb.fr f1 rfl (fun _ => rfl)) (nx_le T hp) (by rw [f1.i 63 45 rfl]; exact tk.2.1) (fun h2 f2 tk2 => t1 o h2 ((f1.mono (fun c j e => ?_)).trans (f2.mono (fun c j e => ?_))) (by rw [f2.i 64 _ rfl, sI_at, hz]) tk2)
    · rw [Bool.or_eq_false_iff] at e; exact e.2
    · rw [Bool.or_eq_false_iff] at e; exact e.1
  refine ek_if (nI_eq (b := 2) (by omega) (by decide)) (fun z => ?_) (fun z => ?_)
  · have k4 := r2.mp z
    refine bq_t (by rw [z]; rfl) ⟨v, go (Or.inr k4) _ ?_⟩
    rw [tk.2.2.2.1 z, show (8 : Int32) = nI 8 from rfl, nI_add, ← tV_n hp k4]
    unfold opn
    rw [if_neg (by omega)]
  · refine r_reg ok hp rb tk (fun k3 => ?_) (fun k3 => ?_)
    · have l8 := tok_reg hp k3
      rw [tk.2.2.1, e1, pk_mul, nI_add, nI_clamp (n := 5 * N + x) (by omega)]
      refine br_t (nI_le (a := 0) (Nat.zero_le _) (by omega)) (bq_f (fun q => z ((nI_eq (b := 2) (by omega) (by decide)).mp q)) (r_reg ok hp rb tk (fun _ => ⟨v, go (Or.inl k3) _ ?_⟩) (fun n => absurd k3 n)))
      unfold opn
      rw [if_pos k3]
    · exact br_f (by decide) (r_bad (k := 1) tk (fun h' e => ⟨Or.inl rfl, t0 (fun o => by
        rcases o with o | o
        · exact k3 o
        · exact z (r2.mpr o)) h' e⟩))
theorem r_po (w : Wf D) (ok : TxOK T) (rb : RBuf T h) (hp : p ≤ T.1) (tk : RTk T p h) (sr : RSrc D h) (t0 : ∀ c h', po T p D = .inl c → Fr fPr h h' → ErrV c h' → P 0 h') (t1 : ∀ q D' h', po T p D = .inr (q, D') → Fr fPr h h' → RSrc D' h' → RTk T q h' → P 1 h') : SpI E (d + 8) MX10_takesOperation [.ref (eA E 63)] h P := by
  have hN := w.1
  have hI := w.2.2.1
  obtain ⟨R, eR⟩ : ∃ R, R = po T p D := ⟨_, rfl⟩
  rw [← eR] at t0 t1
  have er : ∀ {q k : Nat} {h1 h2 : Hp}, Fr fPr h h1 → ErrR T q k h1 h2 → Fr fPr h h2 ∧ ErrV (pE T q k) h2 := by
    intro q k h1 h2 f e
    refine ⟨f.trans (e.1.mono (fun c j z => ?_)), e.2⟩
    unfold fPr at z
    simp only [Bool.or_eq_false_iff, Bool.and_eq_false_iff, decide_eq_false_iff_not, beq_eq_false_iff_ne] at z ⊢
    omega
  refine wp_X10_takesOperation E (d + 7) h P ?_
  rw [sr.1]
  refine bj_if (nI_eq (b := 12) (by omega) (by decide)) (fun n12 => ?_) (fun n12 => r_bad (k := 5) tk (fun h' e => ⟨Or.inl rfl, ?_⟩))
  · have n12 : dN D < 12 := by omega
    unfold po at eR
    rw [if_pos n12] at eR
    have hp1 := nx_le T hp
    have hp2 := nx_le T hp1
    have hp3 := nx_le T hp2
    have hp4 := nx_le T hp3
    have hp5 := nx_le T hp4
    have hp6 := nx_le T hp5
    have hp7 := nx_le T hp6
    have hp8 := nx_le T hp7
    refine r_step ok rb hp1 tk.2.1 (fun h2 f2 tk2 => ?_)
    have g2 : Fr (fOr (dN D)) h h2 := f2.mono tr_or
    have sr2 := sr.op n12 g2
    unfold po1 at eR
    rw [sr2.1]
    refine r_new w ok (rb.fr g2 rfl (fun _ => rfl)) hp1 tk2 sr2 (by omega) (fun k2 nu h3 f3 nm3 tk3 => ?_) (fun k2 us h' e => ?_) (fun k2 h' e => ?_)
    · rw [if_pos k2, if_neg nu] at eR
      have g3 : Fr (fOr (dN D)) h h3 := g2.trans (f3.mono (fun c j e => by
        unfold fOr at e
        simp only [Bool.or_eq_false_iff] at e ⊢
        exact ⟨e.1.1, e.2⟩))
      refine bq_f (by decide) ?_
      unfold po2 at eR
      refine r_isGw ok hp2 (rb.fr g3 rfl (fun _ => rfl)) tk3 (Or.inr (Or.inl rfl)) (bj_if (b2i_0 _) (fun z => ?_) (fun z => ?_))
      · have z6 := of_decide_eq_true (ts_nf' z)
        rw [if_pos z6] at eR
        refine r_step ok (rb.fr g3 rfl (fun _ => rfl)) hp3 tk3.2.1 (fun h4 f4 tk4 => ?_)
        have g4 := g3.trans (f4.mono tr_or)
        obtain ⟨_, r2, _, _, _, rk4, _⟩ := tok_all hp3
        have e14 : h4.1 63 1 = nI (dN D) := by rw [g4.i 63 1 rfl]; exact sr.1
        unfold po3 at eR
        rw [tk4.2.2.1, e14, show (5 : Int32) * nI (dN D) = nI (5 * dN D) from pk_mul 5 _, show (0 : Int32) = nI 0 from rfl, nI_add, Nat.add_zero, nI_clamp (n := 5 * dN D) (by omega)]
        refine ek_if (nI_eq (b := 2) (by omega) (by decide)) (fun z2 => ?_) (fun z2 => r_bad (k := 1) tk4 (fun h' e => ⟨Or.inl rfl, ?_⟩))
        · have k4 := r2.mp z2
          have vl := tV_lt hp3 k4
          rw [if_pos k4] at eR
          rw [tk4.2.2.2.1 z2, ← tV_n hp3 k4]
          refine ek_if (nI_leI (b := 5) (by omega) (by decide)) (fun z5 => ⟨vp_in_nI (by omega) (by decide), ?_⟩) (fun z5 => r_bad (k := 2) tk4 (fun h' e => ⟨Or.inl rfl, ?_⟩))
          · rw [if_pos (by omega)] at eR
            have f5 : Fr (fun c j => c == 64 && j == 5 * dN D) h4 (sI h4 64 (5 * dN D) (nI (tV T (nx T (nx T (nx T p)))))) := (Fr.refl h4).si (by simp)
            have g5 : Fr (fOr (dN D)) h (sI h4 64 (5 * dN D) (nI (tV T (nx T (nx T (nx T p)))))) := g4.si (by
              unfold fOr
              rw [decide_eq_true (show 5 * dN D ≤ 5 * dN D ∧ 5 * dN D < 5 * dN D + 5 by omega)]; simp)
            refine r_step ok (rb.fr g5 rfl (fun _ => rfl)) hp4 (by rw [f5.i 63 45 rfl]; exact tk4.2.1) (fun h6 f6 tk6 => ?_)
            have g6 := g5.trans (f6.mono tr_or)
            have u0 : h6.1 64 (5 * dN D) = nI (tV T (nx T (nx T (nx T p)))) := by rw [f6.i 64 _ rfl, sI_at]
            unfold po4 at eR
            refine r_reg ok hp4 (rb.fr g6 rfl (fun _ => rfl)) tk6 (fun k3 => ?_) (fun k3 => br_f (by decide) (r_bad (k := 1) tk6 (fun h' e => ⟨Or.inl rfl, ?_⟩)))
            · have l8 := tok_reg hp4 k3
              rw [if_pos k3] at eR
              have e16 : h6.1 63 1 = nI (dN D) := by rw [g6.i 63 1 rfl]; exact sr.1
              refine br_t (nI_le (a := 0) (Nat.zero_le _) (by omega)) (r_reg ok hp4 (rb.fr g6 rfl (fun _ => rfl)) tk6 (fun _ => ?_) (fun n => absurd k3 n))
              rw [e16, show (5 : Int32) * nI (dN D) = nI (5 * dN D) from pk_mul 5 _, nI_1, nI_clamp (n := 5 * dN D + 1) (by omega)]
              refine ⟨vp_in_nI (by omega) (by decide), ?_⟩
              have f7 : Fr (fun c j => c == 64 && j == 5 * dN D + 1) h6 (sI h6 64 (5 * dN D + 1) (nI (tV T (nx T (nx T (nx T (nx T p))))))) := (Fr.refl h6).si (by simp)
              have g7 : Fr (fOr (dN D)) h (sI h6 64 (5 * dN D + 1) (nI (tV T (nx T (nx T (nx T (nx T p))))))) := g6.si (by
                unfold fOr
                rw [decide_eq_true (show 5 * dN D ≤ 5 * dN D + 1 ∧ 5 * dN D + 1 < 5 * dN D + 5 by omega)]; simp)
              refine r_step ok (rb.fr g7 rfl (fun _ => rfl)) hp5 (by rw [f7.i 63 45 rfl]; exact tk6.2.1) (fun h8 f8 tk8 => ?_)
              have g8 := g7.trans (f8.mono tr_or)
              have u1 : h8.1 64 (5 * dN D + 1) = nI (tV T (nx T (nx T (nx T (nx T p))))) := by rw [f8.i 64 _ rfl, sI_at]
              have u0' : h8.1 64 (5 * dN D) = nI (tV T (nx T (nx T (nx T p)))) := by rw [f8.i 64 _ rfl, sI_j (by omega)]; exact u0
              unfold po5 at eR
              refine r_takeS (K := 61) ok (rb.fr g8 rfl (fun _ => rfl)) hp5 tk8 (by decide) (by decide) (fun z61 h9 f9 tk9 => br_f (by decide) ?_) (fun z61 h' e => br_t rfl ?_)
              · rw [if_pos z61] at eR
                have g9 := g8.trans (f9.mono tr_or)
                have e19 : h9.1 63 1 = nI (dN D) := by rw [g9.i 63 1 rfl]; exact sr.1
                unfold po6 at eR
                refine r_opdT (x := 3) ok (rb.fr g9 rfl (fun _ => rfl)) hp6 tk9 n12 (by decide) e19 (fun o6 h10 f10 u3 tk10 => bq_f (by decide) ?_) (fun o6 h' e => bq_t rfl ?_)
                · rw [if_pos o6] at eR
                  have g10 : Fr (fOr (dN D)) h h10 := g9.trans (f10.mono (fun c j e => by
                    unfold fOr at e
                    simp only [Bool.or_eq_false_iff, Bool.and_eq_false_iff, decide_eq_false_iff_not, beq_eq_false_iff_ne] at e ⊢
                    refine ⟨e.1.1, ?_⟩
                    omega))
                  have e110 : h10.1 63 1 = nI (dN D) := by rw [g10.i 63 1 rfl]; exact sr.1
                  have w0 : h10.1 64 (5 * dN D) = nI (tV T (nx T (nx T (nx T p)))) := by
                    rw [f10.i 64 _ (by
                      simp only [Bool.or_eq_false_iff, Bool.and_eq_false_iff, beq_eq_false_iff_ne]
                      exact ⟨rfl, Or.inr (by omega)⟩), f9.i 64 _ rfl]
                    exact u0'
                  have w1 : h10.1 64 (5 * dN D + 1) = nI (tV T (nx T (nx T (nx T (nx T p))))) := by
                    rw [f10.i 64 _ (by
                      simp only [Bool.or_eq_false_iff, Bool.and_eq_false_iff, beq_eq_false_iff_ne]
                      exact ⟨rfl, Or.inr (by omega)⟩), f9.i 64 _ rfl]
                    exact u1
                  have wn : ∀ k, k < 8 → h10.1 65 (8 * dN D + k) = nI (ltr T (tPl T (nx T p)) (nx T (nx T p)) k) := fun k hk => by
                    rw [f10.i 65 _ rfl, f9.i 65 _ rfl, f8.i 65 _ rfl, f7.i 65 _ rfl, f6.i 65 _ rfl, f5.i 65 _ rfl, f4.i 65 _ rfl]
                    exact nm3 k hk
                  -- what is left: the kind, the second operand, the end
                  have fin : ∀ (q k b : Nat) (h11 : Hp), q ≤ T.1 → Fr (fOr (dN D)) h h11 → h11.1 64 (5 * dN D) = nI (tV T (nx T (nx T (nx T p)))) → h11.1 64 (5 * dN D + 1) = nI (tV T (nx T (nx T (nx T (nx T p))))) → h11.1 64 (5 * dN D + 2) = nI k → h11.1 64 (5 * dN D + 3) = nI (opn T (nx T (nx T (nx T (nx T (nx T (nx T p))))))) → (0 < k → h11.1 64 (5 * dN D + 4) = nI b) → (∀ k, k < 8 → h11.1 65 (8 * dN D + k) = nI (ltr T (tPl T (nx T p)) (nx T (nx T p)) k)) → RTk T q h11 → R = po9 T q (addO D (ltr T (tPl T (nx T p)) (nx T (nx T p))) (tV T (nx T (nx T (nx T p)))) (tV T (nx T (nx T (nx T (nx T p))))) k (opn T (nx T (nx T (nx T (nx T (nx T (nx T p))))))) b) → SpI E (d + 7) MX10_takesSign [.ref (eA E 63), .int (59 : Int32)] (sI h11 63 1 (nI (dN D + 1))) (fun v24 h24 => (v24 = 0 ∨ v24 = 1) ∧ P v24 h24) := by
                    intro q k b h11 hq g11 c0 c1 c2 c3 c4 cn tk11 eR9
                    have fz : Fr (fun c j => c == 63 && j == 1) h11 (sI h11 63 1 (nI (dN D + 1))) := (Fr.refl h11).si rfl
                    have gz : Fr fPr h (sI h11 63 1 (nI (dN D + 1))) := (g11.mono or_pr).si rfl
                    unfold po9 at eR9
                    refine r_takeS (K := 59) ok (rb.fr gz rfl (fun _ => rfl)) hq (tk11.fr fz rfl rfl rfl rfl) (by decide) (by decide) (fun z59 h12 f12 tk12 => ⟨Or.inr rfl, ?_⟩) (fun z59 h' e => ⟨Or.inl rfl, ?_⟩)
                    · rw [if_pos z59] at eR9
                      have sr11 := sr.op n12 g11
                      refine t1 _ _ h12 eR9 (gz.trans (f12.mono (fun c j e => ?_))) ?_ tk12
                      · unfold fPr at e
                        unfold fTr
                        simp only [Bool.or_eq_false_iff, Bool.and_eq_false_iff, decide_eq_false_iff_not, beq_eq_false_iff_ne] at e ⊢
                        omega
                      · have q64 : h12.1 64 = h11.1 64 := by rw [f12.f 64 (fun _ => rfl), fz.f 64 (fun _ => rfl)]
                        have q65 : h12.1 65 = h11.1 65 := by rw [f12.f 65 (fun _ => rfl), fz.f 65 (fun _ => rfl)]
                        have q66 : h12.1 66 = h11.1 66 := by rw [f12.f 66 (fun _ => rfl), fz.f 66 (fun _ => rfl)]
                        have q67 : h12.1 67 = h11.1 67 := by rw [f12.f 67 (fun _ => rfl), fz.f 67 (fun _ => rfl)]
                        refine ⟨by rw [f12.i 63 1 rfl, sI_at]; rfl, by rw [f12.i 63 2 rfl, sI_j (by decide)]; exact sr11.2.1, fun m hm => ?_, fun m hm k hk => ?_, fun i hi k hk => ?_, fun i hi => ?_⟩
                        · have hm : m < dN D + 1 := hm
                          rw [q64]
                          by_cases qm : m = dN D
                          · subst qm
                            obtain ⟨x1, x2, x3, x4, x5, x6⟩ := addO_at (D := D) (nm := ltr T (tPl T (nx T p)) (nx T (nx T p))) (u := tV T (nx T (nx T (nx T p)))) (t := tV T (nx T (nx T (nx T (nx T p))))) (k := k) (a := opn T (nx T (nx T (nx T (nx T (nx T (nx T p))))))) (b := b)
                            rw [x1, x2, x3, x4, x5]
                            exact ⟨c0, c1, c2, c3, c4⟩
                          · obtain ⟨x1, x2, x3, x4, x5, x6⟩ := addO_ne (D := D) (nm := ltr T (tPl T (nx T p)) (nx T (nx T p))) (u := tV T (nx T (nx T (nx T p)))) (t := tV T (nx T (nx T (nx T (nx T p))))) (k := k) (a := opn T (nx T (nx T (nx T (nx T (nx T (nx T p))))))) (b := b) qm
                            rw [x1, x2, x3, x4, x5]
                            exact sr11.2.2.1 m (by omega)
                        · have hm : m < dN D + 1 := hm
                          rw [q65]
                          show _ = nI ((if m = dN D then _ else dM D m) k)
                          by_cases qm : m = dN D
                          · rw [if_pos qm, qm]; exact cn k hk
                          · rw [if_neg qm]; exact sr11.2.2.2.1 m (by omega) k hk
                        · rw [q65]
                          show _ = nI ((if 12 + i = dN D then _ else dM D (12 + i)) k)
                          rw [if_neg (by omega)]
                          exact sr11.2.2.2.2.1 i hi k hk
                        · rw [q66, q67]
                          exact sr11.2.2.2.2.2 i hi
                    · rw [if_neg z59] at eR9
                      obtain ⟨x1, x2⟩ := er gz e
                      exact t0 _ h' eR9 x1 x2
                  obtain ⟨_, _, r3, r33, _, rk7, k128⟩ := tok_all hp7
                  have v2 : vp_in (nI (5 * dN D + 2)) 60 := vp_in_nI (by omega) (by decide)
                  rw [tk10.2.2.1, e110, show (5 : Int32) * nI (dN D) = nI (5 * dN D) from pk_mul 5 _, show (2 : Int32) = nI 2 from rfl, nI_add, nI_1, nI_clamp (n := 5 * dN D + 2) (by omega)]
                  have kind0 : sgi (tK T (nx T (nx T (nx T (nx T (nx T (nx T (nx T p)))))))) = 0 → SpI E (d + 7) MX10_takesSign [.ref (eA E 63), .int (59 : Int32)] (sI (sI h10 64 (5 * dN D + 2) (nI 0)) 63 1 (nI (dN D + 1))) (fun v24 h24 => (v24 = 0 ∨ v24 = 1) ∧ P v24 h24) := by
                    intro s0
                    have f11 : Fr (fun c j => c == 64 && j == 5 * dN D + 2) h10 (sI h10 64 (5 * dN D + 2) (nI 0)) := (Fr.refl h10).si (by simp)
                    refine fin (nx T (nx T (nx T (nx T (nx T (nx T (nx T p))))))) 0 0 _ hp7 (g10.si (by
                      unfold fOr
                      rw [decide_eq_true (show 5 * dN D ≤ 5 * dN D + 2 ∧ 5 * dN D + 2 < 5 * dN D + 5 by omega)]; simp)) (by rw [sI_j (by omega)]; exact w0) (by rw [sI_j (by omega)]; exact w1) (sI_at _ _ _ _) (by rw [sI_j (by omega)]; exact u3) (fun z => absurd z (Nat.lt_irrefl 0)) (fun k hk => by rw [sI_n _ _ _ _ (by decide)]; exact wn k hk) (tk10.fr f11 rfl rfl rfl rfl) ?_
                    rw [eR]
                    unfold po7
                    rw [if_pos s0]
                  refine bj_if (nI_eq (b := 3) (by omega) (by decide)) (fun z3 => ⟨v2, br_t (by decide) (kind0 (sgi_z ?_))⟩) (fun z3 => ?_)
                  · rcases Nat.lt_or_ge 32 (tK T (nx T (nx T (nx T (nx T (nx T (nx T (nx T p)))))))) with y | y
                    · exact absurd (r33 y) z3
                    · exact y
                  · have sl := sgi_le (tK T (nx T (nx T (nx T (nx T (nx T (nx T (nx T p))))))))
                    rw [tk10.2.2.2.2 z3, ← r3 z3]
                    refine r_signOf (by omega) ?_
                    rw [e110, show (5 : Int32) * nI (dN D) = nI (5 * dN D) from pk_mul 5 _, nI_add, nI_1, nI_clamp (n := 5 * dN D + 2) (by omega)]
                    refine ⟨v2, ek_if (nI_leI (b := 0) (by omega) (by decide)) (fun y => ?_) (fun y => ?_)⟩
                    · have s0 : sgi (tK T (nx T (nx T (nx T (nx T (nx T (nx T (nx T p)))))))) = 0 := by omega
                      rw [s0]
                      exact kind0 s0
                    · have f11 : Fr (fun c j => c == 64 && j == 5 * dN D + 2) h10 (sI h10 64 (5 * dN D + 2) (nI (sgi (tK T (nx T (nx T (nx T (nx T (nx T (nx T (nx T p)))))))))))  := (Fr.refl h10).si (by simp)
                      have g11 : Fr (fOr (dN D)) h (sI h10 64 (5 * dN D + 2) (nI (sgi (tK T (nx T (nx T (nx T (nx T (nx T (nx T (nx T p))))))))))) := g10.si (by
                        unfold fOr
                        rw [decide_eq_true (show 5 * dN D ≤ 5 * dN D + 2 ∧ 5 * dN D + 2 < 5 * dN D + 5 by omega)]; simp)
                      refine r_step ok (rb.fr g11 rfl (fun _ => rfl)) hp8 (by rw [f11.i 63 45 rfl]; exact tk10.2.1) (fun h12 f12 tk12 => ?_)
                      have g12 := g11.trans (f12.mono tr_or)
                      have e112 : h12.1 63 1 = nI (dN D) := by rw [g12.i 63 1 rfl]; exact sr.1
                      unfold po7 at eR
                      rw [if_neg (by omega)] at eR
                      unfold po8 at eR
                      refine r_opdT (x := 4) ok (rb.fr g12 rfl (fun _ => rfl)) hp8 tk12 n12 (by decide) e112 (fun o8 h13 f13 u4 tk13 => bq_f (by decide) ?_) (fun o8 h' e => bq_t rfl ?_)
                      · rw [if_pos o8] at eR
                        have g13 : Fr (fOr (dN D)) h h13 := g12.trans (f13.mono (fun c j e => by
                          unfold fOr at e
                          simp only [Bool.or_eq_false_iff, Bool.and_eq_false_iff, decide_eq_false_iff_not, beq_eq_false_iff_ne] at e ⊢
                          refine ⟨e.1.1, ?_⟩
                          omega))
                        have e113 : h13.1 63 1 = nI (dN D) := by rw [g13.i 63 1 rfl]; exact sr.1
                        have n4 : ∀ x, x < 4 → h13.1 64 (5 * dN D + x) = (sI h10 64 (5 * dN D + 2) (nI (sgi (tK T (nx T (nx T (nx T (nx T (nx T (nx T (nx T p))))))))))).1 64 (5 * dN D + x) := fun x hx => by
                          rw [f13.i 64 _ (by
                            simp only [Bool.or_eq_false_iff, Bool.and_eq_false_iff, beq_eq_false_iff_ne]
                            exact ⟨rfl, Or.inr (by omega)⟩), f12.i 64 _ rfl]
                        have n40 := n4 0 (by decide)
                        rw [Nat.add_zero] at n40
                        rw [e113, nI_1]
                        refine fin _ _ _ h13 (nx_le T hp8) g13 (by rw [n40, sI_j (by omega)]; exact w0) (by rw [n4 1 (by decide), sI_j (by omega)]; exact w1) (by rw [n4 2 (by decide), sI_at]) (by rw [n4 3 (by decide), sI_j (by omega)]; exact u3) (fun _ => u4) (fun k hk => ?_) tk13 eR
                        rw [f13.i 65 _ rfl, f12.i 65 _ rfl, sI_n _ _ _ _ (by decide)]
                        exact wn k hk
                      · rw [if_neg o8] at eR
                        obtain ⟨x1, x2⟩ := er (g12.mono or_pr) e
                        exact t0 _ h' eR x1 x2
                · rw [if_neg o6] at eR
                  obtain ⟨x1, x2⟩ := er (g9.mono or_pr) e
                  exact t0 _ h' eR x1 x2
              · rw [if_neg z61] at eR
                obtain ⟨x1, x2⟩ := er (g8.mono or_pr) e
                exact t0 _ h' eR x1 x2
            · rw [if_neg k3] at eR
              obtain ⟨x1, x2⟩ := er (g6.mono or_pr) e
              exact t0 _ h' eR x1 x2
          · rw [if_neg (by omega)] at eR
            obtain ⟨x1, x2⟩ := er (g4.mono or_pr) e
            exact t0 _ h' eR x1 x2
        · rw [if_neg (fun k4 => z2 (r2.mpr k4))] at eR
          obtain ⟨x1, x2⟩ := er (g4.mono or_pr) e
          exact t0 _ h' eR x1 x2
      · rw [if_neg (of_decide_eq_false z)] at eR
        refine r_bad (k := 1) tk3 (fun h' e => ⟨Or.inl rfl, ?_⟩)
        obtain ⟨x1, x2⟩ := er (g3.mono or_pr) e
        exact t0 _ h' eR x1 x2
    · rw [if_pos k2, if_pos us] at eR
      obtain ⟨x1, x2⟩ := er (g2.mono or_pr) e
      exact bq_t rfl (t0 _ h' eR x1 x2)
    · rw [if_neg k2] at eR
      obtain ⟨x1, x2⟩ := er (g2.mono or_pr) e
      exact bq_t rfl (t0 _ h' eR x1 x2)
  · unfold po at eR
    rw [if_neg (by omega)] at eR
    obtain ⟨x1, x2⟩ := er (Fr.refl h) e
    exact t0 _ h' eR x1 x2
end PRR
