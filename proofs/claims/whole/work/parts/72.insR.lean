/-! the reference reads an instruction -/
def fRi (i : Nat) (c j : Nat) : Bool := fTr c j || (c == 67 && decide (24 * i ≤ j ∧ j < 24 * i + 24)) || (c == 65 && decide (8 * (12 + i) ≤ j ∧ j < 8 * (12 + i) + 8))
theorem tr_ri {i : Nat} (c j : Nat) (e : fRi i c j = false) : fTr c j = false := by
  unfold fRi at e
  simp only [Bool.or_eq_false_iff] at e
  exact e.1.1
theorem ri_pr {i : Nat} (c j : Nat) (e : fPr c j = false) : fRi i c j = false := by
  unfold fPr at e
  unfold fRi fTr
  simp only [Bool.or_eq_false_iff, Bool.and_eq_false_iff, decide_eq_false_iff_not, beq_eq_false_iff_ne] at e ⊢
  omega
def RMk (D : SD) (mks : Nat → Nat) (h : Hp) : Prop := ∀ i, i < dI D → h.1 68 (1 + i) = nI (mks i)
theorem inr_nJ {i n : Nat} (h : i < 2 ^ 31) : inr (nI i) n = decide (i < n) := by
  unfold inr
  rw [nI_toInt h]
  by_cases q : i < n
  · rw [decide_eq_true q, decide_eq_true (by omega)]
  · rw [decide_eq_false q, decide_eq_false (by omega)]
theorem inr_m1 (n : Nat) : inr (-1 : Int32) n = false := by
  unfold inr
  have : (-1 : Int32).toInt = -1 := by decide
  rw [this]
  exact decide_eq_false (by omega)
section INR
variable {E : En} {d : Nat} {T : Tx} {h : Hp} {P : Int32 → Hp → Prop} {D : SD} {p : Nat} {mks : Nat → Nat}
theorem RSrc.ins {h' : Hp} (w : Wf D) (a : RSrc D h) (f : Fr (fRi (dI D)) h h') : RSrc D h' := by
  have hN := w.1
  refine a.fr2 f rfl rfl (fun m x hm hx => rfl) (fun m k hm hk => ?_) (fun i k hi hk => ?_) (fun i hi => rfl) (fun i k hi hk => ?_)
  · unfold fRi fTr
    simp only [Bool.or_eq_false_iff, Bool.and_eq_false_iff, decide_eq_false_iff_not, beq_eq_false_iff_ne]
    omega
  · unfold fRi fTr
    simp only [Bool.or_eq_false_iff, Bool.and_eq_false_iff, decide_eq_false_iff_not, beq_eq_false_iff_ne]
    omega
  · have := (w.2.2.2.1 i hi).2.1
    unfold fRi fTr
    simp only [Bool.or_eq_false_iff, Bool.and_eq_false_iff, decide_eq_false_iff_not, beq_eq_false_iff_ne]
    omega
theorem r_pin (w : Wf D) (ok : TxOK T) (rb : RBuf T h) (hp : p ≤ T.1) (tk : RTk T p h) (sr : RSrc D h) (rm : RMk D mks h) (t0 : ∀ c h', pin T p D = .inl c → Fr fPr h h' → ErrV c h' → P 0 h') (t1 : ∀ q D' mk h', pin T p D = .inr (q, D', mk) → Fr fPr h h' → RSrc D' h' → RMk D' (mkA mks (dI D) mk) h' → RTk T q h' → P 1 h') : SpI E (d + 8) MX10_takesInstruction [.ref (eA E 63)] h P := by
  have hN := w.1
  have hI := w.2.2.1
  obtain ⟨R, eR⟩ : ∃ R, R = pin T p D := ⟨_, rfl⟩
  rw [← eR] at t0 t1
  have er : ∀ {q k : Nat} {h1 h2 : Hp}, Fr fPr h h1 → ErrR T q k h1 h2 → Fr fPr h h2 ∧ ErrV (pE T q k) h2 := by
    intro q k h1 h2 f e
    refine ⟨f.trans (e.1.mono (fun c j z => ?_)), e.2⟩
    unfold fPr at z
    simp only [Bool.or_eq_false_iff, Bool.and_eq_false_iff, decide_eq_false_iff_not, beq_eq_false_iff_ne] at z ⊢
    omega
  refine wp_X10_takesInstruction E (d + 7) h P (fun ga => ?_)
  rw [sr.2.1]
  unfold pin at eR
  refine bj_if (nI_eq (b := 8) (by omega) (by decide)) (fun n8 => ?_) (fun n8 => r_bad (k := 5) tk (fun h' e => ⟨Or.inl rfl, ?_⟩))
  · have n8 : dI D < 8 := by omega
    rw [if_pos n8] at eR
    have hp1 := nx_le T hp
    have hp2 := nx_le T hp1
    have hp3 := nx_le T hp2
    refine r_step ok rb hp1 tk.2.1 (fun h2 f2 tk2 => ?_)
    have g2 : Fr (fRi (dI D)) h h2 := f2.mono tr_ri
    have sr2 := sr.ins w g2
    rw [sr2.2.1, show (12 : Int32) = nI 12 from rfl, nI_add]
    unfold pi1 at eR
    refine r_new w ok (rb.fr g2 rfl (fun _ => rfl)) hp1 tk2 sr2 (by omega) (fun k2 nu h3 f3 nm3 tk3 => br_f (by decide) ?_) (fun k2 us h' e => br_t rfl ?_) (fun k2 h' e => br_t rfl ?_)
    · rw [if_pos k2, if_neg nu] at eR
      obtain ⟨a1, a2, a3, a4, a5, a6⟩ := tok_nm hp1 k2
      have g3 : Fr (fRi (dI D)) h h3 := g2.trans (f3.mono (fun c j e => by
        unfold fRi at e
        simp only [Bool.or_eq_false_iff] at e ⊢
        exact ⟨e.1.1, e.2⟩))
      unfold pi2 at eR
      refine r_takeS (K := 58) ok (rb.fr g3 rfl (fun _ => rfl)) hp2 tk3 (by decide) (by decide) (fun z h5 f5 tk5 => bq_f (by decide) ?_) (fun z h' e => bq_t rfl ?_)
      · rw [if_pos z] at eR
        have g5 := g3.trans (f5.mono tr_ri)
        have nm5 : ∀ k, k < 8 → h5.1 65 (8 * (12 + dI D) + k) = nI (ltr T (tPl T (nx T p)) (nx T (nx T p)) k) := fun k hk => by rw [f5.i 65 _ rfl]; exact nm3 k hk
        obtain ⟨R1, eR1⟩ : ∃ R1, R1 = sq T D 25 (nx T (nx T (nx T p))) 0 0 0 (fun _ => 0) := ⟨_, rfl⟩
        rw [← eR1] at eR
        have v8 : vp_in (nI (dI D)) 8 := vp_in_nI n8 (by decide)
        have v9 : vp_in (nI (1 + dI D)) 9 := vp_in_nI (by omega) (by decide)
        -- the end of the instruction
        have fin : ∀ (q n mk : Nat) (r : Nat → Nat) (h1 : Hp) (x3 : Int32), q ≤ T.1 → n ≤ 24 → R1 = .inr (q, n, mk, r) → Fr (fRi (dI D)) h h1 → (∀ k, k < n → h1.1 67 (24 * dI D + k) = nI (r k)) → (∀ k, k < 8 → h1.1 65 (8 * (12 + dI D) + k) = nI (ltr T (tPl T (nx T p)) (nx T (nx T p)) k)) → RTk T q h1 → VX10_takesInstruction_56 E (d + 7) ga P (nI (dI D)) (nI n) x3 (nI mk) (0 : Int32) h1 := by
          intro q n mk r h1 x3 hq hn e1 g1 al nm tk1
          rw [e1] at eR
          have eR : R = if tK T q = 59 then .inr (nx T q, addI D (ltr T (tPl T (nx T p)) (nx T (nx T p))) n r, mk) else .inl (pE T q 1) := eR
          have sr1 := sr.ins w g1
          refine sg_X10_takesInstruction_56 E (d + 7) ga _ _ _ _ _ h1 P (br_t rfl ?_)
          rw [show (1 : Int32) + nI (dI D) = nI (1 + dI D) from nI_add 1 _, nI_clamp (n := dI D) (by omega), nI_clamp (n := 1 + dI D) (by omega), sr1.2.1, nI_1]
          refine ⟨v8, v9, ?_⟩
          have fz : Fr (fun c j => c == 66 || c == 68 || (c == 63 && j == 2)) h1 (sI (sI (sI h1 66 (dI D) (nI n)) 68 (1 + dI D) (nI mk)) 63 2 (nI (dI D + 1))) := (((Fr.refl h1).si rfl).si rfl).si rfl
          have gz : Fr fPr h (sI (sI (sI h1 66 (dI D) (nI n)) 68 (1 + dI D) (nI mk)) 63 2 (nI (dI D + 1))) := (((g1.mono ri_pr).si rfl).si (by unfold fPr; rw [decide_eq_true (show 1 ≤ 1 + dI D by omega)]; rfl)).si rfl
          refine r_takeS (K := 59) ok (rb.fr gz rfl (fun _ => rfl)) hq (tk1.fr fz rfl rfl rfl rfl) (by decide) (by decide) (fun z59 h12 f12 tk12 => ⟨Or.inr rfl, ?_⟩) (fun z59 h' e => ⟨Or.inl rfl, ?_⟩)
          · rw [if_pos z59] at eR
            obtain ⟨x1, x2, x3⟩ := addI_at (D := D) (nm := ltr T (tPl T (nx T p)) (nx T (nx T p))) (n := n) (r := r)
            have ne : ∀ i, i ≠ dI D → _ := fun i q => addI_ne (D := D) (nm := ltr T (tPl T (nx T p)) (nx T (nx T p))) (n := n) (r := r) q
            refine t1 _ _ _ h12 eR (gz.trans (f12.mono (fun c j e => ?_))) ?_ ?_ tk12
            · unfold fPr at e
              unfold fTr
              simp only [Bool.or_eq_false_iff, Bool.and_eq_false_iff, decide_eq_false_iff_not, beq_eq_false_iff_ne] at e ⊢
              omega
            · have q64 : h12.1 64 = h1.1 64 := by rw [f12.f 64 (fun _ => rfl), fz.f 64 (fun _ => rfl)]
              have q65 : h12.1 65 = h1.1 65 := by rw [f12.f 65 (fun _ => rfl), fz.f 65 (fun _ => rfl)]
              have q67 : h12.1 67 = h1.1 67 := by rw [f12.f 67 (fun _ => rfl), fz.f 67 (fun _ => rfl)]
              have q66 : ∀ i, h12.1 66 i = if i = dI D then nI n else h1.1 66 i := fun i => by
                rw [f12.f 66 (fun _ => rfl), sI_n _ _ _ _ (by decide), sI_n _ _ _ _ (by decide), sI_s, upd_1]
              refine ⟨by rw [f12.i 63 1 rfl, fz.i 63 1 rfl]; exact sr1.1, by rw [f12.i 63 2 rfl, sI_at]; rfl, fun m hm => ?_, fun m hm k hk => ?_, fun i hi k hk => ?_, fun i hi => ?_⟩
              · rw [q64]; exact sr1.2.2.1 m hm
              · have hm : m < dN D := hm
                have e1 : dM (addI D (ltr T (tPl T (nx T p)) (nx T (nx T p))) n r) m = dM D m := if_neg (by omega)
                rw [q65, e1]; exact sr1.2.2.2.1 m hm k hk
              · have hi : i < dI D + 1 := hi
                rw [q65]
                by_cases q : i = dI D
                · subst q; rw [x1]; exact nm k hk
                · rw [(ne i q).1]; exact sr1.2.2.2.2.1 i (by omega) k hk
              · have hi : i < dI D + 1 := hi
                rw [q66, q67]
                by_cases q : i = dI D
                · subst q
                  rw [if_pos rfl, x2, x3]
                  exact ⟨rfl, al⟩
                · rw [if_neg q, (ne i q).2.1, (ne i q).2.2]
                  exact sr1.2.2.2.2.2 i (by omega)
            · intro i hi
              have hi : i < dI D + 1 := hi
              rw [f12.f 68 (fun _ => rfl), sI_n _ _ _ _ (by decide)]
              by_cases q : i = dI D
              · subst q; rw [mkA_at, sI_at]
              · rw [mkA_ne mks q, sI_j (by omega), sI_n _ _ _ _ (by decide), g1.f 68 (fun _ => rfl)]
                exact rm i (by omega)
          · rw [if_neg z59] at eR
            obtain ⟨x1, x2⟩ := er gz e
            exact t0 _ h' eR x1 x2
        have inl : ∀ c, R1 = .inl c → R = .inl c := fun c e => by rw [eR, e]; rfl
        have loop : ∀ (f q n here mk : Nat) (r : Nat → Nat) (h1 : Hp), f + n = 25 → q ≤ T.1 → n ≤ 24 → here ≤ n → (∀ k, n ≤ k → mk.testBit k = false) → R1 = sq T D f q n here mk r → Fr (fRi (dI D)) h h1 → (∀ k, k < n → h1.1 67 (24 * dI D + k) = nI (r k)) → (∀ k, k < 8 → h1.1 65 (8 * (12 + dI D) + k) = nI (ltr T (tPl T (nx T p)) (nx T (nx T p)) k)) → RTk T q h1 → VX10_takesInstruction_56 E (d + 7) ga P (nI (dI D)) (nI n) (nI here) (nI mk) (1 : Int32) h1 := by
          intro f
          induction f with
          | zero => intro q n here mk r h1 hf _ hn; omega
          | succ f ih =>
            intro q n here mk r h1 hf hq hn hh hmz eS fr al nm tk1
            have eS : R1 = (if tK T q = 2 then (@ite _ (hasO T D q) (Classical.propDecidable _) (if n = 24 ∨ here = 10 then .inl (pE T q 5) else if tK T (nx T q) = 33 then sq T D f (nx T (nx T q)) (n + 1) 0 (mk ||| 2 ^ n) (fun k => if k = n then oix T D q else r k) else if tK T (nx T q) = 44 then sq T D f (nx T (nx T q)) (n + 1) (here + 1) mk (fun k => if k = n then oix T D q else r k) else .inr (nx T q, n + 1, mk, fun k => if k = n then oix T D q else r k)) (.inl (pE T q 4))) else .inl (pE T q 1)) := eS
            have sr1 := sr.ins w fr
            have rb1 := rb.fr fr rfl (fun _ => rfl)
            have n1 := nx_le T hq
            have n2 := nx_le T n1
            have bad : ∀ c (h' : Hp) k, R1 = .inl c → c = pE T q k → ErrR T q k h1 h' → P 0 h' := fun c h' k e ec e2 => by
              obtain ⟨x1, x2⟩ := er (fr.mono ri_pr) e2
              rw [← ec] at x2
              exact t0 c h' (inl c e) x1 x2
            refine sg_X10_takesInstruction_56 E (d + 7) ga _ _ _ _ _ h1 P (br_f (by decide) (r_isName ok hq rb1 tk1 (bj_if (b2i_0 _) (fun z => ?_) (fun z => ?_))))
            · have k2 := of_decide_eq_true (ts_nf' z)
              rw [if_pos k2] at eS
              obtain ⟨b1, b2, b3, b4, b5, b6⟩ := tok_nm hq k2
              refine r_named w ok rb1 sr1 tk1.1 tk1.2.1 (by omega) b2 (fun i vi al8 fst => ?_) (fun no => ?_)
              · rw [sr1.1]
                refine r_isIn (by omega) ?_
                have i20 : i < 20 := by rcases vi with y | y <;> omega
                rw [inr_nJ (by omega)]
                by_cases hi : i < dN D
                · rw [decide_eq_true hi]
                  have ho : hasO T D q := ⟨i, hi, al8⟩
                  have em : oix T D q = i := by
                    obtain ⟨o1, o2⟩ := oix_is ho
                    rcases Nat.lt_or_ge (oix T D q) i with y | y
                    · exact absurd o1.2 (fst _ y (Or.inl o1.1))
                    · rcases Nat.lt_or_ge i (oix T D q) with y2 | y2
                      · exact absurd ⟨hi, al8⟩ (o2 i y2)
                      · omega
                  rw [if_pos ho] at eS
                  refine bq_f (by decide) (ek_if (nI_eq (b := 24) (by omega) (by decide)) (fun y => r_bad (k := 5) tk1 (fun h' e => ⟨Or.inl rfl, ?_⟩)) (fun y => bj_if (nI_eq (b := 10) (by omega) (by decide)) (fun y10 => ?_) (fun y10 => r_bad (k := 5) tk1 (fun h' e => ⟨Or.inl rfl, ?_⟩))))
                  · rw [if_pos (Or.inl y)] at eS
                    exact bad _ h' 5 eS rfl e
                  · rw [if_neg (by omega)] at eS
                    rw [show (24 : Int32) * nI (dI D) = nI (24 * dI D) from pk_mul 24 _, nI_add, nI_1, nI_1, nI_clamp (n := 24 * dI D + n) (by omega)]
                    refine ⟨vp_in_nI (by omega) (by decide), ?_⟩
                    have f6 : Fr (fun c _ => c == 67) h1 (sI h1 67 (24 * dI D + n) (nI i)) := (Fr.refl h1).si rfl
                    have g6 : Fr (fRi (dI D)) h (sI h1 67 (24 * dI D + n) (nI i)) := fr.si (by
                      unfold fRi
                      rw [decide_eq_true (by omega)]; simp)
                    refine r_step ok (rb.fr g6 rfl (fun _ => rfl)) n1 (by rw [f6.i 63 45 rfl]; exact tk1.2.1) (fun h7 f7 tk7 => ?_)
                    have g7 := g6.trans (f7.mono tr_ri)
                    have rb7 := rb.fr g7 rfl (fun _ => rfl)
                    have al7 : ∀ k, k < n + 1 → h7.1 67 (24 * dI D + k) = nI ((fun k => if k = n then oix T D q else r k) k) := fun k hk => by
                      rw [f7.i 67 _ rfl]
                      dsimp only
                      by_cases x : k = n
                      · rw [if_pos x, x, sI_at, em]
                      · rw [if_neg x, sI_j (by omega)]; exact al k (by omega)
                    have nm7 : ∀ k, k < 8 → h7.1 65 (8 * (12 + dI D) + k) = nI (ltr T (tPl T (nx T p)) (nx T (nx T p)) k) := fun k hk => by rw [f7.i 65 _ rfl, f6.i 65 _ rfl]; exact nm k hk
                    have e33 : ((nI (n + 1) : Int32) - (1 : Int32)) = nI n := sub1_s n
                    rw [e33, sh1 n (by omega), nI_or]
                    refine r_isSign (c := 44) ok n1 tk7 (by decide) (by decide) (bj_if (b2i_0 _) (fun z44 => ?_) (fun z44 => ?_))
                    · have z44 := of_decide_eq_true (ts_nf' z44)
                      refine r_isSign (c := 33) ok n1 tk7 (by decide) (by decide) ?_
                      rw [decide_eq_false (by omega)]
                      refine br_t rfl (br_f (by decide) (r_step ok rb7 n2 tk7.2.1 (fun h8 f8 tk8 => ?_)))
                      rw [if_neg (by omega), if_pos z44] at eS
                      exact ih (nx T (nx T q)) (n + 1) (here + 1) mk _ h8 (by omega) n2 (by omega) (by omega) (fun k hk => hmz k (by omega)) eS (g7.trans (f8.mono tr_ri)) (fun k hk => by rw [f8.i 67 _ rfl]; exact al7 k hk) (fun k hk => by rw [f8.i 65 _ rfl]; exact nm7 k hk) tk8
                    · have z44 := of_decide_eq_false z44
                      refine r_isSign (c := 33) ok n1 tk7 (by decide) (by decide) (ek_if (b2i_0 _) (fun z33 => ?_) (fun z33 => ?_))
                      · have z33' := of_decide_eq_false z33
                        refine r_isSign (c := 33) ok n1 tk7 (by decide) (by decide) ?_
                        rw [z33]
                        rw [if_neg z33', if_neg z44] at eS
                        exact br_t rfl (br_t rfl (fin _ _ _ _ h7 _ n1 (by omega) eS g7 al7 nm7 tk7))
                      · have z33' := of_decide_eq_true (ts_nf' z33)
                        refine r_isSign (c := 33) ok n1 tk7 (by decide) (by decide) ?_
                        rw [decide_eq_true z33']
                        rw [if_pos z33'] at eS
                        refine br_f (by decide) (br_f (by decide) (r_step ok rb7 n2 tk7.2.1 (fun h8 f8 tk8 => ?_)))
                        refine ih (nx T (nx T q)) (n + 1) 0 (mk ||| 2 ^ n) _ h8 (by omega) n2 (by omega) (by omega) (fun k hk => ?_) eS (g7.trans (f8.mono tr_ri)) (fun k hk => by rw [f8.i 67 _ rfl]; exact al7 k hk) (fun k hk => by rw [f8.i 65 _ rfl]; exact nm7 k hk) tk8
                        rw [Nat.testBit_or, hmz k (by omega), p2_bit, decide_eq_false (by omega)]; rfl
                  · rw [if_pos (Or.inr y10)] at eS
                    exact bad _ h' 5 eS rfl e
                · rw [decide_eq_false hi]
                  rw [if_neg (fun ho => by
                    obtain ⟨m, hm, a8⟩ := ho
                    rcases vi with y | y
                    · exact hi y
                    · exact fst m (by omega) (Or.inl hm) a8)] at eS
                  exact bq_t rfl (r_bad (k := 4) tk1 (fun h' e => ⟨Or.inl rfl, bad _ h' 4 eS rfl e⟩))
              · rw [sr1.1]
                refine r_isIn (by omega) ?_
                rw [inr_m1]
                rw [if_neg (fun ho => by
                  obtain ⟨m, hm, a8⟩ := ho
                  exact no m (Or.inl hm) a8)] at eS
                exact bq_t rfl (r_bad (k := 4) tk1 (fun h' e => ⟨Or.inl rfl, bad _ h' 4 eS rfl e⟩))
            · rw [if_neg (of_decide_eq_false z)] at eS
              exact r_bad (k := 1) tk1 (fun h' e => ⟨Or.inl rfl, bad _ h' 1 eS rfl e⟩)
        exact loop 25 _ 0 0 0 (fun _ => 0) h5 rfl hp3 (by decide) (Nat.le_refl _) (fun k _ => Nat.zero_testBit k) eR1 g5 (fun k hk => absurd hk (Nat.not_lt_zero k)) nm5 tk5
      · rw [if_neg z] at eR
        obtain ⟨x1, x2⟩ := er (g3.mono ri_pr) e
        exact t0 _ h' eR x1 x2
    · rw [if_pos k2, if_pos us] at eR
      obtain ⟨x1, x2⟩ := er (g2.mono ri_pr) e
      exact t0 _ h' eR x1 x2
    · rw [if_neg k2] at eR
      obtain ⟨x1, x2⟩ := er (g2.mono ri_pr) e
      exact t0 _ h' eR x1 x2
  · rw [if_neg (by omega)] at eR
    obtain ⟨x1, x2⟩ := er (Fr.refl h) e
    exact t0 _ h' eR x1 x2
end INR
